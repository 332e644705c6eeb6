theorem dX5_readBy_62 : decode cX5_readBy 62 = .ok (.invokevirtual 101, 3) := by decide +kernel
theorem dX5_readBy_65 : decode cX5_readBy 65 = .ok (.ifCond .eq 8, 3) := by decide +kernel
theorem dX5_readBy_68 : decode cX5_readBy 68 = .ok (.aload_n 0, 1) := by decide +kernel
theorem dX5_readBy_69 : decode cX5_readBy 69 = .ok (.iconst 5, 1) := by decide +kernel
theorem dX5_readBy_70 : decode cX5_readBy 70 = .ok (.invokevirtual 46, 3) := by decide +kernel
theorem dX5_readBy_73 : decode cX5_readBy 73 = .ok (.aload_n 1, 1) := by decide +kernel
theorem dX5_readBy_74 : decode cX5_readBy 74 = .ok (.aload_n 0, 1) := by decide +kernel
theorem dX5_readBy_75 : decode cX5_readBy 75 = .ok (.invokevirtual 95, 3) := by decide +kernel
theorem dX5_readBy_78 : decode cX5_readBy 78 = .ok (.invokevirtual 105, 3) := by decide +kernel
theorem dX5_readBy_81 : decode cX5_readBy 81 = .ok (.aload_n 0, 1) := by decide +kernel
theorem dX5_readBy_82 : decode cX5_readBy 82 = .ok (.getfield 27, 3) := by decide +kernel
theorem dX5_readBy_85 : decode cX5_readBy 85 = .ok (.bipush 8, 2) := by decide +kernel
theorem dX5_readBy_87 : decode cX5_readBy 87 = .ok (.if_icmp .ne 7, 3) := by decide +kernel
theorem dX5_readBy_90 : decode cX5_readBy 90 = .ok (.iconst 1, 1) := by decide +kernel
theorem dX5_readBy_91 : decode cX5_readBy 91 = .ok (.goto 4, 3) := by decide +kernel
theorem dX5_readBy_94 : decode cX5_readBy 94 = .ok (.iconst 0, 1) := by decide +kernel
theorem dX5_readBy_95 : decode cX5_readBy 95 = .ok (.istore_n 2, 1) := by decide +kernel
theorem dX5_readBy_96 : decode cX5_readBy 96 = .ok (.iinc 3 1, 3) := by decide +kernel
theorem dX5_readBy_99 : decode cX5_readBy 99 = .ok (.goto (-95), 3) := by decide +kernel
theorem dX5_readBy_102 : decode cX5_readBy 102 = .ok (.return_, 1) := by decide +kernel
theorem dX5_readWhat_0 : decode cX5_readWhat 0 = .ok (.aload_n 1, 1) := by decide +kernel
theorem dX5_readWhat_1 : decode cX5_readWhat 1 = .ok (.aload_n 0, 1) := by decide +kernel
theorem dX5_readWhat_2 : decode cX5_readWhat 2 = .ok (.getfield 27, 3) := by decide +kernel
theorem dX5_readWhat_5 : decode cX5_readWhat 5 = .ok (.putfield 109, 3) := by decide +kernel
theorem dX5_readWhat_8 : decode cX5_readWhat 8 = .ok (.aload_n 0, 1) := by decide +kernel
theorem dX5_readWhat_9 : decode cX5_readWhat 9 = .ok (.getfield 27, 3) := by decide +kernel
theorem dX5_readWhat_12 : decode cX5_readWhat 12 = .ok (.tableswitch 231 24 31 #[48, 231, 48, 48, 113, 231, 231, 200], 48) := by decide +kernel
theorem dX5_readWhat_60 : decode cX5_readWhat 60 = .ok (.aload_n 0, 1) := by decide +kernel
theorem dX5_readWhat_61 : decode cX5_readWhat 61 = .ok (.invokevirtual 43, 3) := by decide +kernel
theorem dX5_readWhat_64 : decode cX5_readWhat 64 = .ok (.aload_n 1, 1) := by decide +kernel
theorem dX5_readWhat_65 : decode cX5_readWhat 65 = .ok (.aload_n 0, 1) := by decide +kernel
theorem dX5_readWhat_66 : decode cX5_readWhat 66 = .ok (.iconst 1, 1) := by decide +kernel
theorem dX5_readWhat_67 : decode cX5_readWhat 67 = .ok (.aload_n 1, 1) := by decide +kernel
theorem dX5_readWhat_68 : decode cX5_readWhat 68 = .ok (.getfield 109, 3) := by decide +kernel
theorem dX5_readWhat_71 : decode cX5_readWhat 71 = .ok (.bipush 27, 2) := by decide +kernel
theorem dX5_readWhat_73 : decode cX5_readWhat 73 = .ok (.if_icmp .ne 8, 3) := by decide +kernel
theorem dX5_readWhat_76 : decode cX5_readWhat 76 = .ok (.ldc 112, 2) := by decide +kernel
theorem dX5_readWhat_78 : decode cX5_readWhat 78 = .ok (.goto 6, 3) := by decide +kernel
theorem dX5_readWhat_81 : decode cX5_readWhat 81 = .ok (.sipush 1000, 3) := by decide +kernel
theorem dX5_readWhat_84 : decode cX5_readWhat 84 = .ok (.invokevirtual 74, 3) := by decide +kernel
theorem dX5_readWhat_87 : decode cX5_readWhat 87 = .ok (.putfield 113, 3) := by decide +kernel
theorem dX5_readWhat_90 : decode cX5_readWhat 90 = .ok (.aload_n 1, 1) := by decide +kernel
theorem dX5_readWhat_91 : decode cX5_readWhat 91 = .ok (.getfield 109, 3) := by decide +kernel
theorem dX5_readWhat_94 : decode cX5_readWhat 94 = .ok (.bipush 24, 2) := by decide +kernel
theorem dX5_readWhat_96 : decode cX5_readWhat 96 = .ok (.if_icmp .eq 11, 3) := by decide +kernel
theorem dX5_readWhat_99 : decode cX5_readWhat 99 = .ok (.aload_n 1, 1) := by decide +kernel
theorem dX5_readWhat_100 : decode cX5_readWhat 100 = .ok (.aload_n 0, 1) := by decide +kernel
theorem dX5_readWhat_101 : decode cX5_readWhat 101 = .ok (.invokevirtual 95, 3) := by decide +kernel
theorem dX5_readWhat_104 : decode cX5_readWhat 104 = .ok (.putfield 116, 3) := by decide +kernel
theorem dX5_readWhat_107 : decode cX5_readWhat 107 = .ok (.aload_n 0, 1) := by decide +kernel
theorem dX5_readWhat_108 : decode cX5_readWhat 108 = .ok (.bipush 25, 2) := by decide +kernel
theorem dX5_readWhat_110 : decode cX5_readWhat 110 = .ok (.invokevirtual 70, 3) := by decide +kernel
theorem dX5_readWhat_113 : decode cX5_readWhat 113 = .ok (.aload_n 1, 1) := by decide +kernel
theorem dX5_readWhat_114 : decode cX5_readWhat 114 = .ok (.aload_n 0, 1) := by decide +kernel
theorem dX5_readWhat_115 : decode cX5_readWhat 115 = .ok (.iconst 0, 1) := by decide +kernel
theorem dX5_readWhat_116 : decode cX5_readWhat 116 = .ok (.invokevirtual 119, 3) := by decide +kernel
theorem dX5_readWhat_119 : decode cX5_readWhat 119 = .ok (.invokevirtual 123, 3) := by decide +kernel
theorem dX5_readWhat_122 : decode cX5_readWhat 122 = .ok (.goto 126, 3) := by decide +kernel
theorem dX5_readWhat_125 : decode cX5_readWhat 125 = .ok (.aload_n 0, 1) := by decide +kernel
theorem dX5_readWhat_126 : decode cX5_readWhat 126 = .ok (.invokevirtual 43, 3) := by decide +kernel
theorem dX5_readWhat_129 : decode cX5_readWhat 129 = .ok (.aload_n 1, 1) := by decide +kernel
theorem dX5_readWhat_130 : decode cX5_readWhat 130 = .ok (.aload_n 0, 1) := by decide +kernel
theorem dX5_readWhat_131 : decode cX5_readWhat 131 = .ok (.iconst 0, 1) := by decide +kernel
theorem dX5_readWhat_132 : decode cX5_readWhat 132 = .ok (.invokevirtual 119, 3) := by decide +kernel
theorem dX5_readWhat_135 : decode cX5_readWhat 135 = .ok (.invokevirtual 123, 3) := by decide +kernel
theorem dX5_readWhat_138 : decode cX5_readWhat 138 = .ok (.iconst 1, 1) := by decide +kernel
theorem dX5_readWhat_139 : decode cX5_readWhat 139 = .ok (.istore_n 2, 1) := by decide +kernel
theorem dX5_readWhat_140 : decode cX5_readWhat 140 = .ok (.aload_n 0, 1) := by decide +kernel
theorem dX5_readWhat_141 : decode cX5_readWhat 141 = .ok (.getfield 27, 3) := by decide +kernel
theorem dX5_readWhat_144 : decode cX5_readWhat 144 = .ok (.bipush 29, 2) := by decide +kernel
theorem dX5_readWhat_146 : decode cX5_readWhat 146 = .ok (.if_icmp .ne 27, 3) := by decide +kernel
theorem dX5_readWhat_149 : decode cX5_readWhat 149 = .ok (.iload_n 2, 1) := by decide +kernel
theorem dX5_readWhat_150 : decode cX5_readWhat 150 = .ok (.iconst 5, 1) := by decide +kernel
theorem dX5_readWhat_151 : decode cX5_readWhat 151 = .ok (.if_icmp .ge 22, 3) := by decide +kernel
theorem dX5_readWhat_154 : decode cX5_readWhat 154 = .ok (.aload_n 0, 1) := by decide +kernel
theorem dX5_readWhat_155 : decode cX5_readWhat 155 = .ok (.invokevirtual 43, 3) := by decide +kernel
theorem dX5_readWhat_158 : decode cX5_readWhat 158 = .ok (.aload_n 1, 1) := by decide +kernel
theorem dX5_readWhat_159 : decode cX5_readWhat 159 = .ok (.aload_n 0, 1) := by decide +kernel
theorem dX5_readWhat_160 : decode cX5_readWhat 160 = .ok (.iconst 0, 1) := by decide +kernel
theorem dX5_readWhat_161 : decode cX5_readWhat 161 = .ok (.invokevirtual 119, 3) := by decide +kernel
theorem dX5_readWhat_164 : decode cX5_readWhat 164 = .ok (.invokevirtual 123, 3) := by decide +kernel
theorem dX5_readWhat_167 : decode cX5_readWhat 167 = .ok (.iinc 2 1, 3) := by decide +kernel
theorem dX5_readWhat_170 : decode cX5_readWhat 170 = .ok (.goto (-30), 3) := by decide +kernel
theorem dX5_readWhat_173 : decode cX5_readWhat 173 = .ok (.aload_n 0, 1) := by decide +kernel
theorem dX5_readWhat_174 : decode cX5_readWhat 174 = .ok (.getfield 27, 3) := by decide +kernel
theorem dX5_readWhat_177 : decode cX5_readWhat 177 = .ok (.bipush 29, 2) := by decide +kernel
theorem dX5_readWhat_179 : decode cX5_readWhat 179 = .ok (.if_icmp .ne 8, 3) := by decide +kernel
theorem dX5_readWhat_182 : decode cX5_readWhat 182 = .ok (.aload_n 0, 1) := by decide +kernel
theorem dX5_readWhat_183 : decode cX5_readWhat 183 = .ok (.iconst 4, 1) := by decide +kernel
theorem dX5_readWhat_184 : decode cX5_readWhat 184 = .ok (.invokevirtual 46, 3) := by decide +kernel
theorem dX5_readWhat_187 : decode cX5_readWhat 187 = .ok (.aload_n 0, 1) := by decide +kernel
theorem dX5_readWhat_188 : decode cX5_readWhat 188 = .ok (.getfield 27, 3) := by decide +kernel
theorem dX5_readWhat_191 : decode cX5_readWhat 191 = .ok (.bipush 30, 2) := by decide +kernel
theorem dX5_readWhat_193 : decode cX5_readWhat 193 = .ok (.if_icmp .ne 55, 3) := by decide +kernel
theorem dX5_readWhat_196 : decode cX5_readWhat 196 = .ok (.aload_n 0, 1) := by decide +kernel
theorem dX5_readWhat_197 : decode cX5_readWhat 197 = .ok (.invokevirtual 43, 3) := by decide +kernel
theorem dX5_readWhat_200 : decode cX5_readWhat 200 = .ok (.aload_n 1, 1) := by decide +kernel
theorem dX5_readWhat_201 : decode cX5_readWhat 201 = .ok (.aload_n 0, 1) := by decide +kernel
theorem dX5_readWhat_202 : decode cX5_readWhat 202 = .ok (.iconst 0, 1) := by decide +kernel
theorem dX5_readWhat_203 : decode cX5_readWhat 203 = .ok (.invokevirtual 119, 3) := by decide +kernel
theorem dX5_readWhat_206 : decode cX5_readWhat 206 = .ok (.putfield 127, 3) := by decide +kernel
theorem dX5_readWhat_209 : decode cX5_readWhat 209 = .ok (.goto 39, 3) := by decide +kernel
theorem dX5_readWhat_212 : decode cX5_readWhat 212 = .ok (.aload_n 0, 1) := by decide +kernel
theorem dX5_readWhat_213 : decode cX5_readWhat 213 = .ok (.invokevirtual 43, 3) := by decide +kernel
theorem dX5_readWhat_216 : decode cX5_readWhat 216 = .ok (.aload_n 1, 1) := by decide +kernel
theorem dX5_readWhat_217 : decode cX5_readWhat 217 = .ok (.aload_n 0, 1) := by decide +kernel
theorem dX5_readWhat_218 : decode cX5_readWhat 218 = .ok (.iconst 0, 1) := by decide +kernel
theorem dX5_readWhat_219 : decode cX5_readWhat 219 = .ok (.invokevirtual 119, 3) := by decide +kernel
theorem dX5_readWhat_222 : decode cX5_readWhat 222 = .ok (.invokevirtual 123, 3) := by decide +kernel
theorem dX5_readWhat_225 : decode cX5_readWhat 225 = .ok (.aload_n 0, 1) := by decide +kernel
theorem dX5_readWhat_226 : decode cX5_readWhat 226 = .ok (.bipush 29, 2) := by decide +kernel
theorem dX5_readWhat_228 : decode cX5_readWhat 228 = .ok (.invokevirtual 70, 3) := by decide +kernel
theorem dX5_readWhat_231 : decode cX5_readWhat 231 = .ok (.aload_n 1, 1) := by decide +kernel
theorem dX5_readWhat_232 : decode cX5_readWhat 232 = .ok (.aload_n 0, 1) := by decide +kernel
theorem dX5_readWhat_233 : decode cX5_readWhat 233 = .ok (.iconst 0, 1) := by decide +kernel
theorem dX5_readWhat_234 : decode cX5_readWhat 234 = .ok (.invokevirtual 119, 3) := by decide +kernel
theorem dX5_readWhat_237 : decode cX5_readWhat 237 = .ok (.invokevirtual 123, 3) := by decide +kernel
theorem dX5_readWhat_240 : decode cX5_readWhat 240 = .ok (.goto 8, 3) := by decide +kernel
theorem dX5_readWhat_243 : decode cX5_readWhat 243 = .ok (.aload_n 0, 1) := by decide +kernel
theorem dX5_readWhat_244 : decode cX5_readWhat 244 = .ok (.iconst 2, 1) := by decide +kernel
theorem dX5_readWhat_245 : decode cX5_readWhat 245 = .ok (.invokevirtual 46, 3) := by decide +kernel
theorem dX5_readWhat_248 : decode cX5_readWhat 248 = .ok (.return_, 1) := by decide +kernel
theorem dX5_readCond_0 : decode cX5_readCond 0 = .ok (.new 131, 3) := by decide +kernel
theorem dX5_readCond_3 : decode cX5_readCond 3 = .ok (.dup, 1) := by decide +kernel
theorem dX5_readCond_4 : decode cX5_readCond 4 = .ok (.bipush 32, 2) := by decide +kernel
theorem dX5_readCond_6 : decode cX5_readCond 6 = .ok (.lconst 0, 1) := by decide +kernel
theorem dX5_readCond_7 : decode cX5_readCond 7 = .ok (.iconst 0, 1) := by decide +kernel
theorem dX5_readCond_8 : decode cX5_readCond 8 = .ok (.aconst_null, 1) := by decide +kernel
theorem dX5_readCond_9 : decode cX5_readCond 9 = .ok (.invokespecial 133, 3) := by decide +kernel
theorem dX5_readCond_12 : decode cX5_readCond 12 = .ok (.astore_n 2, 1) := by decide +kernel
theorem dX5_readCond_13 : decode cX5_readCond 13 = .ok (.new 131, 3) := by decide +kernel
theorem dX5_readCond_16 : decode cX5_readCond 16 = .ok (.dup, 1) := by decide +kernel
theorem dX5_readCond_17 : decode cX5_readCond 17 = .ok (.bipush 33, 2) := by decide +kernel
theorem dX5_readCond_19 : decode cX5_readCond 19 = .ok (.lconst 0, 1) := by decide +kernel
theorem dX5_readCond_20 : decode cX5_readCond 20 = .ok (.iconst 0, 1) := by decide +kernel
theorem dX5_readCond_21 : decode cX5_readCond 21 = .ok (.aconst_null, 1) := by decide +kernel
theorem dX5_readCond_22 : decode cX5_readCond 22 = .ok (.invokespecial 133, 3) := by decide +kernel
theorem dX5_readCond_25 : decode cX5_readCond 25 = .ok (.astore_n 3, 1) := by decide +kernel
theorem dX5_readCond_26 : decode cX5_readCond 26 = .ok (.aload_n 2, 1) := by decide +kernel
theorem dX5_readCond_27 : decode cX5_readCond 27 = .ok (.aload_n 3, 1) := by decide +kernel
theorem dX5_readCond_28 : decode cX5_readCond 28 = .ok (.invokevirtual 136, 3) := by decide +kernel
theorem dX5_readCond_31 : decode cX5_readCond 31 = .ok (.aload_n 3, 1) := by decide +kernel
theorem dX5_readCond_32 : decode cX5_readCond 32 = .ok (.aload_n 0, 1) := by decide +kernel
theorem dX5_readCond_33 : decode cX5_readCond 33 = .ok (.iload_n 1, 1) := by decide +kernel
theorem dX5_readCond_34 : decode cX5_readCond 34 = .ok (.invokevirtual 139, 3) := by decide +kernel
theorem dX5_readCond_37 : decode cX5_readCond 37 = .ok (.invokevirtual 136, 3) := by decide +kernel
theorem dX5_readCond_40 : decode cX5_readCond 40 = .ok (.iconst 0, 1) := by decide +kernel
theorem dX5_readCond_41 : decode cX5_readCond 41 = .ok (.istore 4, 2) := by decide +kernel
theorem dX5_readCond_43 : decode cX5_readCond 43 = .ok (.iload 4, 2) := by decide +kernel
theorem dX5_readCond_45 : decode cX5_readCond 45 = .ok (.sipush 2000, 3) := by decide +kernel
theorem dX5_readCond_48 : decode cX5_readCond 48 = .ok (.if_icmp .ge 67, 3) := by decide +kernel
theorem dX5_readCond_51 : decode cX5_readCond 51 = .ok (.aload_n 0, 1) := by decide +kernel
theorem dX5_readCond_52 : decode cX5_readCond 52 = .ok (.getfield 27, 3) := by decide +kernel
theorem dX5_readCond_55 : decode cX5_readCond 55 = .ok (.bipush 32, 2) := by decide +kernel
theorem dX5_readCond_57 : decode cX5_readCond 57 = .ok (.if_icmp .eq 12, 3) := by decide +kernel
theorem dX5_readCond_60 : decode cX5_readCond 60 = .ok (.aload_n 0, 1) := by decide +kernel
theorem dX5_readCond_61 : decode cX5_readCond 61 = .ok (.getfield 27, 3) := by decide +kernel
theorem dX5_readCond_64 : decode cX5_readCond 64 = .ok (.bipush 33, 2) := by decide +kernel
theorem dX5_readCond_66 : decode cX5_readCond 66 = .ok (.if_icmp .ne 49, 3) := by decide +kernel
theorem dX5_readCond_69 : decode cX5_readCond 69 = .ok (.aload_n 0, 1) := by decide +kernel
theorem dX5_readCond_70 : decode cX5_readCond 70 = .ok (.getfield 27, 3) := by decide +kernel
theorem dX5_readCond_73 : decode cX5_readCond 73 = .ok (.bipush 32, 2) := by decide +kernel
theorem dX5_readCond_75 : decode cX5_readCond 75 = .ok (.if_icmp .ne 21, 3) := by decide +kernel
theorem dX5_readCond_78 : decode cX5_readCond 78 = .ok (.new 131, 3) := by decide +kernel
theorem dX5_readCond_81 : decode cX5_readCond 81 = .ok (.dup, 1) := by decide +kernel
theorem dX5_readCond_82 : decode cX5_readCond 82 = .ok (.bipush 33, 2) := by decide +kernel
theorem dX5_readCond_84 : decode cX5_readCond 84 = .ok (.lconst 0, 1) := by decide +kernel
theorem dX5_readCond_85 : decode cX5_readCond 85 = .ok (.iconst 0, 1) := by decide +kernel
theorem dX5_readCond_86 : decode cX5_readCond 86 = .ok (.aconst_null, 1) := by decide +kernel
theorem dX5_readCond_87 : decode cX5_readCond 87 = .ok (.invokespecial 133, 3) := by decide +kernel
theorem dX5_readCond_90 : decode cX5_readCond 90 = .ok (.astore_n 3, 1) := by decide +kernel
theorem dX5_readCond_91 : decode cX5_readCond 91 = .ok (.aload_n 2, 1) := by decide +kernel
theorem dX5_readCond_92 : decode cX5_readCond 92 = .ok (.aload_n 3, 1) := by decide +kernel
theorem dX5_readCond_93 : decode cX5_readCond 93 = .ok (.invokevirtual 136, 3) := by decide +kernel
theorem dX5_readCond_96 : decode cX5_readCond 96 = .ok (.aload_n 0, 1) := by decide +kernel
theorem dX5_readCond_97 : decode cX5_readCond 97 = .ok (.invokevirtual 43, 3) := by decide +kernel
theorem dX5_readCond_100 : decode cX5_readCond 100 = .ok (.aload_n 3, 1) := by decide +kernel
theorem dX5_readCond_101 : decode cX5_readCond 101 = .ok (.aload_n 0, 1) := by decide +kernel
theorem dX5_readCond_102 : decode cX5_readCond 102 = .ok (.iload_n 1, 1) := by decide +kernel
theorem dX5_readCond_103 : decode cX5_readCond 103 = .ok (.invokevirtual 139, 3) := by decide +kernel
theorem dX5_readCond_106 : decode cX5_readCond 106 = .ok (.invokevirtual 136, 3) := by decide +kernel
theorem dX5_readCond_109 : decode cX5_readCond 109 = .ok (.iinc 4 1, 3) := by decide +kernel
theorem dX5_readCond_112 : decode cX5_readCond 112 = .ok (.goto (-69), 3) := by decide +kernel
theorem dX5_readCond_115 : decode cX5_readCond 115 = .ok (.aload_n 2, 1) := by decide +kernel
theorem dX5_readCond_116 : decode cX5_readCond 116 = .ok (.areturn, 1) := by decide +kernel
theorem dX5_readOne_0 : decode cX5_readOne 0 = .ok (.aload_n 0, 1) := by decide +kernel
theorem dX5_readOne_1 : decode cX5_readOne 1 = .ok (.getfield 27, 3) := by decide +kernel
theorem dX5_readOne_4 : decode cX5_readOne 4 = .ok (.lookupswitch 142 #[(2, 137), (6, 60), (34, 60), (35, 132), (36, 132), (37, 132)], 60) := by decide +kernel
theorem dX5_readOne_64 : decode cX5_readOne 64 = .ok (.iload_n 1, 1) := by decide +kernel
theorem dX5_readOne_65 : decode cX5_readOne 65 = .ok (.bipush 12, 2) := by decide +kernel
theorem dX5_readOne_67 : decode cX5_readOne 67 = .ok (.if_icmp .le 10, 3) := by decide +kernel
theorem dX5_readOne_70 : decode cX5_readOne 70 = .ok (.aload_n 0, 1) := by decide +kernel
theorem dX5_readOne_71 : decode cX5_readOne 71 = .ok (.iconst 4, 1) := by decide +kernel
theorem dX5_readOne_72 : decode cX5_readOne 72 = .ok (.invokevirtual 46, 3) := by decide +kernel
theorem dX5_readOne_75 : decode cX5_readOne 75 = .ok (.aconst_null, 1) := by decide +kernel
theorem dX5_readOne_76 : decode cX5_readOne 76 = .ok (.areturn, 1) := by decide +kernel
theorem dX5_readOne_77 : decode cX5_readOne 77 = .ok (.aload_n 0, 1) := by decide +kernel
theorem dX5_readOne_78 : decode cX5_readOne 78 = .ok (.getfield 27, 3) := by decide +kernel
theorem dX5_readOne_81 : decode cX5_readOne 81 = .ok (.bipush 34, 2) := by decide +kernel
theorem dX5_readOne_83 : decode cX5_readOne 83 = .ok (.if_icmp .ne 33, 3) := by decide +kernel
theorem dX5_readOne_86 : decode cX5_readOne 86 = .ok (.aload_n 0, 1) := by decide +kernel
theorem dX5_readOne_87 : decode cX5_readOne 87 = .ok (.invokevirtual 43, 3) := by decide +kernel
theorem dX5_readOne_90 : decode cX5_readOne 90 = .ok (.new 131, 3) := by decide +kernel
theorem dX5_readOne_93 : decode cX5_readOne 93 = .ok (.dup, 1) := by decide +kernel
theorem dX5_readOne_94 : decode cX5_readOne 94 = .ok (.bipush 34, 2) := by decide +kernel
theorem dX5_readOne_96 : decode cX5_readOne 96 = .ok (.lconst 0, 1) := by decide +kernel
theorem dX5_readOne_97 : decode cX5_readOne 97 = .ok (.iconst 0, 1) := by decide +kernel
theorem dX5_readOne_98 : decode cX5_readOne 98 = .ok (.aconst_null, 1) := by decide +kernel
theorem dX5_readOne_99 : decode cX5_readOne 99 = .ok (.invokespecial 133, 3) := by decide +kernel
theorem dX5_readOne_102 : decode cX5_readOne 102 = .ok (.astore_n 2, 1) := by decide +kernel
theorem dX5_readOne_103 : decode cX5_readOne 103 = .ok (.aload_n 2, 1) := by decide +kernel
theorem dX5_readOne_104 : decode cX5_readOne 104 = .ok (.aload_n 0, 1) := by decide +kernel
theorem dX5_readOne_105 : decode cX5_readOne 105 = .ok (.iload_n 1, 1) := by decide +kernel
theorem dX5_readOne_106 : decode cX5_readOne 106 = .ok (.iconst 1, 1) := by decide +kernel
theorem dX5_readOne_107 : decode cX5_readOne 107 = .ok (.iadd, 1) := by decide +kernel
theorem dX5_readOne_108 : decode cX5_readOne 108 = .ok (.invokevirtual 139, 3) := by decide +kernel
theorem dX5_readOne_111 : decode cX5_readOne 111 = .ok (.invokevirtual 136, 3) := by decide +kernel
theorem dX5_readOne_114 : decode cX5_readOne 114 = .ok (.aload_n 2, 1) := by decide +kernel
theorem dX5_readOne_115 : decode cX5_readOne 115 = .ok (.areturn, 1) := by decide +kernel
theorem dX5_readOne_116 : decode cX5_readOne 116 = .ok (.aload_n 0, 1) := by decide +kernel
theorem dX5_readOne_117 : decode cX5_readOne 117 = .ok (.invokevirtual 43, 3) := by decide +kernel
theorem dX5_readOne_120 : decode cX5_readOne 120 = .ok (.aload_n 0, 1) := by decide +kernel
theorem dX5_readOne_121 : decode cX5_readOne 121 = .ok (.iload_n 1, 1) := by decide +kernel
theorem dX5_readOne_122 : decode cX5_readOne 122 = .ok (.iconst 1, 1) := by decide +kernel
theorem dX5_readOne_123 : decode cX5_readOne 123 = .ok (.iadd, 1) := by decide +kernel
theorem dX5_readOne_124 : decode cX5_readOne 124 = .ok (.invokevirtual 119, 3) := by decide +kernel
theorem dX5_readOne_127 : decode cX5_readOne 127 = .ok (.astore_n 2, 1) := by decide +kernel
theorem dX5_readOne_128 : decode cX5_readOne 128 = .ok (.aload_n 0, 1) := by decide +kernel
theorem dX5_readOne_129 : decode cX5_readOne 129 = .ok (.bipush 7, 2) := by decide +kernel
theorem dX5_readOne_131 : decode cX5_readOne 131 = .ok (.invokevirtual 70, 3) := by decide +kernel
theorem dX5_readOne_134 : decode cX5_readOne 134 = .ok (.aload_n 2, 1) := by decide +kernel
theorem dX5_readOne_135 : decode cX5_readOne 135 = .ok (.areturn, 1) := by decide +kernel
theorem dX5_readOne_136 : decode cX5_readOne 136 = .ok (.aload_n 0, 1) := by decide +kernel
theorem dX5_readOne_137 : decode cX5_readOne 137 = .ok (.invokevirtual 142, 3) := by decide +kernel
theorem dX5_readOne_140 : decode cX5_readOne 140 = .ok (.areturn, 1) := by decide +kernel
theorem dX5_readOne_141 : decode cX5_readOne 141 = .ok (.aload_n 0, 1) := by decide +kernel
theorem dX5_readOne_142 : decode cX5_readOne 142 = .ok (.invokevirtual 146, 3) := by decide +kernel
theorem dX5_readOne_145 : decode cX5_readOne 145 = .ok (.areturn, 1) := by decide +kernel
theorem dX5_readOne_146 : decode cX5_readOne 146 = .ok (.aload_n 0, 1) := by decide +kernel
theorem dX5_readOne_147 : decode cX5_readOne 147 = .ok (.iconst 2, 1) := by decide +kernel
theorem dX5_readOne_148 : decode cX5_readOne 148 = .ok (.invokevirtual 46, 3) := by decide +kernel
theorem dX5_readOne_151 : decode cX5_readOne 151 = .ok (.aconst_null, 1) := by decide +kernel
theorem dX5_readOne_152 : decode cX5_readOne 152 = .ok (.areturn, 1) := by decide +kernel
theorem dX5_readWordTest_0 : decode cX5_readWordTest 0 = .ok (.aload_n 0, 1) := by decide +kernel
theorem dX5_readWordTest_1 : decode cX5_readWordTest 1 = .ok (.getfield 27, 3) := by decide +kernel
theorem dX5_readWordTest_4 : decode cX5_readWordTest 4 = .ok (.istore_n 1, 1) := by decide +kernel
theorem dX5_readWordTest_5 : decode cX5_readWordTest 5 = .ok (.aload_n 0, 1) := by decide +kernel
theorem dX5_readWordTest_6 : decode cX5_readWordTest 6 = .ok (.invokevirtual 43, 3) := by decide +kernel
theorem dX5_readWordTest_9 : decode cX5_readWordTest 9 = .ok (.iload_n 1, 1) := by decide +kernel
theorem dX5_readWordTest_10 : decode cX5_readWordTest 10 = .ok (.bipush 35, 2) := by decide +kernel
theorem dX5_readWordTest_12 : decode cX5_readWordTest 12 = .ok (.if_icmp .ne 9, 3) := by decide +kernel
theorem dX5_readWordTest_15 : decode cX5_readWordTest 15 = .ok (.aload_n 0, 1) := by decide +kernel
theorem dX5_readWordTest_16 : decode cX5_readWordTest 16 = .ok (.bipush 11, 2) := by decide +kernel
theorem dX5_readWordTest_18 : decode cX5_readWordTest 18 = .ok (.invokevirtual 70, 3) := by decide +kernel
theorem dX5_readWordTest_21 : decode cX5_readWordTest 21 = .ok (.aload_n 0, 1) := by decide +kernel
theorem dX5_readWordTest_22 : decode cX5_readWordTest 22 = .ok (.getfield 9, 3) := by decide +kernel
theorem dX5_readWordTest_25 : decode cX5_readWordTest 25 = .ok (.getfield 87, 3) := by decide +kernel
theorem dX5_readWordTest_28 : decode cX5_readWordTest 28 = .ok (.aload_n 0, 1) := by decide +kernel
theorem dX5_readWordTest_29 : decode cX5_readWordTest 29 = .ok (.getfield 34, 3) := by decide +kernel
theorem dX5_readWordTest_32 : decode cX5_readWordTest 32 = .ok (.laload, 1) := by decide +kernel
theorem dX5_readWordTest_33 : decode cX5_readWordTest 33 = .ok (.lstore_n 2, 1) := by decide +kernel
theorem dX5_readWordTest_34 : decode cX5_readWordTest 34 = .ok (.iconst (-1), 1) := by decide +kernel
theorem dX5_readWordTest_35 : decode cX5_readWordTest 35 = .ok (.istore 4, 2) := by decide +kernel
theorem dX5_readWordTest_37 : decode cX5_readWordTest 37 = .ok (.iload_n 1, 1) := by decide +kernel
theorem dX5_readWordTest_38 : decode cX5_readWordTest 38 = .ok (.bipush 35, 2) := by decide +kernel
theorem dX5_readWordTest_40 : decode cX5_readWordTest 40 = .ok (.if_icmp .ne 29, 3) := by decide +kernel
theorem dX5_readWordTest_43 : decode cX5_readWordTest 43 = .ok (.aload_n 0, 1) := by decide +kernel
theorem dX5_readWordTest_44 : decode cX5_readWordTest 44 = .ok (.getfield 27, 3) := by decide +kernel
theorem dX5_readWordTest_47 : decode cX5_readWordTest 47 = .ok (.bipush 20, 2) := by decide +kernel
theorem dX5_readWordTest_49 : decode cX5_readWordTest 49 = .ok (.if_icmp .lt 20, 3) := by decide +kernel
theorem dX5_readWordTest_52 : decode cX5_readWordTest 52 = .ok (.aload_n 0, 1) := by decide +kernel
theorem dX5_readWordTest_53 : decode cX5_readWordTest 53 = .ok (.invokevirtual 43, 3) := by decide +kernel
theorem dX5_readWordTest_56 : decode cX5_readWordTest 56 = .ok (.new 131, 3) := by decide +kernel
theorem dX5_readWordTest_59 : decode cX5_readWordTest 59 = .ok (.dup, 1) := by decide +kernel
theorem dX5_readWordTest_60 : decode cX5_readWordTest 60 = .ok (.iload_n 1, 1) := by decide +kernel
theorem dX5_readWordTest_61 : decode cX5_readWordTest 61 = .ok (.lload_n 2, 1) := by decide +kernel
theorem dX5_readWordTest_62 : decode cX5_readWordTest 62 = .ok (.iload 4, 2) := by decide +kernel
theorem dX5_readWordTest_64 : decode cX5_readWordTest 64 = .ok (.aconst_null, 1) := by decide +kernel
theorem dX5_readWordTest_65 : decode cX5_readWordTest 65 = .ok (.invokespecial 133, 3) := by decide +kernel
theorem dX5_readWordTest_68 : decode cX5_readWordTest 68 = .ok (.areturn, 1) := by decide +kernel
theorem dX5_readWordTest_69 : decode cX5_readWordTest 69 = .ok (.iload_n 1, 1) := by decide +kernel
theorem dX5_readWordTest_70 : decode cX5_readWordTest 70 = .ok (.bipush 37, 2) := by decide +kernel
theorem dX5_readWordTest_72 : decode cX5_readWordTest 72 = .ok (.if_icmp .ne 29, 3) := by decide +kernel
theorem dX5_readWordTest_75 : decode cX5_readWordTest 75 = .ok (.aload_n 0, 1) := by decide +kernel
theorem dX5_readWordTest_76 : decode cX5_readWordTest 76 = .ok (.getfield 27, 3) := by decide +kernel
theorem dX5_readWordTest_79 : decode cX5_readWordTest 79 = .ok (.iconst 2, 1) := by decide +kernel
theorem dX5_readWordTest_80 : decode cX5_readWordTest 80 = .ok (.if_icmp .ne 21, 3) := by decide +kernel
theorem dX5_readWordTest_83 : decode cX5_readWordTest 83 = .ok (.aload_n 0, 1) := by decide +kernel
theorem dX5_readWordTest_84 : decode cX5_readWordTest 84 = .ok (.lload_n 2, 1) := by decide +kernel
theorem dX5_readWordTest_85 : decode cX5_readWordTest 85 = .ok (.invokevirtual 91, 3) := by decide +kernel
theorem dX5_readWordTest_88 : decode cX5_readWordTest 88 = .ok (.istore 4, 2) := by decide +kernel
theorem dX5_readWordTest_90 : decode cX5_readWordTest 90 = .ok (.iload 4, 2) := by decide +kernel
theorem dX5_readWordTest_92 : decode cX5_readWordTest 92 = .ok (.iconst (-1), 1) := by decide +kernel
theorem dX5_readWordTest_93 : decode cX5_readWordTest 93 = .ok (.if_icmp .ne 8, 3) := by decide +kernel
theorem dX5_readWordTest_96 : decode cX5_readWordTest 96 = .ok (.aload_n 0, 1) := by decide +kernel
theorem dX5_readWordTest_97 : decode cX5_readWordTest 97 = .ok (.iconst 5, 1) := by decide +kernel
theorem dX5_readWordTest_98 : decode cX5_readWordTest 98 = .ok (.invokevirtual 46, 3) := by decide +kernel
theorem dX5_readWordTest_101 : decode cX5_readWordTest 101 = .ok (.aload_n 0, 1) := by decide +kernel
theorem dX5_readWordTest_102 : decode cX5_readWordTest 102 = .ok (.invokevirtual 95, 3) := by decide +kernel
theorem dX5_readWordTest_105 : decode cX5_readWordTest 105 = .ok (.pop2, 1) := by decide +kernel
theorem dX5_readWordTest_106 : decode cX5_readWordTest 106 = .ok (.new 131, 3) := by decide +kernel
theorem dX5_readWordTest_109 : decode cX5_readWordTest 109 = .ok (.dup, 1) := by decide +kernel
theorem dX5_readWordTest_110 : decode cX5_readWordTest 110 = .ok (.iload_n 1, 1) := by decide +kernel
theorem dX5_readWordTest_111 : decode cX5_readWordTest 111 = .ok (.lload_n 2, 1) := by decide +kernel
theorem dX5_readWordTest_112 : decode cX5_readWordTest 112 = .ok (.iload 4, 2) := by decide +kernel
theorem dX5_readWordTest_114 : decode cX5_readWordTest 114 = .ok (.aconst_null, 1) := by decide +kernel
theorem dX5_readWordTest_115 : decode cX5_readWordTest 115 = .ok (.invokespecial 133, 3) := by decide +kernel
theorem dX5_readWordTest_118 : decode cX5_readWordTest 118 = .ok (.areturn, 1) := by decide +kernel
theorem dX5_readFieldTest_0 : decode cX5_readFieldTest 0 = .ok (.aload_n 0, 1) := by decide +kernel
theorem dX5_readFieldTest_1 : decode cX5_readFieldTest 1 = .ok (.invokevirtual 95, 3) := by decide +kernel
theorem dX5_readFieldTest_4 : decode cX5_readFieldTest 4 = .ok (.lstore_n 1, 1) := by decide +kernel
theorem dX5_readFieldTest_5 : decode cX5_readFieldTest 5 = .ok (.aload_n 0, 1) := by decide +kernel
theorem dX5_readFieldTest_6 : decode cX5_readFieldTest 6 = .ok (.getfield 27, 3) := by decide +kernel
theorem dX5_readFieldTest_9 : decode cX5_readFieldTest 9 = .ok (.istore_n 3, 1) := by decide +kernel
theorem dX5_readFieldTest_10 : decode cX5_readFieldTest 10 = .ok (.iconst 0, 1) := by decide +kernel
theorem dX5_readFieldTest_11 : decode cX5_readFieldTest 11 = .ok (.istore 4, 2) := by decide +kernel
theorem dX5_readFieldTest_13 : decode cX5_readFieldTest 13 = .ok (.aconst_null, 1) := by decide +kernel
theorem dX5_readFieldTest_14 : decode cX5_readFieldTest 14 = .ok (.astore 5, 2) := by decide +kernel
theorem dX5_readFieldTest_16 : decode cX5_readFieldTest 16 = .ok (.iload_n 3, 1) := by decide +kernel
theorem dX5_readFieldTest_17 : decode cX5_readFieldTest 17 = .ok (.tableswitch 205 11 39 #[174, 174, 191, 191, 191, 191, 205, 205, 205, 205, 205, 205, 205, 205, 205, 205, 205, 205, 205, 205, 205, 205, 205, 205, 205, 205, 205, 131, 145], 131) := by decide +kernel
theorem dX5_readFieldTest_148 : decode cX5_readFieldTest 148 = .ok (.aload_n 0, 1) := by decide +kernel
theorem dX5_readFieldTest_149 : decode cX5_readFieldTest 149 = .ok (.invokevirtual 43, 3) := by decide +kernel
theorem dX5_readFieldTest_152 : decode cX5_readFieldTest 152 = .ok (.aload_n 0, 1) := by decide +kernel
theorem dX5_readFieldTest_153 : decode cX5_readFieldTest 153 = .ok (.iconst 4, 1) := by decide +kernel
theorem dX5_readFieldTest_154 : decode cX5_readFieldTest 154 = .ok (.invokevirtual 149, 3) := by decide +kernel
theorem dX5_readFieldTest_157 : decode cX5_readFieldTest 157 = .ok (.astore 5, 2) := by decide +kernel
theorem dX5_readFieldTest_159 : decode cX5_readFieldTest 159 = .ok (.goto 68, 3) := by decide +kernel
theorem dX5_readFieldTest_162 : decode cX5_readFieldTest 162 = .ok (.aload_n 0, 1) := by decide +kernel
theorem dX5_readFieldTest_163 : decode cX5_readFieldTest 163 = .ok (.invokevirtual 43, 3) := by decide +kernel
theorem dX5_readFieldTest_166 : decode cX5_readFieldTest 166 = .ok (.aload_n 0, 1) := by decide +kernel
theorem dX5_readFieldTest_167 : decode cX5_readFieldTest 167 = .ok (.iconst 5, 1) := by decide +kernel
theorem dX5_readFieldTest_168 : decode cX5_readFieldTest 168 = .ok (.invokevirtual 149, 3) := by decide +kernel
theorem dX5_readFieldTest_171 : decode cX5_readFieldTest 171 = .ok (.astore 5, 2) := by decide +kernel
theorem dX5_readFieldTest_173 : decode cX5_readFieldTest 173 = .ok (.aload_n 0, 1) := by decide +kernel
theorem dX5_readFieldTest_174 : decode cX5_readFieldTest 174 = .ok (.bipush 10, 2) := by decide +kernel
theorem dX5_readFieldTest_176 : decode cX5_readFieldTest 176 = .ok (.invokevirtual 70, 3) := by decide +kernel
theorem dX5_readFieldTest_179 : decode cX5_readFieldTest 179 = .ok (.aload_n 0, 1) := by decide +kernel
theorem dX5_readFieldTest_180 : decode cX5_readFieldTest 180 = .ok (.iconst 0, 1) := by decide +kernel
theorem dX5_readFieldTest_181 : decode cX5_readFieldTest 181 = .ok (.bipush 32, 2) := by decide +kernel
theorem dX5_readFieldTest_183 : decode cX5_readFieldTest 183 = .ok (.invokevirtual 74, 3) := by decide +kernel
theorem dX5_readFieldTest_186 : decode cX5_readFieldTest 186 = .ok (.istore 4, 2) := by decide +kernel
theorem dX5_readFieldTest_188 : decode cX5_readFieldTest 188 = .ok (.goto 39, 3) := by decide +kernel
theorem dX5_readFieldTest_191 : decode cX5_readFieldTest 191 = .ok (.aload_n 0, 1) := by decide +kernel
theorem dX5_readFieldTest_192 : decode cX5_readFieldTest 192 = .ok (.invokevirtual 43, 3) := by decide +kernel
theorem dX5_readFieldTest_195 : decode cX5_readFieldTest 195 = .ok (.aload_n 0, 1) := by decide +kernel
theorem dX5_readFieldTest_196 : decode cX5_readFieldTest 196 = .ok (.aload_n 0, 1) := by decide +kernel
theorem dX5_readFieldTest_197 : decode cX5_readFieldTest 197 = .ok (.getfield 27, 3) := by decide +kernel
theorem dX5_readFieldTest_200 : decode cX5_readFieldTest 200 = .ok (.invokevirtual 149, 3) := by decide +kernel
theorem dX5_readFieldTest_203 : decode cX5_readFieldTest 203 = .ok (.astore 5, 2) := by decide +kernel
theorem dX5_readFieldTest_205 : decode cX5_readFieldTest 205 = .ok (.goto 22, 3) := by decide +kernel
theorem dX5_readFieldTest_208 : decode cX5_readFieldTest 208 = .ok (.aload_n 0, 1) := by decide +kernel
theorem dX5_readFieldTest_209 : decode cX5_readFieldTest 209 = .ok (.invokevirtual 43, 3) := by decide +kernel
theorem dX5_readFieldTest_212 : decode cX5_readFieldTest 212 = .ok (.aload_n 0, 1) := by decide +kernel
theorem dX5_readFieldTest_213 : decode cX5_readFieldTest 213 = .ok (.iconst 3, 1) := by decide +kernel
theorem dX5_readFieldTest_214 : decode cX5_readFieldTest 214 = .ok (.invokevirtual 149, 3) := by decide +kernel
theorem dX5_readFieldTest_217 : decode cX5_readFieldTest 217 = .ok (.astore 5, 2) := by decide +kernel
theorem dX5_readFieldTest_219 : decode cX5_readFieldTest 219 = .ok (.goto 8, 3) := by decide +kernel
theorem dX5_readFieldTest_222 : decode cX5_readFieldTest 222 = .ok (.aload_n 0, 1) := by decide +kernel
theorem dX5_readFieldTest_223 : decode cX5_readFieldTest 223 = .ok (.iconst 2, 1) := by decide +kernel
theorem dX5_readFieldTest_224 : decode cX5_readFieldTest 224 = .ok (.invokevirtual 46, 3) := by decide +kernel
theorem dX5_readFieldTest_227 : decode cX5_readFieldTest 227 = .ok (.new 131, 3) := by decide +kernel
theorem dX5_readFieldTest_230 : decode cX5_readFieldTest 230 = .ok (.dup, 1) := by decide +kernel
theorem dX5_readFieldTest_231 : decode cX5_readFieldTest 231 = .ok (.iload_n 3, 1) := by decide +kernel
theorem dX5_readFieldTest_232 : decode cX5_readFieldTest 232 = .ok (.lload_n 1, 1) := by decide +kernel
theorem dX5_readFieldTest_233 : decode cX5_readFieldTest 233 = .ok (.iload 4, 2) := by decide +kernel
theorem dX5_readFieldTest_235 : decode cX5_readFieldTest 235 = .ok (.aload 5, 2) := by decide +kernel
theorem dX5_readFieldTest_237 : decode cX5_readFieldTest 237 = .ok (.invokespecial 133, 3) := by decide +kernel
theorem dX5_readFieldTest_240 : decode cX5_readFieldTest 240 = .ok (.areturn, 1) := by decide +kernel
theorem dX5_readValue_0 : decode cX5_readValue 0 = .ok (.aload_n 0, 1) := by decide +kernel
theorem dX5_readValue_1 : decode cX5_readValue 1 = .ok (.getfield 27, 3) := by decide +kernel
theorem dX5_readValue_4 : decode cX5_readValue 4 = .ok (.iconst 3, 1) := by decide +kernel
theorem dX5_readValue_5 : decode cX5_readValue 5 = .ok (.if_icmp .eq 19, 3) := by decide +kernel
theorem dX5_readValue_8 : decode cX5_readValue 8 = .ok (.aload_n 0, 1) := by decide +kernel
theorem dX5_readValue_9 : decode cX5_readValue 9 = .ok (.getfield 27, 3) := by decide +kernel
theorem dX5_readValue_12 : decode cX5_readValue 12 = .ok (.iconst 4, 1) := by decide +kernel
theorem dX5_readValue_13 : decode cX5_readValue 13 = .ok (.if_icmp .eq 11, 3) := by decide +kernel
theorem dX5_readValue_16 : decode cX5_readValue 16 = .ok (.aload_n 0, 1) := by decide +kernel
theorem dX5_readValue_17 : decode cX5_readValue 17 = .ok (.getfield 27, 3) := by decide +kernel
theorem dX5_readValue_20 : decode cX5_readValue 20 = .ok (.iconst 5, 1) := by decide +kernel
theorem dX5_readValue_21 : decode cX5_readValue 21 = .ok (.if_icmp .ne 7, 3) := by decide +kernel
theorem dX5_readValue_24 : decode cX5_readValue 24 = .ok (.iconst 1, 1) := by decide +kernel
theorem dX5_readValue_25 : decode cX5_readValue 25 = .ok (.goto 4, 3) := by decide +kernel
theorem dX5_readValue_28 : decode cX5_readValue 28 = .ok (.iconst 0, 1) := by decide +kernel
theorem dX5_readValue_29 : decode cX5_readValue 29 = .ok (.istore_n 2, 1) := by decide +kernel
theorem dX5_readValue_30 : decode cX5_readValue 30 = .ok (.aload_n 0, 1) := by decide +kernel
theorem dX5_readValue_31 : decode cX5_readValue 31 = .ok (.getfield 27, 3) := by decide +kernel
theorem dX5_readValue_34 : decode cX5_readValue 34 = .ok (.iload_n 1, 1) := by decide +kernel
theorem dX5_readValue_35 : decode cX5_readValue 35 = .ok (.if_icmp .ne 7, 3) := by decide +kernel
theorem dX5_readValue_38 : decode cX5_readValue 38 = .ok (.iload_n 2, 1) := by decide +kernel
theorem dX5_readValue_39 : decode cX5_readValue 39 = .ok (.ifCond .ne 10, 3) := by decide +kernel
theorem dX5_readValue_42 : decode cX5_readValue 42 = .ok (.aload_n 0, 1) := by decide +kernel
theorem dX5_readValue_43 : decode cX5_readValue 43 = .ok (.iconst 2, 1) := by decide +kernel
theorem dX5_readValue_44 : decode cX5_readValue 44 = .ok (.invokevirtual 46, 3) := by decide +kernel
theorem dX5_readValue_47 : decode cX5_readValue 47 = .ok (.aconst_null, 1) := by decide +kernel
theorem dX5_readValue_48 : decode cX5_readValue 48 = .ok (.areturn, 1) := by decide +kernel
theorem dX5_readValue_49 : decode cX5_readValue 49 = .ok (.aload_n 0, 1) := by decide +kernel
theorem dX5_readValue_50 : decode cX5_readValue 50 = .ok (.getfield 9, 3) := by decide +kernel
theorem dX5_readValue_53 : decode cX5_readValue 53 = .ok (.getfield 87, 3) := by decide +kernel
theorem dX5_readValue_56 : decode cX5_readValue 56 = .ok (.aload_n 0, 1) := by decide +kernel
theorem dX5_readValue_57 : decode cX5_readValue 57 = .ok (.getfield 34, 3) := by decide +kernel
theorem dX5_readValue_60 : decode cX5_readValue 60 = .ok (.laload, 1) := by decide +kernel
theorem dX5_readValue_61 : decode cX5_readValue 61 = .ok (.l2i, 1) := by decide +kernel
theorem dX5_readValue_62 : decode cX5_readValue 62 = .ok (.istore_n 3, 1) := by decide +kernel
theorem dX5_readValue_63 : decode cX5_readValue 63 = .ok (.aload_n 0, 1) := by decide +kernel
theorem dX5_readValue_64 : decode cX5_readValue 64 = .ok (.getfield 9, 3) := by decide +kernel
theorem dX5_readValue_67 : decode cX5_readValue 67 = .ok (.getfield 37, 3) := by decide +kernel
theorem dX5_readValue_70 : decode cX5_readValue 70 = .ok (.aload_n 0, 1) := by decide +kernel
theorem dX5_readValue_71 : decode cX5_readValue 71 = .ok (.getfield 34, 3) := by decide +kernel
theorem dX5_readValue_74 : decode cX5_readValue 74 = .ok (.iaload, 1) := by decide +kernel
theorem dX5_readValue_75 : decode cX5_readValue 75 = .ok (.iconst 1, 1) := by decide +kernel
theorem dX5_readValue_76 : decode cX5_readValue 76 = .ok (.iadd, 1) := by decide +kernel
theorem dX5_readValue_77 : decode cX5_readValue 77 = .ok (.istore 4, 2) := by decide +kernel
theorem dX5_readValue_79 : decode cX5_readValue 79 = .ok (.aload_n 0, 1) := by decide +kernel
theorem dX5_readValue_80 : decode cX5_readValue 80 = .ok (.getfield 27, 3) := by decide +kernel
theorem dX5_readValue_83 : decode cX5_readValue 83 = .ok (.iconst 4, 1) := by decide +kernel
theorem dX5_readValue_84 : decode cX5_readValue 84 = .ok (.if_icmp .ne 11, 3) := by decide +kernel
theorem dX5_readValue_87 : decode cX5_readValue 87 = .ok (.iload_n 3, 1) := by decide +kernel
theorem dX5_readValue_88 : decode cX5_readValue 88 = .ok (.iconst 0, 1) := by decide +kernel
theorem dX5_readValue_89 : decode cX5_readValue 89 = .ok (.invokestatic 153, 3) := by decide +kernel
theorem dX5_readValue_92 : decode cX5_readValue 92 = .ok (.goto 4, 3) := by decide +kernel
theorem dX5_readValue_95 : decode cX5_readValue 95 = .ok (.iconst 0, 1) := by decide +kernel
theorem dX5_readValue_96 : decode cX5_readValue 96 = .ok (.istore 5, 2) := by decide +kernel
theorem dX5_readValue_98 : decode cX5_readValue 98 = .ok (.iload 5, 2) := by decide +kernel
theorem dX5_readValue_100 : decode cX5_readValue 100 = .ok (.ifCond .ne 9, 3) := by decide +kernel
theorem dX5_readValue_103 : decode cX5_readValue 103 = .ok (.getstatic 158, 3) := by decide +kernel
theorem dX5_readValue_106 : decode cX5_readValue 106 = .ok (.goto 7, 3) := by decide +kernel
theorem dX5_readValue_109 : decode cX5_readValue 109 = .ok (.iload 5, 2) := by decide +kernel
theorem dX5_readValue_111 : decode cX5_readValue 111 = .ok (.newarray .int, 2) := by decide +kernel
theorem dX5_readValue_113 : decode cX5_readValue 113 = .ok (.astore 6, 2) := by decide +kernel
theorem dX5_readValue_115 : decode cX5_readValue 115 = .ok (.iconst 0, 1) := by decide +kernel
theorem dX5_readValue_116 : decode cX5_readValue 116 = .ok (.istore 7, 2) := by decide +kernel
theorem dX5_readValue_118 : decode cX5_readValue 118 = .ok (.iload 7, 2) := by decide +kernel
theorem dX5_readValue_120 : decode cX5_readValue 120 = .ok (.iload 5, 2) := by decide +kernel
theorem dX5_readValue_122 : decode cX5_readValue 122 = .ok (.if_icmp .ge 43, 3) := by decide +kernel
theorem dX5_readValue_125 : decode cX5_readValue 125 = .ok (.iload 4, 2) := by decide +kernel
theorem dX5_readValue_127 : decode cX5_readValue 127 = .ok (.iload 7, 2) := by decide +kernel
theorem dX5_readValue_129 : decode cX5_readValue 129 = .ok (.iadd, 1) := by decide +kernel
theorem dX5_readValue_130 : decode cX5_readValue 130 = .ok (.aload_n 0, 1) := by decide +kernel
theorem dX5_readValue_131 : decode cX5_readValue 131 = .ok (.getfield 9, 3) := by decide +kernel
theorem dX5_readValue_134 : decode cX5_readValue 134 = .ok (.getfield 161, 3) := by decide +kernel
theorem dX5_readValue_137 : decode cX5_readValue 137 = .ok (.arraylength, 1) := by decide +kernel
theorem dX5_readValue_138 : decode cX5_readValue 138 = .ok (.if_icmp .ge 27, 3) := by decide +kernel
theorem dX5_readValue_141 : decode cX5_readValue 141 = .ok (.aload 6, 2) := by decide +kernel
theorem dX5_readValue_143 : decode cX5_readValue 143 = .ok (.iload 7, 2) := by decide +kernel
theorem dX5_readValue_145 : decode cX5_readValue 145 = .ok (.aload_n 0, 1) := by decide +kernel
theorem dX5_readValue_146 : decode cX5_readValue 146 = .ok (.getfield 9, 3) := by decide +kernel
theorem dX5_readValue_149 : decode cX5_readValue 149 = .ok (.getfield 161, 3) := by decide +kernel
theorem dX5_readValue_152 : decode cX5_readValue 152 = .ok (.iload 4, 2) := by decide +kernel
theorem dX5_readValue_154 : decode cX5_readValue 154 = .ok (.iload 7, 2) := by decide +kernel
theorem dX5_readValue_156 : decode cX5_readValue 156 = .ok (.iadd, 1) := by decide +kernel
theorem dX5_readValue_157 : decode cX5_readValue 157 = .ok (.iaload, 1) := by decide +kernel
theorem dX5_readValue_158 : decode cX5_readValue 158 = .ok (.iastore, 1) := by decide +kernel
theorem dX5_readValue_159 : decode cX5_readValue 159 = .ok (.iinc 7 1, 3) := by decide +kernel
theorem dX5_readValue_162 : decode cX5_readValue 162 = .ok (.goto (-44), 3) := by decide +kernel
theorem dX5_readValue_165 : decode cX5_readValue 165 = .ok (.aload_n 0, 1) := by decide +kernel
theorem dX5_readValue_166 : decode cX5_readValue 166 = .ok (.getfield 27, 3) := by decide +kernel
theorem dX5_readValue_169 : decode cX5_readValue 169 = .ok (.iconst 4, 1) := by decide +kernel
theorem dX5_readValue_170 : decode cX5_readValue 170 = .ok (.if_icmp .ne 7, 3) := by decide +kernel
theorem dX5_readValue_173 : decode cX5_readValue 173 = .ok (.iconst 1, 1) := by decide +kernel
theorem dX5_readValue_174 : decode cX5_readValue 174 = .ok (.goto 16, 3) := by decide +kernel
theorem dX5_readValue_177 : decode cX5_readValue 177 = .ok (.aload_n 0, 1) := by decide +kernel
theorem dX5_readValue_178 : decode cX5_readValue 178 = .ok (.getfield 27, 3) := by decide +kernel
theorem dX5_readValue_181 : decode cX5_readValue 181 = .ok (.iconst 3, 1) := by decide +kernel
theorem dX5_readValue_182 : decode cX5_readValue 182 = .ok (.if_icmp .ne 7, 3) := by decide +kernel
theorem dX5_readValue_185 : decode cX5_readValue 185 = .ok (.iconst 0, 1) := by decide +kernel
theorem dX5_readValue_186 : decode cX5_readValue 186 = .ok (.goto 4, 3) := by decide +kernel
theorem dX5_readValue_189 : decode cX5_readValue 189 = .ok (.iconst 2, 1) := by decide +kernel
theorem dX5_readValue_190 : decode cX5_readValue 190 = .ok (.istore 7, 2) := by decide +kernel
theorem dX5_readValue_192 : decode cX5_readValue 192 = .ok (.aload_n 0, 1) := by decide +kernel
theorem dX5_readValue_193 : decode cX5_readValue 193 = .ok (.invokevirtual 43, 3) := by decide +kernel
theorem dX5_readValue_196 : decode cX5_readValue 196 = .ok (.new 164, 3) := by decide +kernel
theorem dX5_readValue_199 : decode cX5_readValue 199 = .ok (.dup, 1) := by decide +kernel
theorem dX5_readValue_200 : decode cX5_readValue 200 = .ok (.iload 7, 2) := by decide +kernel
theorem dX5_readValue_202 : decode cX5_readValue 202 = .ok (.iload_n 3, 1) := by decide +kernel
theorem dX5_readValue_203 : decode cX5_readValue 203 = .ok (.aload 6, 2) := by decide +kernel
theorem dX5_readValue_205 : decode cX5_readValue 205 = .ok (.invokespecial 166, 3) := by decide +kernel
theorem dX5_readValue_208 : decode cX5_readValue 208 = .ok (.areturn, 1) := by decide +kernel
theorem dX6_init_0 : decode cX6_init 0 = .ok (.aload_n 0, 1) := by decide +kernel
theorem dX6_init_1 : decode cX6_init 1 = .ok (.invokespecial 3, 3) := by decide +kernel
theorem dX6_init_4 : decode cX6_init 4 = .ok (.aload_n 0, 1) := by decide +kernel
theorem dX6_init_5 : decode cX6_init 5 = .ok (.sipush 301, 3) := by decide +kernel
theorem dX6_init_8 : decode cX6_init 8 = .ok (.newarray .int, 2) := by decide +kernel
theorem dX6_init_10 : decode cX6_init 10 = .ok (.putfield 11, 3) := by decide +kernel
theorem dX6_init_13 : decode cX6_init 13 = .ok (.aload_n 0, 1) := by decide +kernel
theorem dX6_init_14 : decode cX6_init 14 = .ok (.getstatic 15, 3) := by decide +kernel
theorem dX6_init_17 : decode cX6_init 17 = .ok (.putfield 18, 3) := by decide +kernel
theorem dX6_init_20 : decode cX6_init 20 = .ok (.aload_n 0, 1) := by decide +kernel
theorem dX6_init_21 : decode cX6_init 21 = .ok (.iconst (-1), 1) := by decide +kernel
theorem dX6_init_22 : decode cX6_init 22 = .ok (.putfield 21, 3) := by decide +kernel
theorem dX6_init_25 : decode cX6_init 25 = .ok (.return_, 1) := by decide +kernel
theorem dX6_open_0 : decode cX6_open 0 = .ok (.aload_n 0, 1) := by decide +kernel
theorem dX6_open_1 : decode cX6_open 1 = .ok (.aload_n 1, 1) := by decide +kernel
theorem dX6_open_2 : decode cX6_open 2 = .ok (.putfield 18, 3) := by decide +kernel
theorem dX6_open_5 : decode cX6_open 5 = .ok (.aload_n 0, 1) := by decide +kernel
theorem dX6_open_6 : decode cX6_open 6 = .ok (.iload_n 2, 1) := by decide +kernel
theorem dX6_open_7 : decode cX6_open 7 = .ok (.aload_n 1, 1) := by decide +kernel
theorem dX6_open_8 : decode cX6_open 8 = .ok (.arraylength, 1) := by decide +kernel
theorem dX6_open_9 : decode cX6_open 9 = .ok (.invokestatic 25, 3) := by decide +kernel
theorem dX6_open_12 : decode cX6_open 12 = .ok (.putfield 31, 3) := by decide +kernel
theorem dX6_open_15 : decode cX6_open 15 = .ok (.aload_n 0, 1) := by decide +kernel
theorem dX6_open_16 : decode cX6_open 16 = .ok (.iconst 0, 1) := by decide +kernel
theorem dX6_open_17 : decode cX6_open 17 = .ok (.putfield 34, 3) := by decide +kernel
theorem dX6_open_20 : decode cX6_open 20 = .ok (.aload_n 0, 1) := by decide +kernel
theorem dX6_open_21 : decode cX6_open 21 = .ok (.iconst 0, 1) := by decide +kernel
theorem dX6_open_22 : decode cX6_open 22 = .ok (.putfield 37, 3) := by decide +kernel
theorem dX6_open_25 : decode cX6_open 25 = .ok (.aload_n 0, 1) := by decide +kernel
theorem dX6_open_26 : decode cX6_open 26 = .ok (.iconst (-1), 1) := by decide +kernel
theorem dX6_open_27 : decode cX6_open 27 = .ok (.putfield 21, 3) := by decide +kernel
theorem dX6_open_30 : decode cX6_open 30 = .ok (.return_, 1) := by decide +kernel
theorem dX6_more_0 : decode cX6_more 0 = .ok (.aload_n 0, 1) := by decide +kernel
theorem dX6_more_1 : decode cX6_more 1 = .ok (.getfield 37, 3) := by decide +kernel
theorem dX6_more_4 : decode cX6_more 4 = .ok (.ifCond .ne 18, 3) := by decide +kernel
theorem dX6_more_7 : decode cX6_more 7 = .ok (.aload_n 0, 1) := by decide +kernel
theorem dX6_more_8 : decode cX6_more 8 = .ok (.getfield 34, 3) := by decide +kernel
theorem dX6_more_11 : decode cX6_more 11 = .ok (.aload_n 0, 1) := by decide +kernel
theorem dX6_more_12 : decode cX6_more 12 = .ok (.getfield 31, 3) := by decide +kernel
theorem dX6_more_15 : decode cX6_more 15 = .ok (.if_icmp .ge 7, 3) := by decide +kernel
theorem dX6_more_18 : decode cX6_more 18 = .ok (.iconst 1, 1) := by decide +kernel
theorem dX6_more_19 : decode cX6_more 19 = .ok (.goto 4, 3) := by decide +kernel
theorem dX6_more_22 : decode cX6_more 22 = .ok (.iconst 0, 1) := by decide +kernel
theorem dX6_more_23 : decode cX6_more 23 = .ok (.ireturn, 1) := by decide +kernel
theorem dX6_fail_0 : decode cX6_fail 0 = .ok (.aload_n 0, 1) := by decide +kernel
theorem dX6_fail_1 : decode cX6_fail 1 = .ok (.getfield 37, 3) := by decide +kernel
theorem dX6_fail_4 : decode cX6_fail 4 = .ok (.ifCond .ne 13, 3) := by decide +kernel
theorem dX6_fail_7 : decode cX6_fail 7 = .ok (.aload_n 0, 1) := by decide +kernel
theorem dX6_fail_8 : decode cX6_fail 8 = .ok (.iload_n 1, 1) := by decide +kernel
theorem dX6_fail_9 : decode cX6_fail 9 = .ok (.putfield 37, 3) := by decide +kernel
theorem dX6_fail_12 : decode cX6_fail 12 = .ok (.aload_n 0, 1) := by decide +kernel
theorem dX6_fail_13 : decode cX6_fail 13 = .ok (.iload_n 2, 1) := by decide +kernel
theorem dX6_fail_14 : decode cX6_fail 14 = .ok (.putfield 21, 3) := by decide +kernel
theorem dX6_fail_17 : decode cX6_fail 17 = .ok (.return_, 1) := by decide +kernel
theorem dX6_nextByte_0 : decode cX6_nextByte 0 = .ok (.aload_n 0, 1) := by decide +kernel
theorem dX6_nextByte_1 : decode cX6_nextByte 1 = .ok (.getfield 37, 3) := by decide +kernel
theorem dX6_nextByte_4 : decode cX6_nextByte 4 = .ok (.ifCond .ne 23, 3) := by decide +kernel
theorem dX6_nextByte_7 : decode cX6_nextByte 7 = .ok (.aload_n 0, 1) := by decide +kernel
theorem dX6_nextByte_8 : decode cX6_nextByte 8 = .ok (.getfield 34, 3) := by decide +kernel
theorem dX6_nextByte_11 : decode cX6_nextByte 11 = .ok (.aload_n 0, 1) := by decide +kernel
theorem dX6_nextByte_12 : decode cX6_nextByte 12 = .ok (.getfield 31, 3) := by decide +kernel
theorem dX6_nextByte_15 : decode cX6_nextByte 15 = .ok (.if_icmp .lt 12, 3) := by decide +kernel
theorem dX6_nextByte_18 : decode cX6_nextByte 18 = .ok (.aload_n 0, 1) := by decide +kernel
theorem dX6_nextByte_19 : decode cX6_nextByte 19 = .ok (.iconst 1, 1) := by decide +kernel
theorem dX6_nextByte_20 : decode cX6_nextByte 20 = .ok (.aload_n 0, 1) := by decide +kernel
theorem dX6_nextByte_21 : decode cX6_nextByte 21 = .ok (.getfield 31, 3) := by decide +kernel
theorem dX6_nextByte_24 : decode cX6_nextByte 24 = .ok (.invokevirtual 40, 3) := by decide +kernel
theorem dX6_nextByte_27 : decode cX6_nextByte 27 = .ok (.aload_n 0, 1) := by decide +kernel
theorem dX6_nextByte_28 : decode cX6_nextByte 28 = .ok (.getfield 37, 3) := by decide +kernel
theorem dX6_nextByte_31 : decode cX6_nextByte 31 = .ok (.ifCond .ne 22, 3) := by decide +kernel
theorem dX6_nextByte_34 : decode cX6_nextByte 34 = .ok (.aload_n 0, 1) := by decide +kernel
theorem dX6_nextByte_35 : decode cX6_nextByte 35 = .ok (.getfield 34, 3) := by decide +kernel
theorem dX6_nextByte_38 : decode cX6_nextByte 38 = .ok (.ifCond .lt 15, 3) := by decide +kernel
theorem dX6_nextByte_41 : decode cX6_nextByte 41 = .ok (.aload_n 0, 1) := by decide +kernel
theorem dX6_nextByte_42 : decode cX6_nextByte 42 = .ok (.getfield 34, 3) := by decide +kernel
theorem dX6_nextByte_45 : decode cX6_nextByte 45 = .ok (.aload_n 0, 1) := by decide +kernel
theorem dX6_nextByte_46 : decode cX6_nextByte 46 = .ok (.getfield 18, 3) := by decide +kernel
theorem dX6_nextByte_49 : decode cX6_nextByte 49 = .ok (.arraylength, 1) := by decide +kernel
theorem dX6_nextByte_50 : decode cX6_nextByte 50 = .ok (.if_icmp .lt 5, 3) := by decide +kernel
theorem dX6_nextByte_53 : decode cX6_nextByte 53 = .ok (.iload_n 1, 1) := by decide +kernel
theorem dX6_nextByte_54 : decode cX6_nextByte 54 = .ok (.ireturn, 1) := by decide +kernel
theorem dX6_nextByte_55 : decode cX6_nextByte 55 = .ok (.aload_n 0, 1) := by decide +kernel
theorem dX6_nextByte_56 : decode cX6_nextByte 56 = .ok (.getfield 18, 3) := by decide +kernel
theorem dX6_nextByte_59 : decode cX6_nextByte 59 = .ok (.aload_n 0, 1) := by decide +kernel
theorem dX6_nextByte_60 : decode cX6_nextByte 60 = .ok (.getfield 34, 3) := by decide +kernel
theorem dX6_nextByte_63 : decode cX6_nextByte 63 = .ok (.iaload, 1) := by decide +kernel
theorem dX6_nextByte_64 : decode cX6_nextByte 64 = .ok (.istore_n 3, 1) := by decide +kernel
theorem dX6_nextByte_65 : decode cX6_nextByte 65 = .ok (.iload_n 3, 1) := by decide +kernel
theorem dX6_nextByte_66 : decode cX6_nextByte 66 = .ok (.iload_n 1, 1) := by decide +kernel
theorem dX6_nextByte_67 : decode cX6_nextByte 67 = .ok (.if_icmp .lt 8, 3) := by decide +kernel
theorem dX6_nextByte_70 : decode cX6_nextByte 70 = .ok (.iload_n 3, 1) := by decide +kernel
theorem dX6_nextByte_71 : decode cX6_nextByte 71 = .ok (.iload_n 2, 1) := by decide +kernel
theorem dX6_nextByte_72 : decode cX6_nextByte 72 = .ok (.if_icmp .le 14, 3) := by decide +kernel
theorem dX6_nextByte_75 : decode cX6_nextByte 75 = .ok (.aload_n 0, 1) := by decide +kernel
theorem dX6_nextByte_76 : decode cX6_nextByte 76 = .ok (.iconst 2, 1) := by decide +kernel
theorem dX6_nextByte_77 : decode cX6_nextByte 77 = .ok (.aload_n 0, 1) := by decide +kernel
theorem dX6_nextByte_78 : decode cX6_nextByte 78 = .ok (.getfield 34, 3) := by decide +kernel
theorem dX6_nextByte_81 : decode cX6_nextByte 81 = .ok (.invokevirtual 40, 3) := by decide +kernel
theorem dX6_nextByte_84 : decode cX6_nextByte 84 = .ok (.iload_n 1, 1) := by decide +kernel
theorem dX6_nextByte_85 : decode cX6_nextByte 85 = .ok (.ireturn, 1) := by decide +kernel
theorem dX6_nextByte_86 : decode cX6_nextByte 86 = .ok (.aload_n 0, 1) := by decide +kernel
theorem dX6_nextByte_87 : decode cX6_nextByte 87 = .ok (.dup, 1) := by decide +kernel
theorem dX6_nextByte_88 : decode cX6_nextByte 88 = .ok (.getfield 34, 3) := by decide +kernel
theorem dX6_nextByte_91 : decode cX6_nextByte 91 = .ok (.iconst 1, 1) := by decide +kernel
theorem dX6_nextByte_92 : decode cX6_nextByte 92 = .ok (.iadd, 1) := by decide +kernel
theorem dX6_nextByte_93 : decode cX6_nextByte 93 = .ok (.putfield 34, 3) := by decide +kernel
theorem dX6_nextByte_96 : decode cX6_nextByte 96 = .ok (.iload_n 3, 1) := by decide +kernel
theorem dX6_nextByte_97 : decode cX6_nextByte 97 = .ok (.ireturn, 1) := by decide +kernel
theorem dX6_readRecord_0 : decode cX6_readRecord 0 = .ok (.aload_n 0, 1) := by decide +kernel
theorem dX6_readRecord_1 : decode cX6_readRecord 1 = .ok (.getfield 34, 3) := by decide +kernel
theorem dX6_readRecord_4 : decode cX6_readRecord 4 = .ok (.istore_n 3, 1) := by decide +kernel
theorem dX6_readRecord_5 : decode cX6_readRecord 5 = .ok (.aload_n 0, 1) := by decide +kernel
theorem dX6_readRecord_6 : decode cX6_readRecord 6 = .ok (.sipush 229, 3) := by decide +kernel
theorem dX6_readRecord_9 : decode cX6_readRecord 9 = .ok (.sipush 229, 3) := by decide +kernel
theorem dX6_readRecord_12 : decode cX6_readRecord 12 = .ok (.invokevirtual 44, 3) := by decide +kernel
theorem dX6_readRecord_15 : decode cX6_readRecord 15 = .ok (.pop, 1) := by decide +kernel
theorem dX6_readRecord_16 : decode cX6_readRecord 16 = .ok (.aload_n 0, 1) := by decide +kernel
theorem dX6_readRecord_17 : decode cX6_readRecord 17 = .ok (.getfield 34, 3) := by decide +kernel
theorem dX6_readRecord_20 : decode cX6_readRecord 20 = .ok (.istore 4, 2) := by decide +kernel
theorem dX6_readRecord_22 : decode cX6_readRecord 22 = .ok (.iload_n 1, 1) := by decide +kernel
theorem dX6_readRecord_23 : decode cX6_readRecord 23 = .ok (.i2l, 1) := by decide +kernel
theorem dX6_readRecord_24 : decode cX6_readRecord 24 = .ok (.aload_n 0, 1) := by decide +kernel
theorem dX6_readRecord_25 : decode cX6_readRecord 25 = .ok (.invokevirtual 47, 3) := by decide +kernel
theorem dX6_readRecord_28 : decode cX6_readRecord 28 = .ok (.ladd, 1) := by decide +kernel
theorem dX6_readRecord_29 : decode cX6_readRecord 29 = .ok (.lstore 5, 2) := by decide +kernel
theorem dX6_readRecord_31 : decode cX6_readRecord 31 = .ok (.lload 5, 2) := by decide +kernel
theorem dX6_readRecord_33 : decode cX6_readRecord 33 = .ok (.ldc2_w 51, 3) := by decide +kernel
theorem dX6_readRecord_36 : decode cX6_readRecord 36 = .ok (.lcmp, 1) := by decide +kernel
theorem dX6_readRecord_37 : decode cX6_readRecord 37 = .ok (.ifCond .gt 11, 3) := by decide +kernel
theorem dX6_readRecord_40 : decode cX6_readRecord 40 = .ok (.lload 5, 2) := by decide +kernel
theorem dX6_readRecord_42 : decode cX6_readRecord 42 = .ok (.iload_n 2, 1) := by decide +kernel
theorem dX6_readRecord_43 : decode cX6_readRecord 43 = .ok (.i2l, 1) := by decide +kernel
theorem dX6_readRecord_44 : decode cX6_readRecord 44 = .ok (.lcmp, 1) := by decide +kernel
theorem dX6_readRecord_45 : decode cX6_readRecord 45 = .ok (.ifCond .ge 10, 3) := by decide +kernel
theorem dX6_readRecord_48 : decode cX6_readRecord 48 = .ok (.aload_n 0, 1) := by decide +kernel
theorem dX6_readRecord_49 : decode cX6_readRecord 49 = .ok (.iconst 3, 1) := by decide +kernel
theorem dX6_readRecord_50 : decode cX6_readRecord 50 = .ok (.iload 4, 2) := by decide +kernel
theorem dX6_readRecord_52 : decode cX6_readRecord 52 = .ok (.invokevirtual 40, 3) := by decide +kernel
theorem dX6_readRecord_55 : decode cX6_readRecord 55 = .ok (.aload_n 0, 1) := by decide +kernel
theorem dX6_readRecord_56 : decode cX6_readRecord 56 = .ok (.bipush 12, 2) := by decide +kernel
theorem dX6_readRecord_58 : decode cX6_readRecord 58 = .ok (.invokevirtual 53, 3) := by decide +kernel
theorem dX6_readRecord_61 : decode cX6_readRecord 61 = .ok (.lstore 7, 2) := by decide +kernel
theorem dX6_readRecord_63 : decode cX6_readRecord 63 = .ok (.aload_n 0, 1) := by decide +kernel
theorem dX6_readRecord_64 : decode cX6_readRecord 64 = .ok (.iconst 0, 1) := by decide +kernel
theorem dX6_readRecord_65 : decode cX6_readRecord 65 = .ok (.bipush 8, 2) := by decide +kernel
theorem dX6_readRecord_67 : decode cX6_readRecord 67 = .ok (.invokevirtual 44, 3) := by decide +kernel
theorem dX6_readRecord_70 : decode cX6_readRecord 70 = .ok (.istore 9, 2) := by decide +kernel
theorem dX6_readRecord_72 : decode cX6_readRecord 72 = .ok (.iload 9, 2) := by decide +kernel
theorem dX6_readRecord_74 : decode cX6_readRecord 74 = .ok (.newarray .long, 2) := by decide +kernel
theorem dX6_readRecord_76 : decode cX6_readRecord 76 = .ok (.astore 10, 2) := by decide +kernel
theorem dX6_readRecord_78 : decode cX6_readRecord 78 = .ok (.iload 9, 2) := by decide +kernel
theorem dX6_readRecord_80 : decode cX6_readRecord 80 = .ok (.anewarray 57, 3) := by decide +kernel
theorem dX6_readRecord_83 : decode cX6_readRecord 83 = .ok (.astore 11, 2) := by decide +kernel
theorem dX6_readRecord_85 : decode cX6_readRecord 85 = .ok (.lconst 0, 1) := by decide +kernel
theorem dX6_readRecord_86 : decode cX6_readRecord 86 = .ok (.lstore 12, 2) := by decide +kernel
theorem dX6_readRecord_88 : decode cX6_readRecord 88 = .ok (.iconst 0, 1) := by decide +kernel
theorem dX6_readRecord_89 : decode cX6_readRecord 89 = .ok (.istore 14, 2) := by decide +kernel
theorem dX6_readRecord_91 : decode cX6_readRecord 91 = .ok (.iload 14, 2) := by decide +kernel
theorem dX6_readRecord_93 : decode cX6_readRecord 93 = .ok (.iload 9, 2) := by decide +kernel
theorem dX6_readRecord_95 : decode cX6_readRecord 95 = .ok (.if_icmp .ge 73, 3) := by decide +kernel
theorem dX6_readRecord_98 : decode cX6_readRecord 98 = .ok (.aload_n 0, 1) := by decide +kernel
theorem dX6_readRecord_99 : decode cX6_readRecord 99 = .ok (.getfield 37, 3) := by decide +kernel
theorem dX6_readRecord_102 : decode cX6_readRecord 102 = .ok (.ifCond .ne 66, 3) := by decide +kernel
theorem dX6_readRecord_105 : decode cX6_readRecord 105 = .ok (.aload_n 0, 1) := by decide +kernel
theorem dX6_readRecord_106 : decode cX6_readRecord 106 = .ok (.getfield 34, 3) := by decide +kernel
theorem dX6_readRecord_109 : decode cX6_readRecord 109 = .ok (.istore 15, 2) := by decide +kernel
theorem dX6_readRecord_111 : decode cX6_readRecord 111 = .ok (.aload 10, 2) := by decide +kernel
theorem dX6_readRecord_113 : decode cX6_readRecord 113 = .ok (.iload 14, 2) := by decide +kernel
theorem dX6_readRecord_115 : decode cX6_readRecord 115 = .ok (.aload_n 0, 1) := by decide +kernel
theorem dX6_readRecord_116 : decode cX6_readRecord 116 = .ok (.bipush 8, 2) := by decide +kernel
theorem dX6_readRecord_118 : decode cX6_readRecord 118 = .ok (.invokevirtual 53, 3) := by decide +kernel
theorem dX6_readRecord_121 : decode cX6_readRecord 121 = .ok (.lastore, 1) := by decide +kernel
theorem dX6_readRecord_122 : decode cX6_readRecord 122 = .ok (.aload 10, 2) := by decide +kernel
theorem dX6_readRecord_124 : decode cX6_readRecord 124 = .ok (.iload 14, 2) := by decide +kernel
theorem dX6_readRecord_126 : decode cX6_readRecord 126 = .ok (.laload, 1) := by decide +kernel
theorem dX6_readRecord_127 : decode cX6_readRecord 127 = .ok (.lload 12, 2) := by decide +kernel
theorem dX6_readRecord_129 : decode cX6_readRecord 129 = .ok (.lcmp, 1) := by decide +kernel
theorem dX6_readRecord_130 : decode cX6_readRecord 130 = .ok (.ifCond .gt 10, 3) := by decide +kernel
theorem dX6_readRecord_133 : decode cX6_readRecord 133 = .ok (.aload_n 0, 1) := by decide +kernel
theorem dX6_readRecord_134 : decode cX6_readRecord 134 = .ok (.iconst 2, 1) := by decide +kernel
theorem dX6_readRecord_135 : decode cX6_readRecord 135 = .ok (.iload 15, 2) := by decide +kernel
theorem dX6_readRecord_137 : decode cX6_readRecord 137 = .ok (.invokevirtual 40, 3) := by decide +kernel
theorem dX6_readRecord_140 : decode cX6_readRecord 140 = .ok (.aload 10, 2) := by decide +kernel
theorem dX6_readRecord_142 : decode cX6_readRecord 142 = .ok (.iload 14, 2) := by decide +kernel
theorem dX6_readRecord_144 : decode cX6_readRecord 144 = .ok (.laload, 1) := by decide +kernel
theorem dX6_readRecord_145 : decode cX6_readRecord 145 = .ok (.lstore 12, 2) := by decide +kernel
theorem dX6_readRecord_147 : decode cX6_readRecord 147 = .ok (.aload 11, 2) := by decide +kernel
theorem dX6_readRecord_149 : decode cX6_readRecord 149 = .ok (.iload 14, 2) := by decide +kernel
theorem dX6_readRecord_151 : decode cX6_readRecord 151 = .ok (.aload_n 0, 1) := by decide +kernel
theorem dX6_readRecord_152 : decode cX6_readRecord 152 = .ok (.aload_n 0, 1) := by decide +kernel
theorem dX6_readRecord_153 : decode cX6_readRecord 153 = .ok (.iconst 0, 1) := by decide +kernel
theorem dX6_readRecord_154 : decode cX6_readRecord 154 = .ok (.iconst 2, 1) := by decide +kernel
theorem dX6_readRecord_155 : decode cX6_readRecord 155 = .ok (.invokevirtual 44, 3) := by decide +kernel
theorem dX6_readRecord_158 : decode cX6_readRecord 158 = .ok (.invokevirtual 59, 3) := by decide +kernel
theorem dX6_readRecord_161 : decode cX6_readRecord 161 = .ok (.aastore, 1) := by decide +kernel
theorem dX6_readRecord_162 : decode cX6_readRecord 162 = .ok (.iinc 14 1, 3) := by decide +kernel
theorem dX6_readRecord_165 : decode cX6_readRecord 165 = .ok (.goto (-74), 3) := by decide +kernel
theorem dX6_readRecord_168 : decode cX6_readRecord 168 = .ok (.aload_n 0, 1) := by decide +kernel
theorem dX6_readRecord_169 : decode cX6_readRecord 169 = .ok (.getfield 18, 3) := by decide +kernel
theorem dX6_readRecord_172 : decode cX6_readRecord 172 = .ok (.iload_n 3, 1) := by decide +kernel
theorem dX6_readRecord_173 : decode cX6_readRecord 173 = .ok (.aload_n 0, 1) := by decide +kernel
theorem dX6_readRecord_174 : decode cX6_readRecord 174 = .ok (.getfield 34, 3) := by decide +kernel
theorem dX6_readRecord_177 : decode cX6_readRecord 177 = .ok (.invokestatic 63, 3) := by decide +kernel
theorem dX6_readRecord_180 : decode cX6_readRecord 180 = .ok (.istore 14, 2) := by decide +kernel
theorem dX6_readRecord_182 : decode cX6_readRecord 182 = .ok (.aload_n 0, 1) := by decide +kernel
theorem dX6_readRecord_183 : decode cX6_readRecord 183 = .ok (.getfield 34, 3) := by decide +kernel
theorem dX6_readRecord_186 : decode cX6_readRecord 186 = .ok (.istore 15, 2) := by decide +kernel
theorem dX6_readRecord_188 : decode cX6_readRecord 188 = .ok (.aload_n 0, 1) := by decide +kernel
theorem dX6_readRecord_189 : decode cX6_readRecord 189 = .ok (.iconst 0, 1) := by decide +kernel
theorem dX6_readRecord_190 : decode cX6_readRecord 190 = .ok (.sipush 255, 3) := by decide +kernel
theorem dX6_readRecord_193 : decode cX6_readRecord 193 = .ok (.invokevirtual 44, 3) := by decide +kernel
theorem dX6_readRecord_196 : decode cX6_readRecord 196 = .ok (.iload 14, 2) := by decide +kernel
theorem dX6_readRecord_198 : decode cX6_readRecord 198 = .ok (.if_icmp .eq 10, 3) := by decide +kernel
theorem dX6_readRecord_201 : decode cX6_readRecord 201 = .ok (.aload_n 0, 1) := by decide +kernel
theorem dX6_readRecord_202 : decode cX6_readRecord 202 = .ok (.iconst 4, 1) := by decide +kernel
theorem dX6_readRecord_203 : decode cX6_readRecord 203 = .ok (.iload 15, 2) := by decide +kernel
theorem dX6_readRecord_205 : decode cX6_readRecord 205 = .ok (.invokevirtual 40, 3) := by decide +kernel
theorem dX6_readRecord_208 : decode cX6_readRecord 208 = .ok (.aload_n 0, 1) := by decide +kernel
theorem dX6_readRecord_209 : decode cX6_readRecord 209 = .ok (.getfield 37, 3) := by decide +kernel
theorem dX6_readRecord_212 : decode cX6_readRecord 212 = .ok (.ifCond .ne 23, 3) := by decide +kernel
theorem dX6_readRecord_215 : decode cX6_readRecord 215 = .ok (.new 67, 3) := by decide +kernel
theorem dX6_readRecord_218 : decode cX6_readRecord 218 = .ok (.dup, 1) := by decide +kernel
theorem dX6_readRecord_219 : decode cX6_readRecord 219 = .ok (.lload 5, 2) := by decide +kernel
