theorem dX12_letter_11 : decode cX12_letter 11 = .ok (.laload, 1) := by decide +kernel
theorem dX12_letter_12 : decode cX12_letter 12 = .ok (.bipush 56, 2) := by decide +kernel
theorem dX12_letter_14 : decode cX12_letter 14 = .ok (.bipush 8, 2) := by decide +kernel
theorem dX12_letter_16 : decode cX12_letter 16 = .ok (.iload_n 2, 1) := by decide +kernel
theorem dX12_letter_17 : decode cX12_letter 17 = .ok (.imul, 1) := by decide +kernel
theorem dX12_letter_18 : decode cX12_letter 18 = .ok (.isub, 1) := by decide +kernel
theorem dX12_letter_19 : decode cX12_letter 19 = .ok (.lshr, 1) := by decide +kernel
theorem dX12_letter_20 : decode cX12_letter 20 = .ok (.goto 20, 3) := by decide +kernel
theorem dX12_letter_23 : decode cX12_letter 23 = .ok (.aload_n 0, 1) := by decide +kernel
theorem dX12_letter_24 : decode cX12_letter 24 = .ok (.getfield 148, 3) := by decide +kernel
theorem dX12_letter_27 : decode cX12_letter 27 = .ok (.iload_n 1, 1) := by decide +kernel
theorem dX12_letter_28 : decode cX12_letter 28 = .ok (.laload, 1) := by decide +kernel
theorem dX12_letter_29 : decode cX12_letter 29 = .ok (.bipush 56, 2) := by decide +kernel
theorem dX12_letter_31 : decode cX12_letter 31 = .ok (.bipush 8, 2) := by decide +kernel
theorem dX12_letter_33 : decode cX12_letter 33 = .ok (.iload_n 2, 1) := by decide +kernel
theorem dX12_letter_34 : decode cX12_letter 34 = .ok (.bipush 8, 2) := by decide +kernel
theorem dX12_letter_36 : decode cX12_letter 36 = .ok (.isub, 1) := by decide +kernel
theorem dX12_letter_37 : decode cX12_letter 37 = .ok (.imul, 1) := by decide +kernel
theorem dX12_letter_38 : decode cX12_letter 38 = .ok (.isub, 1) := by decide +kernel
theorem dX12_letter_39 : decode cX12_letter 39 = .ok (.lshr, 1) := by decide +kernel
theorem dX12_letter_40 : decode cX12_letter 40 = .ok (.ldc2_w 523, 3) := by decide +kernel
theorem dX12_letter_43 : decode cX12_letter 43 = .ok (.land, 1) := by decide +kernel
theorem dX12_letter_44 : decode cX12_letter 44 = .ok (.l2i, 1) := by decide +kernel
theorem dX12_letter_45 : decode cX12_letter 45 = .ok (.ireturn, 1) := by decide +kernel
theorem dX12_put_0 : decode cX12_put 0 = .ok (.aload_n 0, 1) := by decide +kernel
theorem dX12_put_1 : decode cX12_put 1 = .ok (.getfield 296, 3) := by decide +kernel
theorem dX12_put_4 : decode cX12_put 4 = .ok (.aload_n 0, 1) := by decide +kernel
theorem dX12_put_5 : decode cX12_put 5 = .ok (.getfield 504, 3) := by decide +kernel
theorem dX12_put_8 : decode cX12_put 8 = .ok (.iload_n 1, 1) := by decide +kernel
theorem dX12_put_9 : decode cX12_put 9 = .ok (.i2b, 1) := by decide +kernel
theorem dX12_put_10 : decode cX12_put 10 = .ok (.bastore, 1) := by decide +kernel
theorem dX12_put_11 : decode cX12_put 11 = .ok (.aload_n 0, 1) := by decide +kernel
theorem dX12_put_12 : decode cX12_put 12 = .ok (.dup, 1) := by decide +kernel
theorem dX12_put_13 : decode cX12_put 13 = .ok (.getfield 504, 3) := by decide +kernel
theorem dX12_put_16 : decode cX12_put 16 = .ok (.iconst 1, 1) := by decide +kernel
theorem dX12_put_17 : decode cX12_put 17 = .ok (.iadd, 1) := by decide +kernel
theorem dX12_put_18 : decode cX12_put 18 = .ok (.putfield 504, 3) := by decide +kernel
theorem dX12_put_21 : decode cX12_put 21 = .ok (.return_, 1) := by decide +kernel
theorem dX12_putUnsigned_0 : decode cX12_putUnsigned 0 = .ok (.lload_n 1, 1) := by decide +kernel
theorem dX12_putUnsigned_1 : decode cX12_putUnsigned 1 = .ok (.lstore_n 3, 1) := by decide +kernel
theorem dX12_putUnsigned_2 : decode cX12_putUnsigned 2 = .ok (.lload_n 3, 1) := by decide +kernel
theorem dX12_putUnsigned_3 : decode cX12_putUnsigned 3 = .ok (.ldc2_w 525, 3) := by decide +kernel
theorem dX12_putUnsigned_6 : decode cX12_putUnsigned 6 = .ok (.lcmp, 1) := by decide +kernel
theorem dX12_putUnsigned_7 : decode cX12_putUnsigned 7 = .ok (.ifCond .le 25, 3) := by decide +kernel
theorem dX12_putUnsigned_10 : decode cX12_putUnsigned 10 = .ok (.aload_n 0, 1) := by decide +kernel
theorem dX12_putUnsigned_11 : decode cX12_putUnsigned 11 = .ok (.lload_n 3, 1) := by decide +kernel
theorem dX12_putUnsigned_12 : decode cX12_putUnsigned 12 = .ok (.ldc2_w 525, 3) := by decide +kernel
theorem dX12_putUnsigned_15 : decode cX12_putUnsigned 15 = .ok (.land, 1) := by decide +kernel
theorem dX12_putUnsigned_16 : decode cX12_putUnsigned 16 = .ok (.ldc2_w 527, 3) := by decide +kernel
theorem dX12_putUnsigned_19 : decode cX12_putUnsigned 19 = .ok (.lor, 1) := by decide +kernel
theorem dX12_putUnsigned_20 : decode cX12_putUnsigned 20 = .ok (.l2i, 1) := by decide +kernel
theorem dX12_putUnsigned_21 : decode cX12_putUnsigned 21 = .ok (.invokevirtual 529, 3) := by decide +kernel
theorem dX12_putUnsigned_24 : decode cX12_putUnsigned 24 = .ok (.lload_n 3, 1) := by decide +kernel
theorem dX12_putUnsigned_25 : decode cX12_putUnsigned 25 = .ok (.bipush 7, 2) := by decide +kernel
theorem dX12_putUnsigned_27 : decode cX12_putUnsigned 27 = .ok (.lshr, 1) := by decide +kernel
theorem dX12_putUnsigned_28 : decode cX12_putUnsigned 28 = .ok (.lstore_n 3, 1) := by decide +kernel
theorem dX12_putUnsigned_29 : decode cX12_putUnsigned 29 = .ok (.goto (-27), 3) := by decide +kernel
theorem dX12_putUnsigned_32 : decode cX12_putUnsigned 32 = .ok (.aload_n 0, 1) := by decide +kernel
theorem dX12_putUnsigned_33 : decode cX12_putUnsigned 33 = .ok (.lload_n 3, 1) := by decide +kernel
theorem dX12_putUnsigned_34 : decode cX12_putUnsigned 34 = .ok (.l2i, 1) := by decide +kernel
theorem dX12_putUnsigned_35 : decode cX12_putUnsigned 35 = .ok (.invokevirtual 529, 3) := by decide +kernel
theorem dX12_putUnsigned_38 : decode cX12_putUnsigned 38 = .ok (.return_, 1) := by decide +kernel
theorem dX12_pack_0 : decode cX12_pack 0 = .ok (.aload_n 0, 1) := by decide +kernel
theorem dX12_pack_1 : decode cX12_pack 1 = .ok (.aload_n 0, 1) := by decide +kernel
theorem dX12_pack_2 : decode cX12_pack 2 = .ok (.iload_n 1, 1) := by decide +kernel
theorem dX12_pack_3 : decode cX12_pack 3 = .ok (.invokevirtual 517, 3) := by decide +kernel
theorem dX12_pack_6 : decode cX12_pack 6 = .ok (.ifCond .eq 17, 3) := by decide +kernel
theorem dX12_pack_9 : decode cX12_pack 9 = .ok (.iload_n 1, 1) := by decide +kernel
theorem dX12_pack_10 : decode cX12_pack 10 = .ok (.ifCond .le 17, 3) := by decide +kernel
theorem dX12_pack_13 : decode cX12_pack 13 = .ok (.aload_n 0, 1) := by decide +kernel
theorem dX12_pack_14 : decode cX12_pack 14 = .ok (.iload_n 1, 1) := by decide +kernel
theorem dX12_pack_15 : decode cX12_pack 15 = .ok (.iconst 1, 1) := by decide +kernel
theorem dX12_pack_16 : decode cX12_pack 16 = .ok (.isub, 1) := by decide +kernel
theorem dX12_pack_17 : decode cX12_pack 17 = .ok (.invokevirtual 517, 3) := by decide +kernel
theorem dX12_pack_20 : decode cX12_pack 20 = .ok (.ifCond .ne 7, 3) := by decide +kernel
theorem dX12_pack_23 : decode cX12_pack 23 = .ok (.iconst 1, 1) := by decide +kernel
theorem dX12_pack_24 : decode cX12_pack 24 = .ok (.goto 4, 3) := by decide +kernel
theorem dX12_pack_27 : decode cX12_pack 27 = .ok (.iconst 0, 1) := by decide +kernel
theorem dX12_pack_28 : decode cX12_pack 28 = .ok (.invokevirtual 507, 3) := by decide +kernel
theorem dX12_pack_31 : decode cX12_pack 31 = .ok (.ifCond .eq 5, 3) := by decide +kernel
theorem dX12_pack_34 : decode cX12_pack 34 = .ok (.iconst 0, 1) := by decide +kernel
theorem dX12_pack_35 : decode cX12_pack 35 = .ok (.ireturn, 1) := by decide +kernel
theorem dX12_pack_36 : decode cX12_pack 36 = .ok (.aload_n 0, 1) := by decide +kernel
theorem dX12_pack_37 : decode cX12_pack 37 = .ok (.iconst 0, 1) := by decide +kernel
theorem dX12_pack_38 : decode cX12_pack 38 = .ok (.putfield 504, 3) := by decide +kernel
theorem dX12_pack_41 : decode cX12_pack 41 = .ok (.aload_n 0, 1) := by decide +kernel
theorem dX12_pack_42 : decode cX12_pack 42 = .ok (.sipush 229, 3) := by decide +kernel
theorem dX12_pack_45 : decode cX12_pack 45 = .ok (.invokevirtual 529, 3) := by decide +kernel
theorem dX12_pack_48 : decode cX12_pack 48 = .ok (.aload_n 0, 1) := by decide +kernel
theorem dX12_pack_49 : decode cX12_pack 49 = .ok (.iload_n 1, 1) := by decide +kernel
theorem dX12_pack_50 : decode cX12_pack 50 = .ok (.ifCond .ne 13, 3) := by decide +kernel
theorem dX12_pack_53 : decode cX12_pack 53 = .ok (.aload_n 0, 1) := by decide +kernel
theorem dX12_pack_54 : decode cX12_pack 54 = .ok (.getfield 170, 3) := by decide +kernel
theorem dX12_pack_57 : decode cX12_pack 57 = .ok (.iload_n 1, 1) := by decide +kernel
theorem dX12_pack_58 : decode cX12_pack 58 = .ok (.iaload, 1) := by decide +kernel
theorem dX12_pack_59 : decode cX12_pack 59 = .ok (.i2l, 1) := by decide +kernel
theorem dX12_pack_60 : decode cX12_pack 60 = .ok (.goto 19, 3) := by decide +kernel
theorem dX12_pack_63 : decode cX12_pack 63 = .ok (.aload_n 0, 1) := by decide +kernel
theorem dX12_pack_64 : decode cX12_pack 64 = .ok (.getfield 170, 3) := by decide +kernel
theorem dX12_pack_67 : decode cX12_pack 67 = .ok (.iload_n 1, 1) := by decide +kernel
theorem dX12_pack_68 : decode cX12_pack 68 = .ok (.iaload, 1) := by decide +kernel
theorem dX12_pack_69 : decode cX12_pack 69 = .ok (.aload_n 0, 1) := by decide +kernel
theorem dX12_pack_70 : decode cX12_pack 70 = .ok (.getfield 170, 3) := by decide +kernel
theorem dX12_pack_73 : decode cX12_pack 73 = .ok (.iload_n 1, 1) := by decide +kernel
theorem dX12_pack_74 : decode cX12_pack 74 = .ok (.iconst 1, 1) := by decide +kernel
theorem dX12_pack_75 : decode cX12_pack 75 = .ok (.isub, 1) := by decide +kernel
theorem dX12_pack_76 : decode cX12_pack 76 = .ok (.iaload, 1) := by decide +kernel
theorem dX12_pack_77 : decode cX12_pack 77 = .ok (.isub, 1) := by decide +kernel
theorem dX12_pack_78 : decode cX12_pack 78 = .ok (.i2l, 1) := by decide +kernel
theorem dX12_pack_79 : decode cX12_pack 79 = .ok (.invokevirtual 532, 3) := by decide +kernel
theorem dX12_pack_82 : decode cX12_pack 82 = .ok (.iconst 0, 1) := by decide +kernel
theorem dX12_pack_83 : decode cX12_pack 83 = .ok (.istore_n 2, 1) := by decide +kernel
theorem dX12_pack_84 : decode cX12_pack 84 = .ok (.iload_n 2, 1) := by decide +kernel
theorem dX12_pack_85 : decode cX12_pack 85 = .ok (.bipush 12, 2) := by decide +kernel
theorem dX12_pack_87 : decode cX12_pack 87 = .ok (.if_icmp .ge 18, 3) := by decide +kernel
theorem dX12_pack_90 : decode cX12_pack 90 = .ok (.aload_n 0, 1) := by decide +kernel
theorem dX12_pack_91 : decode cX12_pack 91 = .ok (.iload_n 1, 1) := by decide +kernel
theorem dX12_pack_92 : decode cX12_pack 92 = .ok (.iload_n 2, 1) := by decide +kernel
theorem dX12_pack_93 : decode cX12_pack 93 = .ok (.invokevirtual 520, 3) := by decide +kernel
theorem dX12_pack_96 : decode cX12_pack 96 = .ok (.ifCond .le 9, 3) := by decide +kernel
theorem dX12_pack_99 : decode cX12_pack 99 = .ok (.iinc 2 1, 3) := by decide +kernel
theorem dX12_pack_102 : decode cX12_pack 102 = .ok (.goto (-18), 3) := by decide +kernel
theorem dX12_pack_105 : decode cX12_pack 105 = .ok (.aload_n 0, 1) := by decide +kernel
theorem dX12_pack_106 : decode cX12_pack 106 = .ok (.iload_n 2, 1) := by decide +kernel
theorem dX12_pack_107 : decode cX12_pack 107 = .ok (.invokevirtual 529, 3) := by decide +kernel
theorem dX12_pack_110 : decode cX12_pack 110 = .ok (.iconst 0, 1) := by decide +kernel
theorem dX12_pack_111 : decode cX12_pack 111 = .ok (.istore_n 3, 1) := by decide +kernel
theorem dX12_pack_112 : decode cX12_pack 112 = .ok (.iload_n 3, 1) := by decide +kernel
theorem dX12_pack_113 : decode cX12_pack 113 = .ok (.iload_n 2, 1) := by decide +kernel
theorem dX12_pack_114 : decode cX12_pack 114 = .ok (.if_icmp .ge 19, 3) := by decide +kernel
theorem dX12_pack_117 : decode cX12_pack 117 = .ok (.aload_n 0, 1) := by decide +kernel
theorem dX12_pack_118 : decode cX12_pack 118 = .ok (.aload_n 0, 1) := by decide +kernel
theorem dX12_pack_119 : decode cX12_pack 119 = .ok (.iload_n 1, 1) := by decide +kernel
theorem dX12_pack_120 : decode cX12_pack 120 = .ok (.iload_n 3, 1) := by decide +kernel
theorem dX12_pack_121 : decode cX12_pack 121 = .ok (.invokevirtual 520, 3) := by decide +kernel
theorem dX12_pack_124 : decode cX12_pack 124 = .ok (.invokevirtual 529, 3) := by decide +kernel
theorem dX12_pack_127 : decode cX12_pack 127 = .ok (.iinc 3 1, 3) := by decide +kernel
theorem dX12_pack_130 : decode cX12_pack 130 = .ok (.goto (-18), 3) := by decide +kernel
theorem dX12_pack_133 : decode cX12_pack 133 = .ok (.aload_n 0, 1) := by decide +kernel
theorem dX12_pack_134 : decode cX12_pack 134 = .ok (.aload_n 0, 1) := by decide +kernel
theorem dX12_pack_135 : decode cX12_pack 135 = .ok (.getfield 97, 3) := by decide +kernel
theorem dX12_pack_138 : decode cX12_pack 138 = .ok (.iload_n 1, 1) := by decide +kernel
theorem dX12_pack_139 : decode cX12_pack 139 = .ok (.iaload, 1) := by decide +kernel
theorem dX12_pack_140 : decode cX12_pack 140 = .ok (.invokevirtual 529, 3) := by decide +kernel
theorem dX12_pack_143 : decode cX12_pack 143 = .ok (.iconst 0, 1) := by decide +kernel
theorem dX12_pack_144 : decode cX12_pack 144 = .ok (.istore_n 3, 1) := by decide +kernel
theorem dX12_pack_145 : decode cX12_pack 145 = .ok (.iload_n 3, 1) := by decide +kernel
theorem dX12_pack_146 : decode cX12_pack 146 = .ok (.aload_n 0, 1) := by decide +kernel
theorem dX12_pack_147 : decode cX12_pack 147 = .ok (.getfield 97, 3) := by decide +kernel
theorem dX12_pack_150 : decode cX12_pack 150 = .ok (.iload_n 1, 1) := by decide +kernel
theorem dX12_pack_151 : decode cX12_pack 151 = .ok (.iaload, 1) := by decide +kernel
theorem dX12_pack_152 : decode cX12_pack 152 = .ok (.if_icmp .ge 19, 3) := by decide +kernel
theorem dX12_pack_155 : decode cX12_pack 155 = .ok (.aload_n 0, 1) := by decide +kernel
theorem dX12_pack_156 : decode cX12_pack 156 = .ok (.bipush 8, 2) := by decide +kernel
theorem dX12_pack_158 : decode cX12_pack 158 = .ok (.iload_n 1, 1) := by decide +kernel
theorem dX12_pack_159 : decode cX12_pack 159 = .ok (.imul, 1) := by decide +kernel
theorem dX12_pack_160 : decode cX12_pack 160 = .ok (.iload_n 3, 1) := by decide +kernel
theorem dX12_pack_161 : decode cX12_pack 161 = .ok (.iadd, 1) := by decide +kernel
theorem dX12_pack_162 : decode cX12_pack 162 = .ok (.invokevirtual 536, 3) := by decide +kernel
theorem dX12_pack_165 : decode cX12_pack 165 = .ok (.iinc 3 1, 3) := by decide +kernel
theorem dX12_pack_168 : decode cX12_pack 168 = .ok (.goto (-23), 3) := by decide +kernel
theorem dX12_pack_171 : decode cX12_pack 171 = .ok (.iconst 0, 1) := by decide +kernel
theorem dX12_pack_172 : decode cX12_pack 172 = .ok (.istore_n 3, 1) := by decide +kernel
theorem dX12_pack_173 : decode cX12_pack 173 = .ok (.iconst 0, 1) := by decide +kernel
theorem dX12_pack_174 : decode cX12_pack 174 = .ok (.istore 4, 2) := by decide +kernel
theorem dX12_pack_176 : decode cX12_pack 176 = .ok (.iload 4, 2) := by decide +kernel
theorem dX12_pack_178 : decode cX12_pack 178 = .ok (.aload_n 0, 1) := by decide +kernel
theorem dX12_pack_179 : decode cX12_pack 179 = .ok (.getfield 504, 3) := by decide +kernel
theorem dX12_pack_182 : decode cX12_pack 182 = .ok (.if_icmp .ge 25, 3) := by decide +kernel
theorem dX12_pack_185 : decode cX12_pack 185 = .ok (.iload_n 3, 1) := by decide +kernel
theorem dX12_pack_186 : decode cX12_pack 186 = .ok (.aload_n 0, 1) := by decide +kernel
theorem dX12_pack_187 : decode cX12_pack 187 = .ok (.getfield 296, 3) := by decide +kernel
theorem dX12_pack_190 : decode cX12_pack 190 = .ok (.iload 4, 2) := by decide +kernel
theorem dX12_pack_192 : decode cX12_pack 192 = .ok (.baload, 1) := by decide +kernel
theorem dX12_pack_193 : decode cX12_pack 193 = .ok (.sipush 255, 3) := by decide +kernel
theorem dX12_pack_196 : decode cX12_pack 196 = .ok (.iand, 1) := by decide +kernel
theorem dX12_pack_197 : decode cX12_pack 197 = .ok (.invokestatic 158, 3) := by decide +kernel
theorem dX12_pack_200 : decode cX12_pack 200 = .ok (.istore_n 3, 1) := by decide +kernel
theorem dX12_pack_201 : decode cX12_pack 201 = .ok (.iinc 4 1, 3) := by decide +kernel
theorem dX12_pack_204 : decode cX12_pack 204 = .ok (.goto (-28), 3) := by decide +kernel
theorem dX12_pack_207 : decode cX12_pack 207 = .ok (.aload_n 0, 1) := by decide +kernel
theorem dX12_pack_208 : decode cX12_pack 208 = .ok (.iload_n 3, 1) := by decide +kernel
theorem dX12_pack_209 : decode cX12_pack 209 = .ok (.invokevirtual 529, 3) := by decide +kernel
theorem dX12_pack_212 : decode cX12_pack 212 = .ok (.aload_n 0, 1) := by decide +kernel
theorem dX12_pack_213 : decode cX12_pack 213 = .ok (.getfield 504, 3) := by decide +kernel
theorem dX12_pack_216 : decode cX12_pack 216 = .ok (.ireturn, 1) := by decide +kernel
theorem dX12_putField_0 : decode cX12_putField 0 = .ok (.iconst 0, 1) := by decide +kernel
theorem dX12_putField_1 : decode cX12_putField 1 = .ok (.istore_n 2, 1) := by decide +kernel
theorem dX12_putField_2 : decode cX12_putField 2 = .ok (.iload_n 2, 1) := by decide +kernel
theorem dX12_putField_3 : decode cX12_putField 3 = .ok (.bipush 8, 2) := by decide +kernel
theorem dX12_putField_5 : decode cX12_putField 5 = .ok (.if_icmp .ge 32, 3) := by decide +kernel
theorem dX12_putField_8 : decode cX12_putField 8 = .ok (.aload_n 0, 1) := by decide +kernel
theorem dX12_putField_9 : decode cX12_putField 9 = .ok (.getfield 100, 3) := by decide +kernel
theorem dX12_putField_12 : decode cX12_putField 12 = .ok (.iload_n 1, 1) := by decide +kernel
theorem dX12_putField_13 : decode cX12_putField 13 = .ok (.laload, 1) := by decide +kernel
theorem dX12_putField_14 : decode cX12_putField 14 = .ok (.bipush 56, 2) := by decide +kernel
theorem dX12_putField_16 : decode cX12_putField 16 = .ok (.bipush 8, 2) := by decide +kernel
theorem dX12_putField_18 : decode cX12_putField 18 = .ok (.iload_n 2, 1) := by decide +kernel
theorem dX12_putField_19 : decode cX12_putField 19 = .ok (.imul, 1) := by decide +kernel
theorem dX12_putField_20 : decode cX12_putField 20 = .ok (.isub, 1) := by decide +kernel
theorem dX12_putField_21 : decode cX12_putField 21 = .ok (.lshr, 1) := by decide +kernel
theorem dX12_putField_22 : decode cX12_putField 22 = .ok (.ldc2_w 523, 3) := by decide +kernel
theorem dX12_putField_25 : decode cX12_putField 25 = .ok (.land, 1) := by decide +kernel
theorem dX12_putField_26 : decode cX12_putField 26 = .ok (.lconst 0, 1) := by decide +kernel
theorem dX12_putField_27 : decode cX12_putField 27 = .ok (.lcmp, 1) := by decide +kernel
theorem dX12_putField_28 : decode cX12_putField 28 = .ok (.ifCond .le 9, 3) := by decide +kernel
theorem dX12_putField_31 : decode cX12_putField 31 = .ok (.iinc 2 1, 3) := by decide +kernel
theorem dX12_putField_34 : decode cX12_putField 34 = .ok (.goto (-32), 3) := by decide +kernel
theorem dX12_putField_37 : decode cX12_putField 37 = .ok (.aload_n 0, 1) := by decide +kernel
theorem dX12_putField_38 : decode cX12_putField 38 = .ok (.iload_n 2, 1) := by decide +kernel
theorem dX12_putField_39 : decode cX12_putField 39 = .ok (.invokevirtual 529, 3) := by decide +kernel
theorem dX12_putField_42 : decode cX12_putField 42 = .ok (.iconst 0, 1) := by decide +kernel
theorem dX12_putField_43 : decode cX12_putField 43 = .ok (.istore_n 3, 1) := by decide +kernel
theorem dX12_putField_44 : decode cX12_putField 44 = .ok (.iload_n 3, 1) := by decide +kernel
theorem dX12_putField_45 : decode cX12_putField 45 = .ok (.iload_n 2, 1) := by decide +kernel
theorem dX12_putField_46 : decode cX12_putField 46 = .ok (.if_icmp .ge 32, 3) := by decide +kernel
theorem dX12_putField_49 : decode cX12_putField 49 = .ok (.aload_n 0, 1) := by decide +kernel
theorem dX12_putField_50 : decode cX12_putField 50 = .ok (.aload_n 0, 1) := by decide +kernel
theorem dX12_putField_51 : decode cX12_putField 51 = .ok (.getfield 100, 3) := by decide +kernel
theorem dX12_putField_54 : decode cX12_putField 54 = .ok (.iload_n 1, 1) := by decide +kernel
theorem dX12_putField_55 : decode cX12_putField 55 = .ok (.laload, 1) := by decide +kernel
theorem dX12_putField_56 : decode cX12_putField 56 = .ok (.bipush 56, 2) := by decide +kernel
theorem dX12_putField_58 : decode cX12_putField 58 = .ok (.bipush 8, 2) := by decide +kernel
theorem dX12_putField_60 : decode cX12_putField 60 = .ok (.iload_n 3, 1) := by decide +kernel
theorem dX12_putField_61 : decode cX12_putField 61 = .ok (.imul, 1) := by decide +kernel
theorem dX12_putField_62 : decode cX12_putField 62 = .ok (.isub, 1) := by decide +kernel
theorem dX12_putField_63 : decode cX12_putField 63 = .ok (.lshr, 1) := by decide +kernel
theorem dX12_putField_64 : decode cX12_putField 64 = .ok (.ldc2_w 523, 3) := by decide +kernel
theorem dX12_putField_67 : decode cX12_putField 67 = .ok (.land, 1) := by decide +kernel
theorem dX12_putField_68 : decode cX12_putField 68 = .ok (.l2i, 1) := by decide +kernel
theorem dX12_putField_69 : decode cX12_putField 69 = .ok (.invokevirtual 529, 3) := by decide +kernel
theorem dX12_putField_72 : decode cX12_putField 72 = .ok (.iinc 3 1, 3) := by decide +kernel
theorem dX12_putField_75 : decode cX12_putField 75 = .ok (.goto (-31), 3) := by decide +kernel
theorem dX12_putField_78 : decode cX12_putField 78 = .ok (.aload_n 0, 1) := by decide +kernel
theorem dX12_putField_79 : decode cX12_putField 79 = .ok (.aload_n 0, 1) := by decide +kernel
theorem dX12_putField_80 : decode cX12_putField 80 = .ok (.getfield 27, 3) := by decide +kernel
theorem dX12_putField_83 : decode cX12_putField 83 = .ok (.iload_n 1, 1) := by decide +kernel
theorem dX12_putField_84 : decode cX12_putField 84 = .ok (.baload, 1) := by decide +kernel
theorem dX12_putField_85 : decode cX12_putField 85 = .ok (.invokevirtual 529, 3) := by decide +kernel
theorem dX12_putField_88 : decode cX12_putField 88 = .ok (.aload_n 0, 1) := by decide +kernel
theorem dX12_putField_89 : decode cX12_putField 89 = .ok (.getfield 27, 3) := by decide +kernel
theorem dX12_putField_92 : decode cX12_putField 92 = .ok (.iload_n 1, 1) := by decide +kernel
theorem dX12_putField_93 : decode cX12_putField 93 = .ok (.baload, 1) := by decide +kernel
theorem dX12_putField_94 : decode cX12_putField 94 = .ok (.ifCond .ne 37, 3) := by decide +kernel
theorem dX12_putField_97 : decode cX12_putField 97 = .ok (.aload_n 0, 1) := by decide +kernel
theorem dX12_putField_98 : decode cX12_putField 98 = .ok (.aload_n 0, 1) := by decide +kernel
theorem dX12_putField_99 : decode cX12_putField 99 = .ok (.getfield 30, 3) := by decide +kernel
theorem dX12_putField_102 : decode cX12_putField 102 = .ok (.iload_n 1, 1) := by decide +kernel
theorem dX12_putField_103 : decode cX12_putField 103 = .ok (.iaload, 1) := by decide +kernel
theorem dX12_putField_104 : decode cX12_putField 104 = .ok (.i2l, 1) := by decide +kernel
theorem dX12_putField_105 : decode cX12_putField 105 = .ok (.iconst 1, 1) := by decide +kernel
theorem dX12_putField_106 : decode cX12_putField 106 = .ok (.lshl, 1) := by decide +kernel
theorem dX12_putField_107 : decode cX12_putField 107 = .ok (.ldc2_w 118, 3) := by decide +kernel
theorem dX12_putField_110 : decode cX12_putField 110 = .ok (.land, 1) := by decide +kernel
theorem dX12_putField_111 : decode cX12_putField 111 = .ok (.aload_n 0, 1) := by decide +kernel
theorem dX12_putField_112 : decode cX12_putField 112 = .ok (.getfield 30, 3) := by decide +kernel
theorem dX12_putField_115 : decode cX12_putField 115 = .ok (.iload_n 1, 1) := by decide +kernel
theorem dX12_putField_116 : decode cX12_putField 116 = .ok (.iaload, 1) := by decide +kernel
theorem dX12_putField_117 : decode cX12_putField 117 = .ok (.ifCond .ge 9, 3) := by decide +kernel
theorem dX12_putField_120 : decode cX12_putField 120 = .ok (.ldc2_w 118, 3) := by decide +kernel
theorem dX12_putField_123 : decode cX12_putField 123 = .ok (.goto 4, 3) := by decide +kernel
theorem dX12_putField_126 : decode cX12_putField 126 = .ok (.lconst 0, 1) := by decide +kernel
theorem dX12_putField_127 : decode cX12_putField 127 = .ok (.lxor, 1) := by decide +kernel
theorem dX12_putField_128 : decode cX12_putField 128 = .ok (.invokevirtual 532, 3) := by decide +kernel
theorem dX12_putField_131 : decode cX12_putField 131 = .ok (.aload_n 0, 1) := by decide +kernel
theorem dX12_putField_132 : decode cX12_putField 132 = .ok (.getfield 27, 3) := by decide +kernel
theorem dX12_putField_135 : decode cX12_putField 135 = .ok (.iload_n 1, 1) := by decide +kernel
theorem dX12_putField_136 : decode cX12_putField 136 = .ok (.baload, 1) := by decide +kernel
theorem dX12_putField_137 : decode cX12_putField 137 = .ok (.iconst 1, 1) := by decide +kernel
theorem dX12_putField_138 : decode cX12_putField 138 = .ok (.if_icmp .ne 48, 3) := by decide +kernel
theorem dX12_putField_141 : decode cX12_putField 141 = .ok (.aload_n 0, 1) := by decide +kernel
theorem dX12_putField_142 : decode cX12_putField 142 = .ok (.aload_n 0, 1) := by decide +kernel
theorem dX12_putField_143 : decode cX12_putField 143 = .ok (.getfield 30, 3) := by decide +kernel
theorem dX12_putField_146 : decode cX12_putField 146 = .ok (.iload_n 1, 1) := by decide +kernel
theorem dX12_putField_147 : decode cX12_putField 147 = .ok (.iaload, 1) := by decide +kernel
theorem dX12_putField_148 : decode cX12_putField 148 = .ok (.invokevirtual 529, 3) := by decide +kernel
theorem dX12_putField_151 : decode cX12_putField 151 = .ok (.iconst 0, 1) := by decide +kernel
theorem dX12_putField_152 : decode cX12_putField 152 = .ok (.istore_n 3, 1) := by decide +kernel
theorem dX12_putField_153 : decode cX12_putField 153 = .ok (.iload_n 3, 1) := by decide +kernel
theorem dX12_putField_154 : decode cX12_putField 154 = .ok (.aload_n 0, 1) := by decide +kernel
theorem dX12_putField_155 : decode cX12_putField 155 = .ok (.getfield 30, 3) := by decide +kernel
theorem dX12_putField_158 : decode cX12_putField 158 = .ok (.iload_n 1, 1) := by decide +kernel
theorem dX12_putField_159 : decode cX12_putField 159 = .ok (.iaload, 1) := by decide +kernel
theorem dX12_putField_160 : decode cX12_putField 160 = .ok (.if_icmp .ge 26, 3) := by decide +kernel
theorem dX12_putField_163 : decode cX12_putField 163 = .ok (.aload_n 0, 1) := by decide +kernel
theorem dX12_putField_164 : decode cX12_putField 164 = .ok (.aload_n 0, 1) := by decide +kernel
theorem dX12_putField_165 : decode cX12_putField 165 = .ok (.getfield 34, 3) := by decide +kernel
theorem dX12_putField_168 : decode cX12_putField 168 = .ok (.aload_n 0, 1) := by decide +kernel
theorem dX12_putField_169 : decode cX12_putField 169 = .ok (.getfield 37, 3) := by decide +kernel
theorem dX12_putField_172 : decode cX12_putField 172 = .ok (.iload_n 1, 1) := by decide +kernel
theorem dX12_putField_173 : decode cX12_putField 173 = .ok (.iaload, 1) := by decide +kernel
theorem dX12_putField_174 : decode cX12_putField 174 = .ok (.iload_n 3, 1) := by decide +kernel
theorem dX12_putField_175 : decode cX12_putField 175 = .ok (.iadd, 1) := by decide +kernel
theorem dX12_putField_176 : decode cX12_putField 176 = .ok (.baload, 1) := by decide +kernel
theorem dX12_putField_177 : decode cX12_putField 177 = .ok (.invokevirtual 529, 3) := by decide +kernel
theorem dX12_putField_180 : decode cX12_putField 180 = .ok (.iinc 3 1, 3) := by decide +kernel
theorem dX12_putField_183 : decode cX12_putField 183 = .ok (.goto (-30), 3) := by decide +kernel
theorem dX12_putField_186 : decode cX12_putField 186 = .ok (.aload_n 0, 1) := by decide +kernel
theorem dX12_putField_187 : decode cX12_putField 187 = .ok (.getfield 27, 3) := by decide +kernel
theorem dX12_putField_190 : decode cX12_putField 190 = .ok (.iload_n 1, 1) := by decide +kernel
theorem dX12_putField_191 : decode cX12_putField 191 = .ok (.baload, 1) := by decide +kernel
theorem dX12_putField_192 : decode cX12_putField 192 = .ok (.iconst 2, 1) := by decide +kernel
theorem dX12_putField_193 : decode cX12_putField 193 = .ok (.if_icmp .ne 28, 3) := by decide +kernel
theorem dX12_putField_196 : decode cX12_putField 196 = .ok (.bipush 24, 2) := by decide +kernel
theorem dX12_putField_198 : decode cX12_putField 198 = .ok (.istore_n 3, 1) := by decide +kernel
theorem dX12_putField_199 : decode cX12_putField 199 = .ok (.iload_n 3, 1) := by decide +kernel
theorem dX12_putField_200 : decode cX12_putField 200 = .ok (.ifCond .lt 21, 3) := by decide +kernel
theorem dX12_putField_203 : decode cX12_putField 203 = .ok (.aload_n 0, 1) := by decide +kernel
theorem dX12_putField_204 : decode cX12_putField 204 = .ok (.aload_n 0, 1) := by decide +kernel
theorem dX12_putField_205 : decode cX12_putField 205 = .ok (.getfield 30, 3) := by decide +kernel
theorem dX12_putField_208 : decode cX12_putField 208 = .ok (.iload_n 1, 1) := by decide +kernel
theorem dX12_putField_209 : decode cX12_putField 209 = .ok (.iaload, 1) := by decide +kernel
theorem dX12_putField_210 : decode cX12_putField 210 = .ok (.iload_n 3, 1) := by decide +kernel
theorem dX12_putField_211 : decode cX12_putField 211 = .ok (.ishr, 1) := by decide +kernel
theorem dX12_putField_212 : decode cX12_putField 212 = .ok (.invokevirtual 529, 3) := by decide +kernel
theorem dX12_putField_215 : decode cX12_putField 215 = .ok (.iinc 3 (-8), 3) := by decide +kernel
theorem dX12_putField_218 : decode cX12_putField 218 = .ok (.goto (-19), 3) := by decide +kernel
theorem dX12_putField_221 : decode cX12_putField 221 = .ok (.return_, 1) := by decide +kernel
theorem dX12_octet_0 : decode cX12_octet 0 = .ok (.aload_n 0, 1) := by decide +kernel
theorem dX12_octet_1 : decode cX12_octet 1 = .ok (.iload_n 1, 1) := by decide +kernel
theorem dX12_octet_2 : decode cX12_octet 2 = .ok (.ifCond .lt 11, 3) := by decide +kernel
theorem dX12_octet_5 : decode cX12_octet 5 = .ok (.iload_n 1, 1) := by decide +kernel
theorem dX12_octet_6 : decode cX12_octet 6 = .ok (.aload_n 0, 1) := by decide +kernel
theorem dX12_octet_7 : decode cX12_octet 7 = .ok (.getfield 504, 3) := by decide +kernel
theorem dX12_octet_10 : decode cX12_octet 10 = .ok (.if_icmp .lt 7, 3) := by decide +kernel
theorem dX12_octet_13 : decode cX12_octet 13 = .ok (.iconst 1, 1) := by decide +kernel
theorem dX12_octet_14 : decode cX12_octet 14 = .ok (.goto 4, 3) := by decide +kernel
theorem dX12_octet_17 : decode cX12_octet 17 = .ok (.iconst 0, 1) := by decide +kernel
theorem dX12_octet_18 : decode cX12_octet 18 = .ok (.invokevirtual 507, 3) := by decide +kernel
theorem dX12_octet_21 : decode cX12_octet 21 = .ok (.ifCond .eq 7, 3) := by decide +kernel
theorem dX12_octet_24 : decode cX12_octet 24 = .ok (.iconst 0, 1) := by decide +kernel
theorem dX12_octet_25 : decode cX12_octet 25 = .ok (.goto 13, 3) := by decide +kernel
theorem dX12_octet_28 : decode cX12_octet 28 = .ok (.aload_n 0, 1) := by decide +kernel
theorem dX12_octet_29 : decode cX12_octet 29 = .ok (.getfield 296, 3) := by decide +kernel
theorem dX12_octet_32 : decode cX12_octet 32 = .ok (.iload_n 1, 1) := by decide +kernel
theorem dX12_octet_33 : decode cX12_octet 33 = .ok (.baload, 1) := by decide +kernel
theorem dX12_octet_34 : decode cX12_octet 34 = .ok (.sipush 255, 3) := by decide +kernel
theorem dX12_octet_37 : decode cX12_octet 37 = .ok (.iand, 1) := by decide +kernel
theorem dX12_octet_38 : decode cX12_octet 38 = .ok (.ireturn, 1) := by decide +kernel
theorem dJ9_floorMod_7cf53_0 : decode cJ9_floorMod_7cf53 0 = .ok (.iload_n 0, 1) := by decide +kernel
theorem dJ9_floorMod_7cf53_1 : decode cJ9_floorMod_7cf53 1 = .ok (.iload_n 1, 1) := by decide +kernel
theorem dJ9_floorMod_7cf53_2 : decode cJ9_floorMod_7cf53 2 = .ok (.irem, 1) := by decide +kernel
theorem dJ9_floorMod_7cf53_3 : decode cJ9_floorMod_7cf53 3 = .ok (.istore_n 2, 1) := by decide +kernel
theorem dJ9_floorMod_7cf53_4 : decode cJ9_floorMod_7cf53 4 = .ok (.iload_n 0, 1) := by decide +kernel
theorem dJ9_floorMod_7cf53_5 : decode cJ9_floorMod_7cf53 5 = .ok (.iload_n 1, 1) := by decide +kernel
theorem dJ9_floorMod_7cf53_6 : decode cJ9_floorMod_7cf53 6 = .ok (.ixor, 1) := by decide +kernel
theorem dJ9_floorMod_7cf53_7 : decode cJ9_floorMod_7cf53 7 = .ok (.ifCond .ge 11, 3) := by decide +kernel
theorem dJ9_floorMod_7cf53_10 : decode cJ9_floorMod_7cf53 10 = .ok (.iload_n 2, 1) := by decide +kernel
theorem dJ9_floorMod_7cf53_11 : decode cJ9_floorMod_7cf53 11 = .ok (.ifCond .eq 7, 3) := by decide +kernel
theorem dJ9_floorMod_7cf53_14 : decode cJ9_floorMod_7cf53 14 = .ok (.iload_n 2, 1) := by decide +kernel
theorem dJ9_floorMod_7cf53_15 : decode cJ9_floorMod_7cf53 15 = .ok (.iload_n 1, 1) := by decide +kernel
theorem dJ9_floorMod_7cf53_16 : decode cJ9_floorMod_7cf53 16 = .ok (.iadd, 1) := by decide +kernel
theorem dJ9_floorMod_7cf53_17 : decode cJ9_floorMod_7cf53 17 = .ok (.ireturn, 1) := by decide +kernel
theorem dJ9_floorMod_7cf53_18 : decode cJ9_floorMod_7cf53 18 = .ok (.iload_n 2, 1) := by decide +kernel
theorem dJ9_floorMod_7cf53_19 : decode cJ9_floorMod_7cf53 19 = .ok (.ireturn, 1) := by decide +kernel
theorem dJ9_max_7cf53_0 : decode cJ9_max_7cf53 0 = .ok (.iload_n 0, 1) := by decide +kernel
theorem dJ9_max_7cf53_1 : decode cJ9_max_7cf53 1 = .ok (.iload_n 1, 1) := by decide +kernel
theorem dJ9_max_7cf53_2 : decode cJ9_max_7cf53 2 = .ok (.if_icmp .lt 7, 3) := by decide +kernel
theorem dJ9_max_7cf53_5 : decode cJ9_max_7cf53 5 = .ok (.iload_n 0, 1) := by decide +kernel
theorem dJ9_max_7cf53_6 : decode cJ9_max_7cf53 6 = .ok (.goto 4, 3) := by decide +kernel
theorem dJ9_max_7cf53_9 : decode cJ9_max_7cf53 9 = .ok (.iload_n 1, 1) := by decide +kernel
theorem dJ9_max_7cf53_10 : decode cJ9_max_7cf53 10 = .ok (.ireturn, 1) := by decide +kernel
theorem dJ9_min_7cf53_0 : decode cJ9_min_7cf53 0 = .ok (.iload_n 0, 1) := by decide +kernel
theorem dJ9_min_7cf53_1 : decode cJ9_min_7cf53 1 = .ok (.iload_n 1, 1) := by decide +kernel
theorem dJ9_min_7cf53_2 : decode cJ9_min_7cf53 2 = .ok (.if_icmp .gt 7, 3) := by decide +kernel
theorem dJ9_min_7cf53_5 : decode cJ9_min_7cf53 5 = .ok (.iload_n 0, 1) := by decide +kernel
theorem dJ9_min_7cf53_6 : decode cJ9_min_7cf53 6 = .ok (.goto 4, 3) := by decide +kernel
theorem dJ9_min_7cf53_9 : decode cJ9_min_7cf53 9 = .ok (.iload_n 1, 1) := by decide +kernel
theorem dJ9_min_7cf53_10 : decode cJ9_min_7cf53 10 = .ok (.ireturn, 1) := by decide +kernel
theorem dJ9_min_f86c9_0 : decode cJ9_min_f86c9 0 = .ok (.lload_n 0, 1) := by decide +kernel
theorem dJ9_min_f86c9_1 : decode cJ9_min_f86c9 1 = .ok (.lload_n 2, 1) := by decide +kernel
theorem dJ9_min_f86c9_2 : decode cJ9_min_f86c9 2 = .ok (.lcmp, 1) := by decide +kernel
theorem dJ9_min_f86c9_3 : decode cJ9_min_f86c9 3 = .ok (.ifCond .gt 7, 3) := by decide +kernel
theorem dJ9_min_f86c9_6 : decode cJ9_min_f86c9 6 = .ok (.lload_n 0, 1) := by decide +kernel
theorem dJ9_min_f86c9_7 : decode cJ9_min_f86c9 7 = .ok (.goto 4, 3) := by decide +kernel
theorem dJ9_min_f86c9_10 : decode cJ9_min_f86c9 10 = .ok (.lload_n 2, 1) := by decide +kernel
theorem dJ9_min_f86c9_11 : decode cJ9_min_f86c9 11 = .ok (.lreturn, 1) := by decide +kernel
theorem dJ0_length_8abf5_0 : decode cJ0_length_8abf5 0 = .ok (.aload_n 0, 1) := by decide +kernel
theorem dJ0_length_8abf5_1 : decode cJ0_length_8abf5 1 = .ok (.getfield 9, 3) := by decide +kernel
theorem dJ0_length_8abf5_4 : decode cJ0_length_8abf5 4 = .ok (.arraylength, 1) := by decide +kernel
theorem dJ0_length_8abf5_5 : decode cJ0_length_8abf5 5 = .ok (.aload_n 0, 1) := by decide +kernel
theorem dJ0_length_8abf5_6 : decode cJ0_length_8abf5 6 = .ok (.invokevirtual 335, 3) := by decide +kernel
theorem dJ0_length_8abf5_9 : decode cJ0_length_8abf5 9 = .ok (.ishr, 1) := by decide +kernel
theorem dJ0_length_8abf5_10 : decode cJ0_length_8abf5 10 = .ok (.ireturn, 1) := by decide +kernel
theorem dJ0_charAt_5068e_0 : decode cJ0_charAt_5068e 0 = .ok (.aload_n 0, 1) := by decide +kernel
theorem dJ0_charAt_5068e_1 : decode cJ0_charAt_5068e 1 = .ok (.invokevirtual 492, 3) := by decide +kernel
theorem dJ0_charAt_5068e_4 : decode cJ0_charAt_5068e 4 = .ok (.ifCond .eq 12, 3) := by decide +kernel
theorem dJ0_charAt_5068e_7 : decode cJ0_charAt_5068e 7 = .ok (.aload_n 0, 1) := by decide +kernel
theorem dJ0_charAt_5068e_8 : decode cJ0_charAt_5068e 8 = .ok (.getfield 9, 3) := by decide +kernel
theorem dJ0_charAt_5068e_11 : decode cJ0_charAt_5068e 11 = .ok (.iload_n 1, 1) := by decide +kernel
theorem dJ0_charAt_5068e_12 : decode cJ0_charAt_5068e 12 = .ok (.invokestatic 495, 3) := by decide +kernel
theorem dJ0_charAt_5068e_15 : decode cJ0_charAt_5068e 15 = .ok (.ireturn, 1) := by decide +kernel
theorem dJ0_charAt_5068e_16 : decode cJ0_charAt_5068e 16 = .ok (.aload_n 0, 1) := by decide +kernel
theorem dJ0_charAt_5068e_17 : decode cJ0_charAt_5068e 17 = .ok (.getfield 9, 3) := by decide +kernel
theorem dJ0_charAt_5068e_20 : decode cJ0_charAt_5068e 20 = .ok (.iload_n 1, 1) := by decide +kernel
theorem dJ0_charAt_5068e_21 : decode cJ0_charAt_5068e 21 = .ok (.invokestatic 498, 3) := by decide +kernel
theorem dJ0_charAt_5068e_24 : decode cJ0_charAt_5068e 24 = .ok (.ireturn, 1) := by decide +kernel
theorem dJ0_coder_7d493_0 : decode cJ0_coder_7d493 0 = .ok (.getstatic 38, 3) := by decide +kernel
theorem dJ0_coder_7d493_3 : decode cJ0_coder_7d493 3 = .ok (.ifCond .eq 10, 3) := by decide +kernel
theorem dJ0_coder_7d493_6 : decode cJ0_coder_7d493 6 = .ok (.aload_n 0, 1) := by decide +kernel
theorem dJ0_coder_7d493_7 : decode cJ0_coder_7d493 7 = .ok (.getfield 15, 3) := by decide +kernel
theorem dJ0_coder_7d493_10 : decode cJ0_coder_7d493 10 = .ok (.goto 4, 3) := by decide +kernel
theorem dJ0_coder_7d493_13 : decode cJ0_coder_7d493 13 = .ok (.iconst 1, 1) := by decide +kernel
theorem dJ0_coder_7d493_14 : decode cJ0_coder_7d493 14 = .ok (.ireturn, 1) := by decide +kernel
theorem dJ0_isLatin1_aae02_0 : decode cJ0_isLatin1_aae02 0 = .ok (.getstatic 38, 3) := by decide +kernel
theorem dJ0_isLatin1_aae02_3 : decode cJ0_isLatin1_aae02 3 = .ok (.ifCond .eq 14, 3) := by decide +kernel
theorem dJ0_isLatin1_aae02_6 : decode cJ0_isLatin1_aae02 6 = .ok (.aload_n 0, 1) := by decide +kernel
theorem dJ0_isLatin1_aae02_7 : decode cJ0_isLatin1_aae02 7 = .ok (.getfield 15, 3) := by decide +kernel
theorem dJ0_isLatin1_aae02_10 : decode cJ0_isLatin1_aae02 10 = .ok (.ifCond .ne 7, 3) := by decide +kernel
theorem dJ0_isLatin1_aae02_13 : decode cJ0_isLatin1_aae02 13 = .ok (.iconst 1, 1) := by decide +kernel
theorem dJ0_isLatin1_aae02_14 : decode cJ0_isLatin1_aae02 14 = .ok (.goto 4, 3) := by decide +kernel
theorem dJ0_isLatin1_aae02_17 : decode cJ0_isLatin1_aae02 17 = .ok (.iconst 0, 1) := by decide +kernel
theorem dJ0_isLatin1_aae02_18 : decode cJ0_isLatin1_aae02 18 = .ok (.ireturn, 1) := by decide +kernel
theorem dJ0_checkIndex_df160_0 : decode cJ0_checkIndex_df160 0 = .ok (.iload_n 0, 1) := by decide +kernel
theorem dJ0_checkIndex_df160_1 : decode cJ0_checkIndex_df160 1 = .ok (.iload_n 1, 1) := by decide +kernel
theorem dJ0_checkIndex_df160_2 : decode cJ0_checkIndex_df160 2 = .ok (.getstatic 1053, 3) := by decide +kernel
theorem dJ0_checkIndex_df160_5 : decode cJ0_checkIndex_df160 5 = .ok (.invokestatic 1059, 3) := by decide +kernel
theorem dJ0_checkIndex_df160_8 : decode cJ0_checkIndex_df160 8 = .ok (.pop, 1) := by decide +kernel
theorem dJ0_checkIndex_df160_9 : decode cJ0_checkIndex_df160 9 = .ok (.return_, 1) := by decide +kernel
theorem dJ1_charAt_3b067_0 : decode cJ1_charAt_3b067 0 = .ok (.iload_n 1, 1) := by decide +kernel
theorem dJ1_charAt_3b067_1 : decode cJ1_charAt_3b067 1 = .ok (.aload_n 0, 1) := by decide +kernel
theorem dJ1_charAt_3b067_2 : decode cJ1_charAt_3b067 2 = .ok (.arraylength, 1) := by decide +kernel
theorem dJ1_charAt_3b067_3 : decode cJ1_charAt_3b067 3 = .ok (.invokestatic 9, 3) := by decide +kernel
theorem dJ1_charAt_3b067_6 : decode cJ1_charAt_3b067 6 = .ok (.aload_n 0, 1) := by decide +kernel
theorem dJ1_charAt_3b067_7 : decode cJ1_charAt_3b067 7 = .ok (.iload_n 1, 1) := by decide +kernel
theorem dJ1_charAt_3b067_8 : decode cJ1_charAt_3b067 8 = .ok (.baload, 1) := by decide +kernel
theorem dJ1_charAt_3b067_9 : decode cJ1_charAt_3b067 9 = .ok (.sipush 255, 3) := by decide +kernel
theorem dJ1_charAt_3b067_12 : decode cJ1_charAt_3b067 12 = .ok (.iand, 1) := by decide +kernel
theorem dJ1_charAt_3b067_13 : decode cJ1_charAt_3b067 13 = .ok (.i2c, 1) := by decide +kernel
theorem dJ1_charAt_3b067_14 : decode cJ1_charAt_3b067 14 = .ok (.ireturn, 1) := by decide +kernel
theorem dJ2_getChar_3b067_0 : decode cJ2_getChar_3b067 0 = .ok (.getstatic 44, 3) := by decide +kernel
theorem dJ2_getChar_3b067_3 : decode cJ2_getChar_3b067 3 = .ok (.ifCond .ne 25, 3) := by decide +kernel
theorem dJ2_getChar_3b067_6 : decode cJ2_getChar_3b067 6 = .ok (.iload_n 1, 1) := by decide +kernel
theorem dJ2_getChar_3b067_7 : decode cJ2_getChar_3b067 7 = .ok (.ifCond .lt 11, 3) := by decide +kernel
theorem dJ2_getChar_3b067_10 : decode cJ2_getChar_3b067 10 = .ok (.iload_n 1, 1) := by decide +kernel
theorem dJ2_getChar_3b067_11 : decode cJ2_getChar_3b067 11 = .ok (.aload_n 0, 1) := by decide +kernel
theorem dJ2_getChar_3b067_12 : decode cJ2_getChar_3b067 12 = .ok (.invokestatic 48, 3) := by decide +kernel
theorem dJ2_getChar_3b067_15 : decode cJ2_getChar_3b067 15 = .ok (.if_icmp .lt 13, 3) := by decide +kernel
theorem dJ2_getChar_3b067_18 : decode cJ2_getChar_3b067 18 = .ok (.new 52, 3) := by decide +kernel
theorem dJ2_getChar_3b067_21 : decode cJ2_getChar_3b067 21 = .ok (.dup, 1) := by decide +kernel
theorem dJ2_getChar_3b067_22 : decode cJ2_getChar_3b067 22 = .ok (.ldc 54, 2) := by decide +kernel
theorem dJ2_getChar_3b067_24 : decode cJ2_getChar_3b067 24 = .ok (.invokespecial 56, 3) := by decide +kernel
theorem dJ2_getChar_3b067_27 : decode cJ2_getChar_3b067 27 = .ok (.athrow, 1) := by decide +kernel
theorem dJ2_getChar_3b067_28 : decode cJ2_getChar_3b067 28 = .ok (.iload_n 1, 1) := by decide +kernel
theorem dJ2_getChar_3b067_29 : decode cJ2_getChar_3b067 29 = .ok (.iconst 1, 1) := by decide +kernel
theorem dJ2_getChar_3b067_30 : decode cJ2_getChar_3b067 30 = .ok (.ishl, 1) := by decide +kernel
theorem dJ2_getChar_3b067_31 : decode cJ2_getChar_3b067 31 = .ok (.istore_n 1, 1) := by decide +kernel
theorem dJ2_getChar_3b067_32 : decode cJ2_getChar_3b067 32 = .ok (.aload_n 0, 1) := by decide +kernel
theorem dJ2_getChar_3b067_33 : decode cJ2_getChar_3b067 33 = .ok (.iload_n 1, 1) := by decide +kernel
theorem dJ2_getChar_3b067_34 : decode cJ2_getChar_3b067 34 = .ok (.iinc 1 1, 3) := by decide +kernel
theorem dJ2_getChar_3b067_37 : decode cJ2_getChar_3b067 37 = .ok (.baload, 1) := by decide +kernel
theorem dJ2_getChar_3b067_38 : decode cJ2_getChar_3b067 38 = .ok (.sipush 255, 3) := by decide +kernel
theorem dJ2_getChar_3b067_41 : decode cJ2_getChar_3b067 41 = .ok (.iand, 1) := by decide +kernel
theorem dJ2_getChar_3b067_42 : decode cJ2_getChar_3b067 42 = .ok (.getstatic 59, 3) := by decide +kernel
theorem dJ2_getChar_3b067_45 : decode cJ2_getChar_3b067 45 = .ok (.ishl, 1) := by decide +kernel
theorem dJ2_getChar_3b067_46 : decode cJ2_getChar_3b067 46 = .ok (.aload_n 0, 1) := by decide +kernel
theorem dJ2_getChar_3b067_47 : decode cJ2_getChar_3b067 47 = .ok (.iload_n 1, 1) := by decide +kernel
theorem dJ2_getChar_3b067_48 : decode cJ2_getChar_3b067 48 = .ok (.baload, 1) := by decide +kernel
theorem dJ2_getChar_3b067_49 : decode cJ2_getChar_3b067 49 = .ok (.sipush 255, 3) := by decide +kernel
theorem dJ2_getChar_3b067_52 : decode cJ2_getChar_3b067 52 = .ok (.iand, 1) := by decide +kernel
theorem dJ2_getChar_3b067_53 : decode cJ2_getChar_3b067 53 = .ok (.getstatic 63, 3) := by decide +kernel
theorem dJ2_getChar_3b067_56 : decode cJ2_getChar_3b067 56 = .ok (.ishl, 1) := by decide +kernel
theorem dJ2_getChar_3b067_57 : decode cJ2_getChar_3b067 57 = .ok (.ior, 1) := by decide +kernel
theorem dJ2_getChar_3b067_58 : decode cJ2_getChar_3b067 58 = .ok (.i2c, 1) := by decide +kernel
theorem dJ2_getChar_3b067_59 : decode cJ2_getChar_3b067 59 = .ok (.ireturn, 1) := by decide +kernel
theorem dJ2_length_9d52b_0 : decode cJ2_length_9d52b 0 = .ok (.aload_n 0, 1) := by decide +kernel
theorem dJ2_length_9d52b_1 : decode cJ2_length_9d52b 1 = .ok (.arraylength, 1) := by decide +kernel
theorem dJ2_length_9d52b_2 : decode cJ2_length_9d52b 2 = .ok (.iconst 1, 1) := by decide +kernel
theorem dJ2_length_9d52b_3 : decode cJ2_length_9d52b 3 = .ok (.ishr, 1) := by decide +kernel
theorem dJ2_length_9d52b_4 : decode cJ2_length_9d52b 4 = .ok (.ireturn, 1) := by decide +kernel
theorem dJ2_charAt_3b067_0 : decode cJ2_charAt_3b067 0 = .ok (.iload_n 1, 1) := by decide +kernel
theorem dJ2_charAt_3b067_1 : decode cJ2_charAt_3b067 1 = .ok (.aload_n 0, 1) := by decide +kernel
theorem dJ2_charAt_3b067_2 : decode cJ2_charAt_3b067 2 = .ok (.invokestatic 67, 3) := by decide +kernel
theorem dJ2_charAt_3b067_5 : decode cJ2_charAt_3b067 5 = .ok (.aload_n 0, 1) := by decide +kernel
theorem dJ2_charAt_3b067_6 : decode cJ2_charAt_3b067 6 = .ok (.iload_n 1, 1) := by decide +kernel
theorem dJ2_charAt_3b067_7 : decode cJ2_charAt_3b067 7 = .ok (.invokestatic 71, 3) := by decide +kernel
theorem dJ2_charAt_3b067_10 : decode cJ2_charAt_3b067 10 = .ok (.ireturn, 1) := by decide +kernel
theorem dJ2_checkIndex_2214a_0 : decode cJ2_checkIndex_2214a 0 = .ok (.iload_n 0, 1) := by decide +kernel
theorem dJ2_checkIndex_2214a_1 : decode cJ2_checkIndex_2214a 1 = .ok (.aload_n 1, 1) := by decide +kernel
theorem dJ2_checkIndex_2214a_2 : decode cJ2_checkIndex_2214a 2 = .ok (.invokestatic 48, 3) := by decide +kernel
theorem dJ2_checkIndex_2214a_5 : decode cJ2_checkIndex_2214a 5 = .ok (.invokestatic 414, 3) := by decide +kernel
theorem dJ2_checkIndex_2214a_8 : decode cJ2_checkIndex_2214a 8 = .ok (.return_, 1) := by decide +kernel
theorem dJxa1e45_init_da8c8_0 : decode cJxa1e45_init_da8c8 0 = .ok (.aload_n 0, 1) := by decide +kernel
theorem dJxa1e45_init_da8c8_1 : decode cJxa1e45_init_da8c8 1 = .ok (.invokespecial 1, 3) := by decide +kernel
theorem dJxa1e45_init_da8c8_4 : decode cJxa1e45_init_da8c8 4 = .ok (.return_, 1) := by decide +kernel
theorem dJxc12de_init_da8c8_0 : decode cJxc12de_init_da8c8 0 = .ok (.aload_n 0, 1) := by decide +kernel
theorem dJxc12de_init_da8c8_1 : decode cJxc12de_init_da8c8 1 = .ok (.invokespecial 1, 3) := by decide +kernel
theorem dJxc12de_init_da8c8_4 : decode cJxc12de_init_da8c8 4 = .ok (.aload_n 0, 1) := by decide +kernel
theorem dJxc12de_init_da8c8_5 : decode cJxc12de_init_da8c8 5 = .ok (.iconst 0, 1) := by decide +kernel
theorem dJxc12de_init_da8c8_6 : decode cJxc12de_init_da8c8 6 = .ok (.putfield 7, 3) := by decide +kernel
theorem dJxc12de_init_da8c8_9 : decode cJxc12de_init_da8c8 9 = .ok (.return_, 1) := by decide +kernel
theorem dJx4a65c_init_da8c8_0 : decode cJx4a65c_init_da8c8 0 = .ok (.aload_n 0, 1) := by decide +kernel
theorem dJx4a65c_init_da8c8_1 : decode cJx4a65c_init_da8c8 1 = .ok (.invokespecial 1, 3) := by decide +kernel
theorem dJx4a65c_init_da8c8_4 : decode cJx4a65c_init_da8c8 4 = .ok (.aload_n 0, 1) := by decide +kernel
theorem dJx4a65c_init_da8c8_5 : decode cJx4a65c_init_da8c8 5 = .ok (.getstatic 39, 3) := by decide +kernel
theorem dJx4a65c_init_da8c8_8 : decode cJx4a65c_init_da8c8 8 = .ok (.putfield 9, 3) := by decide +kernel
theorem dJx4a65c_init_da8c8_11 : decode cJx4a65c_init_da8c8 11 = .ok (.return_, 1) := by decide +kernel
theorem dJx4a65c_grow_92f84_0 : decode cJx4a65c_grow_92f84 0 = .ok (.aload_n 0, 1) := by decide +kernel
theorem dJx4a65c_grow_92f84_1 : decode cJx4a65c_grow_92f84 1 = .ok (.getfield 9, 3) := by decide +kernel
theorem dJx4a65c_grow_92f84_4 : decode cJx4a65c_grow_92f84 4 = .ok (.arraylength, 1) := by decide +kernel
theorem dJx4a65c_grow_92f84_5 : decode cJx4a65c_grow_92f84 5 = .ok (.istore_n 2, 1) := by decide +kernel
theorem dJx4a65c_grow_92f84_6 : decode cJx4a65c_grow_92f84 6 = .ok (.iload_n 2, 1) := by decide +kernel
theorem dJx4a65c_grow_92f84_7 : decode cJx4a65c_grow_92f84 7 = .ok (.ifCond .gt 13, 3) := by decide +kernel
theorem dJx4a65c_grow_92f84_10 : decode cJx4a65c_grow_92f84 10 = .ok (.aload_n 0, 1) := by decide +kernel
theorem dJx4a65c_grow_92f84_11 : decode cJx4a65c_grow_92f84 11 = .ok (.getfield 9, 3) := by decide +kernel
theorem dJx4a65c_grow_92f84_14 : decode cJx4a65c_grow_92f84 14 = .ok (.getstatic 39, 3) := by decide +kernel
theorem dJx4a65c_grow_92f84_17 : decode cJx4a65c_grow_92f84 17 = .ok (.if_acmp .eq 28, 3) := by decide +kernel
theorem dJx4a65c_grow_92f84_20 : decode cJx4a65c_grow_92f84 20 = .ok (.iload_n 2, 1) := by decide +kernel
theorem dJx4a65c_grow_92f84_21 : decode cJx4a65c_grow_92f84 21 = .ok (.iload_n 1, 1) := by decide +kernel
theorem dJx4a65c_grow_92f84_22 : decode cJx4a65c_grow_92f84 22 = .ok (.iload_n 2, 1) := by decide +kernel
theorem dJx4a65c_grow_92f84_23 : decode cJx4a65c_grow_92f84 23 = .ok (.isub, 1) := by decide +kernel
theorem dJx4a65c_grow_92f84_24 : decode cJx4a65c_grow_92f84 24 = .ok (.iload_n 2, 1) := by decide +kernel
theorem dJx4a65c_grow_92f84_25 : decode cJx4a65c_grow_92f84 25 = .ok (.iconst 1, 1) := by decide +kernel
theorem dJx4a65c_grow_92f84_26 : decode cJx4a65c_grow_92f84 26 = .ok (.ishr, 1) := by decide +kernel
theorem dJx4a65c_grow_92f84_27 : decode cJx4a65c_grow_92f84 27 = .ok (.invokestatic 73, 3) := by decide +kernel
theorem dJx4a65c_grow_92f84_30 : decode cJx4a65c_grow_92f84 30 = .ok (.istore_n 3, 1) := by decide +kernel
theorem dJx4a65c_grow_92f84_31 : decode cJx4a65c_grow_92f84 31 = .ok (.aload_n 0, 1) := by decide +kernel
theorem dJx4a65c_grow_92f84_32 : decode cJx4a65c_grow_92f84 32 = .ok (.aload_n 0, 1) := by decide +kernel
theorem dJx4a65c_grow_92f84_33 : decode cJx4a65c_grow_92f84 33 = .ok (.getfield 9, 3) := by decide +kernel
theorem dJx4a65c_grow_92f84_36 : decode cJx4a65c_grow_92f84 36 = .ok (.iload_n 3, 1) := by decide +kernel
theorem dJx4a65c_grow_92f84_37 : decode cJx4a65c_grow_92f84 37 = .ok (.invokestatic 66, 3) := by decide +kernel
theorem dJx4a65c_grow_92f84_40 : decode cJx4a65c_grow_92f84 40 = .ok (.dup_x1, 1) := by decide +kernel
theorem dJx4a65c_grow_92f84_41 : decode cJx4a65c_grow_92f84 41 = .ok (.putfield 9, 3) := by decide +kernel
theorem dJx4a65c_grow_92f84_44 : decode cJx4a65c_grow_92f84 44 = .ok (.areturn, 1) := by decide +kernel
theorem dJx4a65c_grow_92f84_45 : decode cJx4a65c_grow_92f84 45 = .ok (.aload_n 0, 1) := by decide +kernel
theorem dJx4a65c_grow_92f84_46 : decode cJx4a65c_grow_92f84 46 = .ok (.bipush 10, 2) := by decide +kernel
theorem dJx4a65c_grow_92f84_48 : decode cJx4a65c_grow_92f84 48 = .ok (.iload_n 1, 1) := by decide +kernel
theorem dJx4a65c_grow_92f84_49 : decode cJx4a65c_grow_92f84 49 = .ok (.invokestatic 79, 3) := by decide +kernel
theorem dJx4a65c_grow_92f84_52 : decode cJx4a65c_grow_92f84 52 = .ok (.anewarray 7, 3) := by decide +kernel
theorem dJx4a65c_grow_92f84_55 : decode cJx4a65c_grow_92f84 55 = .ok (.dup_x1, 1) := by decide +kernel
theorem dJx4a65c_grow_92f84_56 : decode cJx4a65c_grow_92f84 56 = .ok (.putfield 9, 3) := by decide +kernel
theorem dJx4a65c_grow_92f84_59 : decode cJx4a65c_grow_92f84 59 = .ok (.areturn, 1) := by decide +kernel
theorem dJx4a65c_grow_d5877_0 : decode cJx4a65c_grow_d5877 0 = .ok (.aload_n 0, 1) := by decide +kernel
theorem dJx4a65c_grow_d5877_1 : decode cJx4a65c_grow_d5877 1 = .ok (.aload_n 0, 1) := by decide +kernel
theorem dJx4a65c_grow_d5877_2 : decode cJx4a65c_grow_d5877 2 = .ok (.getfield 48, 3) := by decide +kernel
theorem dJx4a65c_grow_d5877_5 : decode cJx4a65c_grow_d5877 5 = .ok (.iconst 1, 1) := by decide +kernel
theorem dJx4a65c_grow_d5877_6 : decode cJx4a65c_grow_d5877 6 = .ok (.iadd, 1) := by decide +kernel
theorem dJx4a65c_grow_d5877_7 : decode cJx4a65c_grow_d5877 7 = .ok (.invokevirtual 69, 3) := by decide +kernel
theorem dJx4a65c_grow_d5877_10 : decode cJx4a65c_grow_d5877 10 = .ok (.areturn, 1) := by decide +kernel
theorem dJx4a65c_size_8abf5_0 : decode cJx4a65c_size_8abf5 0 = .ok (.aload_n 0, 1) := by decide +kernel
theorem dJx4a65c_size_8abf5_1 : decode cJx4a65c_size_8abf5 1 = .ok (.getfield 48, 3) := by decide +kernel
theorem dJx4a65c_size_8abf5_4 : decode cJx4a65c_size_8abf5 4 = .ok (.ireturn, 1) := by decide +kernel
theorem dJx4a65c_elementData_915e3_0 : decode cJx4a65c_elementData_915e3 0 = .ok (.aload_n 0, 1) := by decide +kernel
theorem dJx4a65c_elementData_915e3_1 : decode cJx4a65c_elementData_915e3 1 = .ok (.getfield 9, 3) := by decide +kernel
theorem dJx4a65c_elementData_915e3_4 : decode cJx4a65c_elementData_915e3 4 = .ok (.iload_n 1, 1) := by decide +kernel
theorem dJx4a65c_elementData_915e3_5 : decode cJx4a65c_elementData_915e3 5 = .ok (.aaload, 1) := by decide +kernel
theorem dJx4a65c_elementData_915e3_6 : decode cJx4a65c_elementData_915e3 6 = .ok (.areturn, 1) := by decide +kernel
theorem dJx4a65c_get_915e3_0 : decode cJx4a65c_get_915e3 0 = .ok (.iload_n 1, 1) := by decide +kernel
theorem dJx4a65c_get_915e3_1 : decode cJx4a65c_get_915e3 1 = .ok (.aload_n 0, 1) := by decide +kernel
theorem dJx4a65c_get_915e3_2 : decode cJx4a65c_get_915e3 2 = .ok (.getfield 48, 3) := by decide +kernel
theorem dJx4a65c_get_915e3_5 : decode cJx4a65c_get_915e3 5 = .ok (.invokestatic 118, 3) := by decide +kernel
theorem dJx4a65c_get_915e3_8 : decode cJx4a65c_get_915e3 8 = .ok (.pop, 1) := by decide +kernel
theorem dJx4a65c_get_915e3_9 : decode cJx4a65c_get_915e3 9 = .ok (.aload_n 0, 1) := by decide +kernel
theorem dJx4a65c_get_915e3_10 : decode cJx4a65c_get_915e3 10 = .ok (.iload_n 1, 1) := by decide +kernel
theorem dJx4a65c_get_915e3_11 : decode cJx4a65c_get_915e3 11 = .ok (.invokevirtual 123, 3) := by decide +kernel
theorem dJx4a65c_get_915e3_14 : decode cJx4a65c_get_915e3 14 = .ok (.areturn, 1) := by decide +kernel
theorem dJx4a65c_add_72be8_0 : decode cJx4a65c_add_72be8 0 = .ok (.iload_n 3, 1) := by decide +kernel
theorem dJx4a65c_add_72be8_1 : decode cJx4a65c_add_72be8 1 = .ok (.aload_n 2, 1) := by decide +kernel
theorem dJx4a65c_add_72be8_2 : decode cJx4a65c_add_72be8 2 = .ok (.arraylength, 1) := by decide +kernel
theorem dJx4a65c_add_72be8_3 : decode cJx4a65c_add_72be8 3 = .ok (.if_icmp .ne 8, 3) := by decide +kernel
theorem dJx4a65c_add_72be8_6 : decode cJx4a65c_add_72be8 6 = .ok (.aload_n 0, 1) := by decide +kernel
theorem dJx4a65c_add_72be8_7 : decode cJx4a65c_add_72be8 7 = .ok (.invokevirtual 129, 3) := by decide +kernel
theorem dJx4a65c_add_72be8_10 : decode cJx4a65c_add_72be8 10 = .ok (.astore_n 2, 1) := by decide +kernel
theorem dJx4a65c_add_72be8_11 : decode cJx4a65c_add_72be8 11 = .ok (.aload_n 2, 1) := by decide +kernel
theorem dJx4a65c_add_72be8_12 : decode cJx4a65c_add_72be8 12 = .ok (.iload_n 3, 1) := by decide +kernel
theorem dJx4a65c_add_72be8_13 : decode cJx4a65c_add_72be8 13 = .ok (.aload_n 1, 1) := by decide +kernel
theorem dJx4a65c_add_72be8_14 : decode cJx4a65c_add_72be8 14 = .ok (.aastore, 1) := by decide +kernel
theorem dJx4a65c_add_72be8_15 : decode cJx4a65c_add_72be8 15 = .ok (.aload_n 0, 1) := by decide +kernel
theorem dJx4a65c_add_72be8_16 : decode cJx4a65c_add_72be8 16 = .ok (.iload_n 3, 1) := by decide +kernel
theorem dJx4a65c_add_72be8_17 : decode cJx4a65c_add_72be8 17 = .ok (.iconst 1, 1) := by decide +kernel
theorem dJx4a65c_add_72be8_18 : decode cJx4a65c_add_72be8 18 = .ok (.iadd, 1) := by decide +kernel
theorem dJx4a65c_add_72be8_19 : decode cJx4a65c_add_72be8 19 = .ok (.putfield 48, 3) := by decide +kernel
theorem dJx4a65c_add_72be8_22 : decode cJx4a65c_add_72be8 22 = .ok (.return_, 1) := by decide +kernel
theorem dJx4a65c_add_9ea2d_0 : decode cJx4a65c_add_9ea2d 0 = .ok (.aload_n 0, 1) := by decide +kernel
theorem dJx4a65c_add_9ea2d_1 : decode cJx4a65c_add_9ea2d 1 = .ok (.dup, 1) := by decide +kernel
theorem dJx4a65c_add_9ea2d_2 : decode cJx4a65c_add_9ea2d 2 = .ok (.getfield 63, 3) := by decide +kernel
theorem dJx4a65c_add_9ea2d_5 : decode cJx4a65c_add_9ea2d 5 = .ok (.iconst 1, 1) := by decide +kernel
theorem dJx4a65c_add_9ea2d_6 : decode cJx4a65c_add_9ea2d 6 = .ok (.iadd, 1) := by decide +kernel
theorem dJx4a65c_add_9ea2d_7 : decode cJx4a65c_add_9ea2d 7 = .ok (.putfield 63, 3) := by decide +kernel
theorem dJx4a65c_add_9ea2d_10 : decode cJx4a65c_add_9ea2d 10 = .ok (.aload_n 0, 1) := by decide +kernel
theorem dJx4a65c_add_9ea2d_11 : decode cJx4a65c_add_9ea2d 11 = .ok (.aload_n 1, 1) := by decide +kernel
theorem dJx4a65c_add_9ea2d_12 : decode cJx4a65c_add_9ea2d 12 = .ok (.aload_n 0, 1) := by decide +kernel
theorem dJx4a65c_add_9ea2d_13 : decode cJx4a65c_add_9ea2d 13 = .ok (.getfield 9, 3) := by decide +kernel
theorem dJx4a65c_add_9ea2d_16 : decode cJx4a65c_add_9ea2d 16 = .ok (.aload_n 0, 1) := by decide +kernel
theorem dJx4a65c_add_9ea2d_17 : decode cJx4a65c_add_9ea2d 17 = .ok (.getfield 48, 3) := by decide +kernel
theorem dJx4a65c_add_9ea2d_20 : decode cJx4a65c_add_9ea2d 20 = .ok (.invokevirtual 131, 3) := by decide +kernel
theorem dJx4a65c_add_9ea2d_23 : decode cJx4a65c_add_9ea2d 23 = .ok (.iconst 1, 1) := by decide +kernel
theorem dJx4a65c_add_9ea2d_24 : decode cJx4a65c_add_9ea2d 24 = .ok (.ireturn, 1) := by decide +kernel
theorem dJ7_copyOf_1904c_0 : decode cJ7_copyOf_1904c 0 = .ok (.aload_n 0, 1) := by decide +kernel
theorem dJ7_copyOf_1904c_1 : decode cJ7_copyOf_1904c 1 = .ok (.iload_n 1, 1) := by decide +kernel
theorem dJ7_copyOf_1904c_2 : decode cJ7_copyOf_1904c 2 = .ok (.aload_n 0, 1) := by decide +kernel
theorem dJ7_copyOf_1904c_3 : decode cJ7_copyOf_1904c 3 = .ok (.invokevirtual 86, 3) := by decide +kernel
theorem dJ7_copyOf_1904c_6 : decode cJ7_copyOf_1904c 6 = .ok (.invokestatic 300, 3) := by decide +kernel
theorem dJ7_copyOf_1904c_9 : decode cJ7_copyOf_1904c 9 = .ok (.areturn, 1) := by decide +kernel
theorem dJ7_copyOf_6403c_0 : decode cJ7_copyOf_6403c 0 = .ok (.aload_n 2, 1) := by decide +kernel
theorem dJ7_copyOf_6403c_1 : decode cJ7_copyOf_6403c 1 = .ok (.ldc 110, 2) := by decide +kernel
theorem dJ7_copyOf_6403c_3 : decode cJ7_copyOf_6403c 3 = .ok (.if_acmp .ne 10, 3) := by decide +kernel
theorem dJ7_copyOf_6403c_6 : decode cJ7_copyOf_6403c 6 = .ok (.iload_n 1, 1) := by decide +kernel
theorem dJ7_copyOf_6403c_7 : decode cJ7_copyOf_6403c 7 = .ok (.anewarray 2, 3) := by decide +kernel
theorem dJ7_copyOf_6403c_10 : decode cJ7_copyOf_6403c 10 = .ok (.goto 14, 3) := by decide +kernel
theorem dJ7_copyOf_6403c_13 : decode cJ7_copyOf_6403c 13 = .ok (.aload_n 2, 1) := by decide +kernel
theorem dJ7_copyOf_6403c_14 : decode cJ7_copyOf_6403c 14 = .ok (.invokevirtual 90, 3) := by decide +kernel
theorem dJ7_copyOf_6403c_17 : decode cJ7_copyOf_6403c 17 = .ok (.iload_n 1, 1) := by decide +kernel
theorem dJ7_copyOf_6403c_18 : decode cJ7_copyOf_6403c 18 = .ok (.invokestatic 95, 3) := by decide +kernel
theorem dJ7_copyOf_6403c_21 : decode cJ7_copyOf_6403c 21 = .ok (.checkcast 110, 3) := by decide +kernel
theorem dJ7_copyOf_6403c_24 : decode cJ7_copyOf_6403c 24 = .ok (.astore_n 3, 1) := by decide +kernel
theorem dJ7_copyOf_6403c_25 : decode cJ7_copyOf_6403c 25 = .ok (.aload_n 0, 1) := by decide +kernel
theorem dJ7_copyOf_6403c_26 : decode cJ7_copyOf_6403c 26 = .ok (.iconst 0, 1) := by decide +kernel
theorem dJ7_copyOf_6403c_27 : decode cJ7_copyOf_6403c 27 = .ok (.aload_n 3, 1) := by decide +kernel
theorem dJ7_copyOf_6403c_28 : decode cJ7_copyOf_6403c 28 = .ok (.iconst 0, 1) := by decide +kernel
theorem dJ7_copyOf_6403c_29 : decode cJ7_copyOf_6403c 29 = .ok (.aload_n 0, 1) := by decide +kernel
theorem dJ7_copyOf_6403c_30 : decode cJ7_copyOf_6403c 30 = .ok (.arraylength, 1) := by decide +kernel
theorem dJ7_copyOf_6403c_31 : decode cJ7_copyOf_6403c 31 = .ok (.iload_n 1, 1) := by decide +kernel
theorem dJ7_copyOf_6403c_32 : decode cJ7_copyOf_6403c 32 = .ok (.invokestatic 304, 3) := by decide +kernel
theorem dJ7_copyOf_6403c_35 : decode cJ7_copyOf_6403c 35 = .ok (.invokestatic 150, 3) := by decide +kernel
theorem dJ7_copyOf_6403c_38 : decode cJ7_copyOf_6403c 38 = .ok (.aload_n 3, 1) := by decide +kernel
theorem dJ7_copyOf_6403c_39 : decode cJ7_copyOf_6403c 39 = .ok (.areturn, 1) := by decide +kernel
theorem dJ15_checkIndex_7cf53_0 : decode cJ15_checkIndex_7cf53 0 = .ok (.iload_n 0, 1) := by decide +kernel
theorem dJ15_checkIndex_7cf53_1 : decode cJ15_checkIndex_7cf53 1 = .ok (.iload_n 1, 1) := by decide +kernel
theorem dJ15_checkIndex_7cf53_2 : decode cJ15_checkIndex_7cf53 2 = .ok (.aconst_null, 1) := by decide +kernel
theorem dJ15_checkIndex_7cf53_3 : decode cJ15_checkIndex_7cf53 3 = .ok (.invokestatic 105, 3) := by decide +kernel
theorem dJ15_checkIndex_7cf53_6 : decode cJ15_checkIndex_7cf53 6 = .ok (.ireturn, 1) := by decide +kernel
theorem dJ8_newLength_cabcc_0 : decode cJ8_newLength_cabcc 0 = .ok (.iload_n 0, 1) := by decide +kernel
theorem dJ8_newLength_cabcc_1 : decode cJ8_newLength_cabcc 1 = .ok (.iload_n 1, 1) := by decide +kernel
theorem dJ8_newLength_cabcc_2 : decode cJ8_newLength_cabcc 2 = .ok (.iload_n 2, 1) := by decide +kernel
theorem dJ8_newLength_cabcc_3 : decode cJ8_newLength_cabcc 3 = .ok (.invokestatic 194, 3) := by decide +kernel
theorem dJ8_newLength_cabcc_6 : decode cJ8_newLength_cabcc 6 = .ok (.iadd, 1) := by decide +kernel
theorem dJ8_newLength_cabcc_7 : decode cJ8_newLength_cabcc 7 = .ok (.istore_n 3, 1) := by decide +kernel
theorem dJ8_newLength_cabcc_8 : decode cJ8_newLength_cabcc 8 = .ok (.iconst 0, 1) := by decide +kernel
theorem dJ8_newLength_cabcc_9 : decode cJ8_newLength_cabcc 9 = .ok (.iload_n 3, 1) := by decide +kernel
theorem dJ8_newLength_cabcc_10 : decode cJ8_newLength_cabcc 10 = .ok (.if_icmp .ge 11, 3) := by decide +kernel
theorem dJ8_newLength_cabcc_13 : decode cJ8_newLength_cabcc 13 = .ok (.iload_n 3, 1) := by decide +kernel
theorem dJ8_newLength_cabcc_14 : decode cJ8_newLength_cabcc 14 = .ok (.ldc 200, 2) := by decide +kernel
theorem dJ8_newLength_cabcc_16 : decode cJ8_newLength_cabcc 16 = .ok (.if_icmp .gt 5, 3) := by decide +kernel
theorem dJ8_newLength_cabcc_19 : decode cJ8_newLength_cabcc 19 = .ok (.iload_n 3, 1) := by decide +kernel
theorem dJ8_newLength_cabcc_20 : decode cJ8_newLength_cabcc 20 = .ok (.ireturn, 1) := by decide +kernel
theorem dJ8_newLength_cabcc_21 : decode cJ8_newLength_cabcc 21 = .ok (.iload_n 0, 1) := by decide +kernel
theorem dJ8_newLength_cabcc_22 : decode cJ8_newLength_cabcc 22 = .ok (.iload_n 1, 1) := by decide +kernel
theorem dJ8_newLength_cabcc_23 : decode cJ8_newLength_cabcc 23 = .ok (.invokestatic 201, 3) := by decide +kernel
theorem dJ8_newLength_cabcc_26 : decode cJ8_newLength_cabcc 26 = .ok (.ireturn, 1) := by decide +kernel
theorem dJ8_hugeLength_7cf53_0 : decode cJ8_hugeLength_7cf53 0 = .ok (.iload_n 0, 1) := by decide +kernel
theorem dJ8_hugeLength_7cf53_1 : decode cJ8_hugeLength_7cf53 1 = .ok (.iload_n 1, 1) := by decide +kernel
theorem dJ8_hugeLength_7cf53_2 : decode cJ8_hugeLength_7cf53 2 = .ok (.iadd, 1) := by decide +kernel
theorem dJ8_hugeLength_7cf53_3 : decode cJ8_hugeLength_7cf53 3 = .ok (.istore_n 2, 1) := by decide +kernel
theorem dJ8_hugeLength_7cf53_4 : decode cJ8_hugeLength_7cf53 4 = .ok (.iload_n 2, 1) := by decide +kernel
theorem dJ8_hugeLength_7cf53_5 : decode cJ8_hugeLength_7cf53 5 = .ok (.ifCond .ge 44, 3) := by decide +kernel
theorem dJ8_hugeLength_7cf53_8 : decode cJ8_hugeLength_7cf53 8 = .ok (.new 204, 3) := by decide +kernel
theorem dJ8_hugeLength_7cf53_11 : decode cJ8_hugeLength_7cf53 11 = .ok (.dup, 1) := by decide +kernel
theorem dJ8_hugeLength_7cf53_12 : decode cJ8_hugeLength_7cf53 12 = .ok (.new 89, 3) := by decide +kernel
theorem dJ8_hugeLength_7cf53_15 : decode cJ8_hugeLength_7cf53 15 = .ok (.dup, 1) := by decide +kernel
theorem dJ8_hugeLength_7cf53_16 : decode cJ8_hugeLength_7cf53 16 = .ok (.invokespecial 91, 3) := by decide +kernel
theorem dJ8_hugeLength_7cf53_19 : decode cJ8_hugeLength_7cf53 19 = .ok (.ldc 206, 2) := by decide +kernel
theorem dJ8_hugeLength_7cf53_21 : decode cJ8_hugeLength_7cf53 21 = .ok (.invokevirtual 94, 3) := by decide +kernel
theorem dJ8_hugeLength_7cf53_24 : decode cJ8_hugeLength_7cf53 24 = .ok (.iload_n 0, 1) := by decide +kernel
theorem dJ8_hugeLength_7cf53_25 : decode cJ8_hugeLength_7cf53 25 = .ok (.invokevirtual 98, 3) := by decide +kernel
theorem dJ8_hugeLength_7cf53_28 : decode cJ8_hugeLength_7cf53 28 = .ok (.ldc 208, 2) := by decide +kernel
theorem dJ8_hugeLength_7cf53_30 : decode cJ8_hugeLength_7cf53 30 = .ok (.invokevirtual 94, 3) := by decide +kernel
theorem dJ8_hugeLength_7cf53_33 : decode cJ8_hugeLength_7cf53 33 = .ok (.iload_n 1, 1) := by decide +kernel
theorem dJ8_hugeLength_7cf53_34 : decode cJ8_hugeLength_7cf53 34 = .ok (.invokevirtual 98, 3) := by decide +kernel
theorem dJ8_hugeLength_7cf53_37 : decode cJ8_hugeLength_7cf53 37 = .ok (.ldc 210, 2) := by decide +kernel
theorem dJ8_hugeLength_7cf53_39 : decode cJ8_hugeLength_7cf53 39 = .ok (.invokevirtual 94, 3) := by decide +kernel
theorem dJ8_hugeLength_7cf53_42 : decode cJ8_hugeLength_7cf53 42 = .ok (.invokevirtual 101, 3) := by decide +kernel
theorem dJ8_hugeLength_7cf53_45 : decode cJ8_hugeLength_7cf53 45 = .ok (.invokespecial 212, 3) := by decide +kernel
theorem dJ8_hugeLength_7cf53_48 : decode cJ8_hugeLength_7cf53 48 = .ok (.athrow, 1) := by decide +kernel
theorem dJ8_hugeLength_7cf53_49 : decode cJ8_hugeLength_7cf53 49 = .ok (.iload_n 2, 1) := by decide +kernel
theorem dJ8_hugeLength_7cf53_50 : decode cJ8_hugeLength_7cf53 50 = .ok (.ldc 200, 2) := by decide +kernel
theorem dJ8_hugeLength_7cf53_52 : decode cJ8_hugeLength_7cf53 52 = .ok (.if_icmp .gt 6, 3) := by decide +kernel
theorem dJ8_hugeLength_7cf53_55 : decode cJ8_hugeLength_7cf53 55 = .ok (.ldc 200, 2) := by decide +kernel
theorem dJ8_hugeLength_7cf53_57 : decode cJ8_hugeLength_7cf53 57 = .ok (.ireturn, 1) := by decide +kernel
theorem dJ8_hugeLength_7cf53_58 : decode cJ8_hugeLength_7cf53 58 = .ok (.iload_n 2, 1) := by decide +kernel
theorem dJ8_hugeLength_7cf53_59 : decode cJ8_hugeLength_7cf53 59 = .ok (.ireturn, 1) := by decide +kernel
theorem dJ3_checkIndex_8e157_0 : decode cJ3_checkIndex_8e157 0 = .ok (.iload_n 0, 1) := by decide +kernel
theorem dJ3_checkIndex_8e157_1 : decode cJ3_checkIndex_8e157 1 = .ok (.ifCond .lt 8, 3) := by decide +kernel
theorem dJ3_checkIndex_8e157_4 : decode cJ3_checkIndex_8e157 4 = .ok (.iload_n 0, 1) := by decide +kernel
theorem dJ3_checkIndex_8e157_5 : decode cJ3_checkIndex_8e157 5 = .ok (.iload_n 1, 1) := by decide +kernel
theorem dJ3_checkIndex_8e157_6 : decode cJ3_checkIndex_8e157 6 = .ok (.if_icmp .lt 10, 3) := by decide +kernel
theorem dJ3_checkIndex_8e157_9 : decode cJ3_checkIndex_8e157 9 = .ok (.aload_n 2, 1) := by decide +kernel
theorem dJ3_checkIndex_8e157_10 : decode cJ3_checkIndex_8e157 10 = .ok (.iload_n 0, 1) := by decide +kernel
theorem dJ3_checkIndex_8e157_11 : decode cJ3_checkIndex_8e157 11 = .ok (.iload_n 1, 1) := by decide +kernel
theorem dJ3_checkIndex_8e157_12 : decode cJ3_checkIndex_8e157 12 = .ok (.invokestatic 95, 3) := by decide +kernel
theorem dJ3_checkIndex_8e157_15 : decode cJ3_checkIndex_8e157 15 = .ok (.athrow, 1) := by decide +kernel
theorem dJ3_checkIndex_8e157_16 : decode cJ3_checkIndex_8e157 16 = .ok (.iload_n 0, 1) := by decide +kernel
theorem dJ3_checkIndex_8e157_17 : decode cJ3_checkIndex_8e157 17 = .ok (.ireturn, 1) := by decide +kernel
theorem dL_alert_0 : decode cL_alert 0 = .ok (.aload_n 3, 1) := by decide +kernel
theorem dL_alert_1 : decode cL_alert 1 = .ok (.iconst 0, 1) := by decide +kernel
theorem dL_alert_2 : decode cL_alert 2 = .ok (.aload_n 0, 1) := by decide +kernel
theorem dL_alert_3 : decode cL_alert 3 = .ok (.iload_n 1, 1) := by decide +kernel
theorem dL_alert_4 : decode cL_alert 4 = .ok (.iload_n 2, 1) := by decide +kernel
theorem dL_alert_5 : decode cL_alert 5 = .ok (.invokevirtual 7, 3) := by decide +kernel
theorem dL_alert_8 : decode cL_alert 8 = .ok (.i2l, 1) := by decide +kernel
theorem dL_alert_9 : decode cL_alert 9 = .ok (.lastore, 1) := by decide +kernel
theorem dL_alert_10 : decode cL_alert 10 = .ok (.goto 7, 3) := by decide +kernel
theorem dL_alert_13 : decode cL_alert 13 = .ok (.astore 4, 2) := by decide +kernel
theorem dL_alert_15 : decode cL_alert 15 = .ok (.iconst 1, 1) := by decide +kernel
theorem dL_alert_16 : decode cL_alert 16 = .ok (.ireturn, 1) := by decide +kernel
theorem dL_alert_17 : decode cL_alert 17 = .ok (.iconst 0, 1) := by decide +kernel
theorem dL_alert_18 : decode cL_alert 18 = .ok (.ireturn, 1) := by decide +kernel
theorem dL_key_0 : decode cL_key 0 = .ok (.aload 4, 2) := by decide +kernel
theorem dL_key_2 : decode cL_key 2 = .ok (.iconst 0, 1) := by decide +kernel
theorem dL_key_3 : decode cL_key 3 = .ok (.aload_n 0, 1) := by decide +kernel
