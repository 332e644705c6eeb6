theorem dX6_readRecord_221 : decode cX6_readRecord 221 = .ok (.l2i, 1) := by decide +kernel
theorem dX6_readRecord_222 : decode cX6_readRecord 222 = .ok (.lload 7, 2) := by decide +kernel
theorem dX6_readRecord_224 : decode cX6_readRecord 224 = .ok (.iconst (-1), 1) := by decide +kernel
theorem dX6_readRecord_225 : decode cX6_readRecord 225 = .ok (.aload 10, 2) := by decide +kernel
theorem dX6_readRecord_227 : decode cX6_readRecord 227 = .ok (.aload 11, 2) := by decide +kernel
theorem dX6_readRecord_229 : decode cX6_readRecord 229 = .ok (.invokespecial 69, 3) := by decide +kernel
theorem dX6_readRecord_232 : decode cX6_readRecord 232 = .ok (.goto 4, 3) := by decide +kernel
theorem dX6_readRecord_235 : decode cX6_readRecord 235 = .ok (.aconst_null, 1) := by decide +kernel
theorem dX6_readRecord_236 : decode cX6_readRecord 236 = .ok (.areturn, 1) := by decide +kernel
theorem dX6_readWord_0 : decode cX6_readWord 0 = .ok (.aload_n 0, 1) := by decide +kernel
theorem dX6_readWord_1 : decode cX6_readWord 1 = .ok (.iconst 1, 1) := by decide +kernel
theorem dX6_readWord_2 : decode cX6_readWord 2 = .ok (.iload_n 1, 1) := by decide +kernel
theorem dX6_readWord_3 : decode cX6_readWord 3 = .ok (.invokevirtual 44, 3) := by decide +kernel
theorem dX6_readWord_6 : decode cX6_readWord 6 = .ok (.istore_n 2, 1) := by decide +kernel
theorem dX6_readWord_7 : decode cX6_readWord 7 = .ok (.lconst 0, 1) := by decide +kernel
theorem dX6_readWord_8 : decode cX6_readWord 8 = .ok (.lstore_n 3, 1) := by decide +kernel
theorem dX6_readWord_9 : decode cX6_readWord 9 = .ok (.iconst 0, 1) := by decide +kernel
theorem dX6_readWord_10 : decode cX6_readWord 10 = .ok (.istore 5, 2) := by decide +kernel
theorem dX6_readWord_12 : decode cX6_readWord 12 = .ok (.iload 5, 2) := by decide +kernel
theorem dX6_readWord_14 : decode cX6_readWord 14 = .ok (.iload_n 2, 1) := by decide +kernel
theorem dX6_readWord_15 : decode cX6_readWord 15 = .ok (.if_icmp .ge 24, 3) := by decide +kernel
theorem dX6_readWord_18 : decode cX6_readWord 18 = .ok (.lload_n 3, 1) := by decide +kernel
theorem dX6_readWord_19 : decode cX6_readWord 19 = .ok (.iload 5, 2) := by decide +kernel
theorem dX6_readWord_21 : decode cX6_readWord 21 = .ok (.aload_n 0, 1) := by decide +kernel
theorem dX6_readWord_22 : decode cX6_readWord 22 = .ok (.bipush 97, 2) := by decide +kernel
theorem dX6_readWord_24 : decode cX6_readWord 24 = .ok (.bipush 122, 2) := by decide +kernel
theorem dX6_readWord_26 : decode cX6_readWord 26 = .ok (.invokevirtual 44, 3) := by decide +kernel
theorem dX6_readWord_29 : decode cX6_readWord 29 = .ok (.invokestatic 72, 3) := by decide +kernel
theorem dX6_readWord_32 : decode cX6_readWord 32 = .ok (.lstore_n 3, 1) := by decide +kernel
theorem dX6_readWord_33 : decode cX6_readWord 33 = .ok (.iinc 5 1, 3) := by decide +kernel
theorem dX6_readWord_36 : decode cX6_readWord 36 = .ok (.goto (-24), 3) := by decide +kernel
theorem dX6_readWord_39 : decode cX6_readWord 39 = .ok (.lload_n 3, 1) := by decide +kernel
theorem dX6_readWord_40 : decode cX6_readWord 40 = .ok (.lreturn, 1) := by decide +kernel
theorem dX6_readValue_0 : decode cX6_readValue 0 = .ok (.iload_n 1, 1) := by decide +kernel
theorem dX6_readValue_1 : decode cX6_readValue 1 = .ok (.ifCond .ne 45, 3) := by decide +kernel
theorem dX6_readValue_4 : decode cX6_readValue 4 = .ok (.aload_n 0, 1) := by decide +kernel
theorem dX6_readValue_5 : decode cX6_readValue 5 = .ok (.invokevirtual 47, 3) := by decide +kernel
theorem dX6_readValue_8 : decode cX6_readValue 8 = .ok (.lstore_n 2, 1) := by decide +kernel
theorem dX6_readValue_9 : decode cX6_readValue 9 = .ok (.lload_n 2, 1) := by decide +kernel
theorem dX6_readValue_10 : decode cX6_readValue 10 = .ok (.lconst 1, 1) := by decide +kernel
theorem dX6_readValue_11 : decode cX6_readValue 11 = .ok (.land, 1) := by decide +kernel
theorem dX6_readValue_12 : decode cX6_readValue 12 = .ok (.lconst 0, 1) := by decide +kernel
theorem dX6_readValue_13 : decode cX6_readValue 13 = .ok (.lcmp, 1) := by decide +kernel
theorem dX6_readValue_14 : decode cX6_readValue 14 = .ok (.ifCond .ne 9, 3) := by decide +kernel
theorem dX6_readValue_17 : decode cX6_readValue 17 = .ok (.lload_n 2, 1) := by decide +kernel
theorem dX6_readValue_18 : decode cX6_readValue 18 = .ok (.iconst 1, 1) := by decide +kernel
theorem dX6_readValue_19 : decode cX6_readValue 19 = .ok (.lshr, 1) := by decide +kernel
theorem dX6_readValue_20 : decode cX6_readValue 20 = .ok (.goto 9, 3) := by decide +kernel
theorem dX6_readValue_23 : decode cX6_readValue 23 = .ok (.lload_n 2, 1) := by decide +kernel
theorem dX6_readValue_24 : decode cX6_readValue 24 = .ok (.iconst 1, 1) := by decide +kernel
theorem dX6_readValue_25 : decode cX6_readValue 25 = .ok (.lshr, 1) := by decide +kernel
theorem dX6_readValue_26 : decode cX6_readValue 26 = .ok (.lneg, 1) := by decide +kernel
theorem dX6_readValue_27 : decode cX6_readValue 27 = .ok (.lconst 1, 1) := by decide +kernel
theorem dX6_readValue_28 : decode cX6_readValue 28 = .ok (.lsub, 1) := by decide +kernel
theorem dX6_readValue_29 : decode cX6_readValue 29 = .ok (.lstore 4, 2) := by decide +kernel
theorem dX6_readValue_31 : decode cX6_readValue 31 = .ok (.new 57, 3) := by decide +kernel
theorem dX6_readValue_34 : decode cX6_readValue 34 = .ok (.dup, 1) := by decide +kernel
theorem dX6_readValue_35 : decode cX6_readValue 35 = .ok (.iconst 0, 1) := by decide +kernel
theorem dX6_readValue_36 : decode cX6_readValue 36 = .ok (.lload 4, 2) := by decide +kernel
theorem dX6_readValue_38 : decode cX6_readValue 38 = .ok (.l2i, 1) := by decide +kernel
theorem dX6_readValue_39 : decode cX6_readValue 39 = .ok (.getstatic 15, 3) := by decide +kernel
theorem dX6_readValue_42 : decode cX6_readValue 42 = .ok (.invokespecial 76, 3) := by decide +kernel
theorem dX6_readValue_45 : decode cX6_readValue 45 = .ok (.areturn, 1) := by decide +kernel
theorem dX6_readValue_46 : decode cX6_readValue 46 = .ok (.iload_n 1, 1) := by decide +kernel
theorem dX6_readValue_47 : decode cX6_readValue 47 = .ok (.iconst 2, 1) := by decide +kernel
theorem dX6_readValue_48 : decode cX6_readValue 48 = .ok (.if_icmp .ne 45, 3) := by decide +kernel
theorem dX6_readValue_51 : decode cX6_readValue 51 = .ok (.iconst 0, 1) := by decide +kernel
theorem dX6_readValue_52 : decode cX6_readValue 52 = .ok (.istore_n 2, 1) := by decide +kernel
theorem dX6_readValue_53 : decode cX6_readValue 53 = .ok (.iconst 0, 1) := by decide +kernel
theorem dX6_readValue_54 : decode cX6_readValue 54 = .ok (.istore_n 3, 1) := by decide +kernel
theorem dX6_readValue_55 : decode cX6_readValue 55 = .ok (.iload_n 3, 1) := by decide +kernel
theorem dX6_readValue_56 : decode cX6_readValue 56 = .ok (.iconst 4, 1) := by decide +kernel
theorem dX6_readValue_57 : decode cX6_readValue 57 = .ok (.if_icmp .ge 23, 3) := by decide +kernel
theorem dX6_readValue_60 : decode cX6_readValue 60 = .ok (.iload_n 2, 1) := by decide +kernel
theorem dX6_readValue_61 : decode cX6_readValue 61 = .ok (.bipush 8, 2) := by decide +kernel
theorem dX6_readValue_63 : decode cX6_readValue 63 = .ok (.ishl, 1) := by decide +kernel
theorem dX6_readValue_64 : decode cX6_readValue 64 = .ok (.aload_n 0, 1) := by decide +kernel
theorem dX6_readValue_65 : decode cX6_readValue 65 = .ok (.iconst 0, 1) := by decide +kernel
theorem dX6_readValue_66 : decode cX6_readValue 66 = .ok (.sipush 255, 3) := by decide +kernel
theorem dX6_readValue_69 : decode cX6_readValue 69 = .ok (.invokevirtual 44, 3) := by decide +kernel
theorem dX6_readValue_72 : decode cX6_readValue 72 = .ok (.ior, 1) := by decide +kernel
theorem dX6_readValue_73 : decode cX6_readValue 73 = .ok (.istore_n 2, 1) := by decide +kernel
theorem dX6_readValue_74 : decode cX6_readValue 74 = .ok (.iinc 3 1, 3) := by decide +kernel
theorem dX6_readValue_77 : decode cX6_readValue 77 = .ok (.goto (-22), 3) := by decide +kernel
theorem dX6_readValue_80 : decode cX6_readValue 80 = .ok (.new 57, 3) := by decide +kernel
theorem dX6_readValue_83 : decode cX6_readValue 83 = .ok (.dup, 1) := by decide +kernel
theorem dX6_readValue_84 : decode cX6_readValue 84 = .ok (.iconst 2, 1) := by decide +kernel
theorem dX6_readValue_85 : decode cX6_readValue 85 = .ok (.iload_n 2, 1) := by decide +kernel
theorem dX6_readValue_86 : decode cX6_readValue 86 = .ok (.getstatic 15, 3) := by decide +kernel
theorem dX6_readValue_89 : decode cX6_readValue 89 = .ok (.invokespecial 76, 3) := by decide +kernel
theorem dX6_readValue_92 : decode cX6_readValue 92 = .ok (.areturn, 1) := by decide +kernel
theorem dX6_readValue_93 : decode cX6_readValue 93 = .ok (.aload_n 0, 1) := by decide +kernel
theorem dX6_readValue_94 : decode cX6_readValue 94 = .ok (.iconst 0, 1) := by decide +kernel
theorem dX6_readValue_95 : decode cX6_readValue 95 = .ok (.bipush 24, 2) := by decide +kernel
theorem dX6_readValue_97 : decode cX6_readValue 97 = .ok (.invokevirtual 44, 3) := by decide +kernel
theorem dX6_readValue_100 : decode cX6_readValue 100 = .ok (.istore_n 2, 1) := by decide +kernel
theorem dX6_readValue_101 : decode cX6_readValue 101 = .ok (.iload_n 2, 1) := by decide +kernel
theorem dX6_readValue_102 : decode cX6_readValue 102 = .ok (.ifCond .ne 9, 3) := by decide +kernel
theorem dX6_readValue_105 : decode cX6_readValue 105 = .ok (.getstatic 15, 3) := by decide +kernel
theorem dX6_readValue_108 : decode cX6_readValue 108 = .ok (.goto 6, 3) := by decide +kernel
theorem dX6_readValue_111 : decode cX6_readValue 111 = .ok (.iload_n 2, 1) := by decide +kernel
theorem dX6_readValue_112 : decode cX6_readValue 112 = .ok (.newarray .int, 2) := by decide +kernel
theorem dX6_readValue_114 : decode cX6_readValue 114 = .ok (.astore_n 3, 1) := by decide +kernel
theorem dX6_readValue_115 : decode cX6_readValue 115 = .ok (.iconst 0, 1) := by decide +kernel
theorem dX6_readValue_116 : decode cX6_readValue 116 = .ok (.istore 4, 2) := by decide +kernel
theorem dX6_readValue_118 : decode cX6_readValue 118 = .ok (.iload 4, 2) := by decide +kernel
theorem dX6_readValue_120 : decode cX6_readValue 120 = .ok (.iload_n 2, 1) := by decide +kernel
theorem dX6_readValue_121 : decode cX6_readValue 121 = .ok (.if_icmp .ge 21, 3) := by decide +kernel
theorem dX6_readValue_124 : decode cX6_readValue 124 = .ok (.aload_n 3, 1) := by decide +kernel
theorem dX6_readValue_125 : decode cX6_readValue 125 = .ok (.iload 4, 2) := by decide +kernel
theorem dX6_readValue_127 : decode cX6_readValue 127 = .ok (.aload_n 0, 1) := by decide +kernel
theorem dX6_readValue_128 : decode cX6_readValue 128 = .ok (.bipush 32, 2) := by decide +kernel
theorem dX6_readValue_130 : decode cX6_readValue 130 = .ok (.bipush 126, 2) := by decide +kernel
theorem dX6_readValue_132 : decode cX6_readValue 132 = .ok (.invokevirtual 44, 3) := by decide +kernel
theorem dX6_readValue_135 : decode cX6_readValue 135 = .ok (.iastore, 1) := by decide +kernel
theorem dX6_readValue_136 : decode cX6_readValue 136 = .ok (.iinc 4 1, 3) := by decide +kernel
theorem dX6_readValue_139 : decode cX6_readValue 139 = .ok (.goto (-21), 3) := by decide +kernel
theorem dX6_readValue_142 : decode cX6_readValue 142 = .ok (.new 57, 3) := by decide +kernel
theorem dX6_readValue_145 : decode cX6_readValue 145 = .ok (.dup, 1) := by decide +kernel
theorem dX6_readValue_146 : decode cX6_readValue 146 = .ok (.iconst 1, 1) := by decide +kernel
theorem dX6_readValue_147 : decode cX6_readValue 147 = .ok (.iload_n 2, 1) := by decide +kernel
theorem dX6_readValue_148 : decode cX6_readValue 148 = .ok (.aload_n 3, 1) := by decide +kernel
theorem dX6_readValue_149 : decode cX6_readValue 149 = .ok (.invokespecial 76, 3) := by decide +kernel
theorem dX6_readValue_152 : decode cX6_readValue 152 = .ok (.areturn, 1) := by decide +kernel
theorem dX6_readUnsigned_0 : decode cX6_readUnsigned 0 = .ok (.aload_n 0, 1) := by decide +kernel
theorem dX6_readUnsigned_1 : decode cX6_readUnsigned 1 = .ok (.getfield 34, 3) := by decide +kernel
theorem dX6_readUnsigned_4 : decode cX6_readUnsigned 4 = .ok (.istore_n 1, 1) := by decide +kernel
theorem dX6_readUnsigned_5 : decode cX6_readUnsigned 5 = .ok (.lconst 0, 1) := by decide +kernel
theorem dX6_readUnsigned_6 : decode cX6_readUnsigned 6 = .ok (.lstore_n 2, 1) := by decide +kernel
theorem dX6_readUnsigned_7 : decode cX6_readUnsigned 7 = .ok (.iconst 0, 1) := by decide +kernel
theorem dX6_readUnsigned_8 : decode cX6_readUnsigned 8 = .ok (.istore 4, 2) := by decide +kernel
theorem dX6_readUnsigned_10 : decode cX6_readUnsigned 10 = .ok (.iload 4, 2) := by decide +kernel
theorem dX6_readUnsigned_12 : decode cX6_readUnsigned 12 = .ok (.iconst 5, 1) := by decide +kernel
theorem dX6_readUnsigned_13 : decode cX6_readUnsigned 13 = .ok (.if_icmp .ge 74, 3) := by decide +kernel
theorem dX6_readUnsigned_16 : decode cX6_readUnsigned 16 = .ok (.aload_n 0, 1) := by decide +kernel
theorem dX6_readUnsigned_17 : decode cX6_readUnsigned 17 = .ok (.iconst 0, 1) := by decide +kernel
theorem dX6_readUnsigned_18 : decode cX6_readUnsigned 18 = .ok (.sipush 255, 3) := by decide +kernel
theorem dX6_readUnsigned_21 : decode cX6_readUnsigned 21 = .ok (.invokevirtual 44, 3) := by decide +kernel
theorem dX6_readUnsigned_24 : decode cX6_readUnsigned 24 = .ok (.istore 5, 2) := by decide +kernel
theorem dX6_readUnsigned_26 : decode cX6_readUnsigned 26 = .ok (.lload_n 2, 1) := by decide +kernel
theorem dX6_readUnsigned_27 : decode cX6_readUnsigned 27 = .ok (.iload 5, 2) := by decide +kernel
theorem dX6_readUnsigned_29 : decode cX6_readUnsigned 29 = .ok (.bipush 127, 2) := by decide +kernel
theorem dX6_readUnsigned_31 : decode cX6_readUnsigned 31 = .ok (.iand, 1) := by decide +kernel
theorem dX6_readUnsigned_32 : decode cX6_readUnsigned 32 = .ok (.i2l, 1) := by decide +kernel
theorem dX6_readUnsigned_33 : decode cX6_readUnsigned 33 = .ok (.bipush 7, 2) := by decide +kernel
theorem dX6_readUnsigned_35 : decode cX6_readUnsigned 35 = .ok (.iload 4, 2) := by decide +kernel
theorem dX6_readUnsigned_37 : decode cX6_readUnsigned 37 = .ok (.imul, 1) := by decide +kernel
theorem dX6_readUnsigned_38 : decode cX6_readUnsigned 38 = .ok (.lshl, 1) := by decide +kernel
theorem dX6_readUnsigned_39 : decode cX6_readUnsigned 39 = .ok (.lor, 1) := by decide +kernel
theorem dX6_readUnsigned_40 : decode cX6_readUnsigned 40 = .ok (.lstore_n 2, 1) := by decide +kernel
theorem dX6_readUnsigned_41 : decode cX6_readUnsigned 41 = .ok (.iload 4, 2) := by decide +kernel
theorem dX6_readUnsigned_43 : decode cX6_readUnsigned 43 = .ok (.iconst 4, 1) := by decide +kernel
theorem dX6_readUnsigned_44 : decode cX6_readUnsigned 44 = .ok (.if_icmp .ne 10, 3) := by decide +kernel
theorem dX6_readUnsigned_47 : decode cX6_readUnsigned 47 = .ok (.iload 5, 2) := by decide +kernel
theorem dX6_readUnsigned_49 : decode cX6_readUnsigned 49 = .ok (.bipush 15, 2) := by decide +kernel
theorem dX6_readUnsigned_51 : decode cX6_readUnsigned 51 = .ok (.if_icmp .gt 13, 3) := by decide +kernel
theorem dX6_readUnsigned_54 : decode cX6_readUnsigned 54 = .ok (.iload 4, 2) := by decide +kernel
theorem dX6_readUnsigned_56 : decode cX6_readUnsigned 56 = .ok (.ifCond .le 14, 3) := by decide +kernel
theorem dX6_readUnsigned_59 : decode cX6_readUnsigned 59 = .ok (.iload 5, 2) := by decide +kernel
theorem dX6_readUnsigned_61 : decode cX6_readUnsigned 61 = .ok (.ifCond .ne 9, 3) := by decide +kernel
theorem dX6_readUnsigned_64 : decode cX6_readUnsigned 64 = .ok (.aload_n 0, 1) := by decide +kernel
theorem dX6_readUnsigned_65 : decode cX6_readUnsigned 65 = .ok (.iconst 3, 1) := by decide +kernel
theorem dX6_readUnsigned_66 : decode cX6_readUnsigned 66 = .ok (.iload_n 1, 1) := by decide +kernel
theorem dX6_readUnsigned_67 : decode cX6_readUnsigned 67 = .ok (.invokevirtual 40, 3) := by decide +kernel
theorem dX6_readUnsigned_70 : decode cX6_readUnsigned 70 = .ok (.iload 5, 2) := by decide +kernel
theorem dX6_readUnsigned_72 : decode cX6_readUnsigned 72 = .ok (.sipush 128, 3) := by decide +kernel
theorem dX6_readUnsigned_75 : decode cX6_readUnsigned 75 = .ok (.if_icmp .ge 6, 3) := by decide +kernel
theorem dX6_readUnsigned_78 : decode cX6_readUnsigned 78 = .ok (.goto 9, 3) := by decide +kernel
theorem dX6_readUnsigned_81 : decode cX6_readUnsigned 81 = .ok (.iinc 4 1, 3) := by decide +kernel
theorem dX6_readUnsigned_84 : decode cX6_readUnsigned 84 = .ok (.goto (-74), 3) := by decide +kernel
theorem dX6_readUnsigned_87 : decode cX6_readUnsigned 87 = .ok (.lload_n 2, 1) := by decide +kernel
theorem dX6_readUnsigned_88 : decode cX6_readUnsigned 88 = .ok (.lreturn, 1) := by decide +kernel
theorem dX6_checkOf_0 : decode cX6_checkOf 0 = .ok (.iconst 0, 1) := by decide +kernel
theorem dX6_checkOf_1 : decode cX6_checkOf 1 = .ok (.istore_n 3, 1) := by decide +kernel
theorem dX6_checkOf_2 : decode cX6_checkOf 2 = .ok (.iload_n 1, 1) := by decide +kernel
theorem dX6_checkOf_3 : decode cX6_checkOf 3 = .ok (.iconst 0, 1) := by decide +kernel
theorem dX6_checkOf_4 : decode cX6_checkOf 4 = .ok (.invokestatic 79, 3) := by decide +kernel
theorem dX6_checkOf_7 : decode cX6_checkOf 7 = .ok (.istore 4, 2) := by decide +kernel
theorem dX6_checkOf_9 : decode cX6_checkOf 9 = .ok (.iload 4, 2) := by decide +kernel
theorem dX6_checkOf_11 : decode cX6_checkOf 11 = .ok (.iload_n 2, 1) := by decide +kernel
theorem dX6_checkOf_12 : decode cX6_checkOf 12 = .ok (.if_icmp .ge 56, 3) := by decide +kernel
theorem dX6_checkOf_15 : decode cX6_checkOf 15 = .ok (.iload 4, 2) := by decide +kernel
theorem dX6_checkOf_17 : decode cX6_checkOf 17 = .ok (.aload_n 0, 1) := by decide +kernel
theorem dX6_checkOf_18 : decode cX6_checkOf 18 = .ok (.arraylength, 1) := by decide +kernel
theorem dX6_checkOf_19 : decode cX6_checkOf 19 = .ok (.if_icmp .ge 49, 3) := by decide +kernel
theorem dX6_checkOf_22 : decode cX6_checkOf 22 = .ok (.iload_n 3, 1) := by decide +kernel
theorem dX6_checkOf_23 : decode cX6_checkOf 23 = .ok (.aload_n 0, 1) := by decide +kernel
theorem dX6_checkOf_24 : decode cX6_checkOf 24 = .ok (.iload 4, 2) := by decide +kernel
theorem dX6_checkOf_26 : decode cX6_checkOf 26 = .ok (.iaload, 1) := by decide +kernel
theorem dX6_checkOf_27 : decode cX6_checkOf 27 = .ok (.ixor, 1) := by decide +kernel
theorem dX6_checkOf_28 : decode cX6_checkOf 28 = .ok (.istore_n 3, 1) := by decide +kernel
theorem dX6_checkOf_29 : decode cX6_checkOf 29 = .ok (.iconst 0, 1) := by decide +kernel
theorem dX6_checkOf_30 : decode cX6_checkOf 30 = .ok (.istore 5, 2) := by decide +kernel
theorem dX6_checkOf_32 : decode cX6_checkOf 32 = .ok (.iload 5, 2) := by decide +kernel
theorem dX6_checkOf_34 : decode cX6_checkOf 34 = .ok (.bipush 8, 2) := by decide +kernel
theorem dX6_checkOf_36 : decode cX6_checkOf 36 = .ok (.if_icmp .ge 26, 3) := by decide +kernel
theorem dX6_checkOf_39 : decode cX6_checkOf 39 = .ok (.iload_n 3, 1) := by decide +kernel
theorem dX6_checkOf_40 : decode cX6_checkOf 40 = .ok (.iconst 2, 1) := by decide +kernel
theorem dX6_checkOf_41 : decode cX6_checkOf 41 = .ok (.imul, 1) := by decide +kernel
theorem dX6_checkOf_42 : decode cX6_checkOf 42 = .ok (.istore_n 3, 1) := by decide +kernel
theorem dX6_checkOf_43 : decode cX6_checkOf 43 = .ok (.iload_n 3, 1) := by decide +kernel
theorem dX6_checkOf_44 : decode cX6_checkOf 44 = .ok (.sipush 255, 3) := by decide +kernel
theorem dX6_checkOf_47 : decode cX6_checkOf 47 = .ok (.if_icmp .le 9, 3) := by decide +kernel
theorem dX6_checkOf_50 : decode cX6_checkOf 50 = .ok (.iload_n 3, 1) := by decide +kernel
theorem dX6_checkOf_51 : decode cX6_checkOf 51 = .ok (.sipush 263, 3) := by decide +kernel
theorem dX6_checkOf_54 : decode cX6_checkOf 54 = .ok (.ixor, 1) := by decide +kernel
theorem dX6_checkOf_55 : decode cX6_checkOf 55 = .ok (.istore_n 3, 1) := by decide +kernel
theorem dX6_checkOf_56 : decode cX6_checkOf 56 = .ok (.iinc 5 1, 3) := by decide +kernel
theorem dX6_checkOf_59 : decode cX6_checkOf 59 = .ok (.goto (-27), 3) := by decide +kernel
theorem dX6_checkOf_62 : decode cX6_checkOf 62 = .ok (.iinc 4 1, 3) := by decide +kernel
theorem dX6_checkOf_65 : decode cX6_checkOf 65 = .ok (.goto (-56), 3) := by decide +kernel
theorem dX6_checkOf_68 : decode cX6_checkOf 68 = .ok (.iload_n 3, 1) := by decide +kernel
theorem dX6_checkOf_69 : decode cX6_checkOf 69 = .ok (.ireturn, 1) := by decide +kernel
theorem dX6_packEvent_0 : decode cX6_packEvent 0 = .ok (.aload_n 0, 1) := by decide +kernel
theorem dX6_packEvent_1 : decode cX6_packEvent 1 = .ok (.iconst 0, 1) := by decide +kernel
theorem dX6_packEvent_2 : decode cX6_packEvent 2 = .ok (.putfield 82, 3) := by decide +kernel
theorem dX6_packEvent_5 : decode cX6_packEvent 5 = .ok (.aload_n 0, 1) := by decide +kernel
theorem dX6_packEvent_6 : decode cX6_packEvent 6 = .ok (.sipush 229, 3) := by decide +kernel
theorem dX6_packEvent_9 : decode cX6_packEvent 9 = .ok (.invokevirtual 85, 3) := by decide +kernel
theorem dX6_packEvent_12 : decode cX6_packEvent 12 = .ok (.aload_n 0, 1) := by decide +kernel
theorem dX6_packEvent_13 : decode cX6_packEvent 13 = .ok (.aload_n 1, 1) := by decide +kernel
theorem dX6_packEvent_14 : decode cX6_packEvent 14 = .ok (.getfield 89, 3) := by decide +kernel
theorem dX6_packEvent_17 : decode cX6_packEvent 17 = .ok (.iload_n 2, 1) := by decide +kernel
theorem dX6_packEvent_18 : decode cX6_packEvent 18 = .ok (.isub, 1) := by decide +kernel
theorem dX6_packEvent_19 : decode cX6_packEvent 19 = .ok (.i2l, 1) := by decide +kernel
theorem dX6_packEvent_20 : decode cX6_packEvent 20 = .ok (.invokevirtual 92, 3) := by decide +kernel
theorem dX6_packEvent_23 : decode cX6_packEvent 23 = .ok (.aload_n 0, 1) := by decide +kernel
theorem dX6_packEvent_24 : decode cX6_packEvent 24 = .ok (.aload_n 1, 1) := by decide +kernel
theorem dX6_packEvent_25 : decode cX6_packEvent 25 = .ok (.getfield 96, 3) := by decide +kernel
theorem dX6_packEvent_28 : decode cX6_packEvent 28 = .ok (.invokevirtual 100, 3) := by decide +kernel
theorem dX6_packEvent_31 : decode cX6_packEvent 31 = .ok (.aload_n 0, 1) := by decide +kernel
theorem dX6_packEvent_32 : decode cX6_packEvent 32 = .ok (.aload_n 1, 1) := by decide +kernel
theorem dX6_packEvent_33 : decode cX6_packEvent 33 = .ok (.getfield 103, 3) := by decide +kernel
theorem dX6_packEvent_36 : decode cX6_packEvent 36 = .ok (.arraylength, 1) := by decide +kernel
theorem dX6_packEvent_37 : decode cX6_packEvent 37 = .ok (.invokevirtual 85, 3) := by decide +kernel
theorem dX6_packEvent_40 : decode cX6_packEvent 40 = .ok (.iconst 0, 1) := by decide +kernel
theorem dX6_packEvent_41 : decode cX6_packEvent 41 = .ok (.istore_n 3, 1) := by decide +kernel
theorem dX6_packEvent_42 : decode cX6_packEvent 42 = .ok (.iload_n 3, 1) := by decide +kernel
theorem dX6_packEvent_43 : decode cX6_packEvent 43 = .ok (.aload_n 1, 1) := by decide +kernel
theorem dX6_packEvent_44 : decode cX6_packEvent 44 = .ok (.getfield 103, 3) := by decide +kernel
theorem dX6_packEvent_47 : decode cX6_packEvent 47 = .ok (.arraylength, 1) := by decide +kernel
theorem dX6_packEvent_48 : decode cX6_packEvent 48 = .ok (.if_icmp .ge 38, 3) := by decide +kernel
theorem dX6_packEvent_51 : decode cX6_packEvent 51 = .ok (.iload_n 3, 1) := by decide +kernel
theorem dX6_packEvent_52 : decode cX6_packEvent 52 = .ok (.aload_n 1, 1) := by decide +kernel
theorem dX6_packEvent_53 : decode cX6_packEvent 53 = .ok (.getfield 107, 3) := by decide +kernel
theorem dX6_packEvent_56 : decode cX6_packEvent 56 = .ok (.arraylength, 1) := by decide +kernel
theorem dX6_packEvent_57 : decode cX6_packEvent 57 = .ok (.if_icmp .ge 29, 3) := by decide +kernel
theorem dX6_packEvent_60 : decode cX6_packEvent 60 = .ok (.aload_n 0, 1) := by decide +kernel
theorem dX6_packEvent_61 : decode cX6_packEvent 61 = .ok (.aload_n 1, 1) := by decide +kernel
theorem dX6_packEvent_62 : decode cX6_packEvent 62 = .ok (.getfield 103, 3) := by decide +kernel
theorem dX6_packEvent_65 : decode cX6_packEvent 65 = .ok (.iload_n 3, 1) := by decide +kernel
theorem dX6_packEvent_66 : decode cX6_packEvent 66 = .ok (.laload, 1) := by decide +kernel
theorem dX6_packEvent_67 : decode cX6_packEvent 67 = .ok (.invokevirtual 100, 3) := by decide +kernel
theorem dX6_packEvent_70 : decode cX6_packEvent 70 = .ok (.aload_n 0, 1) := by decide +kernel
theorem dX6_packEvent_71 : decode cX6_packEvent 71 = .ok (.aload_n 1, 1) := by decide +kernel
theorem dX6_packEvent_72 : decode cX6_packEvent 72 = .ok (.getfield 107, 3) := by decide +kernel
theorem dX6_packEvent_75 : decode cX6_packEvent 75 = .ok (.iload_n 3, 1) := by decide +kernel
theorem dX6_packEvent_76 : decode cX6_packEvent 76 = .ok (.aaload, 1) := by decide +kernel
theorem dX6_packEvent_77 : decode cX6_packEvent 77 = .ok (.invokevirtual 111, 3) := by decide +kernel
theorem dX6_packEvent_80 : decode cX6_packEvent 80 = .ok (.iinc 3 1, 3) := by decide +kernel
theorem dX6_packEvent_83 : decode cX6_packEvent 83 = .ok (.goto (-41), 3) := by decide +kernel
theorem dX6_packEvent_86 : decode cX6_packEvent 86 = .ok (.aload_n 0, 1) := by decide +kernel
theorem dX6_packEvent_87 : decode cX6_packEvent 87 = .ok (.aload_n 0, 1) := by decide +kernel
theorem dX6_packEvent_88 : decode cX6_packEvent 88 = .ok (.getfield 11, 3) := by decide +kernel
theorem dX6_packEvent_91 : decode cX6_packEvent 91 = .ok (.iconst 0, 1) := by decide +kernel
theorem dX6_packEvent_92 : decode cX6_packEvent 92 = .ok (.aload_n 0, 1) := by decide +kernel
theorem dX6_packEvent_93 : decode cX6_packEvent 93 = .ok (.getfield 82, 3) := by decide +kernel
theorem dX6_packEvent_96 : decode cX6_packEvent 96 = .ok (.invokestatic 63, 3) := by decide +kernel
theorem dX6_packEvent_99 : decode cX6_packEvent 99 = .ok (.invokevirtual 85, 3) := by decide +kernel
theorem dX6_packEvent_102 : decode cX6_packEvent 102 = .ok (.return_, 1) := by decide +kernel
theorem dX6_put_0 : decode cX6_put 0 = .ok (.aload_n 0, 1) := by decide +kernel
theorem dX6_put_1 : decode cX6_put 1 = .ok (.getfield 82, 3) := by decide +kernel
theorem dX6_put_4 : decode cX6_put 4 = .ok (.aload_n 0, 1) := by decide +kernel
theorem dX6_put_5 : decode cX6_put 5 = .ok (.getfield 11, 3) := by decide +kernel
theorem dX6_put_8 : decode cX6_put 8 = .ok (.arraylength, 1) := by decide +kernel
theorem dX6_put_9 : decode cX6_put 9 = .ok (.if_icmp .ge 23, 3) := by decide +kernel
theorem dX6_put_12 : decode cX6_put 12 = .ok (.aload_n 0, 1) := by decide +kernel
theorem dX6_put_13 : decode cX6_put 13 = .ok (.getfield 11, 3) := by decide +kernel
theorem dX6_put_16 : decode cX6_put 16 = .ok (.aload_n 0, 1) := by decide +kernel
theorem dX6_put_17 : decode cX6_put 17 = .ok (.getfield 82, 3) := by decide +kernel
theorem dX6_put_20 : decode cX6_put 20 = .ok (.iload_n 1, 1) := by decide +kernel
theorem dX6_put_21 : decode cX6_put 21 = .ok (.iastore, 1) := by decide +kernel
theorem dX6_put_22 : decode cX6_put 22 = .ok (.aload_n 0, 1) := by decide +kernel
theorem dX6_put_23 : decode cX6_put 23 = .ok (.dup, 1) := by decide +kernel
theorem dX6_put_24 : decode cX6_put 24 = .ok (.getfield 82, 3) := by decide +kernel
theorem dX6_put_27 : decode cX6_put 27 = .ok (.iconst 1, 1) := by decide +kernel
theorem dX6_put_28 : decode cX6_put 28 = .ok (.iadd, 1) := by decide +kernel
theorem dX6_put_29 : decode cX6_put 29 = .ok (.putfield 82, 3) := by decide +kernel
theorem dX6_put_32 : decode cX6_put 32 = .ok (.return_, 1) := by decide +kernel
theorem dX6_putUnsigned_0 : decode cX6_putUnsigned 0 = .ok (.lload_n 1, 1) := by decide +kernel
theorem dX6_putUnsigned_1 : decode cX6_putUnsigned 1 = .ok (.lstore_n 3, 1) := by decide +kernel
theorem dX6_putUnsigned_2 : decode cX6_putUnsigned 2 = .ok (.iconst 0, 1) := by decide +kernel
theorem dX6_putUnsigned_3 : decode cX6_putUnsigned 3 = .ok (.istore 5, 2) := by decide +kernel
theorem dX6_putUnsigned_5 : decode cX6_putUnsigned 5 = .ok (.iload 5, 2) := by decide +kernel
theorem dX6_putUnsigned_7 : decode cX6_putUnsigned 7 = .ok (.iconst 5, 1) := by decide +kernel
theorem dX6_putUnsigned_8 : decode cX6_putUnsigned 8 = .ok (.if_icmp .ge 36, 3) := by decide +kernel
theorem dX6_putUnsigned_11 : decode cX6_putUnsigned 11 = .ok (.lload_n 3, 1) := by decide +kernel
theorem dX6_putUnsigned_12 : decode cX6_putUnsigned 12 = .ok (.ldc2_w 115, 3) := by decide +kernel
theorem dX6_putUnsigned_15 : decode cX6_putUnsigned 15 = .ok (.lcmp, 1) := by decide +kernel
theorem dX6_putUnsigned_16 : decode cX6_putUnsigned 16 = .ok (.ifCond .le 28, 3) := by decide +kernel
theorem dX6_putUnsigned_19 : decode cX6_putUnsigned 19 = .ok (.aload_n 0, 1) := by decide +kernel
theorem dX6_putUnsigned_20 : decode cX6_putUnsigned 20 = .ok (.lload_n 3, 1) := by decide +kernel
theorem dX6_putUnsigned_21 : decode cX6_putUnsigned 21 = .ok (.ldc2_w 115, 3) := by decide +kernel
theorem dX6_putUnsigned_24 : decode cX6_putUnsigned 24 = .ok (.land, 1) := by decide +kernel
theorem dX6_putUnsigned_25 : decode cX6_putUnsigned 25 = .ok (.l2i, 1) := by decide +kernel
theorem dX6_putUnsigned_26 : decode cX6_putUnsigned 26 = .ok (.sipush 128, 3) := by decide +kernel
theorem dX6_putUnsigned_29 : decode cX6_putUnsigned 29 = .ok (.iadd, 1) := by decide +kernel
theorem dX6_putUnsigned_30 : decode cX6_putUnsigned 30 = .ok (.invokevirtual 85, 3) := by decide +kernel
theorem dX6_putUnsigned_33 : decode cX6_putUnsigned 33 = .ok (.lload_n 3, 1) := by decide +kernel
theorem dX6_putUnsigned_34 : decode cX6_putUnsigned 34 = .ok (.bipush 7, 2) := by decide +kernel
theorem dX6_putUnsigned_36 : decode cX6_putUnsigned 36 = .ok (.lshr, 1) := by decide +kernel
theorem dX6_putUnsigned_37 : decode cX6_putUnsigned 37 = .ok (.lstore_n 3, 1) := by decide +kernel
theorem dX6_putUnsigned_38 : decode cX6_putUnsigned 38 = .ok (.iinc 5 1, 3) := by decide +kernel
theorem dX6_putUnsigned_41 : decode cX6_putUnsigned 41 = .ok (.goto (-36), 3) := by decide +kernel
theorem dX6_putUnsigned_44 : decode cX6_putUnsigned 44 = .ok (.aload_n 0, 1) := by decide +kernel
theorem dX6_putUnsigned_45 : decode cX6_putUnsigned 45 = .ok (.lload_n 3, 1) := by decide +kernel
theorem dX6_putUnsigned_46 : decode cX6_putUnsigned 46 = .ok (.l2i, 1) := by decide +kernel
theorem dX6_putUnsigned_47 : decode cX6_putUnsigned 47 = .ok (.invokevirtual 85, 3) := by decide +kernel
theorem dX6_putUnsigned_50 : decode cX6_putUnsigned 50 = .ok (.return_, 1) := by decide +kernel
theorem dX6_putWord_0 : decode cX6_putWord 0 = .ok (.lload_n 1, 1) := by decide +kernel
theorem dX6_putWord_1 : decode cX6_putWord 1 = .ok (.invokestatic 117, 3) := by decide +kernel
theorem dX6_putWord_4 : decode cX6_putWord 4 = .ok (.istore_n 3, 1) := by decide +kernel
theorem dX6_putWord_5 : decode cX6_putWord 5 = .ok (.aload_n 0, 1) := by decide +kernel
theorem dX6_putWord_6 : decode cX6_putWord 6 = .ok (.iload_n 3, 1) := by decide +kernel
theorem dX6_putWord_7 : decode cX6_putWord 7 = .ok (.invokevirtual 85, 3) := by decide +kernel
theorem dX6_putWord_10 : decode cX6_putWord 10 = .ok (.iconst 0, 1) := by decide +kernel
theorem dX6_putWord_11 : decode cX6_putWord 11 = .ok (.istore 4, 2) := by decide +kernel
theorem dX6_putWord_13 : decode cX6_putWord 13 = .ok (.iload 4, 2) := by decide +kernel
theorem dX6_putWord_15 : decode cX6_putWord 15 = .ok (.iload_n 3, 1) := by decide +kernel
theorem dX6_putWord_16 : decode cX6_putWord 16 = .ok (.if_icmp .ge 19, 3) := by decide +kernel
theorem dX6_putWord_19 : decode cX6_putWord 19 = .ok (.aload_n 0, 1) := by decide +kernel
theorem dX6_putWord_20 : decode cX6_putWord 20 = .ok (.lload_n 1, 1) := by decide +kernel
theorem dX6_putWord_21 : decode cX6_putWord 21 = .ok (.iload 4, 2) := by decide +kernel
theorem dX6_putWord_23 : decode cX6_putWord 23 = .ok (.invokestatic 121, 3) := by decide +kernel
theorem dX6_putWord_26 : decode cX6_putWord 26 = .ok (.invokevirtual 85, 3) := by decide +kernel
theorem dX6_putWord_29 : decode cX6_putWord 29 = .ok (.iinc 4 1, 3) := by decide +kernel
theorem dX6_putWord_32 : decode cX6_putWord 32 = .ok (.goto (-19), 3) := by decide +kernel
theorem dX6_putWord_35 : decode cX6_putWord 35 = .ok (.return_, 1) := by decide +kernel
theorem dX6_putValue_0 : decode cX6_putValue 0 = .ok (.aload_n 0, 1) := by decide +kernel
theorem dX6_putValue_1 : decode cX6_putValue 1 = .ok (.aload_n 1, 1) := by decide +kernel
theorem dX6_putValue_2 : decode cX6_putValue 2 = .ok (.getfield 125, 3) := by decide +kernel
theorem dX6_putValue_5 : decode cX6_putValue 5 = .ok (.invokevirtual 85, 3) := by decide +kernel
theorem dX6_putValue_8 : decode cX6_putValue 8 = .ok (.aload_n 1, 1) := by decide +kernel
theorem dX6_putValue_9 : decode cX6_putValue 9 = .ok (.getfield 125, 3) := by decide +kernel
theorem dX6_putValue_12 : decode cX6_putValue 12 = .ok (.ifCond .ne 37, 3) := by decide +kernel
theorem dX6_putValue_15 : decode cX6_putValue 15 = .ok (.aload_n 1, 1) := by decide +kernel
theorem dX6_putValue_16 : decode cX6_putValue 16 = .ok (.getfield 128, 3) := by decide +kernel
theorem dX6_putValue_19 : decode cX6_putValue 19 = .ok (.i2l, 1) := by decide +kernel
theorem dX6_putValue_20 : decode cX6_putValue 20 = .ok (.lstore_n 2, 1) := by decide +kernel
theorem dX6_putValue_21 : decode cX6_putValue 21 = .ok (.aload_n 0, 1) := by decide +kernel
theorem dX6_putValue_22 : decode cX6_putValue 22 = .ok (.lload_n 2, 1) := by decide +kernel
theorem dX6_putValue_23 : decode cX6_putValue 23 = .ok (.lconst 0, 1) := by decide +kernel
theorem dX6_putValue_24 : decode cX6_putValue 24 = .ok (.lcmp, 1) := by decide +kernel
theorem dX6_putValue_25 : decode cX6_putValue 25 = .ok (.ifCond .lt 11, 3) := by decide +kernel
theorem dX6_putValue_28 : decode cX6_putValue 28 = .ok (.ldc2_w 131, 3) := by decide +kernel
theorem dX6_putValue_31 : decode cX6_putValue 31 = .ok (.lload_n 2, 1) := by decide +kernel
theorem dX6_putValue_32 : decode cX6_putValue 32 = .ok (.lmul, 1) := by decide +kernel
theorem dX6_putValue_33 : decode cX6_putValue 33 = .ok (.goto 10, 3) := by decide +kernel
theorem dX6_putValue_36 : decode cX6_putValue 36 = .ok (.ldc2_w 133, 3) := by decide +kernel
theorem dX6_putValue_39 : decode cX6_putValue 39 = .ok (.lload_n 2, 1) := by decide +kernel
theorem dX6_putValue_40 : decode cX6_putValue 40 = .ok (.lmul, 1) := by decide +kernel
theorem dX6_putValue_41 : decode cX6_putValue 41 = .ok (.lconst 1, 1) := by decide +kernel
theorem dX6_putValue_42 : decode cX6_putValue 42 = .ok (.lsub, 1) := by decide +kernel
theorem dX6_putValue_43 : decode cX6_putValue 43 = .ok (.invokevirtual 92, 3) := by decide +kernel
theorem dX6_putValue_46 : decode cX6_putValue 46 = .ok (.goto 85, 3) := by decide +kernel
theorem dX6_putValue_49 : decode cX6_putValue 49 = .ok (.aload_n 1, 1) := by decide +kernel
theorem dX6_putValue_50 : decode cX6_putValue 50 = .ok (.getfield 125, 3) := by decide +kernel
theorem dX6_putValue_53 : decode cX6_putValue 53 = .ok (.iconst 2, 1) := by decide +kernel
theorem dX6_putValue_54 : decode cX6_putValue 54 = .ok (.if_icmp .ne 33, 3) := by decide +kernel
theorem dX6_putValue_57 : decode cX6_putValue 57 = .ok (.bipush 24, 2) := by decide +kernel
theorem dX6_putValue_59 : decode cX6_putValue 59 = .ok (.istore_n 2, 1) := by decide +kernel
theorem dX6_putValue_60 : decode cX6_putValue 60 = .ok (.iload_n 2, 1) := by decide +kernel
theorem dX6_putValue_61 : decode cX6_putValue 61 = .ok (.ifCond .lt 23, 3) := by decide +kernel
theorem dX6_putValue_64 : decode cX6_putValue 64 = .ok (.aload_n 0, 1) := by decide +kernel
theorem dX6_putValue_65 : decode cX6_putValue 65 = .ok (.aload_n 1, 1) := by decide +kernel
theorem dX6_putValue_66 : decode cX6_putValue 66 = .ok (.getfield 128, 3) := by decide +kernel
theorem dX6_putValue_69 : decode cX6_putValue 69 = .ok (.iload_n 2, 1) := by decide +kernel
theorem dX6_putValue_70 : decode cX6_putValue 70 = .ok (.iushr, 1) := by decide +kernel
theorem dX6_putValue_71 : decode cX6_putValue 71 = .ok (.sipush 255, 3) := by decide +kernel
theorem dX6_putValue_74 : decode cX6_putValue 74 = .ok (.iand, 1) := by decide +kernel
theorem dX6_putValue_75 : decode cX6_putValue 75 = .ok (.invokevirtual 85, 3) := by decide +kernel
theorem dX6_putValue_78 : decode cX6_putValue 78 = .ok (.iinc 2 (-8), 3) := by decide +kernel
theorem dX6_putValue_81 : decode cX6_putValue 81 = .ok (.goto (-21), 3) := by decide +kernel
theorem dX6_putValue_84 : decode cX6_putValue 84 = .ok (.goto 47, 3) := by decide +kernel
theorem dX6_putValue_87 : decode cX6_putValue 87 = .ok (.aload_n 0, 1) := by decide +kernel
theorem dX6_putValue_88 : decode cX6_putValue 88 = .ok (.aload_n 1, 1) := by decide +kernel
theorem dX6_putValue_89 : decode cX6_putValue 89 = .ok (.getfield 135, 3) := by decide +kernel
theorem dX6_putValue_92 : decode cX6_putValue 92 = .ok (.arraylength, 1) := by decide +kernel
theorem dX6_putValue_93 : decode cX6_putValue 93 = .ok (.invokevirtual 85, 3) := by decide +kernel
theorem dX6_putValue_96 : decode cX6_putValue 96 = .ok (.aload_n 1, 1) := by decide +kernel
theorem dX6_putValue_97 : decode cX6_putValue 97 = .ok (.getfield 135, 3) := by decide +kernel
theorem dX6_putValue_100 : decode cX6_putValue 100 = .ok (.astore_n 2, 1) := by decide +kernel
theorem dX6_putValue_101 : decode cX6_putValue 101 = .ok (.aload_n 2, 1) := by decide +kernel
theorem dX6_putValue_102 : decode cX6_putValue 102 = .ok (.arraylength, 1) := by decide +kernel
theorem dX6_putValue_103 : decode cX6_putValue 103 = .ok (.istore_n 3, 1) := by decide +kernel
theorem dX6_putValue_104 : decode cX6_putValue 104 = .ok (.iconst 0, 1) := by decide +kernel
theorem dX6_putValue_105 : decode cX6_putValue 105 = .ok (.istore 4, 2) := by decide +kernel
theorem dX6_putValue_107 : decode cX6_putValue 107 = .ok (.iload 4, 2) := by decide +kernel
theorem dX6_putValue_109 : decode cX6_putValue 109 = .ok (.iload_n 3, 1) := by decide +kernel
theorem dX6_putValue_110 : decode cX6_putValue 110 = .ok (.if_icmp .ge 21, 3) := by decide +kernel
theorem dX6_putValue_113 : decode cX6_putValue 113 = .ok (.aload_n 2, 1) := by decide +kernel
theorem dX6_putValue_114 : decode cX6_putValue 114 = .ok (.iload 4, 2) := by decide +kernel
theorem dX6_putValue_116 : decode cX6_putValue 116 = .ok (.iaload, 1) := by decide +kernel
theorem dX6_putValue_117 : decode cX6_putValue 117 = .ok (.istore 5, 2) := by decide +kernel
theorem dX6_putValue_119 : decode cX6_putValue 119 = .ok (.aload_n 0, 1) := by decide +kernel
theorem dX6_putValue_120 : decode cX6_putValue 120 = .ok (.iload 5, 2) := by decide +kernel
theorem dX6_putValue_122 : decode cX6_putValue 122 = .ok (.invokevirtual 85, 3) := by decide +kernel
theorem dX6_putValue_125 : decode cX6_putValue 125 = .ok (.iinc 4 1, 3) := by decide +kernel
theorem dX6_putValue_128 : decode cX6_putValue 128 = .ok (.goto (-21), 3) := by decide +kernel
theorem dX6_putValue_131 : decode cX6_putValue 131 = .ok (.return_, 1) := by decide +kernel
theorem dX7_init_0 : decode cX7_init 0 = .ok (.aload_n 0, 1) := by decide +kernel
theorem dX7_init_1 : decode cX7_init 1 = .ok (.invokespecial 3, 3) := by decide +kernel
theorem dX7_init_4 : decode cX7_init 4 = .ok (.aload_n 0, 1) := by decide +kernel
theorem dX7_init_5 : decode cX7_init 5 = .ok (.iload_n 1, 1) := by decide +kernel
theorem dX7_init_6 : decode cX7_init 6 = .ok (.putfield 9, 3) := by decide +kernel
theorem dX7_init_9 : decode cX7_init 9 = .ok (.aload_n 0, 1) := by decide +kernel
theorem dX7_init_10 : decode cX7_init 10 = .ok (.iconst 5, 1) := by decide +kernel
theorem dX7_init_11 : decode cX7_init 11 = .ok (.anewarray 15, 3) := by decide +kernel
theorem dX7_init_14 : decode cX7_init 14 = .ok (.putfield 17, 3) := by decide +kernel
theorem dX7_init_17 : decode cX7_init 17 = .ok (.aload_n 0, 1) := by decide +kernel
theorem dX7_init_18 : decode cX7_init 18 = .ok (.iconst 3, 1) := by decide +kernel
theorem dX7_init_19 : decode cX7_init 19 = .ok (.newarray .long, 2) := by decide +kernel
theorem dX7_init_21 : decode cX7_init 21 = .ok (.putfield 21, 3) := by decide +kernel
theorem dX7_init_24 : decode cX7_init 24 = .ok (.aload_n 0, 1) := by decide +kernel
theorem dX7_init_25 : decode cX7_init 25 = .ok (.iconst 4, 1) := by decide +kernel
theorem dX7_init_26 : decode cX7_init 26 = .ok (.anewarray 25, 3) := by decide +kernel
theorem dX7_init_29 : decode cX7_init 29 = .ok (.putfield 27, 3) := by decide +kernel
theorem dX7_init_32 : decode cX7_init 32 = .ok (.aload_n 0, 1) := by decide +kernel
theorem dX7_init_33 : decode cX7_init 33 = .ok (.iconst 0, 1) := by decide +kernel
theorem dX7_init_34 : decode cX7_init 34 = .ok (.anewarray 31, 3) := by decide +kernel
theorem dX7_init_37 : decode cX7_init 37 = .ok (.putfield 33, 3) := by decide +kernel
theorem dX7_init_40 : decode cX7_init 40 = .ok (.return_, 1) := by decide +kernel
theorem dX7_keyedBy_0 : decode cX7_keyedBy 0 = .ok (.iconst 0, 1) := by decide +kernel
theorem dX7_keyedBy_1 : decode cX7_keyedBy 1 = .ok (.istore_n 3, 1) := by decide +kernel
theorem dX7_keyedBy_2 : decode cX7_keyedBy 2 = .ok (.iload_n 3, 1) := by decide +kernel
theorem dX7_keyedBy_3 : decode cX7_keyedBy 3 = .ok (.aload_n 0, 1) := by decide +kernel
theorem dX7_keyedBy_4 : decode cX7_keyedBy 4 = .ok (.getfield 37, 3) := by decide +kernel
theorem dX7_keyedBy_7 : decode cX7_keyedBy 7 = .ok (.if_icmp .ge 31, 3) := by decide +kernel
theorem dX7_keyedBy_10 : decode cX7_keyedBy 10 = .ok (.iload_n 3, 1) := by decide +kernel
theorem dX7_keyedBy_11 : decode cX7_keyedBy 11 = .ok (.aload_n 0, 1) := by decide +kernel
theorem dX7_keyedBy_12 : decode cX7_keyedBy 12 = .ok (.getfield 21, 3) := by decide +kernel
theorem dX7_keyedBy_15 : decode cX7_keyedBy 15 = .ok (.arraylength, 1) := by decide +kernel
theorem dX7_keyedBy_16 : decode cX7_keyedBy 16 = .ok (.if_icmp .ge 22, 3) := by decide +kernel
theorem dX7_keyedBy_19 : decode cX7_keyedBy 19 = .ok (.aload_n 0, 1) := by decide +kernel
theorem dX7_keyedBy_20 : decode cX7_keyedBy 20 = .ok (.getfield 21, 3) := by decide +kernel
theorem dX7_keyedBy_23 : decode cX7_keyedBy 23 = .ok (.iload_n 3, 1) := by decide +kernel
theorem dX7_keyedBy_24 : decode cX7_keyedBy 24 = .ok (.laload, 1) := by decide +kernel
theorem dX7_keyedBy_25 : decode cX7_keyedBy 25 = .ok (.lload_n 1, 1) := by decide +kernel
theorem dX7_keyedBy_26 : decode cX7_keyedBy 26 = .ok (.lcmp, 1) := by decide +kernel
theorem dX7_keyedBy_27 : decode cX7_keyedBy 27 = .ok (.ifCond .ne 5, 3) := by decide +kernel
theorem dX7_keyedBy_30 : decode cX7_keyedBy 30 = .ok (.iconst 1, 1) := by decide +kernel
theorem dX7_keyedBy_31 : decode cX7_keyedBy 31 = .ok (.ireturn, 1) := by decide +kernel
theorem dX7_keyedBy_32 : decode cX7_keyedBy 32 = .ok (.iinc 3 1, 3) := by decide +kernel
theorem dX7_keyedBy_35 : decode cX7_keyedBy 35 = .ok (.goto (-33), 3) := by decide +kernel
theorem dX7_keyedBy_38 : decode cX7_keyedBy 38 = .ok (.iconst 0, 1) := by decide +kernel
theorem dX7_keyedBy_39 : decode cX7_keyedBy 39 = .ok (.ireturn, 1) := by decide +kernel
theorem dX7_addBy_0 : decode cX7_addBy 0 = .ok (.aload_n 0, 1) := by decide +kernel
theorem dX7_addBy_1 : decode cX7_addBy 1 = .ok (.getfield 37, 3) := by decide +kernel
theorem dX7_addBy_4 : decode cX7_addBy 4 = .ok (.aload_n 0, 1) := by decide +kernel
theorem dX7_addBy_5 : decode cX7_addBy 5 = .ok (.getfield 21, 3) := by decide +kernel
theorem dX7_addBy_8 : decode cX7_addBy 8 = .ok (.arraylength, 1) := by decide +kernel
theorem dX7_addBy_9 : decode cX7_addBy 9 = .ok (.if_icmp .ge 23, 3) := by decide +kernel
theorem dX7_addBy_12 : decode cX7_addBy 12 = .ok (.aload_n 0, 1) := by decide +kernel
theorem dX7_addBy_13 : decode cX7_addBy 13 = .ok (.getfield 21, 3) := by decide +kernel
theorem dX7_addBy_16 : decode cX7_addBy 16 = .ok (.aload_n 0, 1) := by decide +kernel
theorem dX7_addBy_17 : decode cX7_addBy 17 = .ok (.getfield 37, 3) := by decide +kernel
theorem dX7_addBy_20 : decode cX7_addBy 20 = .ok (.lload_n 1, 1) := by decide +kernel
theorem dX7_addBy_21 : decode cX7_addBy 21 = .ok (.lastore, 1) := by decide +kernel
theorem dX7_addBy_22 : decode cX7_addBy 22 = .ok (.aload_n 0, 1) := by decide +kernel
theorem dX7_addBy_23 : decode cX7_addBy 23 = .ok (.dup, 1) := by decide +kernel
theorem dX7_addBy_24 : decode cX7_addBy 24 = .ok (.getfield 37, 3) := by decide +kernel
theorem dX7_addBy_27 : decode cX7_addBy 27 = .ok (.iconst 1, 1) := by decide +kernel
theorem dX7_addBy_28 : decode cX7_addBy 28 = .ok (.iadd, 1) := by decide +kernel
theorem dX7_addBy_29 : decode cX7_addBy 29 = .ok (.putfield 37, 3) := by decide +kernel
theorem dX7_addBy_32 : decode cX7_addBy 32 = .ok (.return_, 1) := by decide +kernel
theorem dX7_addCond_0 : decode cX7_addCond 0 = .ok (.aload_n 0, 1) := by decide +kernel
theorem dX7_addCond_1 : decode cX7_addCond 1 = .ok (.getfield 40, 3) := by decide +kernel
theorem dX7_addCond_4 : decode cX7_addCond 4 = .ok (.aload_n 0, 1) := by decide +kernel
theorem dX7_addCond_5 : decode cX7_addCond 5 = .ok (.getfield 17, 3) := by decide +kernel
theorem dX7_addCond_8 : decode cX7_addCond 8 = .ok (.arraylength, 1) := by decide +kernel
theorem dX7_addCond_9 : decode cX7_addCond 9 = .ok (.if_icmp .ge 23, 3) := by decide +kernel
theorem dX7_addCond_12 : decode cX7_addCond 12 = .ok (.aload_n 0, 1) := by decide +kernel
theorem dX7_addCond_13 : decode cX7_addCond 13 = .ok (.getfield 17, 3) := by decide +kernel
theorem dX7_addCond_16 : decode cX7_addCond 16 = .ok (.aload_n 0, 1) := by decide +kernel
theorem dX7_addCond_17 : decode cX7_addCond 17 = .ok (.getfield 40, 3) := by decide +kernel
theorem dX7_addCond_20 : decode cX7_addCond 20 = .ok (.aload_n 1, 1) := by decide +kernel
theorem dX7_addCond_21 : decode cX7_addCond 21 = .ok (.aastore, 1) := by decide +kernel
theorem dX7_addCond_22 : decode cX7_addCond 22 = .ok (.aload_n 0, 1) := by decide +kernel
theorem dX7_addCond_23 : decode cX7_addCond 23 = .ok (.dup, 1) := by decide +kernel
theorem dX7_addCond_24 : decode cX7_addCond 24 = .ok (.getfield 40, 3) := by decide +kernel
theorem dX7_addCond_27 : decode cX7_addCond 27 = .ok (.iconst 1, 1) := by decide +kernel
theorem dX7_addCond_28 : decode cX7_addCond 28 = .ok (.iadd, 1) := by decide +kernel
theorem dX7_addCond_29 : decode cX7_addCond 29 = .ok (.putfield 40, 3) := by decide +kernel
theorem dX7_addCond_32 : decode cX7_addCond 32 = .ok (.return_, 1) := by decide +kernel
theorem dX7_makeBuckets_0 : decode cX7_makeBuckets 0 = .ok (.aload_n 0, 1) := by decide +kernel
theorem dX7_makeBuckets_1 : decode cX7_makeBuckets 1 = .ok (.aload_n 0, 1) := by decide +kernel
theorem dX7_makeBuckets_2 : decode cX7_makeBuckets 2 = .ok (.getfield 37, 3) := by decide +kernel
theorem dX7_makeBuckets_5 : decode cX7_makeBuckets 5 = .ok (.ifCond .ne 16, 3) := by decide +kernel
theorem dX7_makeBuckets_8 : decode cX7_makeBuckets 8 = .ok (.aload_n 0, 1) := by decide +kernel
theorem dX7_makeBuckets_9 : decode cX7_makeBuckets 9 = .ok (.getfield 43, 3) := by decide +kernel
theorem dX7_makeBuckets_12 : decode cX7_makeBuckets 12 = .ok (.bipush 26, 2) := by decide +kernel
theorem dX7_makeBuckets_14 : decode cX7_makeBuckets 14 = .ok (.if_icmp .eq 7, 3) := by decide +kernel
theorem dX7_makeBuckets_17 : decode cX7_makeBuckets 17 = .ok (.iconst 1, 1) := by decide +kernel
theorem dX7_makeBuckets_18 : decode cX7_makeBuckets 18 = .ok (.goto 6, 3) := by decide +kernel
theorem dX7_makeBuckets_21 : decode cX7_makeBuckets 21 = .ok (.sipush 128, 3) := by decide +kernel
theorem dX7_makeBuckets_24 : decode cX7_makeBuckets 24 = .ok (.anewarray 31, 3) := by decide +kernel
theorem dX7_makeBuckets_27 : decode cX7_makeBuckets 27 = .ok (.putfield 33, 3) := by decide +kernel
theorem dX7_makeBuckets_30 : decode cX7_makeBuckets 30 = .ok (.return_, 1) := by decide +kernel
theorem dX7_keyOf_0 : decode cX7_keyOf 0 = .ok (.iconst 0, 1) := by decide +kernel
theorem dX7_keyOf_1 : decode cX7_keyOf 1 = .ok (.istore_n 2, 1) := by decide +kernel
theorem dX7_keyOf_2 : decode cX7_keyOf 2 = .ok (.iload_n 2, 1) := by decide +kernel
theorem dX7_keyOf_3 : decode cX7_keyOf 3 = .ok (.aload_n 0, 1) := by decide +kernel
theorem dX7_keyOf_4 : decode cX7_keyOf 4 = .ok (.getfield 37, 3) := by decide +kernel
theorem dX7_keyOf_7 : decode cX7_keyOf 7 = .ok (.if_icmp .ge 45, 3) := by decide +kernel
theorem dX7_keyOf_10 : decode cX7_keyOf 10 = .ok (.iload_n 2, 1) := by decide +kernel
theorem dX7_keyOf_11 : decode cX7_keyOf 11 = .ok (.aload_n 0, 1) := by decide +kernel
theorem dX7_keyOf_12 : decode cX7_keyOf 12 = .ok (.getfield 21, 3) := by decide +kernel
theorem dX7_keyOf_15 : decode cX7_keyOf 15 = .ok (.arraylength, 1) := by decide +kernel
theorem dX7_keyOf_16 : decode cX7_keyOf 16 = .ok (.if_icmp .ge 36, 3) := by decide +kernel
theorem dX7_keyOf_19 : decode cX7_keyOf 19 = .ok (.aload_n 0, 1) := by decide +kernel
theorem dX7_keyOf_20 : decode cX7_keyOf 20 = .ok (.getfield 27, 3) := by decide +kernel
theorem dX7_keyOf_23 : decode cX7_keyOf 23 = .ok (.iload_n 2, 1) := by decide +kernel
theorem dX7_keyOf_24 : decode cX7_keyOf 24 = .ok (.aload_n 1, 1) := by decide +kernel
theorem dX7_keyOf_25 : decode cX7_keyOf 25 = .ok (.aload_n 0, 1) := by decide +kernel
theorem dX7_keyOf_26 : decode cX7_keyOf 26 = .ok (.getfield 21, 3) := by decide +kernel
theorem dX7_keyOf_29 : decode cX7_keyOf 29 = .ok (.iload_n 2, 1) := by decide +kernel
theorem dX7_keyOf_30 : decode cX7_keyOf 30 = .ok (.laload, 1) := by decide +kernel
theorem dX7_keyOf_31 : decode cX7_keyOf 31 = .ok (.invokevirtual 46, 3) := by decide +kernel
theorem dX7_keyOf_34 : decode cX7_keyOf 34 = .ok (.aastore, 1) := by decide +kernel
theorem dX7_keyOf_35 : decode cX7_keyOf 35 = .ok (.aload_n 0, 1) := by decide +kernel
theorem dX7_keyOf_36 : decode cX7_keyOf 36 = .ok (.getfield 27, 3) := by decide +kernel
theorem dX7_keyOf_39 : decode cX7_keyOf 39 = .ok (.iload_n 2, 1) := by decide +kernel
theorem dX7_keyOf_40 : decode cX7_keyOf 40 = .ok (.aaload, 1) := by decide +kernel
theorem dX7_keyOf_41 : decode cX7_keyOf 41 = .ok (.ifnonnull 5, 3) := by decide +kernel
theorem dX7_keyOf_44 : decode cX7_keyOf 44 = .ok (.aconst_null, 1) := by decide +kernel
theorem dX7_keyOf_45 : decode cX7_keyOf 45 = .ok (.areturn, 1) := by decide +kernel
theorem dX7_keyOf_46 : decode cX7_keyOf 46 = .ok (.iinc 2 1, 3) := by decide +kernel
theorem dX7_keyOf_49 : decode cX7_keyOf 49 = .ok (.goto (-47), 3) := by decide +kernel
theorem dX7_keyOf_52 : decode cX7_keyOf 52 = .ok (.aload_n 0, 1) := by decide +kernel
theorem dX7_keyOf_53 : decode cX7_keyOf 53 = .ok (.aload_n 0, 1) := by decide +kernel
theorem dX7_keyOf_54 : decode cX7_keyOf 54 = .ok (.getfield 37, 3) := by decide +kernel
theorem dX7_keyOf_57 : decode cX7_keyOf 57 = .ok (.invokevirtual 52, 3) := by decide +kernel
theorem dX7_keyOf_60 : decode cX7_keyOf 60 = .ok (.areturn, 1) := by decide +kernel
theorem dX7_keyOfWanted_0 : decode cX7_keyOfWanted 0 = .ok (.iload_n 1, 1) := by decide +kernel
theorem dX7_keyOfWanted_1 : decode cX7_keyOfWanted 1 = .ok (.istore_n 2, 1) := by decide +kernel
theorem dX7_keyOfWanted_2 : decode cX7_keyOfWanted 2 = .ok (.iconst 0, 1) := by decide +kernel
theorem dX7_keyOfWanted_3 : decode cX7_keyOfWanted 3 = .ok (.istore_n 3, 1) := by decide +kernel
theorem dX7_keyOfWanted_4 : decode cX7_keyOfWanted 4 = .ok (.iload_n 3, 1) := by decide +kernel
theorem dX7_keyOfWanted_5 : decode cX7_keyOfWanted 5 = .ok (.iload_n 1, 1) := by decide +kernel
theorem dX7_keyOfWanted_6 : decode cX7_keyOfWanted 6 = .ok (.if_icmp .ge 33, 3) := by decide +kernel
theorem dX7_keyOfWanted_9 : decode cX7_keyOfWanted 9 = .ok (.iload_n 3, 1) := by decide +kernel
theorem dX7_keyOfWanted_10 : decode cX7_keyOfWanted 10 = .ok (.aload_n 0, 1) := by decide +kernel
theorem dX7_keyOfWanted_11 : decode cX7_keyOfWanted 11 = .ok (.getfield 27, 3) := by decide +kernel
theorem dX7_keyOfWanted_14 : decode cX7_keyOfWanted 14 = .ok (.arraylength, 1) := by decide +kernel
theorem dX7_keyOfWanted_15 : decode cX7_keyOfWanted 15 = .ok (.if_icmp .ge 24, 3) := by decide +kernel
theorem dX7_keyOfWanted_18 : decode cX7_keyOfWanted 18 = .ok (.bipush 31, 2) := by decide +kernel
theorem dX7_keyOfWanted_20 : decode cX7_keyOfWanted 20 = .ok (.iload_n 2, 1) := by decide +kernel
theorem dX7_keyOfWanted_21 : decode cX7_keyOfWanted 21 = .ok (.imul, 1) := by decide +kernel
theorem dX7_keyOfWanted_22 : decode cX7_keyOfWanted 22 = .ok (.aload_n 0, 1) := by decide +kernel
theorem dX7_keyOfWanted_23 : decode cX7_keyOfWanted 23 = .ok (.getfield 27, 3) := by decide +kernel
theorem dX7_keyOfWanted_26 : decode cX7_keyOfWanted 26 = .ok (.iload_n 3, 1) := by decide +kernel
theorem dX7_keyOfWanted_27 : decode cX7_keyOfWanted 27 = .ok (.aaload, 1) := by decide +kernel
theorem dX7_keyOfWanted_28 : decode cX7_keyOfWanted 28 = .ok (.getfield 56, 3) := by decide +kernel
theorem dX7_keyOfWanted_31 : decode cX7_keyOfWanted 31 = .ok (.iadd, 1) := by decide +kernel
theorem dX7_keyOfWanted_32 : decode cX7_keyOfWanted 32 = .ok (.istore_n 2, 1) := by decide +kernel
theorem dX7_keyOfWanted_33 : decode cX7_keyOfWanted 33 = .ok (.iinc 3 1, 3) := by decide +kernel
theorem dX7_keyOfWanted_36 : decode cX7_keyOfWanted 36 = .ok (.goto (-32), 3) := by decide +kernel
theorem dX7_keyOfWanted_39 : decode cX7_keyOfWanted 39 = .ok (.iload_n 2, 1) := by decide +kernel
theorem dX7_keyOfWanted_40 : decode cX7_keyOfWanted 40 = .ok (.iload_n 2, 1) := by decide +kernel
theorem dX7_keyOfWanted_41 : decode cX7_keyOfWanted 41 = .ok (.bipush 15, 2) := by decide +kernel
theorem dX7_keyOfWanted_43 : decode cX7_keyOfWanted 43 = .ok (.iushr, 1) := by decide +kernel
theorem dX7_keyOfWanted_44 : decode cX7_keyOfWanted 44 = .ok (.iload_n 2, 1) := by decide +kernel
theorem dX7_keyOfWanted_45 : decode cX7_keyOfWanted 45 = .ok (.bipush 7, 2) := by decide +kernel
theorem dX7_keyOfWanted_47 : decode cX7_keyOfWanted 47 = .ok (.iushr, 1) := by decide +kernel
theorem dX7_keyOfWanted_48 : decode cX7_keyOfWanted 48 = .ok (.ixor, 1) := by decide +kernel
theorem dX7_keyOfWanted_49 : decode cX7_keyOfWanted 49 = .ok (.ixor, 1) := by decide +kernel
theorem dX7_keyOfWanted_50 : decode cX7_keyOfWanted 50 = .ok (.istore_n 2, 1) := by decide +kernel
theorem dX7_keyOfWanted_51 : decode cX7_keyOfWanted 51 = .ok (.aload_n 0, 1) := by decide +kernel
theorem dX7_keyOfWanted_52 : decode cX7_keyOfWanted 52 = .ok (.getfield 33, 3) := by decide +kernel
theorem dX7_keyOfWanted_55 : decode cX7_keyOfWanted 55 = .ok (.arraylength, 1) := by decide +kernel
theorem dX7_keyOfWanted_56 : decode cX7_keyOfWanted 56 = .ok (.ifCond .ne 7, 3) := by decide +kernel
theorem dX7_keyOfWanted_59 : decode cX7_keyOfWanted 59 = .ok (.iconst (-1), 1) := by decide +kernel
theorem dX7_keyOfWanted_60 : decode cX7_keyOfWanted 60 = .ok (.goto 12, 3) := by decide +kernel
theorem dX7_keyOfWanted_63 : decode cX7_keyOfWanted 63 = .ok (.iload_n 2, 1) := by decide +kernel
theorem dX7_keyOfWanted_64 : decode cX7_keyOfWanted 64 = .ok (.aload_n 0, 1) := by decide +kernel
theorem dX7_keyOfWanted_65 : decode cX7_keyOfWanted 65 = .ok (.getfield 33, 3) := by decide +kernel
theorem dX7_keyOfWanted_68 : decode cX7_keyOfWanted 68 = .ok (.arraylength, 1) := by decide +kernel
theorem dX7_keyOfWanted_69 : decode cX7_keyOfWanted 69 = .ok (.invokestatic 59, 3) := by decide +kernel
theorem dX7_keyOfWanted_72 : decode cX7_keyOfWanted 72 = .ok (.istore_n 3, 1) := by decide +kernel
theorem dX7_keyOfWanted_73 : decode cX7_keyOfWanted 73 = .ok (.iload_n 3, 1) := by decide +kernel
theorem dX7_keyOfWanted_74 : decode cX7_keyOfWanted 74 = .ok (.ifCond .ge 7, 3) := by decide +kernel
theorem dX7_keyOfWanted_77 : decode cX7_keyOfWanted 77 = .ok (.aconst_null, 1) := by decide +kernel
theorem dX7_keyOfWanted_78 : decode cX7_keyOfWanted 78 = .ok (.goto 9, 3) := by decide +kernel
theorem dX7_keyOfWanted_81 : decode cX7_keyOfWanted 81 = .ok (.aload_n 0, 1) := by decide +kernel
theorem dX7_keyOfWanted_82 : decode cX7_keyOfWanted 82 = .ok (.getfield 33, 3) := by decide +kernel
theorem dX7_keyOfWanted_85 : decode cX7_keyOfWanted 85 = .ok (.iload_n 3, 1) := by decide +kernel
theorem dX7_keyOfWanted_86 : decode cX7_keyOfWanted 86 = .ok (.aaload, 1) := by decide +kernel
theorem dX7_keyOfWanted_87 : decode cX7_keyOfWanted 87 = .ok (.astore 4, 2) := by decide +kernel
theorem dX7_keyOfWanted_89 : decode cX7_keyOfWanted 89 = .ok (.aload 4, 2) := by decide +kernel
theorem dX7_keyOfWanted_91 : decode cX7_keyOfWanted 91 = .ok (.ifnull 30, 3) := by decide +kernel
theorem dX7_keyOfWanted_94 : decode cX7_keyOfWanted 94 = .ok (.aload 4, 2) := by decide +kernel
theorem dX7_keyOfWanted_96 : decode cX7_keyOfWanted 96 = .ok (.aload_n 0, 1) := by decide +kernel
theorem dX7_keyOfWanted_97 : decode cX7_keyOfWanted 97 = .ok (.getfield 27, 3) := by decide +kernel
theorem dX7_keyOfWanted_100 : decode cX7_keyOfWanted 100 = .ok (.iload_n 1, 1) := by decide +kernel
theorem dX7_keyOfWanted_101 : decode cX7_keyOfWanted 101 = .ok (.iload_n 2, 1) := by decide +kernel
theorem dX7_keyOfWanted_102 : decode cX7_keyOfWanted 102 = .ok (.invokevirtual 65, 3) := by decide +kernel
theorem dX7_keyOfWanted_105 : decode cX7_keyOfWanted 105 = .ok (.ifCond .eq 6, 3) := by decide +kernel
theorem dX7_keyOfWanted_108 : decode cX7_keyOfWanted 108 = .ok (.aload 4, 2) := by decide +kernel
theorem dX7_keyOfWanted_110 : decode cX7_keyOfWanted 110 = .ok (.areturn, 1) := by decide +kernel
theorem dX7_keyOfWanted_111 : decode cX7_keyOfWanted 111 = .ok (.aload 4, 2) := by decide +kernel
theorem dX7_keyOfWanted_113 : decode cX7_keyOfWanted 113 = .ok (.getfield 69, 3) := by decide +kernel
theorem dX7_keyOfWanted_116 : decode cX7_keyOfWanted 116 = .ok (.astore 4, 2) := by decide +kernel
theorem dX7_keyOfWanted_118 : decode cX7_keyOfWanted 118 = .ok (.goto (-29), 3) := by decide +kernel
theorem dX7_keyOfWanted_121 : decode cX7_keyOfWanted 121 = .ok (.iload_n 1, 1) := by decide +kernel
theorem dX7_keyOfWanted_122 : decode cX7_keyOfWanted 122 = .ok (.anewarray 25, 3) := by decide +kernel
theorem dX7_keyOfWanted_125 : decode cX7_keyOfWanted 125 = .ok (.astore 4, 2) := by decide +kernel
theorem dX7_keyOfWanted_127 : decode cX7_keyOfWanted 127 = .ok (.iconst 0, 1) := by decide +kernel
theorem dX7_keyOfWanted_128 : decode cX7_keyOfWanted 128 = .ok (.istore 5, 2) := by decide +kernel
theorem dX7_keyOfWanted_130 : decode cX7_keyOfWanted 130 = .ok (.iload 5, 2) := by decide +kernel
theorem dX7_keyOfWanted_132 : decode cX7_keyOfWanted 132 = .ok (.iload_n 1, 1) := by decide +kernel
theorem dX7_keyOfWanted_133 : decode cX7_keyOfWanted 133 = .ok (.if_icmp .ge 31, 3) := by decide +kernel
theorem dX7_keyOfWanted_136 : decode cX7_keyOfWanted 136 = .ok (.iload 5, 2) := by decide +kernel
theorem dX7_keyOfWanted_138 : decode cX7_keyOfWanted 138 = .ok (.aload_n 0, 1) := by decide +kernel
theorem dX7_keyOfWanted_139 : decode cX7_keyOfWanted 139 = .ok (.getfield 27, 3) := by decide +kernel
theorem dX7_keyOfWanted_142 : decode cX7_keyOfWanted 142 = .ok (.arraylength, 1) := by decide +kernel
theorem dX7_keyOfWanted_143 : decode cX7_keyOfWanted 143 = .ok (.if_icmp .ge 21, 3) := by decide +kernel
theorem dX7_keyOfWanted_146 : decode cX7_keyOfWanted 146 = .ok (.aload 4, 2) := by decide +kernel
theorem dX7_keyOfWanted_148 : decode cX7_keyOfWanted 148 = .ok (.iload 5, 2) := by decide +kernel
theorem dX7_keyOfWanted_150 : decode cX7_keyOfWanted 150 = .ok (.aload_n 0, 1) := by decide +kernel
theorem dX7_keyOfWanted_151 : decode cX7_keyOfWanted 151 = .ok (.getfield 27, 3) := by decide +kernel
theorem dX7_keyOfWanted_154 : decode cX7_keyOfWanted 154 = .ok (.iload 5, 2) := by decide +kernel
theorem dX7_keyOfWanted_156 : decode cX7_keyOfWanted 156 = .ok (.aaload, 1) := by decide +kernel
theorem dX7_keyOfWanted_157 : decode cX7_keyOfWanted 157 = .ok (.aastore, 1) := by decide +kernel
theorem dX7_keyOfWanted_158 : decode cX7_keyOfWanted 158 = .ok (.iinc 5 1, 3) := by decide +kernel
theorem dX7_keyOfWanted_161 : decode cX7_keyOfWanted 161 = .ok (.goto (-31), 3) := by decide +kernel
theorem dX7_keyOfWanted_164 : decode cX7_keyOfWanted 164 = .ok (.new 31, 3) := by decide +kernel
theorem dX7_keyOfWanted_167 : decode cX7_keyOfWanted 167 = .ok (.dup, 1) := by decide +kernel
theorem dX7_keyOfWanted_168 : decode cX7_keyOfWanted 168 = .ok (.aload 4, 2) := by decide +kernel
theorem dX7_keyOfWanted_170 : decode cX7_keyOfWanted 170 = .ok (.iload_n 2, 1) := by decide +kernel
theorem dX7_keyOfWanted_171 : decode cX7_keyOfWanted 171 = .ok (.iload_n 3, 1) := by decide +kernel
theorem dX7_keyOfWanted_172 : decode cX7_keyOfWanted 172 = .ok (.ifCond .ge 7, 3) := by decide +kernel
theorem dX7_keyOfWanted_175 : decode cX7_keyOfWanted 175 = .ok (.aconst_null, 1) := by decide +kernel
theorem dX7_keyOfWanted_176 : decode cX7_keyOfWanted 176 = .ok (.goto 9, 3) := by decide +kernel
theorem dX7_keyOfWanted_179 : decode cX7_keyOfWanted 179 = .ok (.aload_n 0, 1) := by decide +kernel
theorem dX7_keyOfWanted_180 : decode cX7_keyOfWanted 180 = .ok (.getfield 33, 3) := by decide +kernel
theorem dX7_keyOfWanted_183 : decode cX7_keyOfWanted 183 = .ok (.iload_n 3, 1) := by decide +kernel
theorem dX7_keyOfWanted_184 : decode cX7_keyOfWanted 184 = .ok (.aaload, 1) := by decide +kernel
theorem dX7_keyOfWanted_185 : decode cX7_keyOfWanted 185 = .ok (.invokespecial 73, 3) := by decide +kernel
theorem dX7_keyOfWanted_188 : decode cX7_keyOfWanted 188 = .ok (.astore 5, 2) := by decide +kernel
theorem dX7_keyOfWanted_190 : decode cX7_keyOfWanted 190 = .ok (.iload_n 3, 1) := by decide +kernel
theorem dX7_keyOfWanted_191 : decode cX7_keyOfWanted 191 = .ok (.ifCond .lt 11, 3) := by decide +kernel
theorem dX7_keyOfWanted_194 : decode cX7_keyOfWanted 194 = .ok (.aload_n 0, 1) := by decide +kernel
theorem dX7_keyOfWanted_195 : decode cX7_keyOfWanted 195 = .ok (.getfield 33, 3) := by decide +kernel
theorem dX7_keyOfWanted_198 : decode cX7_keyOfWanted 198 = .ok (.iload_n 3, 1) := by decide +kernel
theorem dX7_keyOfWanted_199 : decode cX7_keyOfWanted 199 = .ok (.aload 5, 2) := by decide +kernel
theorem dX7_keyOfWanted_201 : decode cX7_keyOfWanted 201 = .ok (.aastore, 1) := by decide +kernel
theorem dX7_keyOfWanted_202 : decode cX7_keyOfWanted 202 = .ok (.aload 5, 2) := by decide +kernel
theorem dX7_keyOfWanted_204 : decode cX7_keyOfWanted 204 = .ok (.areturn, 1) := by decide +kernel
theorem dX7_look_0 : decode cX7_look 0 = .ok (.iconst 0, 1) := by decide +kernel
theorem dX7_look_1 : decode cX7_look 1 = .ok (.istore_n 3, 1) := by decide +kernel
theorem dX7_look_2 : decode cX7_look 2 = .ok (.iconst 0, 1) := by decide +kernel
theorem dX7_look_3 : decode cX7_look 3 = .ok (.istore 4, 2) := by decide +kernel
theorem dX7_look_5 : decode cX7_look 5 = .ok (.iload 4, 2) := by decide +kernel
theorem dX7_look_7 : decode cX7_look 7 = .ok (.aload_n 0, 1) := by decide +kernel
theorem dX7_look_8 : decode cX7_look 8 = .ok (.getfield 40, 3) := by decide +kernel
theorem dX7_look_11 : decode cX7_look 11 = .ok (.if_icmp .ge 41, 3) := by decide +kernel
theorem dX7_look_14 : decode cX7_look 14 = .ok (.iload 4, 2) := by decide +kernel
theorem dX7_look_16 : decode cX7_look 16 = .ok (.aload_n 0, 1) := by decide +kernel
theorem dX7_look_17 : decode cX7_look 17 = .ok (.getfield 17, 3) := by decide +kernel
theorem dX7_look_20 : decode cX7_look 20 = .ok (.arraylength, 1) := by decide +kernel
theorem dX7_look_21 : decode cX7_look 21 = .ok (.if_icmp .ge 31, 3) := by decide +kernel
theorem dX7_look_24 : decode cX7_look 24 = .ok (.aload_n 0, 1) := by decide +kernel
theorem dX7_look_25 : decode cX7_look 25 = .ok (.getfield 17, 3) := by decide +kernel
theorem dX7_look_28 : decode cX7_look 28 = .ok (.iload 4, 2) := by decide +kernel
theorem dX7_look_30 : decode cX7_look 30 = .ok (.aaload, 1) := by decide +kernel
theorem dX7_look_31 : decode cX7_look 31 = .ok (.aload_n 2, 1) := by decide +kernel
theorem dX7_look_32 : decode cX7_look 32 = .ok (.iconst 0, 1) := by decide +kernel
theorem dX7_look_33 : decode cX7_look 33 = .ok (.invokestatic 76, 3) := by decide +kernel
theorem dX7_look_36 : decode cX7_look 36 = .ok (.ifCond .eq 10, 3) := by decide +kernel
theorem dX7_look_39 : decode cX7_look 39 = .ok (.iload_n 3, 1) := by decide +kernel
theorem dX7_look_40 : decode cX7_look 40 = .ok (.iconst 1, 1) := by decide +kernel
theorem dX7_look_41 : decode cX7_look 41 = .ok (.iload 4, 2) := by decide +kernel
theorem dX7_look_43 : decode cX7_look 43 = .ok (.ishl, 1) := by decide +kernel
theorem dX7_look_44 : decode cX7_look 44 = .ok (.ior, 1) := by decide +kernel
theorem dX7_look_45 : decode cX7_look 45 = .ok (.istore_n 3, 1) := by decide +kernel
theorem dX7_look_46 : decode cX7_look 46 = .ok (.iinc 4 1, 3) := by decide +kernel
theorem dX7_look_49 : decode cX7_look 49 = .ok (.goto (-44), 3) := by decide +kernel
theorem dX7_look_52 : decode cX7_look 52 = .ok (.aload_n 0, 1) := by decide +kernel
theorem dX7_look_53 : decode cX7_look 53 = .ok (.getfield 43, 3) := by decide +kernel
theorem dX7_look_56 : decode cX7_look 56 = .ok (.bipush 28, 2) := by decide +kernel
theorem dX7_look_58 : decode cX7_look 58 = .ok (.if_icmp .ne 24, 3) := by decide +kernel
theorem dX7_look_61 : decode cX7_look 61 = .ok (.aload_n 0, 1) := by decide +kernel
theorem dX7_look_62 : decode cX7_look 62 = .ok (.getfield 80, 3) := by decide +kernel
theorem dX7_look_65 : decode cX7_look 65 = .ok (.aload_n 2, 1) := by decide +kernel
theorem dX7_look_66 : decode cX7_look 66 = .ok (.iconst 0, 1) := by decide +kernel
theorem dX7_look_67 : decode cX7_look 67 = .ok (.invokestatic 76, 3) := by decide +kernel
theorem dX7_look_70 : decode cX7_look 70 = .ok (.istore 4, 2) := by decide +kernel
theorem dX7_look_72 : decode cX7_look 72 = .ok (.aload_n 0, 1) := by decide +kernel
theorem dX7_look_73 : decode cX7_look 73 = .ok (.aload_n 1, 1) := by decide +kernel
theorem dX7_look_74 : decode cX7_look 74 = .ok (.aload_n 2, 1) := by decide +kernel
