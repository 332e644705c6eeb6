theorem dX0_init_0 : decode cX0_init 0 = .ok (.aload_n 0, 1) := by decide +kernel
theorem dX0_init_1 : decode cX0_init 1 = .ok (.invokespecial 1, 3) := by decide +kernel
theorem dX0_init_4 : decode cX0_init 4 = .ok (.aload_n 0, 1) := by decide +kernel
theorem dX0_init_5 : decode cX0_init 5 = .ok (.iload_n 1, 1) := by decide +kernel
theorem dX0_init_6 : decode cX0_init 6 = .ok (.putfield 7, 3) := by decide +kernel
theorem dX0_init_9 : decode cX0_init 9 = .ok (.aload_n 0, 1) := by decide +kernel
theorem dX0_init_10 : decode cX0_init 10 = .ok (.iload_n 2, 1) := by decide +kernel
theorem dX0_init_11 : decode cX0_init 11 = .ok (.putfield 13, 3) := by decide +kernel
theorem dX0_init_14 : decode cX0_init 14 = .ok (.aload_n 0, 1) := by decide +kernel
theorem dX0_init_15 : decode cX0_init 15 = .ok (.iload_n 3, 1) := by decide +kernel
theorem dX0_init_16 : decode cX0_init 16 = .ok (.putfield 16, 3) := by decide +kernel
theorem dX0_init_19 : decode cX0_init 19 = .ok (.aload_n 0, 1) := by decide +kernel
theorem dX0_init_20 : decode cX0_init 20 = .ok (.iload 4, 2) := by decide +kernel
theorem dX0_init_22 : decode cX0_init 22 = .ok (.putfield 19, 3) := by decide +kernel
theorem dX0_init_25 : decode cX0_init 25 = .ok (.aload_n 0, 1) := by decide +kernel
theorem dX0_init_26 : decode cX0_init 26 = .ok (.aload 5, 2) := by decide +kernel
theorem dX0_init_28 : decode cX0_init 28 = .ok (.putfield 22, 3) := by decide +kernel
theorem dX0_init_31 : decode cX0_init 31 = .ok (.aload_n 0, 1) := by decide +kernel
theorem dX0_init_32 : decode cX0_init 32 = .ok (.aload 5, 2) := by decide +kernel
theorem dX0_init_34 : decode cX0_init 34 = .ok (.getfield 26, 3) := by decide +kernel
theorem dX0_init_37 : decode cX0_init 37 = .ok (.putfield 31, 3) := by decide +kernel
theorem dX0_init_40 : decode cX0_init 40 = .ok (.return_, 1) := by decide +kernel
theorem dX1_init_0 : decode cX1_init 0 = .ok (.aload_n 0, 1) := by decide +kernel
theorem dX1_init_1 : decode cX1_init 1 = .ok (.invokespecial 3, 3) := by decide +kernel
theorem dX1_init_4 : decode cX1_init 4 = .ok (.aload_n 0, 1) := by decide +kernel
theorem dX1_init_5 : decode cX1_init 5 = .ok (.iload_n 1, 1) := by decide +kernel
theorem dX1_init_6 : decode cX1_init 6 = .ok (.putfield 9, 3) := by decide +kernel
theorem dX1_init_9 : decode cX1_init 9 = .ok (.aload_n 0, 1) := by decide +kernel
theorem dX1_init_10 : decode cX1_init 10 = .ok (.lload_n 2, 1) := by decide +kernel
theorem dX1_init_11 : decode cX1_init 11 = .ok (.putfield 15, 3) := by decide +kernel
theorem dX1_init_14 : decode cX1_init 14 = .ok (.aload_n 0, 1) := by decide +kernel
theorem dX1_init_15 : decode cX1_init 15 = .ok (.iload 4, 2) := by decide +kernel
theorem dX1_init_17 : decode cX1_init 17 = .ok (.putfield 19, 3) := by decide +kernel
theorem dX1_init_20 : decode cX1_init 20 = .ok (.aload_n 0, 1) := by decide +kernel
theorem dX1_init_21 : decode cX1_init 21 = .ok (.aload 5, 2) := by decide +kernel
theorem dX1_init_23 : decode cX1_init 23 = .ok (.putfield 22, 3) := by decide +kernel
theorem dX1_init_26 : decode cX1_init 26 = .ok (.return_, 1) := by decide +kernel
theorem dX1_append_0 : decode cX1_append 0 = .ok (.aload_n 1, 1) := by decide +kernel
theorem dX1_append_1 : decode cX1_append 1 = .ok (.ifnonnull 4, 3) := by decide +kernel
theorem dX1_append_4 : decode cX1_append 4 = .ok (.return_, 1) := by decide +kernel
theorem dX1_append_5 : decode cX1_append 5 = .ok (.aload_n 0, 1) := by decide +kernel
theorem dX1_append_6 : decode cX1_append 6 = .ok (.getfield 26, 3) := by decide +kernel
theorem dX1_append_9 : decode cX1_append 9 = .ok (.ifnonnull 11, 3) := by decide +kernel
theorem dX1_append_12 : decode cX1_append 12 = .ok (.aload_n 0, 1) := by decide +kernel
theorem dX1_append_13 : decode cX1_append 13 = .ok (.aload_n 1, 1) := by decide +kernel
theorem dX1_append_14 : decode cX1_append 14 = .ok (.putfield 30, 3) := by decide +kernel
theorem dX1_append_17 : decode cX1_append 17 = .ok (.goto 11, 3) := by decide +kernel
theorem dX1_append_20 : decode cX1_append 20 = .ok (.aload_n 0, 1) := by decide +kernel
theorem dX1_append_21 : decode cX1_append 21 = .ok (.getfield 26, 3) := by decide +kernel
theorem dX1_append_24 : decode cX1_append 24 = .ok (.aload_n 1, 1) := by decide +kernel
theorem dX1_append_25 : decode cX1_append 25 = .ok (.putfield 33, 3) := by decide +kernel
theorem dX1_append_28 : decode cX1_append 28 = .ok (.aload_n 0, 1) := by decide +kernel
theorem dX1_append_29 : decode cX1_append 29 = .ok (.aload_n 1, 1) := by decide +kernel
theorem dX1_append_30 : decode cX1_append 30 = .ok (.putfield 26, 3) := by decide +kernel
theorem dX1_append_33 : decode cX1_append 33 = .ok (.return_, 1) := by decide +kernel
theorem dX1_holds_0 : decode cX1_holds 0 = .ok (.aload_n 0, 1) := by decide +kernel
theorem dX1_holds_1 : decode cX1_holds 1 = .ok (.ifnull 9, 3) := by decide +kernel
theorem dX1_holds_4 : decode cX1_holds 4 = .ok (.iload_n 2, 1) := by decide +kernel
theorem dX1_holds_5 : decode cX1_holds 5 = .ok (.bipush 40, 2) := by decide +kernel
theorem dX1_holds_7 : decode cX1_holds 7 = .ok (.if_icmp .le 5, 3) := by decide +kernel
theorem dX1_holds_10 : decode cX1_holds 10 = .ok (.iconst 0, 1) := by decide +kernel
theorem dX1_holds_11 : decode cX1_holds 11 = .ok (.ireturn, 1) := by decide +kernel
theorem dX1_holds_12 : decode cX1_holds 12 = .ok (.aload_n 0, 1) := by decide +kernel
theorem dX1_holds_13 : decode cX1_holds 13 = .ok (.getfield 9, 3) := by decide +kernel
theorem dX1_holds_16 : decode cX1_holds 16 = .ok (.bipush 34, 2) := by decide +kernel
theorem dX1_holds_18 : decode cX1_holds 18 = .ok (.if_icmp .ne 23, 3) := by decide +kernel
theorem dX1_holds_21 : decode cX1_holds 21 = .ok (.aload_n 0, 1) := by decide +kernel
theorem dX1_holds_22 : decode cX1_holds 22 = .ok (.getfield 30, 3) := by decide +kernel
theorem dX1_holds_25 : decode cX1_holds 25 = .ok (.aload_n 1, 1) := by decide +kernel
theorem dX1_holds_26 : decode cX1_holds 26 = .ok (.iload_n 2, 1) := by decide +kernel
theorem dX1_holds_27 : decode cX1_holds 27 = .ok (.iconst 1, 1) := by decide +kernel
theorem dX1_holds_28 : decode cX1_holds 28 = .ok (.iadd, 1) := by decide +kernel
theorem dX1_holds_29 : decode cX1_holds 29 = .ok (.invokestatic 36, 3) := by decide +kernel
theorem dX1_holds_32 : decode cX1_holds 32 = .ok (.ifCond .ne 7, 3) := by decide +kernel
theorem dX1_holds_35 : decode cX1_holds 35 = .ok (.iconst 1, 1) := by decide +kernel
theorem dX1_holds_36 : decode cX1_holds 36 = .ok (.goto 4, 3) := by decide +kernel
theorem dX1_holds_39 : decode cX1_holds 39 = .ok (.iconst 0, 1) := by decide +kernel
theorem dX1_holds_40 : decode cX1_holds 40 = .ok (.ireturn, 1) := by decide +kernel
theorem dX1_holds_41 : decode cX1_holds 41 = .ok (.aload_n 0, 1) := by decide +kernel
theorem dX1_holds_42 : decode cX1_holds 42 = .ok (.getfield 9, 3) := by decide +kernel
theorem dX1_holds_45 : decode cX1_holds 45 = .ok (.bipush 32, 2) := by decide +kernel
theorem dX1_holds_47 : decode cX1_holds 47 = .ok (.if_icmp .eq 18, 3) := by decide +kernel
theorem dX1_holds_50 : decode cX1_holds 50 = .ok (.aload_n 0, 1) := by decide +kernel
theorem dX1_holds_51 : decode cX1_holds 51 = .ok (.getfield 9, 3) := by decide +kernel
theorem dX1_holds_54 : decode cX1_holds 54 = .ok (.bipush 33, 2) := by decide +kernel
theorem dX1_holds_56 : decode cX1_holds 56 = .ok (.if_icmp .eq 9, 3) := by decide +kernel
theorem dX1_holds_59 : decode cX1_holds 59 = .ok (.aload_n 0, 1) := by decide +kernel
theorem dX1_holds_60 : decode cX1_holds 60 = .ok (.aload_n 1, 1) := by decide +kernel
theorem dX1_holds_61 : decode cX1_holds 61 = .ok (.invokevirtual 40, 3) := by decide +kernel
theorem dX1_holds_64 : decode cX1_holds 64 = .ok (.ireturn, 1) := by decide +kernel
theorem dX1_holds_65 : decode cX1_holds 65 = .ok (.aload_n 0, 1) := by decide +kernel
theorem dX1_holds_66 : decode cX1_holds 66 = .ok (.getfield 9, 3) := by decide +kernel
theorem dX1_holds_69 : decode cX1_holds 69 = .ok (.bipush 32, 2) := by decide +kernel
theorem dX1_holds_71 : decode cX1_holds 71 = .ok (.if_icmp .ne 7, 3) := by decide +kernel
theorem dX1_holds_74 : decode cX1_holds 74 = .ok (.iconst 1, 1) := by decide +kernel
theorem dX1_holds_75 : decode cX1_holds 75 = .ok (.goto 4, 3) := by decide +kernel
theorem dX1_holds_78 : decode cX1_holds 78 = .ok (.iconst 0, 1) := by decide +kernel
theorem dX1_holds_79 : decode cX1_holds 79 = .ok (.istore_n 3, 1) := by decide +kernel
theorem dX1_holds_80 : decode cX1_holds 80 = .ok (.aload_n 0, 1) := by decide +kernel
theorem dX1_holds_81 : decode cX1_holds 81 = .ok (.getfield 30, 3) := by decide +kernel
theorem dX1_holds_84 : decode cX1_holds 84 = .ok (.astore 4, 2) := by decide +kernel
theorem dX1_holds_86 : decode cX1_holds 86 = .ok (.aload 4, 2) := by decide +kernel
theorem dX1_holds_88 : decode cX1_holds 88 = .ok (.ifnull 28, 3) := by decide +kernel
theorem dX1_holds_91 : decode cX1_holds 91 = .ok (.aload 4, 2) := by decide +kernel
theorem dX1_holds_93 : decode cX1_holds 93 = .ok (.aload_n 1, 1) := by decide +kernel
theorem dX1_holds_94 : decode cX1_holds 94 = .ok (.iload_n 2, 1) := by decide +kernel
theorem dX1_holds_95 : decode cX1_holds 95 = .ok (.iconst 1, 1) := by decide +kernel
theorem dX1_holds_96 : decode cX1_holds 96 = .ok (.iadd, 1) := by decide +kernel
theorem dX1_holds_97 : decode cX1_holds 97 = .ok (.invokestatic 36, 3) := by decide +kernel
theorem dX1_holds_100 : decode cX1_holds 100 = .ok (.iload_n 3, 1) := by decide +kernel
theorem dX1_holds_101 : decode cX1_holds 101 = .ok (.if_icmp .ne 5, 3) := by decide +kernel
theorem dX1_holds_104 : decode cX1_holds 104 = .ok (.iload_n 3, 1) := by decide +kernel
theorem dX1_holds_105 : decode cX1_holds 105 = .ok (.ireturn, 1) := by decide +kernel
theorem dX1_holds_106 : decode cX1_holds 106 = .ok (.aload 4, 2) := by decide +kernel
theorem dX1_holds_108 : decode cX1_holds 108 = .ok (.getfield 33, 3) := by decide +kernel
theorem dX1_holds_111 : decode cX1_holds 111 = .ok (.astore 4, 2) := by decide +kernel
theorem dX1_holds_113 : decode cX1_holds 113 = .ok (.goto (-27), 3) := by decide +kernel
theorem dX1_holds_116 : decode cX1_holds 116 = .ok (.iload_n 3, 1) := by decide +kernel
theorem dX1_holds_117 : decode cX1_holds 117 = .ok (.ifCond .ne 7, 3) := by decide +kernel
theorem dX1_holds_120 : decode cX1_holds 120 = .ok (.iconst 1, 1) := by decide +kernel
theorem dX1_holds_121 : decode cX1_holds 121 = .ok (.goto 4, 3) := by decide +kernel
theorem dX1_holds_124 : decode cX1_holds 124 = .ok (.iconst 0, 1) := by decide +kernel
theorem dX1_holds_125 : decode cX1_holds 125 = .ok (.ireturn, 1) := by decide +kernel
theorem dX1_fits_0 : decode cX1_fits 0 = .ok (.aload_n 0, 1) := by decide +kernel
theorem dX1_fits_1 : decode cX1_fits 1 = .ok (.getfield 9, 3) := by decide +kernel
theorem dX1_fits_4 : decode cX1_fits 4 = .ok (.bipush 35, 2) := by decide +kernel
theorem dX1_fits_6 : decode cX1_fits 6 = .ok (.if_icmp .ne 21, 3) := by decide +kernel
theorem dX1_fits_9 : decode cX1_fits 9 = .ok (.aload_n 1, 1) := by decide +kernel
theorem dX1_fits_10 : decode cX1_fits 10 = .ok (.getfield 44, 3) := by decide +kernel
theorem dX1_fits_13 : decode cX1_fits 13 = .ok (.aload_n 0, 1) := by decide +kernel
theorem dX1_fits_14 : decode cX1_fits 14 = .ok (.getfield 15, 3) := by decide +kernel
theorem dX1_fits_17 : decode cX1_fits 17 = .ok (.lcmp, 1) := by decide +kernel
theorem dX1_fits_18 : decode cX1_fits 18 = .ok (.ifCond .ne 7, 3) := by decide +kernel
theorem dX1_fits_21 : decode cX1_fits 21 = .ok (.iconst 1, 1) := by decide +kernel
theorem dX1_fits_22 : decode cX1_fits 22 = .ok (.goto 4, 3) := by decide +kernel
theorem dX1_fits_25 : decode cX1_fits 25 = .ok (.iconst 0, 1) := by decide +kernel
theorem dX1_fits_26 : decode cX1_fits 26 = .ok (.ireturn, 1) := by decide +kernel
theorem dX1_fits_27 : decode cX1_fits 27 = .ok (.aload_n 0, 1) := by decide +kernel
theorem dX1_fits_28 : decode cX1_fits 28 = .ok (.getfield 9, 3) := by decide +kernel
theorem dX1_fits_31 : decode cX1_fits 31 = .ok (.bipush 37, 2) := by decide +kernel
theorem dX1_fits_33 : decode cX1_fits 33 = .ok (.if_icmp .ne 20, 3) := by decide +kernel
theorem dX1_fits_36 : decode cX1_fits 36 = .ok (.aload_n 1, 1) := by decide +kernel
theorem dX1_fits_37 : decode cX1_fits 37 = .ok (.getfield 49, 3) := by decide +kernel
theorem dX1_fits_40 : decode cX1_fits 40 = .ok (.aload_n 0, 1) := by decide +kernel
theorem dX1_fits_41 : decode cX1_fits 41 = .ok (.getfield 19, 3) := by decide +kernel
theorem dX1_fits_44 : decode cX1_fits 44 = .ok (.if_icmp .ne 7, 3) := by decide +kernel
theorem dX1_fits_47 : decode cX1_fits 47 = .ok (.iconst 1, 1) := by decide +kernel
theorem dX1_fits_48 : decode cX1_fits 48 = .ok (.goto 4, 3) := by decide +kernel
theorem dX1_fits_51 : decode cX1_fits 51 = .ok (.iconst 0, 1) := by decide +kernel
theorem dX1_fits_52 : decode cX1_fits 52 = .ok (.ireturn, 1) := by decide +kernel
theorem dX1_fits_53 : decode cX1_fits 53 = .ok (.aload_n 1, 1) := by decide +kernel
theorem dX1_fits_54 : decode cX1_fits 54 = .ok (.aload_n 0, 1) := by decide +kernel
theorem dX1_fits_55 : decode cX1_fits 55 = .ok (.getfield 15, 3) := by decide +kernel
theorem dX1_fits_58 : decode cX1_fits 58 = .ok (.invokevirtual 52, 3) := by decide +kernel
theorem dX1_fits_61 : decode cX1_fits 61 = .ok (.astore_n 2, 1) := by decide +kernel
theorem dX1_fits_62 : decode cX1_fits 62 = .ok (.aload_n 2, 1) := by decide +kernel
theorem dX1_fits_63 : decode cX1_fits 63 = .ok (.ifnull 12, 3) := by decide +kernel
theorem dX1_fits_66 : decode cX1_fits 66 = .ok (.aload_n 0, 1) := by decide +kernel
theorem dX1_fits_67 : decode cX1_fits 67 = .ok (.getfield 9, 3) := by decide +kernel
theorem dX1_fits_70 : decode cX1_fits 70 = .ok (.bipush 36, 2) := by decide +kernel
theorem dX1_fits_72 : decode cX1_fits 72 = .ok (.if_icmp .ne 13, 3) := by decide +kernel
theorem dX1_fits_75 : decode cX1_fits 75 = .ok (.aload_n 2, 1) := by decide +kernel
theorem dX1_fits_76 : decode cX1_fits 76 = .ok (.ifnull 7, 3) := by decide +kernel
theorem dX1_fits_79 : decode cX1_fits 79 = .ok (.iconst 1, 1) := by decide +kernel
theorem dX1_fits_80 : decode cX1_fits 80 = .ok (.goto 4, 3) := by decide +kernel
theorem dX1_fits_83 : decode cX1_fits 83 = .ok (.iconst 0, 1) := by decide +kernel
theorem dX1_fits_84 : decode cX1_fits 84 = .ok (.ireturn, 1) := by decide +kernel
theorem dX1_fits_85 : decode cX1_fits 85 = .ok (.aload_n 0, 1) := by decide +kernel
theorem dX1_fits_86 : decode cX1_fits 86 = .ok (.getfield 22, 3) := by decide +kernel
theorem dX1_fits_89 : decode cX1_fits 89 = .ok (.ifnull 17, 3) := by decide +kernel
theorem dX1_fits_92 : decode cX1_fits 92 = .ok (.aload_n 2, 1) := by decide +kernel
theorem dX1_fits_93 : decode cX1_fits 93 = .ok (.getfield 56, 3) := by decide +kernel
theorem dX1_fits_96 : decode cX1_fits 96 = .ok (.aload_n 0, 1) := by decide +kernel
theorem dX1_fits_97 : decode cX1_fits 97 = .ok (.getfield 22, 3) := by decide +kernel
theorem dX1_fits_100 : decode cX1_fits 100 = .ok (.getfield 56, 3) := by decide +kernel
theorem dX1_fits_103 : decode cX1_fits 103 = .ok (.if_icmp .eq 5, 3) := by decide +kernel
theorem dX1_fits_106 : decode cX1_fits 106 = .ok (.iconst 0, 1) := by decide +kernel
theorem dX1_fits_107 : decode cX1_fits 107 = .ok (.ireturn, 1) := by decide +kernel
theorem dX1_fits_108 : decode cX1_fits 108 = .ok (.aload_n 0, 1) := by decide +kernel
theorem dX1_fits_109 : decode cX1_fits 109 = .ok (.getfield 9, 3) := by decide +kernel
theorem dX1_fits_112 : decode cX1_fits 112 = .ok (.lookupswitch 192 #[(11, 106), (12, 115), (13, 132), (14, 152), (15, 172), (38, 68), (39, 77)], 68) := by decide +kernel
theorem dX1_fits_180 : decode cX1_fits 180 = .ok (.aload_n 2, 1) := by decide +kernel
theorem dX1_fits_181 : decode cX1_fits 181 = .ok (.aload_n 0, 1) := by decide +kernel
theorem dX1_fits_182 : decode cX1_fits 182 = .ok (.getfield 22, 3) := by decide +kernel
theorem dX1_fits_185 : decode cX1_fits 185 = .ok (.invokevirtual 59, 3) := by decide +kernel
theorem dX1_fits_188 : decode cX1_fits 188 = .ok (.ireturn, 1) := by decide +kernel
theorem dX1_fits_189 : decode cX1_fits 189 = .ok (.aload_n 2, 1) := by decide +kernel
theorem dX1_fits_190 : decode cX1_fits 190 = .ok (.getfield 63, 3) := by decide +kernel
theorem dX1_fits_193 : decode cX1_fits 193 = .ok (.aload_n 0, 1) := by decide +kernel
theorem dX1_fits_194 : decode cX1_fits 194 = .ok (.getfield 22, 3) := by decide +kernel
theorem dX1_fits_197 : decode cX1_fits 197 = .ok (.getfield 63, 3) := by decide +kernel
theorem dX1_fits_200 : decode cX1_fits 200 = .ok (.ixor, 1) := by decide +kernel
theorem dX1_fits_201 : decode cX1_fits 201 = .ok (.aload_n 0, 1) := by decide +kernel
theorem dX1_fits_202 : decode cX1_fits 202 = .ok (.getfield 19, 3) := by decide +kernel
theorem dX1_fits_205 : decode cX1_fits 205 = .ok (.invokestatic 64, 3) := by decide +kernel
theorem dX1_fits_208 : decode cX1_fits 208 = .ok (.iand, 1) := by decide +kernel
theorem dX1_fits_209 : decode cX1_fits 209 = .ok (.ifCond .ne 7, 3) := by decide +kernel
theorem dX1_fits_212 : decode cX1_fits 212 = .ok (.iconst 1, 1) := by decide +kernel
theorem dX1_fits_213 : decode cX1_fits 213 = .ok (.goto 4, 3) := by decide +kernel
theorem dX1_fits_216 : decode cX1_fits 216 = .ok (.iconst 0, 1) := by decide +kernel
theorem dX1_fits_217 : decode cX1_fits 217 = .ok (.ireturn, 1) := by decide +kernel
theorem dX1_fits_218 : decode cX1_fits 218 = .ok (.aload_n 2, 1) := by decide +kernel
theorem dX1_fits_219 : decode cX1_fits 219 = .ok (.aload_n 0, 1) := by decide +kernel
theorem dX1_fits_220 : decode cX1_fits 220 = .ok (.getfield 22, 3) := by decide +kernel
theorem dX1_fits_223 : decode cX1_fits 223 = .ok (.invokevirtual 68, 3) := by decide +kernel
theorem dX1_fits_226 : decode cX1_fits 226 = .ok (.ireturn, 1) := by decide +kernel
theorem dX1_fits_227 : decode cX1_fits 227 = .ok (.aload_n 2, 1) := by decide +kernel
theorem dX1_fits_228 : decode cX1_fits 228 = .ok (.aload_n 0, 1) := by decide +kernel
theorem dX1_fits_229 : decode cX1_fits 229 = .ok (.getfield 22, 3) := by decide +kernel
theorem dX1_fits_232 : decode cX1_fits 232 = .ok (.invokevirtual 68, 3) := by decide +kernel
theorem dX1_fits_235 : decode cX1_fits 235 = .ok (.ifCond .ne 7, 3) := by decide +kernel
theorem dX1_fits_238 : decode cX1_fits 238 = .ok (.iconst 1, 1) := by decide +kernel
theorem dX1_fits_239 : decode cX1_fits 239 = .ok (.goto 4, 3) := by decide +kernel
theorem dX1_fits_242 : decode cX1_fits 242 = .ok (.iconst 0, 1) := by decide +kernel
theorem dX1_fits_243 : decode cX1_fits 243 = .ok (.ireturn, 1) := by decide +kernel
theorem dX1_fits_244 : decode cX1_fits 244 = .ok (.aload_n 2, 1) := by decide +kernel
theorem dX1_fits_245 : decode cX1_fits 245 = .ok (.getfield 63, 3) := by decide +kernel
theorem dX1_fits_248 : decode cX1_fits 248 = .ok (.aload_n 0, 1) := by decide +kernel
theorem dX1_fits_249 : decode cX1_fits 249 = .ok (.getfield 22, 3) := by decide +kernel
theorem dX1_fits_252 : decode cX1_fits 252 = .ok (.getfield 63, 3) := by decide +kernel
theorem dX1_fits_255 : decode cX1_fits 255 = .ok (.if_icmp .ge 7, 3) := by decide +kernel
theorem dX1_fits_258 : decode cX1_fits 258 = .ok (.iconst 1, 1) := by decide +kernel
theorem dX1_fits_259 : decode cX1_fits 259 = .ok (.goto 4, 3) := by decide +kernel
theorem dX1_fits_262 : decode cX1_fits 262 = .ok (.iconst 0, 1) := by decide +kernel
theorem dX1_fits_263 : decode cX1_fits 263 = .ok (.ireturn, 1) := by decide +kernel
theorem dX1_fits_264 : decode cX1_fits 264 = .ok (.aload_n 2, 1) := by decide +kernel
theorem dX1_fits_265 : decode cX1_fits 265 = .ok (.getfield 63, 3) := by decide +kernel
theorem dX1_fits_268 : decode cX1_fits 268 = .ok (.aload_n 0, 1) := by decide +kernel
theorem dX1_fits_269 : decode cX1_fits 269 = .ok (.getfield 22, 3) := by decide +kernel
theorem dX1_fits_272 : decode cX1_fits 272 = .ok (.getfield 63, 3) := by decide +kernel
theorem dX1_fits_275 : decode cX1_fits 275 = .ok (.if_icmp .gt 7, 3) := by decide +kernel
theorem dX1_fits_278 : decode cX1_fits 278 = .ok (.iconst 1, 1) := by decide +kernel
theorem dX1_fits_279 : decode cX1_fits 279 = .ok (.goto 4, 3) := by decide +kernel
theorem dX1_fits_282 : decode cX1_fits 282 = .ok (.iconst 0, 1) := by decide +kernel
theorem dX1_fits_283 : decode cX1_fits 283 = .ok (.ireturn, 1) := by decide +kernel
theorem dX1_fits_284 : decode cX1_fits 284 = .ok (.aload_n 2, 1) := by decide +kernel
theorem dX1_fits_285 : decode cX1_fits 285 = .ok (.getfield 63, 3) := by decide +kernel
theorem dX1_fits_288 : decode cX1_fits 288 = .ok (.aload_n 0, 1) := by decide +kernel
theorem dX1_fits_289 : decode cX1_fits 289 = .ok (.getfield 22, 3) := by decide +kernel
theorem dX1_fits_292 : decode cX1_fits 292 = .ok (.getfield 63, 3) := by decide +kernel
theorem dX1_fits_295 : decode cX1_fits 295 = .ok (.if_icmp .le 7, 3) := by decide +kernel
theorem dX1_fits_298 : decode cX1_fits 298 = .ok (.iconst 1, 1) := by decide +kernel
theorem dX1_fits_299 : decode cX1_fits 299 = .ok (.goto 4, 3) := by decide +kernel
theorem dX1_fits_302 : decode cX1_fits 302 = .ok (.iconst 0, 1) := by decide +kernel
theorem dX1_fits_303 : decode cX1_fits 303 = .ok (.ireturn, 1) := by decide +kernel
theorem dX1_fits_304 : decode cX1_fits 304 = .ok (.aload_n 2, 1) := by decide +kernel
theorem dX1_fits_305 : decode cX1_fits 305 = .ok (.getfield 63, 3) := by decide +kernel
theorem dX1_fits_308 : decode cX1_fits 308 = .ok (.aload_n 0, 1) := by decide +kernel
theorem dX1_fits_309 : decode cX1_fits 309 = .ok (.getfield 22, 3) := by decide +kernel
theorem dX1_fits_312 : decode cX1_fits 312 = .ok (.getfield 63, 3) := by decide +kernel
theorem dX1_fits_315 : decode cX1_fits 315 = .ok (.if_icmp .lt 7, 3) := by decide +kernel
theorem dX1_fits_318 : decode cX1_fits 318 = .ok (.iconst 1, 1) := by decide +kernel
theorem dX1_fits_319 : decode cX1_fits 319 = .ok (.goto 4, 3) := by decide +kernel
theorem dX1_fits_322 : decode cX1_fits 322 = .ok (.iconst 0, 1) := by decide +kernel
theorem dX1_fits_323 : decode cX1_fits 323 = .ok (.ireturn, 1) := by decide +kernel
theorem dX1_maskOf_0 : decode cX1_maskOf 0 = .ok (.iload_n 0, 1) := by decide +kernel
theorem dX1_maskOf_1 : decode cX1_maskOf 1 = .ok (.ifCond .gt 7, 3) := by decide +kernel
theorem dX1_maskOf_4 : decode cX1_maskOf 4 = .ok (.iconst 0, 1) := by decide +kernel
theorem dX1_maskOf_5 : decode cX1_maskOf 5 = .ok (.goto 9, 3) := by decide +kernel
theorem dX1_maskOf_8 : decode cX1_maskOf 8 = .ok (.iconst (-1), 1) := by decide +kernel
theorem dX1_maskOf_9 : decode cX1_maskOf 9 = .ok (.bipush 32, 2) := by decide +kernel
theorem dX1_maskOf_11 : decode cX1_maskOf 11 = .ok (.iload_n 0, 1) := by decide +kernel
theorem dX1_maskOf_12 : decode cX1_maskOf 12 = .ok (.isub, 1) := by decide +kernel
theorem dX1_maskOf_13 : decode cX1_maskOf 13 = .ok (.ishl, 1) := by decide +kernel
theorem dX1_maskOf_14 : decode cX1_maskOf 14 = .ok (.ireturn, 1) := by decide +kernel
theorem dX2_init_0 : decode cX2_init 0 = .ok (.aload_n 0, 1) := by decide +kernel
theorem dX2_init_1 : decode cX2_init 1 = .ok (.invokespecial 1, 3) := by decide +kernel
theorem dX2_init_4 : decode cX2_init 4 = .ok (.aload_n 0, 1) := by decide +kernel
theorem dX2_init_5 : decode cX2_init 5 = .ok (.aload_n 1, 1) := by decide +kernel
theorem dX2_init_6 : decode cX2_init 6 = .ok (.putfield 7, 3) := by decide +kernel
theorem dX2_init_9 : decode cX2_init 9 = .ok (.aload_n 0, 1) := by decide +kernel
theorem dX2_init_10 : decode cX2_init 10 = .ok (.aload_n 2, 1) := by decide +kernel
theorem dX2_init_11 : decode cX2_init 11 = .ok (.putfield 13, 3) := by decide +kernel
theorem dX2_init_14 : decode cX2_init 14 = .ok (.aload_n 0, 1) := by decide +kernel
theorem dX2_init_15 : decode cX2_init 15 = .ok (.iload_n 3, 1) := by decide +kernel
theorem dX2_init_16 : decode cX2_init 16 = .ok (.putfield 17, 3) := by decide +kernel
theorem dX2_init_19 : decode cX2_init 19 = .ok (.aload_n 0, 1) := by decide +kernel
theorem dX2_init_20 : decode cX2_init 20 = .ok (.aload 4, 2) := by decide +kernel
theorem dX2_init_22 : decode cX2_init 22 = .ok (.putfield 21, 3) := by decide +kernel
theorem dX2_init_25 : decode cX2_init 25 = .ok (.return_, 1) := by decide +kernel
theorem dX3_init_0 : decode cX3_init 0 = .ok (.aload_n 0, 1) := by decide +kernel
theorem dX3_init_1 : decode cX3_init 1 = .ok (.invokespecial 1, 3) := by decide +kernel
theorem dX3_init_4 : decode cX3_init 4 = .ok (.aload_n 0, 1) := by decide +kernel
theorem dX3_init_5 : decode cX3_init 5 = .ok (.iload_n 1, 1) := by decide +kernel
theorem dX3_init_6 : decode cX3_init 6 = .ok (.putfield 7, 3) := by decide +kernel
theorem dX3_init_9 : decode cX3_init 9 = .ok (.aload_n 0, 1) := by decide +kernel
theorem dX3_init_10 : decode cX3_init 10 = .ok (.lload_n 2, 1) := by decide +kernel
theorem dX3_init_11 : decode cX3_init 11 = .ok (.putfield 13, 3) := by decide +kernel
theorem dX3_init_14 : decode cX3_init 14 = .ok (.aload_n 0, 1) := by decide +kernel
theorem dX3_init_15 : decode cX3_init 15 = .ok (.iload 4, 2) := by decide +kernel
theorem dX3_init_17 : decode cX3_init 17 = .ok (.putfield 17, 3) := by decide +kernel
theorem dX3_init_20 : decode cX3_init 20 = .ok (.aload_n 0, 1) := by decide +kernel
theorem dX3_init_21 : decode cX3_init 21 = .ok (.aload 5, 2) := by decide +kernel
theorem dX3_init_23 : decode cX3_init 23 = .ok (.putfield 20, 3) := by decide +kernel
theorem dX3_init_26 : decode cX3_init 26 = .ok (.aload_n 0, 1) := by decide +kernel
theorem dX3_init_27 : decode cX3_init 27 = .ok (.aload 6, 2) := by decide +kernel
theorem dX3_init_29 : decode cX3_init 29 = .ok (.putfield 24, 3) := by decide +kernel
theorem dX3_init_32 : decode cX3_init 32 = .ok (.return_, 1) := by decide +kernel
theorem dX3_find_0 : decode cX3_find 0 = .ok (.iconst 0, 1) := by decide +kernel
theorem dX3_find_1 : decode cX3_find 1 = .ok (.istore_n 3, 1) := by decide +kernel
theorem dX3_find_2 : decode cX3_find 2 = .ok (.iload_n 3, 1) := by decide +kernel
theorem dX3_find_3 : decode cX3_find 3 = .ok (.aload_n 0, 1) := by decide +kernel
theorem dX3_find_4 : decode cX3_find 4 = .ok (.getfield 20, 3) := by decide +kernel
theorem dX3_find_7 : decode cX3_find 7 = .ok (.arraylength, 1) := by decide +kernel
theorem dX3_find_8 : decode cX3_find 8 = .ok (.if_icmp .ge 36, 3) := by decide +kernel
theorem dX3_find_11 : decode cX3_find 11 = .ok (.iload_n 3, 1) := by decide +kernel
theorem dX3_find_12 : decode cX3_find 12 = .ok (.aload_n 0, 1) := by decide +kernel
theorem dX3_find_13 : decode cX3_find 13 = .ok (.getfield 24, 3) := by decide +kernel
theorem dX3_find_16 : decode cX3_find 16 = .ok (.arraylength, 1) := by decide +kernel
theorem dX3_find_17 : decode cX3_find 17 = .ok (.if_icmp .ge 27, 3) := by decide +kernel
theorem dX3_find_20 : decode cX3_find 20 = .ok (.aload_n 0, 1) := by decide +kernel
theorem dX3_find_21 : decode cX3_find 21 = .ok (.getfield 20, 3) := by decide +kernel
theorem dX3_find_24 : decode cX3_find 24 = .ok (.iload_n 3, 1) := by decide +kernel
theorem dX3_find_25 : decode cX3_find 25 = .ok (.laload, 1) := by decide +kernel
theorem dX3_find_26 : decode cX3_find 26 = .ok (.lload_n 1, 1) := by decide +kernel
theorem dX3_find_27 : decode cX3_find 27 = .ok (.lcmp, 1) := by decide +kernel
theorem dX3_find_28 : decode cX3_find 28 = .ok (.ifCond .ne 10, 3) := by decide +kernel
theorem dX3_find_31 : decode cX3_find 31 = .ok (.aload_n 0, 1) := by decide +kernel
theorem dX3_find_32 : decode cX3_find 32 = .ok (.getfield 24, 3) := by decide +kernel
theorem dX3_find_35 : decode cX3_find 35 = .ok (.iload_n 3, 1) := by decide +kernel
theorem dX3_find_36 : decode cX3_find 36 = .ok (.aaload, 1) := by decide +kernel
theorem dX3_find_37 : decode cX3_find 37 = .ok (.areturn, 1) := by decide +kernel
theorem dX3_find_38 : decode cX3_find 38 = .ok (.iinc 3 1, 3) := by decide +kernel
theorem dX3_find_41 : decode cX3_find 41 = .ok (.goto (-39), 3) := by decide +kernel
theorem dX3_find_44 : decode cX3_find 44 = .ok (.aconst_null, 1) := by decide +kernel
theorem dX3_find_45 : decode cX3_find 45 = .ok (.areturn, 1) := by decide +kernel
theorem dX4_init_0 : decode cX4_init 0 = .ok (.aload_n 0, 1) := by decide +kernel
theorem dX4_init_1 : decode cX4_init 1 = .ok (.invokespecial 3, 3) := by decide +kernel
theorem dX4_init_4 : decode cX4_init 4 = .ok (.aload_n 0, 1) := by decide +kernel
theorem dX4_init_5 : decode cX4_init 5 = .ok (.aload_n 1, 1) := by decide +kernel
theorem dX4_init_6 : decode cX4_init 6 = .ok (.putfield 9, 3) := by decide +kernel
theorem dX4_init_9 : decode cX4_init 9 = .ok (.aload_n 0, 1) := by decide +kernel
theorem dX4_init_10 : decode cX4_init 10 = .ok (.iload_n 2, 1) := by decide +kernel
theorem dX4_init_11 : decode cX4_init 11 = .ok (.putfield 15, 3) := by decide +kernel
theorem dX4_init_14 : decode cX4_init 14 = .ok (.aload_n 0, 1) := by decide +kernel
theorem dX4_init_15 : decode cX4_init 15 = .ok (.aload_n 3, 1) := by decide +kernel
theorem dX4_init_16 : decode cX4_init 16 = .ok (.putfield 19, 3) := by decide +kernel
theorem dX4_init_19 : decode cX4_init 19 = .ok (.aload_n 0, 1) := by decide +kernel
theorem dX4_init_20 : decode cX4_init 20 = .ok (.iconst (-1), 1) := by decide +kernel
theorem dX4_init_21 : decode cX4_init 21 = .ok (.putfield 23, 3) := by decide +kernel
theorem dX4_init_24 : decode cX4_init 24 = .ok (.return_, 1) := by decide +kernel
theorem dX4_valueAt_0 : decode cX4_valueAt 0 = .ok (.iload_n 1, 1) := by decide +kernel
theorem dX4_valueAt_1 : decode cX4_valueAt 1 = .ok (.ifCond .lt 12, 3) := by decide +kernel
theorem dX4_valueAt_4 : decode cX4_valueAt 4 = .ok (.iload_n 1, 1) := by decide +kernel
theorem dX4_valueAt_5 : decode cX4_valueAt 5 = .ok (.aload_n 0, 1) := by decide +kernel
theorem dX4_valueAt_6 : decode cX4_valueAt 6 = .ok (.getfield 9, 3) := by decide +kernel
theorem dX4_valueAt_9 : decode cX4_valueAt 9 = .ok (.arraylength, 1) := by decide +kernel
theorem dX4_valueAt_10 : decode cX4_valueAt 10 = .ok (.if_icmp .lt 7, 3) := by decide +kernel
theorem dX4_valueAt_13 : decode cX4_valueAt 13 = .ok (.aconst_null, 1) := by decide +kernel
theorem dX4_valueAt_14 : decode cX4_valueAt 14 = .ok (.goto 9, 3) := by decide +kernel
theorem dX4_valueAt_17 : decode cX4_valueAt 17 = .ok (.aload_n 0, 1) := by decide +kernel
theorem dX4_valueAt_18 : decode cX4_valueAt 18 = .ok (.getfield 9, 3) := by decide +kernel
theorem dX4_valueAt_21 : decode cX4_valueAt 21 = .ok (.iload_n 1, 1) := by decide +kernel
theorem dX4_valueAt_22 : decode cX4_valueAt 22 = .ok (.aaload, 1) := by decide +kernel
theorem dX4_valueAt_23 : decode cX4_valueAt 23 = .ok (.areturn, 1) := by decide +kernel
theorem dX4_holdsValues_0 : decode cX4_holdsValues 0 = .ok (.aload_n 0, 1) := by decide +kernel
theorem dX4_holdsValues_1 : decode cX4_holdsValues 1 = .ok (.getfield 15, 3) := by decide +kernel
theorem dX4_holdsValues_4 : decode cX4_holdsValues 4 = .ok (.iload_n 3, 1) := by decide +kernel
theorem dX4_holdsValues_5 : decode cX4_holdsValues 5 = .ok (.if_icmp .ne 12, 3) := by decide +kernel
theorem dX4_holdsValues_8 : decode cX4_holdsValues 8 = .ok (.aload_n 0, 1) := by decide +kernel
theorem dX4_holdsValues_9 : decode cX4_holdsValues 9 = .ok (.getfield 9, 3) := by decide +kernel
theorem dX4_holdsValues_12 : decode cX4_holdsValues 12 = .ok (.arraylength, 1) := by decide +kernel
theorem dX4_holdsValues_13 : decode cX4_holdsValues 13 = .ok (.iload_n 2, 1) := by decide +kernel
theorem dX4_holdsValues_14 : decode cX4_holdsValues 14 = .ok (.if_icmp .eq 5, 3) := by decide +kernel
theorem dX4_holdsValues_17 : decode cX4_holdsValues 17 = .ok (.iconst 0, 1) := by decide +kernel
theorem dX4_holdsValues_18 : decode cX4_holdsValues 18 = .ok (.ireturn, 1) := by decide +kernel
theorem dX4_holdsValues_19 : decode cX4_holdsValues 19 = .ok (.iconst 0, 1) := by decide +kernel
theorem dX4_holdsValues_20 : decode cX4_holdsValues 20 = .ok (.istore 4, 2) := by decide +kernel
theorem dX4_holdsValues_22 : decode cX4_holdsValues 22 = .ok (.iload 4, 2) := by decide +kernel
theorem dX4_holdsValues_24 : decode cX4_holdsValues 24 = .ok (.iload_n 2, 1) := by decide +kernel
theorem dX4_holdsValues_25 : decode cX4_holdsValues 25 = .ok (.if_icmp .ge 35, 3) := by decide +kernel
theorem dX4_holdsValues_28 : decode cX4_holdsValues 28 = .ok (.iload 4, 2) := by decide +kernel
theorem dX4_holdsValues_30 : decode cX4_holdsValues 30 = .ok (.aload_n 1, 1) := by decide +kernel
theorem dX4_holdsValues_31 : decode cX4_holdsValues 31 = .ok (.arraylength, 1) := by decide +kernel
theorem dX4_holdsValues_32 : decode cX4_holdsValues 32 = .ok (.if_icmp .ge 28, 3) := by decide +kernel
theorem dX4_holdsValues_35 : decode cX4_holdsValues 35 = .ok (.aload_n 0, 1) := by decide +kernel
theorem dX4_holdsValues_36 : decode cX4_holdsValues 36 = .ok (.getfield 9, 3) := by decide +kernel
theorem dX4_holdsValues_39 : decode cX4_holdsValues 39 = .ok (.iload 4, 2) := by decide +kernel
theorem dX4_holdsValues_41 : decode cX4_holdsValues 41 = .ok (.aaload, 1) := by decide +kernel
theorem dX4_holdsValues_42 : decode cX4_holdsValues 42 = .ok (.aload_n 1, 1) := by decide +kernel
theorem dX4_holdsValues_43 : decode cX4_holdsValues 43 = .ok (.iload 4, 2) := by decide +kernel
theorem dX4_holdsValues_45 : decode cX4_holdsValues 45 = .ok (.aaload, 1) := by decide +kernel
theorem dX4_holdsValues_46 : decode cX4_holdsValues 46 = .ok (.invokevirtual 26, 3) := by decide +kernel
theorem dX4_holdsValues_49 : decode cX4_holdsValues 49 = .ok (.ifCond .ne 5, 3) := by decide +kernel
theorem dX4_holdsValues_52 : decode cX4_holdsValues 52 = .ok (.iconst 0, 1) := by decide +kernel
theorem dX4_holdsValues_53 : decode cX4_holdsValues 53 = .ok (.ireturn, 1) := by decide +kernel
theorem dX4_holdsValues_54 : decode cX4_holdsValues 54 = .ok (.iinc 4 1, 3) := by decide +kernel
theorem dX4_holdsValues_57 : decode cX4_holdsValues 57 = .ok (.goto (-35), 3) := by decide +kernel
theorem dX4_holdsValues_60 : decode cX4_holdsValues 60 = .ok (.iconst 1, 1) := by decide +kernel
theorem dX4_holdsValues_61 : decode cX4_holdsValues 61 = .ok (.ireturn, 1) := by decide +kernel
theorem dX5_init_0 : decode cX5_init 0 = .ok (.aload_n 0, 1) := by decide +kernel
theorem dX5_init_1 : decode cX5_init 1 = .ok (.invokespecial 3, 3) := by decide +kernel
theorem dX5_init_4 : decode cX5_init 4 = .ok (.aload_n 0, 1) := by decide +kernel
theorem dX5_init_5 : decode cX5_init 5 = .ok (.aload_n 1, 1) := by decide +kernel
theorem dX5_init_6 : decode cX5_init 6 = .ok (.putfield 9, 3) := by decide +kernel
theorem dX5_init_9 : decode cX5_init 9 = .ok (.aload_n 0, 1) := by decide +kernel
theorem dX5_init_10 : decode cX5_init 10 = .ok (.bipush 12, 2) := by decide +kernel
theorem dX5_init_12 : decode cX5_init 12 = .ok (.anewarray 15, 3) := by decide +kernel
theorem dX5_init_15 : decode cX5_init 15 = .ok (.putfield 17, 3) := by decide +kernel
theorem dX5_init_18 : decode cX5_init 18 = .ok (.aload_n 0, 1) := by decide +kernel
theorem dX5_init_19 : decode cX5_init 19 = .ok (.aload_n 1, 1) := by decide +kernel
theorem dX5_init_20 : decode cX5_init 20 = .ok (.getfield 21, 3) := by decide +kernel
theorem dX5_init_23 : decode cX5_init 23 = .ok (.iconst 0, 1) := by decide +kernel
theorem dX5_init_24 : decode cX5_init 24 = .ok (.iaload, 1) := by decide +kernel
theorem dX5_init_25 : decode cX5_init 25 = .ok (.putfield 27, 3) := by decide +kernel
theorem dX5_init_28 : decode cX5_init 28 = .ok (.return_, 1) := by decide +kernel
theorem dX5_another_0 : decode cX5_another 0 = .ok (.aload_n 0, 1) := by decide +kernel
theorem dX5_another_1 : decode cX5_another 1 = .ok (.getfield 31, 3) := by decide +kernel
theorem dX5_another_4 : decode cX5_another 4 = .ok (.ifCond .ne 15, 3) := by decide +kernel
theorem dX5_another_7 : decode cX5_another 7 = .ok (.aload_n 0, 1) := by decide +kernel
theorem dX5_another_8 : decode cX5_another 8 = .ok (.getfield 27, 3) := by decide +kernel
theorem dX5_another_11 : decode cX5_another 11 = .ok (.iconst 1, 1) := by decide +kernel
theorem dX5_another_12 : decode cX5_another 12 = .ok (.if_icmp .eq 7, 3) := by decide +kernel
theorem dX5_another_15 : decode cX5_another 15 = .ok (.iconst 1, 1) := by decide +kernel
theorem dX5_another_16 : decode cX5_another 16 = .ok (.goto 4, 3) := by decide +kernel
theorem dX5_another_19 : decode cX5_another 19 = .ok (.iconst 0, 1) := by decide +kernel
theorem dX5_another_20 : decode cX5_another 20 = .ok (.ireturn, 1) := by decide +kernel
theorem dX5_step_0 : decode cX5_step 0 = .ok (.aload_n 0, 1) := by decide +kernel
theorem dX5_step_1 : decode cX5_step 1 = .ok (.getfield 31, 3) := by decide +kernel
theorem dX5_step_4 : decode cX5_step 4 = .ok (.ifCond .ne 61, 3) := by decide +kernel
theorem dX5_step_7 : decode cX5_step 7 = .ok (.aload_n 0, 1) := by decide +kernel
theorem dX5_step_8 : decode cX5_step 8 = .ok (.getfield 27, 3) := by decide +kernel
theorem dX5_step_11 : decode cX5_step 11 = .ok (.iconst 1, 1) := by decide +kernel
theorem dX5_step_12 : decode cX5_step 12 = .ok (.if_icmp .eq 53, 3) := by decide +kernel
theorem dX5_step_15 : decode cX5_step 15 = .ok (.aload_n 0, 1) := by decide +kernel
theorem dX5_step_16 : decode cX5_step 16 = .ok (.getfield 27, 3) := by decide +kernel
theorem dX5_step_19 : decode cX5_step 19 = .ok (.ifCond .eq 46, 3) := by decide +kernel
theorem dX5_step_22 : decode cX5_step 22 = .ok (.aload_n 0, 1) := by decide +kernel
theorem dX5_step_23 : decode cX5_step 23 = .ok (.getfield 34, 3) := by decide +kernel
theorem dX5_step_26 : decode cX5_step 26 = .ok (.iconst 1, 1) := by decide +kernel
theorem dX5_step_27 : decode cX5_step 27 = .ok (.iadd, 1) := by decide +kernel
theorem dX5_step_28 : decode cX5_step 28 = .ok (.aload_n 0, 1) := by decide +kernel
theorem dX5_step_29 : decode cX5_step 29 = .ok (.getfield 9, 3) := by decide +kernel
theorem dX5_step_32 : decode cX5_step 32 = .ok (.getfield 21, 3) := by decide +kernel
theorem dX5_step_35 : decode cX5_step 35 = .ok (.arraylength, 1) := by decide +kernel
theorem dX5_step_36 : decode cX5_step 36 = .ok (.if_icmp .ge 29, 3) := by decide +kernel
theorem dX5_step_39 : decode cX5_step 39 = .ok (.aload_n 0, 1) := by decide +kernel
theorem dX5_step_40 : decode cX5_step 40 = .ok (.dup, 1) := by decide +kernel
theorem dX5_step_41 : decode cX5_step 41 = .ok (.getfield 34, 3) := by decide +kernel
theorem dX5_step_44 : decode cX5_step 44 = .ok (.iconst 1, 1) := by decide +kernel
theorem dX5_step_45 : decode cX5_step 45 = .ok (.iadd, 1) := by decide +kernel
theorem dX5_step_46 : decode cX5_step 46 = .ok (.putfield 34, 3) := by decide +kernel
theorem dX5_step_49 : decode cX5_step 49 = .ok (.aload_n 0, 1) := by decide +kernel
theorem dX5_step_50 : decode cX5_step 50 = .ok (.aload_n 0, 1) := by decide +kernel
theorem dX5_step_51 : decode cX5_step 51 = .ok (.getfield 9, 3) := by decide +kernel
theorem dX5_step_54 : decode cX5_step 54 = .ok (.getfield 21, 3) := by decide +kernel
theorem dX5_step_57 : decode cX5_step 57 = .ok (.aload_n 0, 1) := by decide +kernel
theorem dX5_step_58 : decode cX5_step 58 = .ok (.getfield 34, 3) := by decide +kernel
theorem dX5_step_61 : decode cX5_step 61 = .ok (.iaload, 1) := by decide +kernel
theorem dX5_step_62 : decode cX5_step 62 = .ok (.putfield 27, 3) := by decide +kernel
theorem dX5_step_65 : decode cX5_step 65 = .ok (.return_, 1) := by decide +kernel
theorem dX5_fail_0 : decode cX5_fail 0 = .ok (.aload_n 0, 1) := by decide +kernel
theorem dX5_fail_1 : decode cX5_fail 1 = .ok (.getfield 31, 3) := by decide +kernel
theorem dX5_fail_4 : decode cX5_fail 4 = .ok (.ifCond .ne 40, 3) := by decide +kernel
theorem dX5_fail_7 : decode cX5_fail 7 = .ok (.aload_n 0, 1) := by decide +kernel
theorem dX5_fail_8 : decode cX5_fail 8 = .ok (.aload_n 0, 1) := by decide +kernel
theorem dX5_fail_9 : decode cX5_fail 9 = .ok (.getfield 27, 3) := by decide +kernel
theorem dX5_fail_12 : decode cX5_fail 12 = .ok (.ifCond .ne 7, 3) := by decide +kernel
theorem dX5_fail_15 : decode cX5_fail 15 = .ok (.iconst 1, 1) := by decide +kernel
theorem dX5_fail_16 : decode cX5_fail 16 = .ok (.goto 4, 3) := by decide +kernel
theorem dX5_fail_19 : decode cX5_fail 19 = .ok (.iload_n 1, 1) := by decide +kernel
theorem dX5_fail_20 : decode cX5_fail 20 = .ok (.putfield 31, 3) := by decide +kernel
theorem dX5_fail_23 : decode cX5_fail 23 = .ok (.aload_n 0, 1) := by decide +kernel
theorem dX5_fail_24 : decode cX5_fail 24 = .ok (.aload_n 0, 1) := by decide +kernel
theorem dX5_fail_25 : decode cX5_fail 25 = .ok (.getfield 9, 3) := by decide +kernel
theorem dX5_fail_28 : decode cX5_fail 28 = .ok (.getfield 37, 3) := by decide +kernel
theorem dX5_fail_31 : decode cX5_fail 31 = .ok (.aload_n 0, 1) := by decide +kernel
theorem dX5_fail_32 : decode cX5_fail 32 = .ok (.getfield 34, 3) := by decide +kernel
theorem dX5_fail_35 : decode cX5_fail 35 = .ok (.iaload, 1) := by decide +kernel
theorem dX5_fail_36 : decode cX5_fail 36 = .ok (.putfield 40, 3) := by decide +kernel
theorem dX5_fail_39 : decode cX5_fail 39 = .ok (.aload_n 0, 1) := by decide +kernel
theorem dX5_fail_40 : decode cX5_fail 40 = .ok (.iconst 0, 1) := by decide +kernel
theorem dX5_fail_41 : decode cX5_fail 41 = .ok (.putfield 27, 3) := by decide +kernel
theorem dX5_fail_44 : decode cX5_fail 44 = .ok (.return_, 1) := by decide +kernel
theorem dX5_skip_0 : decode cX5_skip 0 = .ok (.aload_n 0, 1) := by decide +kernel
theorem dX5_skip_1 : decode cX5_skip 1 = .ok (.getfield 27, 3) := by decide +kernel
theorem dX5_skip_4 : decode cX5_skip 4 = .ok (.iload_n 1, 1) := by decide +kernel
theorem dX5_skip_5 : decode cX5_skip 5 = .ok (.if_icmp .ne 10, 3) := by decide +kernel
theorem dX5_skip_8 : decode cX5_skip 8 = .ok (.aload_n 0, 1) := by decide +kernel
theorem dX5_skip_9 : decode cX5_skip 9 = .ok (.invokevirtual 43, 3) := by decide +kernel
theorem dX5_skip_12 : decode cX5_skip 12 = .ok (.goto 8, 3) := by decide +kernel
theorem dX5_skip_15 : decode cX5_skip 15 = .ok (.aload_n 0, 1) := by decide +kernel
theorem dX5_skip_16 : decode cX5_skip 16 = .ok (.iconst 2, 1) := by decide +kernel
theorem dX5_skip_17 : decode cX5_skip 17 = .ok (.invokevirtual 46, 3) := by decide +kernel
theorem dX5_skip_20 : decode cX5_skip 20 = .ok (.return_, 1) := by decide +kernel
theorem dX5_readRule_0 : decode cX5_readRule 0 = .ok (.aload_n 0, 1) := by decide +kernel
theorem dX5_readRule_1 : decode cX5_readRule 1 = .ok (.getfield 27, 3) := by decide +kernel
theorem dX5_readRule_4 : decode cX5_readRule 4 = .ok (.bipush 20, 2) := by decide +kernel
theorem dX5_readRule_6 : decode cX5_readRule 6 = .ok (.if_icmp .eq 9, 3) := by decide +kernel
theorem dX5_readRule_9 : decode cX5_readRule 9 = .ok (.aload_n 0, 1) := by decide +kernel
theorem dX5_readRule_10 : decode cX5_readRule 10 = .ok (.iconst 2, 1) := by decide +kernel
theorem dX5_readRule_11 : decode cX5_readRule 11 = .ok (.invokevirtual 46, 3) := by decide +kernel
theorem dX5_readRule_14 : decode cX5_readRule 14 = .ok (.return_, 1) := by decide +kernel
theorem dX5_readRule_15 : decode cX5_readRule 15 = .ok (.aload_n 0, 1) := by decide +kernel
theorem dX5_readRule_16 : decode cX5_readRule 16 = .ok (.getfield 50, 3) := by decide +kernel
theorem dX5_readRule_19 : decode cX5_readRule 19 = .ok (.aload_n 0, 1) := by decide +kernel
theorem dX5_readRule_20 : decode cX5_readRule 20 = .ok (.getfield 17, 3) := by decide +kernel
theorem dX5_readRule_23 : decode cX5_readRule 23 = .ok (.arraylength, 1) := by decide +kernel
theorem dX5_readRule_24 : decode cX5_readRule 24 = .ok (.if_icmp .lt 9, 3) := by decide +kernel
theorem dX5_readRule_27 : decode cX5_readRule 27 = .ok (.aload_n 0, 1) := by decide +kernel
theorem dX5_readRule_28 : decode cX5_readRule 28 = .ok (.iconst 4, 1) := by decide +kernel
theorem dX5_readRule_29 : decode cX5_readRule 29 = .ok (.invokevirtual 46, 3) := by decide +kernel
theorem dX5_readRule_32 : decode cX5_readRule 32 = .ok (.return_, 1) := by decide +kernel
theorem dX5_readRule_33 : decode cX5_readRule 33 = .ok (.aload_n 0, 1) := by decide +kernel
theorem dX5_readRule_34 : decode cX5_readRule 34 = .ok (.invokevirtual 43, 3) := by decide +kernel
theorem dX5_readRule_37 : decode cX5_readRule 37 = .ok (.new 15, 3) := by decide +kernel
theorem dX5_readRule_40 : decode cX5_readRule 40 = .ok (.dup, 1) := by decide +kernel
theorem dX5_readRule_41 : decode cX5_readRule 41 = .ok (.aload_n 0, 1) := by decide +kernel
theorem dX5_readRule_42 : decode cX5_readRule 42 = .ok (.getfield 50, 3) := by decide +kernel
theorem dX5_readRule_45 : decode cX5_readRule 45 = .ok (.invokespecial 53, 3) := by decide +kernel
theorem dX5_readRule_48 : decode cX5_readRule 48 = .ok (.astore_n 1, 1) := by decide +kernel
theorem dX5_readRule_49 : decode cX5_readRule 49 = .ok (.aload_n 1, 1) := by decide +kernel
theorem dX5_readRule_50 : decode cX5_readRule 50 = .ok (.aload_n 0, 1) := by decide +kernel
theorem dX5_readRule_51 : decode cX5_readRule 51 = .ok (.invokevirtual 55, 3) := by decide +kernel
theorem dX5_readRule_54 : decode cX5_readRule 54 = .ok (.putfield 59, 3) := by decide +kernel
theorem dX5_readRule_57 : decode cX5_readRule 57 = .ok (.aload_n 0, 1) := by decide +kernel
theorem dX5_readRule_58 : decode cX5_readRule 58 = .ok (.aload_n 1, 1) := by decide +kernel
theorem dX5_readRule_59 : decode cX5_readRule 59 = .ok (.invokevirtual 63, 3) := by decide +kernel
theorem dX5_readRule_62 : decode cX5_readRule 62 = .ok (.aload_n 0, 1) := by decide +kernel
theorem dX5_readRule_63 : decode cX5_readRule 63 = .ok (.getfield 27, 3) := by decide +kernel
theorem dX5_readRule_66 : decode cX5_readRule 66 = .ok (.bipush 21, 2) := by decide +kernel
theorem dX5_readRule_68 : decode cX5_readRule 68 = .ok (.if_icmp .ne 8, 3) := by decide +kernel
theorem dX5_readRule_71 : decode cX5_readRule 71 = .ok (.aload_n 0, 1) := by decide +kernel
theorem dX5_readRule_72 : decode cX5_readRule 72 = .ok (.aload_n 1, 1) := by decide +kernel
theorem dX5_readRule_73 : decode cX5_readRule 73 = .ok (.invokevirtual 67, 3) := by decide +kernel
theorem dX5_readRule_76 : decode cX5_readRule 76 = .ok (.aload_n 0, 1) := by decide +kernel
theorem dX5_readRule_77 : decode cX5_readRule 77 = .ok (.bipush 22, 2) := by decide +kernel
theorem dX5_readRule_79 : decode cX5_readRule 79 = .ok (.invokevirtual 70, 3) := by decide +kernel
theorem dX5_readRule_82 : decode cX5_readRule 82 = .ok (.aload_n 1, 1) := by decide +kernel
theorem dX5_readRule_83 : decode cX5_readRule 83 = .ok (.aload_n 0, 1) := by decide +kernel
theorem dX5_readRule_84 : decode cX5_readRule 84 = .ok (.iconst 1, 1) := by decide +kernel
theorem dX5_readRule_85 : decode cX5_readRule 85 = .ok (.ldc 73, 2) := by decide +kernel
theorem dX5_readRule_87 : decode cX5_readRule 87 = .ok (.invokevirtual 74, 3) := by decide +kernel
theorem dX5_readRule_90 : decode cX5_readRule 90 = .ok (.putfield 78, 3) := by decide +kernel
theorem dX5_readRule_93 : decode cX5_readRule 93 = .ok (.aload_n 0, 1) := by decide +kernel
theorem dX5_readRule_94 : decode cX5_readRule 94 = .ok (.getfield 27, 3) := by decide +kernel
theorem dX5_readRule_97 : decode cX5_readRule 97 = .ok (.bipush 23, 2) := by decide +kernel
theorem dX5_readRule_99 : decode cX5_readRule 99 = .ok (.if_icmp .ne 18, 3) := by decide +kernel
theorem dX5_readRule_102 : decode cX5_readRule 102 = .ok (.aload_n 0, 1) := by decide +kernel
theorem dX5_readRule_103 : decode cX5_readRule 103 = .ok (.invokevirtual 43, 3) := by decide +kernel
theorem dX5_readRule_106 : decode cX5_readRule 106 = .ok (.aload_n 1, 1) := by decide +kernel
theorem dX5_readRule_107 : decode cX5_readRule 107 = .ok (.aload_n 0, 1) := by decide +kernel
theorem dX5_readRule_108 : decode cX5_readRule 108 = .ok (.iconst 0, 1) := by decide +kernel
theorem dX5_readRule_109 : decode cX5_readRule 109 = .ok (.ldc 73, 2) := by decide +kernel
theorem dX5_readRule_111 : decode cX5_readRule 111 = .ok (.invokevirtual 74, 3) := by decide +kernel
theorem dX5_readRule_114 : decode cX5_readRule 114 = .ok (.putfield 81, 3) := by decide +kernel
theorem dX5_readRule_117 : decode cX5_readRule 117 = .ok (.aload_n 0, 1) := by decide +kernel
theorem dX5_readRule_118 : decode cX5_readRule 118 = .ok (.bipush 9, 2) := by decide +kernel
theorem dX5_readRule_120 : decode cX5_readRule 120 = .ok (.invokevirtual 70, 3) := by decide +kernel
theorem dX5_readRule_123 : decode cX5_readRule 123 = .ok (.aload_n 0, 1) := by decide +kernel
theorem dX5_readRule_124 : decode cX5_readRule 124 = .ok (.getfield 31, 3) := by decide +kernel
theorem dX5_readRule_127 : decode cX5_readRule 127 = .ok (.ifCond .ne 27, 3) := by decide +kernel
theorem dX5_readRule_130 : decode cX5_readRule 130 = .ok (.aload_n 1, 1) := by decide +kernel
theorem dX5_readRule_131 : decode cX5_readRule 131 = .ok (.invokevirtual 84, 3) := by decide +kernel
theorem dX5_readRule_134 : decode cX5_readRule 134 = .ok (.aload_n 0, 1) := by decide +kernel
theorem dX5_readRule_135 : decode cX5_readRule 135 = .ok (.getfield 17, 3) := by decide +kernel
theorem dX5_readRule_138 : decode cX5_readRule 138 = .ok (.aload_n 0, 1) := by decide +kernel
theorem dX5_readRule_139 : decode cX5_readRule 139 = .ok (.getfield 50, 3) := by decide +kernel
theorem dX5_readRule_142 : decode cX5_readRule 142 = .ok (.aload_n 1, 1) := by decide +kernel
theorem dX5_readRule_143 : decode cX5_readRule 143 = .ok (.aastore, 1) := by decide +kernel
theorem dX5_readRule_144 : decode cX5_readRule 144 = .ok (.aload_n 0, 1) := by decide +kernel
theorem dX5_readRule_145 : decode cX5_readRule 145 = .ok (.dup, 1) := by decide +kernel
theorem dX5_readRule_146 : decode cX5_readRule 146 = .ok (.getfield 50, 3) := by decide +kernel
theorem dX5_readRule_149 : decode cX5_readRule 149 = .ok (.iconst 1, 1) := by decide +kernel
theorem dX5_readRule_150 : decode cX5_readRule 150 = .ok (.iadd, 1) := by decide +kernel
theorem dX5_readRule_151 : decode cX5_readRule 151 = .ok (.putfield 50, 3) := by decide +kernel
theorem dX5_readRule_154 : decode cX5_readRule 154 = .ok (.return_, 1) := by decide +kernel
theorem dX5_readNewName_0 : decode cX5_readNewName 0 = .ok (.aload_n 0, 1) := by decide +kernel
theorem dX5_readNewName_1 : decode cX5_readNewName 1 = .ok (.getfield 27, 3) := by decide +kernel
theorem dX5_readNewName_4 : decode cX5_readNewName 4 = .ok (.iconst 2, 1) := by decide +kernel
theorem dX5_readNewName_5 : decode cX5_readNewName 5 = .ok (.if_icmp .ne 30, 3) := by decide +kernel
theorem dX5_readNewName_8 : decode cX5_readNewName 8 = .ok (.aload_n 0, 1) := by decide +kernel
theorem dX5_readNewName_9 : decode cX5_readNewName 9 = .ok (.aload_n 0, 1) := by decide +kernel
theorem dX5_readNewName_10 : decode cX5_readNewName 10 = .ok (.getfield 9, 3) := by decide +kernel
theorem dX5_readNewName_13 : decode cX5_readNewName 13 = .ok (.getfield 87, 3) := by decide +kernel
theorem dX5_readNewName_16 : decode cX5_readNewName 16 = .ok (.aload_n 0, 1) := by decide +kernel
theorem dX5_readNewName_17 : decode cX5_readNewName 17 = .ok (.getfield 34, 3) := by decide +kernel
theorem dX5_readNewName_20 : decode cX5_readNewName 20 = .ok (.laload, 1) := by decide +kernel
theorem dX5_readNewName_21 : decode cX5_readNewName 21 = .ok (.invokevirtual 91, 3) := by decide +kernel
theorem dX5_readNewName_24 : decode cX5_readNewName 24 = .ok (.iconst (-1), 1) := by decide +kernel
theorem dX5_readNewName_25 : decode cX5_readNewName 25 = .ok (.if_icmp .eq 10, 3) := by decide +kernel
theorem dX5_readNewName_28 : decode cX5_readNewName 28 = .ok (.aload_n 0, 1) := by decide +kernel
theorem dX5_readNewName_29 : decode cX5_readNewName 29 = .ok (.iconst 5, 1) := by decide +kernel
theorem dX5_readNewName_30 : decode cX5_readNewName 30 = .ok (.invokevirtual 46, 3) := by decide +kernel
theorem dX5_readNewName_33 : decode cX5_readNewName 33 = .ok (.lconst 0, 1) := by decide +kernel
theorem dX5_readNewName_34 : decode cX5_readNewName 34 = .ok (.lreturn, 1) := by decide +kernel
theorem dX5_readNewName_35 : decode cX5_readNewName 35 = .ok (.aload_n 0, 1) := by decide +kernel
theorem dX5_readNewName_36 : decode cX5_readNewName 36 = .ok (.invokevirtual 95, 3) := by decide +kernel
theorem dX5_readNewName_39 : decode cX5_readNewName 39 = .ok (.lreturn, 1) := by decide +kernel
theorem dX5_ruleNamed_0 : decode cX5_ruleNamed 0 = .ok (.iconst 0, 1) := by decide +kernel
theorem dX5_ruleNamed_1 : decode cX5_ruleNamed 1 = .ok (.istore_n 3, 1) := by decide +kernel
theorem dX5_ruleNamed_2 : decode cX5_ruleNamed 2 = .ok (.iload_n 3, 1) := by decide +kernel
theorem dX5_ruleNamed_3 : decode cX5_ruleNamed 3 = .ok (.aload_n 0, 1) := by decide +kernel
theorem dX5_ruleNamed_4 : decode cX5_ruleNamed 4 = .ok (.getfield 50, 3) := by decide +kernel
theorem dX5_ruleNamed_7 : decode cX5_ruleNamed 7 = .ok (.if_icmp .ge 34, 3) := by decide +kernel
theorem dX5_ruleNamed_10 : decode cX5_ruleNamed 10 = .ok (.iload_n 3, 1) := by decide +kernel
theorem dX5_ruleNamed_11 : decode cX5_ruleNamed 11 = .ok (.aload_n 0, 1) := by decide +kernel
theorem dX5_ruleNamed_12 : decode cX5_ruleNamed 12 = .ok (.getfield 17, 3) := by decide +kernel
theorem dX5_ruleNamed_15 : decode cX5_ruleNamed 15 = .ok (.arraylength, 1) := by decide +kernel
theorem dX5_ruleNamed_16 : decode cX5_ruleNamed 16 = .ok (.if_icmp .ge 25, 3) := by decide +kernel
theorem dX5_ruleNamed_19 : decode cX5_ruleNamed 19 = .ok (.aload_n 0, 1) := by decide +kernel
theorem dX5_ruleNamed_20 : decode cX5_ruleNamed 20 = .ok (.getfield 17, 3) := by decide +kernel
theorem dX5_ruleNamed_23 : decode cX5_ruleNamed 23 = .ok (.iload_n 3, 1) := by decide +kernel
theorem dX5_ruleNamed_24 : decode cX5_ruleNamed 24 = .ok (.aaload, 1) := by decide +kernel
theorem dX5_ruleNamed_25 : decode cX5_ruleNamed 25 = .ok (.getfield 59, 3) := by decide +kernel
theorem dX5_ruleNamed_28 : decode cX5_ruleNamed 28 = .ok (.lload_n 1, 1) := by decide +kernel
theorem dX5_ruleNamed_29 : decode cX5_ruleNamed 29 = .ok (.lcmp, 1) := by decide +kernel
theorem dX5_ruleNamed_30 : decode cX5_ruleNamed 30 = .ok (.ifCond .ne 5, 3) := by decide +kernel
theorem dX5_ruleNamed_33 : decode cX5_ruleNamed 33 = .ok (.iload_n 3, 1) := by decide +kernel
theorem dX5_ruleNamed_34 : decode cX5_ruleNamed 34 = .ok (.ireturn, 1) := by decide +kernel
theorem dX5_ruleNamed_35 : decode cX5_ruleNamed 35 = .ok (.iinc 3 1, 3) := by decide +kernel
theorem dX5_ruleNamed_38 : decode cX5_ruleNamed 38 = .ok (.goto (-36), 3) := by decide +kernel
theorem dX5_ruleNamed_41 : decode cX5_ruleNamed 41 = .ok (.iconst (-1), 1) := by decide +kernel
theorem dX5_ruleNamed_42 : decode cX5_ruleNamed 42 = .ok (.ireturn, 1) := by decide +kernel
theorem dX5_readName_0 : decode cX5_readName 0 = .ok (.aload_n 0, 1) := by decide +kernel
theorem dX5_readName_1 : decode cX5_readName 1 = .ok (.getfield 27, 3) := by decide +kernel
theorem dX5_readName_4 : decode cX5_readName 4 = .ok (.iconst 2, 1) := by decide +kernel
theorem dX5_readName_5 : decode cX5_readName 5 = .ok (.if_icmp .eq 10, 3) := by decide +kernel
theorem dX5_readName_8 : decode cX5_readName 8 = .ok (.aload_n 0, 1) := by decide +kernel
theorem dX5_readName_9 : decode cX5_readName 9 = .ok (.iconst 2, 1) := by decide +kernel
theorem dX5_readName_10 : decode cX5_readName 10 = .ok (.invokevirtual 46, 3) := by decide +kernel
theorem dX5_readName_13 : decode cX5_readName 13 = .ok (.lconst 0, 1) := by decide +kernel
theorem dX5_readName_14 : decode cX5_readName 14 = .ok (.lreturn, 1) := by decide +kernel
theorem dX5_readName_15 : decode cX5_readName 15 = .ok (.aload_n 0, 1) := by decide +kernel
theorem dX5_readName_16 : decode cX5_readName 16 = .ok (.getfield 9, 3) := by decide +kernel
theorem dX5_readName_19 : decode cX5_readName 19 = .ok (.getfield 87, 3) := by decide +kernel
theorem dX5_readName_22 : decode cX5_readName 22 = .ok (.aload_n 0, 1) := by decide +kernel
theorem dX5_readName_23 : decode cX5_readName 23 = .ok (.getfield 34, 3) := by decide +kernel
theorem dX5_readName_26 : decode cX5_readName 26 = .ok (.laload, 1) := by decide +kernel
theorem dX5_readName_27 : decode cX5_readName 27 = .ok (.lstore_n 1, 1) := by decide +kernel
theorem dX5_readName_28 : decode cX5_readName 28 = .ok (.aload_n 0, 1) := by decide +kernel
theorem dX5_readName_29 : decode cX5_readName 29 = .ok (.invokevirtual 43, 3) := by decide +kernel
theorem dX5_readName_32 : decode cX5_readName 32 = .ok (.lload_n 1, 1) := by decide +kernel
theorem dX5_readName_33 : decode cX5_readName 33 = .ok (.lreturn, 1) := by decide +kernel
theorem dX5_readNumber_0 : decode cX5_readNumber 0 = .ok (.aload_n 0, 1) := by decide +kernel
theorem dX5_readNumber_1 : decode cX5_readNumber 1 = .ok (.getfield 27, 3) := by decide +kernel
theorem dX5_readNumber_4 : decode cX5_readNumber 4 = .ok (.iconst 3, 1) := by decide +kernel
theorem dX5_readNumber_5 : decode cX5_readNumber 5 = .ok (.if_icmp .eq 10, 3) := by decide +kernel
theorem dX5_readNumber_8 : decode cX5_readNumber 8 = .ok (.aload_n 0, 1) := by decide +kernel
theorem dX5_readNumber_9 : decode cX5_readNumber 9 = .ok (.iconst 2, 1) := by decide +kernel
theorem dX5_readNumber_10 : decode cX5_readNumber 10 = .ok (.invokevirtual 46, 3) := by decide +kernel
theorem dX5_readNumber_13 : decode cX5_readNumber 13 = .ok (.iconst 0, 1) := by decide +kernel
theorem dX5_readNumber_14 : decode cX5_readNumber 14 = .ok (.ireturn, 1) := by decide +kernel
theorem dX5_readNumber_15 : decode cX5_readNumber 15 = .ok (.aload_n 0, 1) := by decide +kernel
theorem dX5_readNumber_16 : decode cX5_readNumber 16 = .ok (.getfield 9, 3) := by decide +kernel
theorem dX5_readNumber_19 : decode cX5_readNumber 19 = .ok (.getfield 87, 3) := by decide +kernel
theorem dX5_readNumber_22 : decode cX5_readNumber 22 = .ok (.aload_n 0, 1) := by decide +kernel
theorem dX5_readNumber_23 : decode cX5_readNumber 23 = .ok (.getfield 34, 3) := by decide +kernel
theorem dX5_readNumber_26 : decode cX5_readNumber 26 = .ok (.laload, 1) := by decide +kernel
theorem dX5_readNumber_27 : decode cX5_readNumber 27 = .ok (.l2i, 1) := by decide +kernel
theorem dX5_readNumber_28 : decode cX5_readNumber 28 = .ok (.istore_n 3, 1) := by decide +kernel
theorem dX5_readNumber_29 : decode cX5_readNumber 29 = .ok (.iload_n 3, 1) := by decide +kernel
theorem dX5_readNumber_30 : decode cX5_readNumber 30 = .ok (.iload_n 1, 1) := by decide +kernel
theorem dX5_readNumber_31 : decode cX5_readNumber 31 = .ok (.if_icmp .lt 8, 3) := by decide +kernel
theorem dX5_readNumber_34 : decode cX5_readNumber 34 = .ok (.iload_n 3, 1) := by decide +kernel
theorem dX5_readNumber_35 : decode cX5_readNumber 35 = .ok (.iload_n 2, 1) := by decide +kernel
theorem dX5_readNumber_36 : decode cX5_readNumber 36 = .ok (.if_icmp .le 10, 3) := by decide +kernel
theorem dX5_readNumber_39 : decode cX5_readNumber 39 = .ok (.aload_n 0, 1) := by decide +kernel
theorem dX5_readNumber_40 : decode cX5_readNumber 40 = .ok (.iconst 3, 1) := by decide +kernel
theorem dX5_readNumber_41 : decode cX5_readNumber 41 = .ok (.invokevirtual 46, 3) := by decide +kernel
theorem dX5_readNumber_44 : decode cX5_readNumber 44 = .ok (.iconst 0, 1) := by decide +kernel
theorem dX5_readNumber_45 : decode cX5_readNumber 45 = .ok (.ireturn, 1) := by decide +kernel
theorem dX5_readNumber_46 : decode cX5_readNumber 46 = .ok (.aload_n 0, 1) := by decide +kernel
theorem dX5_readNumber_47 : decode cX5_readNumber 47 = .ok (.invokevirtual 43, 3) := by decide +kernel
theorem dX5_readNumber_50 : decode cX5_readNumber 50 = .ok (.iload_n 3, 1) := by decide +kernel
theorem dX5_readNumber_51 : decode cX5_readNumber 51 = .ok (.ireturn, 1) := by decide +kernel
theorem dX5_readBy_0 : decode cX5_readBy 0 = .ok (.iconst 1, 1) := by decide +kernel
theorem dX5_readBy_1 : decode cX5_readBy 1 = .ok (.istore_n 2, 1) := by decide +kernel
theorem dX5_readBy_2 : decode cX5_readBy 2 = .ok (.iconst 0, 1) := by decide +kernel
theorem dX5_readBy_3 : decode cX5_readBy 3 = .ok (.istore_n 3, 1) := by decide +kernel
theorem dX5_readBy_4 : decode cX5_readBy 4 = .ok (.iload_n 2, 1) := by decide +kernel
theorem dX5_readBy_5 : decode cX5_readBy 5 = .ok (.ifCond .eq 97, 3) := by decide +kernel
theorem dX5_readBy_8 : decode cX5_readBy 8 = .ok (.iload_n 3, 1) := by decide +kernel
theorem dX5_readBy_9 : decode cX5_readBy 9 = .ok (.iconst 3, 1) := by decide +kernel
theorem dX5_readBy_10 : decode cX5_readBy 10 = .ok (.if_icmp .gt 92, 3) := by decide +kernel
theorem dX5_readBy_13 : decode cX5_readBy 13 = .ok (.aload_n 0, 1) := by decide +kernel
theorem dX5_readBy_14 : decode cX5_readBy 14 = .ok (.invokevirtual 43, 3) := by decide +kernel
theorem dX5_readBy_17 : decode cX5_readBy 17 = .ok (.aload_n 0, 1) := by decide +kernel
theorem dX5_readBy_18 : decode cX5_readBy 18 = .ok (.getfield 27, 3) := by decide +kernel
theorem dX5_readBy_21 : decode cX5_readBy 21 = .ok (.iconst 2, 1) := by decide +kernel
theorem dX5_readBy_22 : decode cX5_readBy 22 = .ok (.if_icmp .ne 19, 3) := by decide +kernel
theorem dX5_readBy_25 : decode cX5_readBy 25 = .ok (.aload_n 1, 1) := by decide +kernel
theorem dX5_readBy_26 : decode cX5_readBy 26 = .ok (.getfield 98, 3) := by decide +kernel
theorem dX5_readBy_29 : decode cX5_readBy 29 = .ok (.iconst 3, 1) := by decide +kernel
theorem dX5_readBy_30 : decode cX5_readBy 30 = .ok (.if_icmp .lt 11, 3) := by decide +kernel
theorem dX5_readBy_33 : decode cX5_readBy 33 = .ok (.aload_n 0, 1) := by decide +kernel
theorem dX5_readBy_34 : decode cX5_readBy 34 = .ok (.iconst 4, 1) := by decide +kernel
theorem dX5_readBy_35 : decode cX5_readBy 35 = .ok (.invokevirtual 46, 3) := by decide +kernel
theorem dX5_readBy_38 : decode cX5_readBy 38 = .ok (.goto 35, 3) := by decide +kernel
theorem dX5_readBy_41 : decode cX5_readBy 41 = .ok (.aload_n 0, 1) := by decide +kernel
theorem dX5_readBy_42 : decode cX5_readBy 42 = .ok (.getfield 27, 3) := by decide +kernel
theorem dX5_readBy_45 : decode cX5_readBy 45 = .ok (.iconst 2, 1) := by decide +kernel
theorem dX5_readBy_46 : decode cX5_readBy 46 = .ok (.if_icmp .ne 27, 3) := by decide +kernel
theorem dX5_readBy_49 : decode cX5_readBy 49 = .ok (.aload_n 1, 1) := by decide +kernel
theorem dX5_readBy_50 : decode cX5_readBy 50 = .ok (.aload_n 0, 1) := by decide +kernel
theorem dX5_readBy_51 : decode cX5_readBy 51 = .ok (.getfield 9, 3) := by decide +kernel
theorem dX5_readBy_54 : decode cX5_readBy 54 = .ok (.getfield 87, 3) := by decide +kernel
theorem dX5_readBy_57 : decode cX5_readBy 57 = .ok (.aload_n 0, 1) := by decide +kernel
theorem dX5_readBy_58 : decode cX5_readBy 58 = .ok (.getfield 34, 3) := by decide +kernel
theorem dX5_readBy_61 : decode cX5_readBy 61 = .ok (.laload, 1) := by decide +kernel
