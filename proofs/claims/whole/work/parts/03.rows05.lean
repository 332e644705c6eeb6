theorem dX9_like_69 : decode cX9_like 69 = .ok (.iload 7, 2) := by decide +kernel
theorem dX9_like_71 : decode cX9_like 71 = .ok (.bipush 63, 2) := by decide +kernel
theorem dX9_like_73 : decode cX9_like 73 = .ok (.if_icmp .eq 14, 3) := by decide +kernel
theorem dX9_like_76 : decode cX9_like 76 = .ok (.iload 7, 2) := by decide +kernel
theorem dX9_like_78 : decode cX9_like 78 = .ok (.aload_n 0, 1) := by decide +kernel
theorem dX9_like_79 : decode cX9_like 79 = .ok (.getfield 18, 3) := by decide +kernel
theorem dX9_like_82 : decode cX9_like 82 = .ok (.iload_n 2, 1) := by decide +kernel
theorem dX9_like_83 : decode cX9_like 83 = .ok (.iaload, 1) := by decide +kernel
theorem dX9_like_84 : decode cX9_like 84 = .ok (.if_icmp .ne 12, 3) := by decide +kernel
theorem dX9_like_87 : decode cX9_like 87 = .ok (.iinc 3 1, 3) := by decide +kernel
theorem dX9_like_90 : decode cX9_like 90 = .ok (.iinc 2 1, 3) := by decide +kernel
theorem dX9_like_93 : decode cX9_like 93 = .ok (.goto 25, 3) := by decide +kernel
theorem dX9_like_96 : decode cX9_like 96 = .ok (.iload 4, 2) := by decide +kernel
theorem dX9_like_98 : decode cX9_like 98 = .ok (.iconst (-1), 1) := by decide +kernel
theorem dX9_like_99 : decode cX9_like 99 = .ok (.if_icmp .eq 17, 3) := by decide +kernel
theorem dX9_like_102 : decode cX9_like 102 = .ok (.iinc 5 1, 3) := by decide +kernel
theorem dX9_like_105 : decode cX9_like 105 = .ok (.iload 5, 2) := by decide +kernel
theorem dX9_like_107 : decode cX9_like 107 = .ok (.istore_n 2, 1) := by decide +kernel
theorem dX9_like_108 : decode cX9_like 108 = .ok (.iload 4, 2) := by decide +kernel
theorem dX9_like_110 : decode cX9_like 110 = .ok (.iconst 1, 1) := by decide +kernel
theorem dX9_like_111 : decode cX9_like 111 = .ok (.iadd, 1) := by decide +kernel
theorem dX9_like_112 : decode cX9_like 112 = .ok (.istore_n 3, 1) := by decide +kernel
theorem dX9_like_113 : decode cX9_like 113 = .ok (.goto 5, 3) := by decide +kernel
theorem dX9_like_116 : decode cX9_like 116 = .ok (.iconst 0, 1) := by decide +kernel
theorem dX9_like_117 : decode cX9_like 117 = .ok (.ireturn, 1) := by decide +kernel
theorem dX9_like_118 : decode cX9_like 118 = .ok (.iinc 6 1, 3) := by decide +kernel
theorem dX9_like_121 : decode cX9_like 121 = .ok (.goto (-108), 3) := by decide +kernel
theorem dX9_like_124 : decode cX9_like 124 = .ok (.iload_n 3, 1) := by decide +kernel
theorem dX9_like_125 : decode cX9_like 125 = .ok (.aload_n 1, 1) := by decide +kernel
theorem dX9_like_126 : decode cX9_like 126 = .ok (.getfield 18, 3) := by decide +kernel
theorem dX9_like_129 : decode cX9_like 129 = .ok (.arraylength, 1) := by decide +kernel
theorem dX9_like_130 : decode cX9_like 130 = .ok (.if_icmp .ge 20, 3) := by decide +kernel
theorem dX9_like_133 : decode cX9_like 133 = .ok (.aload_n 1, 1) := by decide +kernel
theorem dX9_like_134 : decode cX9_like 134 = .ok (.getfield 18, 3) := by decide +kernel
theorem dX9_like_137 : decode cX9_like 137 = .ok (.iload_n 3, 1) := by decide +kernel
theorem dX9_like_138 : decode cX9_like 138 = .ok (.iaload, 1) := by decide +kernel
theorem dX9_like_139 : decode cX9_like 139 = .ok (.bipush 42, 2) := by decide +kernel
theorem dX9_like_141 : decode cX9_like 141 = .ok (.if_icmp .ne 9, 3) := by decide +kernel
theorem dX9_like_144 : decode cX9_like 144 = .ok (.iinc 3 1, 3) := by decide +kernel
theorem dX9_like_147 : decode cX9_like 147 = .ok (.goto (-23), 3) := by decide +kernel
theorem dX9_like_150 : decode cX9_like 150 = .ok (.iload_n 3, 1) := by decide +kernel
theorem dX9_like_151 : decode cX9_like 151 = .ok (.aload_n 1, 1) := by decide +kernel
theorem dX9_like_152 : decode cX9_like 152 = .ok (.getfield 18, 3) := by decide +kernel
theorem dX9_like_155 : decode cX9_like 155 = .ok (.arraylength, 1) := by decide +kernel
theorem dX9_like_156 : decode cX9_like 156 = .ok (.if_icmp .ne 7, 3) := by decide +kernel
theorem dX9_like_159 : decode cX9_like 159 = .ok (.iconst 1, 1) := by decide +kernel
theorem dX9_like_160 : decode cX9_like 160 = .ok (.goto 4, 3) := by decide +kernel
theorem dX9_like_163 : decode cX9_like 163 = .ok (.iconst 0, 1) := by decide +kernel
theorem dX9_like_164 : decode cX9_like 164 = .ok (.ireturn, 1) := by decide +kernel
theorem dX10_init_0 : decode cX10_init 0 = .ok (.aload_n 0, 1) := by decide +kernel
theorem dX10_init_1 : decode cX10_init 1 = .ok (.invokespecial 3, 3) := by decide +kernel
theorem dX10_init_4 : decode cX10_init 4 = .ok (.aload_n 0, 1) := by decide +kernel
theorem dX10_init_5 : decode cX10_init 5 = .ok (.aload_n 1, 1) := by decide +kernel
theorem dX10_init_6 : decode cX10_init 6 = .ok (.putfield 9, 3) := by decide +kernel
theorem dX10_init_9 : decode cX10_init 9 = .ok (.aload_n 0, 1) := by decide +kernel
theorem dX10_init_10 : decode cX10_init 10 = .ok (.iload_n 2, 1) := by decide +kernel
theorem dX10_init_11 : decode cX10_init 11 = .ok (.aload_n 1, 1) := by decide +kernel
theorem dX10_init_12 : decode cX10_init 12 = .ok (.arraylength, 1) := by decide +kernel
theorem dX10_init_13 : decode cX10_init 13 = .ok (.invokestatic 15, 3) := by decide +kernel
theorem dX10_init_16 : decode cX10_init 16 = .ok (.putfield 21, 3) := by decide +kernel
theorem dX10_init_19 : decode cX10_init 19 = .ok (.aload_n 0, 1) := by decide +kernel
theorem dX10_init_20 : decode cX10_init 20 = .ok (.bipush 64, 2) := by decide +kernel
theorem dX10_init_22 : decode cX10_init 22 = .ok (.anewarray 25, 3) := by decide +kernel
theorem dX10_init_25 : decode cX10_init 25 = .ok (.putfield 27, 3) := by decide +kernel
theorem dX10_init_28 : decode cX10_init 28 = .ok (.aload_n 0, 1) := by decide +kernel
theorem dX10_init_29 : decode cX10_init 29 = .ok (.new 31, 3) := by decide +kernel
theorem dX10_init_32 : decode cX10_init 32 = .ok (.dup, 1) := by decide +kernel
theorem dX10_init_33 : decode cX10_init 33 = .ok (.invokespecial 33, 3) := by decide +kernel
theorem dX10_init_36 : decode cX10_init 36 = .ok (.putfield 34, 3) := by decide +kernel
theorem dX10_init_39 : decode cX10_init 39 = .ok (.return_, 1) := by decide +kernel
theorem dX10_toldAt_0 : decode cX10_toldAt 0 = .ok (.iload_n 1, 1) := by decide +kernel
theorem dX10_toldAt_1 : decode cX10_toldAt 1 = .ok (.ifCond .lt 14, 3) := by decide +kernel
theorem dX10_toldAt_4 : decode cX10_toldAt 4 = .ok (.iload_n 1, 1) := by decide +kernel
theorem dX10_toldAt_5 : decode cX10_toldAt 5 = .ok (.aload_n 0, 1) := by decide +kernel
theorem dX10_toldAt_6 : decode cX10_toldAt 6 = .ok (.getfield 34, 3) := by decide +kernel
theorem dX10_toldAt_9 : decode cX10_toldAt 9 = .ok (.invokevirtual 38, 3) := by decide +kernel
theorem dX10_toldAt_12 : decode cX10_toldAt 12 = .ok (.if_icmp .lt 7, 3) := by decide +kernel
theorem dX10_toldAt_15 : decode cX10_toldAt 15 = .ok (.aconst_null, 1) := by decide +kernel
theorem dX10_toldAt_16 : decode cX10_toldAt 16 = .ok (.goto 14, 3) := by decide +kernel
theorem dX10_toldAt_19 : decode cX10_toldAt 19 = .ok (.aload_n 0, 1) := by decide +kernel
theorem dX10_toldAt_20 : decode cX10_toldAt 20 = .ok (.getfield 34, 3) := by decide +kernel
theorem dX10_toldAt_23 : decode cX10_toldAt 23 = .ok (.iload_n 1, 1) := by decide +kernel
theorem dX10_toldAt_24 : decode cX10_toldAt 24 = .ok (.invokevirtual 42, 3) := by decide +kernel
theorem dX10_toldAt_27 : decode cX10_toldAt 27 = .ok (.checkcast 46, 3) := by decide +kernel
theorem dX10_toldAt_30 : decode cX10_toldAt 30 = .ok (.areturn, 1) := by decide +kernel
theorem dX10_latestAt_0 : decode cX10_latestAt 0 = .ok (.iload_n 1, 1) := by decide +kernel
theorem dX10_latestAt_1 : decode cX10_latestAt 1 = .ok (.ifCond .lt 22, 3) := by decide +kernel
theorem dX10_latestAt_4 : decode cX10_latestAt 4 = .ok (.iload_n 1, 1) := by decide +kernel
theorem dX10_latestAt_5 : decode cX10_latestAt 5 = .ok (.aload_n 0, 1) := by decide +kernel
theorem dX10_latestAt_6 : decode cX10_latestAt 6 = .ok (.getfield 48, 3) := by decide +kernel
theorem dX10_latestAt_9 : decode cX10_latestAt 9 = .ok (.if_icmp .ge 14, 3) := by decide +kernel
theorem dX10_latestAt_12 : decode cX10_latestAt 12 = .ok (.iload_n 1, 1) := by decide +kernel
theorem dX10_latestAt_13 : decode cX10_latestAt 13 = .ok (.aload_n 0, 1) := by decide +kernel
theorem dX10_latestAt_14 : decode cX10_latestAt 14 = .ok (.getfield 48, 3) := by decide +kernel
theorem dX10_latestAt_17 : decode cX10_latestAt 17 = .ok (.bipush 64, 2) := by decide +kernel
theorem dX10_latestAt_19 : decode cX10_latestAt 19 = .ok (.isub, 1) := by decide +kernel
theorem dX10_latestAt_20 : decode cX10_latestAt 20 = .ok (.if_icmp .ge 7, 3) := by decide +kernel
theorem dX10_latestAt_23 : decode cX10_latestAt 23 = .ok (.aconst_null, 1) := by decide +kernel
theorem dX10_latestAt_24 : decode cX10_latestAt 24 = .ok (.goto 12, 3) := by decide +kernel
theorem dX10_latestAt_27 : decode cX10_latestAt 27 = .ok (.aload_n 0, 1) := by decide +kernel
theorem dX10_latestAt_28 : decode cX10_latestAt 28 = .ok (.getfield 27, 3) := by decide +kernel
theorem dX10_latestAt_31 : decode cX10_latestAt 31 = .ok (.iload_n 1, 1) := by decide +kernel
theorem dX10_latestAt_32 : decode cX10_latestAt 32 = .ok (.bipush 64, 2) := by decide +kernel
theorem dX10_latestAt_34 : decode cX10_latestAt 34 = .ok (.irem, 1) := by decide +kernel
theorem dX10_latestAt_35 : decode cX10_latestAt 35 = .ok (.aaload, 1) := by decide +kernel
theorem dX10_latestAt_36 : decode cX10_latestAt 36 = .ok (.areturn, 1) := by decide +kernel
theorem dX10_advance_0 : decode cX10_advance 0 = .ok (.iconst 0, 1) := by decide +kernel
theorem dX10_advance_1 : decode cX10_advance 1 = .ok (.istore_n 2, 1) := by decide +kernel
theorem dX10_advance_2 : decode cX10_advance 2 = .ok (.iload_n 2, 1) := by decide +kernel
theorem dX10_advance_3 : decode cX10_advance 3 = .ok (.ldc 51, 2) := by decide +kernel
theorem dX10_advance_5 : decode cX10_advance 5 = .ok (.if_icmp .ge 62, 3) := by decide +kernel
theorem dX10_advance_8 : decode cX10_advance 8 = .ok (.aload_n 0, 1) := by decide +kernel
theorem dX10_advance_9 : decode cX10_advance 9 = .ok (.iload_n 1, 1) := by decide +kernel
theorem dX10_advance_10 : decode cX10_advance 10 = .ok (.invokevirtual 52, 3) := by decide +kernel
theorem dX10_advance_13 : decode cX10_advance 13 = .ok (.istore_n 3, 1) := by decide +kernel
theorem dX10_advance_14 : decode cX10_advance 14 = .ok (.iload_n 3, 1) := by decide +kernel
theorem dX10_advance_15 : decode cX10_advance 15 = .ok (.iconst (-1), 1) := by decide +kernel
theorem dX10_advance_16 : decode cX10_advance 16 = .ok (.if_icmp .ne 6, 3) := by decide +kernel
theorem dX10_advance_19 : decode cX10_advance 19 = .ok (.goto 48, 3) := by decide +kernel
theorem dX10_advance_22 : decode cX10_advance 22 = .ok (.aload_n 0, 1) := by decide +kernel
theorem dX10_advance_23 : decode cX10_advance 23 = .ok (.iload_n 3, 1) := by decide +kernel
theorem dX10_advance_24 : decode cX10_advance 24 = .ok (.putfield 56, 3) := by decide +kernel
theorem dX10_advance_27 : decode cX10_advance 27 = .ok (.iconst 0, 1) := by decide +kernel
theorem dX10_advance_28 : decode cX10_advance 28 = .ok (.istore 4, 2) := by decide +kernel
theorem dX10_advance_30 : decode cX10_advance 30 = .ok (.iload 4, 2) := by decide +kernel
theorem dX10_advance_32 : decode cX10_advance 32 = .ok (.aload_n 0, 1) := by decide +kernel
theorem dX10_advance_33 : decode cX10_advance 33 = .ok (.getfield 21, 3) := by decide +kernel
theorem dX10_advance_36 : decode cX10_advance 36 = .ok (.if_icmp .ge 21, 3) := by decide +kernel
theorem dX10_advance_39 : decode cX10_advance 39 = .ok (.aload_n 0, 1) := by decide +kernel
theorem dX10_advance_40 : decode cX10_advance 40 = .ok (.aload_n 0, 1) := by decide +kernel
theorem dX10_advance_41 : decode cX10_advance 41 = .ok (.getfield 9, 3) := by decide +kernel
theorem dX10_advance_44 : decode cX10_advance 44 = .ok (.iload 4, 2) := by decide +kernel
theorem dX10_advance_46 : decode cX10_advance 46 = .ok (.aaload, 1) := by decide +kernel
theorem dX10_advance_47 : decode cX10_advance 47 = .ok (.iload_n 3, 1) := by decide +kernel
theorem dX10_advance_48 : decode cX10_advance 48 = .ok (.invokevirtual 59, 3) := by decide +kernel
theorem dX10_advance_51 : decode cX10_advance 51 = .ok (.iinc 4 1, 3) := by decide +kernel
theorem dX10_advance_54 : decode cX10_advance 54 = .ok (.goto (-24), 3) := by decide +kernel
theorem dX10_advance_57 : decode cX10_advance 57 = .ok (.aload_n 0, 1) := by decide +kernel
theorem dX10_advance_58 : decode cX10_advance 58 = .ok (.invokevirtual 63, 3) := by decide +kernel
theorem dX10_advance_61 : decode cX10_advance 61 = .ok (.iinc 2 1, 3) := by decide +kernel
theorem dX10_advance_64 : decode cX10_advance 64 = .ok (.goto (-62), 3) := by decide +kernel
theorem dX10_advance_67 : decode cX10_advance 67 = .ok (.aload_n 0, 1) := by decide +kernel
theorem dX10_advance_68 : decode cX10_advance 68 = .ok (.iload_n 1, 1) := by decide +kernel
theorem dX10_advance_69 : decode cX10_advance 69 = .ok (.putfield 56, 3) := by decide +kernel
theorem dX10_advance_72 : decode cX10_advance 72 = .ok (.return_, 1) := by decide +kernel
theorem dX10_leastDue_0 : decode cX10_leastDue 0 = .ok (.iconst (-1), 1) := by decide +kernel
theorem dX10_leastDue_1 : decode cX10_leastDue 1 = .ok (.istore_n 2, 1) := by decide +kernel
theorem dX10_leastDue_2 : decode cX10_leastDue 2 = .ok (.iconst 0, 1) := by decide +kernel
theorem dX10_leastDue_3 : decode cX10_leastDue 3 = .ok (.istore_n 3, 1) := by decide +kernel
theorem dX10_leastDue_4 : decode cX10_leastDue 4 = .ok (.iload_n 3, 1) := by decide +kernel
theorem dX10_leastDue_5 : decode cX10_leastDue 5 = .ok (.aload_n 0, 1) := by decide +kernel
theorem dX10_leastDue_6 : decode cX10_leastDue 6 = .ok (.getfield 21, 3) := by decide +kernel
theorem dX10_leastDue_9 : decode cX10_leastDue 9 = .ok (.if_icmp .ge 46, 3) := by decide +kernel
theorem dX10_leastDue_12 : decode cX10_leastDue 12 = .ok (.aload_n 0, 1) := by decide +kernel
theorem dX10_leastDue_13 : decode cX10_leastDue 13 = .ok (.getfield 9, 3) := by decide +kernel
theorem dX10_leastDue_16 : decode cX10_leastDue 16 = .ok (.iload_n 3, 1) := by decide +kernel
theorem dX10_leastDue_17 : decode cX10_leastDue 17 = .ok (.aaload, 1) := by decide +kernel
theorem dX10_leastDue_18 : decode cX10_leastDue 18 = .ok (.invokevirtual 66, 3) := by decide +kernel
theorem dX10_leastDue_21 : decode cX10_leastDue 21 = .ok (.istore 4, 2) := by decide +kernel
theorem dX10_leastDue_23 : decode cX10_leastDue 23 = .ok (.iload 4, 2) := by decide +kernel
theorem dX10_leastDue_25 : decode cX10_leastDue 25 = .ok (.iconst (-1), 1) := by decide +kernel
theorem dX10_leastDue_26 : decode cX10_leastDue 26 = .ok (.if_icmp .eq 23, 3) := by decide +kernel
theorem dX10_leastDue_29 : decode cX10_leastDue 29 = .ok (.iload 4, 2) := by decide +kernel
theorem dX10_leastDue_31 : decode cX10_leastDue 31 = .ok (.iload_n 1, 1) := by decide +kernel
theorem dX10_leastDue_32 : decode cX10_leastDue 32 = .ok (.if_icmp .ge 17, 3) := by decide +kernel
theorem dX10_leastDue_35 : decode cX10_leastDue 35 = .ok (.iload_n 2, 1) := by decide +kernel
theorem dX10_leastDue_36 : decode cX10_leastDue 36 = .ok (.iconst (-1), 1) := by decide +kernel
theorem dX10_leastDue_37 : decode cX10_leastDue 37 = .ok (.if_icmp .eq 9, 3) := by decide +kernel
theorem dX10_leastDue_40 : decode cX10_leastDue 40 = .ok (.iload 4, 2) := by decide +kernel
theorem dX10_leastDue_42 : decode cX10_leastDue 42 = .ok (.iload_n 2, 1) := by decide +kernel
theorem dX10_leastDue_43 : decode cX10_leastDue 43 = .ok (.if_icmp .ge 6, 3) := by decide +kernel
theorem dX10_leastDue_46 : decode cX10_leastDue 46 = .ok (.iload 4, 2) := by decide +kernel
theorem dX10_leastDue_48 : decode cX10_leastDue 48 = .ok (.istore_n 2, 1) := by decide +kernel
theorem dX10_leastDue_49 : decode cX10_leastDue 49 = .ok (.iinc 3 1, 3) := by decide +kernel
theorem dX10_leastDue_52 : decode cX10_leastDue 52 = .ok (.goto (-48), 3) := by decide +kernel
theorem dX10_leastDue_55 : decode cX10_leastDue 55 = .ok (.iload_n 2, 1) := by decide +kernel
theorem dX10_leastDue_56 : decode cX10_leastDue 56 = .ok (.ireturn, 1) := by decide +kernel
theorem dX10_tellLacks_0 : decode cX10_tellLacks 0 = .ok (.aload_n 1, 1) := by decide +kernel
theorem dX10_tellLacks_1 : decode cX10_tellLacks 1 = .ok (.iload_n 2, 1) := by decide +kernel
theorem dX10_tellLacks_2 : decode cX10_tellLacks 2 = .ok (.invokevirtual 71, 3) := by decide +kernel
theorem dX10_tellLacks_5 : decode cX10_tellLacks 5 = .ok (.astore_n 3, 1) := by decide +kernel
theorem dX10_tellLacks_6 : decode cX10_tellLacks 6 = .ok (.iconst 0, 1) := by decide +kernel
theorem dX10_tellLacks_7 : decode cX10_tellLacks 7 = .ok (.istore 4, 2) := by decide +kernel
theorem dX10_tellLacks_9 : decode cX10_tellLacks 9 = .ok (.iload 4, 2) := by decide +kernel
theorem dX10_tellLacks_11 : decode cX10_tellLacks 11 = .ok (.sipush 4000, 3) := by decide +kernel
theorem dX10_tellLacks_14 : decode cX10_tellLacks 14 = .ok (.if_icmp .ge 40, 3) := by decide +kernel
theorem dX10_tellLacks_17 : decode cX10_tellLacks 17 = .ok (.aload_n 3, 1) := by decide +kernel
theorem dX10_tellLacks_18 : decode cX10_tellLacks 18 = .ok (.ifnull 36, 3) := by decide +kernel
theorem dX10_tellLacks_21 : decode cX10_tellLacks 21 = .ok (.aload_n 0, 1) := by decide +kernel
theorem dX10_tellLacks_22 : decode cX10_tellLacks 22 = .ok (.aload_n 1, 1) := by decide +kernel
theorem dX10_tellLacks_23 : decode cX10_tellLacks 23 = .ok (.aload_n 3, 1) := by decide +kernel
theorem dX10_tellLacks_24 : decode cX10_tellLacks 24 = .ok (.getfield 75, 3) := by decide +kernel
theorem dX10_tellLacks_27 : decode cX10_tellLacks 27 = .ok (.iload_n 2, 1) := by decide +kernel
theorem dX10_tellLacks_28 : decode cX10_tellLacks 28 = .ok (.aload_n 3, 1) := by decide +kernel
theorem dX10_tellLacks_29 : decode cX10_tellLacks 29 = .ok (.getfield 81, 3) := by decide +kernel
theorem dX10_tellLacks_32 : decode cX10_tellLacks 32 = .ok (.aload_n 3, 1) := by decide +kernel
theorem dX10_tellLacks_33 : decode cX10_tellLacks 33 = .ok (.getfield 81, 3) := by decide +kernel
theorem dX10_tellLacks_36 : decode cX10_tellLacks 36 = .ok (.getfield 85, 3) := by decide +kernel
theorem dX10_tellLacks_39 : decode cX10_tellLacks 39 = .ok (.invokevirtual 88, 3) := by decide +kernel
theorem dX10_tellLacks_42 : decode cX10_tellLacks 42 = .ok (.aload_n 1, 1) := by decide +kernel
theorem dX10_tellLacks_43 : decode cX10_tellLacks 43 = .ok (.iload_n 2, 1) := by decide +kernel
theorem dX10_tellLacks_44 : decode cX10_tellLacks 44 = .ok (.invokevirtual 71, 3) := by decide +kernel
theorem dX10_tellLacks_47 : decode cX10_tellLacks 47 = .ok (.astore_n 3, 1) := by decide +kernel
theorem dX10_tellLacks_48 : decode cX10_tellLacks 48 = .ok (.iinc 4 1, 3) := by decide +kernel
theorem dX10_tellLacks_51 : decode cX10_tellLacks 51 = .ok (.goto (-42), 3) := by decide +kernel
theorem dX10_tellLacks_54 : decode cX10_tellLacks 54 = .ok (.return_, 1) := by decide +kernel
theorem dX10_arrive_0 : decode cX10_arrive 0 = .ok (.aload_n 0, 1) := by decide +kernel
theorem dX10_arrive_1 : decode cX10_arrive 1 = .ok (.getfield 48, 3) := by decide +kernel
theorem dX10_arrive_4 : decode cX10_arrive 4 = .ok (.sipush 4000, 3) := by decide +kernel
theorem dX10_arrive_7 : decode cX10_arrive 7 = .ok (.if_icmp .lt 5, 3) := by decide +kernel
theorem dX10_arrive_10 : decode cX10_arrive 10 = .ok (.iconst 0, 1) := by decide +kernel
theorem dX10_arrive_11 : decode cX10_arrive 11 = .ok (.ireturn, 1) := by decide +kernel
theorem dX10_arrive_12 : decode cX10_arrive 12 = .ok (.aload_n 0, 1) := by decide +kernel
theorem dX10_arrive_13 : decode cX10_arrive 13 = .ok (.aload_n 1, 1) := by decide +kernel
theorem dX10_arrive_14 : decode cX10_arrive 14 = .ok (.getfield 92, 3) := by decide +kernel
theorem dX10_arrive_17 : decode cX10_arrive 17 = .ok (.putfield 95, 3) := by decide +kernel
theorem dX10_arrive_20 : decode cX10_arrive 20 = .ok (.aload_n 0, 1) := by decide +kernel
theorem dX10_arrive_21 : decode cX10_arrive 21 = .ok (.aload_n 1, 1) := by decide +kernel
theorem dX10_arrive_22 : decode cX10_arrive 22 = .ok (.invokevirtual 98, 3) := by decide +kernel
theorem dX10_arrive_25 : decode cX10_arrive 25 = .ok (.aload_n 0, 1) := by decide +kernel
theorem dX10_arrive_26 : decode cX10_arrive 26 = .ok (.invokevirtual 63, 3) := by decide +kernel
theorem dX10_arrive_29 : decode cX10_arrive 29 = .ok (.iconst 1, 1) := by decide +kernel
theorem dX10_arrive_30 : decode cX10_arrive 30 = .ok (.ireturn, 1) := by decide +kernel
theorem dX10_come_0 : decode cX10_come 0 = .ok (.aload_n 1, 1) := by decide +kernel
theorem dX10_come_1 : decode cX10_come 1 = .ok (.aload_n 0, 1) := by decide +kernel
theorem dX10_come_2 : decode cX10_come 2 = .ok (.getfield 48, 3) := by decide +kernel
theorem dX10_come_5 : decode cX10_come 5 = .ok (.putfield 85, 3) := by decide +kernel
theorem dX10_come_8 : decode cX10_come 8 = .ok (.aload_n 0, 1) := by decide +kernel
theorem dX10_come_9 : decode cX10_come 9 = .ok (.getfield 27, 3) := by decide +kernel
theorem dX10_come_12 : decode cX10_come 12 = .ok (.aload_n 0, 1) := by decide +kernel
theorem dX10_come_13 : decode cX10_come 13 = .ok (.getfield 48, 3) := by decide +kernel
theorem dX10_come_16 : decode cX10_come 16 = .ok (.bipush 64, 2) := by decide +kernel
theorem dX10_come_18 : decode cX10_come 18 = .ok (.irem, 1) := by decide +kernel
theorem dX10_come_19 : decode cX10_come 19 = .ok (.aload_n 1, 1) := by decide +kernel
theorem dX10_come_20 : decode cX10_come 20 = .ok (.aastore, 1) := by decide +kernel
theorem dX10_come_21 : decode cX10_come 21 = .ok (.aload_n 0, 1) := by decide +kernel
theorem dX10_come_22 : decode cX10_come 22 = .ok (.dup, 1) := by decide +kernel
theorem dX10_come_23 : decode cX10_come 23 = .ok (.getfield 48, 3) := by decide +kernel
theorem dX10_come_26 : decode cX10_come 26 = .ok (.iconst 1, 1) := by decide +kernel
theorem dX10_come_27 : decode cX10_come 27 = .ok (.iadd, 1) := by decide +kernel
theorem dX10_come_28 : decode cX10_come 28 = .ok (.putfield 48, 3) := by decide +kernel
theorem dX10_come_31 : decode cX10_come 31 = .ok (.aload_n 1, 1) := by decide +kernel
theorem dX10_come_32 : decode cX10_come 32 = .ok (.getfield 102, 3) := by decide +kernel
theorem dX10_come_35 : decode cX10_come 35 = .ok (.iconst 1, 1) := by decide +kernel
theorem dX10_come_36 : decode cX10_come 36 = .ok (.iadd, 1) := by decide +kernel
theorem dX10_come_37 : decode cX10_come 37 = .ok (.istore_n 2, 1) := by decide +kernel
theorem dX10_come_38 : decode cX10_come 38 = .ok (.iload_n 2, 1) := by decide +kernel
theorem dX10_come_39 : decode cX10_come 39 = .ok (.aload_n 0, 1) := by decide +kernel
theorem dX10_come_40 : decode cX10_come 40 = .ok (.getfield 21, 3) := by decide +kernel
theorem dX10_come_43 : decode cX10_come 43 = .ok (.if_icmp .ge 61, 3) := by decide +kernel
theorem dX10_come_46 : decode cX10_come 46 = .ok (.aload_n 0, 1) := by decide +kernel
theorem dX10_come_47 : decode cX10_come 47 = .ok (.getfield 9, 3) := by decide +kernel
theorem dX10_come_50 : decode cX10_come 50 = .ok (.iload_n 2, 1) := by decide +kernel
theorem dX10_come_51 : decode cX10_come 51 = .ok (.aaload, 1) := by decide +kernel
theorem dX10_come_52 : decode cX10_come 52 = .ok (.astore_n 3, 1) := by decide +kernel
theorem dX10_come_53 : decode cX10_come 53 = .ok (.aload_n 3, 1) := by decide +kernel
theorem dX10_come_54 : decode cX10_come 54 = .ok (.aload_n 1, 1) := by decide +kernel
theorem dX10_come_55 : decode cX10_come 55 = .ok (.invokevirtual 105, 3) := by decide +kernel
theorem dX10_come_58 : decode cX10_come 58 = .ok (.astore 4, 2) := by decide +kernel
theorem dX10_come_60 : decode cX10_come 60 = .ok (.aload 4, 2) := by decide +kernel
theorem dX10_come_62 : decode cX10_come 62 = .ok (.ifnonnull 7, 3) := by decide +kernel
theorem dX10_come_65 : decode cX10_come 65 = .ok (.iconst (-1), 1) := by decide +kernel
theorem dX10_come_66 : decode cX10_come 66 = .ok (.goto 10, 3) := by decide +kernel
theorem dX10_come_69 : decode cX10_come 69 = .ok (.aload_n 3, 1) := by decide +kernel
theorem dX10_come_70 : decode cX10_come 70 = .ok (.aload 4, 2) := by decide +kernel
theorem dX10_come_72 : decode cX10_come 72 = .ok (.aload_n 1, 1) := by decide +kernel
theorem dX10_come_73 : decode cX10_come 73 = .ok (.invokevirtual 109, 3) := by decide +kernel
theorem dX10_come_76 : decode cX10_come 76 = .ok (.istore 5, 2) := by decide +kernel
theorem dX10_come_78 : decode cX10_come 78 = .ok (.iload 5, 2) := by decide +kernel
theorem dX10_come_80 : decode cX10_come 80 = .ok (.iconst (-1), 1) := by decide +kernel
theorem dX10_come_81 : decode cX10_come 81 = .ok (.if_icmp .eq 17, 3) := by decide +kernel
theorem dX10_come_84 : decode cX10_come 84 = .ok (.aload_n 0, 1) := by decide +kernel
theorem dX10_come_85 : decode cX10_come 85 = .ok (.aload_n 3, 1) := by decide +kernel
theorem dX10_come_86 : decode cX10_come 86 = .ok (.aload 4, 2) := by decide +kernel
theorem dX10_come_88 : decode cX10_come 88 = .ok (.aload_n 1, 1) := by decide +kernel
theorem dX10_come_89 : decode cX10_come 89 = .ok (.getfield 92, 3) := by decide +kernel
theorem dX10_come_92 : decode cX10_come 92 = .ok (.aload_n 1, 1) := by decide +kernel
theorem dX10_come_93 : decode cX10_come 93 = .ok (.iload 5, 2) := by decide +kernel
theorem dX10_come_95 : decode cX10_come 95 = .ok (.invokevirtual 88, 3) := by decide +kernel
theorem dX10_come_98 : decode cX10_come 98 = .ok (.iinc 2 1, 3) := by decide +kernel
theorem dX10_come_101 : decode cX10_come 101 = .ok (.goto (-63), 3) := by decide +kernel
theorem dX10_come_104 : decode cX10_come 104 = .ok (.return_, 1) := by decide +kernel
theorem dX10_comeWaiting_0 : decode cX10_comeWaiting 0 = .ok (.iconst 0, 1) := by decide +kernel
theorem dX10_comeWaiting_1 : decode cX10_comeWaiting 1 = .ok (.istore_n 1, 1) := by decide +kernel
theorem dX10_comeWaiting_2 : decode cX10_comeWaiting 2 = .ok (.iload_n 1, 1) := by decide +kernel
theorem dX10_comeWaiting_3 : decode cX10_comeWaiting 3 = .ok (.ldc 51, 2) := by decide +kernel
theorem dX10_comeWaiting_5 : decode cX10_comeWaiting 5 = .ok (.if_icmp .ge 59, 3) := by decide +kernel
theorem dX10_comeWaiting_8 : decode cX10_comeWaiting 8 = .ok (.aload_n 0, 1) := by decide +kernel
theorem dX10_comeWaiting_9 : decode cX10_comeWaiting 9 = .ok (.getfield 113, 3) := by decide +kernel
theorem dX10_comeWaiting_12 : decode cX10_comeWaiting 12 = .ok (.ifnull 52, 3) := by decide +kernel
theorem dX10_comeWaiting_15 : decode cX10_comeWaiting 15 = .ok (.aload_n 0, 1) := by decide +kernel
theorem dX10_comeWaiting_16 : decode cX10_comeWaiting 16 = .ok (.getfield 113, 3) := by decide +kernel
theorem dX10_comeWaiting_19 : decode cX10_comeWaiting 19 = .ok (.astore_n 2, 1) := by decide +kernel
theorem dX10_comeWaiting_20 : decode cX10_comeWaiting 20 = .ok (.aload_n 0, 1) := by decide +kernel
theorem dX10_comeWaiting_21 : decode cX10_comeWaiting 21 = .ok (.aload_n 2, 1) := by decide +kernel
theorem dX10_comeWaiting_22 : decode cX10_comeWaiting 22 = .ok (.getfield 116, 3) := by decide +kernel
theorem dX10_comeWaiting_25 : decode cX10_comeWaiting 25 = .ok (.putfield 113, 3) := by decide +kernel
theorem dX10_comeWaiting_28 : decode cX10_comeWaiting 28 = .ok (.aload_n 2, 1) := by decide +kernel
theorem dX10_comeWaiting_29 : decode cX10_comeWaiting 29 = .ok (.aconst_null, 1) := by decide +kernel
theorem dX10_comeWaiting_30 : decode cX10_comeWaiting 30 = .ok (.putfield 116, 3) := by decide +kernel
theorem dX10_comeWaiting_33 : decode cX10_comeWaiting 33 = .ok (.aload_n 0, 1) := by decide +kernel
theorem dX10_comeWaiting_34 : decode cX10_comeWaiting 34 = .ok (.getfield 48, 3) := by decide +kernel
theorem dX10_comeWaiting_37 : decode cX10_comeWaiting 37 = .ok (.sipush 4000, 3) := by decide +kernel
theorem dX10_comeWaiting_40 : decode cX10_comeWaiting 40 = .ok (.if_icmp .ge 18, 3) := by decide +kernel
theorem dX10_comeWaiting_43 : decode cX10_comeWaiting 43 = .ok (.aload_n 0, 1) := by decide +kernel
theorem dX10_comeWaiting_44 : decode cX10_comeWaiting 44 = .ok (.dup, 1) := by decide +kernel
theorem dX10_comeWaiting_45 : decode cX10_comeWaiting 45 = .ok (.getfield 119, 3) := by decide +kernel
theorem dX10_comeWaiting_48 : decode cX10_comeWaiting 48 = .ok (.iconst 1, 1) := by decide +kernel
theorem dX10_comeWaiting_49 : decode cX10_comeWaiting 49 = .ok (.iadd, 1) := by decide +kernel
theorem dX10_comeWaiting_50 : decode cX10_comeWaiting 50 = .ok (.putfield 119, 3) := by decide +kernel
theorem dX10_comeWaiting_53 : decode cX10_comeWaiting 53 = .ok (.aload_n 0, 1) := by decide +kernel
theorem dX10_comeWaiting_54 : decode cX10_comeWaiting 54 = .ok (.aload_n 2, 1) := by decide +kernel
theorem dX10_comeWaiting_55 : decode cX10_comeWaiting 55 = .ok (.invokevirtual 98, 3) := by decide +kernel
theorem dX10_comeWaiting_58 : decode cX10_comeWaiting 58 = .ok (.iinc 1 1, 3) := by decide +kernel
theorem dX10_comeWaiting_61 : decode cX10_comeWaiting 61 = .ok (.goto (-59), 3) := by decide +kernel
theorem dX10_comeWaiting_64 : decode cX10_comeWaiting 64 = .ok (.aload_n 0, 1) := by decide +kernel
theorem dX10_comeWaiting_65 : decode cX10_comeWaiting 65 = .ok (.aconst_null, 1) := by decide +kernel
theorem dX10_comeWaiting_66 : decode cX10_comeWaiting 66 = .ok (.putfield 122, 3) := by decide +kernel
theorem dX10_comeWaiting_69 : decode cX10_comeWaiting 69 = .ok (.return_, 1) := by decide +kernel
theorem dX10_tell_0 : decode cX10_tell 0 = .ok (.aload_n 1, 1) := by decide +kernel
theorem dX10_tell_1 : decode cX10_tell 1 = .ok (.dup, 1) := by decide +kernel
theorem dX10_tell_2 : decode cX10_tell 2 = .ok (.getfield 125, 3) := by decide +kernel
theorem dX10_tell_5 : decode cX10_tell 5 = .ok (.iconst 1, 1) := by decide +kernel
theorem dX10_tell_6 : decode cX10_tell 6 = .ok (.iadd, 1) := by decide +kernel
theorem dX10_tell_7 : decode cX10_tell 7 = .ok (.putfield 125, 3) := by decide +kernel
theorem dX10_tell_10 : decode cX10_tell 10 = .ok (.aload_n 2, 1) := by decide +kernel
theorem dX10_tell_11 : decode cX10_tell 11 = .ok (.getfield 128, 3) := by decide +kernel
theorem dX10_tell_14 : decode cX10_tell 14 = .ok (.iconst (-1), 1) := by decide +kernel
theorem dX10_tell_15 : decode cX10_tell 15 = .ok (.if_icmp .eq 37, 3) := by decide +kernel
theorem dX10_tell_18 : decode cX10_tell 18 = .ok (.aload_n 2, 1) := by decide +kernel
theorem dX10_tell_19 : decode cX10_tell 19 = .ok (.getfield 128, 3) := by decide +kernel
theorem dX10_tell_22 : decode cX10_tell 22 = .ok (.iload_n 3, 1) := by decide +kernel
theorem dX10_tell_23 : decode cX10_tell 23 = .ok (.aload_n 1, 1) := by decide +kernel
theorem dX10_tell_24 : decode cX10_tell 24 = .ok (.getfield 133, 3) := by decide +kernel
theorem dX10_tell_27 : decode cX10_tell 27 = .ok (.isub, 1) := by decide +kernel
theorem dX10_tell_28 : decode cX10_tell 28 = .ok (.if_icmp .le 24, 3) := by decide +kernel
theorem dX10_tell_31 : decode cX10_tell 31 = .ok (.aload_n 2, 1) := by decide +kernel
theorem dX10_tell_32 : decode cX10_tell 32 = .ok (.dup, 1) := by decide +kernel
theorem dX10_tell_33 : decode cX10_tell 33 = .ok (.getfield 136, 3) := by decide +kernel
theorem dX10_tell_36 : decode cX10_tell 36 = .ok (.iconst 1, 1) := by decide +kernel
theorem dX10_tell_37 : decode cX10_tell 37 = .ok (.iadd, 1) := by decide +kernel
theorem dX10_tell_38 : decode cX10_tell 38 = .ok (.putfield 136, 3) := by decide +kernel
theorem dX10_tell_41 : decode cX10_tell 41 = .ok (.aload_n 0, 1) := by decide +kernel
theorem dX10_tell_42 : decode cX10_tell 42 = .ok (.dup, 1) := by decide +kernel
theorem dX10_tell_43 : decode cX10_tell 43 = .ok (.getfield 139, 3) := by decide +kernel
theorem dX10_tell_46 : decode cX10_tell 46 = .ok (.iconst 1, 1) := by decide +kernel
theorem dX10_tell_47 : decode cX10_tell 47 = .ok (.iadd, 1) := by decide +kernel
theorem dX10_tell_48 : decode cX10_tell 48 = .ok (.putfield 139, 3) := by decide +kernel
theorem dX10_tell_51 : decode cX10_tell 51 = .ok (.return_, 1) := by decide +kernel
theorem dX10_tell_52 : decode cX10_tell 52 = .ok (.aload_n 0, 1) := by decide +kernel
theorem dX10_tell_53 : decode cX10_tell 53 = .ok (.getfield 34, 3) := by decide +kernel
theorem dX10_tell_56 : decode cX10_tell 56 = .ok (.invokevirtual 38, 3) := by decide +kernel
theorem dX10_tell_59 : decode cX10_tell 59 = .ok (.sipush 500, 3) := by decide +kernel
theorem dX10_tell_62 : decode cX10_tell 62 = .ok (.if_icmp .ge 31, 3) := by decide +kernel
theorem dX10_tell_65 : decode cX10_tell 65 = .ok (.aload_n 0, 1) := by decide +kernel
theorem dX10_tell_66 : decode cX10_tell 66 = .ok (.getfield 34, 3) := by decide +kernel
theorem dX10_tell_69 : decode cX10_tell 69 = .ok (.new 46, 3) := by decide +kernel
theorem dX10_tell_72 : decode cX10_tell 72 = .ok (.dup, 1) := by decide +kernel
theorem dX10_tell_73 : decode cX10_tell 73 = .ok (.aload_n 1, 1) := by decide +kernel
theorem dX10_tell_74 : decode cX10_tell 74 = .ok (.getfield 140, 3) := by decide +kernel
theorem dX10_tell_77 : decode cX10_tell 77 = .ok (.iload_n 3, 1) := by decide +kernel
theorem dX10_tell_78 : decode cX10_tell 78 = .ok (.iload 5, 2) := by decide +kernel
theorem dX10_tell_80 : decode cX10_tell 80 = .ok (.aload 4, 2) := by decide +kernel
theorem dX10_tell_82 : decode cX10_tell 82 = .ok (.getfield 85, 3) := by decide +kernel
theorem dX10_tell_85 : decode cX10_tell 85 = .ok (.aload_n 2, 1) := by decide +kernel
theorem dX10_tell_86 : decode cX10_tell 86 = .ok (.invokespecial 143, 3) := by decide +kernel
theorem dX10_tell_89 : decode cX10_tell 89 = .ok (.invokevirtual 146, 3) := by decide +kernel
theorem dX10_tell_92 : decode cX10_tell 92 = .ok (.pop, 1) := by decide +kernel
theorem dX10_tell_93 : decode cX10_tell 93 = .ok (.aload_n 0, 1) := by decide +kernel
theorem dX10_tell_94 : decode cX10_tell 94 = .ok (.dup, 1) := by decide +kernel
theorem dX10_tell_95 : decode cX10_tell 95 = .ok (.getfield 150, 3) := by decide +kernel
theorem dX10_tell_98 : decode cX10_tell 98 = .ok (.iconst 1, 1) := by decide +kernel
theorem dX10_tell_99 : decode cX10_tell 99 = .ok (.iadd, 1) := by decide +kernel
theorem dX10_tell_100 : decode cX10_tell 100 = .ok (.putfield 150, 3) := by decide +kernel
theorem dX10_tell_103 : decode cX10_tell 103 = .ok (.aload_n 2, 1) := by decide +kernel
theorem dX10_tell_104 : decode cX10_tell 104 = .ok (.iconst 0, 1) := by decide +kernel
theorem dX10_tell_105 : decode cX10_tell 105 = .ok (.putfield 136, 3) := by decide +kernel
theorem dX10_tell_108 : decode cX10_tell 108 = .ok (.aload_n 2, 1) := by decide +kernel
theorem dX10_tell_109 : decode cX10_tell 109 = .ok (.iload_n 3, 1) := by decide +kernel
theorem dX10_tell_110 : decode cX10_tell 110 = .ok (.putfield 128, 3) := by decide +kernel
theorem dX10_tell_113 : decode cX10_tell 113 = .ok (.aload 4, 2) := by decide +kernel
theorem dX10_tell_115 : decode cX10_tell 115 = .ok (.getfield 102, 3) := by decide +kernel
theorem dX10_tell_118 : decode cX10_tell 118 = .ok (.iconst (-1), 1) := by decide +kernel
theorem dX10_tell_119 : decode cX10_tell 119 = .ok (.if_icmp .ne 10, 3) := by decide +kernel
theorem dX10_tell_122 : decode cX10_tell 122 = .ok (.aload_n 0, 1) := by decide +kernel
theorem dX10_tell_123 : decode cX10_tell 123 = .ok (.aload_n 1, 1) := by decide +kernel
theorem dX10_tell_124 : decode cX10_tell 124 = .ok (.aload_n 2, 1) := by decide +kernel
theorem dX10_tell_125 : decode cX10_tell 125 = .ok (.iload_n 3, 1) := by decide +kernel
theorem dX10_tell_126 : decode cX10_tell 126 = .ok (.invokevirtual 153, 3) := by decide +kernel
theorem dX10_tell_129 : decode cX10_tell 129 = .ok (.return_, 1) := by decide +kernel
theorem dX10_makeEvent_0 : decode cX10_makeEvent 0 = .ok (.aload_n 1, 1) := by decide +kernel
theorem dX10_makeEvent_1 : decode cX10_makeEvent 1 = .ok (.getfield 157, 3) := by decide +kernel
theorem dX10_makeEvent_4 : decode cX10_makeEvent 4 = .ok (.aload_n 2, 1) := by decide +kernel
theorem dX10_makeEvent_5 : decode cX10_makeEvent 5 = .ok (.getfield 160, 3) := by decide +kernel
theorem dX10_makeEvent_8 : decode cX10_makeEvent 8 = .ok (.arraylength, 1) := by decide +kernel
theorem dX10_makeEvent_9 : decode cX10_makeEvent 9 = .ok (.invokestatic 15, 3) := by decide +kernel
theorem dX10_makeEvent_12 : decode cX10_makeEvent 12 = .ok (.istore 4, 2) := by decide +kernel
theorem dX10_makeEvent_14 : decode cX10_makeEvent 14 = .ok (.iload 4, 2) := by decide +kernel
theorem dX10_makeEvent_16 : decode cX10_makeEvent 16 = .ok (.newarray .long, 2) := by decide +kernel
theorem dX10_makeEvent_18 : decode cX10_makeEvent 18 = .ok (.astore 5, 2) := by decide +kernel
theorem dX10_makeEvent_20 : decode cX10_makeEvent 20 = .ok (.iload 4, 2) := by decide +kernel
theorem dX10_makeEvent_22 : decode cX10_makeEvent 22 = .ok (.anewarray 164, 3) := by decide +kernel
theorem dX10_makeEvent_25 : decode cX10_makeEvent 25 = .ok (.astore 6, 2) := by decide +kernel
theorem dX10_makeEvent_27 : decode cX10_makeEvent 27 = .ok (.iconst 0, 1) := by decide +kernel
theorem dX10_makeEvent_28 : decode cX10_makeEvent 28 = .ok (.istore 7, 2) := by decide +kernel
theorem dX10_makeEvent_30 : decode cX10_makeEvent 30 = .ok (.iload 7, 2) := by decide +kernel
theorem dX10_makeEvent_32 : decode cX10_makeEvent 32 = .ok (.iload 4, 2) := by decide +kernel
theorem dX10_makeEvent_34 : decode cX10_makeEvent 34 = .ok (.if_icmp .ge 90, 3) := by decide +kernel
theorem dX10_makeEvent_37 : decode cX10_makeEvent 37 = .ok (.iload 7, 2) := by decide +kernel
theorem dX10_makeEvent_39 : decode cX10_makeEvent 39 = .ok (.istore 8, 2) := by decide +kernel
theorem dX10_makeEvent_41 : decode cX10_makeEvent 41 = .ok (.iload 8, 2) := by decide +kernel
theorem dX10_makeEvent_43 : decode cX10_makeEvent 43 = .ok (.ifCond .le 51, 3) := by decide +kernel
theorem dX10_makeEvent_46 : decode cX10_makeEvent 46 = .ok (.aload 5, 2) := by decide +kernel
theorem dX10_makeEvent_48 : decode cX10_makeEvent 48 = .ok (.iload 8, 2) := by decide +kernel
theorem dX10_makeEvent_50 : decode cX10_makeEvent 50 = .ok (.iconst 1, 1) := by decide +kernel
theorem dX10_makeEvent_51 : decode cX10_makeEvent 51 = .ok (.isub, 1) := by decide +kernel
theorem dX10_makeEvent_52 : decode cX10_makeEvent 52 = .ok (.laload, 1) := by decide +kernel
theorem dX10_makeEvent_53 : decode cX10_makeEvent 53 = .ok (.aload_n 1, 1) := by decide +kernel
theorem dX10_makeEvent_54 : decode cX10_makeEvent 54 = .ok (.getfield 166, 3) := by decide +kernel
theorem dX10_makeEvent_57 : decode cX10_makeEvent 57 = .ok (.iload 7, 2) := by decide +kernel
theorem dX10_makeEvent_59 : decode cX10_makeEvent 59 = .ok (.laload, 1) := by decide +kernel
theorem dX10_makeEvent_60 : decode cX10_makeEvent 60 = .ok (.lcmp, 1) := by decide +kernel
theorem dX10_makeEvent_61 : decode cX10_makeEvent 61 = .ok (.ifCond .le 33, 3) := by decide +kernel
theorem dX10_makeEvent_64 : decode cX10_makeEvent 64 = .ok (.aload 5, 2) := by decide +kernel
theorem dX10_makeEvent_66 : decode cX10_makeEvent 66 = .ok (.iload 8, 2) := by decide +kernel
theorem dX10_makeEvent_68 : decode cX10_makeEvent 68 = .ok (.aload 5, 2) := by decide +kernel
theorem dX10_makeEvent_70 : decode cX10_makeEvent 70 = .ok (.iload 8, 2) := by decide +kernel
theorem dX10_makeEvent_72 : decode cX10_makeEvent 72 = .ok (.iconst 1, 1) := by decide +kernel
theorem dX10_makeEvent_73 : decode cX10_makeEvent 73 = .ok (.isub, 1) := by decide +kernel
theorem dX10_makeEvent_74 : decode cX10_makeEvent 74 = .ok (.laload, 1) := by decide +kernel
theorem dX10_makeEvent_75 : decode cX10_makeEvent 75 = .ok (.lastore, 1) := by decide +kernel
theorem dX10_makeEvent_76 : decode cX10_makeEvent 76 = .ok (.aload 6, 2) := by decide +kernel
theorem dX10_makeEvent_78 : decode cX10_makeEvent 78 = .ok (.iload 8, 2) := by decide +kernel
theorem dX10_makeEvent_80 : decode cX10_makeEvent 80 = .ok (.aload 6, 2) := by decide +kernel
theorem dX10_makeEvent_82 : decode cX10_makeEvent 82 = .ok (.iload 8, 2) := by decide +kernel
theorem dX10_makeEvent_84 : decode cX10_makeEvent 84 = .ok (.iconst 1, 1) := by decide +kernel
theorem dX10_makeEvent_85 : decode cX10_makeEvent 85 = .ok (.isub, 1) := by decide +kernel
theorem dX10_makeEvent_86 : decode cX10_makeEvent 86 = .ok (.aaload, 1) := by decide +kernel
theorem dX10_makeEvent_87 : decode cX10_makeEvent 87 = .ok (.aastore, 1) := by decide +kernel
theorem dX10_makeEvent_88 : decode cX10_makeEvent 88 = .ok (.iinc 8 (-1), 3) := by decide +kernel
theorem dX10_makeEvent_91 : decode cX10_makeEvent 91 = .ok (.goto (-50), 3) := by decide +kernel
theorem dX10_makeEvent_94 : decode cX10_makeEvent 94 = .ok (.aload 5, 2) := by decide +kernel
theorem dX10_makeEvent_96 : decode cX10_makeEvent 96 = .ok (.iload 8, 2) := by decide +kernel
theorem dX10_makeEvent_98 : decode cX10_makeEvent 98 = .ok (.aload_n 1, 1) := by decide +kernel
theorem dX10_makeEvent_99 : decode cX10_makeEvent 99 = .ok (.getfield 166, 3) := by decide +kernel
theorem dX10_makeEvent_102 : decode cX10_makeEvent 102 = .ok (.iload 7, 2) := by decide +kernel
theorem dX10_makeEvent_104 : decode cX10_makeEvent 104 = .ok (.laload, 1) := by decide +kernel
theorem dX10_makeEvent_105 : decode cX10_makeEvent 105 = .ok (.lastore, 1) := by decide +kernel
theorem dX10_makeEvent_106 : decode cX10_makeEvent 106 = .ok (.aload 6, 2) := by decide +kernel
theorem dX10_makeEvent_108 : decode cX10_makeEvent 108 = .ok (.iload 8, 2) := by decide +kernel
theorem dX10_makeEvent_110 : decode cX10_makeEvent 110 = .ok (.aload_n 2, 1) := by decide +kernel
theorem dX10_makeEvent_111 : decode cX10_makeEvent 111 = .ok (.getfield 160, 3) := by decide +kernel
theorem dX10_makeEvent_114 : decode cX10_makeEvent 114 = .ok (.iload 7, 2) := by decide +kernel
theorem dX10_makeEvent_116 : decode cX10_makeEvent 116 = .ok (.aaload, 1) := by decide +kernel
theorem dX10_makeEvent_117 : decode cX10_makeEvent 117 = .ok (.aastore, 1) := by decide +kernel
theorem dX10_makeEvent_118 : decode cX10_makeEvent 118 = .ok (.iinc 7 1, 3) := by decide +kernel
theorem dX10_makeEvent_121 : decode cX10_makeEvent 121 = .ok (.goto (-91), 3) := by decide +kernel
theorem dX10_makeEvent_124 : decode cX10_makeEvent 124 = .ok (.new 25, 3) := by decide +kernel
theorem dX10_makeEvent_127 : decode cX10_makeEvent 127 = .ok (.dup, 1) := by decide +kernel
theorem dX10_makeEvent_128 : decode cX10_makeEvent 128 = .ok (.iload_n 3, 1) := by decide +kernel
theorem dX10_makeEvent_129 : decode cX10_makeEvent 129 = .ok (.ldc2_w 170, 3) := by decide +kernel
theorem dX10_makeEvent_132 : decode cX10_makeEvent 132 = .ok (.aload_n 1, 1) := by decide +kernel
theorem dX10_makeEvent_133 : decode cX10_makeEvent 133 = .ok (.getfield 140, 3) := by decide +kernel
theorem dX10_makeEvent_136 : decode cX10_makeEvent 136 = .ok (.aload 5, 2) := by decide +kernel
theorem dX10_makeEvent_138 : decode cX10_makeEvent 138 = .ok (.aload 6, 2) := by decide +kernel
theorem dX10_makeEvent_140 : decode cX10_makeEvent 140 = .ok (.invokespecial 172, 3) := by decide +kernel
theorem dX10_makeEvent_143 : decode cX10_makeEvent 143 = .ok (.astore 7, 2) := by decide +kernel
theorem dX10_makeEvent_145 : decode cX10_makeEvent 145 = .ok (.aload_n 0, 1) := by decide +kernel
theorem dX10_makeEvent_146 : decode cX10_makeEvent 146 = .ok (.getfield 113, 3) := by decide +kernel
theorem dX10_makeEvent_149 : decode cX10_makeEvent 149 = .ok (.ifnull 10, 3) := by decide +kernel
theorem dX10_makeEvent_152 : decode cX10_makeEvent 152 = .ok (.aload_n 0, 1) := by decide +kernel
theorem dX10_makeEvent_153 : decode cX10_makeEvent 153 = .ok (.getfield 122, 3) := by decide +kernel
theorem dX10_makeEvent_156 : decode cX10_makeEvent 156 = .ok (.ifnonnull 12, 3) := by decide +kernel
theorem dX10_makeEvent_159 : decode cX10_makeEvent 159 = .ok (.aload_n 0, 1) := by decide +kernel
theorem dX10_makeEvent_160 : decode cX10_makeEvent 160 = .ok (.aload 7, 2) := by decide +kernel
theorem dX10_makeEvent_162 : decode cX10_makeEvent 162 = .ok (.putfield 113, 3) := by decide +kernel
theorem dX10_makeEvent_165 : decode cX10_makeEvent 165 = .ok (.goto 12, 3) := by decide +kernel
theorem dX10_makeEvent_168 : decode cX10_makeEvent 168 = .ok (.aload_n 0, 1) := by decide +kernel
theorem dX10_makeEvent_169 : decode cX10_makeEvent 169 = .ok (.getfield 122, 3) := by decide +kernel
theorem dX10_makeEvent_172 : decode cX10_makeEvent 172 = .ok (.aload 7, 2) := by decide +kernel
theorem dX10_makeEvent_174 : decode cX10_makeEvent 174 = .ok (.putfield 116, 3) := by decide +kernel
theorem dX10_makeEvent_177 : decode cX10_makeEvent 177 = .ok (.aload_n 0, 1) := by decide +kernel
theorem dX10_makeEvent_178 : decode cX10_makeEvent 178 = .ok (.aload 7, 2) := by decide +kernel
theorem dX10_makeEvent_180 : decode cX10_makeEvent 180 = .ok (.putfield 122, 3) := by decide +kernel
theorem dX10_makeEvent_183 : decode cX10_makeEvent 183 = .ok (.return_, 1) := by decide +kernel
theorem dX11_init_0 : decode cX11_init 0 = .ok (.aload_n 0, 1) := by decide +kernel
theorem dX11_init_1 : decode cX11_init 1 = .ok (.invokespecial 1, 3) := by decide +kernel
theorem dX11_init_4 : decode cX11_init 4 = .ok (.aload_n 0, 1) := by decide +kernel
theorem dX11_init_5 : decode cX11_init 5 = .ok (.sipush 2100, 3) := by decide +kernel
theorem dX11_init_8 : decode cX11_init 8 = .ok (.newarray .int, 2) := by decide +kernel
theorem dX11_init_10 : decode cX11_init 10 = .ok (.putfield 9, 3) := by decide +kernel
theorem dX11_init_13 : decode cX11_init 13 = .ok (.aload_n 0, 1) := by decide +kernel
theorem dX11_init_14 : decode cX11_init 14 = .ok (.iconst (-1), 1) := by decide +kernel
theorem dX11_init_15 : decode cX11_init 15 = .ok (.putfield 13, 3) := by decide +kernel
theorem dX11_init_18 : decode cX11_init 18 = .ok (.aload_n 0, 1) := by decide +kernel
theorem dX11_init_19 : decode cX11_init 19 = .ok (.new 17, 3) := by decide +kernel
theorem dX11_init_22 : decode cX11_init 22 = .ok (.dup, 1) := by decide +kernel
theorem dX11_init_23 : decode cX11_init 23 = .ok (.invokespecial 19, 3) := by decide +kernel
theorem dX11_init_26 : decode cX11_init 26 = .ok (.putfield 20, 3) := by decide +kernel
theorem dX11_init_29 : decode cX11_init 29 = .ok (.aload_n 0, 1) := by decide +kernel
theorem dX11_init_30 : decode cX11_init 30 = .ok (.new 24, 3) := by decide +kernel
theorem dX11_init_33 : decode cX11_init 33 = .ok (.dup, 1) := by decide +kernel
theorem dX11_init_34 : decode cX11_init 34 = .ok (.invokespecial 26, 3) := by decide +kernel
theorem dX11_init_37 : decode cX11_init 37 = .ok (.putfield 27, 3) := by decide +kernel
theorem dX11_init_40 : decode cX11_init 40 = .ok (.aload_n 0, 1) := by decide +kernel
theorem dX11_init_41 : decode cX11_init 41 = .ok (.new 31, 3) := by decide +kernel
theorem dX11_init_44 : decode cX11_init 44 = .ok (.dup, 1) := by decide +kernel
theorem dX11_init_45 : decode cX11_init 45 = .ok (.iconst 0, 1) := by decide +kernel
theorem dX11_init_46 : decode cX11_init 46 = .ok (.anewarray 33, 3) := by decide +kernel
theorem dX11_init_49 : decode cX11_init 49 = .ok (.iconst 0, 1) := by decide +kernel
theorem dX11_init_50 : decode cX11_init 50 = .ok (.invokespecial 35, 3) := by decide +kernel
theorem dX11_init_53 : decode cX11_init 53 = .ok (.putfield 38, 3) := by decide +kernel
theorem dX11_init_56 : decode cX11_init 56 = .ok (.return_, 1) := by decide +kernel
theorem dX11_feed_0 : decode cX11_feed 0 = .ok (.aload_n 0, 1) := by decide +kernel
theorem dX11_feed_1 : decode cX11_feed 1 = .ok (.getfield 42, 3) := by decide +kernel
theorem dX11_feed_4 : decode cX11_feed 4 = .ok (.bipush 20, 2) := by decide +kernel
theorem dX11_feed_6 : decode cX11_feed 6 = .ok (.iadd, 1) := by decide +kernel
theorem dX11_feed_7 : decode cX11_feed 7 = .ok (.aload_n 0, 1) := by decide +kernel
theorem dX11_feed_8 : decode cX11_feed 8 = .ok (.getfield 9, 3) := by decide +kernel
theorem dX11_feed_11 : decode cX11_feed 11 = .ok (.arraylength, 1) := by decide +kernel
theorem dX11_feed_12 : decode cX11_feed 12 = .ok (.if_icmp .le 5, 3) := by decide +kernel
theorem dX11_feed_15 : decode cX11_feed 15 = .ok (.iconst (-1), 1) := by decide +kernel
theorem dX11_feed_16 : decode cX11_feed 16 = .ok (.ireturn, 1) := by decide +kernel
theorem dX11_feed_17 : decode cX11_feed 17 = .ok (.aload_n 0, 1) := by decide +kernel
theorem dX11_feed_18 : decode cX11_feed 18 = .ok (.iload_n 1, 1) := by decide +kernel
theorem dX11_feed_19 : decode cX11_feed 19 = .ok (.invokevirtual 45, 3) := by decide +kernel
theorem dX11_feed_22 : decode cX11_feed 22 = .ok (.aload_n 0, 1) := by decide +kernel
theorem dX11_feed_23 : decode cX11_feed 23 = .ok (.iload_n 2, 1) := by decide +kernel
theorem dX11_feed_24 : decode cX11_feed 24 = .ok (.invokevirtual 45, 3) := by decide +kernel
theorem dX11_feed_27 : decode cX11_feed 27 = .ok (.aload_n 0, 1) := by decide +kernel
theorem dX11_feed_28 : decode cX11_feed 28 = .ok (.iload_n 3, 1) := by decide +kernel
theorem dX11_feed_29 : decode cX11_feed 29 = .ok (.invokevirtual 45, 3) := by decide +kernel
theorem dX11_feed_32 : decode cX11_feed 32 = .ok (.aload_n 0, 1) := by decide +kernel
theorem dX11_feed_33 : decode cX11_feed 33 = .ok (.iload 4, 2) := by decide +kernel
theorem dX11_feed_35 : decode cX11_feed 35 = .ok (.invokevirtual 45, 3) := by decide +kernel
theorem dX11_feed_38 : decode cX11_feed 38 = .ok (.aload_n 0, 1) := by decide +kernel
theorem dX11_feed_39 : decode cX11_feed 39 = .ok (.iload 5, 2) := by decide +kernel
theorem dX11_feed_41 : decode cX11_feed 41 = .ok (.invokevirtual 45, 3) := by decide +kernel
theorem dX11_feed_44 : decode cX11_feed 44 = .ok (.aload_n 0, 1) := by decide +kernel
theorem dX11_feed_45 : decode cX11_feed 45 = .ok (.getfield 42, 3) := by decide +kernel
theorem dX11_feed_48 : decode cX11_feed 48 = .ok (.ireturn, 1) := by decide +kernel
theorem dX11_putFour_0 : decode cX11_putFour 0 = .ok (.bipush 24, 2) := by decide +kernel
theorem dX11_putFour_2 : decode cX11_putFour 2 = .ok (.istore_n 2, 1) := by decide +kernel
theorem dX11_putFour_3 : decode cX11_putFour 3 = .ok (.iload_n 2, 1) := by decide +kernel
theorem dX11_putFour_4 : decode cX11_putFour 4 = .ok (.ifCond .lt 47, 3) := by decide +kernel
theorem dX11_putFour_7 : decode cX11_putFour 7 = .ok (.aload_n 0, 1) := by decide +kernel
theorem dX11_putFour_8 : decode cX11_putFour 8 = .ok (.getfield 42, 3) := by decide +kernel
theorem dX11_putFour_11 : decode cX11_putFour 11 = .ok (.aload_n 0, 1) := by decide +kernel
theorem dX11_putFour_12 : decode cX11_putFour 12 = .ok (.getfield 9, 3) := by decide +kernel
theorem dX11_putFour_15 : decode cX11_putFour 15 = .ok (.arraylength, 1) := by decide +kernel
theorem dX11_putFour_16 : decode cX11_putFour 16 = .ok (.if_icmp .ge 35, 3) := by decide +kernel
theorem dX11_putFour_19 : decode cX11_putFour 19 = .ok (.aload_n 0, 1) := by decide +kernel
theorem dX11_putFour_20 : decode cX11_putFour 20 = .ok (.getfield 9, 3) := by decide +kernel
theorem dX11_putFour_23 : decode cX11_putFour 23 = .ok (.aload_n 0, 1) := by decide +kernel
theorem dX11_putFour_24 : decode cX11_putFour 24 = .ok (.getfield 42, 3) := by decide +kernel
theorem dX11_putFour_27 : decode cX11_putFour 27 = .ok (.iload_n 1, 1) := by decide +kernel
theorem dX11_putFour_28 : decode cX11_putFour 28 = .ok (.iload_n 2, 1) := by decide +kernel
theorem dX11_putFour_29 : decode cX11_putFour 29 = .ok (.iushr, 1) := by decide +kernel
theorem dX11_putFour_30 : decode cX11_putFour 30 = .ok (.sipush 255, 3) := by decide +kernel
theorem dX11_putFour_33 : decode cX11_putFour 33 = .ok (.iand, 1) := by decide +kernel
theorem dX11_putFour_34 : decode cX11_putFour 34 = .ok (.iastore, 1) := by decide +kernel
theorem dX11_putFour_35 : decode cX11_putFour 35 = .ok (.aload_n 0, 1) := by decide +kernel
theorem dX11_putFour_36 : decode cX11_putFour 36 = .ok (.dup, 1) := by decide +kernel
theorem dX11_putFour_37 : decode cX11_putFour 37 = .ok (.getfield 42, 3) := by decide +kernel
theorem dX11_putFour_40 : decode cX11_putFour 40 = .ok (.iconst 1, 1) := by decide +kernel
theorem dX11_putFour_41 : decode cX11_putFour 41 = .ok (.iadd, 1) := by decide +kernel
theorem dX11_putFour_42 : decode cX11_putFour 42 = .ok (.putfield 42, 3) := by decide +kernel
theorem dX11_putFour_45 : decode cX11_putFour 45 = .ok (.iinc 2 (-8), 3) := by decide +kernel
theorem dX11_putFour_48 : decode cX11_putFour 48 = .ok (.goto (-45), 3) := by decide +kernel
theorem dX11_putFour_51 : decode cX11_putFour 51 = .ok (.return_, 1) := by decide +kernel
theorem dX11_end_0 : decode cX11_end 0 = .ok (.iload_n 1, 1) := by decide +kernel
theorem dX11_end_1 : decode cX11_end 1 = .ok (.ifCond .lt 11, 3) := by decide +kernel
theorem dX11_end_4 : decode cX11_end 4 = .ok (.iload_n 1, 1) := by decide +kernel
theorem dX11_end_5 : decode cX11_end 5 = .ok (.aload_n 0, 1) := by decide +kernel
theorem dX11_end_6 : decode cX11_end 6 = .ok (.getfield 42, 3) := by decide +kernel
theorem dX11_end_9 : decode cX11_end 9 = .ok (.if_icmp .le 5, 3) := by decide +kernel
theorem dX11_end_12 : decode cX11_end 12 = .ok (.iconst 0, 1) := by decide +kernel
theorem dX11_end_13 : decode cX11_end 13 = .ok (.ireturn, 1) := by decide +kernel
theorem dX11_end_14 : decode cX11_end 14 = .ok (.aload_n 0, 1) := by decide +kernel
theorem dX11_end_15 : decode cX11_end 15 = .ok (.iload_n 1, 1) := by decide +kernel
theorem dX11_end_16 : decode cX11_end 16 = .ok (.putfield 42, 3) := by decide +kernel
theorem dX11_end_19 : decode cX11_end 19 = .ok (.iconst 1, 1) := by decide +kernel
theorem dX11_end_20 : decode cX11_end 20 = .ok (.ireturn, 1) := by decide +kernel
theorem dX11_rules_0 : decode cX11_rules 0 = .ok (.aload_n 0, 1) := by decide +kernel
theorem dX11_rules_1 : decode cX11_rules 1 = .ok (.getfield 20, 3) := by decide +kernel
theorem dX11_rules_4 : decode cX11_rules 4 = .ok (.aload_n 0, 1) := by decide +kernel
theorem dX11_rules_5 : decode cX11_rules 5 = .ok (.getfield 9, 3) := by decide +kernel
theorem dX11_rules_8 : decode cX11_rules 8 = .ok (.aload_n 0, 1) := by decide +kernel
theorem dX11_rules_9 : decode cX11_rules 9 = .ok (.getfield 42, 3) := by decide +kernel
theorem dX11_rules_12 : decode cX11_rules 12 = .ok (.invokevirtual 49, 3) := by decide +kernel
theorem dX11_rules_15 : decode cX11_rules 15 = .ok (.aload_n 0, 1) := by decide +kernel
theorem dX11_rules_16 : decode cX11_rules 16 = .ok (.iconst 0, 1) := by decide +kernel
theorem dX11_rules_17 : decode cX11_rules 17 = .ok (.putfield 42, 3) := by decide +kernel
theorem dX11_rules_20 : decode cX11_rules 20 = .ok (.new 53, 3) := by decide +kernel
theorem dX11_rules_23 : decode cX11_rules 23 = .ok (.dup, 1) := by decide +kernel
theorem dX11_rules_24 : decode cX11_rules 24 = .ok (.aload_n 0, 1) := by decide +kernel
theorem dX11_rules_25 : decode cX11_rules 25 = .ok (.getfield 20, 3) := by decide +kernel
theorem dX11_rules_28 : decode cX11_rules 28 = .ok (.invokespecial 55, 3) := by decide +kernel
theorem dX11_rules_31 : decode cX11_rules 31 = .ok (.astore_n 1, 1) := by decide +kernel
theorem dX11_rules_32 : decode cX11_rules 32 = .ok (.iconst 0, 1) := by decide +kernel
theorem dX11_rules_33 : decode cX11_rules 33 = .ok (.istore_n 2, 1) := by decide +kernel
theorem dX11_rules_34 : decode cX11_rules 34 = .ok (.iload_n 2, 1) := by decide +kernel
theorem dX11_rules_35 : decode cX11_rules 35 = .ok (.bipush 12, 2) := by decide +kernel
theorem dX11_rules_37 : decode cX11_rules 37 = .ok (.if_icmp .gt 20, 3) := by decide +kernel
theorem dX11_rules_40 : decode cX11_rules 40 = .ok (.aload_n 1, 1) := by decide +kernel
theorem dX11_rules_41 : decode cX11_rules 41 = .ok (.invokevirtual 58, 3) := by decide +kernel
theorem dX11_rules_44 : decode cX11_rules 44 = .ok (.ifCond .eq 13, 3) := by decide +kernel
theorem dX11_rules_47 : decode cX11_rules 47 = .ok (.aload_n 1, 1) := by decide +kernel
theorem dX11_rules_48 : decode cX11_rules 48 = .ok (.invokevirtual 62, 3) := by decide +kernel
theorem dX11_rules_51 : decode cX11_rules 51 = .ok (.iinc 2 1, 3) := by decide +kernel
theorem dX11_rules_54 : decode cX11_rules 54 = .ok (.goto (-20), 3) := by decide +kernel
theorem dX11_rules_57 : decode cX11_rules 57 = .ok (.aload_n 0, 1) := by decide +kernel
theorem dX11_rules_58 : decode cX11_rules 58 = .ok (.aload_n 1, 1) := by decide +kernel
theorem dX11_rules_59 : decode cX11_rules 59 = .ok (.getfield 65, 3) := by decide +kernel
theorem dX11_rules_62 : decode cX11_rules 62 = .ok (.putfield 68, 3) := by decide +kernel
theorem dX11_rules_65 : decode cX11_rules 65 = .ok (.aload_n 0, 1) := by decide +kernel
theorem dX11_rules_66 : decode cX11_rules 66 = .ok (.iconst (-1), 1) := by decide +kernel
theorem dX11_rules_67 : decode cX11_rules 67 = .ok (.putfield 13, 3) := by decide +kernel
theorem dX11_rules_70 : decode cX11_rules 70 = .ok (.aload_n 1, 1) := by decide +kernel
theorem dX11_rules_71 : decode cX11_rules 71 = .ok (.getfield 65, 3) := by decide +kernel
theorem dX11_rules_74 : decode cX11_rules 74 = .ok (.ifCond .eq 10, 3) := by decide +kernel
theorem dX11_rules_77 : decode cX11_rules 77 = .ok (.iconst (-1), 1) := by decide +kernel
theorem dX11_rules_78 : decode cX11_rules 78 = .ok (.aload_n 1, 1) := by decide +kernel
theorem dX11_rules_79 : decode cX11_rules 79 = .ok (.getfield 69, 3) := by decide +kernel
theorem dX11_rules_82 : decode cX11_rules 82 = .ok (.isub, 1) := by decide +kernel
theorem dX11_rules_83 : decode cX11_rules 83 = .ok (.ireturn, 1) := by decide +kernel
theorem dX11_rules_84 : decode cX11_rules 84 = .ok (.aload_n 0, 1) := by decide +kernel
theorem dX11_rules_85 : decode cX11_rules 85 = .ok (.new 31, 3) := by decide +kernel
theorem dX11_rules_88 : decode cX11_rules 88 = .ok (.dup, 1) := by decide +kernel
theorem dX11_rules_89 : decode cX11_rules 89 = .ok (.aload_n 1, 1) := by decide +kernel
theorem dX11_rules_90 : decode cX11_rules 90 = .ok (.getfield 70, 3) := by decide +kernel
theorem dX11_rules_93 : decode cX11_rules 93 = .ok (.aload_n 1, 1) := by decide +kernel
theorem dX11_rules_94 : decode cX11_rules 94 = .ok (.getfield 74, 3) := by decide +kernel
theorem dX11_rules_97 : decode cX11_rules 97 = .ok (.invokespecial 35, 3) := by decide +kernel
theorem dX11_rules_100 : decode cX11_rules 100 = .ok (.putfield 38, 3) := by decide +kernel
theorem dX11_rules_103 : decode cX11_rules 103 = .ok (.aload_n 0, 1) := by decide +kernel
theorem dX11_rules_104 : decode cX11_rules 104 = .ok (.getfield 38, 3) := by decide +kernel
theorem dX11_rules_107 : decode cX11_rules 107 = .ok (.getfield 77, 3) := by decide +kernel
theorem dX11_rules_110 : decode cX11_rules 110 = .ok (.ireturn, 1) := by decide +kernel
theorem dX11_fault_0 : decode cX11_fault 0 = .ok (.aload_n 0, 1) := by decide +kernel
theorem dX11_fault_1 : decode cX11_fault 1 = .ok (.getfield 68, 3) := by decide +kernel
theorem dX11_fault_4 : decode cX11_fault 4 = .ok (.ireturn, 1) := by decide +kernel
theorem dX11_place_0 : decode cX11_place 0 = .ok (.aload_n 0, 1) := by decide +kernel
theorem dX11_place_1 : decode cX11_place 1 = .ok (.getfield 13, 3) := by decide +kernel
theorem dX11_place_4 : decode cX11_place 4 = .ok (.ireturn, 1) := by decide +kernel
theorem dX11_take_0 : decode cX11_take 0 = .ok (.aload_n 0, 1) := by decide +kernel
theorem dX11_take_1 : decode cX11_take 1 = .ok (.getfield 27, 3) := by decide +kernel
theorem dX11_take_4 : decode cX11_take 4 = .ok (.aload_n 0, 1) := by decide +kernel
theorem dX11_take_5 : decode cX11_take 5 = .ok (.getfield 9, 3) := by decide +kernel
theorem dX11_take_8 : decode cX11_take 8 = .ok (.aload_n 0, 1) := by decide +kernel
theorem dX11_take_9 : decode cX11_take 9 = .ok (.getfield 42, 3) := by decide +kernel
theorem dX11_take_12 : decode cX11_take 12 = .ok (.invokevirtual 80, 3) := by decide +kernel
theorem dX11_take_15 : decode cX11_take 15 = .ok (.aload_n 0, 1) := by decide +kernel
theorem dX11_take_16 : decode cX11_take 16 = .ok (.iconst 0, 1) := by decide +kernel
theorem dX11_take_17 : decode cX11_take 17 = .ok (.putfield 42, 3) := by decide +kernel
theorem dX11_take_20 : decode cX11_take 20 = .ok (.iconst 0, 1) := by decide +kernel
theorem dX11_take_21 : decode cX11_take 21 = .ok (.istore_n 1, 1) := by decide +kernel
theorem dX11_take_22 : decode cX11_take 22 = .ok (.iconst 0, 1) := by decide +kernel
theorem dX11_take_23 : decode cX11_take 23 = .ok (.istore_n 2, 1) := by decide +kernel
theorem dX11_take_24 : decode cX11_take 24 = .ok (.iload_n 2, 1) := by decide +kernel
theorem dX11_take_25 : decode cX11_take 25 = .ok (.sipush 2100, 3) := by decide +kernel
theorem dX11_take_28 : decode cX11_take 28 = .ok (.if_icmp .ge 76, 3) := by decide +kernel
theorem dX11_take_31 : decode cX11_take 31 = .ok (.aload_n 0, 1) := by decide +kernel
theorem dX11_take_32 : decode cX11_take 32 = .ok (.getfield 27, 3) := by decide +kernel
theorem dX11_take_35 : decode cX11_take 35 = .ok (.invokevirtual 83, 3) := by decide +kernel
theorem dX11_take_38 : decode cX11_take 38 = .ok (.ifCond .eq 66, 3) := by decide +kernel
theorem dX11_take_41 : decode cX11_take 41 = .ok (.aload_n 0, 1) := by decide +kernel
theorem dX11_take_42 : decode cX11_take 42 = .ok (.getfield 27, 3) := by decide +kernel
theorem dX11_take_45 : decode cX11_take 45 = .ok (.aload_n 0, 1) := by decide +kernel
theorem dX11_take_46 : decode cX11_take 46 = .ok (.getfield 38, 3) := by decide +kernel
theorem dX11_take_49 : decode cX11_take 49 = .ok (.getfield 86, 3) := by decide +kernel
theorem dX11_take_52 : decode cX11_take 52 = .ok (.aload_n 0, 1) := by decide +kernel
theorem dX11_take_53 : decode cX11_take 53 = .ok (.getfield 38, 3) := by decide +kernel
theorem dX11_take_56 : decode cX11_take 56 = .ok (.getfield 89, 3) := by decide +kernel
theorem dX11_take_59 : decode cX11_take 59 = .ok (.invokevirtual 92, 3) := by decide +kernel
theorem dX11_take_62 : decode cX11_take 62 = .ok (.astore_n 3, 1) := by decide +kernel
theorem dX11_take_63 : decode cX11_take 63 = .ok (.aload_n 3, 1) := by decide +kernel
theorem dX11_take_64 : decode cX11_take 64 = .ok (.ifnonnull 6, 3) := by decide +kernel
theorem dX11_take_67 : decode cX11_take 67 = .ok (.goto 37, 3) := by decide +kernel
theorem dX11_take_70 : decode cX11_take 70 = .ok (.aload_n 0, 1) := by decide +kernel
theorem dX11_take_71 : decode cX11_take 71 = .ok (.getfield 38, 3) := by decide +kernel
theorem dX11_take_74 : decode cX11_take 74 = .ok (.aload_n 3, 1) := by decide +kernel
theorem dX11_take_75 : decode cX11_take 75 = .ok (.getfield 96, 3) := by decide +kernel
theorem dX11_take_78 : decode cX11_take 78 = .ok (.invokevirtual 101, 3) := by decide +kernel
theorem dX11_take_81 : decode cX11_take 81 = .ok (.aload_n 0, 1) := by decide +kernel
theorem dX11_take_82 : decode cX11_take 82 = .ok (.getfield 38, 3) := by decide +kernel
theorem dX11_take_85 : decode cX11_take 85 = .ok (.aload_n 3, 1) := by decide +kernel
theorem dX11_take_86 : decode cX11_take 86 = .ok (.invokevirtual 104, 3) := by decide +kernel
theorem dX11_take_89 : decode cX11_take 89 = .ok (.ifCond .ne 6, 3) := by decide +kernel
theorem dX11_take_92 : decode cX11_take 92 = .ok (.goto 12, 3) := by decide +kernel
theorem dX11_take_95 : decode cX11_take 95 = .ok (.iinc 1 1, 3) := by decide +kernel
theorem dX11_take_98 : decode cX11_take 98 = .ok (.iinc 2 1, 3) := by decide +kernel
theorem dX11_take_101 : decode cX11_take 101 = .ok (.goto (-77), 3) := by decide +kernel
theorem dX11_take_104 : decode cX11_take 104 = .ok (.aload_n 0, 1) := by decide +kernel
theorem dX11_take_105 : decode cX11_take 105 = .ok (.aload_n 0, 1) := by decide +kernel
theorem dX11_take_106 : decode cX11_take 106 = .ok (.getfield 27, 3) := by decide +kernel
theorem dX11_take_109 : decode cX11_take 109 = .ok (.getfield 108, 3) := by decide +kernel
theorem dX11_take_112 : decode cX11_take 112 = .ok (.putfield 68, 3) := by decide +kernel
theorem dX11_take_115 : decode cX11_take 115 = .ok (.aload_n 0, 1) := by decide +kernel
theorem dX11_take_116 : decode cX11_take 116 = .ok (.aload_n 0, 1) := by decide +kernel
