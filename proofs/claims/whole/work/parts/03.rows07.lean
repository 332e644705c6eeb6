theorem dX12_fieldOf_18 : decode cX12_fieldOf 18 = .ok (.bipush 8, 2) := by decide +kernel
theorem dX12_fieldOf_20 : decode cX12_fieldOf 20 = .ok (.iload_n 1, 1) := by decide +kernel
theorem dX12_fieldOf_21 : decode cX12_fieldOf 21 = .ok (.imul, 1) := by decide +kernel
theorem dX12_fieldOf_22 : decode cX12_fieldOf 22 = .ok (.iload 4, 2) := by decide +kernel
theorem dX12_fieldOf_24 : decode cX12_fieldOf 24 = .ok (.iadd, 1) := by decide +kernel
theorem dX12_fieldOf_25 : decode cX12_fieldOf 25 = .ok (.laload, 1) := by decide +kernel
theorem dX12_fieldOf_26 : decode cX12_fieldOf 26 = .ok (.lload_n 2, 1) := by decide +kernel
theorem dX12_fieldOf_27 : decode cX12_fieldOf 27 = .ok (.lcmp, 1) := by decide +kernel
theorem dX12_fieldOf_28 : decode cX12_fieldOf 28 = .ok (.ifCond .ne 11, 3) := by decide +kernel
theorem dX12_fieldOf_31 : decode cX12_fieldOf 31 = .ok (.bipush 8, 2) := by decide +kernel
theorem dX12_fieldOf_33 : decode cX12_fieldOf 33 = .ok (.iload_n 1, 1) := by decide +kernel
theorem dX12_fieldOf_34 : decode cX12_fieldOf 34 = .ok (.imul, 1) := by decide +kernel
theorem dX12_fieldOf_35 : decode cX12_fieldOf 35 = .ok (.iload 4, 2) := by decide +kernel
theorem dX12_fieldOf_37 : decode cX12_fieldOf 37 = .ok (.iadd, 1) := by decide +kernel
theorem dX12_fieldOf_38 : decode cX12_fieldOf 38 = .ok (.ireturn, 1) := by decide +kernel
theorem dX12_fieldOf_39 : decode cX12_fieldOf 39 = .ok (.iinc 4 1, 3) := by decide +kernel
theorem dX12_fieldOf_42 : decode cX12_fieldOf 42 = .ok (.goto (-39), 3) := by decide +kernel
theorem dX12_fieldOf_45 : decode cX12_fieldOf 45 = .ok (.iconst (-1), 1) := by decide +kernel
theorem dX12_fieldOf_46 : decode cX12_fieldOf 46 = .ok (.ireturn, 1) := by decide +kernel
theorem dX12_readsUnsigned_0 : decode cX12_readsUnsigned 0 = .ok (.aload_n 0, 1) := by decide +kernel
theorem dX12_readsUnsigned_1 : decode cX12_readsUnsigned 1 = .ok (.getfield 104, 3) := by decide +kernel
theorem dX12_readsUnsigned_4 : decode cX12_readsUnsigned 4 = .ok (.istore_n 1, 1) := by decide +kernel
theorem dX12_readsUnsigned_5 : decode cX12_readsUnsigned 5 = .ok (.lconst 0, 1) := by decide +kernel
theorem dX12_readsUnsigned_6 : decode cX12_readsUnsigned 6 = .ok (.lstore_n 2, 1) := by decide +kernel
theorem dX12_readsUnsigned_7 : decode cX12_readsUnsigned 7 = .ok (.iconst 0, 1) := by decide +kernel
theorem dX12_readsUnsigned_8 : decode cX12_readsUnsigned 8 = .ok (.istore 4, 2) := by decide +kernel
theorem dX12_readsUnsigned_10 : decode cX12_readsUnsigned 10 = .ok (.iload 4, 2) := by decide +kernel
theorem dX12_readsUnsigned_12 : decode cX12_readsUnsigned 12 = .ok (.iconst 5, 1) := by decide +kernel
theorem dX12_readsUnsigned_13 : decode cX12_readsUnsigned 13 = .ok (.if_icmp .ge 105, 3) := by decide +kernel
theorem dX12_readsUnsigned_16 : decode cX12_readsUnsigned 16 = .ok (.aload_n 0, 1) := by decide +kernel
theorem dX12_readsUnsigned_17 : decode cX12_readsUnsigned 17 = .ok (.aload_n 0, 1) := by decide +kernel
theorem dX12_readsUnsigned_18 : decode cX12_readsUnsigned 18 = .ok (.getfield 104, 3) := by decide +kernel
theorem dX12_readsUnsigned_21 : decode cX12_readsUnsigned 21 = .ok (.invokevirtual 107, 3) := by decide +kernel
theorem dX12_readsUnsigned_24 : decode cX12_readsUnsigned 24 = .ok (.istore 5, 2) := by decide +kernel
theorem dX12_readsUnsigned_26 : decode cX12_readsUnsigned 26 = .ok (.iload 5, 2) := by decide +kernel
theorem dX12_readsUnsigned_28 : decode cX12_readsUnsigned 28 = .ok (.ifCond .ge 13, 3) := by decide +kernel
theorem dX12_readsUnsigned_31 : decode cX12_readsUnsigned 31 = .ok (.aload_n 0, 1) := by decide +kernel
theorem dX12_readsUnsigned_32 : decode cX12_readsUnsigned 32 = .ok (.iconst 1, 1) := by decide +kernel
theorem dX12_readsUnsigned_33 : decode cX12_readsUnsigned 33 = .ok (.aload_n 0, 1) := by decide +kernel
theorem dX12_readsUnsigned_34 : decode cX12_readsUnsigned 34 = .ok (.getfield 24, 3) := by decide +kernel
theorem dX12_readsUnsigned_37 : decode cX12_readsUnsigned 37 = .ok (.invokevirtual 111, 3) := by decide +kernel
theorem dX12_readsUnsigned_40 : decode cX12_readsUnsigned 40 = .ok (.ireturn, 1) := by decide +kernel
theorem dX12_readsUnsigned_41 : decode cX12_readsUnsigned 41 = .ok (.lload_n 2, 1) := by decide +kernel
theorem dX12_readsUnsigned_42 : decode cX12_readsUnsigned 42 = .ok (.iload 5, 2) := by decide +kernel
theorem dX12_readsUnsigned_44 : decode cX12_readsUnsigned 44 = .ok (.bipush 127, 2) := by decide +kernel
theorem dX12_readsUnsigned_46 : decode cX12_readsUnsigned 46 = .ok (.iand, 1) := by decide +kernel
theorem dX12_readsUnsigned_47 : decode cX12_readsUnsigned 47 = .ok (.i2l, 1) := by decide +kernel
theorem dX12_readsUnsigned_48 : decode cX12_readsUnsigned 48 = .ok (.bipush 7, 2) := by decide +kernel
theorem dX12_readsUnsigned_50 : decode cX12_readsUnsigned 50 = .ok (.iload 4, 2) := by decide +kernel
theorem dX12_readsUnsigned_52 : decode cX12_readsUnsigned 52 = .ok (.imul, 1) := by decide +kernel
theorem dX12_readsUnsigned_53 : decode cX12_readsUnsigned 53 = .ok (.lshl, 1) := by decide +kernel
theorem dX12_readsUnsigned_54 : decode cX12_readsUnsigned 54 = .ok (.lor, 1) := by decide +kernel
theorem dX12_readsUnsigned_55 : decode cX12_readsUnsigned 55 = .ok (.lstore_n 2, 1) := by decide +kernel
theorem dX12_readsUnsigned_56 : decode cX12_readsUnsigned 56 = .ok (.aload_n 0, 1) := by decide +kernel
theorem dX12_readsUnsigned_57 : decode cX12_readsUnsigned 57 = .ok (.dup, 1) := by decide +kernel
theorem dX12_readsUnsigned_58 : decode cX12_readsUnsigned 58 = .ok (.getfield 104, 3) := by decide +kernel
theorem dX12_readsUnsigned_61 : decode cX12_readsUnsigned 61 = .ok (.iconst 1, 1) := by decide +kernel
theorem dX12_readsUnsigned_62 : decode cX12_readsUnsigned 62 = .ok (.iadd, 1) := by decide +kernel
theorem dX12_readsUnsigned_63 : decode cX12_readsUnsigned 63 = .ok (.putfield 104, 3) := by decide +kernel
theorem dX12_readsUnsigned_66 : decode cX12_readsUnsigned 66 = .ok (.iload 5, 2) := by decide +kernel
theorem dX12_readsUnsigned_68 : decode cX12_readsUnsigned 68 = .ok (.sipush 128, 3) := by decide +kernel
theorem dX12_readsUnsigned_71 : decode cX12_readsUnsigned 71 = .ok (.if_icmp .ge 41, 3) := by decide +kernel
theorem dX12_readsUnsigned_74 : decode cX12_readsUnsigned 74 = .ok (.aload_n 0, 1) := by decide +kernel
theorem dX12_readsUnsigned_75 : decode cX12_readsUnsigned 75 = .ok (.lload_n 2, 1) := by decide +kernel
theorem dX12_readsUnsigned_76 : decode cX12_readsUnsigned 76 = .ok (.putfield 114, 3) := by decide +kernel
theorem dX12_readsUnsigned_79 : decode cX12_readsUnsigned 79 = .ok (.lload_n 2, 1) := by decide +kernel
theorem dX12_readsUnsigned_80 : decode cX12_readsUnsigned 80 = .ok (.ldc2_w 118, 3) := by decide +kernel
theorem dX12_readsUnsigned_83 : decode cX12_readsUnsigned 83 = .ok (.lcmp, 1) := by decide +kernel
theorem dX12_readsUnsigned_84 : decode cX12_readsUnsigned 84 = .ok (.ifCond .gt 13, 3) := by decide +kernel
theorem dX12_readsUnsigned_87 : decode cX12_readsUnsigned 87 = .ok (.iload 5, 2) := by decide +kernel
theorem dX12_readsUnsigned_89 : decode cX12_readsUnsigned 89 = .ok (.ifCond .gt 17, 3) := by decide +kernel
theorem dX12_readsUnsigned_92 : decode cX12_readsUnsigned 92 = .ok (.iload 4, 2) := by decide +kernel
theorem dX12_readsUnsigned_94 : decode cX12_readsUnsigned 94 = .ok (.ifCond .eq 12, 3) := by decide +kernel
theorem dX12_readsUnsigned_97 : decode cX12_readsUnsigned 97 = .ok (.aload_n 0, 1) := by decide +kernel
theorem dX12_readsUnsigned_98 : decode cX12_readsUnsigned 98 = .ok (.iconst 3, 1) := by decide +kernel
theorem dX12_readsUnsigned_99 : decode cX12_readsUnsigned 99 = .ok (.iload_n 1, 1) := by decide +kernel
theorem dX12_readsUnsigned_100 : decode cX12_readsUnsigned 100 = .ok (.invokevirtual 111, 3) := by decide +kernel
theorem dX12_readsUnsigned_103 : decode cX12_readsUnsigned 103 = .ok (.ifCond .eq 7, 3) := by decide +kernel
theorem dX12_readsUnsigned_106 : decode cX12_readsUnsigned 106 = .ok (.iconst 1, 1) := by decide +kernel
theorem dX12_readsUnsigned_107 : decode cX12_readsUnsigned 107 = .ok (.goto 4, 3) := by decide +kernel
theorem dX12_readsUnsigned_110 : decode cX12_readsUnsigned 110 = .ok (.iconst 0, 1) := by decide +kernel
theorem dX12_readsUnsigned_111 : decode cX12_readsUnsigned 111 = .ok (.ireturn, 1) := by decide +kernel
theorem dX12_readsUnsigned_112 : decode cX12_readsUnsigned 112 = .ok (.iinc 4 1, 3) := by decide +kernel
theorem dX12_readsUnsigned_115 : decode cX12_readsUnsigned 115 = .ok (.goto (-105), 3) := by decide +kernel
theorem dX12_readsUnsigned_118 : decode cX12_readsUnsigned 118 = .ok (.aload_n 0, 1) := by decide +kernel
theorem dX12_readsUnsigned_119 : decode cX12_readsUnsigned 119 = .ok (.iconst 3, 1) := by decide +kernel
theorem dX12_readsUnsigned_120 : decode cX12_readsUnsigned 120 = .ok (.iload_n 1, 1) := by decide +kernel
theorem dX12_readsUnsigned_121 : decode cX12_readsUnsigned 121 = .ok (.invokevirtual 111, 3) := by decide +kernel
theorem dX12_readsUnsigned_124 : decode cX12_readsUnsigned 124 = .ok (.ireturn, 1) := by decide +kernel
theorem dX12_readsCount_0 : decode cX12_readsCount 0 = .ok (.aload_n 0, 1) := by decide +kernel
theorem dX12_readsCount_1 : decode cX12_readsCount 1 = .ok (.aload_n 0, 1) := by decide +kernel
theorem dX12_readsCount_2 : decode cX12_readsCount 2 = .ok (.getfield 104, 3) := by decide +kernel
theorem dX12_readsCount_5 : decode cX12_readsCount 5 = .ok (.invokevirtual 107, 3) := by decide +kernel
theorem dX12_readsCount_8 : decode cX12_readsCount 8 = .ok (.istore_n 3, 1) := by decide +kernel
theorem dX12_readsCount_9 : decode cX12_readsCount 9 = .ok (.iload_n 3, 1) := by decide +kernel
theorem dX12_readsCount_10 : decode cX12_readsCount 10 = .ok (.ifCond .ge 13, 3) := by decide +kernel
theorem dX12_readsCount_13 : decode cX12_readsCount 13 = .ok (.aload_n 0, 1) := by decide +kernel
theorem dX12_readsCount_14 : decode cX12_readsCount 14 = .ok (.iconst 1, 1) := by decide +kernel
theorem dX12_readsCount_15 : decode cX12_readsCount 15 = .ok (.aload_n 0, 1) := by decide +kernel
theorem dX12_readsCount_16 : decode cX12_readsCount 16 = .ok (.getfield 24, 3) := by decide +kernel
theorem dX12_readsCount_19 : decode cX12_readsCount 19 = .ok (.invokevirtual 111, 3) := by decide +kernel
theorem dX12_readsCount_22 : decode cX12_readsCount 22 = .ok (.ireturn, 1) := by decide +kernel
theorem dX12_readsCount_23 : decode cX12_readsCount 23 = .ok (.iload_n 3, 1) := by decide +kernel
theorem dX12_readsCount_24 : decode cX12_readsCount 24 = .ok (.iload_n 1, 1) := by decide +kernel
theorem dX12_readsCount_25 : decode cX12_readsCount 25 = .ok (.if_icmp .lt 8, 3) := by decide +kernel
theorem dX12_readsCount_28 : decode cX12_readsCount 28 = .ok (.iload_n 3, 1) := by decide +kernel
theorem dX12_readsCount_29 : decode cX12_readsCount 29 = .ok (.iload_n 2, 1) := by decide +kernel
theorem dX12_readsCount_30 : decode cX12_readsCount 30 = .ok (.if_icmp .le 13, 3) := by decide +kernel
theorem dX12_readsCount_33 : decode cX12_readsCount 33 = .ok (.aload_n 0, 1) := by decide +kernel
theorem dX12_readsCount_34 : decode cX12_readsCount 34 = .ok (.iconst 2, 1) := by decide +kernel
theorem dX12_readsCount_35 : decode cX12_readsCount 35 = .ok (.aload_n 0, 1) := by decide +kernel
theorem dX12_readsCount_36 : decode cX12_readsCount 36 = .ok (.getfield 104, 3) := by decide +kernel
theorem dX12_readsCount_39 : decode cX12_readsCount 39 = .ok (.invokevirtual 111, 3) := by decide +kernel
theorem dX12_readsCount_42 : decode cX12_readsCount 42 = .ok (.ireturn, 1) := by decide +kernel
theorem dX12_readsCount_43 : decode cX12_readsCount 43 = .ok (.aload_n 0, 1) := by decide +kernel
theorem dX12_readsCount_44 : decode cX12_readsCount 44 = .ok (.iload_n 3, 1) := by decide +kernel
theorem dX12_readsCount_45 : decode cX12_readsCount 45 = .ok (.putfield 120, 3) := by decide +kernel
theorem dX12_readsCount_48 : decode cX12_readsCount 48 = .ok (.aload_n 0, 1) := by decide +kernel
theorem dX12_readsCount_49 : decode cX12_readsCount 49 = .ok (.dup, 1) := by decide +kernel
theorem dX12_readsCount_50 : decode cX12_readsCount 50 = .ok (.getfield 104, 3) := by decide +kernel
theorem dX12_readsCount_53 : decode cX12_readsCount 53 = .ok (.iconst 1, 1) := by decide +kernel
theorem dX12_readsCount_54 : decode cX12_readsCount 54 = .ok (.iadd, 1) := by decide +kernel
theorem dX12_readsCount_55 : decode cX12_readsCount 55 = .ok (.putfield 104, 3) := by decide +kernel
theorem dX12_readsCount_58 : decode cX12_readsCount 58 = .ok (.iconst 1, 1) := by decide +kernel
theorem dX12_readsCount_59 : decode cX12_readsCount 59 = .ok (.ireturn, 1) := by decide +kernel
theorem dX12_readsLetters_0 : decode cX12_readsLetters 0 = .ok (.aload_n 0, 1) := by decide +kernel
theorem dX12_readsLetters_1 : decode cX12_readsLetters 1 = .ok (.lconst 0, 1) := by decide +kernel
theorem dX12_readsLetters_2 : decode cX12_readsLetters 2 = .ok (.putfield 123, 3) := by decide +kernel
theorem dX12_readsLetters_5 : decode cX12_readsLetters 5 = .ok (.aload_n 0, 1) := by decide +kernel
theorem dX12_readsLetters_6 : decode cX12_readsLetters 6 = .ok (.lconst 0, 1) := by decide +kernel
theorem dX12_readsLetters_7 : decode cX12_readsLetters 7 = .ok (.putfield 126, 3) := by decide +kernel
theorem dX12_readsLetters_10 : decode cX12_readsLetters 10 = .ok (.iconst 0, 1) := by decide +kernel
theorem dX12_readsLetters_11 : decode cX12_readsLetters 11 = .ok (.istore_n 2, 1) := by decide +kernel
theorem dX12_readsLetters_12 : decode cX12_readsLetters 12 = .ok (.iload_n 2, 1) := by decide +kernel
theorem dX12_readsLetters_13 : decode cX12_readsLetters 13 = .ok (.iload_n 1, 1) := by decide +kernel
theorem dX12_readsLetters_14 : decode cX12_readsLetters 14 = .ok (.if_icmp .ge 114, 3) := by decide +kernel
theorem dX12_readsLetters_17 : decode cX12_readsLetters 17 = .ok (.aload_n 0, 1) := by decide +kernel
theorem dX12_readsLetters_18 : decode cX12_readsLetters 18 = .ok (.aload_n 0, 1) := by decide +kernel
theorem dX12_readsLetters_19 : decode cX12_readsLetters 19 = .ok (.getfield 104, 3) := by decide +kernel
theorem dX12_readsLetters_22 : decode cX12_readsLetters 22 = .ok (.invokevirtual 107, 3) := by decide +kernel
theorem dX12_readsLetters_25 : decode cX12_readsLetters 25 = .ok (.istore_n 3, 1) := by decide +kernel
theorem dX12_readsLetters_26 : decode cX12_readsLetters 26 = .ok (.iload_n 3, 1) := by decide +kernel
theorem dX12_readsLetters_27 : decode cX12_readsLetters 27 = .ok (.ifCond .ge 13, 3) := by decide +kernel
theorem dX12_readsLetters_30 : decode cX12_readsLetters 30 = .ok (.aload_n 0, 1) := by decide +kernel
theorem dX12_readsLetters_31 : decode cX12_readsLetters 31 = .ok (.iconst 1, 1) := by decide +kernel
theorem dX12_readsLetters_32 : decode cX12_readsLetters 32 = .ok (.aload_n 0, 1) := by decide +kernel
theorem dX12_readsLetters_33 : decode cX12_readsLetters 33 = .ok (.getfield 24, 3) := by decide +kernel
theorem dX12_readsLetters_36 : decode cX12_readsLetters 36 = .ok (.invokevirtual 111, 3) := by decide +kernel
theorem dX12_readsLetters_39 : decode cX12_readsLetters 39 = .ok (.ireturn, 1) := by decide +kernel
theorem dX12_readsLetters_40 : decode cX12_readsLetters 40 = .ok (.iload_n 3, 1) := by decide +kernel
theorem dX12_readsLetters_41 : decode cX12_readsLetters 41 = .ok (.bipush 97, 2) := by decide +kernel
theorem dX12_readsLetters_43 : decode cX12_readsLetters 43 = .ok (.if_icmp .lt 9, 3) := by decide +kernel
theorem dX12_readsLetters_46 : decode cX12_readsLetters 46 = .ok (.iload_n 3, 1) := by decide +kernel
theorem dX12_readsLetters_47 : decode cX12_readsLetters 47 = .ok (.bipush 122, 2) := by decide +kernel
theorem dX12_readsLetters_49 : decode cX12_readsLetters 49 = .ok (.if_icmp .le 13, 3) := by decide +kernel
theorem dX12_readsLetters_52 : decode cX12_readsLetters 52 = .ok (.aload_n 0, 1) := by decide +kernel
theorem dX12_readsLetters_53 : decode cX12_readsLetters 53 = .ok (.iconst 2, 1) := by decide +kernel
theorem dX12_readsLetters_54 : decode cX12_readsLetters 54 = .ok (.aload_n 0, 1) := by decide +kernel
theorem dX12_readsLetters_55 : decode cX12_readsLetters 55 = .ok (.getfield 104, 3) := by decide +kernel
theorem dX12_readsLetters_58 : decode cX12_readsLetters 58 = .ok (.invokevirtual 111, 3) := by decide +kernel
theorem dX12_readsLetters_61 : decode cX12_readsLetters 61 = .ok (.ireturn, 1) := by decide +kernel
theorem dX12_readsLetters_62 : decode cX12_readsLetters 62 = .ok (.iload_n 2, 1) := by decide +kernel
theorem dX12_readsLetters_63 : decode cX12_readsLetters 63 = .ok (.bipush 8, 2) := by decide +kernel
theorem dX12_readsLetters_65 : decode cX12_readsLetters 65 = .ok (.if_icmp .ge 25, 3) := by decide +kernel
theorem dX12_readsLetters_68 : decode cX12_readsLetters 68 = .ok (.aload_n 0, 1) := by decide +kernel
theorem dX12_readsLetters_69 : decode cX12_readsLetters 69 = .ok (.dup, 1) := by decide +kernel
theorem dX12_readsLetters_70 : decode cX12_readsLetters 70 = .ok (.getfield 123, 3) := by decide +kernel
theorem dX12_readsLetters_73 : decode cX12_readsLetters 73 = .ok (.iload_n 3, 1) := by decide +kernel
theorem dX12_readsLetters_74 : decode cX12_readsLetters 74 = .ok (.i2l, 1) := by decide +kernel
theorem dX12_readsLetters_75 : decode cX12_readsLetters 75 = .ok (.bipush 56, 2) := by decide +kernel
theorem dX12_readsLetters_77 : decode cX12_readsLetters 77 = .ok (.bipush 8, 2) := by decide +kernel
theorem dX12_readsLetters_79 : decode cX12_readsLetters 79 = .ok (.iload_n 2, 1) := by decide +kernel
theorem dX12_readsLetters_80 : decode cX12_readsLetters 80 = .ok (.imul, 1) := by decide +kernel
theorem dX12_readsLetters_81 : decode cX12_readsLetters 81 = .ok (.isub, 1) := by decide +kernel
theorem dX12_readsLetters_82 : decode cX12_readsLetters 82 = .ok (.lshl, 1) := by decide +kernel
theorem dX12_readsLetters_83 : decode cX12_readsLetters 83 = .ok (.lor, 1) := by decide +kernel
theorem dX12_readsLetters_84 : decode cX12_readsLetters 84 = .ok (.putfield 123, 3) := by decide +kernel
theorem dX12_readsLetters_87 : decode cX12_readsLetters 87 = .ok (.goto 25, 3) := by decide +kernel
theorem dX12_readsLetters_90 : decode cX12_readsLetters 90 = .ok (.aload_n 0, 1) := by decide +kernel
theorem dX12_readsLetters_91 : decode cX12_readsLetters 91 = .ok (.dup, 1) := by decide +kernel
theorem dX12_readsLetters_92 : decode cX12_readsLetters 92 = .ok (.getfield 126, 3) := by decide +kernel
theorem dX12_readsLetters_95 : decode cX12_readsLetters 95 = .ok (.iload_n 3, 1) := by decide +kernel
theorem dX12_readsLetters_96 : decode cX12_readsLetters 96 = .ok (.i2l, 1) := by decide +kernel
theorem dX12_readsLetters_97 : decode cX12_readsLetters 97 = .ok (.bipush 56, 2) := by decide +kernel
theorem dX12_readsLetters_99 : decode cX12_readsLetters 99 = .ok (.bipush 8, 2) := by decide +kernel
theorem dX12_readsLetters_101 : decode cX12_readsLetters 101 = .ok (.iload_n 2, 1) := by decide +kernel
theorem dX12_readsLetters_102 : decode cX12_readsLetters 102 = .ok (.bipush 8, 2) := by decide +kernel
theorem dX12_readsLetters_104 : decode cX12_readsLetters 104 = .ok (.isub, 1) := by decide +kernel
theorem dX12_readsLetters_105 : decode cX12_readsLetters 105 = .ok (.imul, 1) := by decide +kernel
theorem dX12_readsLetters_106 : decode cX12_readsLetters 106 = .ok (.isub, 1) := by decide +kernel
theorem dX12_readsLetters_107 : decode cX12_readsLetters 107 = .ok (.lshl, 1) := by decide +kernel
theorem dX12_readsLetters_108 : decode cX12_readsLetters 108 = .ok (.lor, 1) := by decide +kernel
theorem dX12_readsLetters_109 : decode cX12_readsLetters 109 = .ok (.putfield 126, 3) := by decide +kernel
theorem dX12_readsLetters_112 : decode cX12_readsLetters 112 = .ok (.aload_n 0, 1) := by decide +kernel
theorem dX12_readsLetters_113 : decode cX12_readsLetters 113 = .ok (.dup, 1) := by decide +kernel
theorem dX12_readsLetters_114 : decode cX12_readsLetters 114 = .ok (.getfield 104, 3) := by decide +kernel
theorem dX12_readsLetters_117 : decode cX12_readsLetters 117 = .ok (.iconst 1, 1) := by decide +kernel
theorem dX12_readsLetters_118 : decode cX12_readsLetters 118 = .ok (.iadd, 1) := by decide +kernel
theorem dX12_readsLetters_119 : decode cX12_readsLetters 119 = .ok (.putfield 104, 3) := by decide +kernel
theorem dX12_readsLetters_122 : decode cX12_readsLetters 122 = .ok (.iinc 2 1, 3) := by decide +kernel
theorem dX12_readsLetters_125 : decode cX12_readsLetters 125 = .ok (.goto (-113), 3) := by decide +kernel
theorem dX12_readsLetters_128 : decode cX12_readsLetters 128 = .ok (.iconst 1, 1) := by decide +kernel
theorem dX12_readsLetters_129 : decode cX12_readsLetters 129 = .ok (.ireturn, 1) := by decide +kernel
theorem dX12_readsRecord_0 : decode cX12_readsRecord 0 = .ok (.aload_n 0, 1) := by decide +kernel
theorem dX12_readsRecord_1 : decode cX12_readsRecord 1 = .ok (.getfield 104, 3) := by decide +kernel
theorem dX12_readsRecord_4 : decode cX12_readsRecord 4 = .ok (.istore_n 2, 1) := by decide +kernel
theorem dX12_readsRecord_5 : decode cX12_readsRecord 5 = .ok (.aload_n 0, 1) := by decide +kernel
theorem dX12_readsRecord_6 : decode cX12_readsRecord 6 = .ok (.aload_n 0, 1) := by decide +kernel
theorem dX12_readsRecord_7 : decode cX12_readsRecord 7 = .ok (.getfield 104, 3) := by decide +kernel
theorem dX12_readsRecord_10 : decode cX12_readsRecord 10 = .ok (.invokevirtual 107, 3) := by decide +kernel
theorem dX12_readsRecord_13 : decode cX12_readsRecord 13 = .ok (.sipush 229, 3) := by decide +kernel
theorem dX12_readsRecord_16 : decode cX12_readsRecord 16 = .ok (.if_icmp .eq 13, 3) := by decide +kernel
theorem dX12_readsRecord_19 : decode cX12_readsRecord 19 = .ok (.aload_n 0, 1) := by decide +kernel
theorem dX12_readsRecord_20 : decode cX12_readsRecord 20 = .ok (.iconst 2, 1) := by decide +kernel
theorem dX12_readsRecord_21 : decode cX12_readsRecord 21 = .ok (.aload_n 0, 1) := by decide +kernel
theorem dX12_readsRecord_22 : decode cX12_readsRecord 22 = .ok (.getfield 104, 3) := by decide +kernel
theorem dX12_readsRecord_25 : decode cX12_readsRecord 25 = .ok (.invokevirtual 111, 3) := by decide +kernel
theorem dX12_readsRecord_28 : decode cX12_readsRecord 28 = .ok (.ireturn, 1) := by decide +kernel
theorem dX12_readsRecord_29 : decode cX12_readsRecord 29 = .ok (.aload_n 0, 1) := by decide +kernel
theorem dX12_readsRecord_30 : decode cX12_readsRecord 30 = .ok (.dup, 1) := by decide +kernel
theorem dX12_readsRecord_31 : decode cX12_readsRecord 31 = .ok (.getfield 104, 3) := by decide +kernel
theorem dX12_readsRecord_34 : decode cX12_readsRecord 34 = .ok (.iconst 1, 1) := by decide +kernel
theorem dX12_readsRecord_35 : decode cX12_readsRecord 35 = .ok (.iadd, 1) := by decide +kernel
theorem dX12_readsRecord_36 : decode cX12_readsRecord 36 = .ok (.putfield 104, 3) := by decide +kernel
theorem dX12_readsRecord_39 : decode cX12_readsRecord 39 = .ok (.aload_n 0, 1) := by decide +kernel
theorem dX12_readsRecord_40 : decode cX12_readsRecord 40 = .ok (.getfield 104, 3) := by decide +kernel
theorem dX12_readsRecord_43 : decode cX12_readsRecord 43 = .ok (.istore_n 3, 1) := by decide +kernel
theorem dX12_readsRecord_44 : decode cX12_readsRecord 44 = .ok (.aload_n 0, 1) := by decide +kernel
theorem dX12_readsRecord_45 : decode cX12_readsRecord 45 = .ok (.invokevirtual 129, 3) := by decide +kernel
theorem dX12_readsRecord_48 : decode cX12_readsRecord 48 = .ok (.ifCond .ne 5, 3) := by decide +kernel
theorem dX12_readsRecord_51 : decode cX12_readsRecord 51 = .ok (.iconst 0, 1) := by decide +kernel
theorem dX12_readsRecord_52 : decode cX12_readsRecord 52 = .ok (.ireturn, 1) := by decide +kernel
theorem dX12_readsRecord_53 : decode cX12_readsRecord 53 = .ok (.aload_n 0, 1) := by decide +kernel
theorem dX12_readsRecord_54 : decode cX12_readsRecord 54 = .ok (.getfield 67, 3) := by decide +kernel
theorem dX12_readsRecord_57 : decode cX12_readsRecord 57 = .ok (.i2l, 1) := by decide +kernel
theorem dX12_readsRecord_58 : decode cX12_readsRecord 58 = .ok (.aload_n 0, 1) := by decide +kernel
theorem dX12_readsRecord_59 : decode cX12_readsRecord 59 = .ok (.getfield 114, 3) := by decide +kernel
theorem dX12_readsRecord_62 : decode cX12_readsRecord 62 = .ok (.ladd, 1) := by decide +kernel
theorem dX12_readsRecord_63 : decode cX12_readsRecord 63 = .ok (.lstore 4, 2) := by decide +kernel
theorem dX12_readsRecord_65 : decode cX12_readsRecord 65 = .ok (.lload 4, 2) := by decide +kernel
theorem dX12_readsRecord_67 : decode cX12_readsRecord 67 = .ok (.ldc2_w 133, 3) := by decide +kernel
theorem dX12_readsRecord_70 : decode cX12_readsRecord 70 = .ok (.lcmp, 1) := by decide +kernel
theorem dX12_readsRecord_71 : decode cX12_readsRecord 71 = .ok (.ifCond .gt 14, 3) := by decide +kernel
theorem dX12_readsRecord_74 : decode cX12_readsRecord 74 = .ok (.lload 4, 2) := by decide +kernel
theorem dX12_readsRecord_76 : decode cX12_readsRecord 76 = .ok (.aload_n 0, 1) := by decide +kernel
theorem dX12_readsRecord_77 : decode cX12_readsRecord 77 = .ok (.getfield 64, 3) := by decide +kernel
theorem dX12_readsRecord_80 : decode cX12_readsRecord 80 = .ok (.i2l, 1) := by decide +kernel
theorem dX12_readsRecord_81 : decode cX12_readsRecord 81 = .ok (.lcmp, 1) := by decide +kernel
theorem dX12_readsRecord_82 : decode cX12_readsRecord 82 = .ok (.ifCond .ge 10, 3) := by decide +kernel
theorem dX12_readsRecord_85 : decode cX12_readsRecord 85 = .ok (.aload_n 0, 1) := by decide +kernel
theorem dX12_readsRecord_86 : decode cX12_readsRecord 86 = .ok (.iconst 3, 1) := by decide +kernel
theorem dX12_readsRecord_87 : decode cX12_readsRecord 87 = .ok (.iload_n 3, 1) := by decide +kernel
theorem dX12_readsRecord_88 : decode cX12_readsRecord 88 = .ok (.invokevirtual 111, 3) := by decide +kernel
theorem dX12_readsRecord_91 : decode cX12_readsRecord 91 = .ok (.ireturn, 1) := by decide +kernel
theorem dX12_readsRecord_92 : decode cX12_readsRecord 92 = .ok (.aload_n 0, 1) := by decide +kernel
theorem dX12_readsRecord_93 : decode cX12_readsRecord 93 = .ok (.lload 4, 2) := by decide +kernel
theorem dX12_readsRecord_95 : decode cX12_readsRecord 95 = .ok (.l2i, 1) := by decide +kernel
theorem dX12_readsRecord_96 : decode cX12_readsRecord 96 = .ok (.putfield 135, 3) := by decide +kernel
theorem dX12_readsRecord_99 : decode cX12_readsRecord 99 = .ok (.aload_n 0, 1) := by decide +kernel
theorem dX12_readsRecord_100 : decode cX12_readsRecord 100 = .ok (.iconst 1, 1) := by decide +kernel
theorem dX12_readsRecord_101 : decode cX12_readsRecord 101 = .ok (.bipush 12, 2) := by decide +kernel
theorem dX12_readsRecord_103 : decode cX12_readsRecord 103 = .ok (.invokevirtual 138, 3) := by decide +kernel
theorem dX12_readsRecord_106 : decode cX12_readsRecord 106 = .ok (.ifCond .eq 14, 3) := by decide +kernel
theorem dX12_readsRecord_109 : decode cX12_readsRecord 109 = .ok (.aload_n 0, 1) := by decide +kernel
theorem dX12_readsRecord_110 : decode cX12_readsRecord 110 = .ok (.aload_n 0, 1) := by decide +kernel
theorem dX12_readsRecord_111 : decode cX12_readsRecord 111 = .ok (.getfield 120, 3) := by decide +kernel
theorem dX12_readsRecord_114 : decode cX12_readsRecord 114 = .ok (.invokevirtual 141, 3) := by decide +kernel
theorem dX12_readsRecord_117 : decode cX12_readsRecord 117 = .ok (.ifCond .ne 5, 3) := by decide +kernel
theorem dX12_readsRecord_120 : decode cX12_readsRecord 120 = .ok (.iconst 0, 1) := by decide +kernel
theorem dX12_readsRecord_121 : decode cX12_readsRecord 121 = .ok (.ireturn, 1) := by decide +kernel
theorem dX12_readsRecord_122 : decode cX12_readsRecord 122 = .ok (.aload_n 0, 1) := by decide +kernel
theorem dX12_readsRecord_123 : decode cX12_readsRecord 123 = .ok (.getfield 145, 3) := by decide +kernel
theorem dX12_readsRecord_126 : decode cX12_readsRecord 126 = .ok (.iload_n 1, 1) := by decide +kernel
theorem dX12_readsRecord_127 : decode cX12_readsRecord 127 = .ok (.aload_n 0, 1) := by decide +kernel
theorem dX12_readsRecord_128 : decode cX12_readsRecord 128 = .ok (.getfield 123, 3) := by decide +kernel
theorem dX12_readsRecord_131 : decode cX12_readsRecord 131 = .ok (.lastore, 1) := by decide +kernel
theorem dX12_readsRecord_132 : decode cX12_readsRecord 132 = .ok (.aload_n 0, 1) := by decide +kernel
theorem dX12_readsRecord_133 : decode cX12_readsRecord 133 = .ok (.getfield 148, 3) := by decide +kernel
theorem dX12_readsRecord_136 : decode cX12_readsRecord 136 = .ok (.iload_n 1, 1) := by decide +kernel
theorem dX12_readsRecord_137 : decode cX12_readsRecord 137 = .ok (.aload_n 0, 1) := by decide +kernel
theorem dX12_readsRecord_138 : decode cX12_readsRecord 138 = .ok (.getfield 126, 3) := by decide +kernel
theorem dX12_readsRecord_141 : decode cX12_readsRecord 141 = .ok (.lastore, 1) := by decide +kernel
theorem dX12_readsRecord_142 : decode cX12_readsRecord 142 = .ok (.aload_n 0, 1) := by decide +kernel
theorem dX12_readsRecord_143 : decode cX12_readsRecord 143 = .ok (.iconst 0, 1) := by decide +kernel
theorem dX12_readsRecord_144 : decode cX12_readsRecord 144 = .ok (.bipush 8, 2) := by decide +kernel
theorem dX12_readsRecord_146 : decode cX12_readsRecord 146 = .ok (.invokevirtual 138, 3) := by decide +kernel
theorem dX12_readsRecord_149 : decode cX12_readsRecord 149 = .ok (.ifCond .ne 5, 3) := by decide +kernel
theorem dX12_readsRecord_152 : decode cX12_readsRecord 152 = .ok (.iconst 0, 1) := by decide +kernel
theorem dX12_readsRecord_153 : decode cX12_readsRecord 153 = .ok (.ireturn, 1) := by decide +kernel
theorem dX12_readsRecord_154 : decode cX12_readsRecord 154 = .ok (.aload_n 0, 1) := by decide +kernel
theorem dX12_readsRecord_155 : decode cX12_readsRecord 155 = .ok (.getfield 97, 3) := by decide +kernel
theorem dX12_readsRecord_158 : decode cX12_readsRecord 158 = .ok (.iload_n 1, 1) := by decide +kernel
theorem dX12_readsRecord_159 : decode cX12_readsRecord 159 = .ok (.aload_n 0, 1) := by decide +kernel
theorem dX12_readsRecord_160 : decode cX12_readsRecord 160 = .ok (.getfield 120, 3) := by decide +kernel
theorem dX12_readsRecord_163 : decode cX12_readsRecord 163 = .ok (.iastore, 1) := by decide +kernel
theorem dX12_readsRecord_164 : decode cX12_readsRecord 164 = .ok (.aload_n 0, 1) := by decide +kernel
theorem dX12_readsRecord_165 : decode cX12_readsRecord 165 = .ok (.getfield 61, 3) := by decide +kernel
theorem dX12_readsRecord_168 : decode cX12_readsRecord 168 = .ok (.istore 6, 2) := by decide +kernel
theorem dX12_readsRecord_170 : decode cX12_readsRecord 170 = .ok (.iconst 0, 1) := by decide +kernel
theorem dX12_readsRecord_171 : decode cX12_readsRecord 171 = .ok (.istore 7, 2) := by decide +kernel
theorem dX12_readsRecord_173 : decode cX12_readsRecord 173 = .ok (.iload 7, 2) := by decide +kernel
theorem dX12_readsRecord_175 : decode cX12_readsRecord 175 = .ok (.aload_n 0, 1) := by decide +kernel
theorem dX12_readsRecord_176 : decode cX12_readsRecord 176 = .ok (.getfield 97, 3) := by decide +kernel
theorem dX12_readsRecord_179 : decode cX12_readsRecord 179 = .ok (.iload_n 1, 1) := by decide +kernel
theorem dX12_readsRecord_180 : decode cX12_readsRecord 180 = .ok (.iaload, 1) := by decide +kernel
theorem dX12_readsRecord_181 : decode cX12_readsRecord 181 = .ok (.if_icmp .ge 33, 3) := by decide +kernel
theorem dX12_readsRecord_184 : decode cX12_readsRecord 184 = .ok (.aload_n 0, 1) := by decide +kernel
theorem dX12_readsRecord_185 : decode cX12_readsRecord 185 = .ok (.bipush 8, 2) := by decide +kernel
theorem dX12_readsRecord_187 : decode cX12_readsRecord 187 = .ok (.iload_n 1, 1) := by decide +kernel
theorem dX12_readsRecord_188 : decode cX12_readsRecord 188 = .ok (.imul, 1) := by decide +kernel
theorem dX12_readsRecord_189 : decode cX12_readsRecord 189 = .ok (.iload 7, 2) := by decide +kernel
theorem dX12_readsRecord_191 : decode cX12_readsRecord 191 = .ok (.iadd, 1) := by decide +kernel
theorem dX12_readsRecord_192 : decode cX12_readsRecord 192 = .ok (.iload 7, 2) := by decide +kernel
theorem dX12_readsRecord_194 : decode cX12_readsRecord 194 = .ok (.invokevirtual 151, 3) := by decide +kernel
theorem dX12_readsRecord_197 : decode cX12_readsRecord 197 = .ok (.ifCond .ne 11, 3) := by decide +kernel
theorem dX12_readsRecord_200 : decode cX12_readsRecord 200 = .ok (.aload_n 0, 1) := by decide +kernel
theorem dX12_readsRecord_201 : decode cX12_readsRecord 201 = .ok (.iload 6, 2) := by decide +kernel
theorem dX12_readsRecord_203 : decode cX12_readsRecord 203 = .ok (.putfield 61, 3) := by decide +kernel
theorem dX12_readsRecord_206 : decode cX12_readsRecord 206 = .ok (.iconst 0, 1) := by decide +kernel
theorem dX12_readsRecord_207 : decode cX12_readsRecord 207 = .ok (.ireturn, 1) := by decide +kernel
theorem dX12_readsRecord_208 : decode cX12_readsRecord 208 = .ok (.iinc 7 1, 3) := by decide +kernel
theorem dX12_readsRecord_211 : decode cX12_readsRecord 211 = .ok (.goto (-38), 3) := by decide +kernel
theorem dX12_readsRecord_214 : decode cX12_readsRecord 214 = .ok (.aload_n 0, 1) := by decide +kernel
theorem dX12_readsRecord_215 : decode cX12_readsRecord 215 = .ok (.iload_n 2, 1) := by decide +kernel
theorem dX12_readsRecord_216 : decode cX12_readsRecord 216 = .ok (.aload_n 0, 1) := by decide +kernel
theorem dX12_readsRecord_217 : decode cX12_readsRecord 217 = .ok (.getfield 104, 3) := by decide +kernel
theorem dX12_readsRecord_220 : decode cX12_readsRecord 220 = .ok (.invokevirtual 154, 3) := by decide +kernel
theorem dX12_readsRecord_223 : decode cX12_readsRecord 223 = .ok (.istore 7, 2) := by decide +kernel
theorem dX12_readsRecord_225 : decode cX12_readsRecord 225 = .ok (.aload_n 0, 1) := by decide +kernel
theorem dX12_readsRecord_226 : decode cX12_readsRecord 226 = .ok (.aload_n 0, 1) := by decide +kernel
theorem dX12_readsRecord_227 : decode cX12_readsRecord 227 = .ok (.getfield 104, 3) := by decide +kernel
theorem dX12_readsRecord_230 : decode cX12_readsRecord 230 = .ok (.invokevirtual 107, 3) := by decide +kernel
theorem dX12_readsRecord_233 : decode cX12_readsRecord 233 = .ok (.istore 8, 2) := by decide +kernel
theorem dX12_readsRecord_235 : decode cX12_readsRecord 235 = .ok (.iload 8, 2) := by decide +kernel
theorem dX12_readsRecord_237 : decode cX12_readsRecord 237 = .ok (.iload 7, 2) := by decide +kernel
theorem dX12_readsRecord_239 : decode cX12_readsRecord 239 = .ok (.if_icmp .ne 15, 3) := by decide +kernel
theorem dX12_readsRecord_242 : decode cX12_readsRecord 242 = .ok (.aload_n 0, 1) := by decide +kernel
theorem dX12_readsRecord_243 : decode cX12_readsRecord 243 = .ok (.dup, 1) := by decide +kernel
theorem dX12_readsRecord_244 : decode cX12_readsRecord 244 = .ok (.getfield 104, 3) := by decide +kernel
theorem dX12_readsRecord_247 : decode cX12_readsRecord 247 = .ok (.iconst 1, 1) := by decide +kernel
theorem dX12_readsRecord_248 : decode cX12_readsRecord 248 = .ok (.iadd, 1) := by decide +kernel
theorem dX12_readsRecord_249 : decode cX12_readsRecord 249 = .ok (.putfield 104, 3) := by decide +kernel
theorem dX12_readsRecord_252 : decode cX12_readsRecord 252 = .ok (.iconst 1, 1) := by decide +kernel
theorem dX12_readsRecord_253 : decode cX12_readsRecord 253 = .ok (.ireturn, 1) := by decide +kernel
theorem dX12_readsRecord_254 : decode cX12_readsRecord 254 = .ok (.aload_n 0, 1) := by decide +kernel
theorem dX12_readsRecord_255 : decode cX12_readsRecord 255 = .ok (.iload 6, 2) := by decide +kernel
theorem dX12_readsRecord_257 : decode cX12_readsRecord 257 = .ok (.putfield 61, 3) := by decide +kernel
theorem dX12_readsRecord_260 : decode cX12_readsRecord 260 = .ok (.iload 8, 2) := by decide +kernel
theorem dX12_readsRecord_262 : decode cX12_readsRecord 262 = .ok (.ifCond .ge 15, 3) := by decide +kernel
theorem dX12_readsRecord_265 : decode cX12_readsRecord 265 = .ok (.aload_n 0, 1) := by decide +kernel
theorem dX12_readsRecord_266 : decode cX12_readsRecord 266 = .ok (.iconst 1, 1) := by decide +kernel
theorem dX12_readsRecord_267 : decode cX12_readsRecord 267 = .ok (.aload_n 0, 1) := by decide +kernel
theorem dX12_readsRecord_268 : decode cX12_readsRecord 268 = .ok (.getfield 24, 3) := by decide +kernel
theorem dX12_readsRecord_271 : decode cX12_readsRecord 271 = .ok (.invokevirtual 111, 3) := by decide +kernel
theorem dX12_readsRecord_274 : decode cX12_readsRecord 274 = .ok (.goto 12, 3) := by decide +kernel
theorem dX12_readsRecord_277 : decode cX12_readsRecord 277 = .ok (.aload_n 0, 1) := by decide +kernel
theorem dX12_readsRecord_278 : decode cX12_readsRecord 278 = .ok (.iconst 4, 1) := by decide +kernel
theorem dX12_readsRecord_279 : decode cX12_readsRecord 279 = .ok (.aload_n 0, 1) := by decide +kernel
theorem dX12_readsRecord_280 : decode cX12_readsRecord 280 = .ok (.getfield 104, 3) := by decide +kernel
theorem dX12_readsRecord_283 : decode cX12_readsRecord 283 = .ok (.invokevirtual 111, 3) := by decide +kernel
theorem dX12_readsRecord_286 : decode cX12_readsRecord 286 = .ok (.ireturn, 1) := by decide +kernel
theorem dX12_readsField_0 : decode cX12_readsField 0 = .ok (.aload_n 0, 1) := by decide +kernel
theorem dX12_readsField_1 : decode cX12_readsField 1 = .ok (.getfield 104, 3) := by decide +kernel
theorem dX12_readsField_4 : decode cX12_readsField 4 = .ok (.istore_n 3, 1) := by decide +kernel
theorem dX12_readsField_5 : decode cX12_readsField 5 = .ok (.aload_n 0, 1) := by decide +kernel
theorem dX12_readsField_6 : decode cX12_readsField 6 = .ok (.iconst 1, 1) := by decide +kernel
theorem dX12_readsField_7 : decode cX12_readsField 7 = .ok (.bipush 8, 2) := by decide +kernel
theorem dX12_readsField_9 : decode cX12_readsField 9 = .ok (.invokevirtual 138, 3) := by decide +kernel
theorem dX12_readsField_12 : decode cX12_readsField 12 = .ok (.ifCond .eq 14, 3) := by decide +kernel
theorem dX12_readsField_15 : decode cX12_readsField 15 = .ok (.aload_n 0, 1) := by decide +kernel
theorem dX12_readsField_16 : decode cX12_readsField 16 = .ok (.aload_n 0, 1) := by decide +kernel
theorem dX12_readsField_17 : decode cX12_readsField 17 = .ok (.getfield 120, 3) := by decide +kernel
theorem dX12_readsField_20 : decode cX12_readsField 20 = .ok (.invokevirtual 141, 3) := by decide +kernel
theorem dX12_readsField_23 : decode cX12_readsField 23 = .ok (.ifCond .ne 5, 3) := by decide +kernel
theorem dX12_readsField_26 : decode cX12_readsField 26 = .ok (.iconst 0, 1) := by decide +kernel
theorem dX12_readsField_27 : decode cX12_readsField 27 = .ok (.ireturn, 1) := by decide +kernel
theorem dX12_readsField_28 : decode cX12_readsField 28 = .ok (.aload_n 0, 1) := by decide +kernel
theorem dX12_readsField_29 : decode cX12_readsField 29 = .ok (.getfield 100, 3) := by decide +kernel
theorem dX12_readsField_32 : decode cX12_readsField 32 = .ok (.iload_n 1, 1) := by decide +kernel
theorem dX12_readsField_33 : decode cX12_readsField 33 = .ok (.aload_n 0, 1) := by decide +kernel
theorem dX12_readsField_34 : decode cX12_readsField 34 = .ok (.getfield 123, 3) := by decide +kernel
theorem dX12_readsField_37 : decode cX12_readsField 37 = .ok (.lastore, 1) := by decide +kernel
theorem dX12_readsField_38 : decode cX12_readsField 38 = .ok (.iload_n 2, 1) := by decide +kernel
theorem dX12_readsField_39 : decode cX12_readsField 39 = .ok (.ifCond .le 28, 3) := by decide +kernel
theorem dX12_readsField_42 : decode cX12_readsField 42 = .ok (.aload_n 0, 1) := by decide +kernel
theorem dX12_readsField_43 : decode cX12_readsField 43 = .ok (.getfield 100, 3) := by decide +kernel
theorem dX12_readsField_46 : decode cX12_readsField 46 = .ok (.iload_n 1, 1) := by decide +kernel
theorem dX12_readsField_47 : decode cX12_readsField 47 = .ok (.laload, 1) := by decide +kernel
theorem dX12_readsField_48 : decode cX12_readsField 48 = .ok (.aload_n 0, 1) := by decide +kernel
theorem dX12_readsField_49 : decode cX12_readsField 49 = .ok (.getfield 100, 3) := by decide +kernel
theorem dX12_readsField_52 : decode cX12_readsField 52 = .ok (.iload_n 1, 1) := by decide +kernel
theorem dX12_readsField_53 : decode cX12_readsField 53 = .ok (.iconst 1, 1) := by decide +kernel
theorem dX12_readsField_54 : decode cX12_readsField 54 = .ok (.isub, 1) := by decide +kernel
theorem dX12_readsField_55 : decode cX12_readsField 55 = .ok (.laload, 1) := by decide +kernel
theorem dX12_readsField_56 : decode cX12_readsField 56 = .ok (.lcmp, 1) := by decide +kernel
theorem dX12_readsField_57 : decode cX12_readsField 57 = .ok (.ifCond .gt 10, 3) := by decide +kernel
theorem dX12_readsField_60 : decode cX12_readsField 60 = .ok (.aload_n 0, 1) := by decide +kernel
theorem dX12_readsField_61 : decode cX12_readsField 61 = .ok (.iconst 2, 1) := by decide +kernel
theorem dX12_readsField_62 : decode cX12_readsField 62 = .ok (.iload_n 3, 1) := by decide +kernel
theorem dX12_readsField_63 : decode cX12_readsField 63 = .ok (.invokevirtual 111, 3) := by decide +kernel
theorem dX12_readsField_66 : decode cX12_readsField 66 = .ok (.ireturn, 1) := by decide +kernel
theorem dX12_readsField_67 : decode cX12_readsField 67 = .ok (.aload_n 0, 1) := by decide +kernel
theorem dX12_readsField_68 : decode cX12_readsField 68 = .ok (.iconst 0, 1) := by decide +kernel
theorem dX12_readsField_69 : decode cX12_readsField 69 = .ok (.iconst 2, 1) := by decide +kernel
theorem dX12_readsField_70 : decode cX12_readsField 70 = .ok (.invokevirtual 138, 3) := by decide +kernel
theorem dX12_readsField_73 : decode cX12_readsField 73 = .ok (.ifCond .ne 5, 3) := by decide +kernel
theorem dX12_readsField_76 : decode cX12_readsField 76 = .ok (.iconst 0, 1) := by decide +kernel
theorem dX12_readsField_77 : decode cX12_readsField 77 = .ok (.ireturn, 1) := by decide +kernel
theorem dX12_readsField_78 : decode cX12_readsField 78 = .ok (.aload_n 0, 1) := by decide +kernel
theorem dX12_readsField_79 : decode cX12_readsField 79 = .ok (.getfield 27, 3) := by decide +kernel
theorem dX12_readsField_82 : decode cX12_readsField 82 = .ok (.iload_n 1, 1) := by decide +kernel
theorem dX12_readsField_83 : decode cX12_readsField 83 = .ok (.aload_n 0, 1) := by decide +kernel
theorem dX12_readsField_84 : decode cX12_readsField 84 = .ok (.getfield 120, 3) := by decide +kernel
theorem dX12_readsField_87 : decode cX12_readsField 87 = .ok (.i2b, 1) := by decide +kernel
theorem dX12_readsField_88 : decode cX12_readsField 88 = .ok (.bastore, 1) := by decide +kernel
theorem dX12_readsField_89 : decode cX12_readsField 89 = .ok (.aload_n 0, 1) := by decide +kernel
theorem dX12_readsField_90 : decode cX12_readsField 90 = .ok (.getfield 37, 3) := by decide +kernel
theorem dX12_readsField_93 : decode cX12_readsField 93 = .ok (.iload_n 1, 1) := by decide +kernel
theorem dX12_readsField_94 : decode cX12_readsField 94 = .ok (.iconst 0, 1) := by decide +kernel
theorem dX12_readsField_95 : decode cX12_readsField 95 = .ok (.iastore, 1) := by decide +kernel
theorem dX12_readsField_96 : decode cX12_readsField 96 = .ok (.aload_n 0, 1) := by decide +kernel
theorem dX12_readsField_97 : decode cX12_readsField 97 = .ok (.getfield 120, 3) := by decide +kernel
theorem dX12_readsField_100 : decode cX12_readsField 100 = .ok (.ifCond .ne 35, 3) := by decide +kernel
theorem dX12_readsField_103 : decode cX12_readsField 103 = .ok (.aload_n 0, 1) := by decide +kernel
theorem dX12_readsField_104 : decode cX12_readsField 104 = .ok (.invokevirtual 129, 3) := by decide +kernel
theorem dX12_readsField_107 : decode cX12_readsField 107 = .ok (.ifCond .ne 5, 3) := by decide +kernel
theorem dX12_readsField_110 : decode cX12_readsField 110 = .ok (.iconst 0, 1) := by decide +kernel
theorem dX12_readsField_111 : decode cX12_readsField 111 = .ok (.ireturn, 1) := by decide +kernel
theorem dX12_readsField_112 : decode cX12_readsField 112 = .ok (.aload_n 0, 1) := by decide +kernel
theorem dX12_readsField_113 : decode cX12_readsField 113 = .ok (.getfield 30, 3) := by decide +kernel
theorem dX12_readsField_116 : decode cX12_readsField 116 = .ok (.iload_n 1, 1) := by decide +kernel
theorem dX12_readsField_117 : decode cX12_readsField 117 = .ok (.aload_n 0, 1) := by decide +kernel
theorem dX12_readsField_118 : decode cX12_readsField 118 = .ok (.getfield 114, 3) := by decide +kernel
theorem dX12_readsField_121 : decode cX12_readsField 121 = .ok (.iconst 1, 1) := by decide +kernel
theorem dX12_readsField_122 : decode cX12_readsField 122 = .ok (.lshr, 1) := by decide +kernel
theorem dX12_readsField_123 : decode cX12_readsField 123 = .ok (.aload_n 0, 1) := by decide +kernel
theorem dX12_readsField_124 : decode cX12_readsField 124 = .ok (.getfield 114, 3) := by decide +kernel
theorem dX12_readsField_127 : decode cX12_readsField 127 = .ok (.lconst 1, 1) := by decide +kernel
theorem dX12_readsField_128 : decode cX12_readsField 128 = .ok (.land, 1) := by decide +kernel
theorem dX12_readsField_129 : decode cX12_readsField 129 = .ok (.lneg, 1) := by decide +kernel
theorem dX12_readsField_130 : decode cX12_readsField 130 = .ok (.lxor, 1) := by decide +kernel
theorem dX12_readsField_131 : decode cX12_readsField 131 = .ok (.l2i, 1) := by decide +kernel
theorem dX12_readsField_132 : decode cX12_readsField 132 = .ok (.iastore, 1) := by decide +kernel
theorem dX12_readsField_133 : decode cX12_readsField 133 = .ok (.iconst 1, 1) := by decide +kernel
theorem dX12_readsField_134 : decode cX12_readsField 134 = .ok (.ireturn, 1) := by decide +kernel
theorem dX12_readsField_135 : decode cX12_readsField 135 = .ok (.aload_n 0, 1) := by decide +kernel
theorem dX12_readsField_136 : decode cX12_readsField 136 = .ok (.getfield 120, 3) := by decide +kernel
theorem dX12_readsField_139 : decode cX12_readsField 139 = .ok (.iconst 1, 1) := by decide +kernel
theorem dX12_readsField_140 : decode cX12_readsField 140 = .ok (.if_icmp .ne 38, 3) := by decide +kernel
theorem dX12_readsField_143 : decode cX12_readsField 143 = .ok (.aload_n 0, 1) := by decide +kernel
theorem dX12_readsField_144 : decode cX12_readsField 144 = .ok (.iconst 0, 1) := by decide +kernel
theorem dX12_readsField_145 : decode cX12_readsField 145 = .ok (.bipush 24, 2) := by decide +kernel
theorem dX12_readsField_147 : decode cX12_readsField 147 = .ok (.invokevirtual 138, 3) := by decide +kernel
theorem dX12_readsField_150 : decode cX12_readsField 150 = .ok (.ifCond .ne 5, 3) := by decide +kernel
theorem dX12_readsField_153 : decode cX12_readsField 153 = .ok (.iconst 0, 1) := by decide +kernel
theorem dX12_readsField_154 : decode cX12_readsField 154 = .ok (.ireturn, 1) := by decide +kernel
theorem dX12_readsField_155 : decode cX12_readsField 155 = .ok (.aload_n 0, 1) := by decide +kernel
theorem dX12_readsField_156 : decode cX12_readsField 156 = .ok (.getfield 30, 3) := by decide +kernel
theorem dX12_readsField_159 : decode cX12_readsField 159 = .ok (.iload_n 1, 1) := by decide +kernel
theorem dX12_readsField_160 : decode cX12_readsField 160 = .ok (.aload_n 0, 1) := by decide +kernel
theorem dX12_readsField_161 : decode cX12_readsField 161 = .ok (.getfield 120, 3) := by decide +kernel
theorem dX12_readsField_164 : decode cX12_readsField 164 = .ok (.iastore, 1) := by decide +kernel
theorem dX12_readsField_165 : decode cX12_readsField 165 = .ok (.aload_n 0, 1) := by decide +kernel
theorem dX12_readsField_166 : decode cX12_readsField 166 = .ok (.getfield 37, 3) := by decide +kernel
theorem dX12_readsField_169 : decode cX12_readsField 169 = .ok (.iload_n 1, 1) := by decide +kernel
theorem dX12_readsField_170 : decode cX12_readsField 170 = .ok (.aload_n 0, 1) := by decide +kernel
theorem dX12_readsField_171 : decode cX12_readsField 171 = .ok (.getfield 61, 3) := by decide +kernel
theorem dX12_readsField_174 : decode cX12_readsField 174 = .ok (.iastore, 1) := by decide +kernel
theorem dX12_readsField_175 : decode cX12_readsField 175 = .ok (.goto 15, 3) := by decide +kernel
theorem dX12_readsField_178 : decode cX12_readsField 178 = .ok (.aload_n 0, 1) := by decide +kernel
theorem dX12_readsField_179 : decode cX12_readsField 179 = .ok (.iconst 4, 1) := by decide +kernel
theorem dX12_readsField_180 : decode cX12_readsField 180 = .ok (.putfield 120, 3) := by decide +kernel
theorem dX12_readsField_183 : decode cX12_readsField 183 = .ok (.aload_n 0, 1) := by decide +kernel
theorem dX12_readsField_184 : decode cX12_readsField 184 = .ok (.getfield 30, 3) := by decide +kernel
theorem dX12_readsField_187 : decode cX12_readsField 187 = .ok (.iload_n 1, 1) := by decide +kernel
theorem dX12_readsField_188 : decode cX12_readsField 188 = .ok (.iconst 0, 1) := by decide +kernel
theorem dX12_readsField_189 : decode cX12_readsField 189 = .ok (.iastore, 1) := by decide +kernel
theorem dX12_readsField_190 : decode cX12_readsField 190 = .ok (.aload_n 0, 1) := by decide +kernel
theorem dX12_readsField_191 : decode cX12_readsField 191 = .ok (.getfield 120, 3) := by decide +kernel
theorem dX12_readsField_194 : decode cX12_readsField 194 = .ok (.istore 4, 2) := by decide +kernel
theorem dX12_readsField_196 : decode cX12_readsField 196 = .ok (.iconst 0, 1) := by decide +kernel
theorem dX12_readsField_197 : decode cX12_readsField 197 = .ok (.istore 5, 2) := by decide +kernel
theorem dX12_readsField_199 : decode cX12_readsField 199 = .ok (.iload 5, 2) := by decide +kernel
theorem dX12_readsField_201 : decode cX12_readsField 201 = .ok (.iload 4, 2) := by decide +kernel
theorem dX12_readsField_203 : decode cX12_readsField 203 = .ok (.if_icmp .ge 121, 3) := by decide +kernel
theorem dX12_readsField_206 : decode cX12_readsField 206 = .ok (.aload_n 0, 1) := by decide +kernel
theorem dX12_readsField_207 : decode cX12_readsField 207 = .ok (.aload_n 0, 1) := by decide +kernel
theorem dX12_readsField_208 : decode cX12_readsField 208 = .ok (.getfield 104, 3) := by decide +kernel
theorem dX12_readsField_211 : decode cX12_readsField 211 = .ok (.invokevirtual 107, 3) := by decide +kernel
theorem dX12_readsField_214 : decode cX12_readsField 214 = .ok (.istore 6, 2) := by decide +kernel
theorem dX12_readsField_216 : decode cX12_readsField 216 = .ok (.iload 6, 2) := by decide +kernel
theorem dX12_readsField_218 : decode cX12_readsField 218 = .ok (.ifCond .ge 13, 3) := by decide +kernel
theorem dX12_readsField_221 : decode cX12_readsField 221 = .ok (.aload_n 0, 1) := by decide +kernel
theorem dX12_readsField_222 : decode cX12_readsField 222 = .ok (.iconst 1, 1) := by decide +kernel
theorem dX12_readsField_223 : decode cX12_readsField 223 = .ok (.aload_n 0, 1) := by decide +kernel
theorem dX12_readsField_224 : decode cX12_readsField 224 = .ok (.getfield 24, 3) := by decide +kernel
theorem dX12_readsField_227 : decode cX12_readsField 227 = .ok (.invokevirtual 111, 3) := by decide +kernel
theorem dX12_readsField_230 : decode cX12_readsField 230 = .ok (.ireturn, 1) := by decide +kernel
theorem dX12_readsField_231 : decode cX12_readsField 231 = .ok (.aload_n 0, 1) := by decide +kernel
theorem dX12_readsField_232 : decode cX12_readsField 232 = .ok (.getfield 27, 3) := by decide +kernel
theorem dX12_readsField_235 : decode cX12_readsField 235 = .ok (.iload_n 1, 1) := by decide +kernel
theorem dX12_readsField_236 : decode cX12_readsField 236 = .ok (.baload, 1) := by decide +kernel
theorem dX12_readsField_237 : decode cX12_readsField 237 = .ok (.iconst 1, 1) := by decide +kernel
theorem dX12_readsField_238 : decode cX12_readsField 238 = .ok (.if_icmp .ne 52, 3) := by decide +kernel
theorem dX12_readsField_241 : decode cX12_readsField 241 = .ok (.iload 6, 2) := by decide +kernel
theorem dX12_readsField_243 : decode cX12_readsField 243 = .ok (.bipush 32, 2) := by decide +kernel
theorem dX12_readsField_245 : decode cX12_readsField 245 = .ok (.if_icmp .lt 10, 3) := by decide +kernel
theorem dX12_readsField_248 : decode cX12_readsField 248 = .ok (.iload 6, 2) := by decide +kernel
theorem dX12_readsField_250 : decode cX12_readsField 250 = .ok (.bipush 126, 2) := by decide +kernel
theorem dX12_readsField_252 : decode cX12_readsField 252 = .ok (.if_icmp .le 13, 3) := by decide +kernel
theorem dX12_readsField_255 : decode cX12_readsField 255 = .ok (.aload_n 0, 1) := by decide +kernel
theorem dX12_readsField_256 : decode cX12_readsField 256 = .ok (.iconst 2, 1) := by decide +kernel
theorem dX12_readsField_257 : decode cX12_readsField 257 = .ok (.aload_n 0, 1) := by decide +kernel
theorem dX12_readsField_258 : decode cX12_readsField 258 = .ok (.getfield 104, 3) := by decide +kernel
theorem dX12_readsField_261 : decode cX12_readsField 261 = .ok (.invokevirtual 111, 3) := by decide +kernel
theorem dX12_readsField_264 : decode cX12_readsField 264 = .ok (.ireturn, 1) := by decide +kernel
theorem dX12_readsField_265 : decode cX12_readsField 265 = .ok (.aload_n 0, 1) := by decide +kernel
theorem dX12_readsField_266 : decode cX12_readsField 266 = .ok (.getfield 34, 3) := by decide +kernel
theorem dX12_readsField_269 : decode cX12_readsField 269 = .ok (.aload_n 0, 1) := by decide +kernel
theorem dX12_readsField_270 : decode cX12_readsField 270 = .ok (.getfield 61, 3) := by decide +kernel
theorem dX12_readsField_273 : decode cX12_readsField 273 = .ok (.iload 6, 2) := by decide +kernel
theorem dX12_readsField_275 : decode cX12_readsField 275 = .ok (.i2b, 1) := by decide +kernel
theorem dX12_readsField_276 : decode cX12_readsField 276 = .ok (.bastore, 1) := by decide +kernel
theorem dX12_readsField_277 : decode cX12_readsField 277 = .ok (.aload_n 0, 1) := by decide +kernel
theorem dX12_readsField_278 : decode cX12_readsField 278 = .ok (.dup, 1) := by decide +kernel
theorem dX12_readsField_279 : decode cX12_readsField 279 = .ok (.getfield 61, 3) := by decide +kernel
theorem dX12_readsField_282 : decode cX12_readsField 282 = .ok (.iconst 1, 1) := by decide +kernel
theorem dX12_readsField_283 : decode cX12_readsField 283 = .ok (.iadd, 1) := by decide +kernel
theorem dX12_readsField_284 : decode cX12_readsField 284 = .ok (.putfield 61, 3) := by decide +kernel
theorem dX12_readsField_287 : decode cX12_readsField 287 = .ok (.goto 21, 3) := by decide +kernel
theorem dX12_readsField_290 : decode cX12_readsField 290 = .ok (.aload_n 0, 1) := by decide +kernel
theorem dX12_readsField_291 : decode cX12_readsField 291 = .ok (.getfield 30, 3) := by decide +kernel
theorem dX12_readsField_294 : decode cX12_readsField 294 = .ok (.iload_n 1, 1) := by decide +kernel
theorem dX12_readsField_295 : decode cX12_readsField 295 = .ok (.aload_n 0, 1) := by decide +kernel
theorem dX12_readsField_296 : decode cX12_readsField 296 = .ok (.getfield 30, 3) := by decide +kernel
theorem dX12_readsField_299 : decode cX12_readsField 299 = .ok (.iload_n 1, 1) := by decide +kernel
theorem dX12_readsField_300 : decode cX12_readsField 300 = .ok (.iaload, 1) := by decide +kernel
theorem dX12_readsField_301 : decode cX12_readsField 301 = .ok (.bipush 8, 2) := by decide +kernel
theorem dX12_readsField_303 : decode cX12_readsField 303 = .ok (.ishl, 1) := by decide +kernel
theorem dX12_readsField_304 : decode cX12_readsField 304 = .ok (.iload 6, 2) := by decide +kernel
theorem dX12_readsField_306 : decode cX12_readsField 306 = .ok (.ior, 1) := by decide +kernel
theorem dX12_readsField_307 : decode cX12_readsField 307 = .ok (.iastore, 1) := by decide +kernel
theorem dX12_readsField_308 : decode cX12_readsField 308 = .ok (.aload_n 0, 1) := by decide +kernel
theorem dX12_readsField_309 : decode cX12_readsField 309 = .ok (.dup, 1) := by decide +kernel
theorem dX12_readsField_310 : decode cX12_readsField 310 = .ok (.getfield 104, 3) := by decide +kernel
theorem dX12_readsField_313 : decode cX12_readsField 313 = .ok (.iconst 1, 1) := by decide +kernel
theorem dX12_readsField_314 : decode cX12_readsField 314 = .ok (.iadd, 1) := by decide +kernel
theorem dX12_readsField_315 : decode cX12_readsField 315 = .ok (.putfield 104, 3) := by decide +kernel
theorem dX12_readsField_318 : decode cX12_readsField 318 = .ok (.iinc 5 1, 3) := by decide +kernel
theorem dX12_readsField_321 : decode cX12_readsField 321 = .ok (.goto (-122), 3) := by decide +kernel
theorem dX12_readsField_324 : decode cX12_readsField 324 = .ok (.iconst 1, 1) := by decide +kernel
theorem dX12_readsField_325 : decode cX12_readsField 325 = .ok (.ireturn, 1) := by decide +kernel
theorem dX12_mixed_0 : decode cX12_mixed 0 = .ok (.iload_n 0, 1) := by decide +kernel
theorem dX12_mixed_1 : decode cX12_mixed 1 = .ok (.iload_n 1, 1) := by decide +kernel
theorem dX12_mixed_2 : decode cX12_mixed 2 = .ok (.ixor, 1) := by decide +kernel
theorem dX12_mixed_3 : decode cX12_mixed 3 = .ok (.istore_n 2, 1) := by decide +kernel
theorem dX12_mixed_4 : decode cX12_mixed 4 = .ok (.iconst 0, 1) := by decide +kernel
theorem dX12_mixed_5 : decode cX12_mixed 5 = .ok (.istore_n 3, 1) := by decide +kernel
theorem dX12_mixed_6 : decode cX12_mixed 6 = .ok (.iload_n 3, 1) := by decide +kernel
theorem dX12_mixed_7 : decode cX12_mixed 7 = .ok (.bipush 8, 2) := by decide +kernel
theorem dX12_mixed_9 : decode cX12_mixed 9 = .ok (.if_icmp .ge 30, 3) := by decide +kernel
theorem dX12_mixed_12 : decode cX12_mixed 12 = .ok (.iconst 2, 1) := by decide +kernel
theorem dX12_mixed_13 : decode cX12_mixed 13 = .ok (.iload_n 2, 1) := by decide +kernel
theorem dX12_mixed_14 : decode cX12_mixed 14 = .ok (.imul, 1) := by decide +kernel
theorem dX12_mixed_15 : decode cX12_mixed 15 = .ok (.istore_n 2, 1) := by decide +kernel
theorem dX12_mixed_16 : decode cX12_mixed 16 = .ok (.iload_n 2, 1) := by decide +kernel
theorem dX12_mixed_17 : decode cX12_mixed 17 = .ok (.sipush 255, 3) := by decide +kernel
theorem dX12_mixed_20 : decode cX12_mixed 20 = .ok (.if_icmp .le 11, 3) := by decide +kernel
theorem dX12_mixed_23 : decode cX12_mixed 23 = .ok (.iload_n 2, 1) := by decide +kernel
theorem dX12_mixed_24 : decode cX12_mixed 24 = .ok (.sipush 263, 3) := by decide +kernel
theorem dX12_mixed_27 : decode cX12_mixed 27 = .ok (.ixor, 1) := by decide +kernel
theorem dX12_mixed_28 : decode cX12_mixed 28 = .ok (.goto 4, 3) := by decide +kernel
theorem dX12_mixed_31 : decode cX12_mixed 31 = .ok (.iload_n 2, 1) := by decide +kernel
theorem dX12_mixed_32 : decode cX12_mixed 32 = .ok (.istore_n 2, 1) := by decide +kernel
theorem dX12_mixed_33 : decode cX12_mixed 33 = .ok (.iinc 3 1, 3) := by decide +kernel
theorem dX12_mixed_36 : decode cX12_mixed 36 = .ok (.goto (-30), 3) := by decide +kernel
theorem dX12_mixed_39 : decode cX12_mixed 39 = .ok (.iload_n 2, 1) := by decide +kernel
theorem dX12_mixed_40 : decode cX12_mixed 40 = .ok (.ireturn, 1) := by decide +kernel
theorem dX12_checkOf_0 : decode cX12_checkOf 0 = .ok (.iconst 0, 1) := by decide +kernel
theorem dX12_checkOf_1 : decode cX12_checkOf 1 = .ok (.istore_n 3, 1) := by decide +kernel
theorem dX12_checkOf_2 : decode cX12_checkOf 2 = .ok (.iload_n 1, 1) := by decide +kernel
theorem dX12_checkOf_3 : decode cX12_checkOf 3 = .ok (.istore 4, 2) := by decide +kernel
theorem dX12_checkOf_5 : decode cX12_checkOf 5 = .ok (.iload 4, 2) := by decide +kernel
theorem dX12_checkOf_7 : decode cX12_checkOf 7 = .ok (.iload_n 2, 1) := by decide +kernel
theorem dX12_checkOf_8 : decode cX12_checkOf 8 = .ok (.if_icmp .ge 25, 3) := by decide +kernel
theorem dX12_checkOf_11 : decode cX12_checkOf 11 = .ok (.iload_n 3, 1) := by decide +kernel
theorem dX12_checkOf_12 : decode cX12_checkOf 12 = .ok (.aload_n 0, 1) := by decide +kernel
theorem dX12_checkOf_13 : decode cX12_checkOf 13 = .ok (.getfield 14, 3) := by decide +kernel
theorem dX12_checkOf_16 : decode cX12_checkOf 16 = .ok (.iload 4, 2) := by decide +kernel
theorem dX12_checkOf_18 : decode cX12_checkOf 18 = .ok (.baload, 1) := by decide +kernel
theorem dX12_checkOf_19 : decode cX12_checkOf 19 = .ok (.sipush 255, 3) := by decide +kernel
theorem dX12_checkOf_22 : decode cX12_checkOf 22 = .ok (.iand, 1) := by decide +kernel
theorem dX12_checkOf_23 : decode cX12_checkOf 23 = .ok (.invokestatic 158, 3) := by decide +kernel
theorem dX12_checkOf_26 : decode cX12_checkOf 26 = .ok (.istore_n 3, 1) := by decide +kernel
theorem dX12_checkOf_27 : decode cX12_checkOf 27 = .ok (.iinc 4 1, 3) := by decide +kernel
theorem dX12_checkOf_30 : decode cX12_checkOf 30 = .ok (.goto (-25), 3) := by decide +kernel
theorem dX12_checkOf_33 : decode cX12_checkOf 33 = .ok (.iload_n 3, 1) := by decide +kernel
theorem dX12_checkOf_34 : decode cX12_checkOf 34 = .ok (.ireturn, 1) := by decide +kernel
theorem dX12_take_0 : decode cX12_take 0 = .ok (.aload_n 0, 1) := by decide +kernel
theorem dX12_take_1 : decode cX12_take 1 = .ok (.iconst 0, 1) := by decide +kernel
theorem dX12_take_2 : decode cX12_take 2 = .ok (.putfield 3, 3) := by decide +kernel
theorem dX12_take_5 : decode cX12_take 5 = .ok (.aload_n 0, 1) := by decide +kernel
theorem dX12_take_6 : decode cX12_take 6 = .ok (.aload_n 0, 1) := by decide +kernel
theorem dX12_take_7 : decode cX12_take 7 = .ok (.getfield 7, 3) := by decide +kernel
theorem dX12_take_10 : decode cX12_take 10 = .ok (.putfield 24, 3) := by decide +kernel
theorem dX12_take_13 : decode cX12_take 13 = .ok (.aload_n 0, 1) := by decide +kernel
theorem dX12_take_14 : decode cX12_take 14 = .ok (.iconst 0, 1) := by decide +kernel
theorem dX12_take_15 : decode cX12_take 15 = .ok (.putfield 7, 3) := by decide +kernel
theorem dX12_take_18 : decode cX12_take 18 = .ok (.aload_n 0, 1) := by decide +kernel
theorem dX12_take_19 : decode cX12_take 19 = .ok (.iconst 0, 1) := by decide +kernel
theorem dX12_take_20 : decode cX12_take 20 = .ok (.putfield 104, 3) := by decide +kernel
theorem dX12_take_23 : decode cX12_take 23 = .ok (.aload_n 0, 1) := by decide +kernel
theorem dX12_take_24 : decode cX12_take 24 = .ok (.iconst 0, 1) := by decide +kernel
theorem dX12_take_25 : decode cX12_take 25 = .ok (.putfield 18, 3) := by decide +kernel
theorem dX12_take_28 : decode cX12_take 28 = .ok (.aload_n 0, 1) := by decide +kernel
theorem dX12_take_29 : decode cX12_take 29 = .ok (.iconst (-1), 1) := by decide +kernel
theorem dX12_take_30 : decode cX12_take 30 = .ok (.putfield 161, 3) := by decide +kernel
theorem dX12_take_33 : decode cX12_take 33 = .ok (.iconst 0, 1) := by decide +kernel
theorem dX12_take_34 : decode cX12_take 34 = .ok (.istore_n 1, 1) := by decide +kernel
theorem dX12_take_35 : decode cX12_take 35 = .ok (.aload_n 0, 1) := by decide +kernel
theorem dX12_take_36 : decode cX12_take 36 = .ok (.getfield 104, 3) := by decide +kernel
theorem dX12_take_39 : decode cX12_take 39 = .ok (.aload_n 0, 1) := by decide +kernel
theorem dX12_take_40 : decode cX12_take 40 = .ok (.getfield 24, 3) := by decide +kernel
theorem dX12_take_43 : decode cX12_take 43 = .ok (.if_icmp .ge 201, 3) := by decide +kernel
theorem dX12_take_46 : decode cX12_take 46 = .ok (.aload_n 0, 1) := by decide +kernel
theorem dX12_take_47 : decode cX12_take 47 = .ok (.getfield 61, 3) := by decide +kernel
theorem dX12_take_50 : decode cX12_take 50 = .ok (.istore_n 2, 1) := by decide +kernel
theorem dX12_take_51 : decode cX12_take 51 = .ok (.aload_n 0, 1) := by decide +kernel
theorem dX12_take_52 : decode cX12_take 52 = .ok (.sipush 4000, 3) := by decide +kernel
theorem dX12_take_55 : decode cX12_take 55 = .ok (.invokevirtual 164, 3) := by decide +kernel
theorem dX12_take_58 : decode cX12_take 58 = .ok (.ifCond .ne 18, 3) := by decide +kernel
theorem dX12_take_61 : decode cX12_take 61 = .ok (.aload_n 0, 1) := by decide +kernel
theorem dX12_take_62 : decode cX12_take 62 = .ok (.iload_n 2, 1) := by decide +kernel
theorem dX12_take_63 : decode cX12_take 63 = .ok (.putfield 61, 3) := by decide +kernel
theorem dX12_take_66 : decode cX12_take 66 = .ok (.aload_n 0, 1) := by decide +kernel
theorem dX12_take_67 : decode cX12_take 67 = .ok (.aload_n 0, 1) := by decide +kernel
theorem dX12_take_68 : decode cX12_take 68 = .ok (.getfield 21, 3) := by decide +kernel
theorem dX12_take_71 : decode cX12_take 71 = .ok (.putfield 161, 3) := by decide +kernel
theorem dX12_take_74 : decode cX12_take 74 = .ok (.iload_n 1, 1) := by decide +kernel
theorem dX12_take_75 : decode cX12_take 75 = .ok (.ireturn, 1) := by decide +kernel
theorem dX12_take_76 : decode cX12_take 76 = .ok (.aload_n 0, 1) := by decide +kernel
theorem dX12_take_77 : decode cX12_take 77 = .ok (.aload_n 0, 1) := by decide +kernel
theorem dX12_take_78 : decode cX12_take 78 = .ok (.getfield 135, 3) := by decide +kernel
theorem dX12_take_81 : decode cX12_take 81 = .ok (.invokevirtual 167, 3) := by decide +kernel
theorem dX12_take_84 : decode cX12_take 84 = .ok (.aload_n 0, 1) := by decide +kernel
theorem dX12_take_85 : decode cX12_take 85 = .ok (.getfield 58, 3) := by decide +kernel
theorem dX12_take_88 : decode cX12_take 88 = .ok (.sipush 4000, 3) := by decide +kernel
theorem dX12_take_91 : decode cX12_take 91 = .ok (.if_icmp .ne 10, 3) := by decide +kernel
theorem dX12_take_94 : decode cX12_take 94 = .ok (.aload_n 0, 1) := by decide +kernel
theorem dX12_take_95 : decode cX12_take 95 = .ok (.iload_n 2, 1) := by decide +kernel
theorem dX12_take_96 : decode cX12_take 96 = .ok (.putfield 61, 3) := by decide +kernel
theorem dX12_take_99 : decode cX12_take 99 = .ok (.iload_n 1, 1) := by decide +kernel
theorem dX12_take_100 : decode cX12_take 100 = .ok (.ireturn, 1) := by decide +kernel
theorem dX12_take_101 : decode cX12_take 101 = .ok (.aload_n 0, 1) := by decide +kernel
theorem dX12_take_102 : decode cX12_take 102 = .ok (.getfield 58, 3) := by decide +kernel
theorem dX12_take_105 : decode cX12_take 105 = .ok (.istore_n 3, 1) := by decide +kernel
theorem dX12_take_106 : decode cX12_take 106 = .ok (.aload_n 0, 1) := by decide +kernel
theorem dX12_take_107 : decode cX12_take 107 = .ok (.dup, 1) := by decide +kernel
theorem dX12_take_108 : decode cX12_take 108 = .ok (.getfield 58, 3) := by decide +kernel
theorem dX12_take_111 : decode cX12_take 111 = .ok (.iconst 1, 1) := by decide +kernel
theorem dX12_take_112 : decode cX12_take 112 = .ok (.iadd, 1) := by decide +kernel
theorem dX12_take_113 : decode cX12_take 113 = .ok (.putfield 58, 3) := by decide +kernel
theorem dX12_take_116 : decode cX12_take 116 = .ok (.aload_n 0, 1) := by decide +kernel
theorem dX12_take_117 : decode cX12_take 117 = .ok (.aload_n 0, 1) := by decide +kernel
theorem dX12_take_118 : decode cX12_take 118 = .ok (.getfield 135, 3) := by decide +kernel
theorem dX12_take_121 : decode cX12_take 121 = .ok (.putfield 67, 3) := by decide +kernel
theorem dX12_take_124 : decode cX12_take 124 = .ok (.aload_n 0, 1) := by decide +kernel
theorem dX12_take_125 : decode cX12_take 125 = .ok (.getfield 170, 3) := by decide +kernel
theorem dX12_take_128 : decode cX12_take 128 = .ok (.iload_n 3, 1) := by decide +kernel
theorem dX12_take_129 : decode cX12_take 129 = .ok (.aload_n 0, 1) := by decide +kernel
theorem dX12_take_130 : decode cX12_take 130 = .ok (.getfield 135, 3) := by decide +kernel
theorem dX12_take_133 : decode cX12_take 133 = .ok (.iastore, 1) := by decide +kernel
theorem dX12_take_134 : decode cX12_take 134 = .ok (.aload_n 0, 1) := by decide +kernel
theorem dX12_take_135 : decode cX12_take 135 = .ok (.getfield 173, 3) := by decide +kernel
theorem dX12_take_138 : decode cX12_take 138 = .ok (.iload_n 3, 1) := by decide +kernel
theorem dX12_take_139 : decode cX12_take 139 = .ok (.iconst (-1), 1) := by decide +kernel
theorem dX12_take_140 : decode cX12_take 140 = .ok (.iastore, 1) := by decide +kernel
theorem dX12_take_141 : decode cX12_take 141 = .ok (.aload_n 0, 1) := by decide +kernel
theorem dX12_take_142 : decode cX12_take 142 = .ok (.getfield 145, 3) := by decide +kernel
theorem dX12_take_145 : decode cX12_take 145 = .ok (.iload_n 3, 1) := by decide +kernel
theorem dX12_take_146 : decode cX12_take 146 = .ok (.aload_n 0, 1) := by decide +kernel
theorem dX12_take_147 : decode cX12_take 147 = .ok (.getfield 145, 3) := by decide +kernel
theorem dX12_take_150 : decode cX12_take 150 = .ok (.sipush 4000, 3) := by decide +kernel
theorem dX12_take_153 : decode cX12_take 153 = .ok (.laload, 1) := by decide +kernel
theorem dX12_take_154 : decode cX12_take 154 = .ok (.lastore, 1) := by decide +kernel
theorem dX12_take_155 : decode cX12_take 155 = .ok (.aload_n 0, 1) := by decide +kernel
theorem dX12_take_156 : decode cX12_take 156 = .ok (.getfield 148, 3) := by decide +kernel
theorem dX12_take_159 : decode cX12_take 159 = .ok (.iload_n 3, 1) := by decide +kernel
theorem dX12_take_160 : decode cX12_take 160 = .ok (.aload_n 0, 1) := by decide +kernel
theorem dX12_take_161 : decode cX12_take 161 = .ok (.getfield 148, 3) := by decide +kernel
theorem dX12_take_164 : decode cX12_take 164 = .ok (.sipush 4000, 3) := by decide +kernel
theorem dX12_take_167 : decode cX12_take 167 = .ok (.laload, 1) := by decide +kernel
theorem dX12_take_168 : decode cX12_take 168 = .ok (.lastore, 1) := by decide +kernel
theorem dX12_take_169 : decode cX12_take 169 = .ok (.aload_n 0, 1) := by decide +kernel
theorem dX12_take_170 : decode cX12_take 170 = .ok (.getfield 97, 3) := by decide +kernel
theorem dX12_take_173 : decode cX12_take 173 = .ok (.iload_n 3, 1) := by decide +kernel
theorem dX12_take_174 : decode cX12_take 174 = .ok (.aload_n 0, 1) := by decide +kernel
theorem dX12_take_175 : decode cX12_take 175 = .ok (.getfield 97, 3) := by decide +kernel
theorem dX12_take_178 : decode cX12_take 178 = .ok (.sipush 4000, 3) := by decide +kernel
theorem dX12_take_181 : decode cX12_take 181 = .ok (.iaload, 1) := by decide +kernel
