theorem dX8_scan_23 : decode cX8_scan 23 = .ok (.aload_n 0, 1) := by decide +kernel
theorem dX8_scan_24 : decode cX8_scan 24 = .ok (.getfield 53, 3) := by decide +kernel
theorem dX8_scan_27 : decode cX8_scan 27 = .ok (.if_icmp .ge 65, 3) := by decide +kernel
theorem dX8_scan_30 : decode cX8_scan 30 = .ok (.iload_n 3, 1) := by decide +kernel
theorem dX8_scan_31 : decode cX8_scan 31 = .ok (.sipush 2000, 3) := by decide +kernel
theorem dX8_scan_34 : decode cX8_scan 34 = .ok (.if_icmp .ge 58, 3) := by decide +kernel
theorem dX8_scan_37 : decode cX8_scan 37 = .ok (.aload_n 0, 1) := by decide +kernel
theorem dX8_scan_38 : decode cX8_scan 38 = .ok (.getfield 28, 3) := by decide +kernel
theorem dX8_scan_41 : decode cX8_scan 41 = .ok (.iload_n 3, 1) := by decide +kernel
theorem dX8_scan_42 : decode cX8_scan 42 = .ok (.iaload, 1) := by decide +kernel
theorem dX8_scan_43 : decode cX8_scan 43 = .ok (.bipush 32, 2) := by decide +kernel
theorem dX8_scan_45 : decode cX8_scan 45 = .ok (.if_icmp .eq 14, 3) := by decide +kernel
theorem dX8_scan_48 : decode cX8_scan 48 = .ok (.aload_n 0, 1) := by decide +kernel
theorem dX8_scan_49 : decode cX8_scan 49 = .ok (.getfield 28, 3) := by decide +kernel
theorem dX8_scan_52 : decode cX8_scan 52 = .ok (.iload_n 3, 1) := by decide +kernel
theorem dX8_scan_53 : decode cX8_scan 53 = .ok (.iaload, 1) := by decide +kernel
theorem dX8_scan_54 : decode cX8_scan 54 = .ok (.bipush 10, 2) := by decide +kernel
theorem dX8_scan_56 : decode cX8_scan 56 = .ok (.if_icmp .ne 9, 3) := by decide +kernel
theorem dX8_scan_59 : decode cX8_scan 59 = .ok (.iinc 3 1, 3) := by decide +kernel
theorem dX8_scan_62 : decode cX8_scan 62 = .ok (.goto (-40), 3) := by decide +kernel
theorem dX8_scan_65 : decode cX8_scan 65 = .ok (.aload_n 0, 1) := by decide +kernel
theorem dX8_scan_66 : decode cX8_scan 66 = .ok (.iload_n 3, 1) := by decide +kernel
theorem dX8_scan_67 : decode cX8_scan 67 = .ok (.invokevirtual 60, 3) := by decide +kernel
theorem dX8_scan_70 : decode cX8_scan 70 = .ok (.istore 4, 2) := by decide +kernel
theorem dX8_scan_72 : decode cX8_scan 72 = .ok (.iload 4, 2) := by decide +kernel
theorem dX8_scan_74 : decode cX8_scan 74 = .ok (.iload_n 3, 1) := by decide +kernel
theorem dX8_scan_75 : decode cX8_scan 75 = .ok (.if_icmp .gt 11, 3) := by decide +kernel
theorem dX8_scan_78 : decode cX8_scan 78 = .ok (.aload_n 0, 1) := by decide +kernel
theorem dX8_scan_79 : decode cX8_scan 79 = .ok (.iconst 0, 1) := by decide +kernel
theorem dX8_scan_80 : decode cX8_scan 80 = .ok (.iload_n 3, 1) := by decide +kernel
theorem dX8_scan_81 : decode cX8_scan 81 = .ok (.lconst 0, 1) := by decide +kernel
theorem dX8_scan_82 : decode cX8_scan 82 = .ok (.invokevirtual 64, 3) := by decide +kernel
theorem dX8_scan_85 : decode cX8_scan 85 = .ok (.return_, 1) := by decide +kernel
theorem dX8_scan_86 : decode cX8_scan 86 = .ok (.iload 4, 2) := by decide +kernel
theorem dX8_scan_88 : decode cX8_scan 88 = .ok (.istore_n 3, 1) := by decide +kernel
theorem dX8_scan_89 : decode cX8_scan 89 = .ok (.goto (-67), 3) := by decide +kernel
theorem dX8_scan_92 : decode cX8_scan 92 = .ok (.aload_n 0, 1) := by decide +kernel
theorem dX8_scan_93 : decode cX8_scan 93 = .ok (.getfield 53, 3) := by decide +kernel
theorem dX8_scan_96 : decode cX8_scan 96 = .ok (.sipush 2000, 3) := by decide +kernel
theorem dX8_scan_99 : decode cX8_scan 99 = .ok (.if_icmp .le 15, 3) := by decide +kernel
theorem dX8_scan_102 : decode cX8_scan 102 = .ok (.aload_n 0, 1) := by decide +kernel
theorem dX8_scan_103 : decode cX8_scan 103 = .ok (.iconst 0, 1) := by decide +kernel
theorem dX8_scan_104 : decode cX8_scan 104 = .ok (.sipush 2000, 3) := by decide +kernel
theorem dX8_scan_107 : decode cX8_scan 107 = .ok (.lconst 0, 1) := by decide +kernel
theorem dX8_scan_108 : decode cX8_scan 108 = .ok (.invokevirtual 64, 3) := by decide +kernel
theorem dX8_scan_111 : decode cX8_scan 111 = .ok (.goto 13, 3) := by decide +kernel
theorem dX8_scan_114 : decode cX8_scan 114 = .ok (.aload_n 0, 1) := by decide +kernel
theorem dX8_scan_115 : decode cX8_scan 115 = .ok (.iconst 1, 1) := by decide +kernel
theorem dX8_scan_116 : decode cX8_scan 116 = .ok (.aload_n 0, 1) := by decide +kernel
theorem dX8_scan_117 : decode cX8_scan 117 = .ok (.getfield 53, 3) := by decide +kernel
theorem dX8_scan_120 : decode cX8_scan 120 = .ok (.lconst 0, 1) := by decide +kernel
theorem dX8_scan_121 : decode cX8_scan 121 = .ok (.invokevirtual 64, 3) := by decide +kernel
theorem dX8_scan_124 : decode cX8_scan 124 = .ok (.return_, 1) := by decide +kernel
theorem dX8_put_0 : decode cX8_put 0 = .ok (.aload_n 0, 1) := by decide +kernel
theorem dX8_put_1 : decode cX8_put 1 = .ok (.getfield 57, 3) := by decide +kernel
theorem dX8_put_4 : decode cX8_put 4 = .ok (.aload_n 0, 1) := by decide +kernel
theorem dX8_put_5 : decode cX8_put 5 = .ok (.getfield 9, 3) := by decide +kernel
theorem dX8_put_8 : decode cX8_put 8 = .ok (.arraylength, 1) := by decide +kernel
theorem dX8_put_9 : decode cX8_put 9 = .ok (.if_icmp .ge 43, 3) := by decide +kernel
theorem dX8_put_12 : decode cX8_put 12 = .ok (.aload_n 0, 1) := by decide +kernel
theorem dX8_put_13 : decode cX8_put 13 = .ok (.getfield 9, 3) := by decide +kernel
theorem dX8_put_16 : decode cX8_put 16 = .ok (.aload_n 0, 1) := by decide +kernel
theorem dX8_put_17 : decode cX8_put 17 = .ok (.getfield 57, 3) := by decide +kernel
theorem dX8_put_20 : decode cX8_put 20 = .ok (.iload_n 1, 1) := by decide +kernel
theorem dX8_put_21 : decode cX8_put 21 = .ok (.iastore, 1) := by decide +kernel
theorem dX8_put_22 : decode cX8_put 22 = .ok (.aload_n 0, 1) := by decide +kernel
theorem dX8_put_23 : decode cX8_put 23 = .ok (.getfield 15, 3) := by decide +kernel
theorem dX8_put_26 : decode cX8_put 26 = .ok (.aload_n 0, 1) := by decide +kernel
theorem dX8_put_27 : decode cX8_put 27 = .ok (.getfield 57, 3) := by decide +kernel
theorem dX8_put_30 : decode cX8_put 30 = .ok (.iload_n 2, 1) := by decide +kernel
theorem dX8_put_31 : decode cX8_put 31 = .ok (.iastore, 1) := by decide +kernel
theorem dX8_put_32 : decode cX8_put 32 = .ok (.aload_n 0, 1) := by decide +kernel
theorem dX8_put_33 : decode cX8_put 33 = .ok (.getfield 18, 3) := by decide +kernel
theorem dX8_put_36 : decode cX8_put 36 = .ok (.aload_n 0, 1) := by decide +kernel
theorem dX8_put_37 : decode cX8_put 37 = .ok (.getfield 57, 3) := by decide +kernel
theorem dX8_put_40 : decode cX8_put 40 = .ok (.lload_n 3, 1) := by decide +kernel
theorem dX8_put_41 : decode cX8_put 41 = .ok (.lastore, 1) := by decide +kernel
theorem dX8_put_42 : decode cX8_put 42 = .ok (.aload_n 0, 1) := by decide +kernel
theorem dX8_put_43 : decode cX8_put 43 = .ok (.dup, 1) := by decide +kernel
theorem dX8_put_44 : decode cX8_put 44 = .ok (.getfield 57, 3) := by decide +kernel
theorem dX8_put_47 : decode cX8_put 47 = .ok (.iconst 1, 1) := by decide +kernel
theorem dX8_put_48 : decode cX8_put 48 = .ok (.iadd, 1) := by decide +kernel
theorem dX8_put_49 : decode cX8_put 49 = .ok (.putfield 57, 3) := by decide +kernel
theorem dX8_put_52 : decode cX8_put 52 = .ok (.return_, 1) := by decide +kernel
theorem dX8_octetAt_0 : decode cX8_octetAt 0 = .ok (.iload_n 1, 1) := by decide +kernel
theorem dX8_octetAt_1 : decode cX8_octetAt 1 = .ok (.ifCond .lt 20, 3) := by decide +kernel
theorem dX8_octetAt_4 : decode cX8_octetAt 4 = .ok (.iload_n 1, 1) := by decide +kernel
theorem dX8_octetAt_5 : decode cX8_octetAt 5 = .ok (.aload_n 0, 1) := by decide +kernel
theorem dX8_octetAt_6 : decode cX8_octetAt 6 = .ok (.getfield 53, 3) := by decide +kernel
theorem dX8_octetAt_9 : decode cX8_octetAt 9 = .ok (.if_icmp .ge 12, 3) := by decide +kernel
theorem dX8_octetAt_12 : decode cX8_octetAt 12 = .ok (.aload_n 0, 1) := by decide +kernel
theorem dX8_octetAt_13 : decode cX8_octetAt 13 = .ok (.getfield 28, 3) := by decide +kernel
theorem dX8_octetAt_16 : decode cX8_octetAt 16 = .ok (.iload_n 1, 1) := by decide +kernel
theorem dX8_octetAt_17 : decode cX8_octetAt 17 = .ok (.iaload, 1) := by decide +kernel
theorem dX8_octetAt_18 : decode cX8_octetAt 18 = .ok (.goto 4, 3) := by decide +kernel
theorem dX8_octetAt_21 : decode cX8_octetAt 21 = .ok (.iconst (-1), 1) := by decide +kernel
theorem dX8_octetAt_22 : decode cX8_octetAt 22 = .ok (.ireturn, 1) := by decide +kernel
theorem dX8_scanToken_0 : decode cX8_scanToken 0 = .ok (.aload_n 0, 1) := by decide +kernel
theorem dX8_scanToken_1 : decode cX8_scanToken 1 = .ok (.iload_n 1, 1) := by decide +kernel
theorem dX8_scanToken_2 : decode cX8_scanToken 2 = .ok (.invokevirtual 68, 3) := by decide +kernel
theorem dX8_scanToken_5 : decode cX8_scanToken 5 = .ok (.istore_n 2, 1) := by decide +kernel
theorem dX8_scanToken_6 : decode cX8_scanToken 6 = .ok (.iload_n 2, 1) := by decide +kernel
theorem dX8_scanToken_7 : decode cX8_scanToken 7 = .ok (.invokestatic 71, 3) := by decide +kernel
theorem dX8_scanToken_10 : decode cX8_scanToken 10 = .ok (.ifCond .eq 9, 3) := by decide +kernel
theorem dX8_scanToken_13 : decode cX8_scanToken 13 = .ok (.aload_n 0, 1) := by decide +kernel
theorem dX8_scanToken_14 : decode cX8_scanToken 14 = .ok (.iload_n 1, 1) := by decide +kernel
theorem dX8_scanToken_15 : decode cX8_scanToken 15 = .ok (.invokevirtual 75, 3) := by decide +kernel
theorem dX8_scanToken_18 : decode cX8_scanToken 18 = .ok (.ireturn, 1) := by decide +kernel
theorem dX8_scanToken_19 : decode cX8_scanToken 19 = .ok (.iload_n 2, 1) := by decide +kernel
theorem dX8_scanToken_20 : decode cX8_scanToken 20 = .ok (.bipush 34, 2) := by decide +kernel
theorem dX8_scanToken_22 : decode cX8_scanToken 22 = .ok (.if_icmp .ne 9, 3) := by decide +kernel
theorem dX8_scanToken_25 : decode cX8_scanToken 25 = .ok (.aload_n 0, 1) := by decide +kernel
theorem dX8_scanToken_26 : decode cX8_scanToken 26 = .ok (.iload_n 1, 1) := by decide +kernel
theorem dX8_scanToken_27 : decode cX8_scanToken 27 = .ok (.invokevirtual 78, 3) := by decide +kernel
theorem dX8_scanToken_30 : decode cX8_scanToken 30 = .ok (.ireturn, 1) := by decide +kernel
theorem dX8_scanToken_31 : decode cX8_scanToken 31 = .ok (.iload_n 2, 1) := by decide +kernel
theorem dX8_scanToken_32 : decode cX8_scanToken 32 = .ok (.bipush 45, 2) := by decide +kernel
theorem dX8_scanToken_34 : decode cX8_scanToken 34 = .ok (.if_icmp .ne 12, 3) := by decide +kernel
theorem dX8_scanToken_37 : decode cX8_scanToken 37 = .ok (.aload_n 0, 1) := by decide +kernel
theorem dX8_scanToken_38 : decode cX8_scanToken 38 = .ok (.iload_n 1, 1) := by decide +kernel
theorem dX8_scanToken_39 : decode cX8_scanToken 39 = .ok (.iload_n 1, 1) := by decide +kernel
theorem dX8_scanToken_40 : decode cX8_scanToken 40 = .ok (.iconst 1, 1) := by decide +kernel
theorem dX8_scanToken_41 : decode cX8_scanToken 41 = .ok (.iadd, 1) := by decide +kernel
theorem dX8_scanToken_42 : decode cX8_scanToken 42 = .ok (.invokevirtual 81, 3) := by decide +kernel
theorem dX8_scanToken_45 : decode cX8_scanToken 45 = .ok (.ireturn, 1) := by decide +kernel
theorem dX8_scanToken_46 : decode cX8_scanToken 46 = .ok (.iload_n 2, 1) := by decide +kernel
theorem dX8_scanToken_47 : decode cX8_scanToken 47 = .ok (.invokestatic 84, 3) := by decide +kernel
theorem dX8_scanToken_50 : decode cX8_scanToken 50 = .ok (.ifCond .eq 56, 3) := by decide +kernel
theorem dX8_scanToken_53 : decode cX8_scanToken 53 = .ok (.iload_n 1, 1) := by decide +kernel
theorem dX8_scanToken_54 : decode cX8_scanToken 54 = .ok (.istore_n 3, 1) := by decide +kernel
theorem dX8_scanToken_55 : decode cX8_scanToken 55 = .ok (.iload_n 3, 1) := by decide +kernel
theorem dX8_scanToken_56 : decode cX8_scanToken 56 = .ok (.aload_n 0, 1) := by decide +kernel
theorem dX8_scanToken_57 : decode cX8_scanToken 57 = .ok (.getfield 53, 3) := by decide +kernel
theorem dX8_scanToken_60 : decode cX8_scanToken 60 = .ok (.if_icmp .ge 21, 3) := by decide +kernel
theorem dX8_scanToken_63 : decode cX8_scanToken 63 = .ok (.aload_n 0, 1) := by decide +kernel
theorem dX8_scanToken_64 : decode cX8_scanToken 64 = .ok (.getfield 28, 3) := by decide +kernel
theorem dX8_scanToken_67 : decode cX8_scanToken 67 = .ok (.iload_n 3, 1) := by decide +kernel
theorem dX8_scanToken_68 : decode cX8_scanToken 68 = .ok (.iaload, 1) := by decide +kernel
theorem dX8_scanToken_69 : decode cX8_scanToken 69 = .ok (.invokestatic 84, 3) := by decide +kernel
theorem dX8_scanToken_72 : decode cX8_scanToken 72 = .ok (.ifCond .eq 9, 3) := by decide +kernel
theorem dX8_scanToken_75 : decode cX8_scanToken 75 = .ok (.iinc 3 1, 3) := by decide +kernel
theorem dX8_scanToken_78 : decode cX8_scanToken 78 = .ok (.goto (-23), 3) := by decide +kernel
theorem dX8_scanToken_81 : decode cX8_scanToken 81 = .ok (.aload_n 0, 1) := by decide +kernel
theorem dX8_scanToken_82 : decode cX8_scanToken 82 = .ok (.iload_n 3, 1) := by decide +kernel
theorem dX8_scanToken_83 : decode cX8_scanToken 83 = .ok (.invokevirtual 68, 3) := by decide +kernel
theorem dX8_scanToken_86 : decode cX8_scanToken 86 = .ok (.bipush 46, 2) := by decide +kernel
theorem dX8_scanToken_88 : decode cX8_scanToken 88 = .ok (.if_icmp .ne 11, 3) := by decide +kernel
theorem dX8_scanToken_91 : decode cX8_scanToken 91 = .ok (.aload_n 0, 1) := by decide +kernel
theorem dX8_scanToken_92 : decode cX8_scanToken 92 = .ok (.iload_n 1, 1) := by decide +kernel
theorem dX8_scanToken_93 : decode cX8_scanToken 93 = .ok (.invokevirtual 87, 3) := by decide +kernel
theorem dX8_scanToken_96 : decode cX8_scanToken 96 = .ok (.goto 9, 3) := by decide +kernel
theorem dX8_scanToken_99 : decode cX8_scanToken 99 = .ok (.aload_n 0, 1) := by decide +kernel
theorem dX8_scanToken_100 : decode cX8_scanToken 100 = .ok (.iload_n 1, 1) := by decide +kernel
theorem dX8_scanToken_101 : decode cX8_scanToken 101 = .ok (.iload_n 1, 1) := by decide +kernel
theorem dX8_scanToken_102 : decode cX8_scanToken 102 = .ok (.invokevirtual 81, 3) := by decide +kernel
theorem dX8_scanToken_105 : decode cX8_scanToken 105 = .ok (.ireturn, 1) := by decide +kernel
theorem dX8_scanToken_106 : decode cX8_scanToken 106 = .ok (.aload_n 0, 1) := by decide +kernel
theorem dX8_scanToken_107 : decode cX8_scanToken 107 = .ok (.iload_n 1, 1) := by decide +kernel
theorem dX8_scanToken_108 : decode cX8_scanToken 108 = .ok (.iload_n 2, 1) := by decide +kernel
theorem dX8_scanToken_109 : decode cX8_scanToken 109 = .ok (.invokevirtual 90, 3) := by decide +kernel
theorem dX8_scanToken_112 : decode cX8_scanToken 112 = .ok (.ireturn, 1) := by decide +kernel
theorem dX8_scanWord_0 : decode cX8_scanWord 0 = .ok (.iload_n 1, 1) := by decide +kernel
theorem dX8_scanWord_1 : decode cX8_scanWord 1 = .ok (.istore_n 2, 1) := by decide +kernel
theorem dX8_scanWord_2 : decode cX8_scanWord 2 = .ok (.lconst 0, 1) := by decide +kernel
theorem dX8_scanWord_3 : decode cX8_scanWord 3 = .ok (.lstore_n 3, 1) := by decide +kernel
theorem dX8_scanWord_4 : decode cX8_scanWord 4 = .ok (.iconst 1, 1) := by decide +kernel
theorem dX8_scanWord_5 : decode cX8_scanWord 5 = .ok (.istore 5, 2) := by decide +kernel
theorem dX8_scanWord_7 : decode cX8_scanWord 7 = .ok (.iload_n 2, 1) := by decide +kernel
theorem dX8_scanWord_8 : decode cX8_scanWord 8 = .ok (.aload_n 0, 1) := by decide +kernel
theorem dX8_scanWord_9 : decode cX8_scanWord 9 = .ok (.getfield 53, 3) := by decide +kernel
theorem dX8_scanWord_12 : decode cX8_scanWord 12 = .ok (.if_icmp .ge 73, 3) := by decide +kernel
theorem dX8_scanWord_15 : decode cX8_scanWord 15 = .ok (.aload_n 0, 1) := by decide +kernel
theorem dX8_scanWord_16 : decode cX8_scanWord 16 = .ok (.getfield 28, 3) := by decide +kernel
theorem dX8_scanWord_19 : decode cX8_scanWord 19 = .ok (.iload_n 2, 1) := by decide +kernel
theorem dX8_scanWord_20 : decode cX8_scanWord 20 = .ok (.iaload, 1) := by decide +kernel
theorem dX8_scanWord_21 : decode cX8_scanWord 21 = .ok (.invokestatic 71, 3) := by decide +kernel
theorem dX8_scanWord_24 : decode cX8_scanWord 24 = .ok (.ifCond .ne 15, 3) := by decide +kernel
theorem dX8_scanWord_27 : decode cX8_scanWord 27 = .ok (.aload_n 0, 1) := by decide +kernel
theorem dX8_scanWord_28 : decode cX8_scanWord 28 = .ok (.getfield 28, 3) := by decide +kernel
theorem dX8_scanWord_31 : decode cX8_scanWord 31 = .ok (.iload_n 2, 1) := by decide +kernel
theorem dX8_scanWord_32 : decode cX8_scanWord 32 = .ok (.iaload, 1) := by decide +kernel
theorem dX8_scanWord_33 : decode cX8_scanWord 33 = .ok (.invokestatic 84, 3) := by decide +kernel
theorem dX8_scanWord_36 : decode cX8_scanWord 36 = .ok (.ifCond .eq 49, 3) := by decide +kernel
theorem dX8_scanWord_39 : decode cX8_scanWord 39 = .ok (.aload_n 0, 1) := by decide +kernel
theorem dX8_scanWord_40 : decode cX8_scanWord 40 = .ok (.getfield 28, 3) := by decide +kernel
theorem dX8_scanWord_43 : decode cX8_scanWord 43 = .ok (.iload_n 2, 1) := by decide +kernel
theorem dX8_scanWord_44 : decode cX8_scanWord 44 = .ok (.iaload, 1) := by decide +kernel
theorem dX8_scanWord_45 : decode cX8_scanWord 45 = .ok (.invokestatic 71, 3) := by decide +kernel
theorem dX8_scanWord_48 : decode cX8_scanWord 48 = .ok (.ifCond .eq 28, 3) := by decide +kernel
theorem dX8_scanWord_51 : decode cX8_scanWord 51 = .ok (.iload_n 2, 1) := by decide +kernel
theorem dX8_scanWord_52 : decode cX8_scanWord 52 = .ok (.iload_n 1, 1) := by decide +kernel
theorem dX8_scanWord_53 : decode cX8_scanWord 53 = .ok (.isub, 1) := by decide +kernel
theorem dX8_scanWord_54 : decode cX8_scanWord 54 = .ok (.bipush 8, 2) := by decide +kernel
theorem dX8_scanWord_56 : decode cX8_scanWord 56 = .ok (.if_icmp .ge 20, 3) := by decide +kernel
theorem dX8_scanWord_59 : decode cX8_scanWord 59 = .ok (.lload_n 3, 1) := by decide +kernel
theorem dX8_scanWord_60 : decode cX8_scanWord 60 = .ok (.iload_n 2, 1) := by decide +kernel
theorem dX8_scanWord_61 : decode cX8_scanWord 61 = .ok (.iload_n 1, 1) := by decide +kernel
theorem dX8_scanWord_62 : decode cX8_scanWord 62 = .ok (.isub, 1) := by decide +kernel
theorem dX8_scanWord_63 : decode cX8_scanWord 63 = .ok (.aload_n 0, 1) := by decide +kernel
theorem dX8_scanWord_64 : decode cX8_scanWord 64 = .ok (.getfield 28, 3) := by decide +kernel
theorem dX8_scanWord_67 : decode cX8_scanWord 67 = .ok (.iload_n 2, 1) := by decide +kernel
theorem dX8_scanWord_68 : decode cX8_scanWord 68 = .ok (.iaload, 1) := by decide +kernel
theorem dX8_scanWord_69 : decode cX8_scanWord 69 = .ok (.invokestatic 43, 3) := by decide +kernel
theorem dX8_scanWord_72 : decode cX8_scanWord 72 = .ok (.lstore_n 3, 1) := by decide +kernel
theorem dX8_scanWord_73 : decode cX8_scanWord 73 = .ok (.goto 6, 3) := by decide +kernel
theorem dX8_scanWord_76 : decode cX8_scanWord 76 = .ok (.iconst 0, 1) := by decide +kernel
theorem dX8_scanWord_77 : decode cX8_scanWord 77 = .ok (.istore 5, 2) := by decide +kernel
theorem dX8_scanWord_79 : decode cX8_scanWord 79 = .ok (.iinc 2 1, 3) := by decide +kernel
theorem dX8_scanWord_82 : decode cX8_scanWord 82 = .ok (.goto (-75), 3) := by decide +kernel
theorem dX8_scanWord_85 : decode cX8_scanWord 85 = .ok (.iload 5, 2) := by decide +kernel
theorem dX8_scanWord_87 : decode cX8_scanWord 87 = .ok (.ifCond .ne 5, 3) := by decide +kernel
theorem dX8_scanWord_90 : decode cX8_scanWord 90 = .ok (.iconst (-1), 1) := by decide +kernel
theorem dX8_scanWord_91 : decode cX8_scanWord 91 = .ok (.ireturn, 1) := by decide +kernel
theorem dX8_scanWord_92 : decode cX8_scanWord 92 = .ok (.iconst 2, 1) := by decide +kernel
theorem dX8_scanWord_93 : decode cX8_scanWord 93 = .ok (.istore 6, 2) := by decide +kernel
theorem dX8_scanWord_95 : decode cX8_scanWord 95 = .ok (.iconst 0, 1) := by decide +kernel
theorem dX8_scanWord_96 : decode cX8_scanWord 96 = .ok (.istore 7, 2) := by decide +kernel
theorem dX8_scanWord_98 : decode cX8_scanWord 98 = .ok (.iload 7, 2) := by decide +kernel
theorem dX8_scanWord_100 : decode cX8_scanWord 100 = .ok (.bipush 20, 2) := by decide +kernel
theorem dX8_scanWord_102 : decode cX8_scanWord 102 = .ok (.if_icmp .ge 28, 3) := by decide +kernel
theorem dX8_scanWord_105 : decode cX8_scanWord 105 = .ok (.aload_n 0, 1) := by decide +kernel
theorem dX8_scanWord_106 : decode cX8_scanWord 106 = .ok (.getfield 22, 3) := by decide +kernel
theorem dX8_scanWord_109 : decode cX8_scanWord 109 = .ok (.iload 7, 2) := by decide +kernel
theorem dX8_scanWord_111 : decode cX8_scanWord 111 = .ok (.laload, 1) := by decide +kernel
theorem dX8_scanWord_112 : decode cX8_scanWord 112 = .ok (.lload_n 3, 1) := by decide +kernel
theorem dX8_scanWord_113 : decode cX8_scanWord 113 = .ok (.lcmp, 1) := by decide +kernel
theorem dX8_scanWord_114 : decode cX8_scanWord 114 = .ok (.ifCond .ne 10, 3) := by decide +kernel
theorem dX8_scanWord_117 : decode cX8_scanWord 117 = .ok (.bipush 20, 2) := by decide +kernel
theorem dX8_scanWord_119 : decode cX8_scanWord 119 = .ok (.iload 7, 2) := by decide +kernel
theorem dX8_scanWord_121 : decode cX8_scanWord 121 = .ok (.iadd, 1) := by decide +kernel
theorem dX8_scanWord_122 : decode cX8_scanWord 122 = .ok (.istore 6, 2) := by decide +kernel
theorem dX8_scanWord_124 : decode cX8_scanWord 124 = .ok (.iinc 7 1, 3) := by decide +kernel
theorem dX8_scanWord_127 : decode cX8_scanWord 127 = .ok (.goto (-29), 3) := by decide +kernel
theorem dX8_scanWord_130 : decode cX8_scanWord 130 = .ok (.aload_n 0, 1) := by decide +kernel
theorem dX8_scanWord_131 : decode cX8_scanWord 131 = .ok (.iload 6, 2) := by decide +kernel
theorem dX8_scanWord_133 : decode cX8_scanWord 133 = .ok (.iload_n 1, 1) := by decide +kernel
theorem dX8_scanWord_134 : decode cX8_scanWord 134 = .ok (.lload_n 3, 1) := by decide +kernel
theorem dX8_scanWord_135 : decode cX8_scanWord 135 = .ok (.invokevirtual 64, 3) := by decide +kernel
theorem dX8_scanWord_138 : decode cX8_scanWord 138 = .ok (.iload_n 2, 1) := by decide +kernel
theorem dX8_scanWord_139 : decode cX8_scanWord 139 = .ok (.ireturn, 1) := by decide +kernel
theorem dX8_scanNumber_0 : decode cX8_scanNumber 0 = .ok (.iload_n 2, 1) := by decide +kernel
theorem dX8_scanNumber_1 : decode cX8_scanNumber 1 = .ok (.istore_n 3, 1) := by decide +kernel
theorem dX8_scanNumber_2 : decode cX8_scanNumber 2 = .ok (.lconst 0, 1) := by decide +kernel
theorem dX8_scanNumber_3 : decode cX8_scanNumber 3 = .ok (.lstore 4, 2) := by decide +kernel
theorem dX8_scanNumber_5 : decode cX8_scanNumber 5 = .ok (.iconst 1, 1) := by decide +kernel
theorem dX8_scanNumber_6 : decode cX8_scanNumber 6 = .ok (.istore 6, 2) := by decide +kernel
theorem dX8_scanNumber_8 : decode cX8_scanNumber 8 = .ok (.iload_n 3, 1) := by decide +kernel
theorem dX8_scanNumber_9 : decode cX8_scanNumber 9 = .ok (.aload_n 0, 1) := by decide +kernel
theorem dX8_scanNumber_10 : decode cX8_scanNumber 10 = .ok (.getfield 53, 3) := by decide +kernel
theorem dX8_scanNumber_13 : decode cX8_scanNumber 13 = .ok (.if_icmp .ge 79, 3) := by decide +kernel
theorem dX8_scanNumber_16 : decode cX8_scanNumber 16 = .ok (.aload_n 0, 1) := by decide +kernel
theorem dX8_scanNumber_17 : decode cX8_scanNumber 17 = .ok (.getfield 28, 3) := by decide +kernel
theorem dX8_scanNumber_20 : decode cX8_scanNumber 20 = .ok (.iload_n 3, 1) := by decide +kernel
theorem dX8_scanNumber_21 : decode cX8_scanNumber 21 = .ok (.iaload, 1) := by decide +kernel
theorem dX8_scanNumber_22 : decode cX8_scanNumber 22 = .ok (.invokestatic 71, 3) := by decide +kernel
theorem dX8_scanNumber_25 : decode cX8_scanNumber 25 = .ok (.ifCond .ne 15, 3) := by decide +kernel
theorem dX8_scanNumber_28 : decode cX8_scanNumber 28 = .ok (.aload_n 0, 1) := by decide +kernel
theorem dX8_scanNumber_29 : decode cX8_scanNumber 29 = .ok (.getfield 28, 3) := by decide +kernel
theorem dX8_scanNumber_32 : decode cX8_scanNumber 32 = .ok (.iload_n 3, 1) := by decide +kernel
theorem dX8_scanNumber_33 : decode cX8_scanNumber 33 = .ok (.iaload, 1) := by decide +kernel
theorem dX8_scanNumber_34 : decode cX8_scanNumber 34 = .ok (.invokestatic 84, 3) := by decide +kernel
theorem dX8_scanNumber_37 : decode cX8_scanNumber 37 = .ok (.ifCond .eq 55, 3) := by decide +kernel
theorem dX8_scanNumber_40 : decode cX8_scanNumber 40 = .ok (.aload_n 0, 1) := by decide +kernel
theorem dX8_scanNumber_41 : decode cX8_scanNumber 41 = .ok (.getfield 28, 3) := by decide +kernel
theorem dX8_scanNumber_44 : decode cX8_scanNumber 44 = .ok (.iload_n 3, 1) := by decide +kernel
theorem dX8_scanNumber_45 : decode cX8_scanNumber 45 = .ok (.iaload, 1) := by decide +kernel
theorem dX8_scanNumber_46 : decode cX8_scanNumber 46 = .ok (.invokestatic 84, 3) := by decide +kernel
theorem dX8_scanNumber_49 : decode cX8_scanNumber 49 = .ok (.ifCond .eq 34, 3) := by decide +kernel
theorem dX8_scanNumber_52 : decode cX8_scanNumber 52 = .ok (.iload_n 3, 1) := by decide +kernel
theorem dX8_scanNumber_53 : decode cX8_scanNumber 53 = .ok (.iload_n 2, 1) := by decide +kernel
theorem dX8_scanNumber_54 : decode cX8_scanNumber 54 = .ok (.isub, 1) := by decide +kernel
theorem dX8_scanNumber_55 : decode cX8_scanNumber 55 = .ok (.bipush 10, 2) := by decide +kernel
theorem dX8_scanNumber_57 : decode cX8_scanNumber 57 = .ok (.if_icmp .ge 26, 3) := by decide +kernel
theorem dX8_scanNumber_60 : decode cX8_scanNumber 60 = .ok (.ldc2_w 93, 3) := by decide +kernel
theorem dX8_scanNumber_63 : decode cX8_scanNumber 63 = .ok (.lload 4, 2) := by decide +kernel
theorem dX8_scanNumber_65 : decode cX8_scanNumber 65 = .ok (.lmul, 1) := by decide +kernel
theorem dX8_scanNumber_66 : decode cX8_scanNumber 66 = .ok (.aload_n 0, 1) := by decide +kernel
theorem dX8_scanNumber_67 : decode cX8_scanNumber 67 = .ok (.getfield 28, 3) := by decide +kernel
theorem dX8_scanNumber_70 : decode cX8_scanNumber 70 = .ok (.iload_n 3, 1) := by decide +kernel
theorem dX8_scanNumber_71 : decode cX8_scanNumber 71 = .ok (.iaload, 1) := by decide +kernel
theorem dX8_scanNumber_72 : decode cX8_scanNumber 72 = .ok (.i2l, 1) := by decide +kernel
theorem dX8_scanNumber_73 : decode cX8_scanNumber 73 = .ok (.ladd, 1) := by decide +kernel
theorem dX8_scanNumber_74 : decode cX8_scanNumber 74 = .ok (.ldc2_w 95, 3) := by decide +kernel
theorem dX8_scanNumber_77 : decode cX8_scanNumber 77 = .ok (.lsub, 1) := by decide +kernel
theorem dX8_scanNumber_78 : decode cX8_scanNumber 78 = .ok (.lstore 4, 2) := by decide +kernel
theorem dX8_scanNumber_80 : decode cX8_scanNumber 80 = .ok (.goto 6, 3) := by decide +kernel
theorem dX8_scanNumber_83 : decode cX8_scanNumber 83 = .ok (.iconst 0, 1) := by decide +kernel
theorem dX8_scanNumber_84 : decode cX8_scanNumber 84 = .ok (.istore 6, 2) := by decide +kernel
theorem dX8_scanNumber_86 : decode cX8_scanNumber 86 = .ok (.iinc 3 1, 3) := by decide +kernel
theorem dX8_scanNumber_89 : decode cX8_scanNumber 89 = .ok (.goto (-81), 3) := by decide +kernel
theorem dX8_scanNumber_92 : decode cX8_scanNumber 92 = .ok (.iload_n 1, 1) := by decide +kernel
theorem dX8_scanNumber_93 : decode cX8_scanNumber 93 = .ok (.iload_n 2, 1) := by decide +kernel
theorem dX8_scanNumber_94 : decode cX8_scanNumber 94 = .ok (.if_icmp .ge 8, 3) := by decide +kernel
theorem dX8_scanNumber_97 : decode cX8_scanNumber 97 = .ok (.lload 4, 2) := by decide +kernel
theorem dX8_scanNumber_99 : decode cX8_scanNumber 99 = .ok (.lneg, 1) := by decide +kernel
theorem dX8_scanNumber_100 : decode cX8_scanNumber 100 = .ok (.lstore 4, 2) := by decide +kernel
theorem dX8_scanNumber_102 : decode cX8_scanNumber 102 = .ok (.iload 6, 2) := by decide +kernel
theorem dX8_scanNumber_104 : decode cX8_scanNumber 104 = .ok (.ifCond .eq 18, 3) := by decide +kernel
theorem dX8_scanNumber_107 : decode cX8_scanNumber 107 = .ok (.iload_n 3, 1) := by decide +kernel
theorem dX8_scanNumber_108 : decode cX8_scanNumber 108 = .ok (.iload_n 2, 1) := by decide +kernel
theorem dX8_scanNumber_109 : decode cX8_scanNumber 109 = .ok (.if_icmp .eq 13, 3) := by decide +kernel
theorem dX8_scanNumber_112 : decode cX8_scanNumber 112 = .ok (.lload 4, 2) := by decide +kernel
theorem dX8_scanNumber_114 : decode cX8_scanNumber 114 = .ok (.lload 4, 2) := by decide +kernel
theorem dX8_scanNumber_116 : decode cX8_scanNumber 116 = .ok (.l2i, 1) := by decide +kernel
theorem dX8_scanNumber_117 : decode cX8_scanNumber 117 = .ok (.i2l, 1) := by decide +kernel
theorem dX8_scanNumber_118 : decode cX8_scanNumber 118 = .ok (.lcmp, 1) := by decide +kernel
theorem dX8_scanNumber_119 : decode cX8_scanNumber 119 = .ok (.ifCond .eq 5, 3) := by decide +kernel
theorem dX8_scanNumber_122 : decode cX8_scanNumber 122 = .ok (.iconst (-1), 1) := by decide +kernel
theorem dX8_scanNumber_123 : decode cX8_scanNumber 123 = .ok (.ireturn, 1) := by decide +kernel
theorem dX8_scanNumber_124 : decode cX8_scanNumber 124 = .ok (.aload_n 0, 1) := by decide +kernel
theorem dX8_scanNumber_125 : decode cX8_scanNumber 125 = .ok (.iconst 3, 1) := by decide +kernel
theorem dX8_scanNumber_126 : decode cX8_scanNumber 126 = .ok (.iload_n 1, 1) := by decide +kernel
theorem dX8_scanNumber_127 : decode cX8_scanNumber 127 = .ok (.lload 4, 2) := by decide +kernel
theorem dX8_scanNumber_129 : decode cX8_scanNumber 129 = .ok (.invokevirtual 64, 3) := by decide +kernel
theorem dX8_scanNumber_132 : decode cX8_scanNumber 132 = .ok (.iload_n 3, 1) := by decide +kernel
theorem dX8_scanNumber_133 : decode cX8_scanNumber 133 = .ok (.ireturn, 1) := by decide +kernel
theorem dX8_scanAddress_0 : decode cX8_scanAddress 0 = .ok (.iload_n 1, 1) := by decide +kernel
theorem dX8_scanAddress_1 : decode cX8_scanAddress 1 = .ok (.istore_n 2, 1) := by decide +kernel
theorem dX8_scanAddress_2 : decode cX8_scanAddress 2 = .ok (.iconst 0, 1) := by decide +kernel
theorem dX8_scanAddress_3 : decode cX8_scanAddress 3 = .ok (.istore_n 3, 1) := by decide +kernel
theorem dX8_scanAddress_4 : decode cX8_scanAddress 4 = .ok (.iconst 0, 1) := by decide +kernel
theorem dX8_scanAddress_5 : decode cX8_scanAddress 5 = .ok (.istore 4, 2) := by decide +kernel
theorem dX8_scanAddress_7 : decode cX8_scanAddress 7 = .ok (.iconst 0, 1) := by decide +kernel
theorem dX8_scanAddress_8 : decode cX8_scanAddress 8 = .ok (.istore 5, 2) := by decide +kernel
theorem dX8_scanAddress_10 : decode cX8_scanAddress 10 = .ok (.iconst 0, 1) := by decide +kernel
theorem dX8_scanAddress_11 : decode cX8_scanAddress 11 = .ok (.istore 6, 2) := by decide +kernel
theorem dX8_scanAddress_13 : decode cX8_scanAddress 13 = .ok (.iconst 1, 1) := by decide +kernel
theorem dX8_scanAddress_14 : decode cX8_scanAddress 14 = .ok (.istore 7, 2) := by decide +kernel
theorem dX8_scanAddress_16 : decode cX8_scanAddress 16 = .ok (.iload_n 2, 1) := by decide +kernel
theorem dX8_scanAddress_17 : decode cX8_scanAddress 17 = .ok (.aload_n 0, 1) := by decide +kernel
theorem dX8_scanAddress_18 : decode cX8_scanAddress 18 = .ok (.getfield 53, 3) := by decide +kernel
theorem dX8_scanAddress_21 : decode cX8_scanAddress 21 = .ok (.if_icmp .ge 175, 3) := by decide +kernel
theorem dX8_scanAddress_24 : decode cX8_scanAddress 24 = .ok (.aload_n 0, 1) := by decide +kernel
theorem dX8_scanAddress_25 : decode cX8_scanAddress 25 = .ok (.getfield 28, 3) := by decide +kernel
theorem dX8_scanAddress_28 : decode cX8_scanAddress 28 = .ok (.iload_n 2, 1) := by decide +kernel
theorem dX8_scanAddress_29 : decode cX8_scanAddress 29 = .ok (.iaload, 1) := by decide +kernel
theorem dX8_scanAddress_30 : decode cX8_scanAddress 30 = .ok (.invokestatic 71, 3) := by decide +kernel
theorem dX8_scanAddress_33 : decode cX8_scanAddress 33 = .ok (.ifCond .ne 26, 3) := by decide +kernel
theorem dX8_scanAddress_36 : decode cX8_scanAddress 36 = .ok (.aload_n 0, 1) := by decide +kernel
theorem dX8_scanAddress_37 : decode cX8_scanAddress 37 = .ok (.getfield 28, 3) := by decide +kernel
theorem dX8_scanAddress_40 : decode cX8_scanAddress 40 = .ok (.iload_n 2, 1) := by decide +kernel
theorem dX8_scanAddress_41 : decode cX8_scanAddress 41 = .ok (.iaload, 1) := by decide +kernel
theorem dX8_scanAddress_42 : decode cX8_scanAddress 42 = .ok (.invokestatic 84, 3) := by decide +kernel
theorem dX8_scanAddress_45 : decode cX8_scanAddress 45 = .ok (.ifCond .ne 14, 3) := by decide +kernel
theorem dX8_scanAddress_48 : decode cX8_scanAddress 48 = .ok (.aload_n 0, 1) := by decide +kernel
theorem dX8_scanAddress_49 : decode cX8_scanAddress 49 = .ok (.getfield 28, 3) := by decide +kernel
theorem dX8_scanAddress_52 : decode cX8_scanAddress 52 = .ok (.iload_n 2, 1) := by decide +kernel
theorem dX8_scanAddress_53 : decode cX8_scanAddress 53 = .ok (.iaload, 1) := by decide +kernel
theorem dX8_scanAddress_54 : decode cX8_scanAddress 54 = .ok (.bipush 46, 2) := by decide +kernel
theorem dX8_scanAddress_56 : decode cX8_scanAddress 56 = .ok (.if_icmp .ne 140, 3) := by decide +kernel
theorem dX8_scanAddress_59 : decode cX8_scanAddress 59 = .ok (.aload_n 0, 1) := by decide +kernel
theorem dX8_scanAddress_60 : decode cX8_scanAddress 60 = .ok (.getfield 28, 3) := by decide +kernel
theorem dX8_scanAddress_63 : decode cX8_scanAddress 63 = .ok (.iload_n 2, 1) := by decide +kernel
theorem dX8_scanAddress_64 : decode cX8_scanAddress 64 = .ok (.iaload, 1) := by decide +kernel
theorem dX8_scanAddress_65 : decode cX8_scanAddress 65 = .ok (.bipush 46, 2) := by decide +kernel
theorem dX8_scanAddress_67 : decode cX8_scanAddress 67 = .ok (.if_icmp .ne 44, 3) := by decide +kernel
theorem dX8_scanAddress_70 : decode cX8_scanAddress 70 = .ok (.iload 7, 2) := by decide +kernel
theorem dX8_scanAddress_72 : decode cX8_scanAddress 72 = .ok (.ifCond .eq 12, 3) := by decide +kernel
theorem dX8_scanAddress_75 : decode cX8_scanAddress 75 = .ok (.iload 5, 2) := by decide +kernel
theorem dX8_scanAddress_77 : decode cX8_scanAddress 77 = .ok (.ifCond .le 7, 3) := by decide +kernel
theorem dX8_scanAddress_80 : decode cX8_scanAddress 80 = .ok (.iconst 1, 1) := by decide +kernel
theorem dX8_scanAddress_81 : decode cX8_scanAddress 81 = .ok (.goto 4, 3) := by decide +kernel
theorem dX8_scanAddress_84 : decode cX8_scanAddress 84 = .ok (.iconst 0, 1) := by decide +kernel
theorem dX8_scanAddress_85 : decode cX8_scanAddress 85 = .ok (.istore 7, 2) := by decide +kernel
theorem dX8_scanAddress_87 : decode cX8_scanAddress 87 = .ok (.iload_n 3, 1) := by decide +kernel
theorem dX8_scanAddress_88 : decode cX8_scanAddress 88 = .ok (.bipush 8, 2) := by decide +kernel
theorem dX8_scanAddress_90 : decode cX8_scanAddress 90 = .ok (.ishl, 1) := by decide +kernel
theorem dX8_scanAddress_91 : decode cX8_scanAddress 91 = .ok (.iload 4, 2) := by decide +kernel
theorem dX8_scanAddress_93 : decode cX8_scanAddress 93 = .ok (.sipush 255, 3) := by decide +kernel
theorem dX8_scanAddress_96 : decode cX8_scanAddress 96 = .ok (.iand, 1) := by decide +kernel
theorem dX8_scanAddress_97 : decode cX8_scanAddress 97 = .ok (.ior, 1) := by decide +kernel
theorem dX8_scanAddress_98 : decode cX8_scanAddress 98 = .ok (.istore_n 3, 1) := by decide +kernel
theorem dX8_scanAddress_99 : decode cX8_scanAddress 99 = .ok (.iinc 6 1, 3) := by decide +kernel
theorem dX8_scanAddress_102 : decode cX8_scanAddress 102 = .ok (.iconst 0, 1) := by decide +kernel
theorem dX8_scanAddress_103 : decode cX8_scanAddress 103 = .ok (.istore 4, 2) := by decide +kernel
theorem dX8_scanAddress_105 : decode cX8_scanAddress 105 = .ok (.iconst 0, 1) := by decide +kernel
theorem dX8_scanAddress_106 : decode cX8_scanAddress 106 = .ok (.istore 5, 2) := by decide +kernel
theorem dX8_scanAddress_108 : decode cX8_scanAddress 108 = .ok (.goto 82, 3) := by decide +kernel
theorem dX8_scanAddress_111 : decode cX8_scanAddress 111 = .ok (.iinc 5 1, 3) := by decide +kernel
theorem dX8_scanAddress_114 : decode cX8_scanAddress 114 = .ok (.iload 7, 2) := by decide +kernel
theorem dX8_scanAddress_116 : decode cX8_scanAddress 116 = .ok (.ifCond .eq 25, 3) := by decide +kernel
theorem dX8_scanAddress_119 : decode cX8_scanAddress 119 = .ok (.aload_n 0, 1) := by decide +kernel
theorem dX8_scanAddress_120 : decode cX8_scanAddress 120 = .ok (.getfield 28, 3) := by decide +kernel
theorem dX8_scanAddress_123 : decode cX8_scanAddress 123 = .ok (.iload_n 2, 1) := by decide +kernel
theorem dX8_scanAddress_124 : decode cX8_scanAddress 124 = .ok (.iaload, 1) := by decide +kernel
theorem dX8_scanAddress_125 : decode cX8_scanAddress 125 = .ok (.invokestatic 84, 3) := by decide +kernel
theorem dX8_scanAddress_128 : decode cX8_scanAddress 128 = .ok (.ifCond .eq 13, 3) := by decide +kernel
theorem dX8_scanAddress_131 : decode cX8_scanAddress 131 = .ok (.iload 5, 2) := by decide +kernel
theorem dX8_scanAddress_133 : decode cX8_scanAddress 133 = .ok (.iconst 3, 1) := by decide +kernel
theorem dX8_scanAddress_134 : decode cX8_scanAddress 134 = .ok (.if_icmp .gt 7, 3) := by decide +kernel
theorem dX8_scanAddress_137 : decode cX8_scanAddress 137 = .ok (.iconst 1, 1) := by decide +kernel
theorem dX8_scanAddress_138 : decode cX8_scanAddress 138 = .ok (.goto 4, 3) := by decide +kernel
theorem dX8_scanAddress_141 : decode cX8_scanAddress 141 = .ok (.iconst 0, 1) := by decide +kernel
theorem dX8_scanAddress_142 : decode cX8_scanAddress 142 = .ok (.istore 7, 2) := by decide +kernel
theorem dX8_scanAddress_144 : decode cX8_scanAddress 144 = .ok (.iload 7, 2) := by decide +kernel
theorem dX8_scanAddress_146 : decode cX8_scanAddress 146 = .ok (.ifCond .eq 21, 3) := by decide +kernel
theorem dX8_scanAddress_149 : decode cX8_scanAddress 149 = .ok (.bipush 10, 2) := by decide +kernel
theorem dX8_scanAddress_151 : decode cX8_scanAddress 151 = .ok (.iload 4, 2) := by decide +kernel
theorem dX8_scanAddress_153 : decode cX8_scanAddress 153 = .ok (.imul, 1) := by decide +kernel
theorem dX8_scanAddress_154 : decode cX8_scanAddress 154 = .ok (.aload_n 0, 1) := by decide +kernel
theorem dX8_scanAddress_155 : decode cX8_scanAddress 155 = .ok (.getfield 28, 3) := by decide +kernel
theorem dX8_scanAddress_158 : decode cX8_scanAddress 158 = .ok (.iload_n 2, 1) := by decide +kernel
theorem dX8_scanAddress_159 : decode cX8_scanAddress 159 = .ok (.iaload, 1) := by decide +kernel
theorem dX8_scanAddress_160 : decode cX8_scanAddress 160 = .ok (.iadd, 1) := by decide +kernel
theorem dX8_scanAddress_161 : decode cX8_scanAddress 161 = .ok (.bipush 48, 2) := by decide +kernel
theorem dX8_scanAddress_163 : decode cX8_scanAddress 163 = .ok (.isub, 1) := by decide +kernel
theorem dX8_scanAddress_164 : decode cX8_scanAddress 164 = .ok (.goto 4, 3) := by decide +kernel
theorem dX8_scanAddress_167 : decode cX8_scanAddress 167 = .ok (.iconst 0, 1) := by decide +kernel
theorem dX8_scanAddress_168 : decode cX8_scanAddress 168 = .ok (.istore 4, 2) := by decide +kernel
theorem dX8_scanAddress_170 : decode cX8_scanAddress 170 = .ok (.iload 7, 2) := by decide +kernel
theorem dX8_scanAddress_172 : decode cX8_scanAddress 172 = .ok (.ifCond .eq 15, 3) := by decide +kernel
theorem dX8_scanAddress_175 : decode cX8_scanAddress 175 = .ok (.iload 4, 2) := by decide +kernel
theorem dX8_scanAddress_177 : decode cX8_scanAddress 177 = .ok (.sipush 255, 3) := by decide +kernel
theorem dX8_scanAddress_180 : decode cX8_scanAddress 180 = .ok (.if_icmp .gt 7, 3) := by decide +kernel
theorem dX8_scanAddress_183 : decode cX8_scanAddress 183 = .ok (.iconst 1, 1) := by decide +kernel
theorem dX8_scanAddress_184 : decode cX8_scanAddress 184 = .ok (.goto 4, 3) := by decide +kernel
theorem dX8_scanAddress_187 : decode cX8_scanAddress 187 = .ok (.iconst 0, 1) := by decide +kernel
theorem dX8_scanAddress_188 : decode cX8_scanAddress 188 = .ok (.istore 7, 2) := by decide +kernel
theorem dX8_scanAddress_190 : decode cX8_scanAddress 190 = .ok (.iinc 2 1, 3) := by decide +kernel
theorem dX8_scanAddress_193 : decode cX8_scanAddress 193 = .ok (.goto (-177), 3) := by decide +kernel
theorem dX8_scanAddress_196 : decode cX8_scanAddress 196 = .ok (.iload 7, 2) := by decide +kernel
theorem dX8_scanAddress_198 : decode cX8_scanAddress 198 = .ok (.ifCond .eq 14, 3) := by decide +kernel
theorem dX8_scanAddress_201 : decode cX8_scanAddress 201 = .ok (.iload 6, 2) := by decide +kernel
theorem dX8_scanAddress_203 : decode cX8_scanAddress 203 = .ok (.iconst 3, 1) := by decide +kernel
theorem dX8_scanAddress_204 : decode cX8_scanAddress 204 = .ok (.if_icmp .ne 8, 3) := by decide +kernel
theorem dX8_scanAddress_207 : decode cX8_scanAddress 207 = .ok (.iload 5, 2) := by decide +kernel
theorem dX8_scanAddress_209 : decode cX8_scanAddress 209 = .ok (.ifCond .ne 5, 3) := by decide +kernel
theorem dX8_scanAddress_212 : decode cX8_scanAddress 212 = .ok (.iconst (-1), 1) := by decide +kernel
theorem dX8_scanAddress_213 : decode cX8_scanAddress 213 = .ok (.ireturn, 1) := by decide +kernel
theorem dX8_scanAddress_214 : decode cX8_scanAddress 214 = .ok (.aload_n 0, 1) := by decide +kernel
theorem dX8_scanAddress_215 : decode cX8_scanAddress 215 = .ok (.iconst 5, 1) := by decide +kernel
theorem dX8_scanAddress_216 : decode cX8_scanAddress 216 = .ok (.iload_n 1, 1) := by decide +kernel
theorem dX8_scanAddress_217 : decode cX8_scanAddress 217 = .ok (.iload_n 3, 1) := by decide +kernel
theorem dX8_scanAddress_218 : decode cX8_scanAddress 218 = .ok (.bipush 8, 2) := by decide +kernel
theorem dX8_scanAddress_220 : decode cX8_scanAddress 220 = .ok (.ishl, 1) := by decide +kernel
theorem dX8_scanAddress_221 : decode cX8_scanAddress 221 = .ok (.iload 4, 2) := by decide +kernel
theorem dX8_scanAddress_223 : decode cX8_scanAddress 223 = .ok (.sipush 255, 3) := by decide +kernel
theorem dX8_scanAddress_226 : decode cX8_scanAddress 226 = .ok (.iand, 1) := by decide +kernel
theorem dX8_scanAddress_227 : decode cX8_scanAddress 227 = .ok (.ior, 1) := by decide +kernel
theorem dX8_scanAddress_228 : decode cX8_scanAddress 228 = .ok (.i2l, 1) := by decide +kernel
theorem dX8_scanAddress_229 : decode cX8_scanAddress 229 = .ok (.invokevirtual 64, 3) := by decide +kernel
theorem dX8_scanAddress_232 : decode cX8_scanAddress 232 = .ok (.iload_n 2, 1) := by decide +kernel
theorem dX8_scanAddress_233 : decode cX8_scanAddress 233 = .ok (.ireturn, 1) := by decide +kernel
theorem dX8_scanQuoted_0 : decode cX8_scanQuoted 0 = .ok (.iload_n 1, 1) := by decide +kernel
theorem dX8_scanQuoted_1 : decode cX8_scanQuoted 1 = .ok (.iconst 1, 1) := by decide +kernel
theorem dX8_scanQuoted_2 : decode cX8_scanQuoted 2 = .ok (.iadd, 1) := by decide +kernel
theorem dX8_scanQuoted_3 : decode cX8_scanQuoted 3 = .ok (.istore_n 2, 1) := by decide +kernel
theorem dX8_scanQuoted_4 : decode cX8_scanQuoted 4 = .ok (.iload_n 2, 1) := by decide +kernel
theorem dX8_scanQuoted_5 : decode cX8_scanQuoted 5 = .ok (.aload_n 0, 1) := by decide +kernel
theorem dX8_scanQuoted_6 : decode cX8_scanQuoted 6 = .ok (.getfield 53, 3) := by decide +kernel
theorem dX8_scanQuoted_9 : decode cX8_scanQuoted 9 = .ok (.if_icmp .ge 40, 3) := by decide +kernel
theorem dX8_scanQuoted_12 : decode cX8_scanQuoted 12 = .ok (.iload_n 2, 1) := by decide +kernel
theorem dX8_scanQuoted_13 : decode cX8_scanQuoted 13 = .ok (.iload_n 1, 1) := by decide +kernel
theorem dX8_scanQuoted_14 : decode cX8_scanQuoted 14 = .ok (.isub, 1) := by decide +kernel
theorem dX8_scanQuoted_15 : decode cX8_scanQuoted 15 = .ok (.bipush 24, 2) := by decide +kernel
theorem dX8_scanQuoted_17 : decode cX8_scanQuoted 17 = .ok (.if_icmp .gt 32, 3) := by decide +kernel
theorem dX8_scanQuoted_20 : decode cX8_scanQuoted 20 = .ok (.aload_n 0, 1) := by decide +kernel
theorem dX8_scanQuoted_21 : decode cX8_scanQuoted 21 = .ok (.getfield 28, 3) := by decide +kernel
theorem dX8_scanQuoted_24 : decode cX8_scanQuoted 24 = .ok (.iload_n 2, 1) := by decide +kernel
theorem dX8_scanQuoted_25 : decode cX8_scanQuoted 25 = .ok (.iaload, 1) := by decide +kernel
theorem dX8_scanQuoted_26 : decode cX8_scanQuoted 26 = .ok (.invokestatic 97, 3) := by decide +kernel
theorem dX8_scanQuoted_29 : decode cX8_scanQuoted 29 = .ok (.ifCond .eq 20, 3) := by decide +kernel
theorem dX8_scanQuoted_32 : decode cX8_scanQuoted 32 = .ok (.aload_n 0, 1) := by decide +kernel
theorem dX8_scanQuoted_33 : decode cX8_scanQuoted 33 = .ok (.getfield 28, 3) := by decide +kernel
theorem dX8_scanQuoted_36 : decode cX8_scanQuoted 36 = .ok (.iload_n 2, 1) := by decide +kernel
theorem dX8_scanQuoted_37 : decode cX8_scanQuoted 37 = .ok (.iaload, 1) := by decide +kernel
theorem dX8_scanQuoted_38 : decode cX8_scanQuoted 38 = .ok (.bipush 34, 2) := by decide +kernel
theorem dX8_scanQuoted_40 : decode cX8_scanQuoted 40 = .ok (.if_icmp .eq 9, 3) := by decide +kernel
theorem dX8_scanQuoted_43 : decode cX8_scanQuoted 43 = .ok (.iinc 2 1, 3) := by decide +kernel
theorem dX8_scanQuoted_46 : decode cX8_scanQuoted 46 = .ok (.goto (-42), 3) := by decide +kernel
theorem dX8_scanQuoted_49 : decode cX8_scanQuoted 49 = .ok (.aload_n 0, 1) := by decide +kernel
theorem dX8_scanQuoted_50 : decode cX8_scanQuoted 50 = .ok (.iload_n 2, 1) := by decide +kernel
theorem dX8_scanQuoted_51 : decode cX8_scanQuoted 51 = .ok (.invokevirtual 68, 3) := by decide +kernel
theorem dX8_scanQuoted_54 : decode cX8_scanQuoted 54 = .ok (.bipush 34, 2) := by decide +kernel
theorem dX8_scanQuoted_56 : decode cX8_scanQuoted 56 = .ok (.if_icmp .eq 5, 3) := by decide +kernel
theorem dX8_scanQuoted_59 : decode cX8_scanQuoted 59 = .ok (.iconst (-1), 1) := by decide +kernel
theorem dX8_scanQuoted_60 : decode cX8_scanQuoted 60 = .ok (.ireturn, 1) := by decide +kernel
theorem dX8_scanQuoted_61 : decode cX8_scanQuoted 61 = .ok (.aload_n 0, 1) := by decide +kernel
theorem dX8_scanQuoted_62 : decode cX8_scanQuoted 62 = .ok (.iconst 4, 1) := by decide +kernel
theorem dX8_scanQuoted_63 : decode cX8_scanQuoted 63 = .ok (.iload_n 1, 1) := by decide +kernel
theorem dX8_scanQuoted_64 : decode cX8_scanQuoted 64 = .ok (.iload_n 2, 1) := by decide +kernel
theorem dX8_scanQuoted_65 : decode cX8_scanQuoted 65 = .ok (.iload_n 1, 1) := by decide +kernel
theorem dX8_scanQuoted_66 : decode cX8_scanQuoted 66 = .ok (.isub, 1) := by decide +kernel
theorem dX8_scanQuoted_67 : decode cX8_scanQuoted 67 = .ok (.iconst 1, 1) := by decide +kernel
theorem dX8_scanQuoted_68 : decode cX8_scanQuoted 68 = .ok (.isub, 1) := by decide +kernel
theorem dX8_scanQuoted_69 : decode cX8_scanQuoted 69 = .ok (.i2l, 1) := by decide +kernel
theorem dX8_scanQuoted_70 : decode cX8_scanQuoted 70 = .ok (.invokevirtual 64, 3) := by decide +kernel
theorem dX8_scanQuoted_73 : decode cX8_scanQuoted 73 = .ok (.iload_n 2, 1) := by decide +kernel
theorem dX8_scanQuoted_74 : decode cX8_scanQuoted 74 = .ok (.iconst 1, 1) := by decide +kernel
theorem dX8_scanQuoted_75 : decode cX8_scanQuoted 75 = .ok (.iadd, 1) := by decide +kernel
theorem dX8_scanQuoted_76 : decode cX8_scanQuoted 76 = .ok (.ireturn, 1) := by decide +kernel
theorem dX8_scanSign_0 : decode cX8_scanSign 0 = .ok (.aload_n 0, 1) := by decide +kernel
theorem dX8_scanSign_1 : decode cX8_scanSign 1 = .ok (.iload_n 1, 1) := by decide +kernel
theorem dX8_scanSign_2 : decode cX8_scanSign 2 = .ok (.iconst 1, 1) := by decide +kernel
theorem dX8_scanSign_3 : decode cX8_scanSign 3 = .ok (.iadd, 1) := by decide +kernel
theorem dX8_scanSign_4 : decode cX8_scanSign 4 = .ok (.invokevirtual 68, 3) := by decide +kernel
theorem dX8_scanSign_7 : decode cX8_scanSign 7 = .ok (.bipush 61, 2) := by decide +kernel
theorem dX8_scanSign_9 : decode cX8_scanSign 9 = .ok (.if_icmp .ne 7, 3) := by decide +kernel
theorem dX8_scanSign_12 : decode cX8_scanSign 12 = .ok (.iconst 1, 1) := by decide +kernel
theorem dX8_scanSign_13 : decode cX8_scanSign 13 = .ok (.goto 4, 3) := by decide +kernel
theorem dX8_scanSign_16 : decode cX8_scanSign 16 = .ok (.iconst 0, 1) := by decide +kernel
theorem dX8_scanSign_17 : decode cX8_scanSign 17 = .ok (.istore_n 3, 1) := by decide +kernel
theorem dX8_scanSign_18 : decode cX8_scanSign 18 = .ok (.iconst 0, 1) := by decide +kernel
theorem dX8_scanSign_19 : decode cX8_scanSign 19 = .ok (.istore 4, 2) := by decide +kernel
theorem dX8_scanSign_21 : decode cX8_scanSign 21 = .ok (.iconst 1, 1) := by decide +kernel
theorem dX8_scanSign_22 : decode cX8_scanSign 22 = .ok (.istore 5, 2) := by decide +kernel
theorem dX8_scanSign_24 : decode cX8_scanSign 24 = .ok (.iload_n 2, 1) := by decide +kernel
theorem dX8_scanSign_25 : decode cX8_scanSign 25 = .ok (.tableswitch 249 33 62 #[177, 249, 249, 249, 249, 249, 249, 135, 142, 249, 249, 149, 249, 249, 163, 249, 249, 249, 249, 249, 249, 249, 249, 249, 249, 249, 156, 195, 170, 222], 135) := by decide +kernel
theorem dX8_scanSign_160 : decode cX8_scanSign 160 = .ok (.bipush 6, 2) := by decide +kernel
theorem dX8_scanSign_162 : decode cX8_scanSign 162 = .ok (.istore 4, 2) := by decide +kernel
theorem dX8_scanSign_164 : decode cX8_scanSign 164 = .ok (.goto 110, 3) := by decide +kernel
theorem dX8_scanSign_167 : decode cX8_scanSign 167 = .ok (.bipush 7, 2) := by decide +kernel
theorem dX8_scanSign_169 : decode cX8_scanSign 169 = .ok (.istore 4, 2) := by decide +kernel
theorem dX8_scanSign_171 : decode cX8_scanSign 171 = .ok (.goto 103, 3) := by decide +kernel
theorem dX8_scanSign_174 : decode cX8_scanSign 174 = .ok (.bipush 8, 2) := by decide +kernel
theorem dX8_scanSign_176 : decode cX8_scanSign 176 = .ok (.istore 4, 2) := by decide +kernel
theorem dX8_scanSign_178 : decode cX8_scanSign 178 = .ok (.goto 96, 3) := by decide +kernel
theorem dX8_scanSign_181 : decode cX8_scanSign 181 = .ok (.bipush 9, 2) := by decide +kernel
theorem dX8_scanSign_183 : decode cX8_scanSign 183 = .ok (.istore 4, 2) := by decide +kernel
theorem dX8_scanSign_185 : decode cX8_scanSign 185 = .ok (.goto 89, 3) := by decide +kernel
theorem dX8_scanSign_188 : decode cX8_scanSign 188 = .ok (.bipush 10, 2) := by decide +kernel
theorem dX8_scanSign_190 : decode cX8_scanSign 190 = .ok (.istore 4, 2) := by decide +kernel
theorem dX8_scanSign_192 : decode cX8_scanSign 192 = .ok (.goto 82, 3) := by decide +kernel
theorem dX8_scanSign_195 : decode cX8_scanSign 195 = .ok (.bipush 11, 2) := by decide +kernel
theorem dX8_scanSign_197 : decode cX8_scanSign 197 = .ok (.istore 4, 2) := by decide +kernel
theorem dX8_scanSign_199 : decode cX8_scanSign 199 = .ok (.goto 75, 3) := by decide +kernel
theorem dX8_scanSign_202 : decode cX8_scanSign 202 = .ok (.iload_n 3, 1) := by decide +kernel
theorem dX8_scanSign_203 : decode cX8_scanSign 203 = .ok (.ifCond .eq 8, 3) := by decide +kernel
theorem dX8_scanSign_206 : decode cX8_scanSign 206 = .ok (.bipush 12, 2) := by decide +kernel
theorem dX8_scanSign_208 : decode cX8_scanSign 208 = .ok (.goto 4, 3) := by decide +kernel
theorem dX8_scanSign_211 : decode cX8_scanSign 211 = .ok (.iconst 0, 1) := by decide +kernel
theorem dX8_scanSign_212 : decode cX8_scanSign 212 = .ok (.istore 4, 2) := by decide +kernel
theorem dX8_scanSign_214 : decode cX8_scanSign 214 = .ok (.iconst 2, 1) := by decide +kernel
theorem dX8_scanSign_215 : decode cX8_scanSign 215 = .ok (.istore 5, 2) := by decide +kernel
theorem dX8_scanSign_217 : decode cX8_scanSign 217 = .ok (.goto 57, 3) := by decide +kernel
theorem dX8_scanSign_220 : decode cX8_scanSign 220 = .ok (.iload_n 3, 1) := by decide +kernel
theorem dX8_scanSign_221 : decode cX8_scanSign 221 = .ok (.ifCond .eq 8, 3) := by decide +kernel
theorem dX8_scanSign_224 : decode cX8_scanSign 224 = .ok (.bipush 14, 2) := by decide +kernel
theorem dX8_scanSign_226 : decode cX8_scanSign 226 = .ok (.goto 5, 3) := by decide +kernel
theorem dX8_scanSign_229 : decode cX8_scanSign 229 = .ok (.bipush 13, 2) := by decide +kernel
theorem dX8_scanSign_231 : decode cX8_scanSign 231 = .ok (.istore 4, 2) := by decide +kernel
theorem dX8_scanSign_233 : decode cX8_scanSign 233 = .ok (.iload_n 3, 1) := by decide +kernel
theorem dX8_scanSign_234 : decode cX8_scanSign 234 = .ok (.ifCond .eq 7, 3) := by decide +kernel
theorem dX8_scanSign_237 : decode cX8_scanSign 237 = .ok (.iconst 2, 1) := by decide +kernel
theorem dX8_scanSign_238 : decode cX8_scanSign 238 = .ok (.goto 4, 3) := by decide +kernel
theorem dX8_scanSign_241 : decode cX8_scanSign 241 = .ok (.iconst 1, 1) := by decide +kernel
theorem dX8_scanSign_242 : decode cX8_scanSign 242 = .ok (.istore 5, 2) := by decide +kernel
theorem dX8_scanSign_244 : decode cX8_scanSign 244 = .ok (.goto 30, 3) := by decide +kernel
theorem dX8_scanSign_247 : decode cX8_scanSign 247 = .ok (.iload_n 3, 1) := by decide +kernel
theorem dX8_scanSign_248 : decode cX8_scanSign 248 = .ok (.ifCond .eq 8, 3) := by decide +kernel
theorem dX8_scanSign_251 : decode cX8_scanSign 251 = .ok (.bipush 16, 2) := by decide +kernel
theorem dX8_scanSign_253 : decode cX8_scanSign 253 = .ok (.goto 5, 3) := by decide +kernel
theorem dX8_scanSign_256 : decode cX8_scanSign 256 = .ok (.bipush 15, 2) := by decide +kernel
theorem dX8_scanSign_258 : decode cX8_scanSign 258 = .ok (.istore 4, 2) := by decide +kernel
theorem dX8_scanSign_260 : decode cX8_scanSign 260 = .ok (.iload_n 3, 1) := by decide +kernel
theorem dX8_scanSign_261 : decode cX8_scanSign 261 = .ok (.ifCond .eq 7, 3) := by decide +kernel
theorem dX8_scanSign_264 : decode cX8_scanSign 264 = .ok (.iconst 2, 1) := by decide +kernel
theorem dX8_scanSign_265 : decode cX8_scanSign 265 = .ok (.goto 4, 3) := by decide +kernel
theorem dX8_scanSign_268 : decode cX8_scanSign 268 = .ok (.iconst 1, 1) := by decide +kernel
theorem dX8_scanSign_269 : decode cX8_scanSign 269 = .ok (.istore 5, 2) := by decide +kernel
theorem dX8_scanSign_271 : decode cX8_scanSign 271 = .ok (.goto 3, 3) := by decide +kernel
theorem dX8_scanSign_274 : decode cX8_scanSign 274 = .ok (.iload 4, 2) := by decide +kernel
theorem dX8_scanSign_276 : decode cX8_scanSign 276 = .ok (.ifCond .ne 5, 3) := by decide +kernel
theorem dX8_scanSign_279 : decode cX8_scanSign 279 = .ok (.iconst (-1), 1) := by decide +kernel
theorem dX8_scanSign_280 : decode cX8_scanSign 280 = .ok (.ireturn, 1) := by decide +kernel
theorem dX8_scanSign_281 : decode cX8_scanSign 281 = .ok (.aload_n 0, 1) := by decide +kernel
theorem dX8_scanSign_282 : decode cX8_scanSign 282 = .ok (.iload 4, 2) := by decide +kernel
theorem dX8_scanSign_284 : decode cX8_scanSign 284 = .ok (.iload_n 1, 1) := by decide +kernel
theorem dX8_scanSign_285 : decode cX8_scanSign 285 = .ok (.lconst 0, 1) := by decide +kernel
theorem dX8_scanSign_286 : decode cX8_scanSign 286 = .ok (.invokevirtual 64, 3) := by decide +kernel
theorem dX8_scanSign_289 : decode cX8_scanSign 289 = .ok (.iload_n 1, 1) := by decide +kernel
theorem dX8_scanSign_290 : decode cX8_scanSign 290 = .ok (.iload 5, 2) := by decide +kernel
theorem dX8_scanSign_292 : decode cX8_scanSign 292 = .ok (.iadd, 1) := by decide +kernel
theorem dX8_scanSign_293 : decode cX8_scanSign 293 = .ok (.ireturn, 1) := by decide +kernel
theorem dX9_init_0 : decode cX9_init 0 = .ok (.aload_n 0, 1) := by decide +kernel
theorem dX9_init_1 : decode cX9_init 1 = .ok (.invokespecial 3, 3) := by decide +kernel
theorem dX9_init_4 : decode cX9_init 4 = .ok (.aload_n 0, 1) := by decide +kernel
theorem dX9_init_5 : decode cX9_init 5 = .ok (.iload_n 1, 1) := by decide +kernel
theorem dX9_init_6 : decode cX9_init 6 = .ok (.putfield 9, 3) := by decide +kernel
theorem dX9_init_9 : decode cX9_init 9 = .ok (.aload_n 0, 1) := by decide +kernel
theorem dX9_init_10 : decode cX9_init 10 = .ok (.iload_n 2, 1) := by decide +kernel
theorem dX9_init_11 : decode cX9_init 11 = .ok (.putfield 15, 3) := by decide +kernel
theorem dX9_init_14 : decode cX9_init 14 = .ok (.aload_n 0, 1) := by decide +kernel
theorem dX9_init_15 : decode cX9_init 15 = .ok (.aload_n 3, 1) := by decide +kernel
theorem dX9_init_16 : decode cX9_init 16 = .ok (.putfield 18, 3) := by decide +kernel
theorem dX9_init_19 : decode cX9_init 19 = .ok (.bipush 31, 2) := by decide +kernel
theorem dX9_init_21 : decode cX9_init 21 = .ok (.iload_n 2, 1) := by decide +kernel
theorem dX9_init_22 : decode cX9_init 22 = .ok (.imul, 1) := by decide +kernel
theorem dX9_init_23 : decode cX9_init 23 = .ok (.iload_n 1, 1) := by decide +kernel
theorem dX9_init_24 : decode cX9_init 24 = .ok (.iadd, 1) := by decide +kernel
theorem dX9_init_25 : decode cX9_init 25 = .ok (.istore 4, 2) := by decide +kernel
theorem dX9_init_27 : decode cX9_init 27 = .ok (.aload_n 3, 1) := by decide +kernel
theorem dX9_init_28 : decode cX9_init 28 = .ok (.astore 5, 2) := by decide +kernel
theorem dX9_init_30 : decode cX9_init 30 = .ok (.aload 5, 2) := by decide +kernel
theorem dX9_init_32 : decode cX9_init 32 = .ok (.arraylength, 1) := by decide +kernel
theorem dX9_init_33 : decode cX9_init 33 = .ok (.istore 6, 2) := by decide +kernel
theorem dX9_init_35 : decode cX9_init 35 = .ok (.iconst 0, 1) := by decide +kernel
theorem dX9_init_36 : decode cX9_init 36 = .ok (.istore 7, 2) := by decide +kernel
theorem dX9_init_38 : decode cX9_init 38 = .ok (.iload 7, 2) := by decide +kernel
theorem dX9_init_40 : decode cX9_init 40 = .ok (.iload 6, 2) := by decide +kernel
theorem dX9_init_42 : decode cX9_init 42 = .ok (.if_icmp .ge 26, 3) := by decide +kernel
theorem dX9_init_45 : decode cX9_init 45 = .ok (.aload 5, 2) := by decide +kernel
theorem dX9_init_47 : decode cX9_init 47 = .ok (.iload 7, 2) := by decide +kernel
theorem dX9_init_49 : decode cX9_init 49 = .ok (.iaload, 1) := by decide +kernel
theorem dX9_init_50 : decode cX9_init 50 = .ok (.istore 8, 2) := by decide +kernel
theorem dX9_init_52 : decode cX9_init 52 = .ok (.bipush 31, 2) := by decide +kernel
theorem dX9_init_54 : decode cX9_init 54 = .ok (.iload 4, 2) := by decide +kernel
theorem dX9_init_56 : decode cX9_init 56 = .ok (.imul, 1) := by decide +kernel
theorem dX9_init_57 : decode cX9_init 57 = .ok (.iload 8, 2) := by decide +kernel
theorem dX9_init_59 : decode cX9_init 59 = .ok (.iadd, 1) := by decide +kernel
theorem dX9_init_60 : decode cX9_init 60 = .ok (.istore 4, 2) := by decide +kernel
theorem dX9_init_62 : decode cX9_init 62 = .ok (.iinc 7 1, 3) := by decide +kernel
theorem dX9_init_65 : decode cX9_init 65 = .ok (.goto (-27), 3) := by decide +kernel
theorem dX9_init_68 : decode cX9_init 68 = .ok (.aload_n 0, 1) := by decide +kernel
theorem dX9_init_69 : decode cX9_init 69 = .ok (.iload 4, 2) := by decide +kernel
theorem dX9_init_71 : decode cX9_init 71 = .ok (.putfield 22, 3) := by decide +kernel
theorem dX9_init_74 : decode cX9_init 74 = .ok (.return_, 1) := by decide +kernel
theorem dX9_same_0 : decode cX9_same 0 = .ok (.aload_n 0, 1) := by decide +kernel
theorem dX9_same_1 : decode cX9_same 1 = .ok (.getfield 9, 3) := by decide +kernel
theorem dX9_same_4 : decode cX9_same 4 = .ok (.aload_n 1, 1) := by decide +kernel
theorem dX9_same_5 : decode cX9_same 5 = .ok (.getfield 9, 3) := by decide +kernel
theorem dX9_same_8 : decode cX9_same 8 = .ok (.if_icmp .ne 25, 3) := by decide +kernel
theorem dX9_same_11 : decode cX9_same 11 = .ok (.aload_n 0, 1) := by decide +kernel
theorem dX9_same_12 : decode cX9_same 12 = .ok (.getfield 22, 3) := by decide +kernel
theorem dX9_same_15 : decode cX9_same 15 = .ok (.aload_n 1, 1) := by decide +kernel
theorem dX9_same_16 : decode cX9_same 16 = .ok (.getfield 22, 3) := by decide +kernel
theorem dX9_same_19 : decode cX9_same 19 = .ok (.if_icmp .ne 14, 3) := by decide +kernel
theorem dX9_same_22 : decode cX9_same 22 = .ok (.aload_n 0, 1) := by decide +kernel
theorem dX9_same_23 : decode cX9_same 23 = .ok (.getfield 15, 3) := by decide +kernel
theorem dX9_same_26 : decode cX9_same 26 = .ok (.aload_n 1, 1) := by decide +kernel
theorem dX9_same_27 : decode cX9_same 27 = .ok (.getfield 15, 3) := by decide +kernel
theorem dX9_same_30 : decode cX9_same 30 = .ok (.if_icmp .eq 5, 3) := by decide +kernel
theorem dX9_same_33 : decode cX9_same 33 = .ok (.iconst 0, 1) := by decide +kernel
theorem dX9_same_34 : decode cX9_same 34 = .ok (.ireturn, 1) := by decide +kernel
theorem dX9_same_35 : decode cX9_same 35 = .ok (.iconst 0, 1) := by decide +kernel
theorem dX9_same_36 : decode cX9_same 36 = .ok (.istore_n 2, 1) := by decide +kernel
theorem dX9_same_37 : decode cX9_same 37 = .ok (.iload_n 2, 1) := by decide +kernel
theorem dX9_same_38 : decode cX9_same 38 = .ok (.aload_n 0, 1) := by decide +kernel
theorem dX9_same_39 : decode cX9_same 39 = .ok (.getfield 18, 3) := by decide +kernel
theorem dX9_same_42 : decode cX9_same 42 = .ok (.arraylength, 1) := by decide +kernel
theorem dX9_same_43 : decode cX9_same 43 = .ok (.if_icmp .ge 35, 3) := by decide +kernel
theorem dX9_same_46 : decode cX9_same 46 = .ok (.iload_n 2, 1) := by decide +kernel
theorem dX9_same_47 : decode cX9_same 47 = .ok (.aload_n 1, 1) := by decide +kernel
theorem dX9_same_48 : decode cX9_same 48 = .ok (.getfield 18, 3) := by decide +kernel
theorem dX9_same_51 : decode cX9_same 51 = .ok (.arraylength, 1) := by decide +kernel
theorem dX9_same_52 : decode cX9_same 52 = .ok (.if_icmp .ge 26, 3) := by decide +kernel
theorem dX9_same_55 : decode cX9_same 55 = .ok (.aload_n 0, 1) := by decide +kernel
theorem dX9_same_56 : decode cX9_same 56 = .ok (.getfield 18, 3) := by decide +kernel
theorem dX9_same_59 : decode cX9_same 59 = .ok (.iload_n 2, 1) := by decide +kernel
theorem dX9_same_60 : decode cX9_same 60 = .ok (.iaload, 1) := by decide +kernel
theorem dX9_same_61 : decode cX9_same 61 = .ok (.aload_n 1, 1) := by decide +kernel
theorem dX9_same_62 : decode cX9_same 62 = .ok (.getfield 18, 3) := by decide +kernel
theorem dX9_same_65 : decode cX9_same 65 = .ok (.iload_n 2, 1) := by decide +kernel
theorem dX9_same_66 : decode cX9_same 66 = .ok (.iaload, 1) := by decide +kernel
theorem dX9_same_67 : decode cX9_same 67 = .ok (.if_icmp .eq 5, 3) := by decide +kernel
theorem dX9_same_70 : decode cX9_same 70 = .ok (.iconst 0, 1) := by decide +kernel
theorem dX9_same_71 : decode cX9_same 71 = .ok (.ireturn, 1) := by decide +kernel
theorem dX9_same_72 : decode cX9_same 72 = .ok (.iinc 2 1, 3) := by decide +kernel
theorem dX9_same_75 : decode cX9_same 75 = .ok (.goto (-38), 3) := by decide +kernel
theorem dX9_same_78 : decode cX9_same 78 = .ok (.iconst 1, 1) := by decide +kernel
theorem dX9_same_79 : decode cX9_same 79 = .ok (.ireturn, 1) := by decide +kernel
theorem dX9_like_0 : decode cX9_like 0 = .ok (.iconst 0, 1) := by decide +kernel
theorem dX9_like_1 : decode cX9_like 1 = .ok (.istore_n 2, 1) := by decide +kernel
theorem dX9_like_2 : decode cX9_like 2 = .ok (.iconst 0, 1) := by decide +kernel
theorem dX9_like_3 : decode cX9_like 3 = .ok (.istore_n 3, 1) := by decide +kernel
theorem dX9_like_4 : decode cX9_like 4 = .ok (.iconst (-1), 1) := by decide +kernel
theorem dX9_like_5 : decode cX9_like 5 = .ok (.istore 4, 2) := by decide +kernel
theorem dX9_like_7 : decode cX9_like 7 = .ok (.iconst 0, 1) := by decide +kernel
theorem dX9_like_8 : decode cX9_like 8 = .ok (.istore 5, 2) := by decide +kernel
theorem dX9_like_10 : decode cX9_like 10 = .ok (.iconst 0, 1) := by decide +kernel
theorem dX9_like_11 : decode cX9_like 11 = .ok (.istore 6, 2) := by decide +kernel
theorem dX9_like_13 : decode cX9_like 13 = .ok (.iload 6, 2) := by decide +kernel
theorem dX9_like_15 : decode cX9_like 15 = .ok (.ldc 25, 2) := by decide +kernel
theorem dX9_like_17 : decode cX9_like 17 = .ok (.if_icmp .ge 107, 3) := by decide +kernel
theorem dX9_like_20 : decode cX9_like 20 = .ok (.iload_n 2, 1) := by decide +kernel
theorem dX9_like_21 : decode cX9_like 21 = .ok (.aload_n 0, 1) := by decide +kernel
theorem dX9_like_22 : decode cX9_like 22 = .ok (.getfield 18, 3) := by decide +kernel
theorem dX9_like_25 : decode cX9_like 25 = .ok (.arraylength, 1) := by decide +kernel
theorem dX9_like_26 : decode cX9_like 26 = .ok (.if_icmp .ge 98, 3) := by decide +kernel
theorem dX9_like_29 : decode cX9_like 29 = .ok (.iload_n 3, 1) := by decide +kernel
theorem dX9_like_30 : decode cX9_like 30 = .ok (.aload_n 1, 1) := by decide +kernel
theorem dX9_like_31 : decode cX9_like 31 = .ok (.getfield 18, 3) := by decide +kernel
theorem dX9_like_34 : decode cX9_like 34 = .ok (.arraylength, 1) := by decide +kernel
theorem dX9_like_35 : decode cX9_like 35 = .ok (.if_icmp .ge 12, 3) := by decide +kernel
theorem dX9_like_38 : decode cX9_like 38 = .ok (.aload_n 1, 1) := by decide +kernel
theorem dX9_like_39 : decode cX9_like 39 = .ok (.getfield 18, 3) := by decide +kernel
theorem dX9_like_42 : decode cX9_like 42 = .ok (.iload_n 3, 1) := by decide +kernel
theorem dX9_like_43 : decode cX9_like 43 = .ok (.iaload, 1) := by decide +kernel
theorem dX9_like_44 : decode cX9_like 44 = .ok (.goto 4, 3) := by decide +kernel
theorem dX9_like_47 : decode cX9_like 47 = .ok (.iconst (-1), 1) := by decide +kernel
theorem dX9_like_48 : decode cX9_like 48 = .ok (.istore 7, 2) := by decide +kernel
theorem dX9_like_50 : decode cX9_like 50 = .ok (.iload 7, 2) := by decide +kernel
theorem dX9_like_52 : decode cX9_like 52 = .ok (.bipush 42, 2) := by decide +kernel
theorem dX9_like_54 : decode cX9_like 54 = .ok (.if_icmp .ne 15, 3) := by decide +kernel
theorem dX9_like_57 : decode cX9_like 57 = .ok (.iload_n 3, 1) := by decide +kernel
theorem dX9_like_58 : decode cX9_like 58 = .ok (.istore 4, 2) := by decide +kernel
theorem dX9_like_60 : decode cX9_like 60 = .ok (.iload_n 2, 1) := by decide +kernel
theorem dX9_like_61 : decode cX9_like 61 = .ok (.istore 5, 2) := by decide +kernel
theorem dX9_like_63 : decode cX9_like 63 = .ok (.iinc 3 1, 3) := by decide +kernel
theorem dX9_like_66 : decode cX9_like 66 = .ok (.goto 52, 3) := by decide +kernel
