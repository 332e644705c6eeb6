theorem dX7_look_75 : decode cX7_look 75 = .ok (.iload_n 3, 1) := by decide +kernel
theorem dX7_look_76 : decode cX7_look 76 = .ok (.iload 4, 2) := by decide +kernel
theorem dX7_look_78 : decode cX7_look 78 = .ok (.invokevirtual 84, 3) := by decide +kernel
theorem dX7_look_81 : decode cX7_look 81 = .ok (.ireturn, 1) := by decide +kernel
theorem dX7_look_82 : decode cX7_look 82 = .ok (.aload_n 0, 1) := by decide +kernel
theorem dX7_look_83 : decode cX7_look 83 = .ok (.getfield 43, 3) := by decide +kernel
theorem dX7_look_86 : decode cX7_look 86 = .ok (.bipush 31, 2) := by decide +kernel
theorem dX7_look_88 : decode cX7_look 88 = .ok (.if_icmp .ne 12, 3) := by decide +kernel
theorem dX7_look_91 : decode cX7_look 91 = .ok (.aload_n 0, 1) := by decide +kernel
theorem dX7_look_92 : decode cX7_look 92 = .ok (.aload_n 1, 1) := by decide +kernel
theorem dX7_look_93 : decode cX7_look 93 = .ok (.aload_n 2, 1) := by decide +kernel
theorem dX7_look_94 : decode cX7_look 94 = .ok (.iload_n 3, 1) := by decide +kernel
theorem dX7_look_95 : decode cX7_look 95 = .ok (.invokevirtual 88, 3) := by decide +kernel
theorem dX7_look_98 : decode cX7_look 98 = .ok (.iconst (-1), 1) := by decide +kernel
theorem dX7_look_99 : decode cX7_look 99 = .ok (.ireturn, 1) := by decide +kernel
theorem dX7_look_100 : decode cX7_look 100 = .ok (.iload_n 3, 1) := by decide +kernel
theorem dX7_look_101 : decode cX7_look 101 = .ok (.ifCond .ne 5, 3) := by decide +kernel
theorem dX7_look_104 : decode cX7_look 104 = .ok (.iconst (-1), 1) := by decide +kernel
theorem dX7_look_105 : decode cX7_look 105 = .ok (.ireturn, 1) := by decide +kernel
theorem dX7_look_106 : decode cX7_look 106 = .ok (.aload_n 0, 1) := by decide +kernel
theorem dX7_look_107 : decode cX7_look 107 = .ok (.aload_n 2, 1) := by decide +kernel
theorem dX7_look_108 : decode cX7_look 108 = .ok (.getfield 92, 3) := by decide +kernel
theorem dX7_look_111 : decode cX7_look 111 = .ok (.invokevirtual 95, 3) := by decide +kernel
theorem dX7_look_114 : decode cX7_look 114 = .ok (.aload_n 0, 1) := by decide +kernel
theorem dX7_look_115 : decode cX7_look 115 = .ok (.getfield 43, 3) := by decide +kernel
theorem dX7_look_118 : decode cX7_look 118 = .ok (.bipush 24, 2) := by decide +kernel
theorem dX7_look_120 : decode cX7_look 120 = .ok (.if_icmp .ne 10, 3) := by decide +kernel
theorem dX7_look_123 : decode cX7_look 123 = .ok (.aload_n 0, 1) := by decide +kernel
theorem dX7_look_124 : decode cX7_look 124 = .ok (.aload_n 1, 1) := by decide +kernel
theorem dX7_look_125 : decode cX7_look 125 = .ok (.aload_n 2, 1) := by decide +kernel
theorem dX7_look_126 : decode cX7_look 126 = .ok (.invokevirtual 99, 3) := by decide +kernel
theorem dX7_look_129 : decode cX7_look 129 = .ok (.ireturn, 1) := by decide +kernel
theorem dX7_look_130 : decode cX7_look 130 = .ok (.aload_n 2, 1) := by decide +kernel
theorem dX7_look_131 : decode cX7_look 131 = .ok (.aload_n 0, 1) := by decide +kernel
theorem dX7_look_132 : decode cX7_look 132 = .ok (.getfield 103, 3) := by decide +kernel
theorem dX7_look_135 : decode cX7_look 135 = .ok (.invokevirtual 46, 3) := by decide +kernel
theorem dX7_look_138 : decode cX7_look 138 = .ok (.astore 4, 2) := by decide +kernel
theorem dX7_look_140 : decode cX7_look 140 = .ok (.aload 4, 2) := by decide +kernel
theorem dX7_look_142 : decode cX7_look 142 = .ok (.ifnonnull 5, 3) := by decide +kernel
theorem dX7_look_145 : decode cX7_look 145 = .ok (.iconst (-1), 1) := by decide +kernel
theorem dX7_look_146 : decode cX7_look 146 = .ok (.ireturn, 1) := by decide +kernel
theorem dX7_look_147 : decode cX7_look 147 = .ok (.aload_n 0, 1) := by decide +kernel
theorem dX7_look_148 : decode cX7_look 148 = .ok (.getfield 43, 3) := by decide +kernel
theorem dX7_look_151 : decode cX7_look 151 = .ok (.bipush 27, 2) := by decide +kernel
theorem dX7_look_153 : decode cX7_look 153 = .ok (.if_icmp .ne 12, 3) := by decide +kernel
theorem dX7_look_156 : decode cX7_look 156 = .ok (.aload_n 0, 1) := by decide +kernel
theorem dX7_look_157 : decode cX7_look 157 = .ok (.aload_n 1, 1) := by decide +kernel
theorem dX7_look_158 : decode cX7_look 158 = .ok (.aload_n 2, 1) := by decide +kernel
theorem dX7_look_159 : decode cX7_look 159 = .ok (.aload 4, 2) := by decide +kernel
theorem dX7_look_161 : decode cX7_look 161 = .ok (.invokevirtual 107, 3) := by decide +kernel
theorem dX7_look_164 : decode cX7_look 164 = .ok (.ireturn, 1) := by decide +kernel
theorem dX7_look_165 : decode cX7_look 165 = .ok (.aload_n 0, 1) := by decide +kernel
theorem dX7_look_166 : decode cX7_look 166 = .ok (.getfield 27, 3) := by decide +kernel
theorem dX7_look_169 : decode cX7_look 169 = .ok (.aload_n 0, 1) := by decide +kernel
theorem dX7_look_170 : decode cX7_look 170 = .ok (.getfield 37, 3) := by decide +kernel
theorem dX7_look_173 : decode cX7_look 173 = .ok (.iconst 3, 1) := by decide +kernel
theorem dX7_look_174 : decode cX7_look 174 = .ok (.invokestatic 111, 3) := by decide +kernel
theorem dX7_look_177 : decode cX7_look 177 = .ok (.aload 4, 2) := by decide +kernel
theorem dX7_look_179 : decode cX7_look 179 = .ok (.aastore, 1) := by decide +kernel
theorem dX7_look_180 : decode cX7_look 180 = .ok (.aload_n 0, 1) := by decide +kernel
theorem dX7_look_181 : decode cX7_look 181 = .ok (.aload_n 1, 1) := by decide +kernel
theorem dX7_look_182 : decode cX7_look 182 = .ok (.aload_n 2, 1) := by decide +kernel
theorem dX7_look_183 : decode cX7_look 183 = .ok (.aload_n 0, 1) := by decide +kernel
theorem dX7_look_184 : decode cX7_look 184 = .ok (.aload_n 0, 1) := by decide +kernel
theorem dX7_look_185 : decode cX7_look 185 = .ok (.getfield 37, 3) := by decide +kernel
theorem dX7_look_188 : decode cX7_look 188 = .ok (.iconst 1, 1) := by decide +kernel
theorem dX7_look_189 : decode cX7_look 189 = .ok (.iadd, 1) := by decide +kernel
theorem dX7_look_190 : decode cX7_look 190 = .ok (.invokevirtual 52, 3) := by decide +kernel
theorem dX7_look_193 : decode cX7_look 193 = .ok (.invokevirtual 114, 3) := by decide +kernel
theorem dX7_look_196 : decode cX7_look 196 = .ok (.ireturn, 1) := by decide +kernel
theorem dX7_findCount_0 : decode cX7_findCount 0 = .ok (.aload_n 0, 1) := by decide +kernel
theorem dX7_findCount_1 : decode cX7_findCount 1 = .ok (.new 118, 3) := by decide +kernel
theorem dX7_findCount_4 : decode cX7_findCount 4 = .ok (.dup, 1) := by decide +kernel
theorem dX7_findCount_5 : decode cX7_findCount 5 = .ok (.aload_n 2, 1) := by decide +kernel
theorem dX7_findCount_6 : decode cX7_findCount 6 = .ok (.aload_n 1, 1) := by decide +kernel
theorem dX7_findCount_7 : decode cX7_findCount 7 = .ok (.iconst 0, 1) := by decide +kernel
theorem dX7_findCount_8 : decode cX7_findCount 8 = .ok (.aconst_null, 1) := by decide +kernel
theorem dX7_findCount_9 : decode cX7_findCount 9 = .ok (.invokespecial 120, 3) := by decide +kernel
theorem dX7_findCount_12 : decode cX7_findCount 12 = .ok (.invokevirtual 123, 3) := by decide +kernel
theorem dX7_findCount_15 : decode cX7_findCount 15 = .ok (.aload_n 1, 1) := by decide +kernel
theorem dX7_findCount_16 : decode cX7_findCount 16 = .ok (.dup, 1) := by decide +kernel
theorem dX7_findCount_17 : decode cX7_findCount 17 = .ok (.getfield 127, 3) := by decide +kernel
theorem dX7_findCount_20 : decode cX7_findCount 20 = .ok (.iconst 1, 1) := by decide +kernel
theorem dX7_findCount_21 : decode cX7_findCount 21 = .ok (.iadd, 1) := by decide +kernel
theorem dX7_findCount_22 : decode cX7_findCount 22 = .ok (.putfield 127, 3) := by decide +kernel
theorem dX7_findCount_25 : decode cX7_findCount 25 = .ok (.aload_n 1, 1) := by decide +kernel
theorem dX7_findCount_26 : decode cX7_findCount 26 = .ok (.getfield 127, 3) := by decide +kernel
theorem dX7_findCount_29 : decode cX7_findCount 29 = .ok (.iconst 1, 1) := by decide +kernel
theorem dX7_findCount_30 : decode cX7_findCount 30 = .ok (.if_icmp .ne 14, 3) := by decide +kernel
theorem dX7_findCount_33 : decode cX7_findCount 33 = .ok (.aload_n 1, 1) := by decide +kernel
theorem dX7_findCount_34 : decode cX7_findCount 34 = .ok (.aload_n 1, 1) := by decide +kernel
theorem dX7_findCount_35 : decode cX7_findCount 35 = .ok (.getfield 130, 3) := by decide +kernel
theorem dX7_findCount_38 : decode cX7_findCount 38 = .ok (.putfield 134, 3) := by decide +kernel
theorem dX7_findCount_41 : decode cX7_findCount 41 = .ok (.goto 32, 3) := by decide +kernel
theorem dX7_findCount_44 : decode cX7_findCount 44 = .ok (.aload_n 1, 1) := by decide +kernel
theorem dX7_findCount_45 : decode cX7_findCount 45 = .ok (.getfield 127, 3) := by decide +kernel
theorem dX7_findCount_48 : decode cX7_findCount 48 = .ok (.aload_n 0, 1) := by decide +kernel
theorem dX7_findCount_49 : decode cX7_findCount 49 = .ok (.getfield 137, 3) := by decide +kernel
theorem dX7_findCount_52 : decode cX7_findCount 52 = .ok (.if_icmp .le 21, 3) := by decide +kernel
theorem dX7_findCount_55 : decode cX7_findCount 55 = .ok (.aload_n 1, 1) := by decide +kernel
theorem dX7_findCount_56 : decode cX7_findCount 56 = .ok (.getfield 134, 3) := by decide +kernel
theorem dX7_findCount_59 : decode cX7_findCount 59 = .ok (.ifnull 14, 3) := by decide +kernel
theorem dX7_findCount_62 : decode cX7_findCount 62 = .ok (.aload_n 1, 1) := by decide +kernel
theorem dX7_findCount_63 : decode cX7_findCount 63 = .ok (.aload_n 1, 1) := by decide +kernel
theorem dX7_findCount_64 : decode cX7_findCount 64 = .ok (.getfield 134, 3) := by decide +kernel
theorem dX7_findCount_67 : decode cX7_findCount 67 = .ok (.getfield 140, 3) := by decide +kernel
theorem dX7_findCount_70 : decode cX7_findCount 70 = .ok (.putfield 134, 3) := by decide +kernel
theorem dX7_findCount_73 : decode cX7_findCount 73 = .ok (.aload_n 1, 1) := by decide +kernel
theorem dX7_findCount_74 : decode cX7_findCount 74 = .ok (.getfield 127, 3) := by decide +kernel
theorem dX7_findCount_77 : decode cX7_findCount 77 = .ok (.aload_n 0, 1) := by decide +kernel
theorem dX7_findCount_78 : decode cX7_findCount 78 = .ok (.getfield 137, 3) := by decide +kernel
theorem dX7_findCount_81 : decode cX7_findCount 81 = .ok (.if_icmp .lt 36, 3) := by decide +kernel
theorem dX7_findCount_84 : decode cX7_findCount 84 = .ok (.aload_n 1, 1) := by decide +kernel
theorem dX7_findCount_85 : decode cX7_findCount 85 = .ok (.getfield 134, 3) := by decide +kernel
theorem dX7_findCount_88 : decode cX7_findCount 88 = .ok (.ifnull 29, 3) := by decide +kernel
theorem dX7_findCount_91 : decode cX7_findCount 91 = .ok (.aload_n 1, 1) := by decide +kernel
theorem dX7_findCount_92 : decode cX7_findCount 92 = .ok (.getfield 134, 3) := by decide +kernel
theorem dX7_findCount_95 : decode cX7_findCount 95 = .ok (.getfield 143, 3) := by decide +kernel
theorem dX7_findCount_98 : decode cX7_findCount 98 = .ok (.getfield 92, 3) := by decide +kernel
theorem dX7_findCount_101 : decode cX7_findCount 101 = .ok (.aload_n 2, 1) := by decide +kernel
theorem dX7_findCount_102 : decode cX7_findCount 102 = .ok (.getfield 92, 3) := by decide +kernel
theorem dX7_findCount_105 : decode cX7_findCount 105 = .ok (.aload_n 0, 1) := by decide +kernel
theorem dX7_findCount_106 : decode cX7_findCount 106 = .ok (.getfield 147, 3) := by decide +kernel
theorem dX7_findCount_109 : decode cX7_findCount 109 = .ok (.isub, 1) := by decide +kernel
theorem dX7_findCount_110 : decode cX7_findCount 110 = .ok (.if_icmp .le 7, 3) := by decide +kernel
theorem dX7_findCount_113 : decode cX7_findCount 113 = .ok (.iconst 1, 1) := by decide +kernel
theorem dX7_findCount_114 : decode cX7_findCount 114 = .ok (.goto 4, 3) := by decide +kernel
theorem dX7_findCount_117 : decode cX7_findCount 117 = .ok (.iconst 0, 1) := by decide +kernel
theorem dX7_findCount_118 : decode cX7_findCount 118 = .ok (.istore_n 3, 1) := by decide +kernel
theorem dX7_findCount_119 : decode cX7_findCount 119 = .ok (.iload_n 3, 1) := by decide +kernel
theorem dX7_findCount_120 : decode cX7_findCount 120 = .ok (.ifCond .eq 16, 3) := by decide +kernel
theorem dX7_findCount_123 : decode cX7_findCount 123 = .ok (.aload_n 1, 1) := by decide +kernel
theorem dX7_findCount_124 : decode cX7_findCount 124 = .ok (.getfield 134, 3) := by decide +kernel
theorem dX7_findCount_127 : decode cX7_findCount 127 = .ok (.getfield 143, 3) := by decide +kernel
theorem dX7_findCount_130 : decode cX7_findCount 130 = .ok (.getfield 150, 3) := by decide +kernel
theorem dX7_findCount_133 : decode cX7_findCount 133 = .ok (.goto 4, 3) := by decide +kernel
theorem dX7_findCount_136 : decode cX7_findCount 136 = .ok (.iconst (-1), 1) := by decide +kernel
theorem dX7_findCount_137 : decode cX7_findCount 137 = .ok (.ireturn, 1) := by decide +kernel
theorem dX7_findSum_0 : decode cX7_findSum 0 = .ok (.aload_n 3, 1) := by decide +kernel
theorem dX7_findSum_1 : decode cX7_findSum 1 = .ok (.getfield 151, 3) := by decide +kernel
theorem dX7_findSum_4 : decode cX7_findSum 4 = .ok (.ifCond .eq 5, 3) := by decide +kernel
theorem dX7_findSum_7 : decode cX7_findSum 7 = .ok (.iconst (-1), 1) := by decide +kernel
theorem dX7_findSum_8 : decode cX7_findSum 8 = .ok (.ireturn, 1) := by decide +kernel
theorem dX7_findSum_9 : decode cX7_findSum 9 = .ok (.aload_n 0, 1) := by decide +kernel
theorem dX7_findSum_10 : decode cX7_findSum 10 = .ok (.new 118, 3) := by decide +kernel
theorem dX7_findSum_13 : decode cX7_findSum 13 = .ok (.dup, 1) := by decide +kernel
theorem dX7_findSum_14 : decode cX7_findSum 14 = .ok (.aload_n 2, 1) := by decide +kernel
theorem dX7_findSum_15 : decode cX7_findSum 15 = .ok (.aload_n 1, 1) := by decide +kernel
theorem dX7_findSum_16 : decode cX7_findSum 16 = .ok (.aload_n 3, 1) := by decide +kernel
theorem dX7_findSum_17 : decode cX7_findSum 17 = .ok (.getfield 154, 3) := by decide +kernel
theorem dX7_findSum_20 : decode cX7_findSum 20 = .ok (.aconst_null, 1) := by decide +kernel
theorem dX7_findSum_21 : decode cX7_findSum 21 = .ok (.invokespecial 120, 3) := by decide +kernel
theorem dX7_findSum_24 : decode cX7_findSum 24 = .ok (.invokevirtual 123, 3) := by decide +kernel
theorem dX7_findSum_27 : decode cX7_findSum 27 = .ok (.aload_n 1, 1) := by decide +kernel
theorem dX7_findSum_28 : decode cX7_findSum 28 = .ok (.dup, 1) := by decide +kernel
theorem dX7_findSum_29 : decode cX7_findSum 29 = .ok (.getfield 155, 3) := by decide +kernel
theorem dX7_findSum_32 : decode cX7_findSum 32 = .ok (.aload_n 3, 1) := by decide +kernel
theorem dX7_findSum_33 : decode cX7_findSum 33 = .ok (.getfield 154, 3) := by decide +kernel
theorem dX7_findSum_36 : decode cX7_findSum 36 = .ok (.i2l, 1) := by decide +kernel
theorem dX7_findSum_37 : decode cX7_findSum 37 = .ok (.ladd, 1) := by decide +kernel
theorem dX7_findSum_38 : decode cX7_findSum 38 = .ok (.putfield 155, 3) := by decide +kernel
theorem dX7_findSum_41 : decode cX7_findSum 41 = .ok (.aload_n 1, 1) := by decide +kernel
theorem dX7_findSum_42 : decode cX7_findSum 42 = .ok (.getfield 155, 3) := by decide +kernel
theorem dX7_findSum_45 : decode cX7_findSum 45 = .ok (.aload_n 0, 1) := by decide +kernel
theorem dX7_findSum_46 : decode cX7_findSum 46 = .ok (.getfield 137, 3) := by decide +kernel
theorem dX7_findSum_49 : decode cX7_findSum 49 = .ok (.i2l, 1) := by decide +kernel
theorem dX7_findSum_50 : decode cX7_findSum 50 = .ok (.lcmp, 1) := by decide +kernel
theorem dX7_findSum_51 : decode cX7_findSum 51 = .ok (.ifCond .lt 23, 3) := by decide +kernel
theorem dX7_findSum_54 : decode cX7_findSum 54 = .ok (.aload_n 1, 1) := by decide +kernel
theorem dX7_findSum_55 : decode cX7_findSum 55 = .ok (.getfield 158, 3) := by decide +kernel
theorem dX7_findSum_58 : decode cX7_findSum 58 = .ok (.ifnull 16, 3) := by decide +kernel
theorem dX7_findSum_61 : decode cX7_findSum 61 = .ok (.aload_n 1, 1) := by decide +kernel
theorem dX7_findSum_62 : decode cX7_findSum 62 = .ok (.getfield 158, 3) := by decide +kernel
theorem dX7_findSum_65 : decode cX7_findSum 65 = .ok (.getfield 143, 3) := by decide +kernel
theorem dX7_findSum_68 : decode cX7_findSum 68 = .ok (.getfield 150, 3) := by decide +kernel
theorem dX7_findSum_71 : decode cX7_findSum 71 = .ok (.goto 4, 3) := by decide +kernel
theorem dX7_findSum_74 : decode cX7_findSum 74 = .ok (.iconst (-1), 1) := by decide +kernel
theorem dX7_findSum_75 : decode cX7_findSum 75 = .ok (.ireturn, 1) := by decide +kernel
theorem dX7_findDistinct_0 : decode cX7_findDistinct 0 = .ok (.aload_n 0, 1) := by decide +kernel
theorem dX7_findDistinct_1 : decode cX7_findDistinct 1 = .ok (.new 118, 3) := by decide +kernel
theorem dX7_findDistinct_4 : decode cX7_findDistinct 4 = .ok (.dup, 1) := by decide +kernel
theorem dX7_findDistinct_5 : decode cX7_findDistinct 5 = .ok (.aload_n 2, 1) := by decide +kernel
theorem dX7_findDistinct_6 : decode cX7_findDistinct 6 = .ok (.aload_n 1, 1) := by decide +kernel
theorem dX7_findDistinct_7 : decode cX7_findDistinct 7 = .ok (.iconst 0, 1) := by decide +kernel
theorem dX7_findDistinct_8 : decode cX7_findDistinct 8 = .ok (.aload_n 3, 1) := by decide +kernel
theorem dX7_findDistinct_9 : decode cX7_findDistinct 9 = .ok (.invokespecial 120, 3) := by decide +kernel
theorem dX7_findDistinct_12 : decode cX7_findDistinct 12 = .ok (.invokevirtual 123, 3) := by decide +kernel
theorem dX7_findDistinct_15 : decode cX7_findDistinct 15 = .ok (.aload_n 3, 1) := by decide +kernel
theorem dX7_findDistinct_16 : decode cX7_findDistinct 16 = .ok (.dup, 1) := by decide +kernel
theorem dX7_findDistinct_17 : decode cX7_findDistinct 17 = .ok (.getfield 161, 3) := by decide +kernel
theorem dX7_findDistinct_20 : decode cX7_findDistinct 20 = .ok (.iconst 1, 1) := by decide +kernel
theorem dX7_findDistinct_21 : decode cX7_findDistinct 21 = .ok (.iadd, 1) := by decide +kernel
theorem dX7_findDistinct_22 : decode cX7_findDistinct 22 = .ok (.putfield 161, 3) := by decide +kernel
theorem dX7_findDistinct_25 : decode cX7_findDistinct 25 = .ok (.aload_n 3, 1) := by decide +kernel
theorem dX7_findDistinct_26 : decode cX7_findDistinct 26 = .ok (.getfield 161, 3) := by decide +kernel
theorem dX7_findDistinct_29 : decode cX7_findDistinct 29 = .ok (.iconst 1, 1) := by decide +kernel
theorem dX7_findDistinct_30 : decode cX7_findDistinct 30 = .ok (.if_icmp .ne 13, 3) := by decide +kernel
theorem dX7_findDistinct_33 : decode cX7_findDistinct 33 = .ok (.aload_n 1, 1) := by decide +kernel
theorem dX7_findDistinct_34 : decode cX7_findDistinct 34 = .ok (.dup, 1) := by decide +kernel
theorem dX7_findDistinct_35 : decode cX7_findDistinct 35 = .ok (.getfield 164, 3) := by decide +kernel
theorem dX7_findDistinct_38 : decode cX7_findDistinct 38 = .ok (.iconst 1, 1) := by decide +kernel
theorem dX7_findDistinct_39 : decode cX7_findDistinct 39 = .ok (.iadd, 1) := by decide +kernel
theorem dX7_findDistinct_40 : decode cX7_findDistinct 40 = .ok (.putfield 164, 3) := by decide +kernel
theorem dX7_findDistinct_43 : decode cX7_findDistinct 43 = .ok (.aload_n 1, 1) := by decide +kernel
theorem dX7_findDistinct_44 : decode cX7_findDistinct 44 = .ok (.getfield 164, 3) := by decide +kernel
theorem dX7_findDistinct_47 : decode cX7_findDistinct 47 = .ok (.aload_n 0, 1) := by decide +kernel
theorem dX7_findDistinct_48 : decode cX7_findDistinct 48 = .ok (.getfield 137, 3) := by decide +kernel
theorem dX7_findDistinct_51 : decode cX7_findDistinct 51 = .ok (.if_icmp .lt 23, 3) := by decide +kernel
theorem dX7_findDistinct_54 : decode cX7_findDistinct 54 = .ok (.aload_n 1, 1) := by decide +kernel
theorem dX7_findDistinct_55 : decode cX7_findDistinct 55 = .ok (.getfield 158, 3) := by decide +kernel
theorem dX7_findDistinct_58 : decode cX7_findDistinct 58 = .ok (.ifnull 16, 3) := by decide +kernel
theorem dX7_findDistinct_61 : decode cX7_findDistinct 61 = .ok (.aload_n 1, 1) := by decide +kernel
theorem dX7_findDistinct_62 : decode cX7_findDistinct 62 = .ok (.getfield 158, 3) := by decide +kernel
theorem dX7_findDistinct_65 : decode cX7_findDistinct 65 = .ok (.getfield 143, 3) := by decide +kernel
theorem dX7_findDistinct_68 : decode cX7_findDistinct 68 = .ok (.getfield 150, 3) := by decide +kernel
theorem dX7_findDistinct_71 : decode cX7_findDistinct 71 = .ok (.goto 4, 3) := by decide +kernel
theorem dX7_findDistinct_74 : decode cX7_findDistinct 74 = .ok (.iconst (-1), 1) := by decide +kernel
theorem dX7_findDistinct_75 : decode cX7_findDistinct 75 = .ok (.ireturn, 1) := by decide +kernel
theorem dX7_keep_0 : decode cX7_keep 0 = .ok (.aload_n 1, 1) := by decide +kernel
theorem dX7_keep_1 : decode cX7_keep 1 = .ok (.getfield 167, 3) := by decide +kernel
theorem dX7_keep_4 : decode cX7_keep 4 = .ok (.astore_n 2, 1) := by decide +kernel
theorem dX7_keep_5 : decode cX7_keep 5 = .ok (.aload_n 2, 1) := by decide +kernel
theorem dX7_keep_6 : decode cX7_keep 6 = .ok (.getfield 158, 3) := by decide +kernel
theorem dX7_keep_9 : decode cX7_keep 9 = .ok (.ifnonnull 8, 3) := by decide +kernel
theorem dX7_keep_12 : decode cX7_keep 12 = .ok (.aload_n 2, 1) := by decide +kernel
theorem dX7_keep_13 : decode cX7_keep 13 = .ok (.aload_n 1, 1) := by decide +kernel
theorem dX7_keep_14 : decode cX7_keep 14 = .ok (.putfield 158, 3) := by decide +kernel
theorem dX7_keep_17 : decode cX7_keep 17 = .ok (.aload_n 2, 1) := by decide +kernel
theorem dX7_keep_18 : decode cX7_keep 18 = .ok (.getfield 130, 3) := by decide +kernel
theorem dX7_keep_21 : decode cX7_keep 21 = .ok (.ifnull 11, 3) := by decide +kernel
theorem dX7_keep_24 : decode cX7_keep 24 = .ok (.aload_n 2, 1) := by decide +kernel
theorem dX7_keep_25 : decode cX7_keep 25 = .ok (.getfield 130, 3) := by decide +kernel
theorem dX7_keep_28 : decode cX7_keep 28 = .ok (.aload_n 1, 1) := by decide +kernel
theorem dX7_keep_29 : decode cX7_keep 29 = .ok (.putfield 140, 3) := by decide +kernel
theorem dX7_keep_32 : decode cX7_keep 32 = .ok (.aload_n 2, 1) := by decide +kernel
theorem dX7_keep_33 : decode cX7_keep 33 = .ok (.aload_n 1, 1) := by decide +kernel
theorem dX7_keep_34 : decode cX7_keep 34 = .ok (.putfield 130, 3) := by decide +kernel
theorem dX7_keep_37 : decode cX7_keep 37 = .ok (.aload_n 0, 1) := by decide +kernel
theorem dX7_keep_38 : decode cX7_keep 38 = .ok (.aload_n 1, 1) := by decide +kernel
theorem dX7_keep_39 : decode cX7_keep 39 = .ok (.invokevirtual 170, 3) := by decide +kernel
theorem dX7_keep_42 : decode cX7_keep 42 = .ok (.aload_n 0, 1) := by decide +kernel
theorem dX7_keep_43 : decode cX7_keep 43 = .ok (.dup, 1) := by decide +kernel
theorem dX7_keep_44 : decode cX7_keep 44 = .ok (.getfield 173, 3) := by decide +kernel
theorem dX7_keep_47 : decode cX7_keep 47 = .ok (.iconst 1, 1) := by decide +kernel
theorem dX7_keep_48 : decode cX7_keep 48 = .ok (.iadd, 1) := by decide +kernel
theorem dX7_keep_49 : decode cX7_keep 49 = .ok (.putfield 173, 3) := by decide +kernel
theorem dX7_keep_52 : decode cX7_keep 52 = .ok (.return_, 1) := by decide +kernel
theorem dX7_append_0 : decode cX7_append 0 = .ok (.aload_n 0, 1) := by decide +kernel
theorem dX7_append_1 : decode cX7_append 1 = .ok (.getfield 176, 3) := by decide +kernel
theorem dX7_append_4 : decode cX7_append 4 = .ok (.ifnull 10, 3) := by decide +kernel
theorem dX7_append_7 : decode cX7_append 7 = .ok (.aload_n 0, 1) := by decide +kernel
theorem dX7_append_8 : decode cX7_append 8 = .ok (.getfield 177, 3) := by decide +kernel
theorem dX7_append_11 : decode cX7_append 11 = .ok (.ifnonnull 11, 3) := by decide +kernel
theorem dX7_append_14 : decode cX7_append 14 = .ok (.aload_n 0, 1) := by decide +kernel
theorem dX7_append_15 : decode cX7_append 15 = .ok (.aload_n 1, 1) := by decide +kernel
theorem dX7_append_16 : decode cX7_append 16 = .ok (.putfield 177, 3) := by decide +kernel
theorem dX7_append_19 : decode cX7_append 19 = .ok (.goto 11, 3) := by decide +kernel
theorem dX7_append_22 : decode cX7_append 22 = .ok (.aload_n 0, 1) := by decide +kernel
theorem dX7_append_23 : decode cX7_append 23 = .ok (.getfield 176, 3) := by decide +kernel
theorem dX7_append_26 : decode cX7_append 26 = .ok (.aload_n 1, 1) := by decide +kernel
theorem dX7_append_27 : decode cX7_append 27 = .ok (.putfield 178, 3) := by decide +kernel
theorem dX7_append_30 : decode cX7_append 30 = .ok (.aload_n 0, 1) := by decide +kernel
theorem dX7_append_31 : decode cX7_append 31 = .ok (.aload_n 1, 1) := by decide +kernel
theorem dX7_append_32 : decode cX7_append 32 = .ok (.putfield 176, 3) := by decide +kernel
theorem dX7_append_35 : decode cX7_append 35 = .ok (.return_, 1) := by decide +kernel
theorem dX7_forget_0 : decode cX7_forget 0 = .ok (.aload_n 0, 1) := by decide +kernel
theorem dX7_forget_1 : decode cX7_forget 1 = .ok (.getfield 177, 3) := by decide +kernel
theorem dX7_forget_4 : decode cX7_forget 4 = .ok (.ifnull 119, 3) := by decide +kernel
theorem dX7_forget_7 : decode cX7_forget 7 = .ok (.aload_n 0, 1) := by decide +kernel
theorem dX7_forget_8 : decode cX7_forget 8 = .ok (.getfield 177, 3) := by decide +kernel
theorem dX7_forget_11 : decode cX7_forget 11 = .ok (.getfield 143, 3) := by decide +kernel
theorem dX7_forget_14 : decode cX7_forget 14 = .ok (.getfield 92, 3) := by decide +kernel
theorem dX7_forget_17 : decode cX7_forget 17 = .ok (.iload_n 1, 1) := by decide +kernel
theorem dX7_forget_18 : decode cX7_forget 18 = .ok (.aload_n 0, 1) := by decide +kernel
theorem dX7_forget_19 : decode cX7_forget 19 = .ok (.getfield 147, 3) := by decide +kernel
theorem dX7_forget_22 : decode cX7_forget 22 = .ok (.isub, 1) := by decide +kernel
theorem dX7_forget_23 : decode cX7_forget 23 = .ok (.if_icmp .gt 100, 3) := by decide +kernel
theorem dX7_forget_26 : decode cX7_forget 26 = .ok (.aload_n 0, 1) := by decide +kernel
theorem dX7_forget_27 : decode cX7_forget 27 = .ok (.getfield 177, 3) := by decide +kernel
theorem dX7_forget_30 : decode cX7_forget 30 = .ok (.astore_n 2, 1) := by decide +kernel
theorem dX7_forget_31 : decode cX7_forget 31 = .ok (.aload_n 0, 1) := by decide +kernel
theorem dX7_forget_32 : decode cX7_forget 32 = .ok (.aload_n 2, 1) := by decide +kernel
theorem dX7_forget_33 : decode cX7_forget 33 = .ok (.getfield 178, 3) := by decide +kernel
theorem dX7_forget_36 : decode cX7_forget 36 = .ok (.putfield 177, 3) := by decide +kernel
theorem dX7_forget_39 : decode cX7_forget 39 = .ok (.aload_n 0, 1) := by decide +kernel
theorem dX7_forget_40 : decode cX7_forget 40 = .ok (.dup, 1) := by decide +kernel
theorem dX7_forget_41 : decode cX7_forget 41 = .ok (.getfield 173, 3) := by decide +kernel
theorem dX7_forget_44 : decode cX7_forget 44 = .ok (.iconst 1, 1) := by decide +kernel
theorem dX7_forget_45 : decode cX7_forget 45 = .ok (.isub, 1) := by decide +kernel
theorem dX7_forget_46 : decode cX7_forget 46 = .ok (.putfield 173, 3) := by decide +kernel
theorem dX7_forget_49 : decode cX7_forget 49 = .ok (.aload_n 2, 1) := by decide +kernel
theorem dX7_forget_50 : decode cX7_forget 50 = .ok (.getfield 167, 3) := by decide +kernel
theorem dX7_forget_53 : decode cX7_forget 53 = .ok (.aload_n 2, 1) := by decide +kernel
theorem dX7_forget_54 : decode cX7_forget 54 = .ok (.getfield 140, 3) := by decide +kernel
theorem dX7_forget_57 : decode cX7_forget 57 = .ok (.putfield 158, 3) := by decide +kernel
theorem dX7_forget_60 : decode cX7_forget 60 = .ok (.aload_n 2, 1) := by decide +kernel
theorem dX7_forget_61 : decode cX7_forget 61 = .ok (.getfield 167, 3) := by decide +kernel
theorem dX7_forget_64 : decode cX7_forget 64 = .ok (.dup, 1) := by decide +kernel
theorem dX7_forget_65 : decode cX7_forget 65 = .ok (.getfield 155, 3) := by decide +kernel
theorem dX7_forget_68 : decode cX7_forget 68 = .ok (.aload_n 2, 1) := by decide +kernel
theorem dX7_forget_69 : decode cX7_forget 69 = .ok (.getfield 181, 3) := by decide +kernel
theorem dX7_forget_72 : decode cX7_forget 72 = .ok (.i2l, 1) := by decide +kernel
theorem dX7_forget_73 : decode cX7_forget 73 = .ok (.lsub, 1) := by decide +kernel
theorem dX7_forget_74 : decode cX7_forget 74 = .ok (.putfield 155, 3) := by decide +kernel
theorem dX7_forget_77 : decode cX7_forget 77 = .ok (.aload_n 2, 1) := by decide +kernel
theorem dX7_forget_78 : decode cX7_forget 78 = .ok (.getfield 184, 3) := by decide +kernel
theorem dX7_forget_81 : decode cX7_forget 81 = .ok (.ifnull 39, 3) := by decide +kernel
theorem dX7_forget_84 : decode cX7_forget 84 = .ok (.aload_n 2, 1) := by decide +kernel
theorem dX7_forget_85 : decode cX7_forget 85 = .ok (.getfield 184, 3) := by decide +kernel
theorem dX7_forget_88 : decode cX7_forget 88 = .ok (.dup, 1) := by decide +kernel
theorem dX7_forget_89 : decode cX7_forget 89 = .ok (.getfield 161, 3) := by decide +kernel
theorem dX7_forget_92 : decode cX7_forget 92 = .ok (.iconst 1, 1) := by decide +kernel
theorem dX7_forget_93 : decode cX7_forget 93 = .ok (.isub, 1) := by decide +kernel
theorem dX7_forget_94 : decode cX7_forget 94 = .ok (.putfield 161, 3) := by decide +kernel
theorem dX7_forget_97 : decode cX7_forget 97 = .ok (.aload_n 2, 1) := by decide +kernel
theorem dX7_forget_98 : decode cX7_forget 98 = .ok (.getfield 184, 3) := by decide +kernel
theorem dX7_forget_101 : decode cX7_forget 101 = .ok (.getfield 161, 3) := by decide +kernel
theorem dX7_forget_104 : decode cX7_forget 104 = .ok (.ifCond .ne 16, 3) := by decide +kernel
theorem dX7_forget_107 : decode cX7_forget 107 = .ok (.aload_n 2, 1) := by decide +kernel
theorem dX7_forget_108 : decode cX7_forget 108 = .ok (.getfield 167, 3) := by decide +kernel
theorem dX7_forget_111 : decode cX7_forget 111 = .ok (.dup, 1) := by decide +kernel
theorem dX7_forget_112 : decode cX7_forget 112 = .ok (.getfield 164, 3) := by decide +kernel
theorem dX7_forget_115 : decode cX7_forget 115 = .ok (.iconst 1, 1) := by decide +kernel
theorem dX7_forget_116 : decode cX7_forget 116 = .ok (.isub, 1) := by decide +kernel
theorem dX7_forget_117 : decode cX7_forget 117 = .ok (.putfield 164, 3) := by decide +kernel
theorem dX7_forget_120 : decode cX7_forget 120 = .ok (.goto (-120), 3) := by decide +kernel
theorem dX7_forget_123 : decode cX7_forget 123 = .ok (.return_, 1) := by decide +kernel
theorem dX7_findChain_0 : decode cX7_findChain 0 = .ok (.aload_n 0, 1) := by decide +kernel
theorem dX7_findChain_1 : decode cX7_findChain 1 = .ok (.getfield 40, 3) := by decide +kernel
theorem dX7_findChain_4 : decode cX7_findChain 4 = .ok (.iconst 1, 1) := by decide +kernel
theorem dX7_findChain_5 : decode cX7_findChain 5 = .ok (.isub, 1) := by decide +kernel
theorem dX7_findChain_6 : decode cX7_findChain 6 = .ok (.istore 5, 2) := by decide +kernel
theorem dX7_findChain_8 : decode cX7_findChain 8 = .ok (.iload 5, 2) := by decide +kernel
theorem dX7_findChain_10 : decode cX7_findChain 10 = .ok (.ifCond .ge 5, 3) := by decide +kernel
theorem dX7_findChain_13 : decode cX7_findChain 13 = .ok (.iconst (-1), 1) := by decide +kernel
theorem dX7_findChain_14 : decode cX7_findChain 14 = .ok (.ireturn, 1) := by decide +kernel
theorem dX7_findChain_15 : decode cX7_findChain 15 = .ok (.aload_n 1, 1) := by decide +kernel
theorem dX7_findChain_16 : decode cX7_findChain 16 = .ok (.getfield 187, 3) := by decide +kernel
theorem dX7_findChain_19 : decode cX7_findChain 19 = .ok (.ifnonnull 14, 3) := by decide +kernel
theorem dX7_findChain_22 : decode cX7_findChain 22 = .ok (.aload_n 1, 1) := by decide +kernel
theorem dX7_findChain_23 : decode cX7_findChain 23 = .ok (.aload_n 0, 1) := by decide +kernel
theorem dX7_findChain_24 : decode cX7_findChain 24 = .ok (.getfield 40, 3) := by decide +kernel
theorem dX7_findChain_27 : decode cX7_findChain 27 = .ok (.anewarray 47, 3) := by decide +kernel
theorem dX7_findChain_30 : decode cX7_findChain 30 = .ok (.putfield 187, 3) := by decide +kernel
theorem dX7_findChain_33 : decode cX7_findChain 33 = .ok (.aload_n 1, 1) := by decide +kernel
theorem dX7_findChain_34 : decode cX7_findChain 34 = .ok (.getfield 187, 3) := by decide +kernel
theorem dX7_findChain_37 : decode cX7_findChain 37 = .ok (.astore 6, 2) := by decide +kernel
theorem dX7_findChain_39 : decode cX7_findChain 39 = .ok (.iload 5, 2) := by decide +kernel
theorem dX7_findChain_41 : decode cX7_findChain 41 = .ok (.aload 6, 2) := by decide +kernel
theorem dX7_findChain_43 : decode cX7_findChain 43 = .ok (.arraylength, 1) := by decide +kernel
theorem dX7_findChain_44 : decode cX7_findChain 44 = .ok (.iconst 1, 1) := by decide +kernel
theorem dX7_findChain_45 : decode cX7_findChain 45 = .ok (.isub, 1) := by decide +kernel
theorem dX7_findChain_46 : decode cX7_findChain 46 = .ok (.invokestatic 111, 3) := by decide +kernel
theorem dX7_findChain_49 : decode cX7_findChain 49 = .ok (.istore 7, 2) := by decide +kernel
theorem dX7_findChain_51 : decode cX7_findChain 51 = .ok (.iload 7, 2) := by decide +kernel
theorem dX7_findChain_53 : decode cX7_findChain 53 = .ok (.ifCond .le 31, 3) := by decide +kernel
theorem dX7_findChain_56 : decode cX7_findChain 56 = .ok (.iload_n 3, 1) := by decide +kernel
theorem dX7_findChain_57 : decode cX7_findChain 57 = .ok (.iload 7, 2) := by decide +kernel
theorem dX7_findChain_59 : decode cX7_findChain 59 = .ok (.ishr, 1) := by decide +kernel
theorem dX7_findChain_60 : decode cX7_findChain 60 = .ok (.iconst 1, 1) := by decide +kernel
theorem dX7_findChain_61 : decode cX7_findChain 61 = .ok (.iand, 1) := by decide +kernel
theorem dX7_findChain_62 : decode cX7_findChain 62 = .ok (.iconst 1, 1) := by decide +kernel
theorem dX7_findChain_63 : decode cX7_findChain 63 = .ok (.if_icmp .ne 15, 3) := by decide +kernel
theorem dX7_findChain_66 : decode cX7_findChain 66 = .ok (.aload 6, 2) := by decide +kernel
theorem dX7_findChain_68 : decode cX7_findChain 68 = .ok (.iload 7, 2) := by decide +kernel
theorem dX7_findChain_70 : decode cX7_findChain 70 = .ok (.aload 6, 2) := by decide +kernel
theorem dX7_findChain_72 : decode cX7_findChain 72 = .ok (.iload 7, 2) := by decide +kernel
theorem dX7_findChain_74 : decode cX7_findChain 74 = .ok (.iconst 1, 1) := by decide +kernel
theorem dX7_findChain_75 : decode cX7_findChain 75 = .ok (.isub, 1) := by decide +kernel
theorem dX7_findChain_76 : decode cX7_findChain 76 = .ok (.aaload, 1) := by decide +kernel
theorem dX7_findChain_77 : decode cX7_findChain 77 = .ok (.aastore, 1) := by decide +kernel
theorem dX7_findChain_78 : decode cX7_findChain 78 = .ok (.iinc 7 (-1), 3) := by decide +kernel
theorem dX7_findChain_81 : decode cX7_findChain 81 = .ok (.goto (-30), 3) := by decide +kernel
theorem dX7_findChain_84 : decode cX7_findChain 84 = .ok (.iload_n 3, 1) := by decide +kernel
theorem dX7_findChain_85 : decode cX7_findChain 85 = .ok (.iconst 1, 1) := by decide +kernel
theorem dX7_findChain_86 : decode cX7_findChain 86 = .ok (.iand, 1) := by decide +kernel
theorem dX7_findChain_87 : decode cX7_findChain 87 = .ok (.iconst 1, 1) := by decide +kernel
theorem dX7_findChain_88 : decode cX7_findChain 88 = .ok (.if_icmp .ne 7, 3) := by decide +kernel
theorem dX7_findChain_91 : decode cX7_findChain 91 = .ok (.iconst 1, 1) := by decide +kernel
theorem dX7_findChain_92 : decode cX7_findChain 92 = .ok (.goto 4, 3) := by decide +kernel
theorem dX7_findChain_95 : decode cX7_findChain 95 = .ok (.iconst 0, 1) := by decide +kernel
theorem dX7_findChain_96 : decode cX7_findChain 96 = .ok (.istore 7, 2) := by decide +kernel
theorem dX7_findChain_98 : decode cX7_findChain 98 = .ok (.iload 5, 2) := by decide +kernel
theorem dX7_findChain_100 : decode cX7_findChain 100 = .ok (.ifCond .ne 7, 3) := by decide +kernel
theorem dX7_findChain_103 : decode cX7_findChain 103 = .ok (.aload_n 2, 1) := by decide +kernel
theorem dX7_findChain_104 : decode cX7_findChain 104 = .ok (.goto 8, 3) := by decide +kernel
theorem dX7_findChain_107 : decode cX7_findChain 107 = .ok (.aload 6, 2) := by decide +kernel
theorem dX7_findChain_109 : decode cX7_findChain 109 = .ok (.iload 5, 2) := by decide +kernel
theorem dX7_findChain_111 : decode cX7_findChain 111 = .ok (.aaload, 1) := by decide +kernel
theorem dX7_findChain_112 : decode cX7_findChain 112 = .ok (.astore 8, 2) := by decide +kernel
theorem dX7_findChain_114 : decode cX7_findChain 114 = .ok (.iload_n 3, 1) := by decide +kernel
theorem dX7_findChain_115 : decode cX7_findChain 115 = .ok (.iload 5, 2) := by decide +kernel
theorem dX7_findChain_117 : decode cX7_findChain 117 = .ok (.ishr, 1) := by decide +kernel
theorem dX7_findChain_118 : decode cX7_findChain 118 = .ok (.iconst 1, 1) := by decide +kernel
theorem dX7_findChain_119 : decode cX7_findChain 119 = .ok (.iand, 1) := by decide +kernel
theorem dX7_findChain_120 : decode cX7_findChain 120 = .ok (.iconst 1, 1) := by decide +kernel
theorem dX7_findChain_121 : decode cX7_findChain 121 = .ok (.if_icmp .ne 29, 3) := by decide +kernel
theorem dX7_findChain_124 : decode cX7_findChain 124 = .ok (.aload 8, 2) := by decide +kernel
theorem dX7_findChain_126 : decode cX7_findChain 126 = .ok (.ifnull 24, 3) := by decide +kernel
theorem dX7_findChain_129 : decode cX7_findChain 129 = .ok (.aload 8, 2) := by decide +kernel
theorem dX7_findChain_131 : decode cX7_findChain 131 = .ok (.getfield 92, 3) := by decide +kernel
theorem dX7_findChain_134 : decode cX7_findChain 134 = .ok (.aload_n 2, 1) := by decide +kernel
theorem dX7_findChain_135 : decode cX7_findChain 135 = .ok (.getfield 92, 3) := by decide +kernel
theorem dX7_findChain_138 : decode cX7_findChain 138 = .ok (.aload_n 0, 1) := by decide +kernel
theorem dX7_findChain_139 : decode cX7_findChain 139 = .ok (.getfield 147, 3) := by decide +kernel
theorem dX7_findChain_142 : decode cX7_findChain 142 = .ok (.isub, 1) := by decide +kernel
theorem dX7_findChain_143 : decode cX7_findChain 143 = .ok (.if_icmp .le 7, 3) := by decide +kernel
theorem dX7_findChain_146 : decode cX7_findChain 146 = .ok (.iconst 1, 1) := by decide +kernel
theorem dX7_findChain_147 : decode cX7_findChain 147 = .ok (.goto 4, 3) := by decide +kernel
theorem dX7_findChain_150 : decode cX7_findChain 150 = .ok (.iconst 0, 1) := by decide +kernel
theorem dX7_findChain_151 : decode cX7_findChain 151 = .ok (.istore 9, 2) := by decide +kernel
theorem dX7_findChain_153 : decode cX7_findChain 153 = .ok (.iload 4, 2) := by decide +kernel
theorem dX7_findChain_155 : decode cX7_findChain 155 = .ok (.ifCond .eq 26, 3) := by decide +kernel
theorem dX7_findChain_158 : decode cX7_findChain 158 = .ok (.iconst 0, 1) := by decide +kernel
theorem dX7_findChain_159 : decode cX7_findChain 159 = .ok (.istore 10, 2) := by decide +kernel
theorem dX7_findChain_161 : decode cX7_findChain 161 = .ok (.iload 10, 2) := by decide +kernel
theorem dX7_findChain_163 : decode cX7_findChain 163 = .ok (.aload 6, 2) := by decide +kernel
theorem dX7_findChain_165 : decode cX7_findChain 165 = .ok (.arraylength, 1) := by decide +kernel
theorem dX7_findChain_166 : decode cX7_findChain 166 = .ok (.if_icmp .ge 15, 3) := by decide +kernel
theorem dX7_findChain_169 : decode cX7_findChain 169 = .ok (.aload 6, 2) := by decide +kernel
theorem dX7_findChain_171 : decode cX7_findChain 171 = .ok (.iload 10, 2) := by decide +kernel
theorem dX7_findChain_173 : decode cX7_findChain 173 = .ok (.aconst_null, 1) := by decide +kernel
theorem dX7_findChain_174 : decode cX7_findChain 174 = .ok (.aastore, 1) := by decide +kernel
theorem dX7_findChain_175 : decode cX7_findChain 175 = .ok (.iinc 10 1, 3) := by decide +kernel
theorem dX7_findChain_178 : decode cX7_findChain 178 = .ok (.goto (-17), 3) := by decide +kernel
theorem dX7_findChain_181 : decode cX7_findChain 181 = .ok (.iload 7, 2) := by decide +kernel
theorem dX7_findChain_183 : decode cX7_findChain 183 = .ok (.ifCond .eq 8, 3) := by decide +kernel
theorem dX7_findChain_186 : decode cX7_findChain 186 = .ok (.aload 6, 2) := by decide +kernel
theorem dX7_findChain_188 : decode cX7_findChain 188 = .ok (.iconst 0, 1) := by decide +kernel
theorem dX7_findChain_189 : decode cX7_findChain 189 = .ok (.aload_n 2, 1) := by decide +kernel
theorem dX7_findChain_190 : decode cX7_findChain 190 = .ok (.aastore, 1) := by decide +kernel
theorem dX7_findChain_191 : decode cX7_findChain 191 = .ok (.iload 9, 2) := by decide +kernel
theorem dX7_findChain_193 : decode cX7_findChain 193 = .ok (.ifCond .eq 11, 3) := by decide +kernel
theorem dX7_findChain_196 : decode cX7_findChain 196 = .ok (.aload 8, 2) := by decide +kernel
theorem dX7_findChain_198 : decode cX7_findChain 198 = .ok (.getfield 150, 3) := by decide +kernel
theorem dX7_findChain_201 : decode cX7_findChain 201 = .ok (.goto 4, 3) := by decide +kernel
theorem dX7_findChain_204 : decode cX7_findChain 204 = .ok (.iconst (-1), 1) := by decide +kernel
theorem dX7_findChain_205 : decode cX7_findChain 205 = .ok (.ireturn, 1) := by decide +kernel
theorem dX7_waitForSecond_0 : decode cX7_waitForSecond 0 = .ok (.iload_n 3, 1) := by decide +kernel
theorem dX7_waitForSecond_1 : decode cX7_waitForSecond 1 = .ok (.iconst 2, 1) := by decide +kernel
theorem dX7_waitForSecond_2 : decode cX7_waitForSecond 2 = .ok (.iand, 1) := by decide +kernel
theorem dX7_waitForSecond_3 : decode cX7_waitForSecond 3 = .ok (.ifCond .eq 29, 3) := by decide +kernel
theorem dX7_waitForSecond_6 : decode cX7_waitForSecond 6 = .ok (.aload_n 1, 1) := by decide +kernel
theorem dX7_waitForSecond_7 : decode cX7_waitForSecond 7 = .ok (.aload_n 2, 1) := by decide +kernel
theorem dX7_waitForSecond_8 : decode cX7_waitForSecond 8 = .ok (.getfield 150, 3) := by decide +kernel
theorem dX7_waitForSecond_11 : decode cX7_waitForSecond 11 = .ok (.putfield 191, 3) := by decide +kernel
theorem dX7_waitForSecond_14 : decode cX7_waitForSecond 14 = .ok (.aload_n 0, 1) := by decide +kernel
theorem dX7_waitForSecond_15 : decode cX7_waitForSecond 15 = .ok (.dup, 1) := by decide +kernel
theorem dX7_waitForSecond_16 : decode cX7_waitForSecond 16 = .ok (.getfield 173, 3) := by decide +kernel
theorem dX7_waitForSecond_19 : decode cX7_waitForSecond 19 = .ok (.aload_n 1, 1) := by decide +kernel
theorem dX7_waitForSecond_20 : decode cX7_waitForSecond 20 = .ok (.getfield 194, 3) := by decide +kernel
theorem dX7_waitForSecond_23 : decode cX7_waitForSecond 23 = .ok (.isub, 1) := by decide +kernel
theorem dX7_waitForSecond_24 : decode cX7_waitForSecond 24 = .ok (.putfield 173, 3) := by decide +kernel
theorem dX7_waitForSecond_27 : decode cX7_waitForSecond 27 = .ok (.aload_n 1, 1) := by decide +kernel
theorem dX7_waitForSecond_28 : decode cX7_waitForSecond 28 = .ok (.iconst 0, 1) := by decide +kernel
theorem dX7_waitForSecond_29 : decode cX7_waitForSecond 29 = .ok (.putfield 194, 3) := by decide +kernel
theorem dX7_waitForSecond_32 : decode cX7_waitForSecond 32 = .ok (.iload_n 3, 1) := by decide +kernel
theorem dX7_waitForSecond_33 : decode cX7_waitForSecond 33 = .ok (.iconst 1, 1) := by decide +kernel
theorem dX7_waitForSecond_34 : decode cX7_waitForSecond 34 = .ok (.iand, 1) := by decide +kernel
theorem dX7_waitForSecond_35 : decode cX7_waitForSecond 35 = .ok (.ifCond .eq 38, 3) := by decide +kernel
theorem dX7_waitForSecond_38 : decode cX7_waitForSecond 38 = .ok (.aload_n 0, 1) := by decide +kernel
theorem dX7_waitForSecond_39 : decode cX7_waitForSecond 39 = .ok (.new 118, 3) := by decide +kernel
theorem dX7_waitForSecond_42 : decode cX7_waitForSecond 42 = .ok (.dup, 1) := by decide +kernel
theorem dX7_waitForSecond_43 : decode cX7_waitForSecond 43 = .ok (.aload_n 2, 1) := by decide +kernel
theorem dX7_waitForSecond_44 : decode cX7_waitForSecond 44 = .ok (.aload_n 1, 1) := by decide +kernel
theorem dX7_waitForSecond_45 : decode cX7_waitForSecond 45 = .ok (.iconst 0, 1) := by decide +kernel
theorem dX7_waitForSecond_46 : decode cX7_waitForSecond 46 = .ok (.aconst_null, 1) := by decide +kernel
theorem dX7_waitForSecond_47 : decode cX7_waitForSecond 47 = .ok (.invokespecial 120, 3) := by decide +kernel
theorem dX7_waitForSecond_50 : decode cX7_waitForSecond 50 = .ok (.invokevirtual 170, 3) := by decide +kernel
theorem dX7_waitForSecond_53 : decode cX7_waitForSecond 53 = .ok (.aload_n 1, 1) := by decide +kernel
theorem dX7_waitForSecond_54 : decode cX7_waitForSecond 54 = .ok (.dup, 1) := by decide +kernel
theorem dX7_waitForSecond_55 : decode cX7_waitForSecond 55 = .ok (.getfield 194, 3) := by decide +kernel
theorem dX7_waitForSecond_58 : decode cX7_waitForSecond 58 = .ok (.iconst 1, 1) := by decide +kernel
theorem dX7_waitForSecond_59 : decode cX7_waitForSecond 59 = .ok (.iadd, 1) := by decide +kernel
theorem dX7_waitForSecond_60 : decode cX7_waitForSecond 60 = .ok (.putfield 194, 3) := by decide +kernel
theorem dX7_waitForSecond_63 : decode cX7_waitForSecond 63 = .ok (.aload_n 0, 1) := by decide +kernel
theorem dX7_waitForSecond_64 : decode cX7_waitForSecond 64 = .ok (.dup, 1) := by decide +kernel
theorem dX7_waitForSecond_65 : decode cX7_waitForSecond 65 = .ok (.getfield 173, 3) := by decide +kernel
theorem dX7_waitForSecond_68 : decode cX7_waitForSecond 68 = .ok (.iconst 1, 1) := by decide +kernel
theorem dX7_waitForSecond_69 : decode cX7_waitForSecond 69 = .ok (.iadd, 1) := by decide +kernel
theorem dX7_waitForSecond_70 : decode cX7_waitForSecond 70 = .ok (.putfield 173, 3) := by decide +kernel
theorem dX7_waitForSecond_73 : decode cX7_waitForSecond 73 = .ok (.return_, 1) := by decide +kernel
theorem dX7_nextDue_0 : decode cX7_nextDue 0 = .ok (.aload_n 0, 1) := by decide +kernel
theorem dX7_nextDue_1 : decode cX7_nextDue 1 = .ok (.getfield 43, 3) := by decide +kernel
theorem dX7_nextDue_4 : decode cX7_nextDue 4 = .ok (.bipush 31, 2) := by decide +kernel
theorem dX7_nextDue_6 : decode cX7_nextDue 6 = .ok (.if_icmp .eq 5, 3) := by decide +kernel
theorem dX7_nextDue_9 : decode cX7_nextDue 9 = .ok (.iconst (-1), 1) := by decide +kernel
theorem dX7_nextDue_10 : decode cX7_nextDue 10 = .ok (.ireturn, 1) := by decide +kernel
theorem dX7_nextDue_11 : decode cX7_nextDue 11 = .ok (.aload_n 0, 1) := by decide +kernel
theorem dX7_nextDue_12 : decode cX7_nextDue 12 = .ok (.getfield 177, 3) := by decide +kernel
theorem dX7_nextDue_15 : decode cX7_nextDue 15 = .ok (.ifnull 40, 3) := by decide +kernel
theorem dX7_nextDue_18 : decode cX7_nextDue 18 = .ok (.aload_n 0, 1) := by decide +kernel
theorem dX7_nextDue_19 : decode cX7_nextDue 19 = .ok (.getfield 177, 3) := by decide +kernel
theorem dX7_nextDue_22 : decode cX7_nextDue 22 = .ok (.getfield 143, 3) := by decide +kernel
theorem dX7_nextDue_25 : decode cX7_nextDue 25 = .ok (.getfield 150, 3) := by decide +kernel
theorem dX7_nextDue_28 : decode cX7_nextDue 28 = .ok (.aload_n 0, 1) := by decide +kernel
theorem dX7_nextDue_29 : decode cX7_nextDue 29 = .ok (.getfield 177, 3) := by decide +kernel
theorem dX7_nextDue_32 : decode cX7_nextDue 32 = .ok (.getfield 167, 3) := by decide +kernel
theorem dX7_nextDue_35 : decode cX7_nextDue 35 = .ok (.getfield 191, 3) := by decide +kernel
theorem dX7_nextDue_38 : decode cX7_nextDue 38 = .ok (.if_icmp .ge 17, 3) := by decide +kernel
theorem dX7_nextDue_41 : decode cX7_nextDue 41 = .ok (.aload_n 0, 1) := by decide +kernel
theorem dX7_nextDue_42 : decode cX7_nextDue 42 = .ok (.aload_n 0, 1) := by decide +kernel
theorem dX7_nextDue_43 : decode cX7_nextDue 43 = .ok (.getfield 177, 3) := by decide +kernel
theorem dX7_nextDue_46 : decode cX7_nextDue 46 = .ok (.getfield 178, 3) := by decide +kernel
theorem dX7_nextDue_49 : decode cX7_nextDue 49 = .ok (.putfield 177, 3) := by decide +kernel
theorem dX7_nextDue_52 : decode cX7_nextDue 52 = .ok (.goto (-41), 3) := by decide +kernel
theorem dX7_nextDue_55 : decode cX7_nextDue 55 = .ok (.aload_n 0, 1) := by decide +kernel
theorem dX7_nextDue_56 : decode cX7_nextDue 56 = .ok (.getfield 177, 3) := by decide +kernel
theorem dX7_nextDue_59 : decode cX7_nextDue 59 = .ok (.ifnonnull 7, 3) := by decide +kernel
theorem dX7_nextDue_62 : decode cX7_nextDue 62 = .ok (.iconst (-1), 1) := by decide +kernel
theorem dX7_nextDue_63 : decode cX7_nextDue 63 = .ok (.goto 18, 3) := by decide +kernel
theorem dX7_nextDue_66 : decode cX7_nextDue 66 = .ok (.aload_n 0, 1) := by decide +kernel
theorem dX7_nextDue_67 : decode cX7_nextDue 67 = .ok (.getfield 177, 3) := by decide +kernel
theorem dX7_nextDue_70 : decode cX7_nextDue 70 = .ok (.getfield 143, 3) := by decide +kernel
theorem dX7_nextDue_73 : decode cX7_nextDue 73 = .ok (.getfield 92, 3) := by decide +kernel
theorem dX7_nextDue_76 : decode cX7_nextDue 76 = .ok (.aload_n 0, 1) := by decide +kernel
theorem dX7_nextDue_77 : decode cX7_nextDue 77 = .ok (.getfield 147, 3) := by decide +kernel
theorem dX7_nextDue_80 : decode cX7_nextDue 80 = .ok (.iadd, 1) := by decide +kernel
theorem dX7_nextDue_81 : decode cX7_nextDue 81 = .ok (.ireturn, 1) := by decide +kernel
theorem dX7_takeDue_0 : decode cX7_takeDue 0 = .ok (.aload_n 0, 1) := by decide +kernel
theorem dX7_takeDue_1 : decode cX7_takeDue 1 = .ok (.invokevirtual 197, 3) := by decide +kernel
theorem dX7_takeDue_4 : decode cX7_takeDue 4 = .ok (.iload_n 1, 1) := by decide +kernel
theorem dX7_takeDue_5 : decode cX7_takeDue 5 = .ok (.if_icmp .ne 10, 3) := by decide +kernel
theorem dX7_takeDue_8 : decode cX7_takeDue 8 = .ok (.aload_n 0, 1) := by decide +kernel
theorem dX7_takeDue_9 : decode cX7_takeDue 9 = .ok (.getfield 177, 3) := by decide +kernel
theorem dX7_takeDue_12 : decode cX7_takeDue 12 = .ok (.ifnonnull 5, 3) := by decide +kernel
theorem dX7_takeDue_15 : decode cX7_takeDue 15 = .ok (.aconst_null, 1) := by decide +kernel
theorem dX7_takeDue_16 : decode cX7_takeDue 16 = .ok (.areturn, 1) := by decide +kernel
theorem dX7_takeDue_17 : decode cX7_takeDue 17 = .ok (.aload_n 0, 1) := by decide +kernel
theorem dX7_takeDue_18 : decode cX7_takeDue 18 = .ok (.getfield 177, 3) := by decide +kernel
theorem dX7_takeDue_21 : decode cX7_takeDue 21 = .ok (.astore_n 2, 1) := by decide +kernel
theorem dX7_takeDue_22 : decode cX7_takeDue 22 = .ok (.aload_n 0, 1) := by decide +kernel
theorem dX7_takeDue_23 : decode cX7_takeDue 23 = .ok (.aload_n 2, 1) := by decide +kernel
theorem dX7_takeDue_24 : decode cX7_takeDue 24 = .ok (.getfield 178, 3) := by decide +kernel
theorem dX7_takeDue_27 : decode cX7_takeDue 27 = .ok (.putfield 177, 3) := by decide +kernel
theorem dX7_takeDue_30 : decode cX7_takeDue 30 = .ok (.aload_n 2, 1) := by decide +kernel
theorem dX7_takeDue_31 : decode cX7_takeDue 31 = .ok (.getfield 167, 3) := by decide +kernel
theorem dX7_takeDue_34 : decode cX7_takeDue 34 = .ok (.dup, 1) := by decide +kernel
theorem dX7_takeDue_35 : decode cX7_takeDue 35 = .ok (.getfield 194, 3) := by decide +kernel
theorem dX7_takeDue_38 : decode cX7_takeDue 38 = .ok (.iconst 1, 1) := by decide +kernel
theorem dX7_takeDue_39 : decode cX7_takeDue 39 = .ok (.isub, 1) := by decide +kernel
theorem dX7_takeDue_40 : decode cX7_takeDue 40 = .ok (.putfield 194, 3) := by decide +kernel
theorem dX7_takeDue_43 : decode cX7_takeDue 43 = .ok (.aload_n 0, 1) := by decide +kernel
theorem dX7_takeDue_44 : decode cX7_takeDue 44 = .ok (.dup, 1) := by decide +kernel
theorem dX7_takeDue_45 : decode cX7_takeDue 45 = .ok (.getfield 173, 3) := by decide +kernel
theorem dX7_takeDue_48 : decode cX7_takeDue 48 = .ok (.iconst 1, 1) := by decide +kernel
theorem dX7_takeDue_49 : decode cX7_takeDue 49 = .ok (.isub, 1) := by decide +kernel
theorem dX7_takeDue_50 : decode cX7_takeDue 50 = .ok (.putfield 173, 3) := by decide +kernel
theorem dX7_takeDue_53 : decode cX7_takeDue 53 = .ok (.aload_n 2, 1) := by decide +kernel
theorem dX7_takeDue_54 : decode cX7_takeDue 54 = .ok (.areturn, 1) := by decide +kernel
theorem dX7_holdsAt_0 : decode cX7_holdsAt 0 = .ok (.aload_n 0, 1) := by decide +kernel
theorem dX7_holdsAt_1 : decode cX7_holdsAt 1 = .ok (.getfield 43, 3) := by decide +kernel
theorem dX7_holdsAt_4 : decode cX7_holdsAt 4 = .ok (.bipush 28, 2) := by decide +kernel
theorem dX7_holdsAt_6 : decode cX7_holdsAt 6 = .ok (.if_icmp .ne 14, 3) := by decide +kernel
theorem dX7_holdsAt_9 : decode cX7_holdsAt 9 = .ok (.aload_n 0, 1) := by decide +kernel
theorem dX7_holdsAt_10 : decode cX7_holdsAt 10 = .ok (.iload_n 1, 1) := by decide +kernel
theorem dX7_holdsAt_11 : decode cX7_holdsAt 11 = .ok (.aload_n 0, 1) := by decide +kernel
theorem dX7_holdsAt_12 : decode cX7_holdsAt 12 = .ok (.getfield 147, 3) := by decide +kernel
theorem dX7_holdsAt_15 : decode cX7_holdsAt 15 = .ok (.isub, 1) := by decide +kernel
theorem dX7_holdsAt_16 : decode cX7_holdsAt 16 = .ok (.invokevirtual 201, 3) := by decide +kernel
theorem dX7_holdsAt_19 : decode cX7_holdsAt 19 = .ok (.ireturn, 1) := by decide +kernel
theorem dX7_holdsAt_20 : decode cX7_holdsAt 20 = .ok (.aload_n 0, 1) := by decide +kernel
theorem dX7_holdsAt_21 : decode cX7_holdsAt 21 = .ok (.getfield 43, 3) := by decide +kernel
theorem dX7_holdsAt_24 : decode cX7_holdsAt 24 = .ok (.bipush 31, 2) := by decide +kernel
theorem dX7_holdsAt_26 : decode cX7_holdsAt 26 = .ok (.if_icmp .eq 8, 3) := by decide +kernel
theorem dX7_holdsAt_29 : decode cX7_holdsAt 29 = .ok (.aload_n 0, 1) := by decide +kernel
theorem dX7_holdsAt_30 : decode cX7_holdsAt 30 = .ok (.iload_n 1, 1) := by decide +kernel
theorem dX7_holdsAt_31 : decode cX7_holdsAt 31 = .ok (.invokevirtual 95, 3) := by decide +kernel
theorem dX7_holdsAt_34 : decode cX7_holdsAt 34 = .ok (.aload_n 0, 1) := by decide +kernel
theorem dX7_holdsAt_35 : decode cX7_holdsAt 35 = .ok (.getfield 173, 3) := by decide +kernel
theorem dX7_holdsAt_38 : decode cX7_holdsAt 38 = .ok (.ireturn, 1) := by decide +kernel
theorem dX7_startsSince_0 : decode cX7_startsSince 0 = .ok (.iconst 0, 1) := by decide +kernel
theorem dX7_startsSince_1 : decode cX7_startsSince 1 = .ok (.istore_n 2, 1) := by decide +kernel
theorem dX7_startsSince_2 : decode cX7_startsSince 2 = .ok (.iconst 0, 1) := by decide +kernel
theorem dX7_startsSince_3 : decode cX7_startsSince 3 = .ok (.istore_n 3, 1) := by decide +kernel
theorem dX7_startsSince_4 : decode cX7_startsSince 4 = .ok (.iload_n 3, 1) := by decide +kernel
theorem dX7_startsSince_5 : decode cX7_startsSince 5 = .ok (.aload_n 0, 1) := by decide +kernel
theorem dX7_startsSince_6 : decode cX7_startsSince 6 = .ok (.getfield 33, 3) := by decide +kernel
theorem dX7_startsSince_9 : decode cX7_startsSince 9 = .ok (.arraylength, 1) := by decide +kernel
theorem dX7_startsSince_10 : decode cX7_startsSince 10 = .ok (.if_icmp .ge 95, 3) := by decide +kernel
theorem dX7_startsSince_13 : decode cX7_startsSince 13 = .ok (.aload_n 0, 1) := by decide +kernel
theorem dX7_startsSince_14 : decode cX7_startsSince 14 = .ok (.getfield 33, 3) := by decide +kernel
theorem dX7_startsSince_17 : decode cX7_startsSince 17 = .ok (.iload_n 3, 1) := by decide +kernel
theorem dX7_startsSince_18 : decode cX7_startsSince 18 = .ok (.aaload, 1) := by decide +kernel
theorem dX7_startsSince_19 : decode cX7_startsSince 19 = .ok (.astore 4, 2) := by decide +kernel
theorem dX7_startsSince_21 : decode cX7_startsSince 21 = .ok (.aload 4, 2) := by decide +kernel
theorem dX7_startsSince_23 : decode cX7_startsSince 23 = .ok (.ifnull 76, 3) := by decide +kernel
theorem dX7_startsSince_26 : decode cX7_startsSince 26 = .ok (.aload 4, 2) := by decide +kernel
theorem dX7_startsSince_28 : decode cX7_startsSince 28 = .ok (.getfield 187, 3) := by decide +kernel
theorem dX7_startsSince_31 : decode cX7_startsSince 31 = .ok (.astore 5, 2) := by decide +kernel
theorem dX7_startsSince_33 : decode cX7_startsSince 33 = .ok (.iconst 0, 1) := by decide +kernel
theorem dX7_startsSince_34 : decode cX7_startsSince 34 = .ok (.istore 6, 2) := by decide +kernel
theorem dX7_startsSince_36 : decode cX7_startsSince 36 = .ok (.aload 5, 2) := by decide +kernel
theorem dX7_startsSince_38 : decode cX7_startsSince 38 = .ok (.ifnull 51, 3) := by decide +kernel
theorem dX7_startsSince_41 : decode cX7_startsSince 41 = .ok (.iload 6, 2) := by decide +kernel
theorem dX7_startsSince_43 : decode cX7_startsSince 43 = .ok (.aload 5, 2) := by decide +kernel
theorem dX7_startsSince_45 : decode cX7_startsSince 45 = .ok (.arraylength, 1) := by decide +kernel
theorem dX7_startsSince_46 : decode cX7_startsSince 46 = .ok (.if_icmp .ge 43, 3) := by decide +kernel
theorem dX7_startsSince_49 : decode cX7_startsSince 49 = .ok (.iload 6, 2) := by decide +kernel
theorem dX7_startsSince_51 : decode cX7_startsSince 51 = .ok (.aload_n 0, 1) := by decide +kernel
theorem dX7_startsSince_52 : decode cX7_startsSince 52 = .ok (.getfield 40, 3) := by decide +kernel
theorem dX7_startsSince_55 : decode cX7_startsSince 55 = .ok (.iconst 1, 1) := by decide +kernel
theorem dX7_startsSince_56 : decode cX7_startsSince 56 = .ok (.isub, 1) := by decide +kernel
theorem dX7_startsSince_57 : decode cX7_startsSince 57 = .ok (.if_icmp .ge 32, 3) := by decide +kernel
theorem dX7_startsSince_60 : decode cX7_startsSince 60 = .ok (.aload 5, 2) := by decide +kernel
theorem dX7_startsSince_62 : decode cX7_startsSince 62 = .ok (.iload 6, 2) := by decide +kernel
theorem dX7_startsSince_64 : decode cX7_startsSince 64 = .ok (.aaload, 1) := by decide +kernel
theorem dX7_startsSince_65 : decode cX7_startsSince 65 = .ok (.ifnull 18, 3) := by decide +kernel
theorem dX7_startsSince_68 : decode cX7_startsSince 68 = .ok (.aload 5, 2) := by decide +kernel
theorem dX7_startsSince_70 : decode cX7_startsSince 70 = .ok (.iload 6, 2) := by decide +kernel
theorem dX7_startsSince_72 : decode cX7_startsSince 72 = .ok (.aaload, 1) := by decide +kernel
theorem dX7_startsSince_73 : decode cX7_startsSince 73 = .ok (.getfield 92, 3) := by decide +kernel
theorem dX7_startsSince_76 : decode cX7_startsSince 76 = .ok (.iload_n 1, 1) := by decide +kernel
theorem dX7_startsSince_77 : decode cX7_startsSince 77 = .ok (.if_icmp .le 6, 3) := by decide +kernel
theorem dX7_startsSince_80 : decode cX7_startsSince 80 = .ok (.iinc 2 1, 3) := by decide +kernel
theorem dX7_startsSince_83 : decode cX7_startsSince 83 = .ok (.iinc 6 1, 3) := by decide +kernel
theorem dX7_startsSince_86 : decode cX7_startsSince 86 = .ok (.goto (-50), 3) := by decide +kernel
theorem dX7_startsSince_89 : decode cX7_startsSince 89 = .ok (.aload 4, 2) := by decide +kernel
theorem dX7_startsSince_91 : decode cX7_startsSince 91 = .ok (.getfield 69, 3) := by decide +kernel
theorem dX7_startsSince_94 : decode cX7_startsSince 94 = .ok (.astore 4, 2) := by decide +kernel
theorem dX7_startsSince_96 : decode cX7_startsSince 96 = .ok (.goto (-75), 3) := by decide +kernel
theorem dX7_startsSince_99 : decode cX7_startsSince 99 = .ok (.iinc 3 1, 3) := by decide +kernel
theorem dX7_startsSince_102 : decode cX7_startsSince 102 = .ok (.goto (-98), 3) := by decide +kernel
theorem dX7_startsSince_105 : decode cX7_startsSince 105 = .ok (.iload_n 2, 1) := by decide +kernel
theorem dX7_startsSince_106 : decode cX7_startsSince 106 = .ok (.ireturn, 1) := by decide +kernel
theorem dX8_init_0 : decode cX8_init 0 = .ok (.aload_n 0, 1) := by decide +kernel
theorem dX8_init_1 : decode cX8_init 1 = .ok (.invokespecial 3, 3) := by decide +kernel
theorem dX8_init_4 : decode cX8_init 4 = .ok (.aload_n 0, 1) := by decide +kernel
theorem dX8_init_5 : decode cX8_init 5 = .ok (.sipush 2001, 3) := by decide +kernel
theorem dX8_init_8 : decode cX8_init 8 = .ok (.newarray .int, 2) := by decide +kernel
theorem dX8_init_10 : decode cX8_init 10 = .ok (.putfield 9, 3) := by decide +kernel
theorem dX8_init_13 : decode cX8_init 13 = .ok (.aload_n 0, 1) := by decide +kernel
theorem dX8_init_14 : decode cX8_init 14 = .ok (.sipush 2001, 3) := by decide +kernel
theorem dX8_init_17 : decode cX8_init 17 = .ok (.newarray .int, 2) := by decide +kernel
theorem dX8_init_19 : decode cX8_init 19 = .ok (.putfield 15, 3) := by decide +kernel
theorem dX8_init_22 : decode cX8_init 22 = .ok (.aload_n 0, 1) := by decide +kernel
theorem dX8_init_23 : decode cX8_init 23 = .ok (.sipush 2001, 3) := by decide +kernel
theorem dX8_init_26 : decode cX8_init 26 = .ok (.newarray .long, 2) := by decide +kernel
theorem dX8_init_28 : decode cX8_init 28 = .ok (.putfield 18, 3) := by decide +kernel
theorem dX8_init_31 : decode cX8_init 31 = .ok (.aload_n 0, 1) := by decide +kernel
theorem dX8_init_32 : decode cX8_init 32 = .ok (.bipush 20, 2) := by decide +kernel
theorem dX8_init_34 : decode cX8_init 34 = .ok (.newarray .long, 2) := by decide +kernel
theorem dX8_init_36 : decode cX8_init 36 = .ok (.putfield 22, 3) := by decide +kernel
theorem dX8_init_39 : decode cX8_init 39 = .ok (.aload_n 0, 1) := by decide +kernel
theorem dX8_init_40 : decode cX8_init 40 = .ok (.getstatic 25, 3) := by decide +kernel
theorem dX8_init_43 : decode cX8_init 43 = .ok (.putfield 28, 3) := by decide +kernel
theorem dX8_init_46 : decode cX8_init 46 = .ok (.iconst 0, 1) := by decide +kernel
theorem dX8_init_47 : decode cX8_init 47 = .ok (.istore_n 1, 1) := by decide +kernel
theorem dX8_init_48 : decode cX8_init 48 = .ok (.iconst 0, 1) := by decide +kernel
theorem dX8_init_49 : decode cX8_init 49 = .ok (.istore_n 2, 1) := by decide +kernel
theorem dX8_init_50 : decode cX8_init 50 = .ok (.iconst 0, 1) := by decide +kernel
theorem dX8_init_51 : decode cX8_init 51 = .ok (.istore_n 3, 1) := by decide +kernel
theorem dX8_init_52 : decode cX8_init 52 = .ok (.iload_n 3, 1) := by decide +kernel
theorem dX8_init_53 : decode cX8_init 53 = .ok (.ldc 31, 2) := by decide +kernel
theorem dX8_init_55 : decode cX8_init 55 = .ok (.invokevirtual 33, 3) := by decide +kernel
theorem dX8_init_58 : decode cX8_init 58 = .ok (.if_icmp .ge 59, 3) := by decide +kernel
theorem dX8_init_61 : decode cX8_init 61 = .ok (.iload_n 1, 1) := by decide +kernel
theorem dX8_init_62 : decode cX8_init 62 = .ok (.bipush 20, 2) := by decide +kernel
theorem dX8_init_64 : decode cX8_init 64 = .ok (.if_icmp .ge 53, 3) := by decide +kernel
theorem dX8_init_67 : decode cX8_init 67 = .ok (.ldc 31, 2) := by decide +kernel
theorem dX8_init_69 : decode cX8_init 69 = .ok (.iload_n 3, 1) := by decide +kernel
theorem dX8_init_70 : decode cX8_init 70 = .ok (.invokevirtual 39, 3) := by decide +kernel
theorem dX8_init_73 : decode cX8_init 73 = .ok (.bipush 32, 2) := by decide +kernel
theorem dX8_init_75 : decode cX8_init 75 = .ok (.if_icmp .ne 11, 3) := by decide +kernel
theorem dX8_init_78 : decode cX8_init 78 = .ok (.iinc 1 1, 3) := by decide +kernel
theorem dX8_init_81 : decode cX8_init 81 = .ok (.iconst 0, 1) := by decide +kernel
theorem dX8_init_82 : decode cX8_init 82 = .ok (.istore_n 2, 1) := by decide +kernel
theorem dX8_init_83 : decode cX8_init 83 = .ok (.goto 28, 3) := by decide +kernel
theorem dX8_init_86 : decode cX8_init 86 = .ok (.aload_n 0, 1) := by decide +kernel
theorem dX8_init_87 : decode cX8_init 87 = .ok (.getfield 22, 3) := by decide +kernel
theorem dX8_init_90 : decode cX8_init 90 = .ok (.iload_n 1, 1) := by decide +kernel
theorem dX8_init_91 : decode cX8_init 91 = .ok (.aload_n 0, 1) := by decide +kernel
theorem dX8_init_92 : decode cX8_init 92 = .ok (.getfield 22, 3) := by decide +kernel
theorem dX8_init_95 : decode cX8_init 95 = .ok (.iload_n 1, 1) := by decide +kernel
theorem dX8_init_96 : decode cX8_init 96 = .ok (.laload, 1) := by decide +kernel
theorem dX8_init_97 : decode cX8_init 97 = .ok (.iload_n 2, 1) := by decide +kernel
theorem dX8_init_98 : decode cX8_init 98 = .ok (.ldc 31, 2) := by decide +kernel
theorem dX8_init_100 : decode cX8_init 100 = .ok (.iload_n 3, 1) := by decide +kernel
theorem dX8_init_101 : decode cX8_init 101 = .ok (.invokevirtual 39, 3) := by decide +kernel
theorem dX8_init_104 : decode cX8_init 104 = .ok (.invokestatic 43, 3) := by decide +kernel
theorem dX8_init_107 : decode cX8_init 107 = .ok (.lastore, 1) := by decide +kernel
theorem dX8_init_108 : decode cX8_init 108 = .ok (.iinc 2 1, 3) := by decide +kernel
theorem dX8_init_111 : decode cX8_init 111 = .ok (.iinc 3 1, 3) := by decide +kernel
theorem dX8_init_114 : decode cX8_init 114 = .ok (.goto (-62), 3) := by decide +kernel
theorem dX8_init_117 : decode cX8_init 117 = .ok (.return_, 1) := by decide +kernel
theorem dX8_scan_0 : decode cX8_scan 0 = .ok (.aload_n 0, 1) := by decide +kernel
theorem dX8_scan_1 : decode cX8_scan 1 = .ok (.aload_n 1, 1) := by decide +kernel
theorem dX8_scan_2 : decode cX8_scan 2 = .ok (.putfield 28, 3) := by decide +kernel
theorem dX8_scan_5 : decode cX8_scan 5 = .ok (.aload_n 0, 1) := by decide +kernel
theorem dX8_scan_6 : decode cX8_scan 6 = .ok (.iload_n 2, 1) := by decide +kernel
theorem dX8_scan_7 : decode cX8_scan 7 = .ok (.aload_n 1, 1) := by decide +kernel
theorem dX8_scan_8 : decode cX8_scan 8 = .ok (.arraylength, 1) := by decide +kernel
theorem dX8_scan_9 : decode cX8_scan 9 = .ok (.invokestatic 47, 3) := by decide +kernel
theorem dX8_scan_12 : decode cX8_scan 12 = .ok (.putfield 53, 3) := by decide +kernel
theorem dX8_scan_15 : decode cX8_scan 15 = .ok (.aload_n 0, 1) := by decide +kernel
theorem dX8_scan_16 : decode cX8_scan 16 = .ok (.iconst 0, 1) := by decide +kernel
theorem dX8_scan_17 : decode cX8_scan 17 = .ok (.putfield 57, 3) := by decide +kernel
theorem dX8_scan_20 : decode cX8_scan 20 = .ok (.iconst 0, 1) := by decide +kernel
theorem dX8_scan_21 : decode cX8_scan 21 = .ok (.istore_n 3, 1) := by decide +kernel
theorem dX8_scan_22 : decode cX8_scan 22 = .ok (.iload_n 3, 1) := by decide +kernel
