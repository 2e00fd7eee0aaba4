theorem dX12_oneMore_43 : decode cX12_oneMore 43 = .ok (.bipush 100, 2) := by decide +kernel
theorem dX12_oneMore_45 : decode cX12_oneMore 45 = .ok (.aload_n 0, 1) := by decide +kernel
theorem dX12_oneMore_46 : decode cX12_oneMore 46 = .ok (.iconst 0, 1) := by decide +kernel
theorem dX12_oneMore_47 : decode cX12_oneMore 47 = .ok (.invokevirtual 282, 3) := by decide +kernel
theorem dX12_oneMore_50 : decode cX12_oneMore 50 = .ok (.iadd, 1) := by decide +kernel
theorem dX12_oneMore_51 : decode cX12_oneMore 51 = .ok (.invokevirtual 272, 3) := by decide +kernel
theorem dX12_oneMore_54 : decode cX12_oneMore 54 = .ok (.isub, 1) := by decide +kernel
theorem dX12_oneMore_55 : decode cX12_oneMore 55 = .ok (.i2l, 1) := by decide +kernel
theorem dX12_oneMore_56 : decode cX12_oneMore 56 = .ok (.lastore, 1) := by decide +kernel
theorem dX12_oneMore_57 : decode cX12_oneMore 57 = .ok (.iconst 0, 1) := by decide +kernel
theorem dX12_oneMore_58 : decode cX12_oneMore 58 = .ok (.istore_n 3, 1) := by decide +kernel
theorem dX12_oneMore_59 : decode cX12_oneMore 59 = .ok (.iload_n 3, 1) := by decide +kernel
theorem dX12_oneMore_60 : decode cX12_oneMore 60 = .ok (.bipush 20, 2) := by decide +kernel
theorem dX12_oneMore_62 : decode cX12_oneMore 62 = .ok (.if_icmp .ge 113, 3) := by decide +kernel
theorem dX12_oneMore_65 : decode cX12_oneMore 65 = .ok (.iload_n 1, 1) := by decide +kernel
theorem dX12_oneMore_66 : decode cX12_oneMore 66 = .ok (.ifCond .le 109, 3) := by decide +kernel
theorem dX12_oneMore_69 : decode cX12_oneMore 69 = .ok (.aload_n 0, 1) := by decide +kernel
theorem dX12_oneMore_70 : decode cX12_oneMore 70 = .ok (.iload_n 3, 1) := by decide +kernel
theorem dX12_oneMore_71 : decode cX12_oneMore 71 = .ok (.iconst 0, 1) := by decide +kernel
theorem dX12_oneMore_72 : decode cX12_oneMore 72 = .ok (.invokevirtual 297, 3) := by decide +kernel
theorem dX12_oneMore_75 : decode cX12_oneMore 75 = .ok (.istore 4, 2) := by decide +kernel
theorem dX12_oneMore_77 : decode cX12_oneMore 77 = .ok (.aload_n 0, 1) := by decide +kernel
theorem dX12_oneMore_78 : decode cX12_oneMore 78 = .ok (.iload_n 3, 1) := by decide +kernel
theorem dX12_oneMore_79 : decode cX12_oneMore 79 = .ok (.iconst 1, 1) := by decide +kernel
theorem dX12_oneMore_80 : decode cX12_oneMore 80 = .ok (.invokevirtual 297, 3) := by decide +kernel
theorem dX12_oneMore_83 : decode cX12_oneMore 83 = .ok (.istore 5, 2) := by decide +kernel
theorem dX12_oneMore_85 : decode cX12_oneMore 85 = .ok (.iload 4, 2) := by decide +kernel
theorem dX12_oneMore_87 : decode cX12_oneMore 87 = .ok (.iconst (-1), 1) := by decide +kernel
theorem dX12_oneMore_88 : decode cX12_oneMore 88 = .ok (.if_icmp .eq 7, 3) := by decide +kernel
theorem dX12_oneMore_91 : decode cX12_oneMore 91 = .ok (.iload_n 2, 1) := by decide +kernel
theorem dX12_oneMore_92 : decode cX12_oneMore 92 = .ok (.ifCond .eq 7, 3) := by decide +kernel
theorem dX12_oneMore_95 : decode cX12_oneMore 95 = .ok (.iconst 0, 1) := by decide +kernel
theorem dX12_oneMore_96 : decode cX12_oneMore 96 = .ok (.goto 16, 3) := by decide +kernel
theorem dX12_oneMore_99 : decode cX12_oneMore 99 = .ok (.aload_n 0, 1) := by decide +kernel
theorem dX12_oneMore_100 : decode cX12_oneMore 100 = .ok (.bipush 100, 2) := by decide +kernel
theorem dX12_oneMore_102 : decode cX12_oneMore 102 = .ok (.aload_n 0, 1) := by decide +kernel
theorem dX12_oneMore_103 : decode cX12_oneMore 103 = .ok (.iload 4, 2) := by decide +kernel
theorem dX12_oneMore_105 : decode cX12_oneMore 105 = .ok (.invokevirtual 282, 3) := by decide +kernel
theorem dX12_oneMore_108 : decode cX12_oneMore 108 = .ok (.iadd, 1) := by decide +kernel
theorem dX12_oneMore_109 : decode cX12_oneMore 109 = .ok (.invokevirtual 272, 3) := by decide +kernel
theorem dX12_oneMore_112 : decode cX12_oneMore 112 = .ok (.istore 6, 2) := by decide +kernel
theorem dX12_oneMore_114 : decode cX12_oneMore 114 = .ok (.iload 4, 2) := by decide +kernel
theorem dX12_oneMore_116 : decode cX12_oneMore 116 = .ok (.iconst (-1), 1) := by decide +kernel
theorem dX12_oneMore_117 : decode cX12_oneMore 117 = .ok (.if_icmp .eq 26, 3) := by decide +kernel
theorem dX12_oneMore_120 : decode cX12_oneMore 120 = .ok (.aload_n 0, 1) := by decide +kernel
theorem dX12_oneMore_121 : decode cX12_oneMore 121 = .ok (.getfield 63, 3) := by decide +kernel
theorem dX12_oneMore_124 : decode cX12_oneMore 124 = .ok (.iload 4, 2) := by decide +kernel
theorem dX12_oneMore_126 : decode cX12_oneMore 126 = .ok (.dup2, 1) := by decide +kernel
theorem dX12_oneMore_127 : decode cX12_oneMore 127 = .ok (.laload, 1) := by decide +kernel
theorem dX12_oneMore_128 : decode cX12_oneMore 128 = .ok (.aload_n 0, 1) := by decide +kernel
theorem dX12_oneMore_129 : decode cX12_oneMore 129 = .ok (.getfield 59, 3) := by decide +kernel
theorem dX12_oneMore_132 : decode cX12_oneMore 132 = .ok (.iload_n 3, 1) := by decide +kernel
theorem dX12_oneMore_133 : decode cX12_oneMore 133 = .ok (.laload, 1) := by decide +kernel
theorem dX12_oneMore_134 : decode cX12_oneMore 134 = .ok (.bipush 10, 2) := by decide +kernel
theorem dX12_oneMore_136 : decode cX12_oneMore 136 = .ok (.iload 6, 2) := by decide +kernel
theorem dX12_oneMore_138 : decode cX12_oneMore 138 = .ok (.isub, 1) := by decide +kernel
theorem dX12_oneMore_139 : decode cX12_oneMore 139 = .ok (.i2l, 1) := by decide +kernel
theorem dX12_oneMore_140 : decode cX12_oneMore 140 = .ok (.lmul, 1) := by decide +kernel
theorem dX12_oneMore_141 : decode cX12_oneMore 141 = .ok (.ladd, 1) := by decide +kernel
theorem dX12_oneMore_142 : decode cX12_oneMore 142 = .ok (.lastore, 1) := by decide +kernel
theorem dX12_oneMore_143 : decode cX12_oneMore 143 = .ok (.iload 5, 2) := by decide +kernel
theorem dX12_oneMore_145 : decode cX12_oneMore 145 = .ok (.iconst (-1), 1) := by decide +kernel
theorem dX12_oneMore_146 : decode cX12_oneMore 146 = .ok (.if_icmp .eq 23, 3) := by decide +kernel
theorem dX12_oneMore_149 : decode cX12_oneMore 149 = .ok (.aload_n 0, 1) := by decide +kernel
theorem dX12_oneMore_150 : decode cX12_oneMore 150 = .ok (.getfield 63, 3) := by decide +kernel
theorem dX12_oneMore_153 : decode cX12_oneMore 153 = .ok (.iload 5, 2) := by decide +kernel
theorem dX12_oneMore_155 : decode cX12_oneMore 155 = .ok (.dup2, 1) := by decide +kernel
theorem dX12_oneMore_156 : decode cX12_oneMore 156 = .ok (.laload, 1) := by decide +kernel
theorem dX12_oneMore_157 : decode cX12_oneMore 157 = .ok (.aload_n 0, 1) := by decide +kernel
theorem dX12_oneMore_158 : decode cX12_oneMore 158 = .ok (.getfield 59, 3) := by decide +kernel
theorem dX12_oneMore_161 : decode cX12_oneMore 161 = .ok (.iload_n 3, 1) := by decide +kernel
theorem dX12_oneMore_162 : decode cX12_oneMore 162 = .ok (.laload, 1) := by decide +kernel
theorem dX12_oneMore_163 : decode cX12_oneMore 163 = .ok (.iload 6, 2) := by decide +kernel
theorem dX12_oneMore_165 : decode cX12_oneMore 165 = .ok (.i2l, 1) := by decide +kernel
theorem dX12_oneMore_166 : decode cX12_oneMore 166 = .ok (.lmul, 1) := by decide +kernel
theorem dX12_oneMore_167 : decode cX12_oneMore 167 = .ok (.ladd, 1) := by decide +kernel
theorem dX12_oneMore_168 : decode cX12_oneMore 168 = .ok (.lastore, 1) := by decide +kernel
theorem dX12_oneMore_169 : decode cX12_oneMore 169 = .ok (.iinc 3 1, 3) := by decide +kernel
theorem dX12_oneMore_172 : decode cX12_oneMore 172 = .ok (.goto (-113), 3) := by decide +kernel
theorem dX12_oneMore_175 : decode cX12_oneMore 175 = .ok (.iconst 0, 1) := by decide +kernel
theorem dX12_oneMore_176 : decode cX12_oneMore 176 = .ok (.istore_n 3, 1) := by decide +kernel
theorem dX12_oneMore_177 : decode cX12_oneMore 177 = .ok (.iload_n 3, 1) := by decide +kernel
theorem dX12_oneMore_178 : decode cX12_oneMore 178 = .ok (.bipush 20, 2) := by decide +kernel
theorem dX12_oneMore_180 : decode cX12_oneMore 180 = .ok (.if_icmp .ge 21, 3) := by decide +kernel
theorem dX12_oneMore_183 : decode cX12_oneMore 183 = .ok (.aload_n 0, 1) := by decide +kernel
theorem dX12_oneMore_184 : decode cX12_oneMore 184 = .ok (.getfield 59, 3) := by decide +kernel
theorem dX12_oneMore_187 : decode cX12_oneMore 187 = .ok (.iload_n 3, 1) := by decide +kernel
theorem dX12_oneMore_188 : decode cX12_oneMore 188 = .ok (.aload_n 0, 1) := by decide +kernel
theorem dX12_oneMore_189 : decode cX12_oneMore 189 = .ok (.getfield 63, 3) := by decide +kernel
theorem dX12_oneMore_192 : decode cX12_oneMore 192 = .ok (.iload_n 3, 1) := by decide +kernel
theorem dX12_oneMore_193 : decode cX12_oneMore 193 = .ok (.laload, 1) := by decide +kernel
theorem dX12_oneMore_194 : decode cX12_oneMore 194 = .ok (.lastore, 1) := by decide +kernel
theorem dX12_oneMore_195 : decode cX12_oneMore 195 = .ok (.iinc 3 1, 3) := by decide +kernel
theorem dX12_oneMore_198 : decode cX12_oneMore 198 = .ok (.goto (-21), 3) := by decide +kernel
theorem dX12_oneMore_201 : decode cX12_oneMore 201 = .ok (.return_, 1) := by decide +kernel
theorem dX12_comes_0 : decode cX12_comes 0 = .ok (.aload_n 0, 1) := by decide +kernel
theorem dX12_comes_1 : decode cX12_comes 1 = .ok (.iconst 0, 1) := by decide +kernel
theorem dX12_comes_2 : decode cX12_comes 2 = .ok (.putfield 91, 3) := by decide +kernel
theorem dX12_comes_5 : decode cX12_comes 5 = .ok (.iload_n 3, 1) := by decide +kernel
theorem dX12_comes_6 : decode cX12_comes 6 = .ok (.iconst 1, 1) := by decide +kernel
theorem dX12_comes_7 : decode cX12_comes 7 = .ok (.bipush 9, 2) := by decide +kernel
theorem dX12_comes_9 : decode cX12_comes 9 = .ok (.invokestatic 107, 3) := by decide +kernel
theorem dX12_comes_12 : decode cX12_comes 12 = .ok (.ifCond .eq 18, 3) := by decide +kernel
theorem dX12_comes_15 : decode cX12_comes 15 = .ok (.iload_n 2, 1) := by decide +kernel
theorem dX12_comes_16 : decode cX12_comes 16 = .ok (.invokestatic 371, 3) := by decide +kernel
theorem dX12_comes_19 : decode cX12_comes 19 = .ok (.ifCond .eq 11, 3) := by decide +kernel
theorem dX12_comes_22 : decode cX12_comes 22 = .ok (.aload_n 0, 1) := by decide +kernel
theorem dX12_comes_23 : decode cX12_comes 23 = .ok (.iload_n 1, 1) := by decide +kernel
theorem dX12_comes_24 : decode cX12_comes 24 = .ok (.invokevirtual 285, 3) := by decide +kernel
theorem dX12_comes_27 : decode cX12_comes 27 = .ok (.ifCond .ne 7, 3) := by decide +kernel
theorem dX12_comes_30 : decode cX12_comes 30 = .ok (.ldc2_w 389, 3) := by decide +kernel
theorem dX12_comes_33 : decode cX12_comes 33 = .ok (.lreturn, 1) := by decide +kernel
theorem dX12_comes_34 : decode cX12_comes 34 = .ok (.lconst 0, 1) := by decide +kernel
theorem dX12_comes_35 : decode cX12_comes 35 = .ok (.lstore 6, 2) := by decide +kernel
theorem dX12_comes_37 : decode cX12_comes 37 = .ok (.iconst 0, 1) := by decide +kernel
theorem dX12_comes_38 : decode cX12_comes 38 = .ok (.istore 8, 2) := by decide +kernel
theorem dX12_comes_40 : decode cX12_comes 40 = .ok (.iload 8, 2) := by decide +kernel
theorem dX12_comes_42 : decode cX12_comes 42 = .ok (.iload_n 3, 1) := by decide +kernel
theorem dX12_comes_43 : decode cX12_comes 43 = .ok (.if_icmp .ge 82, 3) := by decide +kernel
theorem dX12_comes_46 : decode cX12_comes 46 = .ok (.aload_n 0, 1) := by decide +kernel
theorem dX12_comes_47 : decode cX12_comes 47 = .ok (.getfield 276, 3) := by decide +kernel
theorem dX12_comes_50 : decode cX12_comes 50 = .ok (.ifCond .le 75, 3) := by decide +kernel
theorem dX12_comes_53 : decode cX12_comes 53 = .ok (.aload_n 0, 1) := by decide +kernel
theorem dX12_comes_54 : decode cX12_comes 54 = .ok (.iload 8, 2) := by decide +kernel
theorem dX12_comes_56 : decode cX12_comes 56 = .ok (.iload 4, 2) := by decide +kernel
theorem dX12_comes_58 : decode cX12_comes 58 = .ok (.invokevirtual 391, 3) := by decide +kernel
theorem dX12_comes_61 : decode cX12_comes 61 = .ok (.iconst 0, 1) := by decide +kernel
theorem dX12_comes_62 : decode cX12_comes 62 = .ok (.istore 9, 2) := by decide +kernel
theorem dX12_comes_64 : decode cX12_comes 64 = .ok (.iload 9, 2) := by decide +kernel
theorem dX12_comes_66 : decode cX12_comes 66 = .ok (.aload_n 0, 1) := by decide +kernel
theorem dX12_comes_67 : decode cX12_comes 67 = .ok (.getfield 276, 3) := by decide +kernel
theorem dX12_comes_70 : decode cX12_comes 70 = .ok (.if_icmp .ge 49, 3) := by decide +kernel
theorem dX12_comes_73 : decode cX12_comes 73 = .ok (.aload_n 0, 1) := by decide +kernel
theorem dX12_comes_74 : decode cX12_comes 74 = .ok (.iload 9, 2) := by decide +kernel
theorem dX12_comes_76 : decode cX12_comes 76 = .ok (.iload_n 2, 1) := by decide +kernel
theorem dX12_comes_77 : decode cX12_comes 77 = .ok (.invokevirtual 368, 3) := by decide +kernel
theorem dX12_comes_80 : decode cX12_comes 80 = .ok (.ifCond .eq 33, 3) := by decide +kernel
theorem dX12_comes_83 : decode cX12_comes 83 = .ok (.lload 6, 2) := by decide +kernel
theorem dX12_comes_85 : decode cX12_comes 85 = .ok (.aload_n 0, 1) := by decide +kernel
theorem dX12_comes_86 : decode cX12_comes 86 = .ok (.getfield 59, 3) := by decide +kernel
theorem dX12_comes_89 : decode cX12_comes 89 = .ok (.iload 9, 2) := by decide +kernel
theorem dX12_comes_91 : decode cX12_comes 91 = .ok (.laload, 1) := by decide +kernel
theorem dX12_comes_92 : decode cX12_comes 92 = .ok (.iload_n 3, 1) := by decide +kernel
theorem dX12_comes_93 : decode cX12_comes 93 = .ok (.iconst 1, 1) := by decide +kernel
theorem dX12_comes_94 : decode cX12_comes 94 = .ok (.isub, 1) := by decide +kernel
theorem dX12_comes_95 : decode cX12_comes 95 = .ok (.iload 8, 2) := by decide +kernel
theorem dX12_comes_97 : decode cX12_comes 97 = .ok (.isub, 1) := by decide +kernel
theorem dX12_comes_98 : decode cX12_comes 98 = .ok (.invokestatic 395, 3) := by decide +kernel
theorem dX12_comes_101 : decode cX12_comes 101 = .ok (.lmul, 1) := by decide +kernel
theorem dX12_comes_102 : decode cX12_comes 102 = .ok (.ladd, 1) := by decide +kernel
theorem dX12_comes_103 : decode cX12_comes 103 = .ok (.lstore 6, 2) := by decide +kernel
theorem dX12_comes_105 : decode cX12_comes 105 = .ok (.aload_n 0, 1) := by decide +kernel
theorem dX12_comes_106 : decode cX12_comes 106 = .ok (.getfield 59, 3) := by decide +kernel
theorem dX12_comes_109 : decode cX12_comes 109 = .ok (.iload 9, 2) := by decide +kernel
theorem dX12_comes_111 : decode cX12_comes 111 = .ok (.lconst 0, 1) := by decide +kernel
theorem dX12_comes_112 : decode cX12_comes 112 = .ok (.lastore, 1) := by decide +kernel
theorem dX12_comes_113 : decode cX12_comes 113 = .ok (.iinc 9 1, 3) := by decide +kernel
theorem dX12_comes_116 : decode cX12_comes 116 = .ok (.goto (-52), 3) := by decide +kernel
theorem dX12_comes_119 : decode cX12_comes 119 = .ok (.iinc 8 1, 3) := by decide +kernel
theorem dX12_comes_122 : decode cX12_comes 122 = .ok (.goto (-82), 3) := by decide +kernel
theorem dX12_comes_125 : decode cX12_comes 125 = .ok (.lload 6, 2) := by decide +kernel
theorem dX12_comes_127 : decode cX12_comes 127 = .ok (.iload_n 3, 1) := by decide +kernel
theorem dX12_comes_128 : decode cX12_comes 128 = .ok (.invokestatic 395, 3) := by decide +kernel
theorem dX12_comes_131 : decode cX12_comes 131 = .ok (.iload 5, 2) := by decide +kernel
theorem dX12_comes_133 : decode cX12_comes 133 = .ok (.invokestatic 399, 3) := by decide +kernel
theorem dX12_comes_136 : decode cX12_comes 136 = .ok (.lreturn, 1) := by decide +kernel
theorem dX12_harm_0 : decode cX12_harm 0 = .ok (.aload_n 0, 1) := by decide +kernel
theorem dX12_harm_1 : decode cX12_harm 1 = .ok (.iconst 0, 1) := by decide +kernel
theorem dX12_harm_2 : decode cX12_harm 2 = .ok (.putfield 91, 3) := by decide +kernel
theorem dX12_harm_5 : decode cX12_harm 5 = .ok (.iload_n 2, 1) := by decide +kernel
theorem dX12_harm_6 : decode cX12_harm 6 = .ok (.iconst 1, 1) := by decide +kernel
theorem dX12_harm_7 : decode cX12_harm 7 = .ok (.bipush 9, 2) := by decide +kernel
theorem dX12_harm_9 : decode cX12_harm 9 = .ok (.invokestatic 107, 3) := by decide +kernel
theorem dX12_harm_12 : decode cX12_harm 12 = .ok (.ifCond .eq 11, 3) := by decide +kernel
theorem dX12_harm_15 : decode cX12_harm 15 = .ok (.aload_n 0, 1) := by decide +kernel
theorem dX12_harm_16 : decode cX12_harm 16 = .ok (.iload_n 1, 1) := by decide +kernel
theorem dX12_harm_17 : decode cX12_harm 17 = .ok (.invokevirtual 285, 3) := by decide +kernel
theorem dX12_harm_20 : decode cX12_harm 20 = .ok (.ifCond .ne 7, 3) := by decide +kernel
theorem dX12_harm_23 : decode cX12_harm 23 = .ok (.ldc2_w 389, 3) := by decide +kernel
theorem dX12_harm_26 : decode cX12_harm 26 = .ok (.lreturn, 1) := by decide +kernel
theorem dX12_harm_27 : decode cX12_harm 27 = .ok (.lconst 0, 1) := by decide +kernel
theorem dX12_harm_28 : decode cX12_harm 28 = .ok (.lstore 5, 2) := by decide +kernel
theorem dX12_harm_30 : decode cX12_harm 30 = .ok (.iconst 0, 1) := by decide +kernel
theorem dX12_harm_31 : decode cX12_harm 31 = .ok (.istore 7, 2) := by decide +kernel
theorem dX12_harm_33 : decode cX12_harm 33 = .ok (.iload 7, 2) := by decide +kernel
theorem dX12_harm_35 : decode cX12_harm 35 = .ok (.iload_n 2, 1) := by decide +kernel
theorem dX12_harm_36 : decode cX12_harm 36 = .ok (.if_icmp .ge 71, 3) := by decide +kernel
theorem dX12_harm_39 : decode cX12_harm 39 = .ok (.aload_n 0, 1) := by decide +kernel
theorem dX12_harm_40 : decode cX12_harm 40 = .ok (.getfield 276, 3) := by decide +kernel
theorem dX12_harm_43 : decode cX12_harm 43 = .ok (.ifCond .le 64, 3) := by decide +kernel
theorem dX12_harm_46 : decode cX12_harm 46 = .ok (.aload_n 0, 1) := by decide +kernel
theorem dX12_harm_47 : decode cX12_harm 47 = .ok (.iload 7, 2) := by decide +kernel
theorem dX12_harm_49 : decode cX12_harm 49 = .ok (.iload_n 3, 1) := by decide +kernel
theorem dX12_harm_50 : decode cX12_harm 50 = .ok (.invokevirtual 391, 3) := by decide +kernel
theorem dX12_harm_53 : decode cX12_harm 53 = .ok (.iconst 0, 1) := by decide +kernel
theorem dX12_harm_54 : decode cX12_harm 54 = .ok (.istore 8, 2) := by decide +kernel
theorem dX12_harm_56 : decode cX12_harm 56 = .ok (.iload 8, 2) := by decide +kernel
theorem dX12_harm_58 : decode cX12_harm 58 = .ok (.aload_n 0, 1) := by decide +kernel
theorem dX12_harm_59 : decode cX12_harm 59 = .ok (.getfield 276, 3) := by decide +kernel
theorem dX12_harm_62 : decode cX12_harm 62 = .ok (.if_icmp .ge 39, 3) := by decide +kernel
theorem dX12_harm_65 : decode cX12_harm 65 = .ok (.lload 5, 2) := by decide +kernel
theorem dX12_harm_67 : decode cX12_harm 67 = .ok (.aload_n 0, 1) := by decide +kernel
theorem dX12_harm_68 : decode cX12_harm 68 = .ok (.getfield 59, 3) := by decide +kernel
theorem dX12_harm_71 : decode cX12_harm 71 = .ok (.iload 8, 2) := by decide +kernel
theorem dX12_harm_73 : decode cX12_harm 73 = .ok (.laload, 1) := by decide +kernel
theorem dX12_harm_74 : decode cX12_harm 74 = .ok (.aload_n 0, 1) := by decide +kernel
theorem dX12_harm_75 : decode cX12_harm 75 = .ok (.iload 8, 2) := by decide +kernel
theorem dX12_harm_77 : decode cX12_harm 77 = .ok (.invokevirtual 312, 3) := by decide +kernel
theorem dX12_harm_80 : decode cX12_harm 80 = .ok (.i2l, 1) := by decide +kernel
theorem dX12_harm_81 : decode cX12_harm 81 = .ok (.lmul, 1) := by decide +kernel
theorem dX12_harm_82 : decode cX12_harm 82 = .ok (.iload_n 2, 1) := by decide +kernel
theorem dX12_harm_83 : decode cX12_harm 83 = .ok (.iconst 1, 1) := by decide +kernel
theorem dX12_harm_84 : decode cX12_harm 84 = .ok (.isub, 1) := by decide +kernel
theorem dX12_harm_85 : decode cX12_harm 85 = .ok (.iload 7, 2) := by decide +kernel
theorem dX12_harm_87 : decode cX12_harm 87 = .ok (.isub, 1) := by decide +kernel
theorem dX12_harm_88 : decode cX12_harm 88 = .ok (.invokestatic 395, 3) := by decide +kernel
theorem dX12_harm_91 : decode cX12_harm 91 = .ok (.lmul, 1) := by decide +kernel
theorem dX12_harm_92 : decode cX12_harm 92 = .ok (.ladd, 1) := by decide +kernel
theorem dX12_harm_93 : decode cX12_harm 93 = .ok (.lstore 5, 2) := by decide +kernel
theorem dX12_harm_95 : decode cX12_harm 95 = .ok (.iinc 8 1, 3) := by decide +kernel
theorem dX12_harm_98 : decode cX12_harm 98 = .ok (.goto (-42), 3) := by decide +kernel
theorem dX12_harm_101 : decode cX12_harm 101 = .ok (.iinc 7 1, 3) := by decide +kernel
theorem dX12_harm_104 : decode cX12_harm 104 = .ok (.goto (-71), 3) := by decide +kernel
theorem dX12_harm_107 : decode cX12_harm 107 = .ok (.lload 5, 2) := by decide +kernel
theorem dX12_harm_109 : decode cX12_harm 109 = .ok (.iload_n 2, 1) := by decide +kernel
theorem dX12_harm_110 : decode cX12_harm 110 = .ok (.invokestatic 395, 3) := by decide +kernel
theorem dX12_harm_113 : decode cX12_harm 113 = .ok (.iload 4, 2) := by decide +kernel
theorem dX12_harm_115 : decode cX12_harm 115 = .ok (.invokestatic 399, 3) := by decide +kernel
theorem dX12_harm_118 : decode cX12_harm 118 = .ok (.lreturn, 1) := by decide +kernel
theorem dX12_next_0 : decode cX12_next 0 = .ok (.aload_n 0, 1) := by decide +kernel
theorem dX12_next_1 : decode cX12_next 1 = .ok (.iload_n 1, 1) := by decide +kernel
theorem dX12_next_2 : decode cX12_next 2 = .ok (.iconst 0, 1) := by decide +kernel
theorem dX12_next_3 : decode cX12_next 3 = .ok (.invokevirtual 297, 3) := by decide +kernel
theorem dX12_next_6 : decode cX12_next 6 = .ok (.istore_n 3, 1) := by decide +kernel
theorem dX12_next_7 : decode cX12_next 7 = .ok (.iload_n 3, 1) := by decide +kernel
theorem dX12_next_8 : decode cX12_next 8 = .ok (.iload_n 2, 1) := by decide +kernel
theorem dX12_next_9 : decode cX12_next 9 = .ok (.if_icmp .ne 8, 3) := by decide +kernel
theorem dX12_next_12 : decode cX12_next 12 = .ok (.iload_n 3, 1) := by decide +kernel
theorem dX12_next_13 : decode cX12_next 13 = .ok (.iconst (-1), 1) := by decide +kernel
theorem dX12_next_14 : decode cX12_next 14 = .ok (.if_icmp .ne 7, 3) := by decide +kernel
theorem dX12_next_17 : decode cX12_next 17 = .ok (.iload_n 3, 1) := by decide +kernel
theorem dX12_next_18 : decode cX12_next 18 = .ok (.goto 9, 3) := by decide +kernel
theorem dX12_next_21 : decode cX12_next 21 = .ok (.aload_n 0, 1) := by decide +kernel
theorem dX12_next_22 : decode cX12_next 22 = .ok (.iload_n 1, 1) := by decide +kernel
theorem dX12_next_23 : decode cX12_next 23 = .ok (.iconst 1, 1) := by decide +kernel
theorem dX12_next_24 : decode cX12_next 24 = .ok (.invokevirtual 297, 3) := by decide +kernel
theorem dX12_next_27 : decode cX12_next 27 = .ok (.ireturn, 1) := by decide +kernel
theorem dX12_lengthWithout_0 : decode cX12_lengthWithout 0 = .ok (.iconst 0, 1) := by decide +kernel
theorem dX12_lengthWithout_1 : decode cX12_lengthWithout 1 = .ok (.istore_n 2, 1) := by decide +kernel
theorem dX12_lengthWithout_2 : decode cX12_lengthWithout 2 = .ok (.iconst 0, 1) := by decide +kernel
theorem dX12_lengthWithout_3 : decode cX12_lengthWithout 3 = .ok (.istore_n 3, 1) := by decide +kernel
theorem dX12_lengthWithout_4 : decode cX12_lengthWithout 4 = .ok (.aload_n 0, 1) := by decide +kernel
theorem dX12_lengthWithout_5 : decode cX12_lengthWithout 5 = .ok (.getfield 276, 3) := by decide +kernel
theorem dX12_lengthWithout_8 : decode cX12_lengthWithout 8 = .ok (.ifCond .le 7, 3) := by decide +kernel
theorem dX12_lengthWithout_11 : decode cX12_lengthWithout 11 = .ok (.iconst 0, 1) := by decide +kernel
theorem dX12_lengthWithout_12 : decode cX12_lengthWithout 12 = .ok (.goto 4, 3) := by decide +kernel
theorem dX12_lengthWithout_15 : decode cX12_lengthWithout 15 = .ok (.iconst (-1), 1) := by decide +kernel
theorem dX12_lengthWithout_16 : decode cX12_lengthWithout 16 = .ok (.istore 4, 2) := by decide +kernel
theorem dX12_lengthWithout_18 : decode cX12_lengthWithout 18 = .ok (.iload 4, 2) := by decide +kernel
theorem dX12_lengthWithout_20 : decode cX12_lengthWithout 20 = .ok (.iconst (-1), 1) := by decide +kernel
theorem dX12_lengthWithout_21 : decode cX12_lengthWithout 21 = .ok (.if_icmp .eq 34, 3) := by decide +kernel
theorem dX12_lengthWithout_24 : decode cX12_lengthWithout 24 = .ok (.iload_n 2, 1) := by decide +kernel
theorem dX12_lengthWithout_25 : decode cX12_lengthWithout 25 = .ok (.iload 4, 2) := by decide +kernel
theorem dX12_lengthWithout_27 : decode cX12_lengthWithout 27 = .ok (.invokestatic 95, 3) := by decide +kernel
theorem dX12_lengthWithout_30 : decode cX12_lengthWithout 30 = .ok (.ifCond .ne 25, 3) := by decide +kernel
theorem dX12_lengthWithout_33 : decode cX12_lengthWithout 33 = .ok (.iload_n 2, 1) := by decide +kernel
theorem dX12_lengthWithout_34 : decode cX12_lengthWithout 34 = .ok (.iconst 1, 1) := by decide +kernel
theorem dX12_lengthWithout_35 : decode cX12_lengthWithout 35 = .ok (.iload 4, 2) := by decide +kernel
theorem dX12_lengthWithout_37 : decode cX12_lengthWithout 37 = .ok (.ishl, 1) := by decide +kernel
theorem dX12_lengthWithout_38 : decode cX12_lengthWithout 38 = .ok (.ior, 1) := by decide +kernel
theorem dX12_lengthWithout_39 : decode cX12_lengthWithout 39 = .ok (.istore_n 2, 1) := by decide +kernel
theorem dX12_lengthWithout_40 : decode cX12_lengthWithout 40 = .ok (.iinc 3 1, 3) := by decide +kernel
theorem dX12_lengthWithout_43 : decode cX12_lengthWithout 43 = .ok (.aload_n 0, 1) := by decide +kernel
theorem dX12_lengthWithout_44 : decode cX12_lengthWithout 44 = .ok (.iload 4, 2) := by decide +kernel
theorem dX12_lengthWithout_46 : decode cX12_lengthWithout 46 = .ok (.iload_n 1, 1) := by decide +kernel
theorem dX12_lengthWithout_47 : decode cX12_lengthWithout 47 = .ok (.invokevirtual 403, 3) := by decide +kernel
theorem dX12_lengthWithout_50 : decode cX12_lengthWithout 50 = .ok (.istore 4, 2) := by decide +kernel
theorem dX12_lengthWithout_52 : decode cX12_lengthWithout 52 = .ok (.goto (-34), 3) := by decide +kernel
theorem dX12_lengthWithout_55 : decode cX12_lengthWithout 55 = .ok (.aload_n 0, 1) := by decide +kernel
theorem dX12_lengthWithout_56 : decode cX12_lengthWithout 56 = .ok (.iload 4, 2) := by decide +kernel
theorem dX12_lengthWithout_58 : decode cX12_lengthWithout 58 = .ok (.putfield 406, 3) := by decide +kernel
theorem dX12_lengthWithout_61 : decode cX12_lengthWithout 61 = .ok (.iload_n 3, 1) := by decide +kernel
theorem dX12_lengthWithout_62 : decode cX12_lengthWithout 62 = .ok (.ireturn, 1) := by decide +kernel
theorem dX12_loop_0 : decode cX12_loop 0 = .ok (.aload_n 0, 1) := by decide +kernel
theorem dX12_loop_1 : decode cX12_loop 1 = .ok (.iconst 0, 1) := by decide +kernel
theorem dX12_loop_2 : decode cX12_loop 2 = .ok (.putfield 91, 3) := by decide +kernel
theorem dX12_loop_5 : decode cX12_loop 5 = .ok (.aload_n 0, 1) := by decide +kernel
theorem dX12_loop_6 : decode cX12_loop 6 = .ok (.iload_n 1, 1) := by decide +kernel
theorem dX12_loop_7 : decode cX12_loop 7 = .ok (.invokevirtual 285, 3) := by decide +kernel
theorem dX12_loop_10 : decode cX12_loop 10 = .ok (.ifCond .ne 5, 3) := by decide +kernel
theorem dX12_loop_13 : decode cX12_loop 13 = .ok (.iconst (-1), 1) := by decide +kernel
theorem dX12_loop_14 : decode cX12_loop 14 = .ok (.ireturn, 1) := by decide +kernel
theorem dX12_loop_15 : decode cX12_loop 15 = .ok (.aload_n 0, 1) := by decide +kernel
theorem dX12_loop_16 : decode cX12_loop 16 = .ok (.iconst (-1), 1) := by decide +kernel
theorem dX12_loop_17 : decode cX12_loop 17 = .ok (.invokevirtual 409, 3) := by decide +kernel
theorem dX12_loop_20 : decode cX12_loop 20 = .ok (.istore_n 3, 1) := by decide +kernel
theorem dX12_loop_21 : decode cX12_loop 21 = .ok (.iload_n 2, 1) := by decide +kernel
theorem dX12_loop_22 : decode cX12_loop 22 = .ok (.ifCond .eq 5, 3) := by decide +kernel
theorem dX12_loop_25 : decode cX12_loop 25 = .ok (.iload_n 3, 1) := by decide +kernel
theorem dX12_loop_26 : decode cX12_loop 26 = .ok (.ireturn, 1) := by decide +kernel
theorem dX12_loop_27 : decode cX12_loop 27 = .ok (.iconst 0, 1) := by decide +kernel
theorem dX12_loop_28 : decode cX12_loop 28 = .ok (.istore 4, 2) := by decide +kernel
theorem dX12_loop_30 : decode cX12_loop 30 = .ok (.aload_n 0, 1) := by decide +kernel
theorem dX12_loop_31 : decode cX12_loop 31 = .ok (.getfield 406, 3) := by decide +kernel
theorem dX12_loop_34 : decode cX12_loop 34 = .ok (.istore 5, 2) := by decide +kernel
theorem dX12_loop_36 : decode cX12_loop 36 = .ok (.iload 5, 2) := by decide +kernel
theorem dX12_loop_38 : decode cX12_loop 38 = .ok (.iconst (-1), 1) := by decide +kernel
theorem dX12_loop_39 : decode cX12_loop 39 = .ok (.if_icmp .eq 32, 3) := by decide +kernel
theorem dX12_loop_42 : decode cX12_loop 42 = .ok (.iload 4, 2) := by decide +kernel
theorem dX12_loop_44 : decode cX12_loop 44 = .ok (.ifCond .eq 12, 3) := by decide +kernel
theorem dX12_loop_47 : decode cX12_loop 47 = .ok (.iload 5, 2) := by decide +kernel
theorem dX12_loop_49 : decode cX12_loop 49 = .ok (.aload_n 0, 1) := by decide +kernel
theorem dX12_loop_50 : decode cX12_loop 50 = .ok (.getfield 406, 3) := by decide +kernel
theorem dX12_loop_53 : decode cX12_loop 53 = .ok (.if_icmp .eq 18, 3) := by decide +kernel
theorem dX12_loop_56 : decode cX12_loop 56 = .ok (.iinc 4 1, 3) := by decide +kernel
theorem dX12_loop_59 : decode cX12_loop 59 = .ok (.aload_n 0, 1) := by decide +kernel
theorem dX12_loop_60 : decode cX12_loop 60 = .ok (.iload 5, 2) := by decide +kernel
theorem dX12_loop_62 : decode cX12_loop 62 = .ok (.iconst 0, 1) := by decide +kernel
theorem dX12_loop_63 : decode cX12_loop 63 = .ok (.invokevirtual 297, 3) := by decide +kernel
theorem dX12_loop_66 : decode cX12_loop 66 = .ok (.istore 5, 2) := by decide +kernel
theorem dX12_loop_68 : decode cX12_loop 68 = .ok (.goto (-32), 3) := by decide +kernel
theorem dX12_loop_71 : decode cX12_loop 71 = .ok (.iload 4, 2) := by decide +kernel
theorem dX12_loop_73 : decode cX12_loop 73 = .ok (.ireturn, 1) := by decide +kernel
theorem dX12_layRow_0 : decode cX12_layRow 0 = .ok (.aload_n 0, 1) := by decide +kernel
theorem dX12_layRow_1 : decode cX12_layRow 1 = .ok (.getfield 276, 3) := by decide +kernel
theorem dX12_layRow_4 : decode cX12_layRow 4 = .ok (.ifCond .le 7, 3) := by decide +kernel
theorem dX12_layRow_7 : decode cX12_layRow 7 = .ok (.iconst 0, 1) := by decide +kernel
theorem dX12_layRow_8 : decode cX12_layRow 8 = .ok (.goto 4, 3) := by decide +kernel
theorem dX12_layRow_11 : decode cX12_layRow 11 = .ok (.iconst (-1), 1) := by decide +kernel
theorem dX12_layRow_12 : decode cX12_layRow 12 = .ok (.istore_n 3, 1) := by decide +kernel
theorem dX12_layRow_13 : decode cX12_layRow 13 = .ok (.iconst 0, 1) := by decide +kernel
theorem dX12_layRow_14 : decode cX12_layRow 14 = .ok (.istore 4, 2) := by decide +kernel
theorem dX12_layRow_16 : decode cX12_layRow 16 = .ok (.iload 4, 2) := by decide +kernel
theorem dX12_layRow_18 : decode cX12_layRow 18 = .ok (.iload_n 2, 1) := by decide +kernel
theorem dX12_layRow_19 : decode cX12_layRow 19 = .ok (.if_icmp .ge 30, 3) := by decide +kernel
theorem dX12_layRow_22 : decode cX12_layRow 22 = .ok (.iload_n 3, 1) := by decide +kernel
theorem dX12_layRow_23 : decode cX12_layRow 23 = .ok (.iconst (-1), 1) := by decide +kernel
theorem dX12_layRow_24 : decode cX12_layRow 24 = .ok (.if_icmp .eq 25, 3) := by decide +kernel
theorem dX12_layRow_27 : decode cX12_layRow 27 = .ok (.aload_n 1, 1) := by decide +kernel
theorem dX12_layRow_28 : decode cX12_layRow 28 = .ok (.iload 4, 2) := by decide +kernel
theorem dX12_layRow_30 : decode cX12_layRow 30 = .ok (.aload_n 0, 1) := by decide +kernel
theorem dX12_layRow_31 : decode cX12_layRow 31 = .ok (.iload_n 3, 1) := by decide +kernel
theorem dX12_layRow_32 : decode cX12_layRow 32 = .ok (.invokevirtual 282, 3) := by decide +kernel
theorem dX12_layRow_35 : decode cX12_layRow 35 = .ok (.iastore, 1) := by decide +kernel
theorem dX12_layRow_36 : decode cX12_layRow 36 = .ok (.iinc 4 1, 3) := by decide +kernel
theorem dX12_layRow_39 : decode cX12_layRow 39 = .ok (.aload_n 0, 1) := by decide +kernel
theorem dX12_layRow_40 : decode cX12_layRow 40 = .ok (.iload_n 3, 1) := by decide +kernel
theorem dX12_layRow_41 : decode cX12_layRow 41 = .ok (.iconst 0, 1) := by decide +kernel
theorem dX12_layRow_42 : decode cX12_layRow 42 = .ok (.invokevirtual 297, 3) := by decide +kernel
theorem dX12_layRow_45 : decode cX12_layRow 45 = .ok (.istore_n 3, 1) := by decide +kernel
theorem dX12_layRow_46 : decode cX12_layRow 46 = .ok (.goto (-30), 3) := by decide +kernel
theorem dX12_layRow_49 : decode cX12_layRow 49 = .ok (.iload 4, 2) := by decide +kernel
theorem dX12_layRow_51 : decode cX12_layRow 51 = .ok (.ireturn, 1) := by decide +kernel
theorem dX12_findShortest_0 : decode cX12_findShortest 0 = .ok (.aload_n 0, 1) := by decide +kernel
theorem dX12_findShortest_1 : decode cX12_findShortest 1 = .ok (.getfield 412, 3) := by decide +kernel
theorem dX12_findShortest_4 : decode cX12_findShortest 4 = .ok (.istore_n 1, 1) := by decide +kernel
theorem dX12_findShortest_5 : decode cX12_findShortest 5 = .ok (.iload_n 1, 1) := by decide +kernel
theorem dX12_findShortest_6 : decode cX12_findShortest 6 = .ok (.ifCond .lt 148, 3) := by decide +kernel
theorem dX12_findShortest_9 : decode cX12_findShortest 9 = .ok (.aload_n 0, 1) := by decide +kernel
theorem dX12_findShortest_10 : decode cX12_findShortest 10 = .ok (.getfield 415, 3) := by decide +kernel
theorem dX12_findShortest_13 : decode cX12_findShortest 13 = .ok (.istore_n 2, 1) := by decide +kernel
theorem dX12_findShortest_14 : decode cX12_findShortest 14 = .ok (.iload_n 2, 1) := by decide +kernel
theorem dX12_findShortest_15 : decode cX12_findShortest 15 = .ok (.ifCond .lt 133, 3) := by decide +kernel
theorem dX12_findShortest_18 : decode cX12_findShortest 18 = .ok (.iload_n 1, 1) := by decide +kernel
theorem dX12_findShortest_19 : decode cX12_findShortest 19 = .ok (.aload_n 0, 1) := by decide +kernel
theorem dX12_findShortest_20 : decode cX12_findShortest 20 = .ok (.getfield 412, 3) := by decide +kernel
theorem dX12_findShortest_23 : decode cX12_findShortest 23 = .ok (.if_icmp .ne 12, 3) := by decide +kernel
theorem dX12_findShortest_26 : decode cX12_findShortest 26 = .ok (.aload_n 0, 1) := by decide +kernel
theorem dX12_findShortest_27 : decode cX12_findShortest 27 = .ok (.getfield 415, 3) := by decide +kernel
theorem dX12_findShortest_30 : decode cX12_findShortest 30 = .ok (.iload_n 2, 1) := by decide +kernel
theorem dX12_findShortest_31 : decode cX12_findShortest 31 = .ok (.isub, 1) := by decide +kernel
theorem dX12_findShortest_32 : decode cX12_findShortest 32 = .ok (.goto 23, 3) := by decide +kernel
theorem dX12_findShortest_35 : decode cX12_findShortest 35 = .ok (.iload_n 2, 1) := by decide +kernel
theorem dX12_findShortest_36 : decode cX12_findShortest 36 = .ok (.aload_n 0, 1) := by decide +kernel
theorem dX12_findShortest_37 : decode cX12_findShortest 37 = .ok (.getfield 415, 3) := by decide +kernel
theorem dX12_findShortest_40 : decode cX12_findShortest 40 = .ok (.if_icmp .ne 12, 3) := by decide +kernel
theorem dX12_findShortest_43 : decode cX12_findShortest 43 = .ok (.aload_n 0, 1) := by decide +kernel
theorem dX12_findShortest_44 : decode cX12_findShortest 44 = .ok (.getfield 412, 3) := by decide +kernel
theorem dX12_findShortest_47 : decode cX12_findShortest 47 = .ok (.iload_n 1, 1) := by decide +kernel
theorem dX12_findShortest_48 : decode cX12_findShortest 48 = .ok (.isub, 1) := by decide +kernel
theorem dX12_findShortest_49 : decode cX12_findShortest 49 = .ok (.goto 6, 3) := by decide +kernel
theorem dX12_findShortest_52 : decode cX12_findShortest 52 = .ok (.ldc_w 361, 3) := by decide +kernel
theorem dX12_findShortest_55 : decode cX12_findShortest 55 = .ok (.istore_n 3, 1) := by decide +kernel
theorem dX12_findShortest_56 : decode cX12_findShortest 56 = .ok (.iload_n 3, 1) := by decide +kernel
theorem dX12_findShortest_57 : decode cX12_findShortest 57 = .ok (.ldc_w 361, 3) := by decide +kernel
theorem dX12_findShortest_60 : decode cX12_findShortest 60 = .ok (.if_icmp .ne 70, 3) := by decide +kernel
theorem dX12_findShortest_63 : decode cX12_findShortest 63 = .ok (.aload_n 0, 1) := by decide +kernel
theorem dX12_findShortest_64 : decode cX12_findShortest 64 = .ok (.getfield 66, 3) := by decide +kernel
theorem dX12_findShortest_67 : decode cX12_findShortest 67 = .ok (.iload_n 1, 1) := by decide +kernel
theorem dX12_findShortest_68 : decode cX12_findShortest 68 = .ok (.iaload, 1) := by decide +kernel
theorem dX12_findShortest_69 : decode cX12_findShortest 69 = .ok (.aload_n 0, 1) := by decide +kernel
theorem dX12_findShortest_70 : decode cX12_findShortest 70 = .ok (.getfield 69, 3) := by decide +kernel
theorem dX12_findShortest_73 : decode cX12_findShortest 73 = .ok (.iload_n 2, 1) := by decide +kernel
theorem dX12_findShortest_74 : decode cX12_findShortest 74 = .ok (.iaload, 1) := by decide +kernel
theorem dX12_findShortest_75 : decode cX12_findShortest 75 = .ok (.if_icmp .ne 22, 3) := by decide +kernel
theorem dX12_findShortest_78 : decode cX12_findShortest 78 = .ok (.iconst 1, 1) := by decide +kernel
theorem dX12_findShortest_79 : decode cX12_findShortest 79 = .ok (.aload_n 0, 1) := by decide +kernel
theorem dX12_findShortest_80 : decode cX12_findShortest 80 = .ok (.getfield 72, 3) := by decide +kernel
theorem dX12_findShortest_83 : decode cX12_findShortest 83 = .ok (.bipush 13, 2) := by decide +kernel
theorem dX12_findShortest_85 : decode cX12_findShortest 85 = .ok (.iload_n 1, 1) := by decide +kernel
theorem dX12_findShortest_86 : decode cX12_findShortest 86 = .ok (.imul, 1) := by decide +kernel
theorem dX12_findShortest_87 : decode cX12_findShortest 87 = .ok (.iload_n 2, 1) := by decide +kernel
theorem dX12_findShortest_88 : decode cX12_findShortest 88 = .ok (.iadd, 1) := by decide +kernel
theorem dX12_findShortest_89 : decode cX12_findShortest 89 = .ok (.bipush 14, 2) := by decide +kernel
theorem dX12_findShortest_91 : decode cX12_findShortest 91 = .ok (.iadd, 1) := by decide +kernel
theorem dX12_findShortest_92 : decode cX12_findShortest 92 = .ok (.iaload, 1) := by decide +kernel
theorem dX12_findShortest_93 : decode cX12_findShortest 93 = .ok (.iadd, 1) := by decide +kernel
theorem dX12_findShortest_94 : decode cX12_findShortest 94 = .ok (.goto 35, 3) := by decide +kernel
theorem dX12_findShortest_97 : decode cX12_findShortest 97 = .ok (.iconst 1, 1) := by decide +kernel
theorem dX12_findShortest_98 : decode cX12_findShortest 98 = .ok (.aload_n 0, 1) := by decide +kernel
theorem dX12_findShortest_99 : decode cX12_findShortest 99 = .ok (.getfield 72, 3) := by decide +kernel
theorem dX12_findShortest_102 : decode cX12_findShortest 102 = .ok (.bipush 13, 2) := by decide +kernel
theorem dX12_findShortest_104 : decode cX12_findShortest 104 = .ok (.iload_n 1, 1) := by decide +kernel
theorem dX12_findShortest_105 : decode cX12_findShortest 105 = .ok (.imul, 1) := by decide +kernel
theorem dX12_findShortest_106 : decode cX12_findShortest 106 = .ok (.iload_n 2, 1) := by decide +kernel
theorem dX12_findShortest_107 : decode cX12_findShortest 107 = .ok (.iadd, 1) := by decide +kernel
theorem dX12_findShortest_108 : decode cX12_findShortest 108 = .ok (.bipush 13, 2) := by decide +kernel
theorem dX12_findShortest_110 : decode cX12_findShortest 110 = .ok (.iadd, 1) := by decide +kernel
theorem dX12_findShortest_111 : decode cX12_findShortest 111 = .ok (.iaload, 1) := by decide +kernel
theorem dX12_findShortest_112 : decode cX12_findShortest 112 = .ok (.aload_n 0, 1) := by decide +kernel
theorem dX12_findShortest_113 : decode cX12_findShortest 113 = .ok (.getfield 72, 3) := by decide +kernel
theorem dX12_findShortest_116 : decode cX12_findShortest 116 = .ok (.bipush 13, 2) := by decide +kernel
theorem dX12_findShortest_118 : decode cX12_findShortest 118 = .ok (.iload_n 1, 1) := by decide +kernel
theorem dX12_findShortest_119 : decode cX12_findShortest 119 = .ok (.imul, 1) := by decide +kernel
theorem dX12_findShortest_120 : decode cX12_findShortest 120 = .ok (.iload_n 2, 1) := by decide +kernel
theorem dX12_findShortest_121 : decode cX12_findShortest 121 = .ok (.iadd, 1) := by decide +kernel
theorem dX12_findShortest_122 : decode cX12_findShortest 122 = .ok (.iconst 1, 1) := by decide +kernel
theorem dX12_findShortest_123 : decode cX12_findShortest 123 = .ok (.iadd, 1) := by decide +kernel
theorem dX12_findShortest_124 : decode cX12_findShortest 124 = .ok (.iaload, 1) := by decide +kernel
theorem dX12_findShortest_125 : decode cX12_findShortest 125 = .ok (.invokestatic 365, 3) := by decide +kernel
theorem dX12_findShortest_128 : decode cX12_findShortest 128 = .ok (.iadd, 1) := by decide +kernel
theorem dX12_findShortest_129 : decode cX12_findShortest 129 = .ok (.istore_n 3, 1) := by decide +kernel
theorem dX12_findShortest_130 : decode cX12_findShortest 130 = .ok (.aload_n 0, 1) := by decide +kernel
theorem dX12_findShortest_131 : decode cX12_findShortest 131 = .ok (.getfield 72, 3) := by decide +kernel
theorem dX12_findShortest_134 : decode cX12_findShortest 134 = .ok (.bipush 13, 2) := by decide +kernel
theorem dX12_findShortest_136 : decode cX12_findShortest 136 = .ok (.iload_n 1, 1) := by decide +kernel
theorem dX12_findShortest_137 : decode cX12_findShortest 137 = .ok (.imul, 1) := by decide +kernel
theorem dX12_findShortest_138 : decode cX12_findShortest 138 = .ok (.iload_n 2, 1) := by decide +kernel
theorem dX12_findShortest_139 : decode cX12_findShortest 139 = .ok (.iadd, 1) := by decide +kernel
theorem dX12_findShortest_140 : decode cX12_findShortest 140 = .ok (.iload_n 3, 1) := by decide +kernel
theorem dX12_findShortest_141 : decode cX12_findShortest 141 = .ok (.iastore, 1) := by decide +kernel
theorem dX12_findShortest_142 : decode cX12_findShortest 142 = .ok (.iinc 2 (-1), 3) := by decide +kernel
theorem dX12_findShortest_145 : decode cX12_findShortest 145 = .ok (.goto (-131), 3) := by decide +kernel
theorem dX12_findShortest_148 : decode cX12_findShortest 148 = .ok (.iinc 1 (-1), 3) := by decide +kernel
theorem dX12_findShortest_151 : decode cX12_findShortest 151 = .ok (.goto (-146), 3) := by decide +kernel
theorem dX12_findShortest_154 : decode cX12_findShortest 154 = .ok (.return_, 1) := by decide +kernel
theorem dX12_mergedAt_0 : decode cX12_mergedAt 0 = .ok (.iconst 0, 1) := by decide +kernel
theorem dX12_mergedAt_1 : decode cX12_mergedAt 1 = .ok (.istore_n 2, 1) := by decide +kernel
theorem dX12_mergedAt_2 : decode cX12_mergedAt 2 = .ok (.iconst 0, 1) := by decide +kernel
theorem dX12_mergedAt_3 : decode cX12_mergedAt 3 = .ok (.istore_n 3, 1) := by decide +kernel
theorem dX12_mergedAt_4 : decode cX12_mergedAt 4 = .ok (.iconst (-1), 1) := by decide +kernel
theorem dX12_mergedAt_5 : decode cX12_mergedAt 5 = .ok (.istore 4, 2) := by decide +kernel
theorem dX12_mergedAt_7 : decode cX12_mergedAt 7 = .ok (.iconst 0, 1) := by decide +kernel
theorem dX12_mergedAt_8 : decode cX12_mergedAt 8 = .ok (.istore 5, 2) := by decide +kernel
theorem dX12_mergedAt_10 : decode cX12_mergedAt 10 = .ok (.iload 5, 2) := by decide +kernel
theorem dX12_mergedAt_12 : decode cX12_mergedAt 12 = .ok (.iload_n 1, 1) := by decide +kernel
theorem dX12_mergedAt_13 : decode cX12_mergedAt 13 = .ok (.if_icmp .gt 236, 3) := by decide +kernel
theorem dX12_mergedAt_16 : decode cX12_mergedAt 16 = .ok (.iload_n 2, 1) := by decide +kernel
theorem dX12_mergedAt_17 : decode cX12_mergedAt 17 = .ok (.aload_n 0, 1) := by decide +kernel
theorem dX12_mergedAt_18 : decode cX12_mergedAt 18 = .ok (.getfield 412, 3) := by decide +kernel
theorem dX12_mergedAt_21 : decode cX12_mergedAt 21 = .ok (.if_icmp .ge 30, 3) := by decide +kernel
theorem dX12_mergedAt_24 : decode cX12_mergedAt 24 = .ok (.iload_n 3, 1) := by decide +kernel
theorem dX12_mergedAt_25 : decode cX12_mergedAt 25 = .ok (.aload_n 0, 1) := by decide +kernel
theorem dX12_mergedAt_26 : decode cX12_mergedAt 26 = .ok (.getfield 415, 3) := by decide +kernel
theorem dX12_mergedAt_29 : decode cX12_mergedAt 29 = .ok (.if_icmp .ge 22, 3) := by decide +kernel
theorem dX12_mergedAt_32 : decode cX12_mergedAt 32 = .ok (.aload_n 0, 1) := by decide +kernel
theorem dX12_mergedAt_33 : decode cX12_mergedAt 33 = .ok (.getfield 66, 3) := by decide +kernel
theorem dX12_mergedAt_36 : decode cX12_mergedAt 36 = .ok (.iload_n 2, 1) := by decide +kernel
theorem dX12_mergedAt_37 : decode cX12_mergedAt 37 = .ok (.iaload, 1) := by decide +kernel
theorem dX12_mergedAt_38 : decode cX12_mergedAt 38 = .ok (.aload_n 0, 1) := by decide +kernel
theorem dX12_mergedAt_39 : decode cX12_mergedAt 39 = .ok (.getfield 69, 3) := by decide +kernel
theorem dX12_mergedAt_42 : decode cX12_mergedAt 42 = .ok (.iload_n 3, 1) := by decide +kernel
theorem dX12_mergedAt_43 : decode cX12_mergedAt 43 = .ok (.iaload, 1) := by decide +kernel
theorem dX12_mergedAt_44 : decode cX12_mergedAt 44 = .ok (.if_icmp .ne 7, 3) := by decide +kernel
theorem dX12_mergedAt_47 : decode cX12_mergedAt 47 = .ok (.iconst 1, 1) := by decide +kernel
theorem dX12_mergedAt_48 : decode cX12_mergedAt 48 = .ok (.goto 4, 3) := by decide +kernel
theorem dX12_mergedAt_51 : decode cX12_mergedAt 51 = .ok (.iconst 0, 1) := by decide +kernel
theorem dX12_mergedAt_52 : decode cX12_mergedAt 52 = .ok (.istore 6, 2) := by decide +kernel
theorem dX12_mergedAt_54 : decode cX12_mergedAt 54 = .ok (.iload_n 2, 1) := by decide +kernel
theorem dX12_mergedAt_55 : decode cX12_mergedAt 55 = .ok (.aload_n 0, 1) := by decide +kernel
theorem dX12_mergedAt_56 : decode cX12_mergedAt 56 = .ok (.getfield 412, 3) := by decide +kernel
theorem dX12_mergedAt_59 : decode cX12_mergedAt 59 = .ok (.if_icmp .ge 42, 3) := by decide +kernel
theorem dX12_mergedAt_62 : decode cX12_mergedAt 62 = .ok (.iload 6, 2) := by decide +kernel
theorem dX12_mergedAt_64 : decode cX12_mergedAt 64 = .ok (.ifCond .ne 33, 3) := by decide +kernel
theorem dX12_mergedAt_67 : decode cX12_mergedAt 67 = .ok (.aload_n 0, 1) := by decide +kernel
theorem dX12_mergedAt_68 : decode cX12_mergedAt 68 = .ok (.getfield 72, 3) := by decide +kernel
theorem dX12_mergedAt_71 : decode cX12_mergedAt 71 = .ok (.bipush 13, 2) := by decide +kernel
theorem dX12_mergedAt_73 : decode cX12_mergedAt 73 = .ok (.iload_n 2, 1) := by decide +kernel
theorem dX12_mergedAt_74 : decode cX12_mergedAt 74 = .ok (.imul, 1) := by decide +kernel
theorem dX12_mergedAt_75 : decode cX12_mergedAt 75 = .ok (.iload_n 3, 1) := by decide +kernel
theorem dX12_mergedAt_76 : decode cX12_mergedAt 76 = .ok (.iadd, 1) := by decide +kernel
theorem dX12_mergedAt_77 : decode cX12_mergedAt 77 = .ok (.bipush 13, 2) := by decide +kernel
theorem dX12_mergedAt_79 : decode cX12_mergedAt 79 = .ok (.iadd, 1) := by decide +kernel
theorem dX12_mergedAt_80 : decode cX12_mergedAt 80 = .ok (.iaload, 1) := by decide +kernel
theorem dX12_mergedAt_81 : decode cX12_mergedAt 81 = .ok (.iconst 1, 1) := by decide +kernel
theorem dX12_mergedAt_82 : decode cX12_mergedAt 82 = .ok (.iadd, 1) := by decide +kernel
theorem dX12_mergedAt_83 : decode cX12_mergedAt 83 = .ok (.aload_n 0, 1) := by decide +kernel
theorem dX12_mergedAt_84 : decode cX12_mergedAt 84 = .ok (.getfield 72, 3) := by decide +kernel
theorem dX12_mergedAt_87 : decode cX12_mergedAt 87 = .ok (.bipush 13, 2) := by decide +kernel
theorem dX12_mergedAt_89 : decode cX12_mergedAt 89 = .ok (.iload_n 2, 1) := by decide +kernel
theorem dX12_mergedAt_90 : decode cX12_mergedAt 90 = .ok (.imul, 1) := by decide +kernel
theorem dX12_mergedAt_91 : decode cX12_mergedAt 91 = .ok (.iload_n 3, 1) := by decide +kernel
theorem dX12_mergedAt_92 : decode cX12_mergedAt 92 = .ok (.iadd, 1) := by decide +kernel
theorem dX12_mergedAt_93 : decode cX12_mergedAt 93 = .ok (.iaload, 1) := by decide +kernel
theorem dX12_mergedAt_94 : decode cX12_mergedAt 94 = .ok (.if_icmp .ne 7, 3) := by decide +kernel
theorem dX12_mergedAt_97 : decode cX12_mergedAt 97 = .ok (.iconst 1, 1) := by decide +kernel
theorem dX12_mergedAt_98 : decode cX12_mergedAt 98 = .ok (.goto 4, 3) := by decide +kernel
theorem dX12_mergedAt_101 : decode cX12_mergedAt 101 = .ok (.iconst 0, 1) := by decide +kernel
theorem dX12_mergedAt_102 : decode cX12_mergedAt 102 = .ok (.istore 7, 2) := by decide +kernel
theorem dX12_mergedAt_104 : decode cX12_mergedAt 104 = .ok (.iload_n 3, 1) := by decide +kernel
theorem dX12_mergedAt_105 : decode cX12_mergedAt 105 = .ok (.aload_n 0, 1) := by decide +kernel
theorem dX12_mergedAt_106 : decode cX12_mergedAt 106 = .ok (.getfield 415, 3) := by decide +kernel
theorem dX12_mergedAt_109 : decode cX12_mergedAt 109 = .ok (.if_icmp .ge 41, 3) := by decide +kernel
theorem dX12_mergedAt_112 : decode cX12_mergedAt 112 = .ok (.iload 6, 2) := by decide +kernel
theorem dX12_mergedAt_114 : decode cX12_mergedAt 114 = .ok (.ifCond .ne 32, 3) := by decide +kernel
theorem dX12_mergedAt_117 : decode cX12_mergedAt 117 = .ok (.aload_n 0, 1) := by decide +kernel
theorem dX12_mergedAt_118 : decode cX12_mergedAt 118 = .ok (.getfield 72, 3) := by decide +kernel
theorem dX12_mergedAt_121 : decode cX12_mergedAt 121 = .ok (.bipush 13, 2) := by decide +kernel
theorem dX12_mergedAt_123 : decode cX12_mergedAt 123 = .ok (.iload_n 2, 1) := by decide +kernel
theorem dX12_mergedAt_124 : decode cX12_mergedAt 124 = .ok (.imul, 1) := by decide +kernel
theorem dX12_mergedAt_125 : decode cX12_mergedAt 125 = .ok (.iload_n 3, 1) := by decide +kernel
theorem dX12_mergedAt_126 : decode cX12_mergedAt 126 = .ok (.iadd, 1) := by decide +kernel
theorem dX12_mergedAt_127 : decode cX12_mergedAt 127 = .ok (.iconst 1, 1) := by decide +kernel
theorem dX12_mergedAt_128 : decode cX12_mergedAt 128 = .ok (.iadd, 1) := by decide +kernel
theorem dX12_mergedAt_129 : decode cX12_mergedAt 129 = .ok (.iaload, 1) := by decide +kernel
theorem dX12_mergedAt_130 : decode cX12_mergedAt 130 = .ok (.iconst 1, 1) := by decide +kernel
theorem dX12_mergedAt_131 : decode cX12_mergedAt 131 = .ok (.iadd, 1) := by decide +kernel
theorem dX12_mergedAt_132 : decode cX12_mergedAt 132 = .ok (.aload_n 0, 1) := by decide +kernel
theorem dX12_mergedAt_133 : decode cX12_mergedAt 133 = .ok (.getfield 72, 3) := by decide +kernel
theorem dX12_mergedAt_136 : decode cX12_mergedAt 136 = .ok (.bipush 13, 2) := by decide +kernel
theorem dX12_mergedAt_138 : decode cX12_mergedAt 138 = .ok (.iload_n 2, 1) := by decide +kernel
theorem dX12_mergedAt_139 : decode cX12_mergedAt 139 = .ok (.imul, 1) := by decide +kernel
theorem dX12_mergedAt_140 : decode cX12_mergedAt 140 = .ok (.iload_n 3, 1) := by decide +kernel
theorem dX12_mergedAt_141 : decode cX12_mergedAt 141 = .ok (.iadd, 1) := by decide +kernel
theorem dX12_mergedAt_142 : decode cX12_mergedAt 142 = .ok (.iaload, 1) := by decide +kernel
theorem dX12_mergedAt_143 : decode cX12_mergedAt 143 = .ok (.if_icmp .ne 7, 3) := by decide +kernel
theorem dX12_mergedAt_146 : decode cX12_mergedAt 146 = .ok (.iconst 1, 1) := by decide +kernel
theorem dX12_mergedAt_147 : decode cX12_mergedAt 147 = .ok (.goto 4, 3) := by decide +kernel
theorem dX12_mergedAt_150 : decode cX12_mergedAt 150 = .ok (.iconst 0, 1) := by decide +kernel
theorem dX12_mergedAt_151 : decode cX12_mergedAt 151 = .ok (.istore 8, 2) := by decide +kernel
theorem dX12_mergedAt_153 : decode cX12_mergedAt 153 = .ok (.iload 7, 2) := by decide +kernel
theorem dX12_mergedAt_155 : decode cX12_mergedAt 155 = .ok (.ifCond .eq 27, 3) := by decide +kernel
theorem dX12_mergedAt_158 : decode cX12_mergedAt 158 = .ok (.iload 8, 2) := by decide +kernel
theorem dX12_mergedAt_160 : decode cX12_mergedAt 160 = .ok (.ifCond .eq 18, 3) := by decide +kernel
theorem dX12_mergedAt_163 : decode cX12_mergedAt 163 = .ok (.aload_n 0, 1) := by decide +kernel
theorem dX12_mergedAt_164 : decode cX12_mergedAt 164 = .ok (.getfield 66, 3) := by decide +kernel
theorem dX12_mergedAt_167 : decode cX12_mergedAt 167 = .ok (.iload_n 2, 1) := by decide +kernel
theorem dX12_mergedAt_168 : decode cX12_mergedAt 168 = .ok (.iaload, 1) := by decide +kernel
theorem dX12_mergedAt_169 : decode cX12_mergedAt 169 = .ok (.aload_n 0, 1) := by decide +kernel
theorem dX12_mergedAt_170 : decode cX12_mergedAt 170 = .ok (.getfield 69, 3) := by decide +kernel
theorem dX12_mergedAt_173 : decode cX12_mergedAt 173 = .ok (.iload_n 3, 1) := by decide +kernel
theorem dX12_mergedAt_174 : decode cX12_mergedAt 174 = .ok (.iaload, 1) := by decide +kernel
theorem dX12_mergedAt_175 : decode cX12_mergedAt 175 = .ok (.if_icmp .gt 7, 3) := by decide +kernel
theorem dX12_mergedAt_178 : decode cX12_mergedAt 178 = .ok (.iconst 1, 1) := by decide +kernel
theorem dX12_mergedAt_179 : decode cX12_mergedAt 179 = .ok (.goto 4, 3) := by decide +kernel
theorem dX12_mergedAt_182 : decode cX12_mergedAt 182 = .ok (.iconst 0, 1) := by decide +kernel
theorem dX12_mergedAt_183 : decode cX12_mergedAt 183 = .ok (.istore 9, 2) := by decide +kernel
theorem dX12_mergedAt_185 : decode cX12_mergedAt 185 = .ok (.iload 9, 2) := by decide +kernel
theorem dX12_mergedAt_187 : decode cX12_mergedAt 187 = .ok (.ifCond .eq 12, 3) := by decide +kernel
theorem dX12_mergedAt_190 : decode cX12_mergedAt 190 = .ok (.aload_n 0, 1) := by decide +kernel
theorem dX12_mergedAt_191 : decode cX12_mergedAt 191 = .ok (.getfield 66, 3) := by decide +kernel
theorem dX12_mergedAt_194 : decode cX12_mergedAt 194 = .ok (.iload_n 2, 1) := by decide +kernel
theorem dX12_mergedAt_195 : decode cX12_mergedAt 195 = .ok (.iaload, 1) := by decide +kernel
theorem dX12_mergedAt_196 : decode cX12_mergedAt 196 = .ok (.goto 9, 3) := by decide +kernel
theorem dX12_mergedAt_199 : decode cX12_mergedAt 199 = .ok (.aload_n 0, 1) := by decide +kernel
theorem dX12_mergedAt_200 : decode cX12_mergedAt 200 = .ok (.getfield 69, 3) := by decide +kernel
theorem dX12_mergedAt_203 : decode cX12_mergedAt 203 = .ok (.iload_n 3, 1) := by decide +kernel
theorem dX12_mergedAt_204 : decode cX12_mergedAt 204 = .ok (.iaload, 1) := by decide +kernel
theorem dX12_mergedAt_205 : decode cX12_mergedAt 205 = .ok (.istore 4, 2) := by decide +kernel
theorem dX12_mergedAt_207 : decode cX12_mergedAt 207 = .ok (.iload_n 2, 1) := by decide +kernel
theorem dX12_mergedAt_208 : decode cX12_mergedAt 208 = .ok (.iload 9, 2) := by decide +kernel
theorem dX12_mergedAt_210 : decode cX12_mergedAt 210 = .ok (.ifCond .ne 8, 3) := by decide +kernel
theorem dX12_mergedAt_213 : decode cX12_mergedAt 213 = .ok (.iload 6, 2) := by decide +kernel
theorem dX12_mergedAt_215 : decode cX12_mergedAt 215 = .ok (.ifCond .eq 7, 3) := by decide +kernel
theorem dX12_mergedAt_218 : decode cX12_mergedAt 218 = .ok (.iconst 1, 1) := by decide +kernel
theorem dX12_mergedAt_219 : decode cX12_mergedAt 219 = .ok (.goto 4, 3) := by decide +kernel
theorem dX12_mergedAt_222 : decode cX12_mergedAt 222 = .ok (.iconst 0, 1) := by decide +kernel
theorem dX12_mergedAt_223 : decode cX12_mergedAt 223 = .ok (.iadd, 1) := by decide +kernel
theorem dX12_mergedAt_224 : decode cX12_mergedAt 224 = .ok (.istore_n 2, 1) := by decide +kernel
theorem dX12_mergedAt_225 : decode cX12_mergedAt 225 = .ok (.iload_n 3, 1) := by decide +kernel
theorem dX12_mergedAt_226 : decode cX12_mergedAt 226 = .ok (.iload 9, 2) := by decide +kernel
theorem dX12_mergedAt_228 : decode cX12_mergedAt 228 = .ok (.ifCond .eq 8, 3) := by decide +kernel
theorem dX12_mergedAt_231 : decode cX12_mergedAt 231 = .ok (.iload 6, 2) := by decide +kernel
theorem dX12_mergedAt_233 : decode cX12_mergedAt 233 = .ok (.ifCond .eq 7, 3) := by decide +kernel
theorem dX12_mergedAt_236 : decode cX12_mergedAt 236 = .ok (.iconst 1, 1) := by decide +kernel
theorem dX12_mergedAt_237 : decode cX12_mergedAt 237 = .ok (.goto 4, 3) := by decide +kernel
theorem dX12_mergedAt_240 : decode cX12_mergedAt 240 = .ok (.iconst 0, 1) := by decide +kernel
theorem dX12_mergedAt_241 : decode cX12_mergedAt 241 = .ok (.iadd, 1) := by decide +kernel
theorem dX12_mergedAt_242 : decode cX12_mergedAt 242 = .ok (.istore_n 3, 1) := by decide +kernel
theorem dX12_mergedAt_243 : decode cX12_mergedAt 243 = .ok (.iinc 5 1, 3) := by decide +kernel
theorem dX12_mergedAt_246 : decode cX12_mergedAt 246 = .ok (.goto (-236), 3) := by decide +kernel
theorem dX12_mergedAt_249 : decode cX12_mergedAt 249 = .ok (.iload 4, 2) := by decide +kernel
theorem dX12_mergedAt_251 : decode cX12_mergedAt 251 = .ok (.ireturn, 1) := by decide +kernel
theorem dX12_merged_0 : decode cX12_merged 0 = .ok (.aload_n 0, 1) := by decide +kernel
theorem dX12_merged_1 : decode cX12_merged 1 = .ok (.iconst 0, 1) := by decide +kernel
theorem dX12_merged_2 : decode cX12_merged 2 = .ok (.putfield 91, 3) := by decide +kernel
theorem dX12_merged_5 : decode cX12_merged 5 = .ok (.iload_n 3, 1) := by decide +kernel
theorem dX12_merged_6 : decode cX12_merged 6 = .ok (.iconst 1, 1) := by decide +kernel
theorem dX12_merged_7 : decode cX12_merged 7 = .ok (.bipush 12, 2) := by decide +kernel
theorem dX12_merged_9 : decode cX12_merged 9 = .ok (.invokestatic 107, 3) := by decide +kernel
theorem dX12_merged_12 : decode cX12_merged 12 = .ok (.ifCond .eq 11, 3) := by decide +kernel
theorem dX12_merged_15 : decode cX12_merged 15 = .ok (.aload_n 0, 1) := by decide +kernel
theorem dX12_merged_16 : decode cX12_merged 16 = .ok (.iload_n 1, 1) := by decide +kernel
theorem dX12_merged_17 : decode cX12_merged 17 = .ok (.invokevirtual 285, 3) := by decide +kernel
theorem dX12_merged_20 : decode cX12_merged 20 = .ok (.ifCond .ne 5, 3) := by decide +kernel
theorem dX12_merged_23 : decode cX12_merged 23 = .ok (.iconst (-1), 1) := by decide +kernel
theorem dX12_merged_24 : decode cX12_merged 24 = .ok (.ireturn, 1) := by decide +kernel
theorem dX12_merged_25 : decode cX12_merged 25 = .ok (.aload_n 0, 1) := by decide +kernel
theorem dX12_merged_26 : decode cX12_merged 26 = .ok (.aload_n 0, 1) := by decide +kernel
theorem dX12_merged_27 : decode cX12_merged 27 = .ok (.aload_n 0, 1) := by decide +kernel
theorem dX12_merged_28 : decode cX12_merged 28 = .ok (.getfield 66, 3) := by decide +kernel
theorem dX12_merged_31 : decode cX12_merged 31 = .ok (.iload_n 3, 1) := by decide +kernel
theorem dX12_merged_32 : decode cX12_merged 32 = .ok (.invokevirtual 418, 3) := by decide +kernel
theorem dX12_merged_35 : decode cX12_merged 35 = .ok (.putfield 412, 3) := by decide +kernel
theorem dX12_merged_38 : decode cX12_merged 38 = .ok (.aload_n 0, 1) := by decide +kernel
theorem dX12_merged_39 : decode cX12_merged 39 = .ok (.iload_n 2, 1) := by decide +kernel
theorem dX12_merged_40 : decode cX12_merged 40 = .ok (.invokevirtual 285, 3) := by decide +kernel
theorem dX12_merged_43 : decode cX12_merged 43 = .ok (.ifCond .ne 5, 3) := by decide +kernel
theorem dX12_merged_46 : decode cX12_merged 46 = .ok (.iconst (-1), 1) := by decide +kernel
theorem dX12_merged_47 : decode cX12_merged 47 = .ok (.ireturn, 1) := by decide +kernel
theorem dX12_merged_48 : decode cX12_merged 48 = .ok (.aload_n 0, 1) := by decide +kernel
theorem dX12_merged_49 : decode cX12_merged 49 = .ok (.aload_n 0, 1) := by decide +kernel
theorem dX12_merged_50 : decode cX12_merged 50 = .ok (.aload_n 0, 1) := by decide +kernel
theorem dX12_merged_51 : decode cX12_merged 51 = .ok (.getfield 69, 3) := by decide +kernel
theorem dX12_merged_54 : decode cX12_merged 54 = .ok (.iload_n 3, 1) := by decide +kernel
theorem dX12_merged_55 : decode cX12_merged 55 = .ok (.invokevirtual 418, 3) := by decide +kernel
theorem dX12_merged_58 : decode cX12_merged 58 = .ok (.putfield 415, 3) := by decide +kernel
theorem dX12_merged_61 : decode cX12_merged 61 = .ok (.aload_n 0, 1) := by decide +kernel
theorem dX12_merged_62 : decode cX12_merged 62 = .ok (.invokevirtual 422, 3) := by decide +kernel
theorem dX12_merged_65 : decode cX12_merged 65 = .ok (.iload 4, 2) := by decide +kernel
theorem dX12_merged_67 : decode cX12_merged 67 = .ok (.iconst (-1), 1) := by decide +kernel
theorem dX12_merged_68 : decode cX12_merged 68 = .ok (.if_icmp .ne 12, 3) := by decide +kernel
theorem dX12_merged_71 : decode cX12_merged 71 = .ok (.aload_n 0, 1) := by decide +kernel
theorem dX12_merged_72 : decode cX12_merged 72 = .ok (.getfield 72, 3) := by decide +kernel
theorem dX12_merged_75 : decode cX12_merged 75 = .ok (.iconst 0, 1) := by decide +kernel
theorem dX12_merged_76 : decode cX12_merged 76 = .ok (.iaload, 1) := by decide +kernel
theorem dX12_merged_77 : decode cX12_merged 77 = .ok (.goto 56, 3) := by decide +kernel
theorem dX12_merged_80 : decode cX12_merged 80 = .ok (.iload 4, 2) := by decide +kernel
theorem dX12_merged_82 : decode cX12_merged 82 = .ok (.bipush (-2), 2) := by decide +kernel
theorem dX12_merged_84 : decode cX12_merged 84 = .ok (.if_icmp .ne 22, 3) := by decide +kernel
theorem dX12_merged_87 : decode cX12_merged 87 = .ok (.aload_n 0, 1) := by decide +kernel
theorem dX12_merged_88 : decode cX12_merged 88 = .ok (.getfield 412, 3) := by decide +kernel
theorem dX12_merged_91 : decode cX12_merged 91 = .ok (.aload_n 0, 1) := by decide +kernel
theorem dX12_merged_92 : decode cX12_merged 92 = .ok (.getfield 415, 3) := by decide +kernel
theorem dX12_merged_95 : decode cX12_merged 95 = .ok (.iadd, 1) := by decide +kernel
theorem dX12_merged_96 : decode cX12_merged 96 = .ok (.aload_n 0, 1) := by decide +kernel
theorem dX12_merged_97 : decode cX12_merged 97 = .ok (.getfield 72, 3) := by decide +kernel
theorem dX12_merged_100 : decode cX12_merged 100 = .ok (.iconst 0, 1) := by decide +kernel
theorem dX12_merged_101 : decode cX12_merged 101 = .ok (.iaload, 1) := by decide +kernel
theorem dX12_merged_102 : decode cX12_merged 102 = .ok (.isub, 1) := by decide +kernel
theorem dX12_merged_103 : decode cX12_merged 103 = .ok (.goto 30, 3) := by decide +kernel
theorem dX12_merged_106 : decode cX12_merged 106 = .ok (.iload 4, 2) := by decide +kernel
theorem dX12_merged_108 : decode cX12_merged 108 = .ok (.iconst 0, 1) := by decide +kernel
theorem dX12_merged_109 : decode cX12_merged 109 = .ok (.aload_n 0, 1) := by decide +kernel
theorem dX12_merged_110 : decode cX12_merged 110 = .ok (.getfield 72, 3) := by decide +kernel
theorem dX12_merged_113 : decode cX12_merged 113 = .ok (.iconst 0, 1) := by decide +kernel
theorem dX12_merged_114 : decode cX12_merged 114 = .ok (.iaload, 1) := by decide +kernel
theorem dX12_merged_115 : decode cX12_merged 115 = .ok (.iconst 1, 1) := by decide +kernel
theorem dX12_merged_116 : decode cX12_merged 116 = .ok (.isub, 1) := by decide +kernel
theorem dX12_merged_117 : decode cX12_merged 117 = .ok (.invokestatic 107, 3) := by decide +kernel
theorem dX12_merged_120 : decode cX12_merged 120 = .ok (.ifCond .eq 12, 3) := by decide +kernel
theorem dX12_merged_123 : decode cX12_merged 123 = .ok (.aload_n 0, 1) := by decide +kernel
theorem dX12_merged_124 : decode cX12_merged 124 = .ok (.iload 4, 2) := by decide +kernel
theorem dX12_merged_126 : decode cX12_merged 126 = .ok (.invokevirtual 425, 3) := by decide +kernel
theorem dX12_merged_129 : decode cX12_merged 129 = .ok (.goto 4, 3) := by decide +kernel
theorem dX12_merged_132 : decode cX12_merged 132 = .ok (.iconst (-1), 1) := by decide +kernel
theorem dX12_merged_133 : decode cX12_merged 133 = .ok (.ireturn, 1) := by decide +kernel
theorem dX12_voices_0 : decode cX12_voices 0 = .ok (.aload_n 0, 1) := by decide +kernel
theorem dX12_voices_1 : decode cX12_voices 1 = .ok (.getfield 32, 3) := by decide +kernel
theorem dX12_voices_4 : decode cX12_voices 4 = .ok (.bipush 13, 2) := by decide +kernel
theorem dX12_voices_6 : decode cX12_voices 6 = .ok (.aload_n 0, 1) := by decide +kernel
theorem dX12_voices_7 : decode cX12_voices 7 = .ok (.getfield 428, 3) := by decide +kernel
theorem dX12_voices_10 : decode cX12_voices 10 = .ok (.imul, 1) := by decide +kernel
theorem dX12_voices_11 : decode cX12_voices 11 = .ok (.iaload, 1) := by decide +kernel
theorem dX12_voices_12 : decode cX12_voices 12 = .ok (.ireturn, 1) := by decide +kernel
theorem dX12_voiceOf_0 : decode cX12_voiceOf 0 = .ok (.aload_n 0, 1) := by decide +kernel
theorem dX12_voiceOf_1 : decode cX12_voiceOf 1 = .ok (.getfield 32, 3) := by decide +kernel
theorem dX12_voiceOf_4 : decode cX12_voiceOf 4 = .ok (.bipush 13, 2) := by decide +kernel
theorem dX12_voiceOf_6 : decode cX12_voiceOf 6 = .ok (.aload_n 0, 1) := by decide +kernel
theorem dX12_voiceOf_7 : decode cX12_voiceOf 7 = .ok (.getfield 428, 3) := by decide +kernel
theorem dX12_voiceOf_10 : decode cX12_voiceOf 10 = .ok (.imul, 1) := by decide +kernel
theorem dX12_voiceOf_11 : decode cX12_voiceOf 11 = .ok (.iconst 1, 1) := by decide +kernel
theorem dX12_voiceOf_12 : decode cX12_voiceOf 12 = .ok (.iadd, 1) := by decide +kernel
theorem dX12_voiceOf_13 : decode cX12_voiceOf 13 = .ok (.iload_n 1, 1) := by decide +kernel
theorem dX12_voiceOf_14 : decode cX12_voiceOf 14 = .ok (.iadd, 1) := by decide +kernel
theorem dX12_voiceOf_15 : decode cX12_voiceOf 15 = .ok (.iaload, 1) := by decide +kernel
theorem dX12_voiceOf_16 : decode cX12_voiceOf 16 = .ok (.ireturn, 1) := by decide +kernel
theorem dX12_hasLog_0 : decode cX12_hasLog 0 = .ok (.aload_n 0, 1) := by decide +kernel
theorem dX12_hasLog_1 : decode cX12_hasLog 1 = .ok (.iload_n 1, 1) := by decide +kernel
theorem dX12_hasLog_2 : decode cX12_hasLog 2 = .ok (.putfield 428, 3) := by decide +kernel
theorem dX12_hasLog_5 : decode cX12_hasLog 5 = .ok (.aload_n 0, 1) := by decide +kernel
theorem dX12_hasLog_6 : decode cX12_hasLog 6 = .ok (.iconst 2, 1) := by decide +kernel
theorem dX12_hasLog_7 : decode cX12_hasLog 7 = .ok (.iload_n 1, 1) := by decide +kernel
theorem dX12_hasLog_8 : decode cX12_hasLog 8 = .ok (.invokevirtual 260, 3) := by decide +kernel
theorem dX12_hasLog_11 : decode cX12_hasLog 11 = .ok (.ireturn, 1) := by decide +kernel
theorem dX12_voice_0 : decode cX12_voice 0 = .ok (.aload_n 0, 1) := by decide +kernel
theorem dX12_voice_1 : decode cX12_voice 1 = .ok (.iconst 0, 1) := by decide +kernel
theorem dX12_voice_2 : decode cX12_voice 2 = .ok (.putfield 91, 3) := by decide +kernel
theorem dX12_voice_5 : decode cX12_voice 5 = .ok (.aload_n 0, 1) := by decide +kernel
theorem dX12_voice_6 : decode cX12_voice 6 = .ok (.iload_n 1, 1) := by decide +kernel
theorem dX12_voice_7 : decode cX12_voice 7 = .ok (.invokevirtual 431, 3) := by decide +kernel
theorem dX12_voice_10 : decode cX12_voice 10 = .ok (.ifCond .ne 5, 3) := by decide +kernel
theorem dX12_voice_13 : decode cX12_voice 13 = .ok (.iconst (-1), 1) := by decide +kernel
theorem dX12_voice_14 : decode cX12_voice 14 = .ok (.ireturn, 1) := by decide +kernel
theorem dX12_voice_15 : decode cX12_voice 15 = .ok (.iload_n 2, 1) := by decide +kernel
theorem dX12_voice_16 : decode cX12_voice 16 = .ok (.iconst (-1), 1) := by decide +kernel
theorem dX12_voice_17 : decode cX12_voice 17 = .ok (.if_icmp .ne 10, 3) := by decide +kernel
theorem dX12_voice_20 : decode cX12_voice 20 = .ok (.aload_n 0, 1) := by decide +kernel
theorem dX12_voice_21 : decode cX12_voice 21 = .ok (.invokevirtual 434, 3) := by decide +kernel
theorem dX12_voice_24 : decode cX12_voice 24 = .ok (.goto 26, 3) := by decide +kernel
theorem dX12_voice_27 : decode cX12_voice 27 = .ok (.iload_n 2, 1) := by decide +kernel
theorem dX12_voice_28 : decode cX12_voice 28 = .ok (.iconst 0, 1) := by decide +kernel
theorem dX12_voice_29 : decode cX12_voice 29 = .ok (.aload_n 0, 1) := by decide +kernel
theorem dX12_voice_30 : decode cX12_voice 30 = .ok (.invokevirtual 434, 3) := by decide +kernel
theorem dX12_voice_33 : decode cX12_voice 33 = .ok (.iconst 1, 1) := by decide +kernel
theorem dX12_voice_34 : decode cX12_voice 34 = .ok (.isub, 1) := by decide +kernel
theorem dX12_voice_35 : decode cX12_voice 35 = .ok (.invokestatic 107, 3) := by decide +kernel
theorem dX12_voice_38 : decode cX12_voice 38 = .ok (.ifCond .eq 11, 3) := by decide +kernel
theorem dX12_voice_41 : decode cX12_voice 41 = .ok (.aload_n 0, 1) := by decide +kernel
theorem dX12_voice_42 : decode cX12_voice 42 = .ok (.iload_n 2, 1) := by decide +kernel
theorem dX12_voice_43 : decode cX12_voice 43 = .ok (.invokevirtual 437, 3) := by decide +kernel
theorem dX12_voice_46 : decode cX12_voice 46 = .ok (.goto 4, 3) := by decide +kernel
theorem dX12_voice_49 : decode cX12_voice 49 = .ok (.iconst (-1), 1) := by decide +kernel
theorem dX12_voice_50 : decode cX12_voice 50 = .ok (.ireturn, 1) := by decide +kernel
theorem dX12_isHeard_0 : decode cX12_isHeard 0 = .ok (.aload_n 0, 1) := by decide +kernel
theorem dX12_isHeard_1 : decode cX12_isHeard 1 = .ok (.iload_n 1, 1) := by decide +kernel
theorem dX12_isHeard_2 : decode cX12_isHeard 2 = .ok (.invokevirtual 437, 3) := by decide +kernel
theorem dX12_isHeard_5 : decode cX12_isHeard 5 = .ok (.bipush 6, 2) := by decide +kernel
theorem dX12_isHeard_7 : decode cX12_isHeard 7 = .ok (.if_icmp .eq 16, 3) := by decide +kernel
theorem dX12_isHeard_10 : decode cX12_isHeard 10 = .ok (.aload_n 0, 1) := by decide +kernel
theorem dX12_isHeard_11 : decode cX12_isHeard 11 = .ok (.iload_n 1, 1) := by decide +kernel
theorem dX12_isHeard_12 : decode cX12_isHeard 12 = .ok (.invokevirtual 437, 3) := by decide +kernel
theorem dX12_isHeard_15 : decode cX12_isHeard 15 = .ok (.aload_n 0, 1) := by decide +kernel
theorem dX12_isHeard_16 : decode cX12_isHeard 16 = .ok (.iload_n 2, 1) := by decide +kernel
theorem dX12_isHeard_17 : decode cX12_isHeard 17 = .ok (.invokevirtual 282, 3) := by decide +kernel
theorem dX12_isHeard_20 : decode cX12_isHeard 20 = .ok (.if_icmp .ne 7, 3) := by decide +kernel
theorem dX12_isHeard_23 : decode cX12_isHeard 23 = .ok (.iconst 1, 1) := by decide +kernel
theorem dX12_isHeard_24 : decode cX12_isHeard 24 = .ok (.goto 4, 3) := by decide +kernel
theorem dX12_isHeard_27 : decode cX12_isHeard 27 = .ok (.iconst 0, 1) := by decide +kernel
theorem dX12_isHeard_28 : decode cX12_isHeard 28 = .ok (.ireturn, 1) := by decide +kernel
theorem dX12_findFrom_0 : decode cX12_findFrom 0 = .ok (.aload_n 0, 1) := by decide +kernel
theorem dX12_findFrom_1 : decode cX12_findFrom 1 = .ok (.invokevirtual 434, 3) := by decide +kernel
theorem dX12_findFrom_4 : decode cX12_findFrom 4 = .ok (.iconst 1, 1) := by decide +kernel
theorem dX12_findFrom_5 : decode cX12_findFrom 5 = .ok (.isub, 1) := by decide +kernel
theorem dX12_findFrom_6 : decode cX12_findFrom 6 = .ok (.istore_n 1, 1) := by decide +kernel
theorem dX12_findFrom_7 : decode cX12_findFrom 7 = .ok (.iload_n 1, 1) := by decide +kernel
theorem dX12_findFrom_8 : decode cX12_findFrom 8 = .ok (.ifCond .lt 195, 3) := by decide +kernel
theorem dX12_findFrom_11 : decode cX12_findFrom 11 = .ok (.iconst 0, 1) := by decide +kernel
theorem dX12_findFrom_12 : decode cX12_findFrom 12 = .ok (.istore_n 2, 1) := by decide +kernel
theorem dX12_findFrom_13 : decode cX12_findFrom 13 = .ok (.iload_n 2, 1) := by decide +kernel
theorem dX12_findFrom_14 : decode cX12_findFrom 14 = .ok (.aload_n 0, 1) := by decide +kernel
theorem dX12_findFrom_15 : decode cX12_findFrom 15 = .ok (.getfield 276, 3) := by decide +kernel
theorem dX12_findFrom_18 : decode cX12_findFrom 18 = .ok (.if_icmp .ge 179, 3) := by decide +kernel
theorem dX12_findFrom_21 : decode cX12_findFrom 21 = .ok (.iload_n 1, 1) := by decide +kernel
theorem dX12_findFrom_22 : decode cX12_findFrom 22 = .ok (.aload_n 0, 1) := by decide +kernel
theorem dX12_findFrom_23 : decode cX12_findFrom 23 = .ok (.invokevirtual 434, 3) := by decide +kernel
theorem dX12_findFrom_26 : decode cX12_findFrom 26 = .ok (.iconst 1, 1) := by decide +kernel
theorem dX12_findFrom_27 : decode cX12_findFrom 27 = .ok (.isub, 1) := by decide +kernel
theorem dX12_findFrom_28 : decode cX12_findFrom 28 = .ok (.if_icmp .ne 7, 3) := by decide +kernel
theorem dX12_findFrom_31 : decode cX12_findFrom 31 = .ok (.lconst 1, 1) := by decide +kernel
theorem dX12_findFrom_32 : decode cX12_findFrom 32 = .ok (.goto 4, 3) := by decide +kernel
theorem dX12_findFrom_35 : decode cX12_findFrom 35 = .ok (.lconst 0, 1) := by decide +kernel
theorem dX12_findFrom_36 : decode cX12_findFrom 36 = .ok (.lstore_n 3, 1) := by decide +kernel
theorem dX12_findFrom_37 : decode cX12_findFrom 37 = .ok (.iload_n 1, 1) := by decide +kernel
theorem dX12_findFrom_38 : decode cX12_findFrom 38 = .ok (.aload_n 0, 1) := by decide +kernel
theorem dX12_findFrom_39 : decode cX12_findFrom 39 = .ok (.invokevirtual 434, 3) := by decide +kernel
theorem dX12_findFrom_42 : decode cX12_findFrom 42 = .ok (.iconst 1, 1) := by decide +kernel
theorem dX12_findFrom_43 : decode cX12_findFrom 43 = .ok (.isub, 1) := by decide +kernel
theorem dX12_findFrom_44 : decode cX12_findFrom 44 = .ok (.if_icmp .ne 7, 3) := by decide +kernel
theorem dX12_findFrom_47 : decode cX12_findFrom 47 = .ok (.iconst 0, 1) := by decide +kernel
theorem dX12_findFrom_48 : decode cX12_findFrom 48 = .ok (.goto 6, 3) := by decide +kernel
theorem dX12_findFrom_51 : decode cX12_findFrom 51 = .ok (.ldc_w 361, 3) := by decide +kernel
theorem dX12_findFrom_54 : decode cX12_findFrom 54 = .ok (.istore 5, 2) := by decide +kernel
theorem dX12_findFrom_56 : decode cX12_findFrom 56 = .ok (.iconst 0, 1) := by decide +kernel
theorem dX12_findFrom_57 : decode cX12_findFrom 57 = .ok (.istore 6, 2) := by decide +kernel
theorem dX12_findFrom_59 : decode cX12_findFrom 59 = .ok (.iload 6, 2) := by decide +kernel
theorem dX12_findFrom_61 : decode cX12_findFrom 61 = .ok (.aload_n 0, 1) := by decide +kernel
theorem dX12_findFrom_62 : decode cX12_findFrom 62 = .ok (.getfield 47, 3) := by decide +kernel
theorem dX12_findFrom_65 : decode cX12_findFrom 65 = .ok (.iload_n 2, 1) := by decide +kernel
theorem dX12_findFrom_66 : decode cX12_findFrom 66 = .ok (.iaload, 1) := by decide +kernel
theorem dX12_findFrom_67 : decode cX12_findFrom 67 = .ok (.if_icmp .ge 65, 3) := by decide +kernel
theorem dX12_findFrom_70 : decode cX12_findFrom 70 = .ok (.iload_n 1, 1) := by decide +kernel
theorem dX12_findFrom_71 : decode cX12_findFrom 71 = .ok (.aload_n 0, 1) := by decide +kernel
theorem dX12_findFrom_72 : decode cX12_findFrom 72 = .ok (.invokevirtual 434, 3) := by decide +kernel
theorem dX12_findFrom_75 : decode cX12_findFrom 75 = .ok (.iconst 1, 1) := by decide +kernel
theorem dX12_findFrom_76 : decode cX12_findFrom 76 = .ok (.isub, 1) := by decide +kernel
theorem dX12_findFrom_77 : decode cX12_findFrom 77 = .ok (.if_icmp .ge 55, 3) := by decide +kernel
theorem dX12_findFrom_80 : decode cX12_findFrom 80 = .ok (.bipush 20, 2) := by decide +kernel
theorem dX12_findFrom_82 : decode cX12_findFrom 82 = .ok (.iload_n 1, 1) := by decide +kernel
theorem dX12_findFrom_83 : decode cX12_findFrom 83 = .ok (.iconst 1, 1) := by decide +kernel
theorem dX12_findFrom_84 : decode cX12_findFrom 84 = .ok (.iadd, 1) := by decide +kernel
theorem dX12_findFrom_85 : decode cX12_findFrom 85 = .ok (.imul, 1) := by decide +kernel
theorem dX12_findFrom_86 : decode cX12_findFrom 86 = .ok (.aload_n 0, 1) := by decide +kernel
theorem dX12_findFrom_87 : decode cX12_findFrom 87 = .ok (.iload_n 2, 1) := by decide +kernel
theorem dX12_findFrom_88 : decode cX12_findFrom 88 = .ok (.iload 6, 2) := by decide +kernel
theorem dX12_findFrom_90 : decode cX12_findFrom 90 = .ok (.invokevirtual 297, 3) := by decide +kernel
theorem dX12_findFrom_93 : decode cX12_findFrom 93 = .ok (.iadd, 1) := by decide +kernel
theorem dX12_findFrom_94 : decode cX12_findFrom 94 = .ok (.istore 7, 2) := by decide +kernel
theorem dX12_findFrom_96 : decode cX12_findFrom 96 = .ok (.lload_n 3, 1) := by decide +kernel
theorem dX12_findFrom_97 : decode cX12_findFrom 97 = .ok (.aload_n 0, 1) := by decide +kernel
theorem dX12_findFrom_98 : decode cX12_findFrom 98 = .ok (.getfield 78, 3) := by decide +kernel
theorem dX12_findFrom_101 : decode cX12_findFrom 101 = .ok (.iload 7, 2) := by decide +kernel
theorem dX12_findFrom_103 : decode cX12_findFrom 103 = .ok (.laload, 1) := by decide +kernel
theorem dX12_findFrom_104 : decode cX12_findFrom 104 = .ok (.ladd, 1) := by decide +kernel
theorem dX12_findFrom_105 : decode cX12_findFrom 105 = .ok (.lstore_n 3, 1) := by decide +kernel
theorem dX12_findFrom_106 : decode cX12_findFrom 106 = .ok (.iload 5, 2) := by decide +kernel
theorem dX12_findFrom_108 : decode cX12_findFrom 108 = .ok (.iload 6, 2) := by decide +kernel
theorem dX12_findFrom_110 : decode cX12_findFrom 110 = .ok (.invokestatic 362, 3) := by decide +kernel
theorem dX12_findFrom_113 : decode cX12_findFrom 113 = .ok (.aload_n 0, 1) := by decide +kernel
theorem dX12_findFrom_114 : decode cX12_findFrom 114 = .ok (.getfield 81, 3) := by decide +kernel
theorem dX12_findFrom_117 : decode cX12_findFrom 117 = .ok (.iload 7, 2) := by decide +kernel
theorem dX12_findFrom_119 : decode cX12_findFrom 119 = .ok (.iaload, 1) := by decide +kernel
theorem dX12_findFrom_120 : decode cX12_findFrom 120 = .ok (.iadd, 1) := by decide +kernel
theorem dX12_findFrom_121 : decode cX12_findFrom 121 = .ok (.invokestatic 365, 3) := by decide +kernel
theorem dX12_findFrom_124 : decode cX12_findFrom 124 = .ok (.istore 5, 2) := by decide +kernel
theorem dX12_findFrom_126 : decode cX12_findFrom 126 = .ok (.iinc 6 1, 3) := by decide +kernel
theorem dX12_findFrom_129 : decode cX12_findFrom 129 = .ok (.goto (-70), 3) := by decide +kernel
theorem dX12_findFrom_132 : decode cX12_findFrom 132 = .ok (.aload_n 0, 1) := by decide +kernel
theorem dX12_findFrom_133 : decode cX12_findFrom 133 = .ok (.getfield 78, 3) := by decide +kernel
theorem dX12_findFrom_136 : decode cX12_findFrom 136 = .ok (.bipush 20, 2) := by decide +kernel
theorem dX12_findFrom_138 : decode cX12_findFrom 138 = .ok (.iload_n 1, 1) := by decide +kernel
theorem dX12_findFrom_139 : decode cX12_findFrom 139 = .ok (.imul, 1) := by decide +kernel
theorem dX12_findFrom_140 : decode cX12_findFrom 140 = .ok (.iload_n 2, 1) := by decide +kernel
theorem dX12_findFrom_141 : decode cX12_findFrom 141 = .ok (.iadd, 1) := by decide +kernel
theorem dX12_findFrom_142 : decode cX12_findFrom 142 = .ok (.aload_n 0, 1) := by decide +kernel
theorem dX12_findFrom_143 : decode cX12_findFrom 143 = .ok (.iload_n 1, 1) := by decide +kernel
theorem dX12_findFrom_144 : decode cX12_findFrom 144 = .ok (.iload_n 2, 1) := by decide +kernel
theorem dX12_findFrom_145 : decode cX12_findFrom 145 = .ok (.invokevirtual 440, 3) := by decide +kernel
theorem dX12_findFrom_148 : decode cX12_findFrom 148 = .ok (.ifCond .eq 7, 3) := by decide +kernel
theorem dX12_findFrom_151 : decode cX12_findFrom 151 = .ok (.lload_n 3, 1) := by decide +kernel
theorem dX12_findFrom_152 : decode cX12_findFrom 152 = .ok (.goto 4, 3) := by decide +kernel
theorem dX12_findFrom_155 : decode cX12_findFrom 155 = .ok (.lconst 0, 1) := by decide +kernel
theorem dX12_findFrom_156 : decode cX12_findFrom 156 = .ok (.lastore, 1) := by decide +kernel
theorem dX12_findFrom_157 : decode cX12_findFrom 157 = .ok (.aload_n 0, 1) := by decide +kernel
theorem dX12_findFrom_158 : decode cX12_findFrom 158 = .ok (.getfield 81, 3) := by decide +kernel
theorem dX12_findFrom_161 : decode cX12_findFrom 161 = .ok (.bipush 20, 2) := by decide +kernel
theorem dX12_findFrom_163 : decode cX12_findFrom 163 = .ok (.iload_n 1, 1) := by decide +kernel
theorem dX12_findFrom_164 : decode cX12_findFrom 164 = .ok (.imul, 1) := by decide +kernel
theorem dX12_findFrom_165 : decode cX12_findFrom 165 = .ok (.iload_n 2, 1) := by decide +kernel
theorem dX12_findFrom_166 : decode cX12_findFrom 166 = .ok (.iadd, 1) := by decide +kernel
theorem dX12_findFrom_167 : decode cX12_findFrom 167 = .ok (.aload_n 0, 1) := by decide +kernel
theorem dX12_findFrom_168 : decode cX12_findFrom 168 = .ok (.iload_n 1, 1) := by decide +kernel
theorem dX12_findFrom_169 : decode cX12_findFrom 169 = .ok (.iload_n 2, 1) := by decide +kernel
theorem dX12_findFrom_170 : decode cX12_findFrom 170 = .ok (.invokevirtual 440, 3) := by decide +kernel
theorem dX12_findFrom_173 : decode cX12_findFrom 173 = .ok (.ifCond .eq 14, 3) := by decide +kernel
theorem dX12_findFrom_176 : decode cX12_findFrom 176 = .ok (.iload 5, 2) := by decide +kernel
theorem dX12_findFrom_178 : decode cX12_findFrom 178 = .ok (.ldc_w 361, 3) := by decide +kernel
theorem dX12_findFrom_181 : decode cX12_findFrom 181 = .ok (.invokestatic 365, 3) := by decide +kernel
theorem dX12_findFrom_184 : decode cX12_findFrom 184 = .ok (.goto 6, 3) := by decide +kernel
theorem dX12_findFrom_187 : decode cX12_findFrom 187 = .ok (.ldc_w 361, 3) := by decide +kernel
theorem dX12_findFrom_190 : decode cX12_findFrom 190 = .ok (.iastore, 1) := by decide +kernel
theorem dX12_findFrom_191 : decode cX12_findFrom 191 = .ok (.iinc 2 1, 3) := by decide +kernel
theorem dX12_findFrom_194 : decode cX12_findFrom 194 = .ok (.goto (-181), 3) := by decide +kernel
theorem dX12_findFrom_197 : decode cX12_findFrom 197 = .ok (.iinc 1 (-1), 3) := by decide +kernel
theorem dX12_findFrom_200 : decode cX12_findFrom 200 = .ok (.goto (-193), 3) := by decide +kernel
theorem dX12_findFrom_203 : decode cX12_findFrom 203 = .ok (.return_, 1) := by decide +kernel
theorem dX12_findUpTo_0 : decode cX12_findUpTo 0 = .ok (.iconst 0, 1) := by decide +kernel
theorem dX12_findUpTo_1 : decode cX12_findUpTo 1 = .ok (.istore_n 1, 1) := by decide +kernel
theorem dX12_findUpTo_2 : decode cX12_findUpTo 2 = .ok (.iload_n 1, 1) := by decide +kernel
theorem dX12_findUpTo_3 : decode cX12_findUpTo 3 = .ok (.sipush 240, 3) := by decide +kernel
theorem dX12_findUpTo_6 : decode cX12_findUpTo 6 = .ok (.if_icmp .ge 16, 3) := by decide +kernel
theorem dX12_findUpTo_9 : decode cX12_findUpTo 9 = .ok (.aload_n 0, 1) := by decide +kernel
theorem dX12_findUpTo_10 : decode cX12_findUpTo 10 = .ok (.getfield 75, 3) := by decide +kernel
theorem dX12_findUpTo_13 : decode cX12_findUpTo 13 = .ok (.iload_n 1, 1) := by decide +kernel
theorem dX12_findUpTo_14 : decode cX12_findUpTo 14 = .ok (.lconst 0, 1) := by decide +kernel
theorem dX12_findUpTo_15 : decode cX12_findUpTo 15 = .ok (.lastore, 1) := by decide +kernel
theorem dX12_findUpTo_16 : decode cX12_findUpTo 16 = .ok (.iinc 1 1, 3) := by decide +kernel
theorem dX12_findUpTo_19 : decode cX12_findUpTo 19 = .ok (.goto (-17), 3) := by decide +kernel
theorem dX12_findUpTo_22 : decode cX12_findUpTo 22 = .ok (.iconst 0, 1) := by decide +kernel
theorem dX12_findUpTo_23 : decode cX12_findUpTo 23 = .ok (.istore_n 1, 1) := by decide +kernel
theorem dX12_findUpTo_24 : decode cX12_findUpTo 24 = .ok (.iload_n 1, 1) := by decide +kernel
theorem dX12_findUpTo_25 : decode cX12_findUpTo 25 = .ok (.aload_n 0, 1) := by decide +kernel
theorem dX12_findUpTo_26 : decode cX12_findUpTo 26 = .ok (.invokevirtual 434, 3) := by decide +kernel
theorem dX12_findUpTo_29 : decode cX12_findUpTo 29 = .ok (.if_icmp .ge 138, 3) := by decide +kernel
theorem dX12_findUpTo_32 : decode cX12_findUpTo 32 = .ok (.iload_n 1, 1) := by decide +kernel
theorem dX12_findUpTo_33 : decode cX12_findUpTo 33 = .ok (.ifCond .ne 17, 3) := by decide +kernel
theorem dX12_findUpTo_36 : decode cX12_findUpTo 36 = .ok (.aload_n 0, 1) := by decide +kernel
theorem dX12_findUpTo_37 : decode cX12_findUpTo 37 = .ok (.getfield 276, 3) := by decide +kernel
theorem dX12_findUpTo_40 : decode cX12_findUpTo 40 = .ok (.ifCond .le 10, 3) := by decide +kernel
theorem dX12_findUpTo_43 : decode cX12_findUpTo 43 = .ok (.aload_n 0, 1) := by decide +kernel
theorem dX12_findUpTo_44 : decode cX12_findUpTo 44 = .ok (.getfield 75, 3) := by decide +kernel
theorem dX12_findUpTo_47 : decode cX12_findUpTo 47 = .ok (.iconst 0, 1) := by decide +kernel
theorem dX12_findUpTo_48 : decode cX12_findUpTo 48 = .ok (.lconst 1, 1) := by decide +kernel
theorem dX12_findUpTo_49 : decode cX12_findUpTo 49 = .ok (.lastore, 1) := by decide +kernel
theorem dX12_findUpTo_50 : decode cX12_findUpTo 50 = .ok (.iconst 0, 1) := by decide +kernel
theorem dX12_findUpTo_51 : decode cX12_findUpTo 51 = .ok (.istore_n 2, 1) := by decide +kernel
theorem dX12_findUpTo_52 : decode cX12_findUpTo 52 = .ok (.iload_n 2, 1) := by decide +kernel
theorem dX12_findUpTo_53 : decode cX12_findUpTo 53 = .ok (.aload_n 0, 1) := by decide +kernel
theorem dX12_findUpTo_54 : decode cX12_findUpTo 54 = .ok (.getfield 276, 3) := by decide +kernel
theorem dX12_findUpTo_57 : decode cX12_findUpTo 57 = .ok (.if_icmp .ge 104, 3) := by decide +kernel
theorem dX12_findUpTo_60 : decode cX12_findUpTo 60 = .ok (.aload_n 0, 1) := by decide +kernel
theorem dX12_findUpTo_61 : decode cX12_findUpTo 61 = .ok (.getfield 75, 3) := by decide +kernel
theorem dX12_findUpTo_64 : decode cX12_findUpTo 64 = .ok (.bipush 20, 2) := by decide +kernel
theorem dX12_findUpTo_66 : decode cX12_findUpTo 66 = .ok (.iload_n 1, 1) := by decide +kernel
theorem dX12_findUpTo_67 : decode cX12_findUpTo 67 = .ok (.imul, 1) := by decide +kernel
theorem dX12_findUpTo_68 : decode cX12_findUpTo 68 = .ok (.iload_n 2, 1) := by decide +kernel
theorem dX12_findUpTo_69 : decode cX12_findUpTo 69 = .ok (.iadd, 1) := by decide +kernel
theorem dX12_findUpTo_70 : decode cX12_findUpTo 70 = .ok (.aload_n 0, 1) := by decide +kernel
theorem dX12_findUpTo_71 : decode cX12_findUpTo 71 = .ok (.iload_n 1, 1) := by decide +kernel
theorem dX12_findUpTo_72 : decode cX12_findUpTo 72 = .ok (.iload_n 2, 1) := by decide +kernel
theorem dX12_findUpTo_73 : decode cX12_findUpTo 73 = .ok (.invokevirtual 440, 3) := by decide +kernel
theorem dX12_findUpTo_76 : decode cX12_findUpTo 76 = .ok (.ifCond .eq 17, 3) := by decide +kernel
theorem dX12_findUpTo_79 : decode cX12_findUpTo 79 = .ok (.aload_n 0, 1) := by decide +kernel
theorem dX12_findUpTo_80 : decode cX12_findUpTo 80 = .ok (.getfield 75, 3) := by decide +kernel
theorem dX12_findUpTo_83 : decode cX12_findUpTo 83 = .ok (.bipush 20, 2) := by decide +kernel
theorem dX12_findUpTo_85 : decode cX12_findUpTo 85 = .ok (.iload_n 1, 1) := by decide +kernel
theorem dX12_findUpTo_86 : decode cX12_findUpTo 86 = .ok (.imul, 1) := by decide +kernel
theorem dX12_findUpTo_87 : decode cX12_findUpTo 87 = .ok (.iload_n 2, 1) := by decide +kernel
theorem dX12_findUpTo_88 : decode cX12_findUpTo 88 = .ok (.iadd, 1) := by decide +kernel
theorem dX12_findUpTo_89 : decode cX12_findUpTo 89 = .ok (.laload, 1) := by decide +kernel
theorem dX12_findUpTo_90 : decode cX12_findUpTo 90 = .ok (.goto 4, 3) := by decide +kernel
theorem dX12_findUpTo_93 : decode cX12_findUpTo 93 = .ok (.lconst 0, 1) := by decide +kernel
theorem dX12_findUpTo_94 : decode cX12_findUpTo 94 = .ok (.lastore, 1) := by decide +kernel
theorem dX12_findUpTo_95 : decode cX12_findUpTo 95 = .ok (.iconst 0, 1) := by decide +kernel
theorem dX12_findUpTo_96 : decode cX12_findUpTo 96 = .ok (.istore_n 3, 1) := by decide +kernel
theorem dX12_findUpTo_97 : decode cX12_findUpTo 97 = .ok (.iload_n 3, 1) := by decide +kernel
theorem dX12_findUpTo_98 : decode cX12_findUpTo 98 = .ok (.aload_n 0, 1) := by decide +kernel
theorem dX12_findUpTo_99 : decode cX12_findUpTo 99 = .ok (.getfield 47, 3) := by decide +kernel
theorem dX12_findUpTo_102 : decode cX12_findUpTo 102 = .ok (.iload_n 2, 1) := by decide +kernel
theorem dX12_findUpTo_103 : decode cX12_findUpTo 103 = .ok (.iaload, 1) := by decide +kernel
theorem dX12_findUpTo_104 : decode cX12_findUpTo 104 = .ok (.if_icmp .ge 51, 3) := by decide +kernel
theorem dX12_findUpTo_107 : decode cX12_findUpTo 107 = .ok (.iload_n 1, 1) := by decide +kernel
theorem dX12_findUpTo_108 : decode cX12_findUpTo 108 = .ok (.aload_n 0, 1) := by decide +kernel
theorem dX12_findUpTo_109 : decode cX12_findUpTo 109 = .ok (.invokevirtual 434, 3) := by decide +kernel
theorem dX12_findUpTo_112 : decode cX12_findUpTo 112 = .ok (.iconst 1, 1) := by decide +kernel
theorem dX12_findUpTo_113 : decode cX12_findUpTo 113 = .ok (.isub, 1) := by decide +kernel
theorem dX12_findUpTo_114 : decode cX12_findUpTo 114 = .ok (.if_icmp .ge 41, 3) := by decide +kernel
theorem dX12_findUpTo_117 : decode cX12_findUpTo 117 = .ok (.aload_n 0, 1) := by decide +kernel
theorem dX12_findUpTo_118 : decode cX12_findUpTo 118 = .ok (.getfield 75, 3) := by decide +kernel
theorem dX12_findUpTo_121 : decode cX12_findUpTo 121 = .ok (.bipush 20, 2) := by decide +kernel
theorem dX12_findUpTo_123 : decode cX12_findUpTo 123 = .ok (.iload_n 1, 1) := by decide +kernel
theorem dX12_findUpTo_124 : decode cX12_findUpTo 124 = .ok (.iconst 1, 1) := by decide +kernel
theorem dX12_findUpTo_125 : decode cX12_findUpTo 125 = .ok (.iadd, 1) := by decide +kernel
theorem dX12_findUpTo_126 : decode cX12_findUpTo 126 = .ok (.imul, 1) := by decide +kernel
theorem dX12_findUpTo_127 : decode cX12_findUpTo 127 = .ok (.aload_n 0, 1) := by decide +kernel
theorem dX12_findUpTo_128 : decode cX12_findUpTo 128 = .ok (.iload_n 2, 1) := by decide +kernel
theorem dX12_findUpTo_129 : decode cX12_findUpTo 129 = .ok (.iload_n 3, 1) := by decide +kernel
theorem dX12_findUpTo_130 : decode cX12_findUpTo 130 = .ok (.invokevirtual 297, 3) := by decide +kernel
theorem dX12_findUpTo_133 : decode cX12_findUpTo 133 = .ok (.iadd, 1) := by decide +kernel
theorem dX12_findUpTo_134 : decode cX12_findUpTo 134 = .ok (.dup2, 1) := by decide +kernel
theorem dX12_findUpTo_135 : decode cX12_findUpTo 135 = .ok (.laload, 1) := by decide +kernel
theorem dX12_findUpTo_136 : decode cX12_findUpTo 136 = .ok (.aload_n 0, 1) := by decide +kernel
theorem dX12_findUpTo_137 : decode cX12_findUpTo 137 = .ok (.getfield 75, 3) := by decide +kernel
theorem dX12_findUpTo_140 : decode cX12_findUpTo 140 = .ok (.bipush 20, 2) := by decide +kernel
theorem dX12_findUpTo_142 : decode cX12_findUpTo 142 = .ok (.iload_n 1, 1) := by decide +kernel
theorem dX12_findUpTo_143 : decode cX12_findUpTo 143 = .ok (.imul, 1) := by decide +kernel
theorem dX12_findUpTo_144 : decode cX12_findUpTo 144 = .ok (.iload_n 2, 1) := by decide +kernel
theorem dX12_findUpTo_145 : decode cX12_findUpTo 145 = .ok (.iadd, 1) := by decide +kernel
theorem dX12_findUpTo_146 : decode cX12_findUpTo 146 = .ok (.laload, 1) := by decide +kernel
theorem dX12_findUpTo_147 : decode cX12_findUpTo 147 = .ok (.ladd, 1) := by decide +kernel
theorem dX12_findUpTo_148 : decode cX12_findUpTo 148 = .ok (.lastore, 1) := by decide +kernel
theorem dX12_findUpTo_149 : decode cX12_findUpTo 149 = .ok (.iinc 3 1, 3) := by decide +kernel
theorem dX12_findUpTo_152 : decode cX12_findUpTo 152 = .ok (.goto (-55), 3) := by decide +kernel
theorem dX12_findUpTo_155 : decode cX12_findUpTo 155 = .ok (.iinc 2 1, 3) := by decide +kernel
theorem dX12_findUpTo_158 : decode cX12_findUpTo 158 = .ok (.goto (-106), 3) := by decide +kernel
theorem dX12_findUpTo_161 : decode cX12_findUpTo 161 = .ok (.iinc 1 1, 3) := by decide +kernel
theorem dX12_findUpTo_164 : decode cX12_findUpTo 164 = .ok (.goto (-140), 3) := by decide +kernel
theorem dX12_findUpTo_167 : decode cX12_findUpTo 167 = .ok (.return_, 1) := by decide +kernel
theorem dX12_findWays_0 : decode cX12_findWays 0 = .ok (.aload_n 0, 1) := by decide +kernel
theorem dX12_findWays_1 : decode cX12_findWays 1 = .ok (.invokevirtual 443, 3) := by decide +kernel
theorem dX12_findWays_4 : decode cX12_findWays 4 = .ok (.aload_n 0, 1) := by decide +kernel
theorem dX12_findWays_5 : decode cX12_findWays 5 = .ok (.invokevirtual 446, 3) := by decide +kernel
theorem dX12_findWays_8 : decode cX12_findWays 8 = .ok (.aload_n 0, 1) := by decide +kernel
theorem dX12_findWays_9 : decode cX12_findWays 9 = .ok (.aload_n 0, 1) := by decide +kernel
theorem dX12_findWays_10 : decode cX12_findWays 10 = .ok (.invokevirtual 434, 3) := by decide +kernel
theorem dX12_findWays_13 : decode cX12_findWays 13 = .ok (.ifCond .ne 7, 3) := by decide +kernel
theorem dX12_findWays_16 : decode cX12_findWays 16 = .ok (.lconst 1, 1) := by decide +kernel
theorem dX12_findWays_17 : decode cX12_findWays 17 = .ok (.goto 20, 3) := by decide +kernel
theorem dX12_findWays_20 : decode cX12_findWays 20 = .ok (.aload_n 0, 1) := by decide +kernel
theorem dX12_findWays_21 : decode cX12_findWays 21 = .ok (.getfield 276, 3) := by decide +kernel
theorem dX12_findWays_24 : decode cX12_findWays 24 = .ok (.ifCond .ne 7, 3) := by decide +kernel
theorem dX12_findWays_27 : decode cX12_findWays 27 = .ok (.lconst 0, 1) := by decide +kernel
theorem dX12_findWays_28 : decode cX12_findWays 28 = .ok (.goto 9, 3) := by decide +kernel
theorem dX12_findWays_31 : decode cX12_findWays 31 = .ok (.aload_n 0, 1) := by decide +kernel
theorem dX12_findWays_32 : decode cX12_findWays 32 = .ok (.getfield 78, 3) := by decide +kernel
theorem dX12_findWays_35 : decode cX12_findWays 35 = .ok (.iconst 0, 1) := by decide +kernel
theorem dX12_findWays_36 : decode cX12_findWays 36 = .ok (.laload, 1) := by decide +kernel
theorem dX12_findWays_37 : decode cX12_findWays 37 = .ok (.putfield 449, 3) := by decide +kernel
theorem dX12_findWays_40 : decode cX12_findWays 40 = .ok (.return_, 1) := by decide +kernel
theorem dX12_through_0 : decode cX12_through 0 = .ok (.aload_n 0, 1) := by decide +kernel
theorem dX12_through_1 : decode cX12_through 1 = .ok (.getfield 75, 3) := by decide +kernel
theorem dX12_through_4 : decode cX12_through 4 = .ok (.bipush 20, 2) := by decide +kernel
theorem dX12_through_6 : decode cX12_through 6 = .ok (.iload_n 1, 1) := by decide +kernel
theorem dX12_through_7 : decode cX12_through 7 = .ok (.imul, 1) := by decide +kernel
theorem dX12_through_8 : decode cX12_through 8 = .ok (.iload_n 2, 1) := by decide +kernel
theorem dX12_through_9 : decode cX12_through 9 = .ok (.iadd, 1) := by decide +kernel
theorem dX12_through_10 : decode cX12_through 10 = .ok (.laload, 1) := by decide +kernel
theorem dX12_through_11 : decode cX12_through 11 = .ok (.aload_n 0, 1) := by decide +kernel
theorem dX12_through_12 : decode cX12_through 12 = .ok (.getfield 78, 3) := by decide +kernel
theorem dX12_through_15 : decode cX12_through 15 = .ok (.bipush 20, 2) := by decide +kernel
theorem dX12_through_17 : decode cX12_through 17 = .ok (.iload_n 1, 1) := by decide +kernel
theorem dX12_through_18 : decode cX12_through 18 = .ok (.imul, 1) := by decide +kernel
theorem dX12_through_19 : decode cX12_through 19 = .ok (.iload_n 2, 1) := by decide +kernel
theorem dX12_through_20 : decode cX12_through 20 = .ok (.iadd, 1) := by decide +kernel
theorem dX12_through_21 : decode cX12_through 21 = .ok (.laload, 1) := by decide +kernel
theorem dX12_through_22 : decode cX12_through 22 = .ok (.lmul, 1) := by decide +kernel
theorem dX12_through_23 : decode cX12_through 23 = .ok (.lreturn, 1) := by decide +kernel
theorem dX12_sureOf_0 : decode cX12_sureOf 0 = .ok (.iconst 0, 1) := by decide +kernel
theorem dX12_sureOf_1 : decode cX12_sureOf 1 = .ok (.istore_n 2, 1) := by decide +kernel
theorem dX12_sureOf_2 : decode cX12_sureOf 2 = .ok (.iload_n 2, 1) := by decide +kernel
theorem dX12_sureOf_3 : decode cX12_sureOf 3 = .ok (.aload_n 0, 1) := by decide +kernel
theorem dX12_sureOf_4 : decode cX12_sureOf 4 = .ok (.getfield 276, 3) := by decide +kernel
theorem dX12_sureOf_7 : decode cX12_sureOf 7 = .ok (.if_icmp .ge 34, 3) := by decide +kernel
theorem dX12_sureOf_10 : decode cX12_sureOf 10 = .ok (.aload_n 0, 1) := by decide +kernel
theorem dX12_sureOf_11 : decode cX12_sureOf 11 = .ok (.getfield 449, 3) := by decide +kernel
theorem dX12_sureOf_14 : decode cX12_sureOf 14 = .ok (.lconst 0, 1) := by decide +kernel
theorem dX12_sureOf_15 : decode cX12_sureOf 15 = .ok (.lcmp, 1) := by decide +kernel
theorem dX12_sureOf_16 : decode cX12_sureOf 16 = .ok (.ifCond .le 25, 3) := by decide +kernel
theorem dX12_sureOf_19 : decode cX12_sureOf 19 = .ok (.aload_n 0, 1) := by decide +kernel
theorem dX12_sureOf_20 : decode cX12_sureOf 20 = .ok (.iload_n 1, 1) := by decide +kernel
theorem dX12_sureOf_21 : decode cX12_sureOf 21 = .ok (.iload_n 2, 1) := by decide +kernel
theorem dX12_sureOf_22 : decode cX12_sureOf 22 = .ok (.invokevirtual 452, 3) := by decide +kernel
theorem dX12_sureOf_25 : decode cX12_sureOf 25 = .ok (.aload_n 0, 1) := by decide +kernel
theorem dX12_sureOf_26 : decode cX12_sureOf 26 = .ok (.getfield 449, 3) := by decide +kernel
theorem dX12_sureOf_29 : decode cX12_sureOf 29 = .ok (.lcmp, 1) := by decide +kernel
theorem dX12_sureOf_30 : decode cX12_sureOf 30 = .ok (.ifCond .ne 5, 3) := by decide +kernel
theorem dX12_sureOf_33 : decode cX12_sureOf 33 = .ok (.iload_n 2, 1) := by decide +kernel
theorem dX12_sureOf_34 : decode cX12_sureOf 34 = .ok (.ireturn, 1) := by decide +kernel
theorem dX12_sureOf_35 : decode cX12_sureOf 35 = .ok (.iinc 2 1, 3) := by decide +kernel
theorem dX12_sureOf_38 : decode cX12_sureOf 38 = .ok (.goto (-36), 3) := by decide +kernel
theorem dX12_sureOf_41 : decode cX12_sureOf 41 = .ok (.iconst (-1), 1) := by decide +kernel
theorem dX12_sureOf_42 : decode cX12_sureOf 42 = .ok (.ireturn, 1) := by decide +kernel
theorem dX12_firstAt_0 : decode cX12_firstAt 0 = .ok (.aload_n 0, 1) := by decide +kernel
theorem dX12_firstAt_1 : decode cX12_firstAt 1 = .ok (.getfield 449, 3) := by decide +kernel
theorem dX12_firstAt_4 : decode cX12_firstAt 4 = .ok (.lconst 0, 1) := by decide +kernel
theorem dX12_firstAt_5 : decode cX12_firstAt 5 = .ok (.lcmp, 1) := by decide +kernel
theorem dX12_firstAt_6 : decode cX12_firstAt 6 = .ok (.ifCond .ne 7, 3) := by decide +kernel
theorem dX12_firstAt_9 : decode cX12_firstAt 9 = .ok (.iconst (-1), 1) := by decide +kernel
theorem dX12_firstAt_10 : decode cX12_firstAt 10 = .ok (.goto 4, 3) := by decide +kernel
theorem dX12_firstAt_13 : decode cX12_firstAt 13 = .ok (.iconst 0, 1) := by decide +kernel
theorem dX12_firstAt_14 : decode cX12_firstAt 14 = .ok (.istore_n 2, 1) := by decide +kernel
theorem dX12_firstAt_15 : decode cX12_firstAt 15 = .ok (.iconst 1, 1) := by decide +kernel
theorem dX12_firstAt_16 : decode cX12_firstAt 16 = .ok (.istore_n 3, 1) := by decide +kernel
theorem dX12_firstAt_17 : decode cX12_firstAt 17 = .ok (.iload_n 3, 1) := by decide +kernel
theorem dX12_firstAt_18 : decode cX12_firstAt 18 = .ok (.iload_n 1, 1) := by decide +kernel
theorem dX12_firstAt_19 : decode cX12_firstAt 19 = .ok (.if_icmp .gt 88, 3) := by decide +kernel
theorem dX12_firstAt_22 : decode cX12_firstAt 22 = .ok (.iload_n 2, 1) := by decide +kernel
theorem dX12_firstAt_23 : decode cX12_firstAt 23 = .ok (.iconst (-1), 1) := by decide +kernel
theorem dX12_firstAt_24 : decode cX12_firstAt 24 = .ok (.if_icmp .eq 83, 3) := by decide +kernel
theorem dX12_firstAt_27 : decode cX12_firstAt 27 = .ok (.iconst (-1), 1) := by decide +kernel
theorem dX12_firstAt_28 : decode cX12_firstAt 28 = .ok (.istore 4, 2) := by decide +kernel
theorem dX12_firstAt_30 : decode cX12_firstAt 30 = .ok (.iconst 0, 1) := by decide +kernel
theorem dX12_firstAt_31 : decode cX12_firstAt 31 = .ok (.istore 5, 2) := by decide +kernel
theorem dX12_firstAt_33 : decode cX12_firstAt 33 = .ok (.iload 5, 2) := by decide +kernel
theorem dX12_firstAt_35 : decode cX12_firstAt 35 = .ok (.aload_n 0, 1) := by decide +kernel
theorem dX12_firstAt_36 : decode cX12_firstAt 36 = .ok (.getfield 47, 3) := by decide +kernel
theorem dX12_firstAt_39 : decode cX12_firstAt 39 = .ok (.iload_n 2, 1) := by decide +kernel
theorem dX12_firstAt_40 : decode cX12_firstAt 40 = .ok (.iaload, 1) := by decide +kernel
theorem dX12_firstAt_41 : decode cX12_firstAt 41 = .ok (.if_icmp .ge 57, 3) := by decide +kernel
theorem dX12_firstAt_44 : decode cX12_firstAt 44 = .ok (.aload_n 0, 1) := by decide +kernel
theorem dX12_firstAt_45 : decode cX12_firstAt 45 = .ok (.iload_n 2, 1) := by decide +kernel
theorem dX12_firstAt_46 : decode cX12_firstAt 46 = .ok (.iload 5, 2) := by decide +kernel
theorem dX12_firstAt_48 : decode cX12_firstAt 48 = .ok (.invokevirtual 297, 3) := by decide +kernel
theorem dX12_firstAt_51 : decode cX12_firstAt 51 = .ok (.istore 6, 2) := by decide +kernel
theorem dX12_firstAt_53 : decode cX12_firstAt 53 = .ok (.aload_n 0, 1) := by decide +kernel
theorem dX12_firstAt_54 : decode cX12_firstAt 54 = .ok (.getfield 78, 3) := by decide +kernel
theorem dX12_firstAt_57 : decode cX12_firstAt 57 = .ok (.bipush 20, 2) := by decide +kernel
theorem dX12_firstAt_59 : decode cX12_firstAt 59 = .ok (.iload_n 3, 1) := by decide +kernel
theorem dX12_firstAt_60 : decode cX12_firstAt 60 = .ok (.imul, 1) := by decide +kernel
theorem dX12_firstAt_61 : decode cX12_firstAt 61 = .ok (.iload 6, 2) := by decide +kernel
theorem dX12_firstAt_63 : decode cX12_firstAt 63 = .ok (.iadd, 1) := by decide +kernel
theorem dX12_firstAt_64 : decode cX12_firstAt 64 = .ok (.laload, 1) := by decide +kernel
theorem dX12_firstAt_65 : decode cX12_firstAt 65 = .ok (.lconst 0, 1) := by decide +kernel
theorem dX12_firstAt_66 : decode cX12_firstAt 66 = .ok (.lcmp, 1) := by decide +kernel
theorem dX12_firstAt_67 : decode cX12_firstAt 67 = .ok (.ifCond .le 21, 3) := by decide +kernel
theorem dX12_firstAt_70 : decode cX12_firstAt 70 = .ok (.iload 4, 2) := by decide +kernel
theorem dX12_firstAt_72 : decode cX12_firstAt 72 = .ok (.iconst (-1), 1) := by decide +kernel
theorem dX12_firstAt_73 : decode cX12_firstAt 73 = .ok (.if_icmp .eq 10, 3) := by decide +kernel
theorem dX12_firstAt_76 : decode cX12_firstAt 76 = .ok (.iload 6, 2) := by decide +kernel
theorem dX12_firstAt_78 : decode cX12_firstAt 78 = .ok (.iload 4, 2) := by decide +kernel
theorem dX12_firstAt_80 : decode cX12_firstAt 80 = .ok (.if_icmp .ge 8, 3) := by decide +kernel
theorem dX12_firstAt_83 : decode cX12_firstAt 83 = .ok (.iload 6, 2) := by decide +kernel
theorem dX12_firstAt_85 : decode cX12_firstAt 85 = .ok (.goto 5, 3) := by decide +kernel
theorem dX12_firstAt_88 : decode cX12_firstAt 88 = .ok (.iload 4, 2) := by decide +kernel
theorem dX12_firstAt_90 : decode cX12_firstAt 90 = .ok (.istore 4, 2) := by decide +kernel
theorem dX12_firstAt_92 : decode cX12_firstAt 92 = .ok (.iinc 5 1, 3) := by decide +kernel
theorem dX12_firstAt_95 : decode cX12_firstAt 95 = .ok (.goto (-62), 3) := by decide +kernel
theorem dX12_firstAt_98 : decode cX12_firstAt 98 = .ok (.iload 4, 2) := by decide +kernel
theorem dX12_firstAt_100 : decode cX12_firstAt 100 = .ok (.istore_n 2, 1) := by decide +kernel
theorem dX12_firstAt_101 : decode cX12_firstAt 101 = .ok (.iinc 3 1, 3) := by decide +kernel
theorem dX12_firstAt_104 : decode cX12_firstAt 104 = .ok (.goto (-87), 3) := by decide +kernel
theorem dX12_firstAt_107 : decode cX12_firstAt 107 = .ok (.iload_n 2, 1) := by decide +kernel
theorem dX12_firstAt_108 : decode cX12_firstAt 108 = .ok (.ireturn, 1) := by decide +kernel
theorem dX12_guess_0 : decode cX12_guess 0 = .ok (.iconst (-1), 1) := by decide +kernel
theorem dX12_guess_1 : decode cX12_guess 1 = .ok (.istore_n 1, 1) := by decide +kernel
theorem dX12_guess_2 : decode cX12_guess 2 = .ok (.lconst 0, 1) := by decide +kernel
theorem dX12_guess_3 : decode cX12_guess 3 = .ok (.lstore_n 2, 1) := by decide +kernel
theorem dX12_guess_4 : decode cX12_guess 4 = .ok (.iconst 0, 1) := by decide +kernel
theorem dX12_guess_5 : decode cX12_guess 5 = .ok (.istore 4, 2) := by decide +kernel
theorem dX12_guess_7 : decode cX12_guess 7 = .ok (.iload 4, 2) := by decide +kernel
theorem dX12_guess_9 : decode cX12_guess 9 = .ok (.aload_n 0, 1) := by decide +kernel
theorem dX12_guess_10 : decode cX12_guess 10 = .ok (.invokevirtual 434, 3) := by decide +kernel
theorem dX12_guess_13 : decode cX12_guess 13 = .ok (.if_icmp .ge 132, 3) := by decide +kernel
theorem dX12_guess_16 : decode cX12_guess 16 = .ok (.aload_n 0, 1) := by decide +kernel
theorem dX12_guess_17 : decode cX12_guess 17 = .ok (.getfield 449, 3) := by decide +kernel
theorem dX12_guess_20 : decode cX12_guess 20 = .ok (.lconst 0, 1) := by decide +kernel
theorem dX12_guess_21 : decode cX12_guess 21 = .ok (.lcmp, 1) := by decide +kernel
theorem dX12_guess_22 : decode cX12_guess 22 = .ok (.ifCond .le 123, 3) := by decide +kernel
theorem dX12_guess_25 : decode cX12_guess 25 = .ok (.lconst 0, 1) := by decide +kernel
theorem dX12_guess_26 : decode cX12_guess 26 = .ok (.lstore 5, 2) := by decide +kernel
theorem dX12_guess_28 : decode cX12_guess 28 = .ok (.iconst 0, 1) := by decide +kernel
theorem dX12_guess_29 : decode cX12_guess 29 = .ok (.istore 7, 2) := by decide +kernel
theorem dX12_guess_31 : decode cX12_guess 31 = .ok (.iload 7, 2) := by decide +kernel
theorem dX12_guess_33 : decode cX12_guess 33 = .ok (.bipush 6, 2) := by decide +kernel
theorem dX12_guess_35 : decode cX12_guess 35 = .ok (.if_icmp .ge 75, 3) := by decide +kernel
theorem dX12_guess_38 : decode cX12_guess 38 = .ok (.lconst 0, 1) := by decide +kernel
theorem dX12_guess_39 : decode cX12_guess 39 = .ok (.lstore 8, 2) := by decide +kernel
theorem dX12_guess_41 : decode cX12_guess 41 = .ok (.iconst 0, 1) := by decide +kernel
theorem dX12_guess_42 : decode cX12_guess 42 = .ok (.istore 10, 2) := by decide +kernel
theorem dX12_guess_44 : decode cX12_guess 44 = .ok (.iload 10, 2) := by decide +kernel
theorem dX12_guess_46 : decode cX12_guess 46 = .ok (.aload_n 0, 1) := by decide +kernel
theorem dX12_guess_47 : decode cX12_guess 47 = .ok (.getfield 276, 3) := by decide +kernel
theorem dX12_guess_50 : decode cX12_guess 50 = .ok (.if_icmp .ge 37, 3) := by decide +kernel
theorem dX12_guess_53 : decode cX12_guess 53 = .ok (.lload 8, 2) := by decide +kernel
theorem dX12_guess_55 : decode cX12_guess 55 = .ok (.aload_n 0, 1) := by decide +kernel
theorem dX12_guess_56 : decode cX12_guess 56 = .ok (.iload 10, 2) := by decide +kernel
theorem dX12_guess_58 : decode cX12_guess 58 = .ok (.invokevirtual 282, 3) := by decide +kernel
theorem dX12_guess_61 : decode cX12_guess 61 = .ok (.iload 7, 2) := by decide +kernel
theorem dX12_guess_63 : decode cX12_guess 63 = .ok (.if_icmp .ne 14, 3) := by decide +kernel
theorem dX12_guess_66 : decode cX12_guess 66 = .ok (.aload_n 0, 1) := by decide +kernel
theorem dX12_guess_67 : decode cX12_guess 67 = .ok (.iload 4, 2) := by decide +kernel
theorem dX12_guess_69 : decode cX12_guess 69 = .ok (.iload 10, 2) := by decide +kernel
theorem dX12_guess_71 : decode cX12_guess 71 = .ok (.invokevirtual 452, 3) := by decide +kernel
theorem dX12_guess_74 : decode cX12_guess 74 = .ok (.goto 4, 3) := by decide +kernel
theorem dX12_guess_77 : decode cX12_guess 77 = .ok (.lconst 0, 1) := by decide +kernel
theorem dX12_guess_78 : decode cX12_guess 78 = .ok (.ladd, 1) := by decide +kernel
theorem dX12_guess_79 : decode cX12_guess 79 = .ok (.lstore 8, 2) := by decide +kernel
theorem dX12_guess_81 : decode cX12_guess 81 = .ok (.iinc 10 1, 3) := by decide +kernel
theorem dX12_guess_84 : decode cX12_guess 84 = .ok (.goto (-40), 3) := by decide +kernel
theorem dX12_guess_87 : decode cX12_guess 87 = .ok (.lload 8, 2) := by decide +kernel
theorem dX12_guess_89 : decode cX12_guess 89 = .ok (.lload 5, 2) := by decide +kernel
theorem dX12_guess_91 : decode cX12_guess 91 = .ok (.lcmp, 1) := by decide +kernel
theorem dX12_guess_92 : decode cX12_guess 92 = .ok (.ifCond .le 8, 3) := by decide +kernel
theorem dX12_guess_95 : decode cX12_guess 95 = .ok (.lload 8, 2) := by decide +kernel
theorem dX12_guess_97 : decode cX12_guess 97 = .ok (.goto 5, 3) := by decide +kernel
theorem dX12_guess_100 : decode cX12_guess 100 = .ok (.lload 5, 2) := by decide +kernel
theorem dX12_guess_102 : decode cX12_guess 102 = .ok (.lstore 5, 2) := by decide +kernel
theorem dX12_guess_104 : decode cX12_guess 104 = .ok (.iinc 7 1, 3) := by decide +kernel
theorem dX12_guess_107 : decode cX12_guess 107 = .ok (.goto (-76), 3) := by decide +kernel
theorem dX12_guess_110 : decode cX12_guess 110 = .ok (.aload_n 0, 1) := by decide +kernel
theorem dX12_guess_111 : decode cX12_guess 111 = .ok (.iload 4, 2) := by decide +kernel
theorem dX12_guess_113 : decode cX12_guess 113 = .ok (.invokevirtual 437, 3) := by decide +kernel
theorem dX12_guess_116 : decode cX12_guess 116 = .ok (.bipush 6, 2) := by decide +kernel
theorem dX12_guess_118 : decode cX12_guess 118 = .ok (.if_icmp .ne 21, 3) := by decide +kernel
theorem dX12_guess_121 : decode cX12_guess 121 = .ok (.iload_n 1, 1) := by decide +kernel
theorem dX12_guess_122 : decode cX12_guess 122 = .ok (.iconst (-1), 1) := by decide +kernel
theorem dX12_guess_123 : decode cX12_guess 123 = .ok (.if_icmp .eq 10, 3) := by decide +kernel
theorem dX12_guess_126 : decode cX12_guess 126 = .ok (.lload 5, 2) := by decide +kernel
theorem dX12_guess_128 : decode cX12_guess 128 = .ok (.lload_n 2, 1) := by decide +kernel
theorem dX12_guess_129 : decode cX12_guess 129 = .ok (.lcmp, 1) := by decide +kernel
theorem dX12_guess_130 : decode cX12_guess 130 = .ok (.ifCond .ge 9, 3) := by decide +kernel
theorem dX12_guess_133 : decode cX12_guess 133 = .ok (.iload 4, 2) := by decide +kernel
theorem dX12_guess_135 : decode cX12_guess 135 = .ok (.istore_n 1, 1) := by decide +kernel
theorem dX12_guess_136 : decode cX12_guess 136 = .ok (.lload 5, 2) := by decide +kernel
theorem dX12_guess_138 : decode cX12_guess 138 = .ok (.lstore_n 2, 1) := by decide +kernel
theorem dX12_guess_139 : decode cX12_guess 139 = .ok (.iinc 4 1, 3) := by decide +kernel
theorem dX12_guess_142 : decode cX12_guess 142 = .ok (.goto (-135), 3) := by decide +kernel
theorem dX12_guess_145 : decode cX12_guess 145 = .ok (.iload_n 1, 1) := by decide +kernel
theorem dX12_guess_146 : decode cX12_guess 146 = .ok (.ireturn, 1) := by decide +kernel
theorem dX12_fits_0 : decode cX12_fits 0 = .ok (.aload_n 0, 1) := by decide +kernel
theorem dX12_fits_1 : decode cX12_fits 1 = .ok (.iconst 0, 1) := by decide +kernel
theorem dX12_fits_2 : decode cX12_fits 2 = .ok (.putfield 91, 3) := by decide +kernel
theorem dX12_fits_5 : decode cX12_fits 5 = .ok (.aload_n 0, 1) := by decide +kernel
theorem dX12_fits_6 : decode cX12_fits 6 = .ok (.iload_n 2, 1) := by decide +kernel
theorem dX12_fits_7 : decode cX12_fits 7 = .ok (.invokevirtual 431, 3) := by decide +kernel
theorem dX12_fits_10 : decode cX12_fits 10 = .ok (.ifCond .eq 11, 3) := by decide +kernel
theorem dX12_fits_13 : decode cX12_fits 13 = .ok (.aload_n 0, 1) := by decide +kernel
theorem dX12_fits_14 : decode cX12_fits 14 = .ok (.iload_n 1, 1) := by decide +kernel
theorem dX12_fits_15 : decode cX12_fits 15 = .ok (.invokevirtual 285, 3) := by decide +kernel
theorem dX12_fits_18 : decode cX12_fits 18 = .ok (.ifCond .ne 7, 3) := by decide +kernel
theorem dX12_fits_21 : decode cX12_fits 21 = .ok (.ldc2_w 456, 3) := by decide +kernel
theorem dX12_fits_24 : decode cX12_fits 24 = .ok (.lreturn, 1) := by decide +kernel
theorem dX12_fits_25 : decode cX12_fits 25 = .ok (.aload_n 0, 1) := by decide +kernel
theorem dX12_fits_26 : decode cX12_fits 26 = .ok (.invokevirtual 458, 3) := by decide +kernel
theorem dX12_fits_29 : decode cX12_fits 29 = .ok (.iload_n 3, 1) := by decide +kernel
theorem dX12_fits_30 : decode cX12_fits 30 = .ok (.bipush 10, 2) := by decide +kernel
theorem dX12_fits_32 : decode cX12_fits 32 = .ok (.bipush 9, 2) := by decide +kernel
theorem dX12_fits_34 : decode cX12_fits 34 = .ok (.aload_n 0, 1) := by decide +kernel
theorem dX12_fits_35 : decode cX12_fits 35 = .ok (.invokevirtual 434, 3) := by decide +kernel
theorem dX12_fits_38 : decode cX12_fits 38 = .ok (.iadd, 1) := by decide +kernel
theorem dX12_fits_39 : decode cX12_fits 39 = .ok (.invokestatic 107, 3) := by decide +kernel
theorem dX12_fits_42 : decode cX12_fits 42 = .ok (.ifCond .eq 13, 3) := by decide +kernel
theorem dX12_fits_45 : decode cX12_fits 45 = .ok (.aload_n 0, 1) := by decide +kernel
theorem dX12_fits_46 : decode cX12_fits 46 = .ok (.iload_n 3, 1) := by decide +kernel
theorem dX12_fits_47 : decode cX12_fits 47 = .ok (.bipush 10, 2) := by decide +kernel
theorem dX12_fits_49 : decode cX12_fits 49 = .ok (.isub, 1) := by decide +kernel
theorem dX12_fits_50 : decode cX12_fits 50 = .ok (.invokevirtual 461, 3) := by decide +kernel
theorem dX12_fits_53 : decode cX12_fits 53 = .ok (.i2l, 1) := by decide +kernel
theorem dX12_fits_54 : decode cX12_fits 54 = .ok (.lreturn, 1) := by decide +kernel
theorem dX12_fits_55 : decode cX12_fits 55 = .ok (.iload_n 3, 1) := by decide +kernel
theorem dX12_fits_56 : decode cX12_fits 56 = .ok (.bipush 30, 2) := by decide +kernel
theorem dX12_fits_58 : decode cX12_fits 58 = .ok (.bipush 29, 2) := by decide +kernel
theorem dX12_fits_60 : decode cX12_fits 60 = .ok (.aload_n 0, 1) := by decide +kernel
theorem dX12_fits_61 : decode cX12_fits 61 = .ok (.invokevirtual 434, 3) := by decide +kernel
theorem dX12_fits_64 : decode cX12_fits 64 = .ok (.iadd, 1) := by decide +kernel
theorem dX12_fits_65 : decode cX12_fits 65 = .ok (.invokestatic 107, 3) := by decide +kernel
theorem dX12_fits_68 : decode cX12_fits 68 = .ok (.ifCond .eq 13, 3) := by decide +kernel
theorem dX12_fits_71 : decode cX12_fits 71 = .ok (.aload_n 0, 1) := by decide +kernel
theorem dX12_fits_72 : decode cX12_fits 72 = .ok (.iload_n 3, 1) := by decide +kernel
theorem dX12_fits_73 : decode cX12_fits 73 = .ok (.bipush 30, 2) := by decide +kernel
theorem dX12_fits_75 : decode cX12_fits 75 = .ok (.isub, 1) := by decide +kernel
theorem dX12_fits_76 : decode cX12_fits 76 = .ok (.invokevirtual 464, 3) := by decide +kernel
theorem dX12_fits_79 : decode cX12_fits 79 = .ok (.i2l, 1) := by decide +kernel
theorem dX12_fits_80 : decode cX12_fits 80 = .ok (.lreturn, 1) := by decide +kernel
theorem dX12_fits_81 : decode cX12_fits 81 = .ok (.iload_n 3, 1) := by decide +kernel
theorem dX12_fits_82 : decode cX12_fits 82 = .ok (.iconst 1, 1) := by decide +kernel
theorem dX12_fits_83 : decode cX12_fits 83 = .ok (.if_icmp .ne 37, 3) := by decide +kernel
theorem dX12_fits_86 : decode cX12_fits 86 = .ok (.aload_n 0, 1) := by decide +kernel
theorem dX12_fits_87 : decode cX12_fits 87 = .ok (.getfield 449, 3) := by decide +kernel
theorem dX12_fits_90 : decode cX12_fits 90 = .ok (.lconst 0, 1) := by decide +kernel
theorem dX12_fits_91 : decode cX12_fits 91 = .ok (.lcmp, 1) := by decide +kernel
theorem dX12_fits_92 : decode cX12_fits 92 = .ok (.ifCond .ne 9, 3) := by decide +kernel
theorem dX12_fits_95 : decode cX12_fits 95 = .ok (.ldc2_w 389, 3) := by decide +kernel
theorem dX12_fits_98 : decode cX12_fits 98 = .ok (.goto 21, 3) := by decide +kernel
theorem dX12_fits_101 : decode cX12_fits 101 = .ok (.aload_n 0, 1) := by decide +kernel
theorem dX12_fits_102 : decode cX12_fits 102 = .ok (.invokevirtual 434, 3) := by decide +kernel
theorem dX12_fits_105 : decode cX12_fits 105 = .ok (.ifCond .ne 7, 3) := by decide +kernel
theorem dX12_fits_108 : decode cX12_fits 108 = .ok (.lconst 0, 1) := by decide +kernel
theorem dX12_fits_109 : decode cX12_fits 109 = .ok (.goto 10, 3) := by decide +kernel
theorem dX12_fits_112 : decode cX12_fits 112 = .ok (.aload_n 0, 1) := by decide +kernel
theorem dX12_fits_113 : decode cX12_fits 113 = .ok (.getfield 81, 3) := by decide +kernel
theorem dX12_fits_116 : decode cX12_fits 116 = .ok (.iconst 0, 1) := by decide +kernel
theorem dX12_fits_117 : decode cX12_fits 117 = .ok (.iaload, 1) := by decide +kernel
theorem dX12_fits_118 : decode cX12_fits 118 = .ok (.i2l, 1) := by decide +kernel
theorem dX12_fits_119 : decode cX12_fits 119 = .ok (.lreturn, 1) := by decide +kernel
theorem dX12_fits_120 : decode cX12_fits 120 = .ok (.iload_n 3, 1) := by decide +kernel
theorem dX12_fits_121 : decode cX12_fits 121 = .ok (.ifCond .ne 10, 3) := by decide +kernel
theorem dX12_fits_124 : decode cX12_fits 124 = .ok (.aload_n 0, 1) := by decide +kernel
theorem dX12_fits_125 : decode cX12_fits 125 = .ok (.getfield 449, 3) := by decide +kernel
theorem dX12_fits_128 : decode cX12_fits 128 = .ok (.goto 19, 3) := by decide +kernel
theorem dX12_fits_131 : decode cX12_fits 131 = .ok (.iload_n 3, 1) := by decide +kernel
theorem dX12_fits_132 : decode cX12_fits 132 = .ok (.iconst 2, 1) := by decide +kernel
theorem dX12_fits_133 : decode cX12_fits 133 = .ok (.if_icmp .ne 11, 3) := by decide +kernel
theorem dX12_fits_136 : decode cX12_fits 136 = .ok (.aload_n 0, 1) := by decide +kernel
theorem dX12_fits_137 : decode cX12_fits 137 = .ok (.invokevirtual 467, 3) := by decide +kernel
theorem dX12_fits_140 : decode cX12_fits 140 = .ok (.i2l, 1) := by decide +kernel
theorem dX12_fits_141 : decode cX12_fits 141 = .ok (.goto 6, 3) := by decide +kernel
theorem dX12_fits_144 : decode cX12_fits 144 = .ok (.ldc2_w 456, 3) := by decide +kernel
theorem dX12_fits_147 : decode cX12_fits 147 = .ok (.lreturn, 1) := by decide +kernel
theorem dX12_townOf_0 : decode cX12_townOf 0 = .ok (.aload_n 0, 1) := by decide +kernel
theorem dX12_townOf_1 : decode cX12_townOf 1 = .ok (.getfield 35, 3) := by decide +kernel
theorem dX12_townOf_4 : decode cX12_townOf 4 = .ok (.bipush 27, 2) := by decide +kernel
theorem dX12_townOf_6 : decode cX12_townOf 6 = .ok (.aload_n 0, 1) := by decide +kernel
theorem dX12_townOf_7 : decode cX12_townOf 7 = .ok (.getfield 470, 3) := by decide +kernel
theorem dX12_townOf_10 : decode cX12_townOf 10 = .ok (.imul, 1) := by decide +kernel
theorem dX12_townOf_11 : decode cX12_townOf 11 = .ok (.iload_n 1, 1) := by decide +kernel
theorem dX12_townOf_12 : decode cX12_townOf 12 = .ok (.iadd, 1) := by decide +kernel
theorem dX12_townOf_13 : decode cX12_townOf 13 = .ok (.iaload, 1) := by decide +kernel
theorem dX12_townOf_14 : decode cX12_townOf 14 = .ok (.ireturn, 1) := by decide +kernel
theorem dX12_between_0 : decode cX12_between 0 = .ok (.iconst 0, 1) := by decide +kernel
theorem dX12_between_1 : decode cX12_between 1 = .ok (.istore_n 3, 1) := by decide +kernel
theorem dX12_between_2 : decode cX12_between 2 = .ok (.iload_n 1, 1) := by decide +kernel
theorem dX12_between_3 : decode cX12_between 3 = .ok (.iload_n 2, 1) := by decide +kernel
theorem dX12_between_4 : decode cX12_between 4 = .ok (.invokestatic 365, 3) := by decide +kernel
theorem dX12_between_7 : decode cX12_between 7 = .ok (.istore 4, 2) := by decide +kernel
theorem dX12_between_9 : decode cX12_between 9 = .ok (.iload 4, 2) := by decide +kernel
theorem dX12_between_11 : decode cX12_between 11 = .ok (.iload_n 1, 1) := by decide +kernel
theorem dX12_between_12 : decode cX12_between 12 = .ok (.iload_n 2, 1) := by decide +kernel
theorem dX12_between_13 : decode cX12_between 13 = .ok (.invokestatic 168, 3) := by decide +kernel
theorem dX12_between_16 : decode cX12_between 16 = .ok (.if_icmp .ge 20, 3) := by decide +kernel
theorem dX12_between_19 : decode cX12_between 19 = .ok (.iload_n 3, 1) := by decide +kernel
theorem dX12_between_20 : decode cX12_between 20 = .ok (.aload_n 0, 1) := by decide +kernel
theorem dX12_between_21 : decode cX12_between 21 = .ok (.iconst 1, 1) := by decide +kernel
theorem dX12_between_22 : decode cX12_between 22 = .ok (.iload 4, 2) := by decide +kernel
theorem dX12_between_24 : decode cX12_between 24 = .ok (.iadd, 1) := by decide +kernel
theorem dX12_between_25 : decode cX12_between 25 = .ok (.invokevirtual 473, 3) := by decide +kernel
theorem dX12_between_28 : decode cX12_between 28 = .ok (.iadd, 1) := by decide +kernel
theorem dX12_between_29 : decode cX12_between 29 = .ok (.istore_n 3, 1) := by decide +kernel
theorem dX12_between_30 : decode cX12_between 30 = .ok (.iinc 4 1, 3) := by decide +kernel
theorem dX12_between_33 : decode cX12_between 33 = .ok (.goto (-24), 3) := by decide +kernel
theorem dX12_between_36 : decode cX12_between 36 = .ok (.iload_n 3, 1) := by decide +kernel
theorem dX12_between_37 : decode cX12_between 37 = .ok (.ireturn, 1) := by decide +kernel
theorem dX12_isHeardIn_0 : decode cX12_isHeardIn 0 = .ok (.aload_n 0, 1) := by decide +kernel
theorem dX12_isHeardIn_1 : decode cX12_isHeardIn 1 = .ok (.iload_n 1, 1) := by decide +kernel
theorem dX12_isHeardIn_2 : decode cX12_isHeardIn 2 = .ok (.iload_n 2, 1) := by decide +kernel
theorem dX12_isHeardIn_3 : decode cX12_isHeardIn 3 = .ok (.invokevirtual 476, 3) := by decide +kernel
theorem dX12_isHeardIn_6 : decode cX12_isHeardIn 6 = .ok (.aload_n 0, 1) := by decide +kernel
theorem dX12_isHeardIn_7 : decode cX12_isHeardIn 7 = .ok (.bipush 18, 2) := by decide +kernel
theorem dX12_isHeardIn_9 : decode cX12_isHeardIn 9 = .ok (.iload_n 1, 1) := by decide +kernel
theorem dX12_isHeardIn_10 : decode cX12_isHeardIn 10 = .ok (.iadd, 1) := by decide +kernel
theorem dX12_isHeardIn_11 : decode cX12_isHeardIn 11 = .ok (.invokevirtual 473, 3) := by decide +kernel
theorem dX12_isHeardIn_14 : decode cX12_isHeardIn 14 = .ok (.if_icmp .ge 7, 3) := by decide +kernel
theorem dX12_isHeardIn_17 : decode cX12_isHeardIn 17 = .ok (.iconst 1, 1) := by decide +kernel
theorem dX12_isHeardIn_18 : decode cX12_isHeardIn 18 = .ok (.goto 4, 3) := by decide +kernel
theorem dX12_isHeardIn_21 : decode cX12_isHeardIn 21 = .ok (.iconst 0, 1) := by decide +kernel
theorem dX12_isHeardIn_22 : decode cX12_isHeardIn 22 = .ok (.ireturn, 1) := by decide +kernel
theorem dX12_heardIn_0 : decode cX12_heardIn 0 = .ok (.iconst 0, 1) := by decide +kernel
theorem dX12_heardIn_1 : decode cX12_heardIn 1 = .ok (.istore_n 2, 1) := by decide +kernel
theorem dX12_heardIn_2 : decode cX12_heardIn 2 = .ok (.iconst 0, 1) := by decide +kernel
theorem dX12_heardIn_3 : decode cX12_heardIn 3 = .ok (.istore_n 3, 1) := by decide +kernel
theorem dX12_heardIn_4 : decode cX12_heardIn 4 = .ok (.iload_n 3, 1) := by decide +kernel
theorem dX12_heardIn_5 : decode cX12_heardIn 5 = .ok (.aload_n 0, 1) := by decide +kernel
theorem dX12_heardIn_6 : decode cX12_heardIn 6 = .ok (.getfield 479, 3) := by decide +kernel
theorem dX12_heardIn_9 : decode cX12_heardIn 9 = .ok (.if_icmp .ge 28, 3) := by decide +kernel
theorem dX12_heardIn_12 : decode cX12_heardIn 12 = .ok (.iload_n 2, 1) := by decide +kernel
theorem dX12_heardIn_13 : decode cX12_heardIn 13 = .ok (.aload_n 0, 1) := by decide +kernel
theorem dX12_heardIn_14 : decode cX12_heardIn 14 = .ok (.iload_n 1, 1) := by decide +kernel
theorem dX12_heardIn_15 : decode cX12_heardIn 15 = .ok (.iload_n 3, 1) := by decide +kernel
theorem dX12_heardIn_16 : decode cX12_heardIn 16 = .ok (.invokevirtual 482, 3) := by decide +kernel
theorem dX12_heardIn_19 : decode cX12_heardIn 19 = .ok (.ifCond .eq 9, 3) := by decide +kernel
theorem dX12_heardIn_22 : decode cX12_heardIn 22 = .ok (.iconst 1, 1) := by decide +kernel
theorem dX12_heardIn_23 : decode cX12_heardIn 23 = .ok (.iload_n 3, 1) := by decide +kernel
theorem dX12_heardIn_24 : decode cX12_heardIn 24 = .ok (.ishl, 1) := by decide +kernel
theorem dX12_heardIn_25 : decode cX12_heardIn 25 = .ok (.goto 4, 3) := by decide +kernel
theorem dX12_heardIn_28 : decode cX12_heardIn 28 = .ok (.iconst 0, 1) := by decide +kernel
theorem dX12_heardIn_29 : decode cX12_heardIn 29 = .ok (.ior, 1) := by decide +kernel
theorem dX12_heardIn_30 : decode cX12_heardIn 30 = .ok (.istore_n 2, 1) := by decide +kernel
theorem dX12_heardIn_31 : decode cX12_heardIn 31 = .ok (.iinc 3 1, 3) := by decide +kernel
theorem dX12_heardIn_34 : decode cX12_heardIn 34 = .ok (.goto (-30), 3) := by decide +kernel
theorem dX12_heardIn_37 : decode cX12_heardIn 37 = .ok (.iload_n 2, 1) := by decide +kernel
theorem dX12_heardIn_38 : decode cX12_heardIn 38 = .ok (.ireturn, 1) := by decide +kernel
theorem dX12_othersIn_0 : decode cX12_othersIn 0 = .ok (.iconst 0, 1) := by decide +kernel
theorem dX12_othersIn_1 : decode cX12_othersIn 1 = .ok (.istore_n 2, 1) := by decide +kernel
theorem dX12_othersIn_2 : decode cX12_othersIn 2 = .ok (.iconst 0, 1) := by decide +kernel
theorem dX12_othersIn_3 : decode cX12_othersIn 3 = .ok (.istore_n 3, 1) := by decide +kernel
theorem dX12_othersIn_4 : decode cX12_othersIn 4 = .ok (.iload_n 3, 1) := by decide +kernel
theorem dX12_othersIn_5 : decode cX12_othersIn 5 = .ok (.aload_n 0, 1) := by decide +kernel
theorem dX12_othersIn_6 : decode cX12_othersIn 6 = .ok (.getfield 479, 3) := by decide +kernel
theorem dX12_othersIn_9 : decode cX12_othersIn 9 = .ok (.if_icmp .ge 31, 3) := by decide +kernel
theorem dX12_othersIn_12 : decode cX12_othersIn 12 = .ok (.iload_n 2, 1) := by decide +kernel
theorem dX12_othersIn_13 : decode cX12_othersIn 13 = .ok (.iload_n 3, 1) := by decide +kernel
theorem dX12_othersIn_14 : decode cX12_othersIn 14 = .ok (.iload_n 1, 1) := by decide +kernel
theorem dX12_othersIn_15 : decode cX12_othersIn 15 = .ok (.if_icmp .eq 16, 3) := by decide +kernel
theorem dX12_othersIn_18 : decode cX12_othersIn 18 = .ok (.aload_n 0, 1) := by decide +kernel
theorem dX12_othersIn_19 : decode cX12_othersIn 19 = .ok (.iload_n 3, 1) := by decide +kernel
theorem dX12_othersIn_20 : decode cX12_othersIn 20 = .ok (.iload_n 1, 1) := by decide +kernel
theorem dX12_othersIn_21 : decode cX12_othersIn 21 = .ok (.invokevirtual 482, 3) := by decide +kernel
theorem dX12_othersIn_24 : decode cX12_othersIn 24 = .ok (.ifCond .eq 7, 3) := by decide +kernel
theorem dX12_othersIn_27 : decode cX12_othersIn 27 = .ok (.iconst 1, 1) := by decide +kernel
theorem dX12_othersIn_28 : decode cX12_othersIn 28 = .ok (.goto 4, 3) := by decide +kernel
theorem dX12_othersIn_31 : decode cX12_othersIn 31 = .ok (.iconst 0, 1) := by decide +kernel
theorem dX12_othersIn_32 : decode cX12_othersIn 32 = .ok (.iadd, 1) := by decide +kernel
theorem dX12_othersIn_33 : decode cX12_othersIn 33 = .ok (.istore_n 2, 1) := by decide +kernel
theorem dX12_othersIn_34 : decode cX12_othersIn 34 = .ok (.iinc 3 1, 3) := by decide +kernel
theorem dX12_othersIn_37 : decode cX12_othersIn 37 = .ok (.goto (-33), 3) := by decide +kernel
theorem dX12_othersIn_40 : decode cX12_othersIn 40 = .ok (.iload_n 2, 1) := by decide +kernel
theorem dX12_othersIn_41 : decode cX12_othersIn 41 = .ok (.ireturn, 1) := by decide +kernel
theorem dX12_listen_0 : decode cX12_listen 0 = .ok (.iconst 0, 1) := by decide +kernel
theorem dX12_listen_1 : decode cX12_listen 1 = .ok (.istore_n 1, 1) := by decide +kernel
theorem dX12_listen_2 : decode cX12_listen 2 = .ok (.iconst 1, 1) := by decide +kernel
theorem dX12_listen_3 : decode cX12_listen 3 = .ok (.istore_n 2, 1) := by decide +kernel
theorem dX12_listen_4 : decode cX12_listen 4 = .ok (.iload_n 2, 1) := by decide +kernel
theorem dX12_listen_5 : decode cX12_listen 5 = .ok (.aload_n 0, 1) := by decide +kernel
theorem dX12_listen_6 : decode cX12_listen 6 = .ok (.getfield 479, 3) := by decide +kernel
theorem dX12_listen_9 : decode cX12_listen 9 = .ok (.if_icmp .ge 28, 3) := by decide +kernel
theorem dX12_listen_12 : decode cX12_listen 12 = .ok (.aload_n 0, 1) := by decide +kernel
theorem dX12_listen_13 : decode cX12_listen 13 = .ok (.iload_n 2, 1) := by decide +kernel
theorem dX12_listen_14 : decode cX12_listen 14 = .ok (.invokevirtual 485, 3) := by decide +kernel
theorem dX12_listen_17 : decode cX12_listen 17 = .ok (.aload_n 0, 1) := by decide +kernel
theorem dX12_listen_18 : decode cX12_listen 18 = .ok (.iload_n 1, 1) := by decide +kernel
theorem dX12_listen_19 : decode cX12_listen 19 = .ok (.invokevirtual 485, 3) := by decide +kernel
theorem dX12_listen_22 : decode cX12_listen 22 = .ok (.if_icmp .le 7, 3) := by decide +kernel
theorem dX12_listen_25 : decode cX12_listen 25 = .ok (.iload_n 2, 1) := by decide +kernel
theorem dX12_listen_26 : decode cX12_listen 26 = .ok (.goto 4, 3) := by decide +kernel
theorem dX12_listen_29 : decode cX12_listen 29 = .ok (.iload_n 1, 1) := by decide +kernel
theorem dX12_listen_30 : decode cX12_listen 30 = .ok (.istore_n 1, 1) := by decide +kernel
theorem dX12_listen_31 : decode cX12_listen 31 = .ok (.iinc 2 1, 3) := by decide +kernel
theorem dX12_listen_34 : decode cX12_listen 34 = .ok (.goto (-30), 3) := by decide +kernel
theorem dX12_listen_37 : decode cX12_listen 37 = .ok (.iload_n 1, 1) := by decide +kernel
theorem dX12_listen_38 : decode cX12_listen 38 = .ok (.ireturn, 1) := by decide +kernel
theorem dX12_guard_0 : decode cX12_guard 0 = .ok (.iconst (-1), 1) := by decide +kernel
theorem dX12_guard_1 : decode cX12_guard 1 = .ok (.istore_n 1, 1) := by decide +kernel
theorem dX12_guard_2 : decode cX12_guard 2 = .ok (.iconst 0, 1) := by decide +kernel
theorem dX12_guard_3 : decode cX12_guard 3 = .ok (.istore_n 2, 1) := by decide +kernel
theorem dX12_guard_4 : decode cX12_guard 4 = .ok (.iload_n 2, 1) := by decide +kernel
theorem dX12_guard_5 : decode cX12_guard 5 = .ok (.iconst 1, 1) := by decide +kernel
theorem dX12_guard_6 : decode cX12_guard 6 = .ok (.aload_n 0, 1) := by decide +kernel
theorem dX12_guard_7 : decode cX12_guard 7 = .ok (.getfield 479, 3) := by decide +kernel
theorem dX12_guard_10 : decode cX12_guard 10 = .ok (.ishl, 1) := by decide +kernel
theorem dX12_guard_11 : decode cX12_guard 11 = .ok (.if_icmp .ge 101, 3) := by decide +kernel
theorem dX12_guard_14 : decode cX12_guard 14 = .ok (.iload_n 1, 1) := by decide +kernel
theorem dX12_guard_15 : decode cX12_guard 15 = .ok (.iconst (-1), 1) := by decide +kernel
theorem dX12_guard_16 : decode cX12_guard 16 = .ok (.if_icmp .eq 14, 3) := by decide +kernel
theorem dX12_guard_19 : decode cX12_guard 19 = .ok (.iload_n 2, 1) := by decide +kernel
theorem dX12_guard_20 : decode cX12_guard 20 = .ok (.invokestatic 488, 3) := by decide +kernel
theorem dX12_guard_23 : decode cX12_guard 23 = .ok (.iload_n 1, 1) := by decide +kernel
theorem dX12_guard_24 : decode cX12_guard 24 = .ok (.invokestatic 488, 3) := by decide +kernel
theorem dX12_guard_27 : decode cX12_guard 27 = .ok (.if_icmp .ge 7, 3) := by decide +kernel
theorem dX12_guard_30 : decode cX12_guard 30 = .ok (.iconst 1, 1) := by decide +kernel
theorem dX12_guard_31 : decode cX12_guard 31 = .ok (.goto 4, 3) := by decide +kernel
theorem dX12_guard_34 : decode cX12_guard 34 = .ok (.iconst 0, 1) := by decide +kernel
theorem dX12_guard_35 : decode cX12_guard 35 = .ok (.istore_n 3, 1) := by decide +kernel
theorem dX12_guard_36 : decode cX12_guard 36 = .ok (.iconst 0, 1) := by decide +kernel
theorem dX12_guard_37 : decode cX12_guard 37 = .ok (.istore 4, 2) := by decide +kernel
theorem dX12_guard_39 : decode cX12_guard 39 = .ok (.iload 4, 2) := by decide +kernel
theorem dX12_guard_41 : decode cX12_guard 41 = .ok (.aload_n 0, 1) := by decide +kernel
theorem dX12_guard_42 : decode cX12_guard 42 = .ok (.getfield 479, 3) := by decide +kernel
theorem dX12_guard_45 : decode cX12_guard 45 = .ok (.if_icmp .ge 51, 3) := by decide +kernel
theorem dX12_guard_48 : decode cX12_guard 48 = .ok (.iload_n 3, 1) := by decide +kernel
theorem dX12_guard_49 : decode cX12_guard 49 = .ok (.ifCond .eq 47, 3) := by decide +kernel
theorem dX12_guard_52 : decode cX12_guard 52 = .ok (.iload_n 2, 1) := by decide +kernel
theorem dX12_guard_53 : decode cX12_guard 53 = .ok (.iload 4, 2) := by decide +kernel
theorem dX12_guard_55 : decode cX12_guard 55 = .ok (.invokestatic 95, 3) := by decide +kernel
theorem dX12_guard_58 : decode cX12_guard 58 = .ok (.ifCond .ne 26, 3) := by decide +kernel
theorem dX12_guard_61 : decode cX12_guard 61 = .ok (.aload_n 0, 1) := by decide +kernel
theorem dX12_guard_62 : decode cX12_guard 62 = .ok (.bipush 18, 2) := by decide +kernel
theorem dX12_guard_64 : decode cX12_guard 64 = .ok (.iload 4, 2) := by decide +kernel
theorem dX12_guard_66 : decode cX12_guard 66 = .ok (.iadd, 1) := by decide +kernel
theorem dX12_guard_67 : decode cX12_guard 67 = .ok (.invokevirtual 473, 3) := by decide +kernel
theorem dX12_guard_70 : decode cX12_guard 70 = .ok (.ifCond .eq 14, 3) := by decide +kernel
theorem dX12_guard_73 : decode cX12_guard 73 = .ok (.aload_n 0, 1) := by decide +kernel
theorem dX12_guard_74 : decode cX12_guard 74 = .ok (.iload 4, 2) := by decide +kernel
theorem dX12_guard_76 : decode cX12_guard 76 = .ok (.invokevirtual 491, 3) := by decide +kernel
theorem dX12_guard_79 : decode cX12_guard 79 = .ok (.iload_n 2, 1) := by decide +kernel
theorem dX12_guard_80 : decode cX12_guard 80 = .ok (.iand, 1) := by decide +kernel
theorem dX12_guard_81 : decode cX12_guard 81 = .ok (.ifCond .eq 7, 3) := by decide +kernel
theorem dX12_guard_84 : decode cX12_guard 84 = .ok (.iconst 1, 1) := by decide +kernel
theorem dX12_guard_85 : decode cX12_guard 85 = .ok (.goto 4, 3) := by decide +kernel
theorem dX12_guard_88 : decode cX12_guard 88 = .ok (.iconst 0, 1) := by decide +kernel
theorem dX12_guard_89 : decode cX12_guard 89 = .ok (.istore_n 3, 1) := by decide +kernel
theorem dX12_guard_90 : decode cX12_guard 90 = .ok (.iinc 4 1, 3) := by decide +kernel
theorem dX12_guard_93 : decode cX12_guard 93 = .ok (.goto (-54), 3) := by decide +kernel
theorem dX12_guard_96 : decode cX12_guard 96 = .ok (.iload_n 3, 1) := by decide +kernel
theorem dX12_guard_97 : decode cX12_guard 97 = .ok (.ifCond .eq 7, 3) := by decide +kernel
theorem dX12_guard_100 : decode cX12_guard 100 = .ok (.iload_n 2, 1) := by decide +kernel
theorem dX12_guard_101 : decode cX12_guard 101 = .ok (.goto 4, 3) := by decide +kernel
theorem dX12_guard_104 : decode cX12_guard 104 = .ok (.iload_n 1, 1) := by decide +kernel
theorem dX12_guard_105 : decode cX12_guard 105 = .ok (.istore_n 1, 1) := by decide +kernel
theorem dX12_guard_106 : decode cX12_guard 106 = .ok (.iinc 2 1, 3) := by decide +kernel
theorem dX12_guard_109 : decode cX12_guard 109 = .ok (.goto (-105), 3) := by decide +kernel
theorem dX12_guard_112 : decode cX12_guard 112 = .ok (.iload_n 1, 1) := by decide +kernel
theorem dX12_guard_113 : decode cX12_guard 113 = .ok (.ireturn, 1) := by decide +kernel
theorem dX12_wrong_0 : decode cX12_wrong 0 = .ok (.iconst 0, 1) := by decide +kernel
theorem dX12_wrong_1 : decode cX12_wrong 1 = .ok (.istore_n 1, 1) := by decide +kernel
theorem dX12_wrong_2 : decode cX12_wrong 2 = .ok (.iconst 0, 1) := by decide +kernel
theorem dX12_wrong_3 : decode cX12_wrong 3 = .ok (.istore_n 2, 1) := by decide +kernel
theorem dX12_wrong_4 : decode cX12_wrong 4 = .ok (.iload_n 2, 1) := by decide +kernel
theorem dX12_wrong_5 : decode cX12_wrong 5 = .ok (.aload_n 0, 1) := by decide +kernel
theorem dX12_wrong_6 : decode cX12_wrong 6 = .ok (.getfield 479, 3) := by decide +kernel
theorem dX12_wrong_9 : decode cX12_wrong 9 = .ok (.iconst 1, 1) := by decide +kernel
theorem dX12_wrong_10 : decode cX12_wrong 10 = .ok (.isub, 1) := by decide +kernel
theorem dX12_wrong_11 : decode cX12_wrong 11 = .ok (.if_icmp .ge 60, 3) := by decide +kernel
theorem dX12_wrong_14 : decode cX12_wrong 14 = .ok (.iload_n 1, 1) := by decide +kernel
theorem dX12_wrong_15 : decode cX12_wrong 15 = .ok (.aload_n 0, 1) := by decide +kernel
theorem dX12_wrong_16 : decode cX12_wrong 16 = .ok (.bipush 9, 2) := by decide +kernel
theorem dX12_wrong_18 : decode cX12_wrong 18 = .ok (.iload_n 2, 1) := by decide +kernel
theorem dX12_wrong_19 : decode cX12_wrong 19 = .ok (.iadd, 1) := by decide +kernel
theorem dX12_wrong_20 : decode cX12_wrong 20 = .ok (.invokevirtual 473, 3) := by decide +kernel
theorem dX12_wrong_23 : decode cX12_wrong 23 = .ok (.aload_n 0, 1) := by decide +kernel
theorem dX12_wrong_24 : decode cX12_wrong 24 = .ok (.bipush 9, 2) := by decide +kernel
theorem dX12_wrong_26 : decode cX12_wrong 26 = .ok (.iload_n 2, 1) := by decide +kernel
theorem dX12_wrong_27 : decode cX12_wrong 27 = .ok (.iadd, 1) := by decide +kernel
theorem dX12_wrong_28 : decode cX12_wrong 28 = .ok (.iconst 1, 1) := by decide +kernel
theorem dX12_wrong_29 : decode cX12_wrong 29 = .ok (.iadd, 1) := by decide +kernel
theorem dX12_wrong_30 : decode cX12_wrong 30 = .ok (.invokevirtual 473, 3) := by decide +kernel
theorem dX12_wrong_33 : decode cX12_wrong 33 = .ok (.if_icmp .eq 29, 3) := by decide +kernel
theorem dX12_wrong_36 : decode cX12_wrong 36 = .ok (.aload_n 0, 1) := by decide +kernel
theorem dX12_wrong_37 : decode cX12_wrong 37 = .ok (.iload_n 2, 1) := by decide +kernel
theorem dX12_wrong_38 : decode cX12_wrong 38 = .ok (.iload_n 2, 1) := by decide +kernel
theorem dX12_wrong_39 : decode cX12_wrong 39 = .ok (.iconst 1, 1) := by decide +kernel
theorem dX12_wrong_40 : decode cX12_wrong 40 = .ok (.iadd, 1) := by decide +kernel
theorem dX12_wrong_41 : decode cX12_wrong 41 = .ok (.invokevirtual 482, 3) := by decide +kernel
theorem dX12_wrong_44 : decode cX12_wrong 44 = .ok (.ifCond .eq 18, 3) := by decide +kernel
theorem dX12_wrong_47 : decode cX12_wrong 47 = .ok (.aload_n 0, 1) := by decide +kernel
theorem dX12_wrong_48 : decode cX12_wrong 48 = .ok (.iload_n 2, 1) := by decide +kernel
theorem dX12_wrong_49 : decode cX12_wrong 49 = .ok (.iconst 1, 1) := by decide +kernel
theorem dX12_wrong_50 : decode cX12_wrong 50 = .ok (.iadd, 1) := by decide +kernel
theorem dX12_wrong_51 : decode cX12_wrong 51 = .ok (.iload_n 2, 1) := by decide +kernel
theorem dX12_wrong_52 : decode cX12_wrong 52 = .ok (.invokevirtual 482, 3) := by decide +kernel
theorem dX12_wrong_55 : decode cX12_wrong 55 = .ok (.ifCond .eq 7, 3) := by decide +kernel
theorem dX12_wrong_58 : decode cX12_wrong 58 = .ok (.iconst 1, 1) := by decide +kernel
theorem dX12_wrong_59 : decode cX12_wrong 59 = .ok (.goto 4, 3) := by decide +kernel
theorem dX12_wrong_62 : decode cX12_wrong 62 = .ok (.iconst 0, 1) := by decide +kernel
theorem dX12_wrong_63 : decode cX12_wrong 63 = .ok (.iadd, 1) := by decide +kernel
theorem dX12_wrong_64 : decode cX12_wrong 64 = .ok (.istore_n 1, 1) := by decide +kernel
theorem dX12_wrong_65 : decode cX12_wrong 65 = .ok (.iinc 2 1, 3) := by decide +kernel
theorem dX12_wrong_68 : decode cX12_wrong 68 = .ok (.goto (-64), 3) := by decide +kernel
theorem dX12_wrong_71 : decode cX12_wrong 71 = .ok (.iload_n 1, 1) := by decide +kernel
theorem dX12_wrong_72 : decode cX12_wrong 72 = .ok (.ireturn, 1) := by decide +kernel
theorem dX12_hush_0 : decode cX12_hush 0 = .ok (.iconst 0, 1) := by decide +kernel
theorem dX12_hush_1 : decode cX12_hush 1 = .ok (.istore_n 1, 1) := by decide +kernel
theorem dX12_hush_2 : decode cX12_hush 2 = .ok (.iconst 0, 1) := by decide +kernel
theorem dX12_hush_3 : decode cX12_hush 3 = .ok (.istore_n 2, 1) := by decide +kernel
theorem dX12_hush_4 : decode cX12_hush 4 = .ok (.iload_n 2, 1) := by decide +kernel
theorem dX12_hush_5 : decode cX12_hush 5 = .ok (.aload_n 0, 1) := by decide +kernel
theorem dX12_hush_6 : decode cX12_hush 6 = .ok (.getfield 479, 3) := by decide +kernel
theorem dX12_hush_9 : decode cX12_hush 9 = .ok (.iconst 1, 1) := by decide +kernel
theorem dX12_hush_10 : decode cX12_hush 10 = .ok (.isub, 1) := by decide +kernel
theorem dX12_hush_11 : decode cX12_hush 11 = .ok (.if_icmp .ge 43, 3) := by decide +kernel
theorem dX12_hush_14 : decode cX12_hush 14 = .ok (.iload_n 1, 1) := by decide +kernel
theorem dX12_hush_15 : decode cX12_hush 15 = .ok (.aload_n 0, 1) := by decide +kernel
theorem dX12_hush_16 : decode cX12_hush 16 = .ok (.bipush 18, 2) := by decide +kernel
theorem dX12_hush_18 : decode cX12_hush 18 = .ok (.iload_n 2, 1) := by decide +kernel
theorem dX12_hush_19 : decode cX12_hush 19 = .ok (.iadd, 1) := by decide +kernel
theorem dX12_hush_20 : decode cX12_hush 20 = .ok (.invokevirtual 473, 3) := by decide +kernel
theorem dX12_hush_23 : decode cX12_hush 23 = .ok (.aload_n 0, 1) := by decide +kernel
theorem dX12_hush_24 : decode cX12_hush 24 = .ok (.bipush 18, 2) := by decide +kernel
theorem dX12_hush_26 : decode cX12_hush 26 = .ok (.iload_n 2, 1) := by decide +kernel
theorem dX12_hush_27 : decode cX12_hush 27 = .ok (.iadd, 1) := by decide +kernel
theorem dX12_hush_28 : decode cX12_hush 28 = .ok (.iconst 1, 1) := by decide +kernel
theorem dX12_hush_29 : decode cX12_hush 29 = .ok (.iadd, 1) := by decide +kernel
theorem dX12_hush_30 : decode cX12_hush 30 = .ok (.invokevirtual 473, 3) := by decide +kernel
theorem dX12_hush_33 : decode cX12_hush 33 = .ok (.invokestatic 168, 3) := by decide +kernel
theorem dX12_hush_36 : decode cX12_hush 36 = .ok (.aload_n 0, 1) := by decide +kernel
theorem dX12_hush_37 : decode cX12_hush 37 = .ok (.iconst 1, 1) := by decide +kernel
theorem dX12_hush_38 : decode cX12_hush 38 = .ok (.iload_n 2, 1) := by decide +kernel
theorem dX12_hush_39 : decode cX12_hush 39 = .ok (.iadd, 1) := by decide +kernel
theorem dX12_hush_40 : decode cX12_hush 40 = .ok (.invokevirtual 473, 3) := by decide +kernel
theorem dX12_hush_43 : decode cX12_hush 43 = .ok (.isub, 1) := by decide +kernel
theorem dX12_hush_44 : decode cX12_hush 44 = .ok (.invokestatic 168, 3) := by decide +kernel
theorem dX12_hush_47 : decode cX12_hush 47 = .ok (.istore_n 1, 1) := by decide +kernel
theorem dX12_hush_48 : decode cX12_hush 48 = .ok (.iinc 2 1, 3) := by decide +kernel
theorem dX12_hush_51 : decode cX12_hush 51 = .ok (.goto (-47), 3) := by decide +kernel
theorem dX12_hush_54 : decode cX12_hush 54 = .ok (.iload_n 1, 1) := by decide +kernel
theorem dX12_hush_55 : decode cX12_hush 55 = .ok (.ireturn, 1) := by decide +kernel
theorem dX12_ofHouse_0 : decode cX12_ofHouse 0 = .ok (.iload_n 1, 1) := by decide +kernel
theorem dX12_ofHouse_1 : decode cX12_ofHouse 1 = .ok (.tableswitch 67 1 3 #[27, 49, 58], 27) := by decide +kernel
theorem dX12_ofHouse_28 : decode cX12_ofHouse 28 = .ok (.iload_n 2, 1) := by decide +kernel
theorem dX12_ofHouse_29 : decode cX12_ofHouse 29 = .ok (.aload_n 0, 1) := by decide +kernel
theorem dX12_ofHouse_30 : decode cX12_ofHouse 30 = .ok (.getfield 479, 3) := by decide +kernel
theorem dX12_ofHouse_33 : decode cX12_ofHouse 33 = .ok (.iconst 1, 1) := by decide +kernel
theorem dX12_ofHouse_34 : decode cX12_ofHouse 34 = .ok (.isub, 1) := by decide +kernel
theorem dX12_ofHouse_35 : decode cX12_ofHouse 35 = .ok (.if_icmp .ge 13, 3) := by decide +kernel
theorem dX12_ofHouse_38 : decode cX12_ofHouse 38 = .ok (.aload_n 0, 1) := by decide +kernel
theorem dX12_ofHouse_39 : decode cX12_ofHouse 39 = .ok (.iconst 1, 1) := by decide +kernel
theorem dX12_ofHouse_40 : decode cX12_ofHouse 40 = .ok (.iload_n 2, 1) := by decide +kernel
theorem dX12_ofHouse_41 : decode cX12_ofHouse 41 = .ok (.iadd, 1) := by decide +kernel
theorem dX12_ofHouse_42 : decode cX12_ofHouse 42 = .ok (.invokevirtual 473, 3) := by decide +kernel
theorem dX12_ofHouse_45 : decode cX12_ofHouse 45 = .ok (.goto 4, 3) := by decide +kernel
theorem dX12_ofHouse_48 : decode cX12_ofHouse 48 = .ok (.iconst (-1), 1) := by decide +kernel
theorem dX12_ofHouse_49 : decode cX12_ofHouse 49 = .ok (.ireturn, 1) := by decide +kernel
theorem dX12_ofHouse_50 : decode cX12_ofHouse 50 = .ok (.aload_n 0, 1) := by decide +kernel
theorem dX12_ofHouse_51 : decode cX12_ofHouse 51 = .ok (.bipush 9, 2) := by decide +kernel
theorem dX12_ofHouse_53 : decode cX12_ofHouse 53 = .ok (.iload_n 2, 1) := by decide +kernel
theorem dX12_ofHouse_54 : decode cX12_ofHouse 54 = .ok (.iadd, 1) := by decide +kernel
theorem dX12_ofHouse_55 : decode cX12_ofHouse 55 = .ok (.invokevirtual 473, 3) := by decide +kernel
theorem dX12_ofHouse_58 : decode cX12_ofHouse 58 = .ok (.ireturn, 1) := by decide +kernel
theorem dX12_ofHouse_59 : decode cX12_ofHouse 59 = .ok (.aload_n 0, 1) := by decide +kernel
theorem dX12_ofHouse_60 : decode cX12_ofHouse 60 = .ok (.bipush 18, 2) := by decide +kernel
theorem dX12_ofHouse_62 : decode cX12_ofHouse 62 = .ok (.iload_n 2, 1) := by decide +kernel
theorem dX12_ofHouse_63 : decode cX12_ofHouse 63 = .ok (.iadd, 1) := by decide +kernel
theorem dX12_ofHouse_64 : decode cX12_ofHouse 64 = .ok (.invokevirtual 473, 3) := by decide +kernel
theorem dX12_ofHouse_67 : decode cX12_ofHouse 67 = .ok (.ireturn, 1) := by decide +kernel
theorem dX12_ofHouse_68 : decode cX12_ofHouse 68 = .ok (.aload_n 0, 1) := by decide +kernel
theorem dX12_ofHouse_69 : decode cX12_ofHouse 69 = .ok (.iload_n 2, 1) := by decide +kernel
theorem dX12_ofHouse_70 : decode cX12_ofHouse 70 = .ok (.invokevirtual 491, 3) := by decide +kernel
theorem dX12_ofHouse_73 : decode cX12_ofHouse 73 = .ok (.ireturn, 1) := by decide +kernel
theorem dX12_town_0 : decode cX12_town 0 = .ok (.aload_n 0, 1) := by decide +kernel
theorem dX12_town_1 : decode cX12_town 1 = .ok (.iconst 0, 1) := by decide +kernel
theorem dX12_town_2 : decode cX12_town 2 = .ok (.putfield 91, 3) := by decide +kernel
theorem dX12_town_5 : decode cX12_town 5 = .ok (.aload_n 0, 1) := by decide +kernel
theorem dX12_town_6 : decode cX12_town 6 = .ok (.iload_n 1, 1) := by decide +kernel
theorem dX12_town_7 : decode cX12_town 7 = .ok (.putfield 470, 3) := by decide +kernel
theorem dX12_town_10 : decode cX12_town 10 = .ok (.aload_n 0, 1) := by decide +kernel
theorem dX12_town_11 : decode cX12_town 11 = .ok (.iconst 3, 1) := by decide +kernel
theorem dX12_town_12 : decode cX12_town 12 = .ok (.iload_n 1, 1) := by decide +kernel
theorem dX12_town_13 : decode cX12_town 13 = .ok (.invokevirtual 260, 3) := by decide +kernel
theorem dX12_town_16 : decode cX12_town 16 = .ok (.ifCond .ne 5, 3) := by decide +kernel
theorem dX12_town_19 : decode cX12_town 19 = .ok (.iconst (-1), 1) := by decide +kernel
theorem dX12_town_20 : decode cX12_town 20 = .ok (.ireturn, 1) := by decide +kernel
theorem dX12_town_21 : decode cX12_town 21 = .ok (.aload_n 0, 1) := by decide +kernel
theorem dX12_town_22 : decode cX12_town 22 = .ok (.aload_n 0, 1) := by decide +kernel
theorem dX12_town_23 : decode cX12_town 23 = .ok (.iconst 0, 1) := by decide +kernel
theorem dX12_town_24 : decode cX12_town 24 = .ok (.invokevirtual 473, 3) := by decide +kernel
theorem dX12_town_27 : decode cX12_town 27 = .ok (.putfield 479, 3) := by decide +kernel
theorem dX12_town_30 : decode cX12_town 30 = .ok (.iload_n 2, 1) := by decide +kernel
theorem dX12_town_31 : decode cX12_town 31 = .ok (.bipush 10, 2) := by decide +kernel
theorem dX12_town_33 : decode cX12_town 33 = .ok (.bipush 49, 2) := by decide +kernel
theorem dX12_town_35 : decode cX12_town 35 = .ok (.invokestatic 107, 3) := by decide +kernel
theorem dX12_town_38 : decode cX12_town 38 = .ok (.ifCond .eq 31, 3) := by decide +kernel
theorem dX12_town_41 : decode cX12_town 41 = .ok (.iload_n 2, 1) := by decide +kernel
theorem dX12_town_42 : decode cX12_town 42 = .ok (.bipush 10, 2) := by decide +kernel
theorem dX12_town_44 : decode cX12_town 44 = .ok (.irem, 1) := by decide +kernel
theorem dX12_town_45 : decode cX12_town 45 = .ok (.aload_n 0, 1) := by decide +kernel
theorem dX12_town_46 : decode cX12_town 46 = .ok (.getfield 479, 3) := by decide +kernel
theorem dX12_town_49 : decode cX12_town 49 = .ok (.if_icmp .ge 18, 3) := by decide +kernel
theorem dX12_town_52 : decode cX12_town 52 = .ok (.aload_n 0, 1) := by decide +kernel
theorem dX12_town_53 : decode cX12_town 53 = .ok (.iload_n 2, 1) := by decide +kernel
theorem dX12_town_54 : decode cX12_town 54 = .ok (.bipush 10, 2) := by decide +kernel
theorem dX12_town_56 : decode cX12_town 56 = .ok (.idiv, 1) := by decide +kernel
theorem dX12_town_57 : decode cX12_town 57 = .ok (.iload_n 2, 1) := by decide +kernel
theorem dX12_town_58 : decode cX12_town 58 = .ok (.bipush 10, 2) := by decide +kernel
theorem dX12_town_60 : decode cX12_town 60 = .ok (.irem, 1) := by decide +kernel
theorem dX12_town_61 : decode cX12_town 61 = .ok (.invokevirtual 494, 3) := by decide +kernel
theorem dX12_town_64 : decode cX12_town 64 = .ok (.goto 4, 3) := by decide +kernel
theorem dX12_town_67 : decode cX12_town 67 = .ok (.iconst (-1), 1) := by decide +kernel
theorem dX12_town_68 : decode cX12_town 68 = .ok (.ireturn, 1) := by decide +kernel
theorem dX12_town_69 : decode cX12_town 69 = .ok (.iload_n 2, 1) := by decide +kernel
theorem dX12_town_70 : decode cX12_town 70 = .ok (.tableswitch 72 0 5 #[38, 43, 48, 57, 62, 67], 38) := by decide +kernel
theorem dX12_town_108 : decode cX12_town 108 = .ok (.aload_n 0, 1) := by decide +kernel
theorem dX12_town_109 : decode cX12_town 109 = .ok (.getfield 479, 3) := by decide +kernel
theorem dX12_town_112 : decode cX12_town 112 = .ok (.ireturn, 1) := by decide +kernel
theorem dX12_town_113 : decode cX12_town 113 = .ok (.aload_n 0, 1) := by decide +kernel
theorem dX12_town_114 : decode cX12_town 114 = .ok (.invokevirtual 497, 3) := by decide +kernel
theorem dX12_town_117 : decode cX12_town 117 = .ok (.ireturn, 1) := by decide +kernel
theorem dX12_town_118 : decode cX12_town 118 = .ok (.aload_n 0, 1) := by decide +kernel
theorem dX12_town_119 : decode cX12_town 119 = .ok (.aload_n 0, 1) := by decide +kernel
theorem dX12_town_120 : decode cX12_town 120 = .ok (.invokevirtual 497, 3) := by decide +kernel
theorem dX12_town_123 : decode cX12_town 123 = .ok (.invokevirtual 485, 3) := by decide +kernel
theorem dX12_town_126 : decode cX12_town 126 = .ok (.ireturn, 1) := by decide +kernel
theorem dX12_town_127 : decode cX12_town 127 = .ok (.aload_n 0, 1) := by decide +kernel
theorem dX12_town_128 : decode cX12_town 128 = .ok (.invokevirtual 500, 3) := by decide +kernel
theorem dX12_town_131 : decode cX12_town 131 = .ok (.ireturn, 1) := by decide +kernel
theorem dX12_town_132 : decode cX12_town 132 = .ok (.aload_n 0, 1) := by decide +kernel
theorem dX12_town_133 : decode cX12_town 133 = .ok (.invokevirtual 503, 3) := by decide +kernel
theorem dX12_town_136 : decode cX12_town 136 = .ok (.ireturn, 1) := by decide +kernel
theorem dX12_town_137 : decode cX12_town 137 = .ok (.aload_n 0, 1) := by decide +kernel
theorem dX12_town_138 : decode cX12_town 138 = .ok (.invokevirtual 506, 3) := by decide +kernel
theorem dX12_town_141 : decode cX12_town 141 = .ok (.ireturn, 1) := by decide +kernel
theorem dX12_town_142 : decode cX12_town 142 = .ok (.iconst (-1), 1) := by decide +kernel
