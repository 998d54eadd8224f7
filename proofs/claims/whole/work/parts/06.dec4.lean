theorem dX8_readTree_55 : decode cX8_readTree 55 = .ok (.iconst 0, 1) := by decide +kernel
theorem dX8_readTree_56 : decode cX8_readTree 56 = .ok (.istore_n 1, 1) := by decide +kernel
theorem dX8_readTree_57 : decode cX8_readTree 57 = .ok (.goto (-35), 3) := by decide +kernel
theorem dX8_readTree_60 : decode cX8_readTree 60 = .ok (.aload_n 0, 1) := by decide +kernel
theorem dX8_readTree_61 : decode cX8_readTree 61 = .ok (.getfield 259, 3) := by decide +kernel
theorem dX8_readTree_64 : decode cX8_readTree 64 = .ok (.ifCond .ne 7, 3) := by decide +kernel
theorem dX8_readTree_67 : decode cX8_readTree 67 = .ok (.iconst 1, 1) := by decide +kernel
theorem dX8_readTree_68 : decode cX8_readTree 68 = .ok (.goto 4, 3) := by decide +kernel
theorem dX8_readTree_71 : decode cX8_readTree 71 = .ok (.iconst 0, 1) := by decide +kernel
theorem dX8_readTree_72 : decode cX8_readTree 72 = .ok (.ireturn, 1) := by decide +kernel
theorem dX8_tree_0 : decode cX8_tree 0 = .ok (.aload_n 0, 1) := by decide +kernel
theorem dX8_tree_1 : decode cX8_tree 1 = .ok (.iconst 0, 1) := by decide +kernel
theorem dX8_tree_2 : decode cX8_tree 2 = .ok (.putfield 124, 3) := by decide +kernel
theorem dX8_tree_5 : decode cX8_tree 5 = .ok (.aload_n 0, 1) := by decide +kernel
theorem dX8_tree_6 : decode cX8_tree 6 = .ok (.iload_n 1, 1) := by decide +kernel
theorem dX8_tree_7 : decode cX8_tree 7 = .ok (.invokevirtual 272, 3) := by decide +kernel
theorem dX8_tree_10 : decode cX8_tree 10 = .ok (.ifCond .ne 5, 3) := by decide +kernel
theorem dX8_tree_13 : decode cX8_tree 13 = .ok (.iconst (-1), 1) := by decide +kernel
theorem dX8_tree_14 : decode cX8_tree 14 = .ok (.ireturn, 1) := by decide +kernel
theorem dX8_tree_15 : decode cX8_tree 15 = .ok (.aload_n 0, 1) := by decide +kernel
theorem dX8_tree_16 : decode cX8_tree 16 = .ok (.invokevirtual 275, 3) := by decide +kernel
theorem dX8_tree_19 : decode cX8_tree 19 = .ok (.ifCond .ne 16, 3) := by decide +kernel
theorem dX8_tree_22 : decode cX8_tree 22 = .ok (.aload_n 0, 1) := by decide +kernel
theorem dX8_tree_23 : decode cX8_tree 23 = .ok (.iconst 0, 1) := by decide +kernel
theorem dX8_tree_24 : decode cX8_tree 24 = .ok (.putfield 243, 3) := by decide +kernel
theorem dX8_tree_27 : decode cX8_tree 27 = .ok (.bipush (-10), 2) := by decide +kernel
theorem dX8_tree_29 : decode cX8_tree 29 = .ok (.aload_n 0, 1) := by decide +kernel
theorem dX8_tree_30 : decode cX8_tree 30 = .ok (.getfield 246, 3) := by decide +kernel
theorem dX8_tree_33 : decode cX8_tree 33 = .ok (.isub, 1) := by decide +kernel
theorem dX8_tree_34 : decode cX8_tree 34 = .ok (.ireturn, 1) := by decide +kernel
theorem dX8_tree_35 : decode cX8_tree 35 = .ok (.aload_n 0, 1) := by decide +kernel
theorem dX8_tree_36 : decode cX8_tree 36 = .ok (.iconst 0, 1) := by decide +kernel
theorem dX8_tree_37 : decode cX8_tree 37 = .ok (.putfield 243, 3) := by decide +kernel
theorem dX8_tree_40 : decode cX8_tree 40 = .ok (.aload_n 0, 1) := by decide +kernel
theorem dX8_tree_41 : decode cX8_tree 41 = .ok (.getfield 127, 3) := by decide +kernel
theorem dX8_tree_44 : decode cX8_tree 44 = .ok (.aload_n 0, 1) := by decide +kernel
theorem dX8_tree_45 : decode cX8_tree 45 = .ok (.getfield 249, 3) := by decide +kernel
theorem dX8_tree_48 : decode cX8_tree 48 = .ok (.iadd, 1) := by decide +kernel
theorem dX8_tree_49 : decode cX8_tree 49 = .ok (.bipush 32, 2) := by decide +kernel
theorem dX8_tree_51 : decode cX8_tree 51 = .ok (.if_icmp .le 6, 3) := by decide +kernel
theorem dX8_tree_54 : decode cX8_tree 54 = .ok (.bipush (-4), 2) := by decide +kernel
theorem dX8_tree_56 : decode cX8_tree 56 = .ok (.ireturn, 1) := by decide +kernel
theorem dX8_tree_57 : decode cX8_tree 57 = .ok (.aload_n 0, 1) := by decide +kernel
theorem dX8_tree_58 : decode cX8_tree 58 = .ok (.getfield 127, 3) := by decide +kernel
theorem dX8_tree_61 : decode cX8_tree 61 = .ok (.istore_n 2, 1) := by decide +kernel
theorem dX8_tree_62 : decode cX8_tree 62 = .ok (.iconst 0, 1) := by decide +kernel
theorem dX8_tree_63 : decode cX8_tree 63 = .ok (.istore_n 3, 1) := by decide +kernel
theorem dX8_tree_64 : decode cX8_tree 64 = .ok (.iload_n 3, 1) := by decide +kernel
theorem dX8_tree_65 : decode cX8_tree 65 = .ok (.aload_n 0, 1) := by decide +kernel
theorem dX8_tree_66 : decode cX8_tree 66 = .ok (.getfield 249, 3) := by decide +kernel
theorem dX8_tree_69 : decode cX8_tree 69 = .ok (.if_icmp .ge 107, 3) := by decide +kernel
theorem dX8_tree_72 : decode cX8_tree 72 = .ok (.iload_n 2, 1) := by decide +kernel
theorem dX8_tree_73 : decode cX8_tree 73 = .ok (.iload_n 3, 1) := by decide +kernel
theorem dX8_tree_74 : decode cX8_tree 74 = .ok (.iadd, 1) := by decide +kernel
theorem dX8_tree_75 : decode cX8_tree 75 = .ok (.istore 4, 2) := by decide +kernel
theorem dX8_tree_77 : decode cX8_tree 77 = .ok (.aload_n 0, 1) := by decide +kernel
theorem dX8_tree_78 : decode cX8_tree 78 = .ok (.getfield 29, 3) := by decide +kernel
theorem dX8_tree_81 : decode cX8_tree 81 = .ok (.iload 4, 2) := by decide +kernel
theorem dX8_tree_83 : decode cX8_tree 83 = .ok (.iconst 0, 1) := by decide +kernel
theorem dX8_tree_84 : decode cX8_tree 84 = .ok (.iastore, 1) := by decide +kernel
theorem dX8_tree_85 : decode cX8_tree 85 = .ok (.aload_n 0, 1) := by decide +kernel
theorem dX8_tree_86 : decode cX8_tree 86 = .ok (.getfield 32, 3) := by decide +kernel
theorem dX8_tree_89 : decode cX8_tree 89 = .ok (.iload 4, 2) := by decide +kernel
theorem dX8_tree_91 : decode cX8_tree 91 = .ok (.aload_n 0, 1) := by decide +kernel
theorem dX8_tree_92 : decode cX8_tree 92 = .ok (.getfield 87, 3) := by decide +kernel
theorem dX8_tree_95 : decode cX8_tree 95 = .ok (.iload_n 3, 1) := by decide +kernel
theorem dX8_tree_96 : decode cX8_tree 96 = .ok (.iaload, 1) := by decide +kernel
theorem dX8_tree_97 : decode cX8_tree 97 = .ok (.iastore, 1) := by decide +kernel
theorem dX8_tree_98 : decode cX8_tree 98 = .ok (.aload_n 0, 1) := by decide +kernel
theorem dX8_tree_99 : decode cX8_tree 99 = .ok (.getfield 35, 3) := by decide +kernel
theorem dX8_tree_102 : decode cX8_tree 102 = .ok (.iload 4, 2) := by decide +kernel
theorem dX8_tree_104 : decode cX8_tree 104 = .ok (.aload_n 0, 1) := by decide +kernel
theorem dX8_tree_105 : decode cX8_tree 105 = .ok (.getfield 87, 3) := by decide +kernel
theorem dX8_tree_108 : decode cX8_tree 108 = .ok (.iload_n 3, 1) := by decide +kernel
theorem dX8_tree_109 : decode cX8_tree 109 = .ok (.iaload, 1) := by decide +kernel
theorem dX8_tree_110 : decode cX8_tree 110 = .ok (.iastore, 1) := by decide +kernel
theorem dX8_tree_111 : decode cX8_tree 111 = .ok (.aload_n 0, 1) := by decide +kernel
theorem dX8_tree_112 : decode cX8_tree 112 = .ok (.getfield 38, 3) := by decide +kernel
theorem dX8_tree_115 : decode cX8_tree 115 = .ok (.iload 4, 2) := by decide +kernel
theorem dX8_tree_117 : decode cX8_tree 117 = .ok (.iconst 0, 1) := by decide +kernel
theorem dX8_tree_118 : decode cX8_tree 118 = .ok (.iastore, 1) := by decide +kernel
theorem dX8_tree_119 : decode cX8_tree 119 = .ok (.aload_n 0, 1) := by decide +kernel
theorem dX8_tree_120 : decode cX8_tree 120 = .ok (.getfield 41, 3) := by decide +kernel
theorem dX8_tree_123 : decode cX8_tree 123 = .ok (.iload 4, 2) := by decide +kernel
theorem dX8_tree_125 : decode cX8_tree 125 = .ok (.aload_n 0, 1) := by decide +kernel
theorem dX8_tree_126 : decode cX8_tree 126 = .ok (.getfield 93, 3) := by decide +kernel
theorem dX8_tree_129 : decode cX8_tree 129 = .ok (.iload_n 3, 1) := by decide +kernel
theorem dX8_tree_130 : decode cX8_tree 130 = .ok (.iaload, 1) := by decide +kernel
theorem dX8_tree_131 : decode cX8_tree 131 = .ok (.ifCond .ge 8, 3) := by decide +kernel
theorem dX8_tree_134 : decode cX8_tree 134 = .ok (.bipush (-5), 2) := by decide +kernel
theorem dX8_tree_136 : decode cX8_tree 136 = .ok (.goto 11, 3) := by decide +kernel
theorem dX8_tree_139 : decode cX8_tree 139 = .ok (.iload_n 2, 1) := by decide +kernel
theorem dX8_tree_140 : decode cX8_tree 140 = .ok (.aload_n 0, 1) := by decide +kernel
theorem dX8_tree_141 : decode cX8_tree 141 = .ok (.getfield 93, 3) := by decide +kernel
theorem dX8_tree_144 : decode cX8_tree 144 = .ok (.iload_n 3, 1) := by decide +kernel
theorem dX8_tree_145 : decode cX8_tree 145 = .ok (.iaload, 1) := by decide +kernel
theorem dX8_tree_146 : decode cX8_tree 146 = .ok (.iadd, 1) := by decide +kernel
theorem dX8_tree_147 : decode cX8_tree 147 = .ok (.iastore, 1) := by decide +kernel
theorem dX8_tree_148 : decode cX8_tree 148 = .ok (.aload_n 0, 1) := by decide +kernel
theorem dX8_tree_149 : decode cX8_tree 149 = .ok (.getfield 44, 3) := by decide +kernel
theorem dX8_tree_152 : decode cX8_tree 152 = .ok (.iload 4, 2) := by decide +kernel
theorem dX8_tree_154 : decode cX8_tree 154 = .ok (.aload_n 0, 1) := by decide +kernel
theorem dX8_tree_155 : decode cX8_tree 155 = .ok (.getfield 90, 3) := by decide +kernel
theorem dX8_tree_158 : decode cX8_tree 158 = .ok (.iload_n 3, 1) := by decide +kernel
theorem dX8_tree_159 : decode cX8_tree 159 = .ok (.iaload, 1) := by decide +kernel
theorem dX8_tree_160 : decode cX8_tree 160 = .ok (.iastore, 1) := by decide +kernel
theorem dX8_tree_161 : decode cX8_tree 161 = .ok (.aload_n 0, 1) := by decide +kernel
theorem dX8_tree_162 : decode cX8_tree 162 = .ok (.getfield 47, 3) := by decide +kernel
theorem dX8_tree_165 : decode cX8_tree 165 = .ok (.iload 4, 2) := by decide +kernel
theorem dX8_tree_167 : decode cX8_tree 167 = .ok (.bipush (-5), 2) := by decide +kernel
theorem dX8_tree_169 : decode cX8_tree 169 = .ok (.iastore, 1) := by decide +kernel
theorem dX8_tree_170 : decode cX8_tree 170 = .ok (.iinc 3 1, 3) := by decide +kernel
theorem dX8_tree_173 : decode cX8_tree 173 = .ok (.goto (-109), 3) := by decide +kernel
theorem dX8_tree_176 : decode cX8_tree 176 = .ok (.aload_n 0, 1) := by decide +kernel
theorem dX8_tree_177 : decode cX8_tree 177 = .ok (.dup, 1) := by decide +kernel
theorem dX8_tree_178 : decode cX8_tree 178 = .ok (.getfield 127, 3) := by decide +kernel
theorem dX8_tree_181 : decode cX8_tree 181 = .ok (.aload_n 0, 1) := by decide +kernel
theorem dX8_tree_182 : decode cX8_tree 182 = .ok (.getfield 249, 3) := by decide +kernel
theorem dX8_tree_185 : decode cX8_tree 185 = .ok (.iadd, 1) := by decide +kernel
theorem dX8_tree_186 : decode cX8_tree 186 = .ok (.putfield 127, 3) := by decide +kernel
theorem dX8_tree_189 : decode cX8_tree 189 = .ok (.aload_n 0, 1) := by decide +kernel
theorem dX8_tree_190 : decode cX8_tree 190 = .ok (.iload_n 1, 1) := by decide +kernel
theorem dX8_tree_191 : decode cX8_tree 191 = .ok (.iload_n 2, 1) := by decide +kernel
theorem dX8_tree_192 : decode cX8_tree 192 = .ok (.invokevirtual 210, 3) := by decide +kernel
theorem dX8_tree_195 : decode cX8_tree 195 = .ok (.iload_n 2, 1) := by decide +kernel
theorem dX8_tree_196 : decode cX8_tree 196 = .ok (.ireturn, 1) := by decide +kernel
theorem dX8_rowOf_0 : decode cX8_rowOf 0 = .ok (.bipush (-5), 2) := by decide +kernel
theorem dX8_rowOf_2 : decode cX8_rowOf 2 = .ok (.istore_n 2, 1) := by decide +kernel
theorem dX8_rowOf_3 : decode cX8_rowOf 3 = .ok (.iconst 0, 1) := by decide +kernel
theorem dX8_rowOf_4 : decode cX8_rowOf 4 = .ok (.istore_n 3, 1) := by decide +kernel
theorem dX8_rowOf_5 : decode cX8_rowOf 5 = .ok (.iload_n 3, 1) := by decide +kernel
theorem dX8_rowOf_6 : decode cX8_rowOf 6 = .ok (.aload_n 0, 1) := by decide +kernel
theorem dX8_rowOf_7 : decode cX8_rowOf 7 = .ok (.getfield 7, 3) := by decide +kernel
theorem dX8_rowOf_10 : decode cX8_rowOf 10 = .ok (.if_icmp .ge 51, 3) := by decide +kernel
theorem dX8_rowOf_13 : decode cX8_rowOf 13 = .ok (.iconst 0, 1) := by decide +kernel
theorem dX8_rowOf_14 : decode cX8_rowOf 14 = .ok (.istore 4, 2) := by decide +kernel
theorem dX8_rowOf_16 : decode cX8_rowOf 16 = .ok (.iload 4, 2) := by decide +kernel
theorem dX8_rowOf_18 : decode cX8_rowOf 18 = .ok (.aload_n 0, 1) := by decide +kernel
theorem dX8_rowOf_19 : decode cX8_rowOf 19 = .ok (.getfield 13, 3) := by decide +kernel
theorem dX8_rowOf_22 : decode cX8_rowOf 22 = .ok (.iload_n 3, 1) := by decide +kernel
theorem dX8_rowOf_23 : decode cX8_rowOf 23 = .ok (.iaload, 1) := by decide +kernel
theorem dX8_rowOf_24 : decode cX8_rowOf 24 = .ok (.if_icmp .ge 31, 3) := by decide +kernel
theorem dX8_rowOf_27 : decode cX8_rowOf 27 = .ok (.aload_n 0, 1) := by decide +kernel
theorem dX8_rowOf_28 : decode cX8_rowOf 28 = .ok (.getfield 17, 3) := by decide +kernel
theorem dX8_rowOf_31 : decode cX8_rowOf 31 = .ok (.bipush 32, 2) := by decide +kernel
theorem dX8_rowOf_33 : decode cX8_rowOf 33 = .ok (.iload_n 3, 1) := by decide +kernel
theorem dX8_rowOf_34 : decode cX8_rowOf 34 = .ok (.imul, 1) := by decide +kernel
theorem dX8_rowOf_35 : decode cX8_rowOf 35 = .ok (.iload 4, 2) := by decide +kernel
theorem dX8_rowOf_37 : decode cX8_rowOf 37 = .ok (.iadd, 1) := by decide +kernel
theorem dX8_rowOf_38 : decode cX8_rowOf 38 = .ok (.iaload, 1) := by decide +kernel
theorem dX8_rowOf_39 : decode cX8_rowOf 39 = .ok (.iload_n 1, 1) := by decide +kernel
theorem dX8_rowOf_40 : decode cX8_rowOf 40 = .ok (.if_icmp .ne 7, 3) := by decide +kernel
theorem dX8_rowOf_43 : decode cX8_rowOf 43 = .ok (.iload_n 3, 1) := by decide +kernel
theorem dX8_rowOf_44 : decode cX8_rowOf 44 = .ok (.goto 4, 3) := by decide +kernel
theorem dX8_rowOf_47 : decode cX8_rowOf 47 = .ok (.iload_n 2, 1) := by decide +kernel
theorem dX8_rowOf_48 : decode cX8_rowOf 48 = .ok (.istore_n 2, 1) := by decide +kernel
theorem dX8_rowOf_49 : decode cX8_rowOf 49 = .ok (.iinc 4 1, 3) := by decide +kernel
theorem dX8_rowOf_52 : decode cX8_rowOf 52 = .ok (.goto (-36), 3) := by decide +kernel
theorem dX8_rowOf_55 : decode cX8_rowOf 55 = .ok (.iinc 3 1, 3) := by decide +kernel
theorem dX8_rowOf_58 : decode cX8_rowOf 58 = .ok (.goto (-53), 3) := by decide +kernel
theorem dX8_rowOf_61 : decode cX8_rowOf 61 = .ok (.iload_n 2, 1) := by decide +kernel
theorem dX8_rowOf_62 : decode cX8_rowOf 62 = .ok (.ireturn, 1) := by decide +kernel
theorem dX8_workedBy_0 : decode cX8_workedBy 0 = .ok (.bipush (-5), 2) := by decide +kernel
theorem dX8_workedBy_2 : decode cX8_workedBy 2 = .ok (.istore_n 2, 1) := by decide +kernel
theorem dX8_workedBy_3 : decode cX8_workedBy 3 = .ok (.iconst 0, 1) := by decide +kernel
theorem dX8_workedBy_4 : decode cX8_workedBy 4 = .ok (.istore_n 3, 1) := by decide +kernel
theorem dX8_workedBy_5 : decode cX8_workedBy 5 = .ok (.iload_n 3, 1) := by decide +kernel
theorem dX8_workedBy_6 : decode cX8_workedBy 6 = .ok (.aload_n 0, 1) := by decide +kernel
theorem dX8_workedBy_7 : decode cX8_workedBy 7 = .ok (.getfield 7, 3) := by decide +kernel
theorem dX8_workedBy_10 : decode cX8_workedBy 10 = .ok (.if_icmp .ge 25, 3) := by decide +kernel
theorem dX8_workedBy_13 : decode cX8_workedBy 13 = .ok (.aload_n 0, 1) := by decide +kernel
theorem dX8_workedBy_14 : decode cX8_workedBy 14 = .ok (.getfield 20, 3) := by decide +kernel
theorem dX8_workedBy_17 : decode cX8_workedBy 17 = .ok (.iload_n 3, 1) := by decide +kernel
theorem dX8_workedBy_18 : decode cX8_workedBy 18 = .ok (.iaload, 1) := by decide +kernel
theorem dX8_workedBy_19 : decode cX8_workedBy 19 = .ok (.iload_n 1, 1) := by decide +kernel
theorem dX8_workedBy_20 : decode cX8_workedBy 20 = .ok (.if_icmp .ne 7, 3) := by decide +kernel
theorem dX8_workedBy_23 : decode cX8_workedBy 23 = .ok (.iload_n 3, 1) := by decide +kernel
theorem dX8_workedBy_24 : decode cX8_workedBy 24 = .ok (.goto 4, 3) := by decide +kernel
theorem dX8_workedBy_27 : decode cX8_workedBy 27 = .ok (.iload_n 2, 1) := by decide +kernel
theorem dX8_workedBy_28 : decode cX8_workedBy 28 = .ok (.istore_n 2, 1) := by decide +kernel
theorem dX8_workedBy_29 : decode cX8_workedBy 29 = .ok (.iinc 3 1, 3) := by decide +kernel
theorem dX8_workedBy_32 : decode cX8_workedBy 32 = .ok (.goto (-27), 3) := by decide +kernel
theorem dX8_workedBy_35 : decode cX8_workedBy 35 = .ok (.iload_n 2, 1) := by decide +kernel
theorem dX8_workedBy_36 : decode cX8_workedBy 36 = .ok (.ireturn, 1) := by decide +kernel
theorem dX8_laySpans_0 : decode cX8_laySpans 0 = .ok (.iconst 0, 1) := by decide +kernel
theorem dX8_laySpans_1 : decode cX8_laySpans 1 = .ok (.istore_n 1, 1) := by decide +kernel
theorem dX8_laySpans_2 : decode cX8_laySpans 2 = .ok (.iload_n 1, 1) := by decide +kernel
theorem dX8_laySpans_3 : decode cX8_laySpans 3 = .ok (.aload_n 0, 1) := by decide +kernel
theorem dX8_laySpans_4 : decode cX8_laySpans 4 = .ok (.getfield 127, 3) := by decide +kernel
theorem dX8_laySpans_7 : decode cX8_laySpans 7 = .ok (.if_icmp .ge 23, 3) := by decide +kernel
theorem dX8_laySpans_10 : decode cX8_laySpans 10 = .ok (.aload_n 0, 1) := by decide +kernel
theorem dX8_laySpans_11 : decode cX8_laySpans 11 = .ok (.getfield 102, 3) := by decide +kernel
theorem dX8_laySpans_14 : decode cX8_laySpans 14 = .ok (.iload_n 1, 1) := by decide +kernel
theorem dX8_laySpans_15 : decode cX8_laySpans 15 = .ok (.iconst 0, 1) := by decide +kernel
theorem dX8_laySpans_16 : decode cX8_laySpans 16 = .ok (.iastore, 1) := by decide +kernel
theorem dX8_laySpans_17 : decode cX8_laySpans 17 = .ok (.aload_n 0, 1) := by decide +kernel
theorem dX8_laySpans_18 : decode cX8_laySpans 18 = .ok (.getfield 105, 3) := by decide +kernel
theorem dX8_laySpans_21 : decode cX8_laySpans 21 = .ok (.iload_n 1, 1) := by decide +kernel
theorem dX8_laySpans_22 : decode cX8_laySpans 22 = .ok (.iconst 0, 1) := by decide +kernel
theorem dX8_laySpans_23 : decode cX8_laySpans 23 = .ok (.iastore, 1) := by decide +kernel
theorem dX8_laySpans_24 : decode cX8_laySpans 24 = .ok (.iinc 1 1, 3) := by decide +kernel
theorem dX8_laySpans_27 : decode cX8_laySpans 27 = .ok (.goto (-25), 3) := by decide +kernel
theorem dX8_laySpans_30 : decode cX8_laySpans 30 = .ok (.aload_n 0, 1) := by decide +kernel
theorem dX8_laySpans_31 : decode cX8_laySpans 31 = .ok (.getfield 127, 3) := by decide +kernel
theorem dX8_laySpans_34 : decode cX8_laySpans 34 = .ok (.iconst 1, 1) := by decide +kernel
theorem dX8_laySpans_35 : decode cX8_laySpans 35 = .ok (.isub, 1) := by decide +kernel
theorem dX8_laySpans_36 : decode cX8_laySpans 36 = .ok (.istore_n 1, 1) := by decide +kernel
theorem dX8_laySpans_37 : decode cX8_laySpans 37 = .ok (.iload_n 1, 1) := by decide +kernel
theorem dX8_laySpans_38 : decode cX8_laySpans 38 = .ok (.ifCond .lt 101, 3) := by decide +kernel
theorem dX8_laySpans_41 : decode cX8_laySpans 41 = .ok (.aload_n 0, 1) := by decide +kernel
theorem dX8_laySpans_42 : decode cX8_laySpans 42 = .ok (.getfield 102, 3) := by decide +kernel
theorem dX8_laySpans_45 : decode cX8_laySpans 45 = .ok (.iload_n 1, 1) := by decide +kernel
theorem dX8_laySpans_46 : decode cX8_laySpans 46 = .ok (.dup2, 1) := by decide +kernel
theorem dX8_laySpans_47 : decode cX8_laySpans 47 = .ok (.iaload, 1) := by decide +kernel
theorem dX8_laySpans_48 : decode cX8_laySpans 48 = .ok (.aload_n 0, 1) := by decide +kernel
theorem dX8_laySpans_49 : decode cX8_laySpans 49 = .ok (.getfield 32, 3) := by decide +kernel
theorem dX8_laySpans_52 : decode cX8_laySpans 52 = .ok (.iload_n 1, 1) := by decide +kernel
theorem dX8_laySpans_53 : decode cX8_laySpans 53 = .ok (.iaload, 1) := by decide +kernel
theorem dX8_laySpans_54 : decode cX8_laySpans 54 = .ok (.iadd, 1) := by decide +kernel
theorem dX8_laySpans_55 : decode cX8_laySpans 55 = .ok (.iastore, 1) := by decide +kernel
theorem dX8_laySpans_56 : decode cX8_laySpans 56 = .ok (.aload_n 0, 1) := by decide +kernel
theorem dX8_laySpans_57 : decode cX8_laySpans 57 = .ok (.getfield 105, 3) := by decide +kernel
theorem dX8_laySpans_60 : decode cX8_laySpans 60 = .ok (.iload_n 1, 1) := by decide +kernel
theorem dX8_laySpans_61 : decode cX8_laySpans 61 = .ok (.dup2, 1) := by decide +kernel
theorem dX8_laySpans_62 : decode cX8_laySpans 62 = .ok (.iaload, 1) := by decide +kernel
theorem dX8_laySpans_63 : decode cX8_laySpans 63 = .ok (.aload_n 0, 1) := by decide +kernel
theorem dX8_laySpans_64 : decode cX8_laySpans 64 = .ok (.getfield 32, 3) := by decide +kernel
theorem dX8_laySpans_67 : decode cX8_laySpans 67 = .ok (.iload_n 1, 1) := by decide +kernel
theorem dX8_laySpans_68 : decode cX8_laySpans 68 = .ok (.iaload, 1) := by decide +kernel
theorem dX8_laySpans_69 : decode cX8_laySpans 69 = .ok (.iadd, 1) := by decide +kernel
theorem dX8_laySpans_70 : decode cX8_laySpans 70 = .ok (.iastore, 1) := by decide +kernel
theorem dX8_laySpans_71 : decode cX8_laySpans 71 = .ok (.aload_n 0, 1) := by decide +kernel
theorem dX8_laySpans_72 : decode cX8_laySpans 72 = .ok (.getfield 41, 3) := by decide +kernel
theorem dX8_laySpans_75 : decode cX8_laySpans 75 = .ok (.iload_n 1, 1) := by decide +kernel
theorem dX8_laySpans_76 : decode cX8_laySpans 76 = .ok (.iaload, 1) := by decide +kernel
theorem dX8_laySpans_77 : decode cX8_laySpans 77 = .ok (.istore_n 2, 1) := by decide +kernel
theorem dX8_laySpans_78 : decode cX8_laySpans 78 = .ok (.iload_n 2, 1) := by decide +kernel
theorem dX8_laySpans_79 : decode cX8_laySpans 79 = .ok (.ifCond .lt 54, 3) := by decide +kernel
theorem dX8_laySpans_82 : decode cX8_laySpans 82 = .ok (.aload_n 0, 1) := by decide +kernel
theorem dX8_laySpans_83 : decode cX8_laySpans 83 = .ok (.getfield 102, 3) := by decide +kernel
theorem dX8_laySpans_86 : decode cX8_laySpans 86 = .ok (.iload_n 2, 1) := by decide +kernel
theorem dX8_laySpans_87 : decode cX8_laySpans 87 = .ok (.aload_n 0, 1) := by decide +kernel
theorem dX8_laySpans_88 : decode cX8_laySpans 88 = .ok (.getfield 102, 3) := by decide +kernel
theorem dX8_laySpans_91 : decode cX8_laySpans 91 = .ok (.iload_n 1, 1) := by decide +kernel
theorem dX8_laySpans_92 : decode cX8_laySpans 92 = .ok (.iaload, 1) := by decide +kernel
theorem dX8_laySpans_93 : decode cX8_laySpans 93 = .ok (.aload_n 0, 1) := by decide +kernel
theorem dX8_laySpans_94 : decode cX8_laySpans 94 = .ok (.getfield 102, 3) := by decide +kernel
theorem dX8_laySpans_97 : decode cX8_laySpans 97 = .ok (.iload_n 2, 1) := by decide +kernel
theorem dX8_laySpans_98 : decode cX8_laySpans 98 = .ok (.iaload, 1) := by decide +kernel
theorem dX8_laySpans_99 : decode cX8_laySpans 99 = .ok (.if_icmp .le 12, 3) := by decide +kernel
theorem dX8_laySpans_102 : decode cX8_laySpans 102 = .ok (.aload_n 0, 1) := by decide +kernel
theorem dX8_laySpans_103 : decode cX8_laySpans 103 = .ok (.getfield 102, 3) := by decide +kernel
theorem dX8_laySpans_106 : decode cX8_laySpans 106 = .ok (.iload_n 1, 1) := by decide +kernel
theorem dX8_laySpans_107 : decode cX8_laySpans 107 = .ok (.iaload, 1) := by decide +kernel
theorem dX8_laySpans_108 : decode cX8_laySpans 108 = .ok (.goto 9, 3) := by decide +kernel
theorem dX8_laySpans_111 : decode cX8_laySpans 111 = .ok (.aload_n 0, 1) := by decide +kernel
theorem dX8_laySpans_112 : decode cX8_laySpans 112 = .ok (.getfield 102, 3) := by decide +kernel
theorem dX8_laySpans_115 : decode cX8_laySpans 115 = .ok (.iload_n 2, 1) := by decide +kernel
theorem dX8_laySpans_116 : decode cX8_laySpans 116 = .ok (.iaload, 1) := by decide +kernel
theorem dX8_laySpans_117 : decode cX8_laySpans 117 = .ok (.iastore, 1) := by decide +kernel
theorem dX8_laySpans_118 : decode cX8_laySpans 118 = .ok (.aload_n 0, 1) := by decide +kernel
theorem dX8_laySpans_119 : decode cX8_laySpans 119 = .ok (.getfield 105, 3) := by decide +kernel
theorem dX8_laySpans_122 : decode cX8_laySpans 122 = .ok (.iload_n 2, 1) := by decide +kernel
theorem dX8_laySpans_123 : decode cX8_laySpans 123 = .ok (.dup2, 1) := by decide +kernel
theorem dX8_laySpans_124 : decode cX8_laySpans 124 = .ok (.iaload, 1) := by decide +kernel
theorem dX8_laySpans_125 : decode cX8_laySpans 125 = .ok (.aload_n 0, 1) := by decide +kernel
theorem dX8_laySpans_126 : decode cX8_laySpans 126 = .ok (.getfield 105, 3) := by decide +kernel
theorem dX8_laySpans_129 : decode cX8_laySpans 129 = .ok (.iload_n 1, 1) := by decide +kernel
theorem dX8_laySpans_130 : decode cX8_laySpans 130 = .ok (.iaload, 1) := by decide +kernel
theorem dX8_laySpans_131 : decode cX8_laySpans 131 = .ok (.iadd, 1) := by decide +kernel
theorem dX8_laySpans_132 : decode cX8_laySpans 132 = .ok (.iastore, 1) := by decide +kernel
theorem dX8_laySpans_133 : decode cX8_laySpans 133 = .ok (.iinc 1 (-1), 3) := by decide +kernel
theorem dX8_laySpans_136 : decode cX8_laySpans 136 = .ok (.goto (-99), 3) := by decide +kernel
theorem dX8_laySpans_139 : decode cX8_laySpans 139 = .ok (.return_, 1) := by decide +kernel
theorem dX8_depthOf_0 : decode cX8_depthOf 0 = .ok (.iconst 0, 1) := by decide +kernel
theorem dX8_depthOf_1 : decode cX8_depthOf 1 = .ok (.istore_n 2, 1) := by decide +kernel
theorem dX8_depthOf_2 : decode cX8_depthOf 2 = .ok (.aload_n 0, 1) := by decide +kernel
theorem dX8_depthOf_3 : decode cX8_depthOf 3 = .ok (.getfield 41, 3) := by decide +kernel
theorem dX8_depthOf_6 : decode cX8_depthOf 6 = .ok (.iload_n 1, 1) := by decide +kernel
theorem dX8_depthOf_7 : decode cX8_depthOf 7 = .ok (.iaload, 1) := by decide +kernel
theorem dX8_depthOf_8 : decode cX8_depthOf 8 = .ok (.istore_n 3, 1) := by decide +kernel
theorem dX8_depthOf_9 : decode cX8_depthOf 9 = .ok (.iload_n 3, 1) := by decide +kernel
theorem dX8_depthOf_10 : decode cX8_depthOf 10 = .ok (.ifCond .lt 16, 3) := by decide +kernel
theorem dX8_depthOf_13 : decode cX8_depthOf 13 = .ok (.iinc 2 1, 3) := by decide +kernel
theorem dX8_depthOf_16 : decode cX8_depthOf 16 = .ok (.aload_n 0, 1) := by decide +kernel
theorem dX8_depthOf_17 : decode cX8_depthOf 17 = .ok (.getfield 41, 3) := by decide +kernel
theorem dX8_depthOf_20 : decode cX8_depthOf 20 = .ok (.iload_n 3, 1) := by decide +kernel
theorem dX8_depthOf_21 : decode cX8_depthOf 21 = .ok (.iaload, 1) := by decide +kernel
theorem dX8_depthOf_22 : decode cX8_depthOf 22 = .ok (.istore_n 3, 1) := by decide +kernel
theorem dX8_depthOf_23 : decode cX8_depthOf 23 = .ok (.goto (-14), 3) := by decide +kernel
theorem dX8_depthOf_26 : decode cX8_depthOf 26 = .ok (.iload_n 2, 1) := by decide +kernel
theorem dX8_depthOf_27 : decode cX8_depthOf 27 = .ok (.ireturn, 1) := by decide +kernel
theorem dX8_treeOf_0 : decode cX8_treeOf 0 = .ok (.aload_n 0, 1) := by decide +kernel
theorem dX8_treeOf_1 : decode cX8_treeOf 1 = .ok (.invokevirtual 278, 3) := by decide +kernel
theorem dX8_treeOf_4 : decode cX8_treeOf 4 = .ok (.iload_n 2, 1) := by decide +kernel
theorem dX8_treeOf_5 : decode cX8_treeOf 5 = .ok (.tableswitch 68 6 10 #[35, 42, 49, 56, 62], 35) := by decide +kernel
theorem dX8_treeOf_40 : decode cX8_treeOf 40 = .ok (.aload_n 0, 1) := by decide +kernel
theorem dX8_treeOf_41 : decode cX8_treeOf 41 = .ok (.getfield 44, 3) := by decide +kernel
theorem dX8_treeOf_44 : decode cX8_treeOf 44 = .ok (.iload_n 1, 1) := by decide +kernel
theorem dX8_treeOf_45 : decode cX8_treeOf 45 = .ok (.iaload, 1) := by decide +kernel
theorem dX8_treeOf_46 : decode cX8_treeOf 46 = .ok (.ireturn, 1) := by decide +kernel
theorem dX8_treeOf_47 : decode cX8_treeOf 47 = .ok (.aload_n 0, 1) := by decide +kernel
theorem dX8_treeOf_48 : decode cX8_treeOf 48 = .ok (.getfield 102, 3) := by decide +kernel
theorem dX8_treeOf_51 : decode cX8_treeOf 51 = .ok (.iload_n 1, 1) := by decide +kernel
theorem dX8_treeOf_52 : decode cX8_treeOf 52 = .ok (.iaload, 1) := by decide +kernel
theorem dX8_treeOf_53 : decode cX8_treeOf 53 = .ok (.ireturn, 1) := by decide +kernel
theorem dX8_treeOf_54 : decode cX8_treeOf 54 = .ok (.aload_n 0, 1) := by decide +kernel
theorem dX8_treeOf_55 : decode cX8_treeOf 55 = .ok (.getfield 105, 3) := by decide +kernel
theorem dX8_treeOf_58 : decode cX8_treeOf 58 = .ok (.iload_n 1, 1) := by decide +kernel
theorem dX8_treeOf_59 : decode cX8_treeOf 59 = .ok (.iaload, 1) := by decide +kernel
theorem dX8_treeOf_60 : decode cX8_treeOf 60 = .ok (.ireturn, 1) := by decide +kernel
theorem dX8_treeOf_61 : decode cX8_treeOf 61 = .ok (.aload_n 0, 1) := by decide +kernel
theorem dX8_treeOf_62 : decode cX8_treeOf 62 = .ok (.iload_n 1, 1) := by decide +kernel
theorem dX8_treeOf_63 : decode cX8_treeOf 63 = .ok (.invokevirtual 281, 3) := by decide +kernel
theorem dX8_treeOf_66 : decode cX8_treeOf 66 = .ok (.ireturn, 1) := by decide +kernel
theorem dX8_treeOf_67 : decode cX8_treeOf 67 = .ok (.aload_n 0, 1) := by decide +kernel
theorem dX8_treeOf_68 : decode cX8_treeOf 68 = .ok (.iload_n 1, 1) := by decide +kernel
theorem dX8_treeOf_69 : decode cX8_treeOf 69 = .ok (.invokevirtual 284, 3) := by decide +kernel
theorem dX8_treeOf_72 : decode cX8_treeOf 72 = .ok (.ireturn, 1) := by decide +kernel
theorem dX8_treeOf_73 : decode cX8_treeOf 73 = .ok (.aload_n 0, 1) := by decide +kernel
theorem dX8_treeOf_74 : decode cX8_treeOf 74 = .ok (.iload_n 1, 1) := by decide +kernel
theorem dX8_treeOf_75 : decode cX8_treeOf 75 = .ok (.invokevirtual 287, 3) := by decide +kernel
theorem dX8_treeOf_78 : decode cX8_treeOf 78 = .ok (.ireturn, 1) := by decide +kernel
theorem dX8_of_0 : decode cX8_of 0 = .ok (.aload_n 0, 1) := by decide +kernel
theorem dX8_of_1 : decode cX8_of 1 = .ok (.iconst 0, 1) := by decide +kernel
theorem dX8_of_2 : decode cX8_of 2 = .ok (.putfield 124, 3) := by decide +kernel
theorem dX8_of_5 : decode cX8_of 5 = .ok (.aload_n 0, 1) := by decide +kernel
theorem dX8_of_6 : decode cX8_of 6 = .ok (.iload_n 1, 1) := by decide +kernel
theorem dX8_of_7 : decode cX8_of 7 = .ok (.invokevirtual 290, 3) := by decide +kernel
theorem dX8_of_10 : decode cX8_of 10 = .ok (.ifCond .eq 15, 3) := by decide +kernel
theorem dX8_of_13 : decode cX8_of 13 = .ok (.iload_n 2, 1) := by decide +kernel
theorem dX8_of_14 : decode cX8_of 14 = .ok (.i2l, 1) := by decide +kernel
theorem dX8_of_15 : decode cX8_of 15 = .ok (.lconst 0, 1) := by decide +kernel
theorem dX8_of_16 : decode cX8_of 16 = .ok (.ldc2_w 293, 3) := by decide +kernel
theorem dX8_of_19 : decode cX8_of 19 = .ok (.invokestatic 130, 3) := by decide +kernel
theorem dX8_of_22 : decode cX8_of 22 = .ok (.ifCond .ne 5, 3) := by decide +kernel
theorem dX8_of_25 : decode cX8_of 25 = .ok (.iconst (-1), 1) := by decide +kernel
theorem dX8_of_26 : decode cX8_of 26 = .ok (.ireturn, 1) := by decide +kernel
theorem dX8_of_27 : decode cX8_of 27 = .ok (.iload_n 2, 1) := by decide +kernel
theorem dX8_of_28 : decode cX8_of 28 = .ok (.tableswitch 81 0 5 #[40, 47, 54, 61, 68, 75], 40) := by decide +kernel
theorem dX8_of_68 : decode cX8_of 68 = .ok (.aload_n 0, 1) := by decide +kernel
theorem dX8_of_69 : decode cX8_of 69 = .ok (.getfield 29, 3) := by decide +kernel
theorem dX8_of_72 : decode cX8_of 72 = .ok (.iload_n 1, 1) := by decide +kernel
theorem dX8_of_73 : decode cX8_of 73 = .ok (.iaload, 1) := by decide +kernel
theorem dX8_of_74 : decode cX8_of 74 = .ok (.ireturn, 1) := by decide +kernel
theorem dX8_of_75 : decode cX8_of 75 = .ok (.aload_n 0, 1) := by decide +kernel
theorem dX8_of_76 : decode cX8_of 76 = .ok (.getfield 32, 3) := by decide +kernel
theorem dX8_of_79 : decode cX8_of 79 = .ok (.iload_n 1, 1) := by decide +kernel
theorem dX8_of_80 : decode cX8_of 80 = .ok (.iaload, 1) := by decide +kernel
theorem dX8_of_81 : decode cX8_of 81 = .ok (.ireturn, 1) := by decide +kernel
theorem dX8_of_82 : decode cX8_of 82 = .ok (.aload_n 0, 1) := by decide +kernel
theorem dX8_of_83 : decode cX8_of 83 = .ok (.getfield 35, 3) := by decide +kernel
theorem dX8_of_86 : decode cX8_of 86 = .ok (.iload_n 1, 1) := by decide +kernel
theorem dX8_of_87 : decode cX8_of 87 = .ok (.iaload, 1) := by decide +kernel
theorem dX8_of_88 : decode cX8_of 88 = .ok (.ireturn, 1) := by decide +kernel
theorem dX8_of_89 : decode cX8_of 89 = .ok (.aload_n 0, 1) := by decide +kernel
theorem dX8_of_90 : decode cX8_of 90 = .ok (.getfield 38, 3) := by decide +kernel
theorem dX8_of_93 : decode cX8_of 93 = .ok (.iload_n 1, 1) := by decide +kernel
theorem dX8_of_94 : decode cX8_of 94 = .ok (.iaload, 1) := by decide +kernel
theorem dX8_of_95 : decode cX8_of 95 = .ok (.ireturn, 1) := by decide +kernel
theorem dX8_of_96 : decode cX8_of 96 = .ok (.aload_n 0, 1) := by decide +kernel
theorem dX8_of_97 : decode cX8_of 97 = .ok (.getfield 41, 3) := by decide +kernel
theorem dX8_of_100 : decode cX8_of 100 = .ok (.iload_n 1, 1) := by decide +kernel
theorem dX8_of_101 : decode cX8_of 101 = .ok (.iaload, 1) := by decide +kernel
theorem dX8_of_102 : decode cX8_of 102 = .ok (.ireturn, 1) := by decide +kernel
theorem dX8_of_103 : decode cX8_of 103 = .ok (.aload_n 0, 1) := by decide +kernel
theorem dX8_of_104 : decode cX8_of 104 = .ok (.iload_n 1, 1) := by decide +kernel
theorem dX8_of_105 : decode cX8_of 105 = .ok (.invokevirtual 295, 3) := by decide +kernel
theorem dX8_of_108 : decode cX8_of 108 = .ok (.ireturn, 1) := by decide +kernel
theorem dX8_of_109 : decode cX8_of 109 = .ok (.aload_n 0, 1) := by decide +kernel
theorem dX8_of_110 : decode cX8_of 110 = .ok (.iload_n 1, 1) := by decide +kernel
theorem dX8_of_111 : decode cX8_of 111 = .ok (.iload_n 2, 1) := by decide +kernel
theorem dX8_of_112 : decode cX8_of 112 = .ok (.invokevirtual 298, 3) := by decide +kernel
theorem dX8_of_115 : decode cX8_of 115 = .ok (.ireturn, 1) := by decide +kernel
theorem dX8_cause_0 : decode cX8_cause 0 = .ok (.aload_n 0, 1) := by decide +kernel
theorem dX8_cause_1 : decode cX8_cause 1 = .ok (.iconst 0, 1) := by decide +kernel
theorem dX8_cause_2 : decode cX8_cause 2 = .ok (.putfield 124, 3) := by decide +kernel
theorem dX8_cause_5 : decode cX8_cause 5 = .ok (.aload_n 0, 1) := by decide +kernel
theorem dX8_cause_6 : decode cX8_cause 6 = .ok (.iload_n 1, 1) := by decide +kernel
theorem dX8_cause_7 : decode cX8_cause 7 = .ok (.invokevirtual 290, 3) := by decide +kernel
theorem dX8_cause_10 : decode cX8_cause 10 = .ok (.ifCond .eq 7, 3) := by decide +kernel
theorem dX8_cause_13 : decode cX8_cause 13 = .ok (.iload_n 2, 1) := by decide +kernel
theorem dX8_cause_14 : decode cX8_cause 14 = .ok (.ifCond .ge 5, 3) := by decide +kernel
theorem dX8_cause_17 : decode cX8_cause 17 = .ok (.iconst (-1), 1) := by decide +kernel
theorem dX8_cause_18 : decode cX8_cause 18 = .ok (.ireturn, 1) := by decide +kernel
theorem dX8_cause_19 : decode cX8_cause 19 = .ok (.aload_n 0, 1) := by decide +kernel
theorem dX8_cause_20 : decode cX8_cause 20 = .ok (.getfield 29, 3) := by decide +kernel
theorem dX8_cause_23 : decode cX8_cause 23 = .ok (.iload_n 1, 1) := by decide +kernel
theorem dX8_cause_24 : decode cX8_cause 24 = .ok (.iaload, 1) := by decide +kernel
theorem dX8_cause_25 : decode cX8_cause 25 = .ok (.iconst 4, 1) := by decide +kernel
theorem dX8_cause_26 : decode cX8_cause 26 = .ok (.if_icmp .ne 7, 3) := by decide +kernel
theorem dX8_cause_29 : decode cX8_cause 29 = .ok (.iload_n 1, 1) := by decide +kernel
theorem dX8_cause_30 : decode cX8_cause 30 = .ok (.goto 5, 3) := by decide +kernel
theorem dX8_cause_33 : decode cX8_cause 33 = .ok (.bipush (-5), 2) := by decide +kernel
theorem dX8_cause_35 : decode cX8_cause 35 = .ok (.istore_n 3, 1) := by decide +kernel
theorem dX8_cause_36 : decode cX8_cause 36 = .ok (.iconst 0, 1) := by decide +kernel
theorem dX8_cause_37 : decode cX8_cause 37 = .ok (.istore 4, 2) := by decide +kernel
theorem dX8_cause_39 : decode cX8_cause 39 = .ok (.iload 4, 2) := by decide +kernel
theorem dX8_cause_41 : decode cX8_cause 41 = .ok (.iload_n 2, 1) := by decide +kernel
theorem dX8_cause_42 : decode cX8_cause 42 = .ok (.if_icmp .ge 20, 3) := by decide +kernel
theorem dX8_cause_45 : decode cX8_cause 45 = .ok (.iload_n 3, 1) := by decide +kernel
theorem dX8_cause_46 : decode cX8_cause 46 = .ok (.ifCond .lt 16, 3) := by decide +kernel
theorem dX8_cause_49 : decode cX8_cause 49 = .ok (.aload_n 0, 1) := by decide +kernel
theorem dX8_cause_50 : decode cX8_cause 50 = .ok (.getfield 47, 3) := by decide +kernel
theorem dX8_cause_53 : decode cX8_cause 53 = .ok (.iload_n 3, 1) := by decide +kernel
theorem dX8_cause_54 : decode cX8_cause 54 = .ok (.iaload, 1) := by decide +kernel
theorem dX8_cause_55 : decode cX8_cause 55 = .ok (.istore_n 3, 1) := by decide +kernel
theorem dX8_cause_56 : decode cX8_cause 56 = .ok (.iinc 4 1, 3) := by decide +kernel
theorem dX8_cause_59 : decode cX8_cause 59 = .ok (.goto (-20), 3) := by decide +kernel
theorem dX8_cause_62 : decode cX8_cause 62 = .ok (.iload_n 3, 1) := by decide +kernel
theorem dX8_cause_63 : decode cX8_cause 63 = .ok (.ireturn, 1) := by decide +kernel
theorem dX8_arm_0 : decode cX8_arm 0 = .ok (.aload_n 0, 1) := by decide +kernel
theorem dX8_arm_1 : decode cX8_arm 1 = .ok (.iconst 0, 1) := by decide +kernel
theorem dX8_arm_2 : decode cX8_arm 2 = .ok (.putfield 124, 3) := by decide +kernel
theorem dX8_arm_5 : decode cX8_arm 5 = .ok (.aload_n 0, 1) := by decide +kernel
theorem dX8_arm_6 : decode cX8_arm 6 = .ok (.iload_n 1, 1) := by decide +kernel
theorem dX8_arm_7 : decode cX8_arm 7 = .ok (.invokevirtual 272, 3) := by decide +kernel
theorem dX8_arm_10 : decode cX8_arm 10 = .ok (.ifCond .eq 21, 3) := by decide +kernel
theorem dX8_arm_13 : decode cX8_arm 13 = .ok (.iload_n 2, 1) := by decide +kernel
theorem dX8_arm_14 : decode cX8_arm 14 = .ok (.i2l, 1) := by decide +kernel
theorem dX8_arm_15 : decode cX8_arm 15 = .ok (.lconst 0, 1) := by decide +kernel
theorem dX8_arm_16 : decode cX8_arm 16 = .ok (.ldc2_w 302, 3) := by decide +kernel
theorem dX8_arm_19 : decode cX8_arm 19 = .ok (.invokestatic 130, 3) := by decide +kernel
theorem dX8_arm_22 : decode cX8_arm 22 = .ok (.ifCond .ne 11, 3) := by decide +kernel
theorem dX8_arm_25 : decode cX8_arm 25 = .ok (.iload_n 2, 1) := by decide +kernel
theorem dX8_arm_26 : decode cX8_arm 26 = .ok (.bipush 10, 2) := by decide +kernel
theorem dX8_arm_28 : decode cX8_arm 28 = .ok (.if_icmp .ge 5, 3) := by decide +kernel
theorem dX8_arm_31 : decode cX8_arm 31 = .ok (.iconst (-1), 1) := by decide +kernel
theorem dX8_arm_32 : decode cX8_arm 32 = .ok (.ireturn, 1) := by decide +kernel
theorem dX8_arm_33 : decode cX8_arm 33 = .ok (.iload_n 2, 1) := by decide +kernel
theorem dX8_arm_34 : decode cX8_arm 34 = .ok (.tableswitch 58 0 3 #[30, 37, 44, 51], 30) := by decide +kernel
theorem dX8_arm_64 : decode cX8_arm 64 = .ok (.aload_n 0, 1) := by decide +kernel
theorem dX8_arm_65 : decode cX8_arm 65 = .ok (.getfield 13, 3) := by decide +kernel
theorem dX8_arm_68 : decode cX8_arm 68 = .ok (.iload_n 1, 1) := by decide +kernel
theorem dX8_arm_69 : decode cX8_arm 69 = .ok (.iaload, 1) := by decide +kernel
theorem dX8_arm_70 : decode cX8_arm 70 = .ok (.ireturn, 1) := by decide +kernel
theorem dX8_arm_71 : decode cX8_arm 71 = .ok (.aload_n 0, 1) := by decide +kernel
theorem dX8_arm_72 : decode cX8_arm 72 = .ok (.getfield 20, 3) := by decide +kernel
theorem dX8_arm_75 : decode cX8_arm 75 = .ok (.iload_n 1, 1) := by decide +kernel
theorem dX8_arm_76 : decode cX8_arm 76 = .ok (.iaload, 1) := by decide +kernel
theorem dX8_arm_77 : decode cX8_arm 77 = .ok (.ireturn, 1) := by decide +kernel
theorem dX8_arm_78 : decode cX8_arm 78 = .ok (.aload_n 0, 1) := by decide +kernel
theorem dX8_arm_79 : decode cX8_arm 79 = .ok (.getfield 23, 3) := by decide +kernel
theorem dX8_arm_82 : decode cX8_arm 82 = .ok (.iload_n 1, 1) := by decide +kernel
theorem dX8_arm_83 : decode cX8_arm 83 = .ok (.iaload, 1) := by decide +kernel
theorem dX8_arm_84 : decode cX8_arm 84 = .ok (.ireturn, 1) := by decide +kernel
theorem dX8_arm_85 : decode cX8_arm 85 = .ok (.aload_n 0, 1) := by decide +kernel
theorem dX8_arm_86 : decode cX8_arm 86 = .ok (.getfield 26, 3) := by decide +kernel
theorem dX8_arm_89 : decode cX8_arm 89 = .ok (.iload_n 1, 1) := by decide +kernel
theorem dX8_arm_90 : decode cX8_arm 90 = .ok (.iaload, 1) := by decide +kernel
theorem dX8_arm_91 : decode cX8_arm 91 = .ok (.ireturn, 1) := by decide +kernel
theorem dX8_arm_92 : decode cX8_arm 92 = .ok (.iload_n 2, 1) := by decide +kernel
theorem dX8_arm_93 : decode cX8_arm 93 = .ok (.bipush 10, 2) := by decide +kernel
theorem dX8_arm_95 : decode cX8_arm 95 = .ok (.aload_n 0, 1) := by decide +kernel
theorem dX8_arm_96 : decode cX8_arm 96 = .ok (.getfield 13, 3) := by decide +kernel
theorem dX8_arm_99 : decode cX8_arm 99 = .ok (.iload_n 1, 1) := by decide +kernel
theorem dX8_arm_100 : decode cX8_arm 100 = .ok (.iaload, 1) := by decide +kernel
theorem dX8_arm_101 : decode cX8_arm 101 = .ok (.iadd, 1) := by decide +kernel
theorem dX8_arm_102 : decode cX8_arm 102 = .ok (.if_icmp .ge 20, 3) := by decide +kernel
theorem dX8_arm_105 : decode cX8_arm 105 = .ok (.aload_n 0, 1) := by decide +kernel
theorem dX8_arm_106 : decode cX8_arm 106 = .ok (.getfield 17, 3) := by decide +kernel
theorem dX8_arm_109 : decode cX8_arm 109 = .ok (.bipush 32, 2) := by decide +kernel
theorem dX8_arm_111 : decode cX8_arm 111 = .ok (.iload_n 1, 1) := by decide +kernel
theorem dX8_arm_112 : decode cX8_arm 112 = .ok (.imul, 1) := by decide +kernel
theorem dX8_arm_113 : decode cX8_arm 113 = .ok (.iload_n 2, 1) := by decide +kernel
theorem dX8_arm_114 : decode cX8_arm 114 = .ok (.iadd, 1) := by decide +kernel
theorem dX8_arm_115 : decode cX8_arm 115 = .ok (.bipush 10, 2) := by decide +kernel
theorem dX8_arm_117 : decode cX8_arm 117 = .ok (.isub, 1) := by decide +kernel
theorem dX8_arm_118 : decode cX8_arm 118 = .ok (.iaload, 1) := by decide +kernel
theorem dX8_arm_119 : decode cX8_arm 119 = .ok (.goto 5, 3) := by decide +kernel
theorem dX8_arm_122 : decode cX8_arm 122 = .ok (.bipush (-5), 2) := by decide +kernel
theorem dX8_arm_124 : decode cX8_arm 124 = .ok (.ireturn, 1) := by decide +kernel
theorem dX8_pass_0 : decode cX8_pass 0 = .ok (.aload_n 0, 1) := by decide +kernel
theorem dX8_pass_1 : decode cX8_pass 1 = .ok (.iconst 0, 1) := by decide +kernel
theorem dX8_pass_2 : decode cX8_pass 2 = .ok (.putfield 124, 3) := by decide +kernel
theorem dX8_pass_5 : decode cX8_pass 5 = .ok (.iload_n 1, 1) := by decide +kernel
theorem dX8_pass_6 : decode cX8_pass 6 = .ok (.i2l, 1) := by decide +kernel
theorem dX8_pass_7 : decode cX8_pass 7 = .ok (.lconst 0, 1) := by decide +kernel
theorem dX8_pass_8 : decode cX8_pass 8 = .ok (.ldc2_w 304, 3) := by decide +kernel
theorem dX8_pass_11 : decode cX8_pass 11 = .ok (.invokestatic 130, 3) := by decide +kernel
theorem dX8_pass_14 : decode cX8_pass 14 = .ok (.ifCond .ne 6, 3) := by decide +kernel
theorem dX8_pass_17 : decode cX8_pass 17 = .ok (.bipush (-2), 2) := by decide +kernel
theorem dX8_pass_19 : decode cX8_pass 19 = .ok (.ireturn, 1) := by decide +kernel
theorem dX8_pass_20 : decode cX8_pass 20 = .ok (.aload_n 0, 1) := by decide +kernel
theorem dX8_pass_21 : decode cX8_pass 21 = .ok (.getfield 157, 3) := by decide +kernel
theorem dX8_pass_24 : decode cX8_pass 24 = .ok (.iload_n 1, 1) := by decide +kernel
theorem dX8_pass_25 : decode cX8_pass 25 = .ok (.iadd, 1) := by decide +kernel
theorem dX8_pass_26 : decode cX8_pass 26 = .ok (.sipush 9999, 3) := by decide +kernel
theorem dX8_pass_29 : decode cX8_pass 29 = .ok (.if_icmp .le 6, 3) := by decide +kernel
theorem dX8_pass_32 : decode cX8_pass 32 = .ok (.bipush (-3), 2) := by decide +kernel
theorem dX8_pass_34 : decode cX8_pass 34 = .ok (.ireturn, 1) := by decide +kernel
theorem dX8_pass_35 : decode cX8_pass 35 = .ok (.aload_n 0, 1) := by decide +kernel
theorem dX8_pass_36 : decode cX8_pass 36 = .ok (.iload_n 1, 1) := by decide +kernel
theorem dX8_pass_37 : decode cX8_pass 37 = .ok (.invokevirtual 306, 3) := by decide +kernel
theorem dX8_pass_40 : decode cX8_pass 40 = .ok (.aload_n 0, 1) := by decide +kernel
theorem dX8_pass_41 : decode cX8_pass 41 = .ok (.getfield 157, 3) := by decide +kernel
theorem dX8_pass_44 : decode cX8_pass 44 = .ok (.ireturn, 1) := by decide +kernel
theorem dX8_cancel_0 : decode cX8_cancel 0 = .ok (.aload_n 0, 1) := by decide +kernel
theorem dX8_cancel_1 : decode cX8_cancel 1 = .ok (.iconst 0, 1) := by decide +kernel
theorem dX8_cancel_2 : decode cX8_cancel 2 = .ok (.putfield 124, 3) := by decide +kernel
theorem dX8_cancel_5 : decode cX8_cancel 5 = .ok (.aload_n 0, 1) := by decide +kernel
theorem dX8_cancel_6 : decode cX8_cancel 6 = .ok (.iload_n 1, 1) := by decide +kernel
theorem dX8_cancel_7 : decode cX8_cancel 7 = .ok (.invokevirtual 290, 3) := by decide +kernel
theorem dX8_cancel_10 : decode cX8_cancel 10 = .ok (.ifCond .ne 5, 3) := by decide +kernel
theorem dX8_cancel_13 : decode cX8_cancel 13 = .ok (.iconst (-1), 1) := by decide +kernel
theorem dX8_cancel_14 : decode cX8_cancel 14 = .ok (.ireturn, 1) := by decide +kernel
theorem dX8_cancel_15 : decode cX8_cancel 15 = .ok (.aload_n 0, 1) := by decide +kernel
theorem dX8_cancel_16 : decode cX8_cancel 16 = .ok (.iload_n 1, 1) := by decide +kernel
theorem dX8_cancel_17 : decode cX8_cancel 17 = .ok (.invokevirtual 183, 3) := by decide +kernel
theorem dX8_cancel_20 : decode cX8_cancel 20 = .ok (.ifCond .eq 6, 3) := by decide +kernel
theorem dX8_cancel_23 : decode cX8_cancel 23 = .ok (.bipush (-3), 2) := by decide +kernel
theorem dX8_cancel_25 : decode cX8_cancel 25 = .ok (.ireturn, 1) := by decide +kernel
theorem dX8_cancel_26 : decode cX8_cancel 26 = .ok (.aload_n 0, 1) := by decide +kernel
theorem dX8_cancel_27 : decode cX8_cancel 27 = .ok (.iload_n 1, 1) := by decide +kernel
theorem dX8_cancel_28 : decode cX8_cancel 28 = .ok (.invokevirtual 309, 3) := by decide +kernel
theorem dX8_cancel_31 : decode cX8_cancel 31 = .ok (.istore_n 2, 1) := by decide +kernel
theorem dX8_cancel_32 : decode cX8_cancel 32 = .ok (.aload_n 0, 1) := by decide +kernel
theorem dX8_cancel_33 : decode cX8_cancel 33 = .ok (.iload_n 1, 1) := by decide +kernel
theorem dX8_cancel_34 : decode cX8_cancel 34 = .ok (.invokevirtual 207, 3) := by decide +kernel
theorem dX8_cancel_37 : decode cX8_cancel 37 = .ok (.iload_n 2, 1) := by decide +kernel
theorem dX8_cancel_38 : decode cX8_cancel 38 = .ok (.ireturn, 1) := by decide +kernel
theorem dX8_tillOver_0 : decode cX8_tillOver 0 = .ok (.iconst 0, 1) := by decide +kernel
theorem dX8_tillOver_1 : decode cX8_tillOver 1 = .ok (.istore_n 1, 1) := by decide +kernel
theorem dX8_tillOver_2 : decode cX8_tillOver 2 = .ok (.iload_n 1, 1) := by decide +kernel
theorem dX8_tillOver_3 : decode cX8_tillOver 3 = .ok (.sipush 300, 3) := by decide +kernel
theorem dX8_tillOver_6 : decode cX8_tillOver 6 = .ok (.if_icmp .gt 20, 3) := by decide +kernel
theorem dX8_tillOver_9 : decode cX8_tillOver 9 = .ok (.aload_n 0, 1) := by decide +kernel
theorem dX8_tillOver_10 : decode cX8_tillOver 10 = .ok (.invokevirtual 312, 3) := by decide +kernel
theorem dX8_tillOver_13 : decode cX8_tillOver 13 = .ok (.ifCond .ne 13, 3) := by decide +kernel
theorem dX8_tillOver_16 : decode cX8_tillOver 16 = .ok (.aload_n 0, 1) := by decide +kernel
theorem dX8_tillOver_17 : decode cX8_tillOver 17 = .ok (.invokevirtual 233, 3) := by decide +kernel
theorem dX8_tillOver_20 : decode cX8_tillOver 20 = .ok (.iinc 1 1, 3) := by decide +kernel
theorem dX8_tillOver_23 : decode cX8_tillOver 23 = .ok (.goto (-21), 3) := by decide +kernel
theorem dX8_tillOver_26 : decode cX8_tillOver 26 = .ok (.iload_n 1, 1) := by decide +kernel
theorem dX8_tillOver_27 : decode cX8_tillOver 27 = .ok (.sipush 300, 3) := by decide +kernel
theorem dX8_tillOver_30 : decode cX8_tillOver 30 = .ok (.if_icmp .le 8, 3) := by decide +kernel
theorem dX8_tillOver_33 : decode cX8_tillOver 33 = .ok (.bipush (-5), 2) := by decide +kernel
theorem dX8_tillOver_35 : decode cX8_tillOver 35 = .ok (.goto 4, 3) := by decide +kernel
theorem dX8_tillOver_38 : decode cX8_tillOver 38 = .ok (.iload_n 1, 1) := by decide +kernel
theorem dX8_tillOver_39 : decode cX8_tillOver 39 = .ok (.ireturn, 1) := by decide +kernel
theorem dX8_tillBy_0 : decode cX8_tillBy 0 = .ok (.aload_n 0, 1) := by decide +kernel
theorem dX8_tillBy_1 : decode cX8_tillBy 1 = .ok (.invokevirtual 315, 3) := by decide +kernel
theorem dX8_tillBy_4 : decode cX8_tillBy 4 = .ok (.aload_n 0, 1) := by decide +kernel
theorem dX8_tillBy_5 : decode cX8_tillBy 5 = .ok (.iload_n 1, 1) := by decide +kernel
theorem dX8_tillBy_6 : decode cX8_tillBy 6 = .ok (.invokevirtual 238, 3) := by decide +kernel
theorem dX8_tillBy_9 : decode cX8_tillBy 9 = .ok (.aload_n 0, 1) := by decide +kernel
theorem dX8_tillBy_10 : decode cX8_tillBy 10 = .ok (.invokevirtual 318, 3) := by decide +kernel
theorem dX8_tillBy_13 : decode cX8_tillBy 13 = .ok (.istore_n 2, 1) := by decide +kernel
theorem dX8_tillBy_14 : decode cX8_tillBy 14 = .ok (.aload_n 0, 1) := by decide +kernel
theorem dX8_tillBy_15 : decode cX8_tillBy 15 = .ok (.invokevirtual 321, 3) := by decide +kernel
theorem dX8_tillBy_18 : decode cX8_tillBy 18 = .ok (.iload_n 2, 1) := by decide +kernel
theorem dX8_tillBy_19 : decode cX8_tillBy 19 = .ok (.ireturn, 1) := by decide +kernel
theorem dX8_bestArms_0 : decode cX8_bestArms 0 = .ok (.bipush (-5), 2) := by decide +kernel
theorem dX8_bestArms_2 : decode cX8_bestArms 2 = .ok (.istore_n 1, 1) := by decide +kernel
theorem dX8_bestArms_3 : decode cX8_bestArms 3 = .ok (.sipush 301, 3) := by decide +kernel
theorem dX8_bestArms_6 : decode cX8_bestArms 6 = .ok (.istore_n 2, 1) := by decide +kernel
theorem dX8_bestArms_7 : decode cX8_bestArms 7 = .ok (.iconst 1, 1) := by decide +kernel
theorem dX8_bestArms_8 : decode cX8_bestArms 8 = .ok (.istore_n 3, 1) := by decide +kernel
theorem dX8_bestArms_9 : decode cX8_bestArms 9 = .ok (.iload_n 3, 1) := by decide +kernel
theorem dX8_bestArms_10 : decode cX8_bestArms 10 = .ok (.iconst 4, 1) := by decide +kernel
theorem dX8_bestArms_11 : decode cX8_bestArms 11 = .ok (.if_icmp .gt 51, 3) := by decide +kernel
theorem dX8_bestArms_14 : decode cX8_bestArms 14 = .ok (.aload_n 0, 1) := by decide +kernel
theorem dX8_bestArms_15 : decode cX8_bestArms 15 = .ok (.iload_n 3, 1) := by decide +kernel
theorem dX8_bestArms_16 : decode cX8_bestArms 16 = .ok (.invokevirtual 324, 3) := by decide +kernel
theorem dX8_bestArms_19 : decode cX8_bestArms 19 = .ok (.istore 4, 2) := by decide +kernel
theorem dX8_bestArms_21 : decode cX8_bestArms 21 = .ok (.iload 4, 2) := by decide +kernel
theorem dX8_bestArms_23 : decode cX8_bestArms 23 = .ok (.ifCond .lt 13, 3) := by decide +kernel
theorem dX8_bestArms_26 : decode cX8_bestArms 26 = .ok (.iload 4, 2) := by decide +kernel
theorem dX8_bestArms_28 : decode cX8_bestArms 28 = .ok (.iload_n 2, 1) := by decide +kernel
theorem dX8_bestArms_29 : decode cX8_bestArms 29 = .ok (.if_icmp .ge 7, 3) := by decide +kernel
theorem dX8_bestArms_32 : decode cX8_bestArms 32 = .ok (.iload_n 3, 1) := by decide +kernel
theorem dX8_bestArms_33 : decode cX8_bestArms 33 = .ok (.goto 4, 3) := by decide +kernel
theorem dX8_bestArms_36 : decode cX8_bestArms 36 = .ok (.iload_n 1, 1) := by decide +kernel
theorem dX8_bestArms_37 : decode cX8_bestArms 37 = .ok (.istore_n 1, 1) := by decide +kernel
theorem dX8_bestArms_38 : decode cX8_bestArms 38 = .ok (.iload 4, 2) := by decide +kernel
theorem dX8_bestArms_40 : decode cX8_bestArms 40 = .ok (.ifCond .lt 14, 3) := by decide +kernel
theorem dX8_bestArms_43 : decode cX8_bestArms 43 = .ok (.iload 4, 2) := by decide +kernel
theorem dX8_bestArms_45 : decode cX8_bestArms 45 = .ok (.iload_n 2, 1) := by decide +kernel
theorem dX8_bestArms_46 : decode cX8_bestArms 46 = .ok (.if_icmp .ge 8, 3) := by decide +kernel
theorem dX8_bestArms_49 : decode cX8_bestArms 49 = .ok (.iload 4, 2) := by decide +kernel
theorem dX8_bestArms_51 : decode cX8_bestArms 51 = .ok (.goto 4, 3) := by decide +kernel
theorem dX8_bestArms_54 : decode cX8_bestArms 54 = .ok (.iload_n 2, 1) := by decide +kernel
theorem dX8_bestArms_55 : decode cX8_bestArms 55 = .ok (.istore_n 2, 1) := by decide +kernel
theorem dX8_bestArms_56 : decode cX8_bestArms 56 = .ok (.iinc 3 1, 3) := by decide +kernel
theorem dX8_bestArms_59 : decode cX8_bestArms 59 = .ok (.goto (-50), 3) := by decide +kernel
theorem dX8_bestArms_62 : decode cX8_bestArms 62 = .ok (.iload_n 1, 1) := by decide +kernel
theorem dX8_bestArms_63 : decode cX8_bestArms 63 = .ok (.ireturn, 1) := by decide +kernel
theorem dX8_told_0 : decode cX8_told 0 = .ok (.aload_n 0, 1) := by decide +kernel
theorem dX8_told_1 : decode cX8_told 1 = .ok (.iconst 0, 1) := by decide +kernel
theorem dX8_told_2 : decode cX8_told 2 = .ok (.putfield 124, 3) := by decide +kernel
theorem dX8_told_5 : decode cX8_told 5 = .ok (.iload_n 1, 1) := by decide +kernel
theorem dX8_told_6 : decode cX8_told 6 = .ok (.tableswitch 89 0 6 #[42, 47, 52, 57, 70, 79, 84], 42) := by decide +kernel
theorem dX8_told_48 : decode cX8_told 48 = .ok (.aload_n 0, 1) := by decide +kernel
theorem dX8_told_49 : decode cX8_told 49 = .ok (.getfield 157, 3) := by decide +kernel
theorem dX8_told_52 : decode cX8_told 52 = .ok (.ireturn, 1) := by decide +kernel
theorem dX8_told_53 : decode cX8_told 53 = .ok (.aload_n 0, 1) := by decide +kernel
theorem dX8_told_54 : decode cX8_told 54 = .ok (.getfield 50, 3) := by decide +kernel
theorem dX8_told_57 : decode cX8_told 57 = .ok (.ireturn, 1) := by decide +kernel
theorem dX8_told_58 : decode cX8_told 58 = .ok (.aload_n 0, 1) := by decide +kernel
theorem dX8_told_59 : decode cX8_told 59 = .ok (.getfield 7, 3) := by decide +kernel
theorem dX8_told_62 : decode cX8_told 62 = .ok (.ireturn, 1) := by decide +kernel
theorem dX8_told_63 : decode cX8_told 63 = .ok (.aload_n 0, 1) := by decide +kernel
theorem dX8_told_64 : decode cX8_told 64 = .ok (.invokevirtual 312, 3) := by decide +kernel
theorem dX8_told_67 : decode cX8_told 67 = .ok (.ifCond .eq 7, 3) := by decide +kernel
theorem dX8_told_70 : decode cX8_told 70 = .ok (.iconst 1, 1) := by decide +kernel
theorem dX8_told_71 : decode cX8_told 71 = .ok (.goto 4, 3) := by decide +kernel
theorem dX8_told_74 : decode cX8_told 74 = .ok (.iconst 0, 1) := by decide +kernel
theorem dX8_told_75 : decode cX8_told 75 = .ok (.ireturn, 1) := by decide +kernel
theorem dX8_told_76 : decode cX8_told 76 = .ok (.aload_n 0, 1) := by decide +kernel
theorem dX8_told_77 : decode cX8_told 77 = .ok (.aload_n 0, 1) := by decide +kernel
theorem dX8_told_78 : decode cX8_told 78 = .ok (.getfield 7, 3) := by decide +kernel
theorem dX8_told_81 : decode cX8_told 81 = .ok (.invokevirtual 324, 3) := by decide +kernel
theorem dX8_told_84 : decode cX8_told 84 = .ok (.ireturn, 1) := by decide +kernel
theorem dX8_told_85 : decode cX8_told 85 = .ok (.aload_n 0, 1) := by decide +kernel
theorem dX8_told_86 : decode cX8_told 86 = .ok (.invokevirtual 327, 3) := by decide +kernel
theorem dX8_told_89 : decode cX8_told 89 = .ok (.ireturn, 1) := by decide +kernel
theorem dX8_told_90 : decode cX8_told 90 = .ok (.aload_n 0, 1) := by decide +kernel
theorem dX8_told_91 : decode cX8_told 91 = .ok (.getfield 160, 3) := by decide +kernel
theorem dX8_told_94 : decode cX8_told 94 = .ok (.ireturn, 1) := by decide +kernel
theorem dX8_told_95 : decode cX8_told 95 = .ok (.sipush (-10001), 3) := by decide +kernel
theorem dX8_told_98 : decode cX8_told 98 = .ok (.ireturn, 1) := by decide +kernel
theorem dX8_trace_0 : decode cX8_trace 0 = .ok (.aload_n 0, 1) := by decide +kernel
theorem dX8_trace_1 : decode cX8_trace 1 = .ok (.iconst 0, 1) := by decide +kernel
theorem dX8_trace_2 : decode cX8_trace 2 = .ok (.putfield 124, 3) := by decide +kernel
theorem dX8_trace_5 : decode cX8_trace 5 = .ok (.iload_n 1, 1) := by decide +kernel
theorem dX8_trace_6 : decode cX8_trace 6 = .ok (.i2l, 1) := by decide +kernel
theorem dX8_trace_7 : decode cX8_trace 7 = .ok (.lconst 0, 1) := by decide +kernel
theorem dX8_trace_8 : decode cX8_trace 8 = .ok (.aload_n 0, 1) := by decide +kernel
theorem dX8_trace_9 : decode cX8_trace 9 = .ok (.getfield 160, 3) := by decide +kernel
theorem dX8_trace_12 : decode cX8_trace 12 = .ok (.iconst 1, 1) := by decide +kernel
theorem dX8_trace_13 : decode cX8_trace 13 = .ok (.isub, 1) := by decide +kernel
theorem dX8_trace_14 : decode cX8_trace 14 = .ok (.i2l, 1) := by decide +kernel
theorem dX8_trace_15 : decode cX8_trace 15 = .ok (.invokestatic 130, 3) := by decide +kernel
theorem dX8_trace_18 : decode cX8_trace 18 = .ok (.ifCond .eq 28, 3) := by decide +kernel
theorem dX8_trace_21 : decode cX8_trace 21 = .ok (.iload_n 2, 1) := by decide +kernel
theorem dX8_trace_22 : decode cX8_trace 22 = .ok (.i2l, 1) := by decide +kernel
theorem dX8_trace_23 : decode cX8_trace 23 = .ok (.lconst 0, 1) := by decide +kernel
theorem dX8_trace_24 : decode cX8_trace 24 = .ok (.ldc2_w 302, 3) := by decide +kernel
theorem dX8_trace_27 : decode cX8_trace 27 = .ok (.invokestatic 130, 3) := by decide +kernel
theorem dX8_trace_30 : decode cX8_trace 30 = .ok (.ifCond .eq 16, 3) := by decide +kernel
theorem dX8_trace_33 : decode cX8_trace 33 = .ok (.aload_n 0, 1) := by decide +kernel
theorem dX8_trace_34 : decode cX8_trace 34 = .ok (.getfield 53, 3) := by decide +kernel
theorem dX8_trace_37 : decode cX8_trace 37 = .ok (.iconst 4, 1) := by decide +kernel
theorem dX8_trace_38 : decode cX8_trace 38 = .ok (.iload_n 1, 1) := by decide +kernel
theorem dX8_trace_39 : decode cX8_trace 39 = .ok (.imul, 1) := by decide +kernel
theorem dX8_trace_40 : decode cX8_trace 40 = .ok (.iload_n 2, 1) := by decide +kernel
theorem dX8_trace_41 : decode cX8_trace 41 = .ok (.iadd, 1) := by decide +kernel
theorem dX8_trace_42 : decode cX8_trace 42 = .ok (.iaload, 1) := by decide +kernel
theorem dX8_trace_43 : decode cX8_trace 43 = .ok (.goto 4, 3) := by decide +kernel
theorem dX8_trace_46 : decode cX8_trace 46 = .ok (.iconst (-1), 1) := by decide +kernel
theorem dX8_trace_47 : decode cX8_trace 47 = .ok (.ireturn, 1) := by decide +kernel
theorem dX8_endedMany_0 : decode cX8_endedMany 0 = .ok (.iconst 0, 1) := by decide +kernel
theorem dX8_endedMany_1 : decode cX8_endedMany 1 = .ok (.istore_n 1, 1) := by decide +kernel
theorem dX8_endedMany_2 : decode cX8_endedMany 2 = .ok (.iconst 0, 1) := by decide +kernel
theorem dX8_endedMany_3 : decode cX8_endedMany 3 = .ok (.istore_n 2, 1) := by decide +kernel
theorem dX8_endedMany_4 : decode cX8_endedMany 4 = .ok (.iload_n 2, 1) := by decide +kernel
theorem dX8_endedMany_5 : decode cX8_endedMany 5 = .ok (.aload_n 0, 1) := by decide +kernel
theorem dX8_endedMany_6 : decode cX8_endedMany 6 = .ok (.getfield 127, 3) := by decide +kernel
theorem dX8_endedMany_9 : decode cX8_endedMany 9 = .ok (.if_icmp .ge 25, 3) := by decide +kernel
theorem dX8_endedMany_12 : decode cX8_endedMany 12 = .ok (.iload_n 1, 1) := by decide +kernel
theorem dX8_endedMany_13 : decode cX8_endedMany 13 = .ok (.aload_n 0, 1) := by decide +kernel
theorem dX8_endedMany_14 : decode cX8_endedMany 14 = .ok (.iload_n 2, 1) := by decide +kernel
theorem dX8_endedMany_15 : decode cX8_endedMany 15 = .ok (.invokevirtual 183, 3) := by decide +kernel
theorem dX8_endedMany_18 : decode cX8_endedMany 18 = .ok (.ifCond .eq 7, 3) := by decide +kernel
theorem dX8_endedMany_21 : decode cX8_endedMany 21 = .ok (.iconst 1, 1) := by decide +kernel
theorem dX8_endedMany_22 : decode cX8_endedMany 22 = .ok (.goto 4, 3) := by decide +kernel
theorem dX8_endedMany_25 : decode cX8_endedMany 25 = .ok (.iconst 0, 1) := by decide +kernel
theorem dX8_endedMany_26 : decode cX8_endedMany 26 = .ok (.iadd, 1) := by decide +kernel
theorem dX8_endedMany_27 : decode cX8_endedMany 27 = .ok (.istore_n 1, 1) := by decide +kernel
theorem dX8_endedMany_28 : decode cX8_endedMany 28 = .ok (.iinc 2 1, 3) := by decide +kernel
theorem dX8_endedMany_31 : decode cX8_endedMany 31 = .ok (.goto (-27), 3) := by decide +kernel
theorem dX8_endedMany_34 : decode cX8_endedMany 34 = .ok (.iload_n 1, 1) := by decide +kernel
theorem dX8_endedMany_35 : decode cX8_endedMany 35 = .ok (.ireturn, 1) := by decide +kernel
theorem dX8_doneMany_0 : decode cX8_doneMany 0 = .ok (.iconst 0, 1) := by decide +kernel
theorem dX8_doneMany_1 : decode cX8_doneMany 1 = .ok (.istore_n 1, 1) := by decide +kernel
theorem dX8_doneMany_2 : decode cX8_doneMany 2 = .ok (.iconst 0, 1) := by decide +kernel
theorem dX8_doneMany_3 : decode cX8_doneMany 3 = .ok (.istore_n 2, 1) := by decide +kernel
theorem dX8_doneMany_4 : decode cX8_doneMany 4 = .ok (.iload_n 2, 1) := by decide +kernel
theorem dX8_doneMany_5 : decode cX8_doneMany 5 = .ok (.aload_n 0, 1) := by decide +kernel
theorem dX8_doneMany_6 : decode cX8_doneMany 6 = .ok (.getfield 127, 3) := by decide +kernel
theorem dX8_doneMany_9 : decode cX8_doneMany 9 = .ok (.if_icmp .ge 27, 3) := by decide +kernel
theorem dX8_doneMany_12 : decode cX8_doneMany 12 = .ok (.iload_n 1, 1) := by decide +kernel
theorem dX8_doneMany_13 : decode cX8_doneMany 13 = .ok (.aload_n 0, 1) := by decide +kernel
theorem dX8_doneMany_14 : decode cX8_doneMany 14 = .ok (.getfield 29, 3) := by decide +kernel
theorem dX8_doneMany_17 : decode cX8_doneMany 17 = .ok (.iload_n 2, 1) := by decide +kernel
theorem dX8_doneMany_18 : decode cX8_doneMany 18 = .ok (.iaload, 1) := by decide +kernel
theorem dX8_doneMany_19 : decode cX8_doneMany 19 = .ok (.iconst 3, 1) := by decide +kernel
theorem dX8_doneMany_20 : decode cX8_doneMany 20 = .ok (.if_icmp .ne 7, 3) := by decide +kernel
theorem dX8_doneMany_23 : decode cX8_doneMany 23 = .ok (.iconst 1, 1) := by decide +kernel
theorem dX8_doneMany_24 : decode cX8_doneMany 24 = .ok (.goto 4, 3) := by decide +kernel
theorem dX8_doneMany_27 : decode cX8_doneMany 27 = .ok (.iconst 0, 1) := by decide +kernel
theorem dX8_doneMany_28 : decode cX8_doneMany 28 = .ok (.iadd, 1) := by decide +kernel
theorem dX8_doneMany_29 : decode cX8_doneMany 29 = .ok (.istore_n 1, 1) := by decide +kernel
theorem dX8_doneMany_30 : decode cX8_doneMany 30 = .ok (.iinc 2 1, 3) := by decide +kernel
theorem dX8_doneMany_33 : decode cX8_doneMany 33 = .ok (.goto (-29), 3) := by decide +kernel
theorem dX8_doneMany_36 : decode cX8_doneMany 36 = .ok (.iload_n 1, 1) := by decide +kernel
theorem dX8_doneMany_37 : decode cX8_doneMany 37 = .ok (.ireturn, 1) := by decide +kernel
theorem dX8_worthAll_0 : decode cX8_worthAll 0 = .ok (.iconst 0, 1) := by decide +kernel
theorem dX8_worthAll_1 : decode cX8_worthAll 1 = .ok (.istore_n 1, 1) := by decide +kernel
theorem dX8_worthAll_2 : decode cX8_worthAll 2 = .ok (.iconst 0, 1) := by decide +kernel
theorem dX8_worthAll_3 : decode cX8_worthAll 3 = .ok (.istore_n 2, 1) := by decide +kernel
theorem dX8_worthAll_4 : decode cX8_worthAll 4 = .ok (.iload_n 2, 1) := by decide +kernel
theorem dX8_worthAll_5 : decode cX8_worthAll 5 = .ok (.aload_n 0, 1) := by decide +kernel
theorem dX8_worthAll_6 : decode cX8_worthAll 6 = .ok (.getfield 127, 3) := by decide +kernel
theorem dX8_worthAll_9 : decode cX8_worthAll 9 = .ok (.if_icmp .ge 32, 3) := by decide +kernel
theorem dX8_worthAll_12 : decode cX8_worthAll 12 = .ok (.iload_n 1, 1) := by decide +kernel
theorem dX8_worthAll_13 : decode cX8_worthAll 13 = .ok (.aload_n 0, 1) := by decide +kernel
theorem dX8_worthAll_14 : decode cX8_worthAll 14 = .ok (.getfield 29, 3) := by decide +kernel
theorem dX8_worthAll_17 : decode cX8_worthAll 17 = .ok (.iload_n 2, 1) := by decide +kernel
theorem dX8_worthAll_18 : decode cX8_worthAll 18 = .ok (.iaload, 1) := by decide +kernel
theorem dX8_worthAll_19 : decode cX8_worthAll 19 = .ok (.iconst 3, 1) := by decide +kernel
theorem dX8_worthAll_20 : decode cX8_worthAll 20 = .ok (.if_icmp .ne 12, 3) := by decide +kernel
theorem dX8_worthAll_23 : decode cX8_worthAll 23 = .ok (.aload_n 0, 1) := by decide +kernel
theorem dX8_worthAll_24 : decode cX8_worthAll 24 = .ok (.getfield 38, 3) := by decide +kernel
theorem dX8_worthAll_27 : decode cX8_worthAll 27 = .ok (.iload_n 2, 1) := by decide +kernel
theorem dX8_worthAll_28 : decode cX8_worthAll 28 = .ok (.iaload, 1) := by decide +kernel
theorem dX8_worthAll_29 : decode cX8_worthAll 29 = .ok (.goto 4, 3) := by decide +kernel
theorem dX8_worthAll_32 : decode cX8_worthAll 32 = .ok (.iconst 0, 1) := by decide +kernel
theorem dX8_worthAll_33 : decode cX8_worthAll 33 = .ok (.iadd, 1) := by decide +kernel
theorem dX8_worthAll_34 : decode cX8_worthAll 34 = .ok (.istore_n 1, 1) := by decide +kernel
theorem dX8_worthAll_35 : decode cX8_worthAll 35 = .ok (.iinc 2 1, 3) := by decide +kernel
theorem dX8_worthAll_38 : decode cX8_worthAll 38 = .ok (.goto (-34), 3) := by decide +kernel
theorem dX8_worthAll_41 : decode cX8_worthAll 41 = .ok (.iload_n 1, 1) := by decide +kernel
theorem dX8_worthAll_42 : decode cX8_worthAll 42 = .ok (.ireturn, 1) := by decide +kernel
theorem dX8_ofArms_0 : decode cX8_ofArms 0 = .ok (.iconst 0, 1) := by decide +kernel
theorem dX8_ofArms_1 : decode cX8_ofArms 1 = .ok (.istore_n 2, 1) := by decide +kernel
theorem dX8_ofArms_2 : decode cX8_ofArms 2 = .ok (.iconst 0, 1) := by decide +kernel
theorem dX8_ofArms_3 : decode cX8_ofArms 3 = .ok (.istore_n 3, 1) := by decide +kernel
theorem dX8_ofArms_4 : decode cX8_ofArms 4 = .ok (.iload_n 3, 1) := by decide +kernel
theorem dX8_ofArms_5 : decode cX8_ofArms 5 = .ok (.aload_n 0, 1) := by decide +kernel
theorem dX8_ofArms_6 : decode cX8_ofArms 6 = .ok (.getfield 7, 3) := by decide +kernel
theorem dX8_ofArms_9 : decode cX8_ofArms 9 = .ok (.if_icmp .ge 32, 3) := by decide +kernel
theorem dX8_ofArms_12 : decode cX8_ofArms 12 = .ok (.iload_n 2, 1) := by decide +kernel
theorem dX8_ofArms_13 : decode cX8_ofArms 13 = .ok (.iload_n 1, 1) := by decide +kernel
theorem dX8_ofArms_14 : decode cX8_ofArms 14 = .ok (.iconst 2, 1) := by decide +kernel
theorem dX8_ofArms_15 : decode cX8_ofArms 15 = .ok (.if_icmp .ne 12, 3) := by decide +kernel
theorem dX8_ofArms_18 : decode cX8_ofArms 18 = .ok (.aload_n 0, 1) := by decide +kernel
theorem dX8_ofArms_19 : decode cX8_ofArms 19 = .ok (.getfield 23, 3) := by decide +kernel
theorem dX8_ofArms_22 : decode cX8_ofArms 22 = .ok (.iload_n 3, 1) := by decide +kernel
theorem dX8_ofArms_23 : decode cX8_ofArms 23 = .ok (.iaload, 1) := by decide +kernel
theorem dX8_ofArms_24 : decode cX8_ofArms 24 = .ok (.goto 9, 3) := by decide +kernel
theorem dX8_ofArms_27 : decode cX8_ofArms 27 = .ok (.aload_n 0, 1) := by decide +kernel
theorem dX8_ofArms_28 : decode cX8_ofArms 28 = .ok (.getfield 26, 3) := by decide +kernel
theorem dX8_ofArms_31 : decode cX8_ofArms 31 = .ok (.iload_n 3, 1) := by decide +kernel
theorem dX8_ofArms_32 : decode cX8_ofArms 32 = .ok (.iaload, 1) := by decide +kernel
theorem dX8_ofArms_33 : decode cX8_ofArms 33 = .ok (.iadd, 1) := by decide +kernel
theorem dX8_ofArms_34 : decode cX8_ofArms 34 = .ok (.istore_n 2, 1) := by decide +kernel
theorem dX8_ofArms_35 : decode cX8_ofArms 35 = .ok (.iinc 3 1, 3) := by decide +kernel
theorem dX8_ofArms_38 : decode cX8_ofArms 38 = .ok (.goto (-34), 3) := by decide +kernel
theorem dX8_ofArms_41 : decode cX8_ofArms 41 = .ok (.iload_n 2, 1) := by decide +kernel
theorem dX8_ofArms_42 : decode cX8_ofArms 42 = .ok (.ireturn, 1) := by decide +kernel
theorem dX8_on_0 : decode cX8_on 0 = .ok (.aload_n 0, 1) := by decide +kernel
theorem dX8_on_1 : decode cX8_on 1 = .ok (.iconst 0, 1) := by decide +kernel
theorem dX8_on_2 : decode cX8_on 2 = .ok (.putfield 124, 3) := by decide +kernel
theorem dX8_on_5 : decode cX8_on 5 = .ok (.iload_n 2, 1) := by decide +kernel
theorem dX8_on_6 : decode cX8_on 6 = .ok (.i2l, 1) := by decide +kernel
theorem dX8_on_7 : decode cX8_on 7 = .ok (.lconst 0, 1) := by decide +kernel
theorem dX8_on_8 : decode cX8_on 8 = .ok (.ldc2_w 302, 3) := by decide +kernel
theorem dX8_on_11 : decode cX8_on 11 = .ok (.invokestatic 130, 3) := by decide +kernel
theorem dX8_on_14 : decode cX8_on 14 = .ok (.ifCond .ne 5, 3) := by decide +kernel
theorem dX8_on_17 : decode cX8_on 17 = .ok (.iconst (-1), 1) := by decide +kernel
theorem dX8_on_18 : decode cX8_on 18 = .ok (.ireturn, 1) := by decide +kernel
theorem dX8_on_19 : decode cX8_on 19 = .ok (.iload_n 1, 1) := by decide +kernel
theorem dX8_on_20 : decode cX8_on 20 = .ok (.i2l, 1) := by decide +kernel
theorem dX8_on_21 : decode cX8_on 21 = .ok (.lconst 0, 1) := by decide +kernel
theorem dX8_on_22 : decode cX8_on 22 = .ok (.ldc2_w 304, 3) := by decide +kernel
theorem dX8_on_25 : decode cX8_on 25 = .ok (.invokestatic 130, 3) := by decide +kernel
theorem dX8_on_28 : decode cX8_on 28 = .ok (.ifCond .ne 6, 3) := by decide +kernel
theorem dX8_on_31 : decode cX8_on 31 = .ok (.bipush (-2), 2) := by decide +kernel
theorem dX8_on_33 : decode cX8_on 33 = .ok (.ireturn, 1) := by decide +kernel
theorem dX8_on_34 : decode cX8_on 34 = .ok (.aload_n 0, 1) := by decide +kernel
theorem dX8_on_35 : decode cX8_on 35 = .ok (.invokevirtual 315, 3) := by decide +kernel
theorem dX8_on_38 : decode cX8_on 38 = .ok (.aload_n 0, 1) := by decide +kernel
theorem dX8_on_39 : decode cX8_on 39 = .ok (.iload_n 1, 1) := by decide +kernel
theorem dX8_on_40 : decode cX8_on 40 = .ok (.invokevirtual 306, 3) := by decide +kernel
theorem dX8_on_43 : decode cX8_on 43 = .ok (.iload_n 2, 1) := by decide +kernel
theorem dX8_on_44 : decode cX8_on 44 = .ok (.ifCond .ne 10, 3) := by decide +kernel
theorem dX8_on_47 : decode cX8_on 47 = .ok (.aload_n 0, 1) := by decide +kernel
theorem dX8_on_48 : decode cX8_on 48 = .ok (.invokevirtual 330, 3) := by decide +kernel
theorem dX8_on_51 : decode cX8_on 51 = .ok (.goto 20, 3) := by decide +kernel
theorem dX8_on_54 : decode cX8_on 54 = .ok (.iload_n 2, 1) := by decide +kernel
theorem dX8_on_55 : decode cX8_on 55 = .ok (.iconst 1, 1) := by decide +kernel
theorem dX8_on_56 : decode cX8_on 56 = .ok (.if_icmp .ne 10, 3) := by decide +kernel
theorem dX8_on_59 : decode cX8_on 59 = .ok (.aload_n 0, 1) := by decide +kernel
theorem dX8_on_60 : decode cX8_on 60 = .ok (.invokevirtual 333, 3) := by decide +kernel
theorem dX8_on_63 : decode cX8_on 63 = .ok (.goto 8, 3) := by decide +kernel
theorem dX8_on_66 : decode cX8_on 66 = .ok (.aload_n 0, 1) := by decide +kernel
theorem dX8_on_67 : decode cX8_on 67 = .ok (.iload_n 2, 1) := by decide +kernel
theorem dX8_on_68 : decode cX8_on 68 = .ok (.invokevirtual 336, 3) := by decide +kernel
theorem dX8_on_71 : decode cX8_on 71 = .ok (.istore_n 3, 1) := by decide +kernel
theorem dX8_on_72 : decode cX8_on 72 = .ok (.aload_n 0, 1) := by decide +kernel
theorem dX8_on_73 : decode cX8_on 73 = .ok (.invokevirtual 321, 3) := by decide +kernel
theorem dX8_on_76 : decode cX8_on 76 = .ok (.iload_n 3, 1) := by decide +kernel
theorem dX8_on_77 : decode cX8_on 77 = .ok (.ireturn, 1) := by decide +kernel
theorem dX8_till_0 : decode cX8_till 0 = .ok (.aload_n 0, 1) := by decide +kernel
theorem dX8_till_1 : decode cX8_till 1 = .ok (.iconst 0, 1) := by decide +kernel
theorem dX8_till_2 : decode cX8_till 2 = .ok (.putfield 124, 3) := by decide +kernel
theorem dX8_till_5 : decode cX8_till 5 = .ok (.iload_n 1, 1) := by decide +kernel
theorem dX8_till_6 : decode cX8_till 6 = .ok (.i2l, 1) := by decide +kernel
theorem dX8_till_7 : decode cX8_till 7 = .ok (.lconst 1, 1) := by decide +kernel
theorem dX8_till_8 : decode cX8_till 8 = .ok (.ldc2_w 236, 3) := by decide +kernel
theorem dX8_till_11 : decode cX8_till 11 = .ok (.invokestatic 130, 3) := by decide +kernel
theorem dX8_till_14 : decode cX8_till 14 = .ok (.ifCond .eq 11, 3) := by decide +kernel
theorem dX8_till_17 : decode cX8_till 17 = .ok (.aload_n 0, 1) := by decide +kernel
theorem dX8_till_18 : decode cX8_till 18 = .ok (.iload_n 1, 1) := by decide +kernel
theorem dX8_till_19 : decode cX8_till 19 = .ok (.invokevirtual 324, 3) := by decide +kernel
theorem dX8_till_22 : decode cX8_till 22 = .ok (.goto 5, 3) := by decide +kernel
theorem dX8_till_25 : decode cX8_till 25 = .ok (.bipush (-2), 2) := by decide +kernel
theorem dX8_till_27 : decode cX8_till 27 = .ok (.ireturn, 1) := by decide +kernel
theorem dX8_see_0 : decode cX8_see 0 = .ok (.aload_n 0, 1) := by decide +kernel
theorem dX8_see_1 : decode cX8_see 1 = .ok (.iconst 0, 1) := by decide +kernel
theorem dX8_see_2 : decode cX8_see 2 = .ok (.putfield 124, 3) := by decide +kernel
theorem dX8_see_5 : decode cX8_see 5 = .ok (.iload_n 1, 1) := by decide +kernel
theorem dX8_see_6 : decode cX8_see 6 = .ok (.iconst (-1), 1) := by decide +kernel
theorem dX8_see_7 : decode cX8_see 7 = .ok (.if_icmp .ne 10, 3) := by decide +kernel
theorem dX8_see_10 : decode cX8_see 10 = .ok (.aload_n 0, 1) := by decide +kernel
theorem dX8_see_11 : decode cX8_see 11 = .ok (.iconst 0, 1) := by decide +kernel
theorem dX8_see_12 : decode cX8_see 12 = .ok (.putfield 144, 3) := by decide +kernel
theorem dX8_see_15 : decode cX8_see 15 = .ok (.iconst 0, 1) := by decide +kernel
theorem dX8_see_16 : decode cX8_see 16 = .ok (.ireturn, 1) := by decide +kernel
theorem dX8_see_17 : decode cX8_see 17 = .ok (.aload_n 0, 1) := by decide +kernel
theorem dX8_see_18 : decode cX8_see 18 = .ok (.iload_n 1, 1) := by decide +kernel
theorem dX8_see_19 : decode cX8_see 19 = .ok (.invokevirtual 290, 3) := by decide +kernel
theorem dX8_see_22 : decode cX8_see 22 = .ok (.ifCond .ne 5, 3) := by decide +kernel
theorem dX8_see_25 : decode cX8_see 25 = .ok (.iconst (-1), 1) := by decide +kernel
theorem dX8_see_26 : decode cX8_see 26 = .ok (.ireturn, 1) := by decide +kernel
theorem dX8_see_27 : decode cX8_see 27 = .ok (.iload_n 2, 1) := by decide +kernel
theorem dX8_see_28 : decode cX8_see 28 = .ok (.i2l, 1) := by decide +kernel
theorem dX8_see_29 : decode cX8_see 29 = .ok (.lconst 0, 1) := by decide +kernel
theorem dX8_see_30 : decode cX8_see 30 = .ok (.ldc2_w 339, 3) := by decide +kernel
theorem dX8_see_33 : decode cX8_see 33 = .ok (.invokestatic 130, 3) := by decide +kernel
theorem dX8_see_36 : decode cX8_see 36 = .ok (.ifCond .ne 6, 3) := by decide +kernel
theorem dX8_see_39 : decode cX8_see 39 = .ok (.bipush (-2), 2) := by decide +kernel
theorem dX8_see_41 : decode cX8_see 41 = .ok (.ireturn, 1) := by decide +kernel
theorem dX8_see_42 : decode cX8_see 42 = .ok (.aload_n 0, 1) := by decide +kernel
theorem dX8_see_43 : decode cX8_see 43 = .ok (.getfield 144, 3) := by decide +kernel
theorem dX8_see_46 : decode cX8_see 46 = .ok (.iconst 5, 1) := by decide +kernel
theorem dX8_see_47 : decode cX8_see 47 = .ok (.if_icmp .ne 6, 3) := by decide +kernel
theorem dX8_see_50 : decode cX8_see 50 = .ok (.bipush (-4), 2) := by decide +kernel
theorem dX8_see_52 : decode cX8_see 52 = .ok (.ireturn, 1) := by decide +kernel
theorem dX8_see_53 : decode cX8_see 53 = .ok (.aload_n 0, 1) := by decide +kernel
theorem dX8_see_54 : decode cX8_see 54 = .ok (.getfield 56, 3) := by decide +kernel
theorem dX8_see_57 : decode cX8_see 57 = .ok (.aload_n 0, 1) := by decide +kernel
theorem dX8_see_58 : decode cX8_see 58 = .ok (.getfield 144, 3) := by decide +kernel
theorem dX8_see_61 : decode cX8_see 61 = .ok (.iload_n 1, 1) := by decide +kernel
theorem dX8_see_62 : decode cX8_see 62 = .ok (.iastore, 1) := by decide +kernel
theorem dX8_see_63 : decode cX8_see 63 = .ok (.aload_n 0, 1) := by decide +kernel
theorem dX8_see_64 : decode cX8_see 64 = .ok (.getfield 59, 3) := by decide +kernel
theorem dX8_see_67 : decode cX8_see 67 = .ok (.aload_n 0, 1) := by decide +kernel
theorem dX8_see_68 : decode cX8_see 68 = .ok (.getfield 144, 3) := by decide +kernel
theorem dX8_see_71 : decode cX8_see 71 = .ok (.iload_n 2, 1) := by decide +kernel
theorem dX8_see_72 : decode cX8_see 72 = .ok (.iastore, 1) := by decide +kernel
theorem dX8_see_73 : decode cX8_see 73 = .ok (.aload_n 0, 1) := by decide +kernel
theorem dX8_see_74 : decode cX8_see 74 = .ok (.dup, 1) := by decide +kernel
theorem dX8_see_75 : decode cX8_see 75 = .ok (.getfield 144, 3) := by decide +kernel
theorem dX8_see_78 : decode cX8_see 78 = .ok (.iconst 1, 1) := by decide +kernel
theorem dX8_see_79 : decode cX8_see 79 = .ok (.iadd, 1) := by decide +kernel
theorem dX8_see_80 : decode cX8_see 80 = .ok (.putfield 144, 3) := by decide +kernel
theorem dX8_see_83 : decode cX8_see 83 = .ok (.aload_n 0, 1) := by decide +kernel
theorem dX8_see_84 : decode cX8_see 84 = .ok (.getfield 144, 3) := by decide +kernel
theorem dX8_see_87 : decode cX8_see 87 = .ok (.ireturn, 1) := by decide +kernel
theorem dX8_allSeen_0 : decode cX8_allSeen 0 = .ok (.iconst (-1), 1) := by decide +kernel
theorem dX8_allSeen_1 : decode cX8_allSeen 1 = .ok (.istore_n 2, 1) := by decide +kernel
theorem dX8_allSeen_2 : decode cX8_allSeen 2 = .ok (.iconst 0, 1) := by decide +kernel
theorem dX8_allSeen_3 : decode cX8_allSeen 3 = .ok (.istore_n 3, 1) := by decide +kernel
theorem dX8_allSeen_4 : decode cX8_allSeen 4 = .ok (.iload_n 3, 1) := by decide +kernel
theorem dX8_allSeen_5 : decode cX8_allSeen 5 = .ok (.aload_n 0, 1) := by decide +kernel
theorem dX8_allSeen_6 : decode cX8_allSeen 6 = .ok (.getfield 144, 3) := by decide +kernel
theorem dX8_allSeen_9 : decode cX8_allSeen 9 = .ok (.if_icmp .ge 30, 3) := by decide +kernel
theorem dX8_allSeen_12 : decode cX8_allSeen 12 = .ok (.aload_n 0, 1) := by decide +kernel
theorem dX8_allSeen_13 : decode cX8_allSeen 13 = .ok (.getfield 59, 3) := by decide +kernel
theorem dX8_allSeen_16 : decode cX8_allSeen 16 = .ok (.iload_n 3, 1) := by decide +kernel
theorem dX8_allSeen_17 : decode cX8_allSeen 17 = .ok (.iaload, 1) := by decide +kernel
theorem dX8_allSeen_18 : decode cX8_allSeen 18 = .ok (.iload_n 2, 1) := by decide +kernel
theorem dX8_allSeen_19 : decode cX8_allSeen 19 = .ok (.if_icmp .le 12, 3) := by decide +kernel
theorem dX8_allSeen_22 : decode cX8_allSeen 22 = .ok (.aload_n 0, 1) := by decide +kernel
theorem dX8_allSeen_23 : decode cX8_allSeen 23 = .ok (.getfield 59, 3) := by decide +kernel
theorem dX8_allSeen_26 : decode cX8_allSeen 26 = .ok (.iload_n 3, 1) := by decide +kernel
theorem dX8_allSeen_27 : decode cX8_allSeen 27 = .ok (.iaload, 1) := by decide +kernel
theorem dX8_allSeen_28 : decode cX8_allSeen 28 = .ok (.goto 4, 3) := by decide +kernel
theorem dX8_allSeen_31 : decode cX8_allSeen 31 = .ok (.iload_n 2, 1) := by decide +kernel
theorem dX8_allSeen_32 : decode cX8_allSeen 32 = .ok (.istore_n 2, 1) := by decide +kernel
theorem dX8_allSeen_33 : decode cX8_allSeen 33 = .ok (.iinc 3 1, 3) := by decide +kernel
theorem dX8_allSeen_36 : decode cX8_allSeen 36 = .ok (.goto (-32), 3) := by decide +kernel
theorem dX8_allSeen_39 : decode cX8_allSeen 39 = .ok (.aload_n 0, 1) := by decide +kernel
theorem dX8_allSeen_40 : decode cX8_allSeen 40 = .ok (.iload_n 1, 1) := by decide +kernel
theorem dX8_allSeen_41 : decode cX8_allSeen 41 = .ok (.putfield 50, 3) := by decide +kernel
theorem dX8_allSeen_44 : decode cX8_allSeen 44 = .ok (.aload_n 0, 1) := by decide +kernel
theorem dX8_allSeen_45 : decode cX8_allSeen 45 = .ok (.iconst 0, 1) := by decide +kernel
theorem dX8_allSeen_46 : decode cX8_allSeen 46 = .ok (.putfield 176, 3) := by decide +kernel
theorem dX8_allSeen_49 : decode cX8_allSeen 49 = .ok (.aload_n 0, 1) := by decide +kernel
theorem dX8_allSeen_50 : decode cX8_allSeen 50 = .ok (.iconst 0, 1) := by decide +kernel
theorem dX8_allSeen_51 : decode cX8_allSeen 51 = .ok (.putfield 173, 3) := by decide +kernel
theorem dX8_allSeen_54 : decode cX8_allSeen 54 = .ok (.iconst 0, 1) := by decide +kernel
theorem dX8_allSeen_55 : decode cX8_allSeen 55 = .ok (.istore_n 3, 1) := by decide +kernel
theorem dX8_allSeen_56 : decode cX8_allSeen 56 = .ok (.iload_n 3, 1) := by decide +kernel
theorem dX8_allSeen_57 : decode cX8_allSeen 57 = .ok (.bipush 60, 2) := by decide +kernel
theorem dX8_allSeen_59 : decode cX8_allSeen 59 = .ok (.if_icmp .ge 28, 3) := by decide +kernel
theorem dX8_allSeen_62 : decode cX8_allSeen 62 = .ok (.aload_n 0, 1) := by decide +kernel
theorem dX8_allSeen_63 : decode cX8_allSeen 63 = .ok (.getfield 176, 3) := by decide +kernel
theorem dX8_allSeen_66 : decode cX8_allSeen 66 = .ok (.iload_n 2, 1) := by decide +kernel
theorem dX8_allSeen_67 : decode cX8_allSeen 67 = .ok (.if_icmp .gt 20, 3) := by decide +kernel
theorem dX8_allSeen_70 : decode cX8_allSeen 70 = .ok (.aload_n 0, 1) := by decide +kernel
theorem dX8_allSeen_71 : decode cX8_allSeen 71 = .ok (.getfield 173, 3) := by decide +kernel
theorem dX8_allSeen_74 : decode cX8_allSeen 74 = .ok (.ifCond .ne 13, 3) := by decide +kernel
theorem dX8_allSeen_77 : decode cX8_allSeen 77 = .ok (.aload_n 0, 1) := by decide +kernel
theorem dX8_allSeen_78 : decode cX8_allSeen 78 = .ok (.invokevirtual 233, 3) := by decide +kernel
theorem dX8_allSeen_81 : decode cX8_allSeen 81 = .ok (.iinc 3 1, 3) := by decide +kernel
theorem dX8_allSeen_84 : decode cX8_allSeen 84 = .ok (.goto (-28), 3) := by decide +kernel
theorem dX8_allSeen_87 : decode cX8_allSeen 87 = .ok (.aload_n 0, 1) := by decide +kernel
theorem dX8_allSeen_88 : decode cX8_allSeen 88 = .ok (.getfield 176, 3) := by decide +kernel
theorem dX8_allSeen_91 : decode cX8_allSeen 91 = .ok (.iload_n 2, 1) := by decide +kernel
theorem dX8_allSeen_92 : decode cX8_allSeen 92 = .ok (.if_icmp .le 14, 3) := by decide +kernel
theorem dX8_allSeen_95 : decode cX8_allSeen 95 = .ok (.aload_n 0, 1) := by decide +kernel
theorem dX8_allSeen_96 : decode cX8_allSeen 96 = .ok (.getfield 173, 3) := by decide +kernel
theorem dX8_allSeen_99 : decode cX8_allSeen 99 = .ok (.ifCond .ne 7, 3) := by decide +kernel
theorem dX8_allSeen_102 : decode cX8_allSeen 102 = .ok (.iconst 1, 1) := by decide +kernel
theorem dX8_allSeen_103 : decode cX8_allSeen 103 = .ok (.goto 4, 3) := by decide +kernel
theorem dX8_allSeen_106 : decode cX8_allSeen 106 = .ok (.iconst 0, 1) := by decide +kernel
theorem dX8_allSeen_107 : decode cX8_allSeen 107 = .ok (.istore_n 3, 1) := by decide +kernel
theorem dX8_allSeen_108 : decode cX8_allSeen 108 = .ok (.aload_n 0, 1) := by decide +kernel
theorem dX8_allSeen_109 : decode cX8_allSeen 109 = .ok (.invokevirtual 321, 3) := by decide +kernel
theorem dX8_allSeen_112 : decode cX8_allSeen 112 = .ok (.iload_n 3, 1) := by decide +kernel
theorem dX8_allSeen_113 : decode cX8_allSeen 113 = .ok (.ireturn, 1) := by decide +kernel
theorem dX8_seeds_0 : decode cX8_seeds 0 = .ok (.aload_n 0, 1) := by decide +kernel
theorem dX8_seeds_1 : decode cX8_seeds 1 = .ok (.iconst 0, 1) := by decide +kernel
theorem dX8_seeds_2 : decode cX8_seeds 2 = .ok (.putfield 124, 3) := by decide +kernel
theorem dX8_seeds_5 : decode cX8_seeds 5 = .ok (.iconst 0, 1) := by decide +kernel
theorem dX8_seeds_6 : decode cX8_seeds 6 = .ok (.istore_n 1, 1) := by decide +kernel
theorem dX8_seeds_7 : decode cX8_seeds 7 = .ok (.aload_n 0, 1) := by decide +kernel
theorem dX8_seeds_8 : decode cX8_seeds 8 = .ok (.invokevirtual 315, 3) := by decide +kernel
theorem dX8_seeds_11 : decode cX8_seeds 11 = .ok (.iconst 0, 1) := by decide +kernel
theorem dX8_seeds_12 : decode cX8_seeds 12 = .ok (.istore_n 2, 1) := by decide +kernel
theorem dX8_seeds_13 : decode cX8_seeds 13 = .ok (.iload_n 2, 1) := by decide +kernel
theorem dX8_seeds_14 : decode cX8_seeds 14 = .ok (.bipush 30, 2) := by decide +kernel
theorem dX8_seeds_16 : decode cX8_seeds 16 = .ok (.if_icmp .gt 27, 3) := by decide +kernel
theorem dX8_seeds_19 : decode cX8_seeds 19 = .ok (.iload_n 1, 1) := by decide +kernel
theorem dX8_seeds_20 : decode cX8_seeds 20 = .ok (.aload_n 0, 1) := by decide +kernel
theorem dX8_seeds_21 : decode cX8_seeds 21 = .ok (.iload_n 2, 1) := by decide +kernel
theorem dX8_seeds_22 : decode cX8_seeds 22 = .ok (.invokevirtual 341, 3) := by decide +kernel
theorem dX8_seeds_25 : decode cX8_seeds 25 = .ok (.ifCond .eq 9, 3) := by decide +kernel
theorem dX8_seeds_28 : decode cX8_seeds 28 = .ok (.iconst 1, 1) := by decide +kernel
theorem dX8_seeds_29 : decode cX8_seeds 29 = .ok (.iload_n 2, 1) := by decide +kernel
theorem dX8_seeds_30 : decode cX8_seeds 30 = .ok (.ishl, 1) := by decide +kernel
theorem dX8_seeds_31 : decode cX8_seeds 31 = .ok (.goto 4, 3) := by decide +kernel
theorem dX8_seeds_34 : decode cX8_seeds 34 = .ok (.iconst 0, 1) := by decide +kernel
theorem dX8_seeds_35 : decode cX8_seeds 35 = .ok (.ior, 1) := by decide +kernel
theorem dX8_seeds_36 : decode cX8_seeds 36 = .ok (.istore_n 1, 1) := by decide +kernel
theorem dX8_seeds_37 : decode cX8_seeds 37 = .ok (.iinc 2 1, 3) := by decide +kernel
theorem dX8_seeds_40 : decode cX8_seeds 40 = .ok (.goto (-27), 3) := by decide +kernel
theorem dX8_seeds_43 : decode cX8_seeds 43 = .ok (.iload_n 1, 1) := by decide +kernel
theorem dX8_seeds_44 : decode cX8_seeds 44 = .ok (.ireturn, 1) := by decide +kernel
theorem dX8_divisor_0 : decode cX8_divisor 0 = .ok (.lload_n 0, 1) := by decide +kernel
theorem dX8_divisor_1 : decode cX8_divisor 1 = .ok (.lstore 4, 2) := by decide +kernel
theorem dX8_divisor_3 : decode cX8_divisor 3 = .ok (.lload_n 2, 1) := by decide +kernel
theorem dX8_divisor_4 : decode cX8_divisor 4 = .ok (.lstore 6, 2) := by decide +kernel
theorem dX8_divisor_6 : decode cX8_divisor 6 = .ok (.lload 6, 2) := by decide +kernel
theorem dX8_divisor_8 : decode cX8_divisor 8 = .ok (.lconst 0, 1) := by decide +kernel
theorem dX8_divisor_9 : decode cX8_divisor 9 = .ok (.lcmp, 1) := by decide +kernel
theorem dX8_divisor_10 : decode cX8_divisor 10 = .ok (.ifCond .eq 21, 3) := by decide +kernel
theorem dX8_divisor_13 : decode cX8_divisor 13 = .ok (.lload 4, 2) := by decide +kernel
theorem dX8_divisor_15 : decode cX8_divisor 15 = .ok (.lload 6, 2) := by decide +kernel
theorem dX8_divisor_17 : decode cX8_divisor 17 = .ok (.lrem, 1) := by decide +kernel
theorem dX8_divisor_18 : decode cX8_divisor 18 = .ok (.lstore 8, 2) := by decide +kernel
theorem dX8_divisor_20 : decode cX8_divisor 20 = .ok (.lload 6, 2) := by decide +kernel
theorem dX8_divisor_22 : decode cX8_divisor 22 = .ok (.lstore 4, 2) := by decide +kernel
theorem dX8_divisor_24 : decode cX8_divisor 24 = .ok (.lload 8, 2) := by decide +kernel
theorem dX8_divisor_26 : decode cX8_divisor 26 = .ok (.lstore 6, 2) := by decide +kernel
theorem dX8_divisor_28 : decode cX8_divisor 28 = .ok (.goto (-22), 3) := by decide +kernel
theorem dX8_divisor_31 : decode cX8_divisor 31 = .ok (.lload 4, 2) := by decide +kernel
theorem dX8_divisor_33 : decode cX8_divisor 33 = .ok (.lreturn, 1) := by decide +kernel
theorem dX8_partOf_0 : decode cX8_partOf 0 = .ok (.lload_n 0, 1) := by decide +kernel
theorem dX8_partOf_1 : decode cX8_partOf 1 = .ok (.lload_n 2, 1) := by decide +kernel
theorem dX8_partOf_2 : decode cX8_partOf 2 = .ok (.invokestatic 344, 3) := by decide +kernel
theorem dX8_partOf_5 : decode cX8_partOf 5 = .ok (.lstore 5, 2) := by decide +kernel
theorem dX8_partOf_7 : decode cX8_partOf 7 = .ok (.iload 4, 2) := by decide +kernel
theorem dX8_partOf_9 : decode cX8_partOf 9 = .ok (.ifCond .ne 10, 3) := by decide +kernel
theorem dX8_partOf_12 : decode cX8_partOf 12 = .ok (.lload_n 0, 1) := by decide +kernel
theorem dX8_partOf_13 : decode cX8_partOf 13 = .ok (.lload 5, 2) := by decide +kernel
theorem dX8_partOf_15 : decode cX8_partOf 15 = .ok (.ldiv, 1) := by decide +kernel
theorem dX8_partOf_16 : decode cX8_partOf 16 = .ok (.goto 7, 3) := by decide +kernel
theorem dX8_partOf_19 : decode cX8_partOf 19 = .ok (.lload_n 2, 1) := by decide +kernel
theorem dX8_partOf_20 : decode cX8_partOf 20 = .ok (.lload 5, 2) := by decide +kernel
theorem dX8_partOf_22 : decode cX8_partOf 22 = .ok (.ldiv, 1) := by decide +kernel
theorem dX8_partOf_23 : decode cX8_partOf 23 = .ok (.lreturn, 1) := by decide +kernel
theorem dX8_odds_0 : decode cX8_odds 0 = .ok (.aload_n 0, 1) := by decide +kernel
theorem dX8_odds_1 : decode cX8_odds 1 = .ok (.iconst 0, 1) := by decide +kernel
theorem dX8_odds_2 : decode cX8_odds 2 = .ok (.putfield 124, 3) := by decide +kernel
theorem dX8_odds_5 : decode cX8_odds 5 = .ok (.iload_n 1, 1) := by decide +kernel
theorem dX8_odds_6 : decode cX8_odds 6 = .ok (.i2l, 1) := by decide +kernel
theorem dX8_odds_7 : decode cX8_odds 7 = .ok (.lconst 0, 1) := by decide +kernel
theorem dX8_odds_8 : decode cX8_odds 8 = .ok (.ldc2_w 304, 3) := by decide +kernel
theorem dX8_odds_11 : decode cX8_odds 11 = .ok (.invokestatic 130, 3) := by decide +kernel
theorem dX8_odds_14 : decode cX8_odds 14 = .ok (.ifCond .eq 13, 3) := by decide +kernel
theorem dX8_odds_17 : decode cX8_odds 17 = .ok (.iload_n 2, 1) := by decide +kernel
theorem dX8_odds_18 : decode cX8_odds 18 = .ok (.i2l, 1) := by decide +kernel
theorem dX8_odds_19 : decode cX8_odds 19 = .ok (.lconst 0, 1) := by decide +kernel
theorem dX8_odds_20 : decode cX8_odds 20 = .ok (.lconst 1, 1) := by decide +kernel
theorem dX8_odds_21 : decode cX8_odds 21 = .ok (.invokestatic 130, 3) := by decide +kernel
theorem dX8_odds_24 : decode cX8_odds 24 = .ok (.ifCond .ne 7, 3) := by decide +kernel
theorem dX8_odds_27 : decode cX8_odds 27 = .ok (.ldc2_w 348, 3) := by decide +kernel
theorem dX8_odds_30 : decode cX8_odds 30 = .ok (.lreturn, 1) := by decide +kernel
theorem dX8_odds_31 : decode cX8_odds 31 = .ok (.iconst 0, 1) := by decide +kernel
theorem dX8_odds_32 : decode cX8_odds 32 = .ok (.istore_n 3, 1) := by decide +kernel
theorem dX8_odds_33 : decode cX8_odds 33 = .ok (.aload_n 0, 1) := by decide +kernel
theorem dX8_odds_34 : decode cX8_odds 34 = .ok (.invokevirtual 315, 3) := by decide +kernel
theorem dX8_odds_37 : decode cX8_odds 37 = .ok (.iconst 0, 1) := by decide +kernel
theorem dX8_odds_38 : decode cX8_odds 38 = .ok (.istore 4, 2) := by decide +kernel
theorem dX8_odds_40 : decode cX8_odds 40 = .ok (.iload 4, 2) := by decide +kernel
theorem dX8_odds_42 : decode cX8_odds 42 = .ok (.bipush 20, 2) := by decide +kernel
theorem dX8_odds_44 : decode cX8_odds 44 = .ok (.if_icmp .ge 39, 3) := by decide +kernel
theorem dX8_odds_47 : decode cX8_odds 47 = .ok (.aload_n 0, 1) := by decide +kernel
theorem dX8_odds_48 : decode cX8_odds 48 = .ok (.iload 4, 2) := by decide +kernel
theorem dX8_odds_50 : decode cX8_odds 50 = .ok (.putfield 50, 3) := by decide +kernel
theorem dX8_odds_53 : decode cX8_odds 53 = .ok (.aload_n 0, 1) := by decide +kernel
theorem dX8_odds_54 : decode cX8_odds 54 = .ok (.iload_n 1, 1) := by decide +kernel
theorem dX8_odds_55 : decode cX8_odds 55 = .ok (.invokevirtual 306, 3) := by decide +kernel
theorem dX8_odds_58 : decode cX8_odds 58 = .ok (.iload_n 3, 1) := by decide +kernel
theorem dX8_odds_59 : decode cX8_odds 59 = .ok (.aload_n 0, 1) := by decide +kernel
theorem dX8_odds_60 : decode cX8_odds 60 = .ok (.invokevirtual 312, 3) := by decide +kernel
theorem dX8_odds_63 : decode cX8_odds 63 = .ok (.ifCond .eq 7, 3) := by decide +kernel
theorem dX8_odds_66 : decode cX8_odds 66 = .ok (.iconst 1, 1) := by decide +kernel
theorem dX8_odds_67 : decode cX8_odds 67 = .ok (.goto 4, 3) := by decide +kernel
theorem dX8_odds_70 : decode cX8_odds 70 = .ok (.iconst 0, 1) := by decide +kernel
theorem dX8_odds_71 : decode cX8_odds 71 = .ok (.iadd, 1) := by decide +kernel
theorem dX8_odds_72 : decode cX8_odds 72 = .ok (.istore_n 3, 1) := by decide +kernel
theorem dX8_odds_73 : decode cX8_odds 73 = .ok (.aload_n 0, 1) := by decide +kernel
theorem dX8_odds_74 : decode cX8_odds 74 = .ok (.invokevirtual 321, 3) := by decide +kernel
theorem dX8_odds_77 : decode cX8_odds 77 = .ok (.iinc 4 1, 3) := by decide +kernel
theorem dX8_odds_80 : decode cX8_odds 80 = .ok (.goto (-40), 3) := by decide +kernel
theorem dX8_odds_83 : decode cX8_odds 83 = .ok (.iload_n 3, 1) := by decide +kernel
theorem dX8_odds_84 : decode cX8_odds 84 = .ok (.i2l, 1) := by decide +kernel
theorem dX8_odds_85 : decode cX8_odds 85 = .ok (.ldc2_w 350, 3) := by decide +kernel
theorem dX8_odds_88 : decode cX8_odds 88 = .ok (.iload_n 2, 1) := by decide +kernel
theorem dX8_odds_89 : decode cX8_odds 89 = .ok (.invokestatic 352, 3) := by decide +kernel
theorem dX8_odds_92 : decode cX8_odds 92 = .ok (.lreturn, 1) := by decide +kernel
theorem dX8_mean_0 : decode cX8_mean 0 = .ok (.aload_n 0, 1) := by decide +kernel
theorem dX8_mean_1 : decode cX8_mean 1 = .ok (.iconst 0, 1) := by decide +kernel
theorem dX8_mean_2 : decode cX8_mean 2 = .ok (.putfield 124, 3) := by decide +kernel
theorem dX8_mean_5 : decode cX8_mean 5 = .ok (.iload_n 1, 1) := by decide +kernel
theorem dX8_mean_6 : decode cX8_mean 6 = .ok (.i2l, 1) := by decide +kernel
theorem dX8_mean_7 : decode cX8_mean 7 = .ok (.lconst 0, 1) := by decide +kernel
theorem dX8_mean_8 : decode cX8_mean 8 = .ok (.lconst 1, 1) := by decide +kernel
theorem dX8_mean_9 : decode cX8_mean 9 = .ok (.invokestatic 130, 3) := by decide +kernel
theorem dX8_mean_12 : decode cX8_mean 12 = .ok (.ifCond .eq 27, 3) := by decide +kernel
theorem dX8_mean_15 : decode cX8_mean 15 = .ok (.aload_n 0, 1) := by decide +kernel
theorem dX8_mean_16 : decode cX8_mean 16 = .ok (.invokevirtual 333, 3) := by decide +kernel
theorem dX8_mean_19 : decode cX8_mean 19 = .ok (.ifCond .le 20, 3) := by decide +kernel
theorem dX8_mean_22 : decode cX8_mean 22 = .ok (.aload_n 0, 1) := by decide +kernel
theorem dX8_mean_23 : decode cX8_mean 23 = .ok (.invokevirtual 356, 3) := by decide +kernel
theorem dX8_mean_26 : decode cX8_mean 26 = .ok (.i2l, 1) := by decide +kernel
theorem dX8_mean_27 : decode cX8_mean 27 = .ok (.aload_n 0, 1) := by decide +kernel
theorem dX8_mean_28 : decode cX8_mean 28 = .ok (.invokevirtual 333, 3) := by decide +kernel
theorem dX8_mean_31 : decode cX8_mean 31 = .ok (.i2l, 1) := by decide +kernel
theorem dX8_mean_32 : decode cX8_mean 32 = .ok (.iload_n 1, 1) := by decide +kernel
theorem dX8_mean_33 : decode cX8_mean 33 = .ok (.invokestatic 352, 3) := by decide +kernel
theorem dX8_mean_36 : decode cX8_mean 36 = .ok (.goto 6, 3) := by decide +kernel
theorem dX8_mean_39 : decode cX8_mean 39 = .ok (.ldc2_w 348, 3) := by decide +kernel
theorem dX8_mean_42 : decode cX8_mean 42 = .ok (.lreturn, 1) := by decide +kernel
theorem dX8_plan_0 : decode cX8_plan 0 = .ok (.aload_n 0, 1) := by decide +kernel
theorem dX8_plan_1 : decode cX8_plan 1 = .ok (.iconst 0, 1) := by decide +kernel
theorem dX8_plan_2 : decode cX8_plan 2 = .ok (.putfield 124, 3) := by decide +kernel
theorem dX8_plan_5 : decode cX8_plan 5 = .ok (.iload_n 1, 1) := by decide +kernel
theorem dX8_plan_6 : decode cX8_plan 6 = .ok (.iconst (-1), 1) := by decide +kernel
theorem dX8_plan_7 : decode cX8_plan 7 = .ok (.if_icmp .ne 10, 3) := by decide +kernel
theorem dX8_plan_10 : decode cX8_plan 10 = .ok (.aload_n 0, 1) := by decide +kernel
theorem dX8_plan_11 : decode cX8_plan 11 = .ok (.iconst 0, 1) := by decide +kernel
theorem dX8_plan_12 : decode cX8_plan 12 = .ok (.putfield 151, 3) := by decide +kernel
theorem dX8_plan_15 : decode cX8_plan 15 = .ok (.iconst 0, 1) := by decide +kernel
theorem dX8_plan_16 : decode cX8_plan 16 = .ok (.ireturn, 1) := by decide +kernel
theorem dX8_plan_17 : decode cX8_plan 17 = .ok (.iload_n 1, 1) := by decide +kernel
theorem dX8_plan_18 : decode cX8_plan 18 = .ok (.i2l, 1) := by decide +kernel
theorem dX8_plan_19 : decode cX8_plan 19 = .ok (.lconst 0, 1) := by decide +kernel
theorem dX8_plan_20 : decode cX8_plan 20 = .ok (.ldc2_w 359, 3) := by decide +kernel
theorem dX8_plan_23 : decode cX8_plan 23 = .ok (.invokestatic 130, 3) := by decide +kernel
theorem dX8_plan_26 : decode cX8_plan 26 = .ok (.ifCond .eq 16, 3) := by decide +kernel
theorem dX8_plan_29 : decode cX8_plan 29 = .ok (.iload_n 1, 1) := by decide +kernel
theorem dX8_plan_30 : decode cX8_plan 30 = .ok (.iconst 1, 1) := by decide +kernel
theorem dX8_plan_31 : decode cX8_plan 31 = .ok (.if_icmp .ne 13, 3) := by decide +kernel
theorem dX8_plan_34 : decode cX8_plan 34 = .ok (.aload_n 0, 1) := by decide +kernel
theorem dX8_plan_35 : decode cX8_plan 35 = .ok (.iload_n 2, 1) := by decide +kernel
theorem dX8_plan_36 : decode cX8_plan 36 = .ok (.invokevirtual 290, 3) := by decide +kernel
theorem dX8_plan_39 : decode cX8_plan 39 = .ok (.ifCond .ne 5, 3) := by decide +kernel
theorem dX8_plan_42 : decode cX8_plan 42 = .ok (.iconst (-1), 1) := by decide +kernel
theorem dX8_plan_43 : decode cX8_plan 43 = .ok (.ireturn, 1) := by decide +kernel
theorem dX8_plan_44 : decode cX8_plan 44 = .ok (.aload_n 0, 1) := by decide +kernel
theorem dX8_plan_45 : decode cX8_plan 45 = .ok (.getfield 151, 3) := by decide +kernel
theorem dX8_plan_48 : decode cX8_plan 48 = .ok (.bipush 10, 2) := by decide +kernel
theorem dX8_plan_50 : decode cX8_plan 50 = .ok (.if_icmp .ne 6, 3) := by decide +kernel
theorem dX8_plan_53 : decode cX8_plan 53 = .ok (.bipush (-4), 2) := by decide +kernel
theorem dX8_plan_55 : decode cX8_plan 55 = .ok (.ireturn, 1) := by decide +kernel
theorem dX8_plan_56 : decode cX8_plan 56 = .ok (.aload_n 0, 1) := by decide +kernel
theorem dX8_plan_57 : decode cX8_plan 57 = .ok (.getfield 62, 3) := by decide +kernel
theorem dX8_plan_60 : decode cX8_plan 60 = .ok (.aload_n 0, 1) := by decide +kernel
theorem dX8_plan_61 : decode cX8_plan 61 = .ok (.getfield 151, 3) := by decide +kernel
theorem dX8_plan_64 : decode cX8_plan 64 = .ok (.iload_n 1, 1) := by decide +kernel
theorem dX8_plan_65 : decode cX8_plan 65 = .ok (.iastore, 1) := by decide +kernel
theorem dX8_plan_66 : decode cX8_plan 66 = .ok (.aload_n 0, 1) := by decide +kernel
theorem dX8_plan_67 : decode cX8_plan 67 = .ok (.getfield 65, 3) := by decide +kernel
theorem dX8_plan_70 : decode cX8_plan 70 = .ok (.aload_n 0, 1) := by decide +kernel
theorem dX8_plan_71 : decode cX8_plan 71 = .ok (.getfield 151, 3) := by decide +kernel
theorem dX8_plan_74 : decode cX8_plan 74 = .ok (.iload_n 2, 1) := by decide +kernel
theorem dX8_plan_75 : decode cX8_plan 75 = .ok (.iastore, 1) := by decide +kernel
theorem dX8_plan_76 : decode cX8_plan 76 = .ok (.aload_n 0, 1) := by decide +kernel
theorem dX8_plan_77 : decode cX8_plan 77 = .ok (.dup, 1) := by decide +kernel
theorem dX8_plan_78 : decode cX8_plan 78 = .ok (.getfield 151, 3) := by decide +kernel
theorem dX8_plan_81 : decode cX8_plan 81 = .ok (.iconst 1, 1) := by decide +kernel
theorem dX8_plan_82 : decode cX8_plan 82 = .ok (.iadd, 1) := by decide +kernel
theorem dX8_plan_83 : decode cX8_plan 83 = .ok (.putfield 151, 3) := by decide +kernel
theorem dX8_plan_86 : decode cX8_plan 86 = .ok (.aload_n 0, 1) := by decide +kernel
theorem dX8_plan_87 : decode cX8_plan 87 = .ok (.getfield 151, 3) := by decide +kernel
theorem dX8_plan_90 : decode cX8_plan 90 = .ok (.ireturn, 1) := by decide +kernel
theorem dX8_planned_0 : decode cX8_planned 0 = .ok (.aload_n 0, 1) := by decide +kernel
theorem dX8_planned_1 : decode cX8_planned 1 = .ok (.getfield 65, 3) := by decide +kernel
theorem dX8_planned_4 : decode cX8_planned 4 = .ok (.iload_n 1, 1) := by decide +kernel
theorem dX8_planned_5 : decode cX8_planned 5 = .ok (.iaload, 1) := by decide +kernel
theorem dX8_planned_6 : decode cX8_planned 6 = .ok (.istore_n 2, 1) := by decide +kernel
theorem dX8_planned_7 : decode cX8_planned 7 = .ok (.aload_n 0, 1) := by decide +kernel
theorem dX8_planned_8 : decode cX8_planned 8 = .ok (.getfield 62, 3) := by decide +kernel
theorem dX8_planned_11 : decode cX8_planned 11 = .ok (.iload_n 1, 1) := by decide +kernel
theorem dX8_planned_12 : decode cX8_planned 12 = .ok (.iaload, 1) := by decide +kernel
theorem dX8_planned_13 : decode cX8_planned 13 = .ok (.ifCond .ne 10, 3) := by decide +kernel
theorem dX8_planned_16 : decode cX8_planned 16 = .ok (.aload_n 0, 1) := by decide +kernel
theorem dX8_planned_17 : decode cX8_planned 17 = .ok (.invokevirtual 233, 3) := by decide +kernel
theorem dX8_planned_20 : decode cX8_planned 20 = .ok (.goto 40, 3) := by decide +kernel
theorem dX8_planned_23 : decode cX8_planned 23 = .ok (.aload_n 0, 1) := by decide +kernel
theorem dX8_planned_24 : decode cX8_planned 24 = .ok (.getfield 62, 3) := by decide +kernel
theorem dX8_planned_27 : decode cX8_planned 27 = .ok (.iload_n 1, 1) := by decide +kernel
theorem dX8_planned_28 : decode cX8_planned 28 = .ok (.iaload, 1) := by decide +kernel
theorem dX8_planned_29 : decode cX8_planned 29 = .ok (.iconst 2, 1) := by decide +kernel
theorem dX8_planned_30 : decode cX8_planned 30 = .ok (.if_icmp .ne 11, 3) := by decide +kernel
theorem dX8_planned_33 : decode cX8_planned 33 = .ok (.aload_n 0, 1) := by decide +kernel
theorem dX8_planned_34 : decode cX8_planned 34 = .ok (.iload_n 2, 1) := by decide +kernel
theorem dX8_planned_35 : decode cX8_planned 35 = .ok (.putfield 50, 3) := by decide +kernel
theorem dX8_planned_38 : decode cX8_planned 38 = .ok (.goto 22, 3) := by decide +kernel
theorem dX8_planned_41 : decode cX8_planned 41 = .ok (.aload_n 0, 1) := by decide +kernel
theorem dX8_planned_42 : decode cX8_planned 42 = .ok (.iload_n 2, 1) := by decide +kernel
theorem dX8_planned_43 : decode cX8_planned 43 = .ok (.invokevirtual 183, 3) := by decide +kernel
theorem dX8_planned_46 : decode cX8_planned 46 = .ok (.ifCond .ne 14, 3) := by decide +kernel
theorem dX8_planned_49 : decode cX8_planned 49 = .ok (.aload_n 0, 1) := by decide +kernel
theorem dX8_planned_50 : decode cX8_planned 50 = .ok (.iload_n 2, 1) := by decide +kernel
theorem dX8_planned_51 : decode cX8_planned 51 = .ok (.invokevirtual 309, 3) := by decide +kernel
theorem dX8_planned_54 : decode cX8_planned 54 = .ok (.pop, 1) := by decide +kernel
theorem dX8_planned_55 : decode cX8_planned 55 = .ok (.aload_n 0, 1) := by decide +kernel
theorem dX8_planned_56 : decode cX8_planned 56 = .ok (.iload_n 2, 1) := by decide +kernel
theorem dX8_planned_57 : decode cX8_planned 57 = .ok (.invokevirtual 207, 3) := by decide +kernel
theorem dX8_planned_60 : decode cX8_planned 60 = .ok (.return_, 1) := by decide +kernel
theorem dX8_ends_0 : decode cX8_ends 0 = .ok (.aload_n 0, 1) := by decide +kernel
theorem dX8_ends_1 : decode cX8_ends 1 = .ok (.iconst 0, 1) := by decide +kernel
theorem dX8_ends_2 : decode cX8_ends 2 = .ok (.putfield 124, 3) := by decide +kernel
theorem dX8_ends_5 : decode cX8_ends 5 = .ok (.iload_n 1, 1) := by decide +kernel
theorem dX8_ends_6 : decode cX8_ends 6 = .ok (.i2l, 1) := by decide +kernel
theorem dX8_ends_7 : decode cX8_ends 7 = .ok (.lconst 0, 1) := by decide +kernel
theorem dX8_ends_8 : decode cX8_ends 8 = .ok (.lconst 1, 1) := by decide +kernel
theorem dX8_ends_9 : decode cX8_ends 9 = .ok (.invokestatic 130, 3) := by decide +kernel
theorem dX8_ends_12 : decode cX8_ends 12 = .ok (.ifCond .ne 5, 3) := by decide +kernel
theorem dX8_ends_15 : decode cX8_ends 15 = .ok (.iconst (-1), 1) := by decide +kernel
theorem dX8_ends_16 : decode cX8_ends 16 = .ok (.ireturn, 1) := by decide +kernel
theorem dX8_ends_17 : decode cX8_ends 17 = .ok (.aload_n 0, 1) := by decide +kernel
theorem dX8_ends_18 : decode cX8_ends 18 = .ok (.invokevirtual 315, 3) := by decide +kernel
theorem dX8_ends_21 : decode cX8_ends 21 = .ok (.iconst 0, 1) := by decide +kernel
theorem dX8_ends_22 : decode cX8_ends 22 = .ok (.istore_n 2, 1) := by decide +kernel
theorem dX8_ends_23 : decode cX8_ends 23 = .ok (.iload_n 2, 1) := by decide +kernel
theorem dX8_ends_24 : decode cX8_ends 24 = .ok (.aload_n 0, 1) := by decide +kernel
theorem dX8_ends_25 : decode cX8_ends 25 = .ok (.getfield 151, 3) := by decide +kernel
theorem dX8_ends_28 : decode cX8_ends 28 = .ok (.if_icmp .ge 14, 3) := by decide +kernel
theorem dX8_ends_31 : decode cX8_ends 31 = .ok (.aload_n 0, 1) := by decide +kernel
theorem dX8_ends_32 : decode cX8_ends 32 = .ok (.iload_n 2, 1) := by decide +kernel
theorem dX8_ends_33 : decode cX8_ends 33 = .ok (.invokevirtual 361, 3) := by decide +kernel
theorem dX8_ends_36 : decode cX8_ends 36 = .ok (.iinc 2 1, 3) := by decide +kernel
theorem dX8_ends_39 : decode cX8_ends 39 = .ok (.goto (-16), 3) := by decide +kernel
theorem dX8_ends_42 : decode cX8_ends 42 = .ok (.iload_n 1, 1) := by decide +kernel
theorem dX8_ends_43 : decode cX8_ends 43 = .ok (.ifCond .ne 10, 3) := by decide +kernel
theorem dX8_ends_46 : decode cX8_ends 46 = .ok (.aload_n 0, 1) := by decide +kernel
theorem dX8_ends_47 : decode cX8_ends 47 = .ok (.invokevirtual 330, 3) := by decide +kernel
theorem dX8_ends_50 : decode cX8_ends 50 = .ok (.goto 7, 3) := by decide +kernel
theorem dX8_ends_53 : decode cX8_ends 53 = .ok (.aload_n 0, 1) := by decide +kernel
theorem dX8_ends_54 : decode cX8_ends 54 = .ok (.invokevirtual 356, 3) := by decide +kernel
theorem dX8_ends_57 : decode cX8_ends 57 = .ok (.istore_n 2, 1) := by decide +kernel
theorem dX8_ends_58 : decode cX8_ends 58 = .ok (.aload_n 0, 1) := by decide +kernel
theorem dX8_ends_59 : decode cX8_ends 59 = .ok (.invokevirtual 321, 3) := by decide +kernel
theorem dX8_ends_62 : decode cX8_ends 62 = .ok (.iload_n 2, 1) := by decide +kernel
theorem dX8_ends_63 : decode cX8_ends 63 = .ok (.ireturn, 1) := by decide +kernel
theorem dX8_book_0 : decode cX8_book 0 = .ok (.aload_n 0, 1) := by decide +kernel
theorem dX8_book_1 : decode cX8_book 1 = .ok (.iconst 0, 1) := by decide +kernel
theorem dX8_book_2 : decode cX8_book 2 = .ok (.putfield 124, 3) := by decide +kernel
theorem dX8_book_5 : decode cX8_book 5 = .ok (.iload_n 1, 1) := by decide +kernel
theorem dX8_book_6 : decode cX8_book 6 = .ok (.iconst (-1), 1) := by decide +kernel
theorem dX8_book_7 : decode cX8_book 7 = .ok (.if_icmp .ne 10, 3) := by decide +kernel
theorem dX8_book_10 : decode cX8_book 10 = .ok (.aload_n 0, 1) := by decide +kernel
theorem dX8_book_11 : decode cX8_book 11 = .ok (.iconst 0, 1) := by decide +kernel
theorem dX8_book_12 : decode cX8_book 12 = .ok (.putfield 154, 3) := by decide +kernel
theorem dX8_book_15 : decode cX8_book 15 = .ok (.iconst 0, 1) := by decide +kernel
theorem dX8_book_16 : decode cX8_book 16 = .ok (.ireturn, 1) := by decide +kernel
theorem dX8_book_17 : decode cX8_book 17 = .ok (.aload_n 0, 1) := by decide +kernel
theorem dX8_book_18 : decode cX8_book 18 = .ok (.iload_n 1, 1) := by decide +kernel
theorem dX8_book_19 : decode cX8_book 19 = .ok (.invokevirtual 290, 3) := by decide +kernel
theorem dX8_book_22 : decode cX8_book 22 = .ok (.ifCond .ne 5, 3) := by decide +kernel
theorem dX8_book_25 : decode cX8_book 25 = .ok (.iconst (-1), 1) := by decide +kernel
theorem dX8_book_26 : decode cX8_book 26 = .ok (.ireturn, 1) := by decide +kernel
theorem dX8_book_27 : decode cX8_book 27 = .ok (.iload_n 2, 1) := by decide +kernel
theorem dX8_book_28 : decode cX8_book 28 = .ok (.i2l, 1) := by decide +kernel
theorem dX8_book_29 : decode cX8_book 29 = .ok (.lconst 0, 1) := by decide +kernel
theorem dX8_book_30 : decode cX8_book 30 = .ok (.ldc2_w 364, 3) := by decide +kernel
theorem dX8_book_33 : decode cX8_book 33 = .ok (.invokestatic 130, 3) := by decide +kernel
theorem dX8_book_36 : decode cX8_book 36 = .ok (.ifCond .ne 6, 3) := by decide +kernel
theorem dX8_book_39 : decode cX8_book 39 = .ok (.bipush (-2), 2) := by decide +kernel
theorem dX8_book_41 : decode cX8_book 41 = .ok (.ireturn, 1) := by decide +kernel
theorem dX8_book_42 : decode cX8_book 42 = .ok (.aload_n 0, 1) := by decide +kernel
theorem dX8_book_43 : decode cX8_book 43 = .ok (.getfield 154, 3) := by decide +kernel
theorem dX8_book_46 : decode cX8_book 46 = .ok (.bipush 8, 2) := by decide +kernel
theorem dX8_book_48 : decode cX8_book 48 = .ok (.if_icmp .ne 6, 3) := by decide +kernel
theorem dX8_book_51 : decode cX8_book 51 = .ok (.bipush (-4), 2) := by decide +kernel
theorem dX8_book_53 : decode cX8_book 53 = .ok (.ireturn, 1) := by decide +kernel
theorem dX8_book_54 : decode cX8_book 54 = .ok (.aload_n 0, 1) := by decide +kernel
theorem dX8_book_55 : decode cX8_book 55 = .ok (.getfield 68, 3) := by decide +kernel
theorem dX8_book_58 : decode cX8_book 58 = .ok (.aload_n 0, 1) := by decide +kernel
theorem dX8_book_59 : decode cX8_book 59 = .ok (.getfield 154, 3) := by decide +kernel
theorem dX8_book_62 : decode cX8_book 62 = .ok (.iload_n 1, 1) := by decide +kernel
theorem dX8_book_63 : decode cX8_book 63 = .ok (.iastore, 1) := by decide +kernel
theorem dX8_book_64 : decode cX8_book 64 = .ok (.aload_n 0, 1) := by decide +kernel
theorem dX8_book_65 : decode cX8_book 65 = .ok (.getfield 71, 3) := by decide +kernel
theorem dX8_book_68 : decode cX8_book 68 = .ok (.aload_n 0, 1) := by decide +kernel
theorem dX8_book_69 : decode cX8_book 69 = .ok (.getfield 154, 3) := by decide +kernel
theorem dX8_book_72 : decode cX8_book 72 = .ok (.iload_n 2, 1) := by decide +kernel
theorem dX8_book_73 : decode cX8_book 73 = .ok (.iastore, 1) := by decide +kernel
theorem dX8_book_74 : decode cX8_book 74 = .ok (.aload_n 0, 1) := by decide +kernel
theorem dX8_book_75 : decode cX8_book 75 = .ok (.dup, 1) := by decide +kernel
theorem dX8_book_76 : decode cX8_book 76 = .ok (.getfield 154, 3) := by decide +kernel
theorem dX8_book_79 : decode cX8_book 79 = .ok (.iconst 1, 1) := by decide +kernel
theorem dX8_book_80 : decode cX8_book 80 = .ok (.iadd, 1) := by decide +kernel
theorem dX8_book_81 : decode cX8_book 81 = .ok (.putfield 154, 3) := by decide +kernel
theorem dX8_book_84 : decode cX8_book 84 = .ok (.aload_n 0, 1) := by decide +kernel
theorem dX8_book_85 : decode cX8_book 85 = .ok (.getfield 154, 3) := by decide +kernel
theorem dX8_book_88 : decode cX8_book 88 = .ok (.ireturn, 1) := by decide +kernel
theorem dX8_looked_0 : decode cX8_looked 0 = .ok (.aload_n 0, 1) := by decide +kernel
theorem dX8_looked_1 : decode cX8_looked 1 = .ok (.iconst 0, 1) := by decide +kernel
theorem dX8_looked_2 : decode cX8_looked 2 = .ok (.putfield 124, 3) := by decide +kernel
theorem dX8_looked_5 : decode cX8_looked 5 = .ok (.iconst 0, 1) := by decide +kernel
theorem dX8_looked_6 : decode cX8_looked 6 = .ok (.istore_n 1, 1) := by decide +kernel
theorem dX8_looked_7 : decode cX8_looked 7 = .ok (.iload_n 1, 1) := by decide +kernel
theorem dX8_looked_8 : decode cX8_looked 8 = .ok (.aload_n 0, 1) := by decide +kernel
theorem dX8_looked_9 : decode cX8_looked 9 = .ok (.getfield 154, 3) := by decide +kernel
theorem dX8_looked_12 : decode cX8_looked 12 = .ok (.if_icmp .ge 31, 3) := by decide +kernel
theorem dX8_looked_15 : decode cX8_looked 15 = .ok (.aload_n 0, 1) := by decide +kernel
theorem dX8_looked_16 : decode cX8_looked 16 = .ok (.getfield 29, 3) := by decide +kernel
theorem dX8_looked_19 : decode cX8_looked 19 = .ok (.aload_n 0, 1) := by decide +kernel
theorem dX8_looked_20 : decode cX8_looked 20 = .ok (.getfield 68, 3) := by decide +kernel
theorem dX8_looked_23 : decode cX8_looked 23 = .ok (.iload_n 1, 1) := by decide +kernel
theorem dX8_looked_24 : decode cX8_looked 24 = .ok (.iaload, 1) := by decide +kernel
theorem dX8_looked_25 : decode cX8_looked 25 = .ok (.iaload, 1) := by decide +kernel
theorem dX8_looked_26 : decode cX8_looked 26 = .ok (.aload_n 0, 1) := by decide +kernel
theorem dX8_looked_27 : decode cX8_looked 27 = .ok (.getfield 71, 3) := by decide +kernel
theorem dX8_looked_30 : decode cX8_looked 30 = .ok (.iload_n 1, 1) := by decide +kernel
theorem dX8_looked_31 : decode cX8_looked 31 = .ok (.iaload, 1) := by decide +kernel
theorem dX8_looked_32 : decode cX8_looked 32 = .ok (.if_icmp .eq 5, 3) := by decide +kernel
theorem dX8_looked_35 : decode cX8_looked 35 = .ok (.iload_n 1, 1) := by decide +kernel
theorem dX8_looked_36 : decode cX8_looked 36 = .ok (.ireturn, 1) := by decide +kernel
theorem dX8_looked_37 : decode cX8_looked 37 = .ok (.iinc 1 1, 3) := by decide +kernel
theorem dX8_looked_40 : decode cX8_looked 40 = .ok (.goto (-33), 3) := by decide +kernel
theorem dX8_looked_43 : decode cX8_looked 43 = .ok (.bipush (-5), 2) := by decide +kernel
theorem dX8_looked_45 : decode cX8_looked 45 = .ok (.ireturn, 1) := by decide +kernel
theorem dX8_count_0 : decode cX8_count 0 = .ok (.aload_n 0, 1) := by decide +kernel
theorem dX8_count_1 : decode cX8_count 1 = .ok (.iconst 0, 1) := by decide +kernel
theorem dX8_count_2 : decode cX8_count 2 = .ok (.putfield 124, 3) := by decide +kernel
theorem dX8_count_5 : decode cX8_count 5 = .ok (.iload_n 1, 1) := by decide +kernel
theorem dX8_count_6 : decode cX8_count 6 = .ok (.tableswitch 68 0 5 #[38, 43, 48, 53, 58, 63], 38) := by decide +kernel
theorem dX8_count_44 : decode cX8_count 44 = .ok (.aload_n 0, 1) := by decide +kernel
theorem dX8_count_45 : decode cX8_count 45 = .ok (.getfield 127, 3) := by decide +kernel
theorem dX8_count_48 : decode cX8_count 48 = .ok (.ireturn, 1) := by decide +kernel
theorem dX8_count_49 : decode cX8_count 49 = .ok (.aload_n 0, 1) := by decide +kernel
theorem dX8_count_50 : decode cX8_count 50 = .ok (.invokevirtual 330, 3) := by decide +kernel
theorem dX8_count_53 : decode cX8_count 53 = .ok (.ireturn, 1) := by decide +kernel
theorem dX8_count_54 : decode cX8_count 54 = .ok (.aload_n 0, 1) := by decide +kernel
theorem dX8_count_55 : decode cX8_count 55 = .ok (.getfield 144, 3) := by decide +kernel
theorem dX8_count_58 : decode cX8_count 58 = .ok (.ireturn, 1) := by decide +kernel
theorem dX8_count_59 : decode cX8_count 59 = .ok (.aload_n 0, 1) := by decide +kernel
theorem dX8_count_60 : decode cX8_count 60 = .ok (.getfield 151, 3) := by decide +kernel
theorem dX8_count_63 : decode cX8_count 63 = .ok (.ireturn, 1) := by decide +kernel
theorem dX8_count_64 : decode cX8_count 64 = .ok (.aload_n 0, 1) := by decide +kernel
theorem dX8_count_65 : decode cX8_count 65 = .ok (.getfield 154, 3) := by decide +kernel
theorem dX8_count_68 : decode cX8_count 68 = .ok (.ireturn, 1) := by decide +kernel
theorem dX8_count_69 : decode cX8_count 69 = .ok (.aload_n 0, 1) := by decide +kernel
theorem dX8_count_70 : decode cX8_count 70 = .ok (.getfield 243, 3) := by decide +kernel
theorem dX8_count_73 : decode cX8_count 73 = .ok (.ireturn, 1) := by decide +kernel
theorem dX8_count_74 : decode cX8_count 74 = .ok (.bipush (-2), 2) := by decide +kernel
theorem dX8_count_76 : decode cX8_count 76 = .ok (.ireturn, 1) := by decide +kernel
theorem dX8_isTape_0 : decode cX8_isTape 0 = .ok (.iload_n 1, 1) := by decide +kernel
theorem dX8_isTape_1 : decode cX8_isTape 1 = .ok (.i2l, 1) := by decide +kernel
theorem dX8_isTape_2 : decode cX8_isTape 2 = .ok (.lconst 0, 1) := by decide +kernel
theorem dX8_isTape_3 : decode cX8_isTape 3 = .ok (.ldc2_w 364, 3) := by decide +kernel
theorem dX8_isTape_6 : decode cX8_isTape 6 = .ok (.invokestatic 130, 3) := by decide +kernel
theorem dX8_isTape_9 : decode cX8_isTape 9 = .ok (.ireturn, 1) := by decide +kernel
theorem dX8_tape_0 : decode cX8_tape 0 = .ok (.aload_n 0, 1) := by decide +kernel
theorem dX8_tape_1 : decode cX8_tape 1 = .ok (.iconst 0, 1) := by decide +kernel
theorem dX8_tape_2 : decode cX8_tape 2 = .ok (.putfield 124, 3) := by decide +kernel
theorem dX8_tape_5 : decode cX8_tape 5 = .ok (.aload_n 0, 1) := by decide +kernel
theorem dX8_tape_6 : decode cX8_tape 6 = .ok (.iload_n 1, 1) := by decide +kernel
theorem dX8_tape_7 : decode cX8_tape 7 = .ok (.invokevirtual 366, 3) := by decide +kernel
theorem dX8_tape_10 : decode cX8_tape 10 = .ok (.ifCond .ne 5, 3) := by decide +kernel
theorem dX8_tape_13 : decode cX8_tape 13 = .ok (.iconst (-1), 1) := by decide +kernel
theorem dX8_tape_14 : decode cX8_tape 14 = .ok (.ireturn, 1) := by decide +kernel
theorem dX8_tape_15 : decode cX8_tape 15 = .ok (.iload_n 2, 1) := by decide +kernel
theorem dX8_tape_16 : decode cX8_tape 16 = .ok (.i2l, 1) := by decide +kernel
theorem dX8_tape_17 : decode cX8_tape 17 = .ok (.ldc2_w 369, 3) := by decide +kernel
theorem dX8_tape_20 : decode cX8_tape 20 = .ok (.ldc2_w 236, 3) := by decide +kernel
theorem dX8_tape_23 : decode cX8_tape 23 = .ok (.invokestatic 130, 3) := by decide +kernel
theorem dX8_tape_26 : decode cX8_tape 26 = .ok (.ifCond .eq 13, 3) := by decide +kernel
theorem dX8_tape_29 : decode cX8_tape 29 = .ok (.iload_n 2, 1) := by decide +kernel
theorem dX8_tape_30 : decode cX8_tape 30 = .ok (.ifCond .lt 12, 3) := by decide +kernel
theorem dX8_tape_33 : decode cX8_tape 33 = .ok (.iload_n 3, 1) := by decide +kernel
theorem dX8_tape_34 : decode cX8_tape 34 = .ok (.bipush 60, 2) := by decide +kernel
theorem dX8_tape_36 : decode cX8_tape 36 = .ok (.if_icmp .le 6, 3) := by decide +kernel
theorem dX8_tape_39 : decode cX8_tape 39 = .ok (.bipush (-2), 2) := by decide +kernel
theorem dX8_tape_41 : decode cX8_tape 41 = .ok (.ireturn, 1) := by decide +kernel
theorem dX8_tape_42 : decode cX8_tape 42 = .ok (.iload_n 2, 1) := by decide +kernel
theorem dX8_tape_43 : decode cX8_tape 43 = .ok (.ifCond .lt 10, 3) := by decide +kernel
theorem dX8_tape_46 : decode cX8_tape 46 = .ok (.iload_n 3, 1) := by decide +kernel
theorem dX8_tape_47 : decode cX8_tape 47 = .ok (.ifCond .ge 6, 3) := by decide +kernel
theorem dX8_tape_50 : decode cX8_tape 50 = .ok (.bipush (-14), 2) := by decide +kernel
theorem dX8_tape_52 : decode cX8_tape 52 = .ok (.ireturn, 1) := by decide +kernel
theorem dX8_tape_53 : decode cX8_tape 53 = .ok (.aload_n 0, 1) := by decide +kernel
theorem dX8_tape_54 : decode cX8_tape 54 = .ok (.getfield 121, 3) := by decide +kernel
theorem dX8_tape_57 : decode cX8_tape 57 = .ok (.iload_n 1, 1) := by decide +kernel
theorem dX8_tape_58 : decode cX8_tape 58 = .ok (.iload_n 2, 1) := by decide +kernel
theorem dX8_tape_59 : decode cX8_tape 59 = .ok (.ifCond .lt 7, 3) := by decide +kernel
theorem dX8_tape_62 : decode cX8_tape 62 = .ok (.iconst 1, 1) := by decide +kernel
theorem dX8_tape_63 : decode cX8_tape 63 = .ok (.goto 4, 3) := by decide +kernel
theorem dX8_tape_66 : decode cX8_tape 66 = .ok (.iconst 0, 1) := by decide +kernel
theorem dX8_tape_67 : decode cX8_tape 67 = .ok (.bastore, 1) := by decide +kernel
theorem dX8_tape_68 : decode cX8_tape 68 = .ok (.aload_n 0, 1) := by decide +kernel
theorem dX8_tape_69 : decode cX8_tape 69 = .ok (.getfield 108, 3) := by decide +kernel
theorem dX8_tape_72 : decode cX8_tape 72 = .ok (.iload_n 1, 1) := by decide +kernel
theorem dX8_tape_73 : decode cX8_tape 73 = .ok (.iload_n 2, 1) := by decide +kernel
theorem dX8_tape_74 : decode cX8_tape 74 = .ok (.iastore, 1) := by decide +kernel
theorem dX8_tape_75 : decode cX8_tape 75 = .ok (.aload_n 0, 1) := by decide +kernel
theorem dX8_tape_76 : decode cX8_tape 76 = .ok (.getfield 111, 3) := by decide +kernel
theorem dX8_tape_79 : decode cX8_tape 79 = .ok (.iload_n 1, 1) := by decide +kernel
theorem dX8_tape_80 : decode cX8_tape 80 = .ok (.iload_n 2, 1) := by decide +kernel
theorem dX8_tape_81 : decode cX8_tape 81 = .ok (.ifCond .ge 7, 3) := by decide +kernel
theorem dX8_tape_84 : decode cX8_tape 84 = .ok (.iconst 0, 1) := by decide +kernel
theorem dX8_tape_85 : decode cX8_tape 85 = .ok (.goto 4, 3) := by decide +kernel
theorem dX8_tape_88 : decode cX8_tape 88 = .ok (.iload_n 3, 1) := by decide +kernel
theorem dX8_tape_89 : decode cX8_tape 89 = .ok (.iastore, 1) := by decide +kernel
theorem dX8_tape_90 : decode cX8_tape 90 = .ok (.iconst 0, 1) := by decide +kernel
theorem dX8_tape_91 : decode cX8_tape 91 = .ok (.istore 4, 2) := by decide +kernel
theorem dX8_tape_93 : decode cX8_tape 93 = .ok (.iload 4, 2) := by decide +kernel
theorem dX8_tape_95 : decode cX8_tape 95 = .ok (.bipush 60, 2) := by decide +kernel
theorem dX8_tape_97 : decode cX8_tape 97 = .ok (.if_icmp .ge 22, 3) := by decide +kernel
theorem dX8_tape_100 : decode cX8_tape 100 = .ok (.aload_n 0, 1) := by decide +kernel
theorem dX8_tape_101 : decode cX8_tape 101 = .ok (.getfield 114, 3) := by decide +kernel
theorem dX8_tape_104 : decode cX8_tape 104 = .ok (.bipush 60, 2) := by decide +kernel
theorem dX8_tape_106 : decode cX8_tape 106 = .ok (.iload_n 1, 1) := by decide +kernel
theorem dX8_tape_107 : decode cX8_tape 107 = .ok (.imul, 1) := by decide +kernel
theorem dX8_tape_108 : decode cX8_tape 108 = .ok (.iload 4, 2) := by decide +kernel
theorem dX8_tape_110 : decode cX8_tape 110 = .ok (.iadd, 1) := by decide +kernel
theorem dX8_tape_111 : decode cX8_tape 111 = .ok (.lconst 0, 1) := by decide +kernel
theorem dX8_tape_112 : decode cX8_tape 112 = .ok (.lastore, 1) := by decide +kernel
theorem dX8_tape_113 : decode cX8_tape 113 = .ok (.iinc 4 1, 3) := by decide +kernel
theorem dX8_tape_116 : decode cX8_tape 116 = .ok (.goto (-23), 3) := by decide +kernel
theorem dX8_tape_119 : decode cX8_tape 119 = .ok (.iconst 1, 1) := by decide +kernel
theorem dX8_tape_120 : decode cX8_tape 120 = .ok (.ireturn, 1) := by decide +kernel
theorem dX8_narrowed_0 : decode cX8_narrowed 0 = .ok (.iload_n 2, 1) := by decide +kernel
theorem dX8_narrowed_1 : decode cX8_narrowed 1 = .ok (.tableswitch 47 0 3 #[31, 36, 41, 45], 31) := by decide +kernel
theorem dX8_narrowed_32 : decode cX8_narrowed 32 = .ok (.lload_n 0, 1) := by decide +kernel
theorem dX8_narrowed_33 : decode cX8_narrowed 33 = .ok (.l2i, 1) := by decide +kernel
theorem dX8_narrowed_34 : decode cX8_narrowed 34 = .ok (.i2b, 1) := by decide +kernel
theorem dX8_narrowed_35 : decode cX8_narrowed 35 = .ok (.i2l, 1) := by decide +kernel
theorem dX8_narrowed_36 : decode cX8_narrowed 36 = .ok (.lreturn, 1) := by decide +kernel
theorem dX8_narrowed_37 : decode cX8_narrowed 37 = .ok (.lload_n 0, 1) := by decide +kernel
theorem dX8_narrowed_38 : decode cX8_narrowed 38 = .ok (.l2i, 1) := by decide +kernel
theorem dX8_narrowed_39 : decode cX8_narrowed 39 = .ok (.i2s, 1) := by decide +kernel
theorem dX8_narrowed_40 : decode cX8_narrowed 40 = .ok (.i2l, 1) := by decide +kernel
theorem dX8_narrowed_41 : decode cX8_narrowed 41 = .ok (.lreturn, 1) := by decide +kernel
theorem dX8_narrowed_42 : decode cX8_narrowed 42 = .ok (.lload_n 0, 1) := by decide +kernel
theorem dX8_narrowed_43 : decode cX8_narrowed 43 = .ok (.l2i, 1) := by decide +kernel
theorem dX8_narrowed_44 : decode cX8_narrowed 44 = .ok (.i2l, 1) := by decide +kernel
theorem dX8_narrowed_45 : decode cX8_narrowed 45 = .ok (.lreturn, 1) := by decide +kernel
theorem dX8_narrowed_46 : decode cX8_narrowed 46 = .ok (.lload_n 0, 1) := by decide +kernel
theorem dX8_narrowed_47 : decode cX8_narrowed 47 = .ok (.lreturn, 1) := by decide +kernel
theorem dX8_narrowed_48 : decode cX8_narrowed 48 = .ok (.lload_n 0, 1) := by decide +kernel
theorem dX8_narrowed_49 : decode cX8_narrowed 49 = .ok (.lconst 0, 1) := by decide +kernel
theorem dX8_narrowed_50 : decode cX8_narrowed 50 = .ok (.lcmp, 1) := by decide +kernel
theorem dX8_narrowed_51 : decode cX8_narrowed 51 = .ok (.ifCond .ne 7, 3) := by decide +kernel
theorem dX8_narrowed_54 : decode cX8_narrowed 54 = .ok (.lconst 0, 1) := by decide +kernel
theorem dX8_narrowed_55 : decode cX8_narrowed 55 = .ok (.goto 4, 3) := by decide +kernel
theorem dX8_narrowed_58 : decode cX8_narrowed 58 = .ok (.lconst 1, 1) := by decide +kernel
theorem dX8_narrowed_59 : decode cX8_narrowed 59 = .ok (.lreturn, 1) := by decide +kernel
theorem dX8_item_0 : decode cX8_item 0 = .ok (.aload_n 0, 1) := by decide +kernel
theorem dX8_item_1 : decode cX8_item 1 = .ok (.iconst 0, 1) := by decide +kernel
theorem dX8_item_2 : decode cX8_item 2 = .ok (.putfield 124, 3) := by decide +kernel
theorem dX8_item_5 : decode cX8_item 5 = .ok (.aload_n 0, 1) := by decide +kernel
theorem dX8_item_6 : decode cX8_item 6 = .ok (.iload_n 1, 1) := by decide +kernel
theorem dX8_item_7 : decode cX8_item 7 = .ok (.invokevirtual 366, 3) := by decide +kernel
theorem dX8_item_10 : decode cX8_item 10 = .ok (.ifCond .ne 5, 3) := by decide +kernel
theorem dX8_item_13 : decode cX8_item 13 = .ok (.iconst (-1), 1) := by decide +kernel
theorem dX8_item_14 : decode cX8_item 14 = .ok (.ireturn, 1) := by decide +kernel
theorem dX8_item_15 : decode cX8_item 15 = .ok (.aload_n 0, 1) := by decide +kernel
theorem dX8_item_16 : decode cX8_item 16 = .ok (.getfield 121, 3) := by decide +kernel
theorem dX8_item_19 : decode cX8_item 19 = .ok (.iload_n 1, 1) := by decide +kernel
theorem dX8_item_20 : decode cX8_item 20 = .ok (.baload, 1) := by decide +kernel
theorem dX8_item_21 : decode cX8_item 21 = .ok (.ifCond .ne 6, 3) := by decide +kernel
theorem dX8_item_24 : decode cX8_item 24 = .ok (.bipush (-11), 2) := by decide +kernel
theorem dX8_item_26 : decode cX8_item 26 = .ok (.ireturn, 1) := by decide +kernel
theorem dX8_item_27 : decode cX8_item 27 = .ok (.iload_n 2, 1) := by decide +kernel
theorem dX8_item_28 : decode cX8_item 28 = .ok (.i2l, 1) := by decide +kernel
theorem dX8_item_29 : decode cX8_item 29 = .ok (.lconst 0, 1) := by decide +kernel
theorem dX8_item_30 : decode cX8_item 30 = .ok (.aload_n 0, 1) := by decide +kernel
theorem dX8_item_31 : decode cX8_item 31 = .ok (.getfield 111, 3) := by decide +kernel
theorem dX8_item_34 : decode cX8_item 34 = .ok (.iload_n 1, 1) := by decide +kernel
theorem dX8_item_35 : decode cX8_item 35 = .ok (.iaload, 1) := by decide +kernel
theorem dX8_item_36 : decode cX8_item 36 = .ok (.iconst 1, 1) := by decide +kernel
theorem dX8_item_37 : decode cX8_item 37 = .ok (.isub, 1) := by decide +kernel
theorem dX8_item_38 : decode cX8_item 38 = .ok (.i2l, 1) := by decide +kernel
theorem dX8_item_39 : decode cX8_item 39 = .ok (.invokestatic 130, 3) := by decide +kernel
theorem dX8_item_42 : decode cX8_item 42 = .ok (.ifCond .ne 6, 3) := by decide +kernel
theorem dX8_item_45 : decode cX8_item 45 = .ok (.bipush (-13), 2) := by decide +kernel
theorem dX8_item_47 : decode cX8_item 47 = .ok (.ireturn, 1) := by decide +kernel
theorem dX8_item_48 : decode cX8_item 48 = .ok (.aload_n 0, 1) := by decide +kernel
theorem dX8_item_49 : decode cX8_item 49 = .ok (.getfield 114, 3) := by decide +kernel
theorem dX8_item_52 : decode cX8_item 52 = .ok (.bipush 60, 2) := by decide +kernel
theorem dX8_item_54 : decode cX8_item 54 = .ok (.iload_n 1, 1) := by decide +kernel
theorem dX8_item_55 : decode cX8_item 55 = .ok (.imul, 1) := by decide +kernel
theorem dX8_item_56 : decode cX8_item 56 = .ok (.iload_n 2, 1) := by decide +kernel
theorem dX8_item_57 : decode cX8_item 57 = .ok (.iadd, 1) := by decide +kernel
theorem dX8_item_58 : decode cX8_item 58 = .ok (.lload_n 3, 1) := by decide +kernel
theorem dX8_item_59 : decode cX8_item 59 = .ok (.aload_n 0, 1) := by decide +kernel
theorem dX8_item_60 : decode cX8_item 60 = .ok (.getfield 108, 3) := by decide +kernel
theorem dX8_item_63 : decode cX8_item 63 = .ok (.iload_n 1, 1) := by decide +kernel
theorem dX8_item_64 : decode cX8_item 64 = .ok (.iaload, 1) := by decide +kernel
theorem dX8_item_65 : decode cX8_item 65 = .ok (.invokestatic 371, 3) := by decide +kernel
theorem dX8_item_68 : decode cX8_item 68 = .ok (.lastore, 1) := by decide +kernel
theorem dX8_item_69 : decode cX8_item 69 = .ok (.iconst 1, 1) := by decide +kernel
theorem dX8_item_70 : decode cX8_item 70 = .ok (.ireturn, 1) := by decide +kernel
theorem dX8_read_0 : decode cX8_read 0 = .ok (.aload_n 0, 1) := by decide +kernel
theorem dX8_read_1 : decode cX8_read 1 = .ok (.iconst 0, 1) := by decide +kernel
theorem dX8_read_2 : decode cX8_read 2 = .ok (.putfield 124, 3) := by decide +kernel
theorem dX8_read_5 : decode cX8_read 5 = .ok (.aload_n 0, 1) := by decide +kernel
theorem dX8_read_6 : decode cX8_read 6 = .ok (.iload_n 1, 1) := by decide +kernel
theorem dX8_read_7 : decode cX8_read 7 = .ok (.invokevirtual 366, 3) := by decide +kernel
theorem dX8_read_10 : decode cX8_read 10 = .ok (.ifCond .eq 44, 3) := by decide +kernel
theorem dX8_read_13 : decode cX8_read 13 = .ok (.aload_n 0, 1) := by decide +kernel
theorem dX8_read_14 : decode cX8_read 14 = .ok (.getfield 121, 3) := by decide +kernel
theorem dX8_read_17 : decode cX8_read 17 = .ok (.iload_n 1, 1) := by decide +kernel
theorem dX8_read_18 : decode cX8_read 18 = .ok (.baload, 1) := by decide +kernel
theorem dX8_read_19 : decode cX8_read 19 = .ok (.ifCond .eq 35, 3) := by decide +kernel
theorem dX8_read_22 : decode cX8_read 22 = .ok (.iload_n 2, 1) := by decide +kernel
theorem dX8_read_23 : decode cX8_read 23 = .ok (.i2l, 1) := by decide +kernel
theorem dX8_read_24 : decode cX8_read 24 = .ok (.lconst 0, 1) := by decide +kernel
theorem dX8_read_25 : decode cX8_read 25 = .ok (.aload_n 0, 1) := by decide +kernel
theorem dX8_read_26 : decode cX8_read 26 = .ok (.getfield 111, 3) := by decide +kernel
theorem dX8_read_29 : decode cX8_read 29 = .ok (.iload_n 1, 1) := by decide +kernel
theorem dX8_read_30 : decode cX8_read 30 = .ok (.iaload, 1) := by decide +kernel
theorem dX8_read_31 : decode cX8_read 31 = .ok (.iconst 1, 1) := by decide +kernel
theorem dX8_read_32 : decode cX8_read 32 = .ok (.isub, 1) := by decide +kernel
theorem dX8_read_33 : decode cX8_read 33 = .ok (.i2l, 1) := by decide +kernel
theorem dX8_read_34 : decode cX8_read 34 = .ok (.invokestatic 130, 3) := by decide +kernel
theorem dX8_read_37 : decode cX8_read 37 = .ok (.ifCond .eq 17, 3) := by decide +kernel
theorem dX8_read_40 : decode cX8_read 40 = .ok (.aload_n 0, 1) := by decide +kernel
theorem dX8_read_41 : decode cX8_read 41 = .ok (.getfield 114, 3) := by decide +kernel
theorem dX8_read_44 : decode cX8_read 44 = .ok (.bipush 60, 2) := by decide +kernel
theorem dX8_read_46 : decode cX8_read 46 = .ok (.iload_n 1, 1) := by decide +kernel
theorem dX8_read_47 : decode cX8_read 47 = .ok (.imul, 1) := by decide +kernel
theorem dX8_read_48 : decode cX8_read 48 = .ok (.iload_n 2, 1) := by decide +kernel
theorem dX8_read_49 : decode cX8_read 49 = .ok (.iadd, 1) := by decide +kernel
theorem dX8_read_50 : decode cX8_read 50 = .ok (.laload, 1) := by decide +kernel
theorem dX8_read_51 : decode cX8_read 51 = .ok (.goto 6, 3) := by decide +kernel
theorem dX8_read_54 : decode cX8_read 54 = .ok (.ldc2_w 348, 3) := by decide +kernel
theorem dX8_read_57 : decode cX8_read 57 = .ok (.lreturn, 1) := by decide +kernel
theorem dX8_shift_0 : decode cX8_shift 0 = .ok (.aload_n 0, 1) := by decide +kernel
theorem dX8_shift_1 : decode cX8_shift 1 = .ok (.iconst 0, 1) := by decide +kernel
theorem dX8_shift_2 : decode cX8_shift 2 = .ok (.putfield 124, 3) := by decide +kernel
theorem dX8_shift_5 : decode cX8_shift 5 = .ok (.aload_n 0, 1) := by decide +kernel
theorem dX8_shift_6 : decode cX8_shift 6 = .ok (.iload_n 1, 1) := by decide +kernel
theorem dX8_shift_7 : decode cX8_shift 7 = .ok (.invokevirtual 366, 3) := by decide +kernel
theorem dX8_shift_10 : decode cX8_shift 10 = .ok (.ifCond .eq 11, 3) := by decide +kernel
theorem dX8_shift_13 : decode cX8_shift 13 = .ok (.aload_n 0, 1) := by decide +kernel
theorem dX8_shift_14 : decode cX8_shift 14 = .ok (.iload_n 3, 1) := by decide +kernel
theorem dX8_shift_15 : decode cX8_shift 15 = .ok (.invokevirtual 366, 3) := by decide +kernel
theorem dX8_shift_18 : decode cX8_shift 18 = .ok (.ifCond .ne 5, 3) := by decide +kernel
theorem dX8_shift_21 : decode cX8_shift 21 = .ok (.iconst (-1), 1) := by decide +kernel
theorem dX8_shift_22 : decode cX8_shift 22 = .ok (.ireturn, 1) := by decide +kernel
theorem dX8_shift_23 : decode cX8_shift 23 = .ok (.aload_n 0, 1) := by decide +kernel
theorem dX8_shift_24 : decode cX8_shift 24 = .ok (.getfield 121, 3) := by decide +kernel
theorem dX8_shift_27 : decode cX8_shift 27 = .ok (.iload_n 1, 1) := by decide +kernel
theorem dX8_shift_28 : decode cX8_shift 28 = .ok (.baload, 1) := by decide +kernel
theorem dX8_shift_29 : decode cX8_shift 29 = .ok (.ifCond .eq 12, 3) := by decide +kernel
theorem dX8_shift_32 : decode cX8_shift 32 = .ok (.aload_n 0, 1) := by decide +kernel
theorem dX8_shift_33 : decode cX8_shift 33 = .ok (.getfield 121, 3) := by decide +kernel
theorem dX8_shift_36 : decode cX8_shift 36 = .ok (.iload_n 3, 1) := by decide +kernel
theorem dX8_shift_37 : decode cX8_shift 37 = .ok (.baload, 1) := by decide +kernel
theorem dX8_shift_38 : decode cX8_shift 38 = .ok (.ifCond .ne 6, 3) := by decide +kernel
theorem dX8_shift_41 : decode cX8_shift 41 = .ok (.bipush (-11), 2) := by decide +kernel
theorem dX8_shift_43 : decode cX8_shift 43 = .ok (.ireturn, 1) := by decide +kernel
theorem dX8_shift_44 : decode cX8_shift 44 = .ok (.aload_n 0, 1) := by decide +kernel
theorem dX8_shift_45 : decode cX8_shift 45 = .ok (.getfield 108, 3) := by decide +kernel
theorem dX8_shift_48 : decode cX8_shift 48 = .ok (.iload_n 1, 1) := by decide +kernel
theorem dX8_shift_49 : decode cX8_shift 49 = .ok (.iaload, 1) := by decide +kernel
theorem dX8_shift_50 : decode cX8_shift 50 = .ok (.aload_n 0, 1) := by decide +kernel
theorem dX8_shift_51 : decode cX8_shift 51 = .ok (.getfield 108, 3) := by decide +kernel
theorem dX8_shift_54 : decode cX8_shift 54 = .ok (.iload_n 3, 1) := by decide +kernel
theorem dX8_shift_55 : decode cX8_shift 55 = .ok (.iaload, 1) := by decide +kernel
theorem dX8_shift_56 : decode cX8_shift 56 = .ok (.if_icmp .eq 6, 3) := by decide +kernel
theorem dX8_shift_59 : decode cX8_shift 59 = .ok (.bipush (-12), 2) := by decide +kernel
theorem dX8_shift_61 : decode cX8_shift 61 = .ok (.ireturn, 1) := by decide +kernel
theorem dX8_shift_62 : decode cX8_shift 62 = .ok (.iload 5, 2) := by decide +kernel
theorem dX8_shift_64 : decode cX8_shift 64 = .ok (.ifCond .lt 47, 3) := by decide +kernel
theorem dX8_shift_67 : decode cX8_shift 67 = .ok (.iload_n 2, 1) := by decide +kernel
theorem dX8_shift_68 : decode cX8_shift 68 = .ok (.ifCond .lt 43, 3) := by decide +kernel
theorem dX8_shift_71 : decode cX8_shift 71 = .ok (.iload 4, 2) := by decide +kernel
theorem dX8_shift_73 : decode cX8_shift 73 = .ok (.ifCond .lt 38, 3) := by decide +kernel
theorem dX8_shift_76 : decode cX8_shift 76 = .ok (.iload_n 2, 1) := by decide +kernel
theorem dX8_shift_77 : decode cX8_shift 77 = .ok (.i2l, 1) := by decide +kernel
theorem dX8_shift_78 : decode cX8_shift 78 = .ok (.iload 5, 2) := by decide +kernel
theorem dX8_shift_80 : decode cX8_shift 80 = .ok (.i2l, 1) := by decide +kernel
theorem dX8_shift_81 : decode cX8_shift 81 = .ok (.ladd, 1) := by decide +kernel
theorem dX8_shift_82 : decode cX8_shift 82 = .ok (.aload_n 0, 1) := by decide +kernel
theorem dX8_shift_83 : decode cX8_shift 83 = .ok (.getfield 111, 3) := by decide +kernel
theorem dX8_shift_86 : decode cX8_shift 86 = .ok (.iload_n 1, 1) := by decide +kernel
theorem dX8_shift_87 : decode cX8_shift 87 = .ok (.iaload, 1) := by decide +kernel
theorem dX8_shift_88 : decode cX8_shift 88 = .ok (.i2l, 1) := by decide +kernel
theorem dX8_shift_89 : decode cX8_shift 89 = .ok (.lcmp, 1) := by decide +kernel
theorem dX8_shift_90 : decode cX8_shift 90 = .ok (.ifCond .gt 21, 3) := by decide +kernel
theorem dX8_shift_93 : decode cX8_shift 93 = .ok (.iload 4, 2) := by decide +kernel
theorem dX8_shift_95 : decode cX8_shift 95 = .ok (.i2l, 1) := by decide +kernel
theorem dX8_shift_96 : decode cX8_shift 96 = .ok (.iload 5, 2) := by decide +kernel
theorem dX8_shift_98 : decode cX8_shift 98 = .ok (.i2l, 1) := by decide +kernel
theorem dX8_shift_99 : decode cX8_shift 99 = .ok (.ladd, 1) := by decide +kernel
theorem dX8_shift_100 : decode cX8_shift 100 = .ok (.aload_n 0, 1) := by decide +kernel
theorem dX8_shift_101 : decode cX8_shift 101 = .ok (.getfield 111, 3) := by decide +kernel
theorem dX8_shift_104 : decode cX8_shift 104 = .ok (.iload_n 3, 1) := by decide +kernel
theorem dX8_shift_105 : decode cX8_shift 105 = .ok (.iaload, 1) := by decide +kernel
theorem dX8_shift_106 : decode cX8_shift 106 = .ok (.i2l, 1) := by decide +kernel
theorem dX8_shift_107 : decode cX8_shift 107 = .ok (.lcmp, 1) := by decide +kernel
theorem dX8_shift_108 : decode cX8_shift 108 = .ok (.ifCond .le 6, 3) := by decide +kernel
theorem dX8_shift_111 : decode cX8_shift 111 = .ok (.bipush (-13), 2) := by decide +kernel
theorem dX8_shift_113 : decode cX8_shift 113 = .ok (.ireturn, 1) := by decide +kernel
theorem dX8_shift_114 : decode cX8_shift 114 = .ok (.iconst 0, 1) := by decide +kernel
theorem dX8_shift_115 : decode cX8_shift 115 = .ok (.istore 6, 2) := by decide +kernel
theorem dX8_shift_117 : decode cX8_shift 117 = .ok (.iload 6, 2) := by decide +kernel
theorem dX8_shift_119 : decode cX8_shift 119 = .ok (.iload 5, 2) := by decide +kernel
theorem dX8_shift_121 : decode cX8_shift 121 = .ok (.if_icmp .ge 30, 3) := by decide +kernel
theorem dX8_shift_124 : decode cX8_shift 124 = .ok (.aload_n 0, 1) := by decide +kernel
theorem dX8_shift_125 : decode cX8_shift 125 = .ok (.getfield 118, 3) := by decide +kernel
theorem dX8_shift_128 : decode cX8_shift 128 = .ok (.iload 6, 2) := by decide +kernel
theorem dX8_shift_130 : decode cX8_shift 130 = .ok (.aload_n 0, 1) := by decide +kernel
theorem dX8_shift_131 : decode cX8_shift 131 = .ok (.getfield 114, 3) := by decide +kernel
theorem dX8_shift_134 : decode cX8_shift 134 = .ok (.bipush 60, 2) := by decide +kernel
theorem dX8_shift_136 : decode cX8_shift 136 = .ok (.iload_n 1, 1) := by decide +kernel
theorem dX8_shift_137 : decode cX8_shift 137 = .ok (.imul, 1) := by decide +kernel
theorem dX8_shift_138 : decode cX8_shift 138 = .ok (.iload_n 2, 1) := by decide +kernel
theorem dX8_shift_139 : decode cX8_shift 139 = .ok (.iadd, 1) := by decide +kernel
theorem dX8_shift_140 : decode cX8_shift 140 = .ok (.iload 6, 2) := by decide +kernel
theorem dX8_shift_142 : decode cX8_shift 142 = .ok (.iadd, 1) := by decide +kernel
theorem dX8_shift_143 : decode cX8_shift 143 = .ok (.laload, 1) := by decide +kernel
theorem dX8_shift_144 : decode cX8_shift 144 = .ok (.lastore, 1) := by decide +kernel
theorem dX8_shift_145 : decode cX8_shift 145 = .ok (.iinc 6 1, 3) := by decide +kernel
theorem dX8_shift_148 : decode cX8_shift 148 = .ok (.goto (-31), 3) := by decide +kernel
theorem dX8_shift_151 : decode cX8_shift 151 = .ok (.iconst 0, 1) := by decide +kernel
theorem dX8_shift_152 : decode cX8_shift 152 = .ok (.istore 6, 2) := by decide +kernel
theorem dX8_shift_154 : decode cX8_shift 154 = .ok (.iload 6, 2) := by decide +kernel
theorem dX8_shift_156 : decode cX8_shift 156 = .ok (.iload 5, 2) := by decide +kernel
theorem dX8_shift_158 : decode cX8_shift 158 = .ok (.if_icmp .ge 31, 3) := by decide +kernel
theorem dX8_shift_161 : decode cX8_shift 161 = .ok (.aload_n 0, 1) := by decide +kernel
theorem dX8_shift_162 : decode cX8_shift 162 = .ok (.getfield 114, 3) := by decide +kernel
theorem dX8_shift_165 : decode cX8_shift 165 = .ok (.bipush 60, 2) := by decide +kernel
theorem dX8_shift_167 : decode cX8_shift 167 = .ok (.iload_n 3, 1) := by decide +kernel
theorem dX8_shift_168 : decode cX8_shift 168 = .ok (.imul, 1) := by decide +kernel
theorem dX8_shift_169 : decode cX8_shift 169 = .ok (.iload 4, 2) := by decide +kernel
theorem dX8_shift_171 : decode cX8_shift 171 = .ok (.iadd, 1) := by decide +kernel
theorem dX8_shift_172 : decode cX8_shift 172 = .ok (.iload 6, 2) := by decide +kernel
theorem dX8_shift_174 : decode cX8_shift 174 = .ok (.iadd, 1) := by decide +kernel
theorem dX8_shift_175 : decode cX8_shift 175 = .ok (.aload_n 0, 1) := by decide +kernel
theorem dX8_shift_176 : decode cX8_shift 176 = .ok (.getfield 118, 3) := by decide +kernel
theorem dX8_shift_179 : decode cX8_shift 179 = .ok (.iload 6, 2) := by decide +kernel
theorem dX8_shift_181 : decode cX8_shift 181 = .ok (.laload, 1) := by decide +kernel
theorem dX8_shift_182 : decode cX8_shift 182 = .ok (.lastore, 1) := by decide +kernel
theorem dX8_shift_183 : decode cX8_shift 183 = .ok (.iinc 6 1, 3) := by decide +kernel
theorem dX8_shift_186 : decode cX8_shift 186 = .ok (.goto (-32), 3) := by decide +kernel
theorem dX8_shift_189 : decode cX8_shift 189 = .ok (.iload 5, 2) := by decide +kernel
theorem dX8_shift_191 : decode cX8_shift 191 = .ok (.ireturn, 1) := by decide +kernel
theorem dX8_judge_0 : decode cX8_judge 0 = .ok (.aload_n 0, 1) := by decide +kernel
theorem dX8_judge_1 : decode cX8_judge 1 = .ok (.iconst 0, 1) := by decide +kernel
theorem dX8_judge_2 : decode cX8_judge 2 = .ok (.putfield 124, 3) := by decide +kernel
theorem dX8_judge_5 : decode cX8_judge 5 = .ok (.aload_n 0, 1) := by decide +kernel
theorem dX8_judge_6 : decode cX8_judge 6 = .ok (.iload_n 1, 1) := by decide +kernel
theorem dX8_judge_7 : decode cX8_judge 7 = .ok (.invokevirtual 366, 3) := by decide +kernel
theorem dX8_judge_10 : decode cX8_judge 10 = .ok (.ifCond .ne 5, 3) := by decide +kernel
theorem dX8_judge_13 : decode cX8_judge 13 = .ok (.iconst (-1), 1) := by decide +kernel
theorem dX8_judge_14 : decode cX8_judge 14 = .ok (.ireturn, 1) := by decide +kernel
theorem dX8_judge_15 : decode cX8_judge 15 = .ok (.aload_n 0, 1) := by decide +kernel
theorem dX8_judge_16 : decode cX8_judge 16 = .ok (.getfield 121, 3) := by decide +kernel
theorem dX8_judge_19 : decode cX8_judge 19 = .ok (.iload_n 1, 1) := by decide +kernel
theorem dX8_judge_20 : decode cX8_judge 20 = .ok (.baload, 1) := by decide +kernel
theorem dX8_judge_21 : decode cX8_judge 21 = .ok (.ifCond .eq 15, 3) := by decide +kernel
theorem dX8_judge_24 : decode cX8_judge 24 = .ok (.aload_n 0, 1) := by decide +kernel
theorem dX8_judge_25 : decode cX8_judge 25 = .ok (.getfield 108, 3) := by decide +kernel
theorem dX8_judge_28 : decode cX8_judge 28 = .ok (.iload_n 1, 1) := by decide +kernel
theorem dX8_judge_29 : decode cX8_judge 29 = .ok (.iaload, 1) := by decide +kernel
theorem dX8_judge_30 : decode cX8_judge 30 = .ok (.ifCond .eq 6, 3) := by decide +kernel
theorem dX8_judge_33 : decode cX8_judge 33 = .ok (.bipush (-12), 2) := by decide +kernel
theorem dX8_judge_35 : decode cX8_judge 35 = .ok (.ireturn, 1) := by decide +kernel
theorem dX8_judge_36 : decode cX8_judge 36 = .ok (.iconst 0, 1) := by decide +kernel
theorem dX8_judge_37 : decode cX8_judge 37 = .ok (.istore_n 3, 1) := by decide +kernel
theorem dX8_judge_38 : decode cX8_judge 38 = .ok (.iload_n 3, 1) := by decide +kernel
theorem dX8_judge_39 : decode cX8_judge 39 = .ok (.aload_n 0, 1) := by decide +kernel
theorem dX8_judge_40 : decode cX8_judge 40 = .ok (.getfield 127, 3) := by decide +kernel
theorem dX8_judge_43 : decode cX8_judge 43 = .ok (.if_icmp .ge 69, 3) := by decide +kernel
theorem dX8_judge_46 : decode cX8_judge 46 = .ok (.aload_n 0, 1) := by decide +kernel
theorem dX8_judge_47 : decode cX8_judge 47 = .ok (.getfield 121, 3) := by decide +kernel
theorem dX8_judge_50 : decode cX8_judge 50 = .ok (.iload_n 1, 1) := by decide +kernel
theorem dX8_judge_51 : decode cX8_judge 51 = .ok (.baload, 1) := by decide +kernel
theorem dX8_judge_52 : decode cX8_judge 52 = .ok (.ifCond .eq 23, 3) := by decide +kernel
theorem dX8_judge_55 : decode cX8_judge 55 = .ok (.iload_n 2, 1) := by decide +kernel
theorem dX8_judge_56 : decode cX8_judge 56 = .ok (.ifCond .lt 19, 3) := by decide +kernel
theorem dX8_judge_59 : decode cX8_judge 59 = .ok (.iload_n 2, 1) := by decide +kernel
theorem dX8_judge_60 : decode cX8_judge 60 = .ok (.i2l, 1) := by decide +kernel
theorem dX8_judge_61 : decode cX8_judge 61 = .ok (.iload_n 3, 1) := by decide +kernel
theorem dX8_judge_62 : decode cX8_judge 62 = .ok (.i2l, 1) := by decide +kernel
theorem dX8_judge_63 : decode cX8_judge 63 = .ok (.ladd, 1) := by decide +kernel
theorem dX8_judge_64 : decode cX8_judge 64 = .ok (.aload_n 0, 1) := by decide +kernel
theorem dX8_judge_65 : decode cX8_judge 65 = .ok (.getfield 111, 3) := by decide +kernel
theorem dX8_judge_68 : decode cX8_judge 68 = .ok (.iload_n 1, 1) := by decide +kernel
theorem dX8_judge_69 : decode cX8_judge 69 = .ok (.iaload, 1) := by decide +kernel
theorem dX8_judge_70 : decode cX8_judge 70 = .ok (.i2l, 1) := by decide +kernel
theorem dX8_judge_71 : decode cX8_judge 71 = .ok (.lcmp, 1) := by decide +kernel
theorem dX8_judge_72 : decode cX8_judge 72 = .ok (.ifCond .lt 8, 3) := by decide +kernel
theorem dX8_judge_75 : decode cX8_judge 75 = .ok (.bipush 100, 2) := by decide +kernel
theorem dX8_judge_77 : decode cX8_judge 77 = .ok (.iload_n 3, 1) := by decide +kernel
theorem dX8_judge_78 : decode cX8_judge 78 = .ok (.iadd, 1) := by decide +kernel
theorem dX8_judge_79 : decode cX8_judge 79 = .ok (.ireturn, 1) := by decide +kernel
theorem dX8_judge_80 : decode cX8_judge 80 = .ok (.aload_n 0, 1) := by decide +kernel
theorem dX8_judge_81 : decode cX8_judge 81 = .ok (.getfield 114, 3) := by decide +kernel
theorem dX8_judge_84 : decode cX8_judge 84 = .ok (.bipush 60, 2) := by decide +kernel
theorem dX8_judge_86 : decode cX8_judge 86 = .ok (.iload_n 1, 1) := by decide +kernel
theorem dX8_judge_87 : decode cX8_judge 87 = .ok (.imul, 1) := by decide +kernel
theorem dX8_judge_88 : decode cX8_judge 88 = .ok (.iload_n 2, 1) := by decide +kernel
theorem dX8_judge_89 : decode cX8_judge 89 = .ok (.iadd, 1) := by decide +kernel
theorem dX8_judge_90 : decode cX8_judge 90 = .ok (.iload_n 3, 1) := by decide +kernel
theorem dX8_judge_91 : decode cX8_judge 91 = .ok (.iadd, 1) := by decide +kernel
theorem dX8_judge_92 : decode cX8_judge 92 = .ok (.laload, 1) := by decide +kernel
theorem dX8_judge_93 : decode cX8_judge 93 = .ok (.aload_n 0, 1) := by decide +kernel
theorem dX8_judge_94 : decode cX8_judge 94 = .ok (.getfield 38, 3) := by decide +kernel
theorem dX8_judge_97 : decode cX8_judge 97 = .ok (.iload_n 3, 1) := by decide +kernel
theorem dX8_judge_98 : decode cX8_judge 98 = .ok (.iaload, 1) := by decide +kernel
theorem dX8_judge_99 : decode cX8_judge 99 = .ok (.i2l, 1) := by decide +kernel
theorem dX8_judge_100 : decode cX8_judge 100 = .ok (.lcmp, 1) := by decide +kernel
theorem dX8_judge_101 : decode cX8_judge 101 = .ok (.ifCond .eq 5, 3) := by decide +kernel
theorem dX8_judge_104 : decode cX8_judge 104 = .ok (.iload_n 3, 1) := by decide +kernel
theorem dX8_judge_105 : decode cX8_judge 105 = .ok (.ireturn, 1) := by decide +kernel
theorem dX8_judge_106 : decode cX8_judge 106 = .ok (.iinc 3 1, 3) := by decide +kernel
theorem dX8_judge_109 : decode cX8_judge 109 = .ok (.goto (-71), 3) := by decide +kernel
theorem dX8_judge_112 : decode cX8_judge 112 = .ok (.bipush (-5), 2) := by decide +kernel
theorem dX8_judge_114 : decode cX8_judge 114 = .ok (.ireturn, 1) := by decide +kernel
