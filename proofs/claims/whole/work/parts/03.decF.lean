theorem dX5_clash_114 : decode cX5_clash 114 = .ok (.aload_n 0, 1) := by decide +kernel
theorem dX5_clash_115 : decode cX5_clash 115 = .ok (.getfield 34, 3) := by decide +kernel
theorem dX5_clash_118 : decode cX5_clash 118 = .ok (.bipush 12, 2) := by decide +kernel
theorem dX5_clash_120 : decode cX5_clash 120 = .ok (.iload_n 1, 1) := by decide +kernel
theorem dX5_clash_121 : decode cX5_clash 121 = .ok (.imul, 1) := by decide +kernel
theorem dX5_clash_122 : decode cX5_clash 122 = .ok (.iload_n 3, 1) := by decide +kernel
theorem dX5_clash_123 : decode cX5_clash 123 = .ok (.iadd, 1) := by decide +kernel
theorem dX5_clash_124 : decode cX5_clash 124 = .ok (.iload 4, 2) := by decide +kernel
theorem dX5_clash_126 : decode cX5_clash 126 = .ok (.iastore, 1) := by decide +kernel
theorem dX5_clash_127 : decode cX5_clash 127 = .ok (.iinc 3 (-1), 3) := by decide +kernel
theorem dX5_clash_130 : decode cX5_clash 130 = .ok (.goto (-58), 3) := by decide +kernel
theorem dX5_clash_133 : decode cX5_clash 133 = .ok (.iconst 0, 1) := by decide +kernel
theorem dX5_clash_134 : decode cX5_clash 134 = .ok (.istore_n 3, 1) := by decide +kernel
theorem dX5_clash_135 : decode cX5_clash 135 = .ok (.iload_n 3, 1) := by decide +kernel
theorem dX5_clash_136 : decode cX5_clash 136 = .ok (.aload_n 0, 1) := by decide +kernel
theorem dX5_clash_137 : decode cX5_clash 137 = .ok (.getfield 22, 3) := by decide +kernel
theorem dX5_clash_140 : decode cX5_clash 140 = .ok (.iload_n 1, 1) := by decide +kernel
theorem dX5_clash_141 : decode cX5_clash 141 = .ok (.iaload, 1) := by decide +kernel
theorem dX5_clash_142 : decode cX5_clash 142 = .ok (.if_icmp .ge 57, 3) := by decide +kernel
theorem dX5_clash_145 : decode cX5_clash 145 = .ok (.aload_n 0, 1) := by decide +kernel
theorem dX5_clash_146 : decode cX5_clash 146 = .ok (.getfield 34, 3) := by decide +kernel
theorem dX5_clash_149 : decode cX5_clash 149 = .ok (.bipush 12, 2) := by decide +kernel
theorem dX5_clash_151 : decode cX5_clash 151 = .ok (.iload_n 1, 1) := by decide +kernel
theorem dX5_clash_152 : decode cX5_clash 152 = .ok (.imul, 1) := by decide +kernel
theorem dX5_clash_153 : decode cX5_clash 153 = .ok (.iload_n 3, 1) := by decide +kernel
theorem dX5_clash_154 : decode cX5_clash 154 = .ok (.iadd, 1) := by decide +kernel
theorem dX5_clash_155 : decode cX5_clash 155 = .ok (.iaload, 1) := by decide +kernel
theorem dX5_clash_156 : decode cX5_clash 156 = .ok (.ifCond .eq 23, 3) := by decide +kernel
theorem dX5_clash_159 : decode cX5_clash 159 = .ok (.aload_n 0, 1) := by decide +kernel
theorem dX5_clash_160 : decode cX5_clash 160 = .ok (.getfield 69, 3) := by decide +kernel
theorem dX5_clash_163 : decode cX5_clash 163 = .ok (.aload_n 0, 1) := by decide +kernel
theorem dX5_clash_164 : decode cX5_clash 164 = .ok (.getfield 184, 3) := by decide +kernel
theorem dX5_clash_167 : decode cX5_clash 167 = .ok (.iload_n 3, 1) := by decide +kernel
theorem dX5_clash_168 : decode cX5_clash 168 = .ok (.iastore, 1) := by decide +kernel
theorem dX5_clash_169 : decode cX5_clash 169 = .ok (.aload_n 0, 1) := by decide +kernel
theorem dX5_clash_170 : decode cX5_clash 170 = .ok (.dup, 1) := by decide +kernel
theorem dX5_clash_171 : decode cX5_clash 171 = .ok (.getfield 184, 3) := by decide +kernel
theorem dX5_clash_174 : decode cX5_clash 174 = .ok (.iconst 1, 1) := by decide +kernel
theorem dX5_clash_175 : decode cX5_clash 175 = .ok (.iadd, 1) := by decide +kernel
theorem dX5_clash_176 : decode cX5_clash 176 = .ok (.putfield 184, 3) := by decide +kernel
theorem dX5_clash_179 : decode cX5_clash 179 = .ok (.aload_n 0, 1) := by decide +kernel
theorem dX5_clash_180 : decode cX5_clash 180 = .ok (.getfield 34, 3) := by decide +kernel
theorem dX5_clash_183 : decode cX5_clash 183 = .ok (.bipush 12, 2) := by decide +kernel
theorem dX5_clash_185 : decode cX5_clash 185 = .ok (.iload_n 1, 1) := by decide +kernel
theorem dX5_clash_186 : decode cX5_clash 186 = .ok (.imul, 1) := by decide +kernel
theorem dX5_clash_187 : decode cX5_clash 187 = .ok (.iload_n 3, 1) := by decide +kernel
theorem dX5_clash_188 : decode cX5_clash 188 = .ok (.iadd, 1) := by decide +kernel
theorem dX5_clash_189 : decode cX5_clash 189 = .ok (.aload_n 2, 1) := by decide +kernel
theorem dX5_clash_190 : decode cX5_clash 190 = .ok (.iload_n 3, 1) := by decide +kernel
theorem dX5_clash_191 : decode cX5_clash 191 = .ok (.iaload, 1) := by decide +kernel
theorem dX5_clash_192 : decode cX5_clash 192 = .ok (.iastore, 1) := by decide +kernel
theorem dX5_clash_193 : decode cX5_clash 193 = .ok (.iinc 3 1, 3) := by decide +kernel
theorem dX5_clash_196 : decode cX5_clash 196 = .ok (.goto (-61), 3) := by decide +kernel
theorem dX5_clash_199 : decode cX5_clash 199 = .ok (.aload_n 0, 1) := by decide +kernel
theorem dX5_clash_200 : decode cX5_clash 200 = .ok (.getfield 184, 3) := by decide +kernel
theorem dX5_clash_203 : decode cX5_clash 203 = .ok (.ireturn, 1) := by decide +kernel
theorem dX5_inClash_0 : decode cX5_inClash 0 = .ok (.iload_n 1, 1) := by decide +kernel
theorem dX5_inClash_1 : decode cX5_inClash 1 = .ok (.ifCond .lt 20, 3) := by decide +kernel
theorem dX5_inClash_4 : decode cX5_inClash 4 = .ok (.iload_n 1, 1) := by decide +kernel
theorem dX5_inClash_5 : decode cX5_inClash 5 = .ok (.aload_n 0, 1) := by decide +kernel
theorem dX5_inClash_6 : decode cX5_inClash 6 = .ok (.getfield 184, 3) := by decide +kernel
theorem dX5_inClash_9 : decode cX5_inClash 9 = .ok (.if_icmp .ge 12, 3) := by decide +kernel
theorem dX5_inClash_12 : decode cX5_inClash 12 = .ok (.aload_n 0, 1) := by decide +kernel
theorem dX5_inClash_13 : decode cX5_inClash 13 = .ok (.getfield 69, 3) := by decide +kernel
theorem dX5_inClash_16 : decode cX5_inClash 16 = .ok (.iload_n 1, 1) := by decide +kernel
theorem dX5_inClash_17 : decode cX5_inClash 17 = .ok (.iaload, 1) := by decide +kernel
theorem dX5_inClash_18 : decode cX5_inClash 18 = .ok (.goto 4, 3) := by decide +kernel
theorem dX5_inClash_21 : decode cX5_inClash 21 = .ok (.iconst (-1), 1) := by decide +kernel
theorem dX5_inClash_22 : decode cX5_inClash 22 = .ok (.ireturn, 1) := by decide +kernel
theorem dX5_gapsOf_0 : decode cX5_gapsOf 0 = .ok (.iload_n 2, 1) := by decide +kernel
theorem dX5_gapsOf_1 : decode cX5_gapsOf 1 = .ok (.ifCond .eq 12, 3) := by decide +kernel
theorem dX5_gapsOf_4 : decode cX5_gapsOf 4 = .ok (.aload_n 0, 1) := by decide +kernel
theorem dX5_gapsOf_5 : decode cX5_gapsOf 5 = .ok (.getfield 16, 3) := by decide +kernel
theorem dX5_gapsOf_8 : decode cX5_gapsOf 8 = .ok (.iload_n 1, 1) := by decide +kernel
theorem dX5_gapsOf_9 : decode cX5_gapsOf 9 = .ok (.iaload, 1) := by decide +kernel
theorem dX5_gapsOf_10 : decode cX5_gapsOf 10 = .ok (.goto 9, 3) := by decide +kernel
theorem dX5_gapsOf_13 : decode cX5_gapsOf 13 = .ok (.aload_n 0, 1) := by decide +kernel
theorem dX5_gapsOf_14 : decode cX5_gapsOf 14 = .ok (.getfield 19, 3) := by decide +kernel
theorem dX5_gapsOf_17 : decode cX5_gapsOf 17 = .ok (.iload_n 1, 1) := by decide +kernel
theorem dX5_gapsOf_18 : decode cX5_gapsOf 18 = .ok (.iaload, 1) := by decide +kernel
theorem dX5_gapsOf_19 : decode cX5_gapsOf 19 = .ok (.iconst 1, 1) := by decide +kernel
theorem dX5_gapsOf_20 : decode cX5_gapsOf 20 = .ok (.isub, 1) := by decide +kernel
theorem dX5_gapsOf_21 : decode cX5_gapsOf 21 = .ok (.ireturn, 1) := by decide +kernel
theorem dX5_lengthOf_0 : decode cX5_lengthOf 0 = .ok (.aload_n 0, 1) := by decide +kernel
theorem dX5_lengthOf_1 : decode cX5_lengthOf 1 = .ok (.getfield 7, 3) := by decide +kernel
theorem dX5_lengthOf_4 : decode cX5_lengthOf 4 = .ok (.iload_n 1, 1) := by decide +kernel
theorem dX5_lengthOf_5 : decode cX5_lengthOf 5 = .ok (.iaload, 1) := by decide +kernel
theorem dX5_lengthOf_6 : decode cX5_lengthOf 6 = .ok (.iconst 2, 1) := by decide +kernel
theorem dX5_lengthOf_7 : decode cX5_lengthOf 7 = .ok (.if_icmp .ne 7, 3) := by decide +kernel
theorem dX5_lengthOf_10 : decode cX5_lengthOf 10 = .ok (.iconst 1, 1) := by decide +kernel
theorem dX5_lengthOf_11 : decode cX5_lengthOf 11 = .ok (.goto 14, 3) := by decide +kernel
theorem dX5_lengthOf_14 : decode cX5_lengthOf 14 = .ok (.aload_n 0, 1) := by decide +kernel
theorem dX5_lengthOf_15 : decode cX5_lengthOf 15 = .ok (.getfield 25, 3) := by decide +kernel
theorem dX5_lengthOf_18 : decode cX5_lengthOf 18 = .ok (.bipush 9, 2) := by decide +kernel
theorem dX5_lengthOf_20 : decode cX5_lengthOf 20 = .ok (.iload_n 1, 1) := by decide +kernel
theorem dX5_lengthOf_21 : decode cX5_lengthOf 21 = .ok (.imul, 1) := by decide +kernel
theorem dX5_lengthOf_22 : decode cX5_lengthOf 22 = .ok (.iload_n 2, 1) := by decide +kernel
theorem dX5_lengthOf_23 : decode cX5_lengthOf 23 = .ok (.iadd, 1) := by decide +kernel
theorem dX5_lengthOf_24 : decode cX5_lengthOf 24 = .ok (.iaload, 1) := by decide +kernel
theorem dX5_lengthOf_25 : decode cX5_lengthOf 25 = .ok (.ireturn, 1) := by decide +kernel
theorem dX5_goesUp_0 : decode cX5_goesUp 0 = .ok (.iconst 1, 1) := by decide +kernel
theorem dX5_goesUp_1 : decode cX5_goesUp 1 = .ok (.istore_n 2, 1) := by decide +kernel
theorem dX5_goesUp_2 : decode cX5_goesUp 2 = .ok (.iconst 0, 1) := by decide +kernel
theorem dX5_goesUp_3 : decode cX5_goesUp 3 = .ok (.istore_n 3, 1) := by decide +kernel
theorem dX5_goesUp_4 : decode cX5_goesUp 4 = .ok (.iload_n 3, 1) := by decide +kernel
theorem dX5_goesUp_5 : decode cX5_goesUp 5 = .ok (.iload_n 1, 1) := by decide +kernel
theorem dX5_goesUp_6 : decode cX5_goesUp 6 = .ok (.if_icmp .ge 26, 3) := by decide +kernel
theorem dX5_goesUp_9 : decode cX5_goesUp 9 = .ok (.iload_n 2, 1) := by decide +kernel
theorem dX5_goesUp_10 : decode cX5_goesUp 10 = .ok (.iload_n 0, 1) := by decide +kernel
theorem dX5_goesUp_11 : decode cX5_goesUp 11 = .ok (.iload_n 3, 1) := by decide +kernel
theorem dX5_goesUp_12 : decode cX5_goesUp 12 = .ok (.ishr, 1) := by decide +kernel
theorem dX5_goesUp_13 : decode cX5_goesUp 13 = .ok (.iconst 1, 1) := by decide +kernel
theorem dX5_goesUp_14 : decode cX5_goesUp 14 = .ok (.iand, 1) := by decide +kernel
theorem dX5_goesUp_15 : decode cX5_goesUp 15 = .ok (.iconst 1, 1) := by decide +kernel
theorem dX5_goesUp_16 : decode cX5_goesUp 16 = .ok (.if_icmp .ne 7, 3) := by decide +kernel
theorem dX5_goesUp_19 : decode cX5_goesUp 19 = .ok (.iconst 1, 1) := by decide +kernel
theorem dX5_goesUp_20 : decode cX5_goesUp 20 = .ok (.goto 4, 3) := by decide +kernel
theorem dX5_goesUp_23 : decode cX5_goesUp 23 = .ok (.iconst 0, 1) := by decide +kernel
theorem dX5_goesUp_24 : decode cX5_goesUp 24 = .ok (.ixor, 1) := by decide +kernel
theorem dX5_goesUp_25 : decode cX5_goesUp 25 = .ok (.istore_n 2, 1) := by decide +kernel
theorem dX5_goesUp_26 : decode cX5_goesUp 26 = .ok (.iinc 3 1, 3) := by decide +kernel
theorem dX5_goesUp_29 : decode cX5_goesUp 29 = .ok (.goto (-25), 3) := by decide +kernel
theorem dX5_goesUp_32 : decode cX5_goesUp 32 = .ok (.iload_n 2, 1) := by decide +kernel
theorem dX5_goesUp_33 : decode cX5_goesUp 33 = .ok (.ireturn, 1) := by decide +kernel
theorem dX5_liesAt_0 : decode cX5_liesAt 0 = .ok (.iconst 0, 1) := by decide +kernel
theorem dX5_liesAt_1 : decode cX5_liesAt 1 = .ok (.istore 4, 2) := by decide +kernel
theorem dX5_liesAt_3 : decode cX5_liesAt 3 = .ok (.iconst 0, 1) := by decide +kernel
theorem dX5_liesAt_4 : decode cX5_liesAt 4 = .ok (.istore 5, 2) := by decide +kernel
theorem dX5_liesAt_6 : decode cX5_liesAt 6 = .ok (.iload 5, 2) := by decide +kernel
theorem dX5_liesAt_8 : decode cX5_liesAt 8 = .ok (.iload_n 3, 1) := by decide +kernel
theorem dX5_liesAt_9 : decode cX5_liesAt 9 = .ok (.if_icmp .ge 41, 3) := by decide +kernel
theorem dX5_liesAt_12 : decode cX5_liesAt 12 = .ok (.iload 4, 2) := by decide +kernel
theorem dX5_liesAt_14 : decode cX5_liesAt 14 = .ok (.iload_n 2, 1) := by decide +kernel
theorem dX5_liesAt_15 : decode cX5_liesAt 15 = .ok (.iload 5, 2) := by decide +kernel
theorem dX5_liesAt_17 : decode cX5_liesAt 17 = .ok (.invokestatic 190, 3) := by decide +kernel
theorem dX5_liesAt_20 : decode cX5_liesAt 20 = .ok (.ifCond .eq 13, 3) := by decide +kernel
theorem dX5_liesAt_23 : decode cX5_liesAt 23 = .ok (.aload_n 0, 1) := by decide +kernel
theorem dX5_liesAt_24 : decode cX5_liesAt 24 = .ok (.iload_n 1, 1) := by decide +kernel
theorem dX5_liesAt_25 : decode cX5_liesAt 25 = .ok (.iload 5, 2) := by decide +kernel
theorem dX5_liesAt_27 : decode cX5_liesAt 27 = .ok (.invokevirtual 193, 3) := by decide +kernel
theorem dX5_liesAt_30 : decode cX5_liesAt 30 = .ok (.goto 11, 3) := by decide +kernel
theorem dX5_liesAt_33 : decode cX5_liesAt 33 = .ok (.aload_n 0, 1) := by decide +kernel
theorem dX5_liesAt_34 : decode cX5_liesAt 34 = .ok (.iload_n 1, 1) := by decide +kernel
theorem dX5_liesAt_35 : decode cX5_liesAt 35 = .ok (.iload 5, 2) := by decide +kernel
theorem dX5_liesAt_37 : decode cX5_liesAt 37 = .ok (.invokevirtual 193, 3) := by decide +kernel
theorem dX5_liesAt_40 : decode cX5_liesAt 40 = .ok (.ineg, 1) := by decide +kernel
theorem dX5_liesAt_41 : decode cX5_liesAt 41 = .ok (.iadd, 1) := by decide +kernel
theorem dX5_liesAt_42 : decode cX5_liesAt 42 = .ok (.istore 4, 2) := by decide +kernel
theorem dX5_liesAt_44 : decode cX5_liesAt 44 = .ok (.iinc 5 1, 3) := by decide +kernel
theorem dX5_liesAt_47 : decode cX5_liesAt 47 = .ok (.goto (-41), 3) := by decide +kernel
theorem dX5_liesAt_50 : decode cX5_liesAt 50 = .ok (.iload 4, 2) := by decide +kernel
theorem dX5_liesAt_52 : decode cX5_liesAt 52 = .ok (.ireturn, 1) := by decide +kernel
theorem dX5_done_0 : decode cX5_done 0 = .ok (.iload 4, 2) := by decide +kernel
theorem dX5_done_2 : decode cX5_done 2 = .ok (.iconst 2, 1) := by decide +kernel
theorem dX5_done_3 : decode cX5_done 3 = .ok (.iand, 1) := by decide +kernel
theorem dX5_done_4 : decode cX5_done 4 = .ok (.ifCond .eq 7, 3) := by decide +kernel
theorem dX5_done_7 : decode cX5_done 7 = .ok (.iconst 1, 1) := by decide +kernel
theorem dX5_done_8 : decode cX5_done 8 = .ok (.goto 4, 3) := by decide +kernel
theorem dX5_done_11 : decode cX5_done 11 = .ok (.iconst 0, 1) := by decide +kernel
theorem dX5_done_12 : decode cX5_done 12 = .ok (.istore 5, 2) := by decide +kernel
theorem dX5_done_14 : decode cX5_done 14 = .ok (.iload 4, 2) := by decide +kernel
theorem dX5_done_16 : decode cX5_done 16 = .ok (.iconst 1, 1) := by decide +kernel
theorem dX5_done_17 : decode cX5_done 17 = .ok (.iand, 1) := by decide +kernel
theorem dX5_done_18 : decode cX5_done 18 = .ok (.ifCond .eq 7, 3) := by decide +kernel
theorem dX5_done_21 : decode cX5_done 21 = .ok (.iconst 1, 1) := by decide +kernel
theorem dX5_done_22 : decode cX5_done 22 = .ok (.goto 4, 3) := by decide +kernel
theorem dX5_done_25 : decode cX5_done 25 = .ok (.iconst 0, 1) := by decide +kernel
theorem dX5_done_26 : decode cX5_done 26 = .ok (.istore 6, 2) := by decide +kernel
theorem dX5_done_28 : decode cX5_done 28 = .ok (.iload 4, 2) := by decide +kernel
theorem dX5_done_30 : decode cX5_done 30 = .ok (.iconst 2, 1) := by decide +kernel
theorem dX5_done_31 : decode cX5_done 31 = .ok (.ishr, 1) := by decide +kernel
theorem dX5_done_32 : decode cX5_done 32 = .ok (.istore 7, 2) := by decide +kernel
theorem dX5_done_34 : decode cX5_done 34 = .ok (.iload 5, 2) := by decide +kernel
theorem dX5_done_36 : decode cX5_done 36 = .ok (.ifCond .eq 15, 3) := by decide +kernel
theorem dX5_done_39 : decode cX5_done 39 = .ok (.aload_n 0, 1) := by decide +kernel
theorem dX5_done_40 : decode cX5_done 40 = .ok (.getfield 7, 3) := by decide +kernel
theorem dX5_done_43 : decode cX5_done 43 = .ok (.iload_n 1, 1) := by decide +kernel
theorem dX5_done_44 : decode cX5_done 44 = .ok (.iaload, 1) := by decide +kernel
theorem dX5_done_45 : decode cX5_done 45 = .ok (.iconst 2, 1) := by decide +kernel
theorem dX5_done_46 : decode cX5_done 46 = .ok (.if_icmp .eq 5, 3) := by decide +kernel
theorem dX5_done_49 : decode cX5_done 49 = .ok (.iconst 0, 1) := by decide +kernel
theorem dX5_done_50 : decode cX5_done 50 = .ok (.ireturn, 1) := by decide +kernel
theorem dX5_done_51 : decode cX5_done 51 = .ok (.iload 5, 2) := by decide +kernel
theorem dX5_done_53 : decode cX5_done 53 = .ok (.ifCond .eq 7, 3) := by decide +kernel
theorem dX5_done_56 : decode cX5_done 56 = .ok (.iload_n 3, 1) := by decide +kernel
theorem dX5_done_57 : decode cX5_done 57 = .ok (.goto 4, 3) := by decide +kernel
theorem dX5_done_60 : decode cX5_done 60 = .ok (.iload_n 2, 1) := by decide +kernel
theorem dX5_done_61 : decode cX5_done 61 = .ok (.istore 8, 2) := by decide +kernel
theorem dX5_done_63 : decode cX5_done 63 = .ok (.aload_n 0, 1) := by decide +kernel
theorem dX5_done_64 : decode cX5_done 64 = .ok (.iload_n 1, 1) := by decide +kernel
theorem dX5_done_65 : decode cX5_done 65 = .ok (.iload 5, 2) := by decide +kernel
theorem dX5_done_67 : decode cX5_done 67 = .ok (.invokevirtual 196, 3) := by decide +kernel
theorem dX5_done_70 : decode cX5_done 70 = .ok (.istore 9, 2) := by decide +kernel
theorem dX5_done_72 : decode cX5_done 72 = .ok (.iconst 0, 1) := by decide +kernel
theorem dX5_done_73 : decode cX5_done 73 = .ok (.istore 10, 2) := by decide +kernel
theorem dX5_done_75 : decode cX5_done 75 = .ok (.iconst 0, 1) := by decide +kernel
theorem dX5_done_76 : decode cX5_done 76 = .ok (.istore 11, 2) := by decide +kernel
theorem dX5_done_78 : decode cX5_done 78 = .ok (.iload 11, 2) := by decide +kernel
theorem dX5_done_80 : decode cX5_done 80 = .ok (.iload 9, 2) := by decide +kernel
theorem dX5_done_82 : decode cX5_done 82 = .ok (.if_icmp .ge 44, 3) := by decide +kernel
theorem dX5_done_85 : decode cX5_done 85 = .ok (.iload 8, 2) := by decide +kernel
theorem dX5_done_87 : decode cX5_done 87 = .ok (.iload 11, 2) := by decide +kernel
theorem dX5_done_89 : decode cX5_done 89 = .ok (.ishr, 1) := by decide +kernel
theorem dX5_done_90 : decode cX5_done 90 = .ok (.iconst 1, 1) := by decide +kernel
theorem dX5_done_91 : decode cX5_done 91 = .ok (.iand, 1) := by decide +kernel
theorem dX5_done_92 : decode cX5_done 92 = .ok (.ifCond .ne 28, 3) := by decide +kernel
theorem dX5_done_95 : decode cX5_done 95 = .ok (.aload_n 0, 1) := by decide +kernel
theorem dX5_done_96 : decode cX5_done 96 = .ok (.iload_n 1, 1) := by decide +kernel
theorem dX5_done_97 : decode cX5_done 97 = .ok (.iload 8, 2) := by decide +kernel
theorem dX5_done_99 : decode cX5_done 99 = .ok (.iload 11, 2) := by decide +kernel
theorem dX5_done_101 : decode cX5_done 101 = .ok (.iconst 1, 1) := by decide +kernel
theorem dX5_done_102 : decode cX5_done 102 = .ok (.iadd, 1) := by decide +kernel
theorem dX5_done_103 : decode cX5_done 103 = .ok (.invokevirtual 200, 3) := by decide +kernel
theorem dX5_done_106 : decode cX5_done 106 = .ok (.iload 7, 2) := by decide +kernel
theorem dX5_done_108 : decode cX5_done 108 = .ok (.if_icmp .ne 12, 3) := by decide +kernel
theorem dX5_done_111 : decode cX5_done 111 = .ok (.iload 10, 2) := by decide +kernel
theorem dX5_done_113 : decode cX5_done 113 = .ok (.iconst 1, 1) := by decide +kernel
theorem dX5_done_114 : decode cX5_done 114 = .ok (.iload 11, 2) := by decide +kernel
theorem dX5_done_116 : decode cX5_done 116 = .ok (.ishl, 1) := by decide +kernel
theorem dX5_done_117 : decode cX5_done 117 = .ok (.ior, 1) := by decide +kernel
theorem dX5_done_118 : decode cX5_done 118 = .ok (.istore 10, 2) := by decide +kernel
theorem dX5_done_120 : decode cX5_done 120 = .ok (.iinc 11 1, 3) := by decide +kernel
theorem dX5_done_123 : decode cX5_done 123 = .ok (.goto (-45), 3) := by decide +kernel
theorem dX5_done_126 : decode cX5_done 126 = .ok (.iconst 0, 1) := by decide +kernel
theorem dX5_done_127 : decode cX5_done 127 = .ok (.istore 11, 2) := by decide +kernel
theorem dX5_done_129 : decode cX5_done 129 = .ok (.iload 11, 2) := by decide +kernel
theorem dX5_done_131 : decode cX5_done 131 = .ok (.iload 9, 2) := by decide +kernel
theorem dX5_done_133 : decode cX5_done 133 = .ok (.if_icmp .gt 68, 3) := by decide +kernel
theorem dX5_done_136 : decode cX5_done 136 = .ok (.aload_n 0, 1) := by decide +kernel
theorem dX5_done_137 : decode cX5_done 137 = .ok (.getfield 7, 3) := by decide +kernel
theorem dX5_done_140 : decode cX5_done 140 = .ok (.iload_n 1, 1) := by decide +kernel
theorem dX5_done_141 : decode cX5_done 141 = .ok (.iaload, 1) := by decide +kernel
theorem dX5_done_142 : decode cX5_done 142 = .ok (.ifCond .ne 59, 3) := by decide +kernel
theorem dX5_done_145 : decode cX5_done 145 = .ok (.aload_n 0, 1) := by decide +kernel
theorem dX5_done_146 : decode cX5_done 146 = .ok (.iload_n 1, 1) := by decide +kernel
theorem dX5_done_147 : decode cX5_done 147 = .ok (.iload 8, 2) := by decide +kernel
theorem dX5_done_149 : decode cX5_done 149 = .ok (.iload 11, 2) := by decide +kernel
theorem dX5_done_151 : decode cX5_done 151 = .ok (.invokevirtual 200, 3) := by decide +kernel
theorem dX5_done_154 : decode cX5_done 154 = .ok (.istore 12, 2) := by decide +kernel
theorem dX5_done_156 : decode cX5_done 156 = .ok (.aload_n 0, 1) := by decide +kernel
theorem dX5_done_157 : decode cX5_done 157 = .ok (.iload_n 1, 1) := by decide +kernel
theorem dX5_done_158 : decode cX5_done 158 = .ok (.iload 8, 2) := by decide +kernel
theorem dX5_done_160 : decode cX5_done 160 = .ok (.iload 11, 2) := by decide +kernel
theorem dX5_done_162 : decode cX5_done 162 = .ok (.iconst 1, 1) := by decide +kernel
theorem dX5_done_163 : decode cX5_done 163 = .ok (.iadd, 1) := by decide +kernel
theorem dX5_done_164 : decode cX5_done 164 = .ok (.invokevirtual 200, 3) := by decide +kernel
theorem dX5_done_167 : decode cX5_done 167 = .ok (.istore 13, 2) := by decide +kernel
theorem dX5_done_169 : decode cX5_done 169 = .ok (.iload 7, 2) := by decide +kernel
theorem dX5_done_171 : decode cX5_done 171 = .ok (.iload 12, 2) := by decide +kernel
theorem dX5_done_173 : decode cX5_done 173 = .ok (.iload 13, 2) := by decide +kernel
theorem dX5_done_175 : decode cX5_done 175 = .ok (.invokestatic 127, 3) := by decide +kernel
theorem dX5_done_178 : decode cX5_done 178 = .ok (.if_icmp .le 17, 3) := by decide +kernel
theorem dX5_done_181 : decode cX5_done 181 = .ok (.iload 7, 2) := by decide +kernel
theorem dX5_done_183 : decode cX5_done 183 = .ok (.iload 12, 2) := by decide +kernel
theorem dX5_done_185 : decode cX5_done 185 = .ok (.iload 13, 2) := by decide +kernel
theorem dX5_done_187 : decode cX5_done 187 = .ok (.invokestatic 130, 3) := by decide +kernel
theorem dX5_done_190 : decode cX5_done 190 = .ok (.if_icmp .ge 5, 3) := by decide +kernel
theorem dX5_done_193 : decode cX5_done 193 = .ok (.iconst 0, 1) := by decide +kernel
theorem dX5_done_194 : decode cX5_done 194 = .ok (.ireturn, 1) := by decide +kernel
theorem dX5_done_195 : decode cX5_done 195 = .ok (.iinc 11 1, 3) := by decide +kernel
theorem dX5_done_198 : decode cX5_done 198 = .ok (.goto (-69), 3) := by decide +kernel
theorem dX5_done_201 : decode cX5_done 201 = .ok (.iconst 0, 1) := by decide +kernel
theorem dX5_done_202 : decode cX5_done 202 = .ok (.istore 11, 2) := by decide +kernel
theorem dX5_done_204 : decode cX5_done 204 = .ok (.iload 11, 2) := by decide +kernel
theorem dX5_done_206 : decode cX5_done 206 = .ok (.aload_n 0, 1) := by decide +kernel
theorem dX5_done_207 : decode cX5_done 207 = .ok (.getfield 22, 3) := by decide +kernel
theorem dX5_done_210 : decode cX5_done 210 = .ok (.iload_n 1, 1) := by decide +kernel
theorem dX5_done_211 : decode cX5_done 211 = .ok (.iaload, 1) := by decide +kernel
theorem dX5_done_212 : decode cX5_done 212 = .ok (.if_icmp .ge 202, 3) := by decide +kernel
theorem dX5_done_215 : decode cX5_done 215 = .ok (.aload_n 0, 1) := by decide +kernel
theorem dX5_done_216 : decode cX5_done 216 = .ok (.getfield 7, 3) := by decide +kernel
theorem dX5_done_219 : decode cX5_done 219 = .ok (.iload_n 1, 1) := by decide +kernel
theorem dX5_done_220 : decode cX5_done 220 = .ok (.iaload, 1) := by decide +kernel
theorem dX5_done_221 : decode cX5_done 221 = .ok (.iconst 2, 1) := by decide +kernel
theorem dX5_done_222 : decode cX5_done 222 = .ok (.if_icmp .ne 27, 3) := by decide +kernel
theorem dX5_done_225 : decode cX5_done 225 = .ok (.iload 11, 2) := by decide +kernel
theorem dX5_done_227 : decode cX5_done 227 = .ok (.aload_n 0, 1) := by decide +kernel
theorem dX5_done_228 : decode cX5_done 228 = .ok (.getfield 16, 3) := by decide +kernel
theorem dX5_done_231 : decode cX5_done 231 = .ok (.iload_n 1, 1) := by decide +kernel
theorem dX5_done_232 : decode cX5_done 232 = .ok (.iaload, 1) := by decide +kernel
theorem dX5_done_233 : decode cX5_done 233 = .ok (.aload_n 0, 1) := by decide +kernel
theorem dX5_done_234 : decode cX5_done 234 = .ok (.getfield 19, 3) := by decide +kernel
theorem dX5_done_237 : decode cX5_done 237 = .ok (.iload_n 1, 1) := by decide +kernel
theorem dX5_done_238 : decode cX5_done 238 = .ok (.iaload, 1) := by decide +kernel
theorem dX5_done_239 : decode cX5_done 239 = .ok (.iconst 1, 1) := by decide +kernel
theorem dX5_done_240 : decode cX5_done 240 = .ok (.isub, 1) := by decide +kernel
theorem dX5_done_241 : decode cX5_done 241 = .ok (.imul, 1) := by decide +kernel
theorem dX5_done_242 : decode cX5_done 242 = .ok (.if_icmp .lt 7, 3) := by decide +kernel
theorem dX5_done_245 : decode cX5_done 245 = .ok (.iconst 1, 1) := by decide +kernel
theorem dX5_done_246 : decode cX5_done 246 = .ok (.goto 4, 3) := by decide +kernel
theorem dX5_done_249 : decode cX5_done 249 = .ok (.iconst 0, 1) := by decide +kernel
theorem dX5_done_250 : decode cX5_done 250 = .ok (.istore 12, 2) := by decide +kernel
theorem dX5_done_252 : decode cX5_done 252 = .ok (.aload_n 0, 1) := by decide +kernel
theorem dX5_done_253 : decode cX5_done 253 = .ok (.getfield 28, 3) := by decide +kernel
theorem dX5_done_256 : decode cX5_done 256 = .ok (.bipush 12, 2) := by decide +kernel
theorem dX5_done_258 : decode cX5_done 258 = .ok (.iload_n 1, 1) := by decide +kernel
theorem dX5_done_259 : decode cX5_done 259 = .ok (.imul, 1) := by decide +kernel
theorem dX5_done_260 : decode cX5_done 260 = .ok (.iload 11, 2) := by decide +kernel
theorem dX5_done_262 : decode cX5_done 262 = .ok (.iadd, 1) := by decide +kernel
theorem dX5_done_263 : decode cX5_done 263 = .ok (.iaload, 1) := by decide +kernel
theorem dX5_done_264 : decode cX5_done 264 = .ok (.istore 13, 2) := by decide +kernel
theorem dX5_done_266 : decode cX5_done 266 = .ok (.iload 12, 2) := by decide +kernel
theorem dX5_done_268 : decode cX5_done 268 = .ok (.ifCond .eq 15, 3) := by decide +kernel
theorem dX5_done_271 : decode cX5_done 271 = .ok (.iload 13, 2) := by decide +kernel
theorem dX5_done_273 : decode cX5_done 273 = .ok (.aload_n 0, 1) := by decide +kernel
theorem dX5_done_274 : decode cX5_done 274 = .ok (.getfield 19, 3) := by decide +kernel
theorem dX5_done_277 : decode cX5_done 277 = .ok (.iload_n 1, 1) := by decide +kernel
theorem dX5_done_278 : decode cX5_done 278 = .ok (.iaload, 1) := by decide +kernel
theorem dX5_done_279 : decode cX5_done 279 = .ok (.idiv, 1) := by decide +kernel
theorem dX5_done_280 : decode cX5_done 280 = .ok (.goto 12, 3) := by decide +kernel
theorem dX5_done_283 : decode cX5_done 283 = .ok (.iload 13, 2) := by decide +kernel
theorem dX5_done_285 : decode cX5_done 285 = .ok (.aload_n 0, 1) := by decide +kernel
theorem dX5_done_286 : decode cX5_done 286 = .ok (.getfield 19, 3) := by decide +kernel
theorem dX5_done_289 : decode cX5_done 289 = .ok (.iload_n 1, 1) := by decide +kernel
theorem dX5_done_290 : decode cX5_done 290 = .ok (.iaload, 1) := by decide +kernel
theorem dX5_done_291 : decode cX5_done 291 = .ok (.irem, 1) := by decide +kernel
theorem dX5_done_292 : decode cX5_done 292 = .ok (.istore 14, 2) := by decide +kernel
theorem dX5_done_294 : decode cX5_done 294 = .ok (.iload 12, 2) := by decide +kernel
theorem dX5_done_296 : decode cX5_done 296 = .ok (.iload 5, 2) := by decide +kernel
theorem dX5_done_298 : decode cX5_done 298 = .ok (.if_icmp .ne 110, 3) := by decide +kernel
theorem dX5_done_301 : decode cX5_done 301 = .ok (.iload 10, 2) := by decide +kernel
theorem dX5_done_303 : decode cX5_done 303 = .ok (.iload 14, 2) := by decide +kernel
theorem dX5_done_305 : decode cX5_done 305 = .ok (.ishr, 1) := by decide +kernel
theorem dX5_done_306 : decode cX5_done 306 = .ok (.iconst 1, 1) := by decide +kernel
theorem dX5_done_307 : decode cX5_done 307 = .ok (.iand, 1) := by decide +kernel
theorem dX5_done_308 : decode cX5_done 308 = .ok (.iconst 1, 1) := by decide +kernel
theorem dX5_done_309 : decode cX5_done 309 = .ok (.if_icmp .ne 99, 3) := by decide +kernel
theorem dX5_done_312 : decode cX5_done 312 = .ok (.iload_n 2, 1) := by decide +kernel
theorem dX5_done_313 : decode cX5_done 313 = .ok (.iload 13, 2) := by decide +kernel
theorem dX5_done_315 : decode cX5_done 315 = .ok (.aload_n 0, 1) := by decide +kernel
theorem dX5_done_316 : decode cX5_done 316 = .ok (.getfield 19, 3) := by decide +kernel
theorem dX5_done_319 : decode cX5_done 319 = .ok (.iload_n 1, 1) := by decide +kernel
theorem dX5_done_320 : decode cX5_done 320 = .ok (.iaload, 1) := by decide +kernel
theorem dX5_done_321 : decode cX5_done 321 = .ok (.irem, 1) := by decide +kernel
theorem dX5_done_322 : decode cX5_done 322 = .ok (.invokestatic 190, 3) := by decide +kernel
theorem dX5_done_325 : decode cX5_done 325 = .ok (.aload_n 0, 1) := by decide +kernel
theorem dX5_done_326 : decode cX5_done 326 = .ok (.getfield 7, 3) := by decide +kernel
theorem dX5_done_329 : decode cX5_done 329 = .ok (.iload_n 1, 1) := by decide +kernel
theorem dX5_done_330 : decode cX5_done 330 = .ok (.iaload, 1) := by decide +kernel
theorem dX5_done_331 : decode cX5_done 331 = .ok (.iconst 2, 1) := by decide +kernel
theorem dX5_done_332 : decode cX5_done 332 = .ok (.if_icmp .ne 19, 3) := by decide +kernel
theorem dX5_done_335 : decode cX5_done 335 = .ok (.iload_n 3, 1) := by decide +kernel
theorem dX5_done_336 : decode cX5_done 336 = .ok (.iload 13, 2) := by decide +kernel
theorem dX5_done_338 : decode cX5_done 338 = .ok (.aload_n 0, 1) := by decide +kernel
theorem dX5_done_339 : decode cX5_done 339 = .ok (.getfield 19, 3) := by decide +kernel
theorem dX5_done_342 : decode cX5_done 342 = .ok (.iload_n 1, 1) := by decide +kernel
theorem dX5_done_343 : decode cX5_done 343 = .ok (.iaload, 1) := by decide +kernel
theorem dX5_done_344 : decode cX5_done 344 = .ok (.idiv, 1) := by decide +kernel
theorem dX5_done_345 : decode cX5_done 345 = .ok (.invokestatic 190, 3) := by decide +kernel
theorem dX5_done_348 : decode cX5_done 348 = .ok (.ifCond .eq 7, 3) := by decide +kernel
theorem dX5_done_351 : decode cX5_done 351 = .ok (.iconst 1, 1) := by decide +kernel
theorem dX5_done_352 : decode cX5_done 352 = .ok (.goto 4, 3) := by decide +kernel
theorem dX5_done_355 : decode cX5_done 355 = .ok (.iconst 0, 1) := by decide +kernel
theorem dX5_done_356 : decode cX5_done 356 = .ok (.if_icmp .ne 7, 3) := by decide +kernel
theorem dX5_done_359 : decode cX5_done 359 = .ok (.iconst 1, 1) := by decide +kernel
theorem dX5_done_360 : decode cX5_done 360 = .ok (.goto 4, 3) := by decide +kernel
theorem dX5_done_363 : decode cX5_done 363 = .ok (.iconst 0, 1) := by decide +kernel
theorem dX5_done_364 : decode cX5_done 364 = .ok (.istore 15, 2) := by decide +kernel
theorem dX5_done_366 : decode cX5_done 366 = .ok (.iload 15, 2) := by decide +kernel
theorem dX5_done_368 : decode cX5_done 368 = .ok (.iload 6, 2) := by decide +kernel
theorem dX5_done_370 : decode cX5_done 370 = .ok (.if_icmp .eq 7, 3) := by decide +kernel
theorem dX5_done_373 : decode cX5_done 373 = .ok (.iconst 2, 1) := by decide +kernel
theorem dX5_done_374 : decode cX5_done 374 = .ok (.goto 4, 3) := by decide +kernel
theorem dX5_done_377 : decode cX5_done 377 = .ok (.iconst 1, 1) := by decide +kernel
theorem dX5_done_378 : decode cX5_done 378 = .ok (.istore 16, 2) := by decide +kernel
theorem dX5_done_380 : decode cX5_done 380 = .ok (.aload_n 0, 1) := by decide +kernel
theorem dX5_done_381 : decode cX5_done 381 = .ok (.getfield 34, 3) := by decide +kernel
theorem dX5_done_384 : decode cX5_done 384 = .ok (.bipush 12, 2) := by decide +kernel
theorem dX5_done_386 : decode cX5_done 386 = .ok (.iload_n 1, 1) := by decide +kernel
theorem dX5_done_387 : decode cX5_done 387 = .ok (.imul, 1) := by decide +kernel
theorem dX5_done_388 : decode cX5_done 388 = .ok (.iload 11, 2) := by decide +kernel
theorem dX5_done_390 : decode cX5_done 390 = .ok (.iadd, 1) := by decide +kernel
theorem dX5_done_391 : decode cX5_done 391 = .ok (.iaload, 1) := by decide +kernel
theorem dX5_done_392 : decode cX5_done 392 = .ok (.istore 17, 2) := by decide +kernel
theorem dX5_done_394 : decode cX5_done 394 = .ok (.iload 17, 2) := by decide +kernel
theorem dX5_done_396 : decode cX5_done 396 = .ok (.ifCond .eq 12, 3) := by decide +kernel
theorem dX5_done_399 : decode cX5_done 399 = .ok (.iload 17, 2) := by decide +kernel
theorem dX5_done_401 : decode cX5_done 401 = .ok (.iload 16, 2) := by decide +kernel
theorem dX5_done_403 : decode cX5_done 403 = .ok (.if_icmp .eq 5, 3) := by decide +kernel
theorem dX5_done_406 : decode cX5_done 406 = .ok (.iconst 0, 1) := by decide +kernel
theorem dX5_done_407 : decode cX5_done 407 = .ok (.ireturn, 1) := by decide +kernel
theorem dX5_done_408 : decode cX5_done 408 = .ok (.iinc 11 1, 3) := by decide +kernel
theorem dX5_done_411 : decode cX5_done 411 = .ok (.goto (-207), 3) := by decide +kernel
theorem dX5_done_414 : decode cX5_done 414 = .ok (.iload 10, 2) := by decide +kernel
theorem dX5_done_416 : decode cX5_done 416 = .ok (.ireturn, 1) := by decide +kernel
theorem dX5_stateOf_0 : decode cX5_stateOf 0 = .ok (.iload_n 1, 1) := by decide +kernel
theorem dX5_stateOf_1 : decode cX5_stateOf 1 = .ok (.iload_n 2, 1) := by decide +kernel
theorem dX5_stateOf_2 : decode cX5_stateOf 2 = .ok (.bipush 8, 2) := by decide +kernel
theorem dX5_stateOf_4 : decode cX5_stateOf 4 = .ok (.ishl, 1) := by decide +kernel
theorem dX5_stateOf_5 : decode cX5_stateOf 5 = .ok (.ior, 1) := by decide +kernel
theorem dX5_stateOf_6 : decode cX5_stateOf 6 = .ok (.ireturn, 1) := by decide +kernel
theorem dX5_simple_0 : decode cX5_simple 0 = .ok (.aload_n 0, 1) := by decide +kernel
theorem dX5_simple_1 : decode cX5_simple 1 = .ok (.iload_n 1, 1) := by decide +kernel
theorem dX5_simple_2 : decode cX5_simple 2 = .ok (.invokevirtual 85, 3) := by decide +kernel
theorem dX5_simple_5 : decode cX5_simple 5 = .ok (.ifCond .ne 6, 3) := by decide +kernel
theorem dX5_simple_8 : decode cX5_simple 8 = .ok (.bipush (-101), 2) := by decide +kernel
theorem dX5_simple_10 : decode cX5_simple 10 = .ok (.ireturn, 1) := by decide +kernel
theorem dX5_simple_11 : decode cX5_simple 11 = .ok (.aload_n 0, 1) := by decide +kernel
theorem dX5_simple_12 : decode cX5_simple 12 = .ok (.getfield 7, 3) := by decide +kernel
theorem dX5_simple_15 : decode cX5_simple 15 = .ok (.iload_n 1, 1) := by decide +kernel
theorem dX5_simple_16 : decode cX5_simple 16 = .ok (.iaload, 1) := by decide +kernel
theorem dX5_simple_17 : decode cX5_simple 17 = .ok (.iconst 1, 1) := by decide +kernel
theorem dX5_simple_18 : decode cX5_simple 18 = .ok (.if_icmp .ne 6, 3) := by decide +kernel
theorem dX5_simple_21 : decode cX5_simple 21 = .ok (.bipush (-103), 2) := by decide +kernel
theorem dX5_simple_23 : decode cX5_simple 23 = .ok (.ireturn, 1) := by decide +kernel
theorem dX5_simple_24 : decode cX5_simple 24 = .ok (.iconst 1, 1) := by decide +kernel
theorem dX5_simple_25 : decode cX5_simple 25 = .ok (.aload_n 0, 1) := by decide +kernel
theorem dX5_simple_26 : decode cX5_simple 26 = .ok (.iload_n 1, 1) := by decide +kernel
theorem dX5_simple_27 : decode cX5_simple 27 = .ok (.iconst 0, 1) := by decide +kernel
theorem dX5_simple_28 : decode cX5_simple 28 = .ok (.invokevirtual 196, 3) := by decide +kernel
theorem dX5_simple_31 : decode cX5_simple 31 = .ok (.ishl, 1) := by decide +kernel
theorem dX5_simple_32 : decode cX5_simple 32 = .ok (.iconst 1, 1) := by decide +kernel
theorem dX5_simple_33 : decode cX5_simple 33 = .ok (.isub, 1) := by decide +kernel
theorem dX5_simple_34 : decode cX5_simple 34 = .ok (.istore_n 2, 1) := by decide +kernel
theorem dX5_simple_35 : decode cX5_simple 35 = .ok (.iconst 1, 1) := by decide +kernel
theorem dX5_simple_36 : decode cX5_simple 36 = .ok (.aload_n 0, 1) := by decide +kernel
theorem dX5_simple_37 : decode cX5_simple 37 = .ok (.iload_n 1, 1) := by decide +kernel
theorem dX5_simple_38 : decode cX5_simple 38 = .ok (.iconst 1, 1) := by decide +kernel
theorem dX5_simple_39 : decode cX5_simple 39 = .ok (.invokevirtual 196, 3) := by decide +kernel
theorem dX5_simple_42 : decode cX5_simple 42 = .ok (.ishl, 1) := by decide +kernel
theorem dX5_simple_43 : decode cX5_simple 43 = .ok (.iconst 1, 1) := by decide +kernel
theorem dX5_simple_44 : decode cX5_simple 44 = .ok (.isub, 1) := by decide +kernel
theorem dX5_simple_45 : decode cX5_simple 45 = .ok (.istore_n 3, 1) := by decide +kernel
theorem dX5_simple_46 : decode cX5_simple 46 = .ok (.iload_n 3, 1) := by decide +kernel
theorem dX5_simple_47 : decode cX5_simple 47 = .ok (.istore 4, 2) := by decide +kernel
theorem dX5_simple_49 : decode cX5_simple 49 = .ok (.iload 4, 2) := by decide +kernel
theorem dX5_simple_51 : decode cX5_simple 51 = .ok (.ifCond .lt 64, 3) := by decide +kernel
theorem dX5_simple_54 : decode cX5_simple 54 = .ok (.iload_n 2, 1) := by decide +kernel
theorem dX5_simple_55 : decode cX5_simple 55 = .ok (.istore 5, 2) := by decide +kernel
theorem dX5_simple_57 : decode cX5_simple 57 = .ok (.iload 5, 2) := by decide +kernel
theorem dX5_simple_59 : decode cX5_simple 59 = .ok (.ifCond .lt 50, 3) := by decide +kernel
theorem dX5_simple_62 : decode cX5_simple 62 = .ok (.aload_n 0, 1) := by decide +kernel
theorem dX5_simple_63 : decode cX5_simple 63 = .ok (.getfield 76, 3) := by decide +kernel
theorem dX5_simple_66 : decode cX5_simple 66 = .ok (.aload_n 0, 1) := by decide +kernel
theorem dX5_simple_67 : decode cX5_simple 67 = .ok (.iload 5, 2) := by decide +kernel
theorem dX5_simple_69 : decode cX5_simple 69 = .ok (.iload 4, 2) := by decide +kernel
theorem dX5_simple_71 : decode cX5_simple 71 = .ok (.invokevirtual 204, 3) := by decide +kernel
theorem dX5_simple_74 : decode cX5_simple 74 = .ok (.iload 5, 2) := by decide +kernel
theorem dX5_simple_76 : decode cX5_simple 76 = .ok (.iload_n 2, 1) := by decide +kernel
theorem dX5_simple_77 : decode cX5_simple 77 = .ok (.if_icmp .ne 13, 3) := by decide +kernel
theorem dX5_simple_80 : decode cX5_simple 80 = .ok (.iload 4, 2) := by decide +kernel
theorem dX5_simple_82 : decode cX5_simple 82 = .ok (.iload_n 3, 1) := by decide +kernel
theorem dX5_simple_83 : decode cX5_simple 83 = .ok (.if_icmp .ne 7, 3) := by decide +kernel
theorem dX5_simple_86 : decode cX5_simple 86 = .ok (.iconst 0, 1) := by decide +kernel
theorem dX5_simple_87 : decode cX5_simple 87 = .ok (.goto 15, 3) := by decide +kernel
theorem dX5_simple_90 : decode cX5_simple 90 = .ok (.aload_n 0, 1) := by decide +kernel
theorem dX5_simple_91 : decode cX5_simple 91 = .ok (.iload_n 1, 1) := by decide +kernel
theorem dX5_simple_92 : decode cX5_simple 92 = .ok (.iload 5, 2) := by decide +kernel
theorem dX5_simple_94 : decode cX5_simple 94 = .ok (.iload 4, 2) := by decide +kernel
theorem dX5_simple_96 : decode cX5_simple 96 = .ok (.iload_n 2, 1) := by decide +kernel
theorem dX5_simple_97 : decode cX5_simple 97 = .ok (.iload_n 3, 1) := by decide +kernel
theorem dX5_simple_98 : decode cX5_simple 98 = .ok (.iconst 0, 1) := by decide +kernel
theorem dX5_simple_99 : decode cX5_simple 99 = .ok (.invokevirtual 207, 3) := by decide +kernel
theorem dX5_simple_102 : decode cX5_simple 102 = .ok (.iastore, 1) := by decide +kernel
theorem dX5_simple_103 : decode cX5_simple 103 = .ok (.iinc 5 (-1), 3) := by decide +kernel
theorem dX5_simple_106 : decode cX5_simple 106 = .ok (.goto (-49), 3) := by decide +kernel
theorem dX5_simple_109 : decode cX5_simple 109 = .ok (.iinc 4 (-1), 3) := by decide +kernel
theorem dX5_simple_112 : decode cX5_simple 112 = .ok (.goto (-63), 3) := by decide +kernel
theorem dX5_simple_115 : decode cX5_simple 115 = .ok (.aload_n 0, 1) := by decide +kernel
theorem dX5_simple_116 : decode cX5_simple 116 = .ok (.getfield 76, 3) := by decide +kernel
theorem dX5_simple_119 : decode cX5_simple 119 = .ok (.iconst 0, 1) := by decide +kernel
theorem dX5_simple_120 : decode cX5_simple 120 = .ok (.iaload, 1) := by decide +kernel
theorem dX5_simple_121 : decode cX5_simple 121 = .ok (.istore 4, 2) := by decide +kernel
theorem dX5_simple_123 : decode cX5_simple 123 = .ok (.iload 4, 2) := by decide +kernel
theorem dX5_simple_125 : decode cX5_simple 125 = .ok (.iconst (-1), 1) := by decide +kernel
theorem dX5_simple_126 : decode cX5_simple 126 = .ok (.if_icmp .ne 5, 3) := by decide +kernel
theorem dX5_simple_129 : decode cX5_simple 129 = .ok (.iconst (-1), 1) := by decide +kernel
theorem dX5_simple_130 : decode cX5_simple 130 = .ok (.ireturn, 1) := by decide +kernel
theorem dX5_simple_131 : decode cX5_simple 131 = .ok (.iconst 0, 1) := by decide +kernel
theorem dX5_simple_132 : decode cX5_simple 132 = .ok (.istore 5, 2) := by decide +kernel
theorem dX5_simple_134 : decode cX5_simple 134 = .ok (.iconst 0, 1) := by decide +kernel
theorem dX5_simple_135 : decode cX5_simple 135 = .ok (.istore 6, 2) := by decide +kernel
theorem dX5_simple_137 : decode cX5_simple 137 = .ok (.aload_n 0, 1) := by decide +kernel
theorem dX5_simple_138 : decode cX5_simple 138 = .ok (.iconst 0, 1) := by decide +kernel
theorem dX5_simple_139 : decode cX5_simple 139 = .ok (.putfield 211, 3) := by decide +kernel
theorem dX5_simple_142 : decode cX5_simple 142 = .ok (.iload 5, 2) := by decide +kernel
theorem dX5_simple_144 : decode cX5_simple 144 = .ok (.iload_n 2, 1) := by decide +kernel
theorem dX5_simple_145 : decode cX5_simple 145 = .ok (.if_icmp .ne 9, 3) := by decide +kernel
theorem dX5_simple_148 : decode cX5_simple 148 = .ok (.iload 6, 2) := by decide +kernel
theorem dX5_simple_150 : decode cX5_simple 150 = .ok (.iload_n 3, 1) := by decide +kernel
theorem dX5_simple_151 : decode cX5_simple 151 = .ok (.if_icmp .eq 90, 3) := by decide +kernel
theorem dX5_simple_154 : decode cX5_simple 154 = .ok (.aload_n 0, 1) := by decide +kernel
theorem dX5_simple_155 : decode cX5_simple 155 = .ok (.iload_n 1, 1) := by decide +kernel
theorem dX5_simple_156 : decode cX5_simple 156 = .ok (.iload 5, 2) := by decide +kernel
theorem dX5_simple_158 : decode cX5_simple 158 = .ok (.iload 6, 2) := by decide +kernel
theorem dX5_simple_160 : decode cX5_simple 160 = .ok (.iload_n 2, 1) := by decide +kernel
theorem dX5_simple_161 : decode cX5_simple 161 = .ok (.iload_n 3, 1) := by decide +kernel
theorem dX5_simple_162 : decode cX5_simple 162 = .ok (.iconst 1, 1) := by decide +kernel
theorem dX5_simple_163 : decode cX5_simple 163 = .ok (.invokevirtual 207, 3) := by decide +kernel
theorem dX5_simple_166 : decode cX5_simple 166 = .ok (.istore 7, 2) := by decide +kernel
theorem dX5_simple_168 : decode cX5_simple 168 = .ok (.aload_n 0, 1) := by decide +kernel
theorem dX5_simple_169 : decode cX5_simple 169 = .ok (.iload_n 1, 1) := by decide +kernel
theorem dX5_simple_170 : decode cX5_simple 170 = .ok (.iload 5, 2) := by decide +kernel
theorem dX5_simple_172 : decode cX5_simple 172 = .ok (.iload 6, 2) := by decide +kernel
theorem dX5_simple_174 : decode cX5_simple 174 = .ok (.iload 7, 2) := by decide +kernel
theorem dX5_simple_176 : decode cX5_simple 176 = .ok (.invokevirtual 214, 3) := by decide +kernel
theorem dX5_simple_179 : decode cX5_simple 179 = .ok (.istore 8, 2) := by decide +kernel
theorem dX5_simple_181 : decode cX5_simple 181 = .ok (.iload 5, 2) := by decide +kernel
theorem dX5_simple_183 : decode cX5_simple 183 = .ok (.iload 7, 2) := by decide +kernel
theorem dX5_simple_185 : decode cX5_simple 185 = .ok (.iconst 2, 1) := by decide +kernel
theorem dX5_simple_186 : decode cX5_simple 186 = .ok (.iand, 1) := by decide +kernel
theorem dX5_simple_187 : decode cX5_simple 187 = .ok (.ifCond .ne 8, 3) := by decide +kernel
theorem dX5_simple_190 : decode cX5_simple 190 = .ok (.iload 8, 2) := by decide +kernel
theorem dX5_simple_192 : decode cX5_simple 192 = .ok (.goto 4, 3) := by decide +kernel
theorem dX5_simple_195 : decode cX5_simple 195 = .ok (.iconst 0, 1) := by decide +kernel
theorem dX5_simple_196 : decode cX5_simple 196 = .ok (.ior, 1) := by decide +kernel
theorem dX5_simple_197 : decode cX5_simple 197 = .ok (.istore 5, 2) := by decide +kernel
theorem dX5_simple_199 : decode cX5_simple 199 = .ok (.iload 6, 2) := by decide +kernel
theorem dX5_simple_201 : decode cX5_simple 201 = .ok (.iload 7, 2) := by decide +kernel
theorem dX5_simple_203 : decode cX5_simple 203 = .ok (.iconst 2, 1) := by decide +kernel
theorem dX5_simple_204 : decode cX5_simple 204 = .ok (.iand, 1) := by decide +kernel
theorem dX5_simple_205 : decode cX5_simple 205 = .ok (.ifCond .eq 8, 3) := by decide +kernel
theorem dX5_simple_208 : decode cX5_simple 208 = .ok (.iload 8, 2) := by decide +kernel
theorem dX5_simple_210 : decode cX5_simple 210 = .ok (.goto 4, 3) := by decide +kernel
theorem dX5_simple_213 : decode cX5_simple 213 = .ok (.iconst 0, 1) := by decide +kernel
theorem dX5_simple_214 : decode cX5_simple 214 = .ok (.ior, 1) := by decide +kernel
theorem dX5_simple_215 : decode cX5_simple 215 = .ok (.istore 6, 2) := by decide +kernel
theorem dX5_simple_217 : decode cX5_simple 217 = .ok (.aload_n 0, 1) := by decide +kernel
theorem dX5_simple_218 : decode cX5_simple 218 = .ok (.getfield 79, 3) := by decide +kernel
theorem dX5_simple_221 : decode cX5_simple 221 = .ok (.aload_n 0, 1) := by decide +kernel
theorem dX5_simple_222 : decode cX5_simple 222 = .ok (.getfield 211, 3) := by decide +kernel
theorem dX5_simple_225 : decode cX5_simple 225 = .ok (.iload 7, 2) := by decide +kernel
theorem dX5_simple_227 : decode cX5_simple 227 = .ok (.iastore, 1) := by decide +kernel
theorem dX5_simple_228 : decode cX5_simple 228 = .ok (.aload_n 0, 1) := by decide +kernel
theorem dX5_simple_229 : decode cX5_simple 229 = .ok (.dup, 1) := by decide +kernel
theorem dX5_simple_230 : decode cX5_simple 230 = .ok (.getfield 211, 3) := by decide +kernel
theorem dX5_simple_233 : decode cX5_simple 233 = .ok (.iconst 1, 1) := by decide +kernel
theorem dX5_simple_234 : decode cX5_simple 234 = .ok (.iadd, 1) := by decide +kernel
theorem dX5_simple_235 : decode cX5_simple 235 = .ok (.putfield 211, 3) := by decide +kernel
theorem dX5_simple_238 : decode cX5_simple 238 = .ok (.goto (-96), 3) := by decide +kernel
theorem dX5_simple_241 : decode cX5_simple 241 = .ok (.iload 4, 2) := by decide +kernel
theorem dX5_simple_243 : decode cX5_simple 243 = .ok (.ireturn, 1) := by decide +kernel
theorem dX5_best_0 : decode cX5_best 0 = .ok (.iconst (-1), 1) := by decide +kernel
theorem dX5_best_1 : decode cX5_best 1 = .ok (.istore 7, 2) := by decide +kernel
theorem dX5_best_3 : decode cX5_best 3 = .ok (.iconst 0, 1) := by decide +kernel
theorem dX5_best_4 : decode cX5_best 4 = .ok (.istore 8, 2) := by decide +kernel
theorem dX5_best_6 : decode cX5_best 6 = .ok (.iconst 0, 1) := by decide +kernel
theorem dX5_best_7 : decode cX5_best 7 = .ok (.istore 9, 2) := by decide +kernel
theorem dX5_best_9 : decode cX5_best 9 = .ok (.iload 9, 2) := by decide +kernel
theorem dX5_best_11 : decode cX5_best 11 = .ok (.aload_n 0, 1) := by decide +kernel
theorem dX5_best_12 : decode cX5_best 12 = .ok (.getfield 7, 3) := by decide +kernel
theorem dX5_best_15 : decode cX5_best 15 = .ok (.iload_n 1, 1) := by decide +kernel
theorem dX5_best_16 : decode cX5_best 16 = .ok (.iaload, 1) := by decide +kernel
theorem dX5_best_17 : decode cX5_best 17 = .ok (.iconst 2, 1) := by decide +kernel
theorem dX5_best_18 : decode cX5_best 18 = .ok (.if_icmp .ne 7, 3) := by decide +kernel
theorem dX5_best_21 : decode cX5_best 21 = .ok (.iconst 2, 1) := by decide +kernel
theorem dX5_best_22 : decode cX5_best 22 = .ok (.goto 4, 3) := by decide +kernel
theorem dX5_best_25 : decode cX5_best 25 = .ok (.iconst 1, 1) := by decide +kernel
theorem dX5_best_26 : decode cX5_best 26 = .ok (.if_icmp .ge 206, 3) := by decide +kernel
theorem dX5_best_29 : decode cX5_best 29 = .ok (.iload 9, 2) := by decide +kernel
theorem dX5_best_31 : decode cX5_best 31 = .ok (.iconst 1, 1) := by decide +kernel
theorem dX5_best_32 : decode cX5_best 32 = .ok (.if_icmp .ne 7, 3) := by decide +kernel
theorem dX5_best_35 : decode cX5_best 35 = .ok (.iload_n 3, 1) := by decide +kernel
theorem dX5_best_36 : decode cX5_best 36 = .ok (.goto 4, 3) := by decide +kernel
theorem dX5_best_39 : decode cX5_best 39 = .ok (.iload_n 2, 1) := by decide +kernel
theorem dX5_best_40 : decode cX5_best 40 = .ok (.istore 10, 2) := by decide +kernel
theorem dX5_best_42 : decode cX5_best 42 = .ok (.iconst 0, 1) := by decide +kernel
theorem dX5_best_43 : decode cX5_best 43 = .ok (.istore 11, 2) := by decide +kernel
theorem dX5_best_45 : decode cX5_best 45 = .ok (.iload 11, 2) := by decide +kernel
theorem dX5_best_47 : decode cX5_best 47 = .ok (.aload_n 0, 1) := by decide +kernel
theorem dX5_best_48 : decode cX5_best 48 = .ok (.iload_n 1, 1) := by decide +kernel
theorem dX5_best_49 : decode cX5_best 49 = .ok (.iload 9, 2) := by decide +kernel
theorem dX5_best_51 : decode cX5_best 51 = .ok (.iconst 1, 1) := by decide +kernel
theorem dX5_best_52 : decode cX5_best 52 = .ok (.if_icmp .ne 7, 3) := by decide +kernel
theorem dX5_best_55 : decode cX5_best 55 = .ok (.iconst 1, 1) := by decide +kernel
theorem dX5_best_56 : decode cX5_best 56 = .ok (.goto 4, 3) := by decide +kernel
theorem dX5_best_59 : decode cX5_best 59 = .ok (.iconst 0, 1) := by decide +kernel
theorem dX5_best_60 : decode cX5_best 60 = .ok (.invokevirtual 196, 3) := by decide +kernel
theorem dX5_best_63 : decode cX5_best 63 = .ok (.if_icmp .ge 163, 3) := by decide +kernel
theorem dX5_best_66 : decode cX5_best 66 = .ok (.iload 10, 2) := by decide +kernel
theorem dX5_best_68 : decode cX5_best 68 = .ok (.iload 11, 2) := by decide +kernel
theorem dX5_best_70 : decode cX5_best 70 = .ok (.ishr, 1) := by decide +kernel
theorem dX5_best_71 : decode cX5_best 71 = .ok (.iconst 1, 1) := by decide +kernel
theorem dX5_best_72 : decode cX5_best 72 = .ok (.iand, 1) := by decide +kernel
theorem dX5_best_73 : decode cX5_best 73 = .ok (.ifCond .ne 147, 3) := by decide +kernel
theorem dX5_best_76 : decode cX5_best 76 = .ok (.iconst 0, 1) := by decide +kernel
theorem dX5_best_77 : decode cX5_best 77 = .ok (.istore 12, 2) := by decide +kernel
theorem dX5_best_79 : decode cX5_best 79 = .ok (.iload 12, 2) := by decide +kernel
theorem dX5_best_81 : decode cX5_best 81 = .ok (.iconst 2, 1) := by decide +kernel
theorem dX5_best_82 : decode cX5_best 82 = .ok (.if_icmp .ge 138, 3) := by decide +kernel
theorem dX5_best_85 : decode cX5_best 85 = .ok (.iconst 4, 1) := by decide +kernel
theorem dX5_best_86 : decode cX5_best 86 = .ok (.aload_n 0, 1) := by decide +kernel
theorem dX5_best_87 : decode cX5_best 87 = .ok (.iload_n 1, 1) := by decide +kernel
theorem dX5_best_88 : decode cX5_best 88 = .ok (.iload 10, 2) := by decide +kernel
theorem dX5_best_90 : decode cX5_best 90 = .ok (.iload 11, 2) := by decide +kernel
theorem dX5_best_92 : decode cX5_best 92 = .ok (.iconst 1, 1) := by decide +kernel
theorem dX5_best_93 : decode cX5_best 93 = .ok (.iadd, 1) := by decide +kernel
theorem dX5_best_94 : decode cX5_best 94 = .ok (.invokevirtual 200, 3) := by decide +kernel
theorem dX5_best_97 : decode cX5_best 97 = .ok (.imul, 1) := by decide +kernel
theorem dX5_best_98 : decode cX5_best 98 = .ok (.iconst 2, 1) := by decide +kernel
theorem dX5_best_99 : decode cX5_best 99 = .ok (.iload 9, 2) := by decide +kernel
theorem dX5_best_101 : decode cX5_best 101 = .ok (.imul, 1) := by decide +kernel
theorem dX5_best_102 : decode cX5_best 102 = .ok (.iadd, 1) := by decide +kernel
theorem dX5_best_103 : decode cX5_best 103 = .ok (.iload 12, 2) := by decide +kernel
theorem dX5_best_105 : decode cX5_best 105 = .ok (.iadd, 1) := by decide +kernel
theorem dX5_best_106 : decode cX5_best 106 = .ok (.istore 13, 2) := by decide +kernel
theorem dX5_best_108 : decode cX5_best 108 = .ok (.aload_n 0, 1) := by decide +kernel
theorem dX5_best_109 : decode cX5_best 109 = .ok (.iload_n 1, 1) := by decide +kernel
theorem dX5_best_110 : decode cX5_best 110 = .ok (.iload_n 2, 1) := by decide +kernel
theorem dX5_best_111 : decode cX5_best 111 = .ok (.iload_n 3, 1) := by decide +kernel
theorem dX5_best_112 : decode cX5_best 112 = .ok (.iload 13, 2) := by decide +kernel
theorem dX5_best_114 : decode cX5_best 114 = .ok (.invokevirtual 214, 3) := by decide +kernel
theorem dX5_best_117 : decode cX5_best 117 = .ok (.istore 14, 2) := by decide +kernel
theorem dX5_best_119 : decode cX5_best 119 = .ok (.iload 14, 2) := by decide +kernel
theorem dX5_best_121 : decode cX5_best 121 = .ok (.ifCond .ne 7, 3) := by decide +kernel
theorem dX5_best_124 : decode cX5_best 124 = .ok (.iconst (-1), 1) := by decide +kernel
theorem dX5_best_125 : decode cX5_best 125 = .ok (.goto 40, 3) := by decide +kernel
theorem dX5_best_128 : decode cX5_best 128 = .ok (.iload 9, 2) := by decide +kernel
theorem dX5_best_130 : decode cX5_best 130 = .ok (.iconst 1, 1) := by decide +kernel
theorem dX5_best_131 : decode cX5_best 131 = .ok (.if_icmp .ne 20, 3) := by decide +kernel
theorem dX5_best_134 : decode cX5_best 134 = .ok (.aload_n 0, 1) := by decide +kernel
theorem dX5_best_135 : decode cX5_best 135 = .ok (.getfield 76, 3) := by decide +kernel
theorem dX5_best_138 : decode cX5_best 138 = .ok (.aload_n 0, 1) := by decide +kernel
theorem dX5_best_139 : decode cX5_best 139 = .ok (.iload_n 2, 1) := by decide +kernel
theorem dX5_best_140 : decode cX5_best 140 = .ok (.iload_n 3, 1) := by decide +kernel
theorem dX5_best_141 : decode cX5_best 141 = .ok (.iload 14, 2) := by decide +kernel
theorem dX5_best_143 : decode cX5_best 143 = .ok (.ior, 1) := by decide +kernel
theorem dX5_best_144 : decode cX5_best 144 = .ok (.invokevirtual 204, 3) := by decide +kernel
theorem dX5_best_147 : decode cX5_best 147 = .ok (.iaload, 1) := by decide +kernel
theorem dX5_best_148 : decode cX5_best 148 = .ok (.goto 17, 3) := by decide +kernel
theorem dX5_best_151 : decode cX5_best 151 = .ok (.aload_n 0, 1) := by decide +kernel
theorem dX5_best_152 : decode cX5_best 152 = .ok (.getfield 76, 3) := by decide +kernel
theorem dX5_best_155 : decode cX5_best 155 = .ok (.aload_n 0, 1) := by decide +kernel
theorem dX5_best_156 : decode cX5_best 156 = .ok (.iload_n 2, 1) := by decide +kernel
theorem dX5_best_157 : decode cX5_best 157 = .ok (.iload 14, 2) := by decide +kernel
theorem dX5_best_159 : decode cX5_best 159 = .ok (.ior, 1) := by decide +kernel
theorem dX5_best_160 : decode cX5_best 160 = .ok (.iload_n 3, 1) := by decide +kernel
theorem dX5_best_161 : decode cX5_best 161 = .ok (.invokevirtual 204, 3) := by decide +kernel
theorem dX5_best_164 : decode cX5_best 164 = .ok (.iaload, 1) := by decide +kernel
theorem dX5_best_165 : decode cX5_best 165 = .ok (.istore 15, 2) := by decide +kernel
theorem dX5_best_167 : decode cX5_best 167 = .ok (.iload 15, 2) := by decide +kernel
theorem dX5_best_169 : decode cX5_best 169 = .ok (.iconst (-1), 1) := by decide +kernel
theorem dX5_best_170 : decode cX5_best 170 = .ok (.if_icmp .eq 44, 3) := by decide +kernel
theorem dX5_best_173 : decode cX5_best 173 = .ok (.iload 7, 2) := by decide +kernel
theorem dX5_best_175 : decode cX5_best 175 = .ok (.iconst (-1), 1) := by decide +kernel
theorem dX5_best_176 : decode cX5_best 176 = .ok (.if_icmp .eq 28, 3) := by decide +kernel
theorem dX5_best_179 : decode cX5_best 179 = .ok (.iload 15, 2) := by decide +kernel
theorem dX5_best_181 : decode cX5_best 181 = .ok (.iconst 1, 1) := by decide +kernel
theorem dX5_best_182 : decode cX5_best 182 = .ok (.iadd, 1) := by decide +kernel
theorem dX5_best_183 : decode cX5_best 183 = .ok (.iload 7, 2) := by decide +kernel
theorem dX5_best_185 : decode cX5_best 185 = .ok (.if_icmp .lt 19, 3) := by decide +kernel
theorem dX5_best_188 : decode cX5_best 188 = .ok (.iload 15, 2) := by decide +kernel
theorem dX5_best_190 : decode cX5_best 190 = .ok (.iconst 1, 1) := by decide +kernel
theorem dX5_best_191 : decode cX5_best 191 = .ok (.iadd, 1) := by decide +kernel
theorem dX5_best_192 : decode cX5_best 192 = .ok (.iload 7, 2) := by decide +kernel
theorem dX5_best_194 : decode cX5_best 194 = .ok (.if_icmp .ne 20, 3) := by decide +kernel
theorem dX5_best_197 : decode cX5_best 197 = .ok (.iload 13, 2) := by decide +kernel
theorem dX5_best_199 : decode cX5_best 199 = .ok (.iload 8, 2) := by decide +kernel
theorem dX5_best_201 : decode cX5_best 201 = .ok (.if_icmp .ge 13, 3) := by decide +kernel
theorem dX5_best_204 : decode cX5_best 204 = .ok (.iload 15, 2) := by decide +kernel
theorem dX5_best_206 : decode cX5_best 206 = .ok (.iconst 1, 1) := by decide +kernel
theorem dX5_best_207 : decode cX5_best 207 = .ok (.iadd, 1) := by decide +kernel
theorem dX5_best_208 : decode cX5_best 208 = .ok (.istore 7, 2) := by decide +kernel
theorem dX5_best_210 : decode cX5_best 210 = .ok (.iload 13, 2) := by decide +kernel
theorem dX5_best_212 : decode cX5_best 212 = .ok (.istore 8, 2) := by decide +kernel
theorem dX5_best_214 : decode cX5_best 214 = .ok (.iinc 12 1, 3) := by decide +kernel
theorem dX5_best_217 : decode cX5_best 217 = .ok (.goto (-138), 3) := by decide +kernel
theorem dX5_best_220 : decode cX5_best 220 = .ok (.iinc 11 1, 3) := by decide +kernel
theorem dX5_best_223 : decode cX5_best 223 = .ok (.goto (-178), 3) := by decide +kernel
theorem dX5_best_226 : decode cX5_best 226 = .ok (.iinc 9 1, 3) := by decide +kernel
theorem dX5_best_229 : decode cX5_best 229 = .ok (.goto (-220), 3) := by decide +kernel
theorem dX5_best_232 : decode cX5_best 232 = .ok (.iload 6, 2) := by decide +kernel
theorem dX5_best_234 : decode cX5_best 234 = .ok (.ifCond .eq 8, 3) := by decide +kernel
theorem dX5_best_237 : decode cX5_best 237 = .ok (.iload 8, 2) := by decide +kernel
theorem dX5_best_239 : decode cX5_best 239 = .ok (.goto 5, 3) := by decide +kernel
theorem dX5_best_242 : decode cX5_best 242 = .ok (.iload 7, 2) := by decide +kernel
theorem dX5_best_244 : decode cX5_best 244 = .ok (.ireturn, 1) := by decide +kernel
theorem dX5_step_0 : decode cX5_step 0 = .ok (.iload_n 1, 1) := by decide +kernel
theorem dX5_step_1 : decode cX5_step 1 = .ok (.ifCond .lt 11, 3) := by decide +kernel
theorem dX5_step_4 : decode cX5_step 4 = .ok (.iload_n 1, 1) := by decide +kernel
theorem dX5_step_5 : decode cX5_step 5 = .ok (.aload_n 0, 1) := by decide +kernel
theorem dX5_step_6 : decode cX5_step 6 = .ok (.getfield 211, 3) := by decide +kernel
theorem dX5_step_9 : decode cX5_step 9 = .ok (.if_icmp .lt 8, 3) := by decide +kernel
theorem dX5_step_12 : decode cX5_step 12 = .ok (.bipush (-103), 2) := by decide +kernel
theorem dX5_step_14 : decode cX5_step 14 = .ok (.goto 9, 3) := by decide +kernel
theorem dX5_step_17 : decode cX5_step 17 = .ok (.aload_n 0, 1) := by decide +kernel
theorem dX5_step_18 : decode cX5_step 18 = .ok (.getfield 79, 3) := by decide +kernel
theorem dX5_step_21 : decode cX5_step 21 = .ok (.iload_n 1, 1) := by decide +kernel
theorem dX5_step_22 : decode cX5_step 22 = .ok (.iaload, 1) := by decide +kernel
theorem dX5_step_23 : decode cX5_step 23 = .ok (.ireturn, 1) := by decide +kernel
theorem dX5_creasesIn_0 : decode cX5_creasesIn 0 = .ok (.iload_n 2, 1) := by decide +kernel
theorem dX5_creasesIn_1 : decode cX5_creasesIn 1 = .ok (.invokestatic 218, 3) := by decide +kernel
theorem dX5_creasesIn_4 : decode cX5_creasesIn 4 = .ok (.aload_n 0, 1) := by decide +kernel
theorem dX5_creasesIn_5 : decode cX5_creasesIn 5 = .ok (.getfield 7, 3) := by decide +kernel
theorem dX5_creasesIn_8 : decode cX5_creasesIn 8 = .ok (.iload_n 1, 1) := by decide +kernel
theorem dX5_creasesIn_9 : decode cX5_creasesIn 9 = .ok (.iaload, 1) := by decide +kernel
theorem dX5_creasesIn_10 : decode cX5_creasesIn 10 = .ok (.iconst 2, 1) := by decide +kernel
theorem dX5_creasesIn_11 : decode cX5_creasesIn 11 = .ok (.if_icmp .eq 7, 3) := by decide +kernel
theorem dX5_creasesIn_14 : decode cX5_creasesIn 14 = .ok (.iconst 1, 1) := by decide +kernel
theorem dX5_creasesIn_15 : decode cX5_creasesIn 15 = .ok (.goto 22, 3) := by decide +kernel
theorem dX5_creasesIn_18 : decode cX5_creasesIn 18 = .ok (.iload_n 3, 1) := by decide +kernel
theorem dX5_creasesIn_19 : decode cX5_creasesIn 19 = .ok (.ifCond .eq 12, 3) := by decide +kernel
theorem dX5_creasesIn_22 : decode cX5_creasesIn 22 = .ok (.aload_n 0, 1) := by decide +kernel
theorem dX5_creasesIn_23 : decode cX5_creasesIn 23 = .ok (.getfield 19, 3) := by decide +kernel
theorem dX5_creasesIn_26 : decode cX5_creasesIn 26 = .ok (.iload_n 1, 1) := by decide +kernel
theorem dX5_creasesIn_27 : decode cX5_creasesIn 27 = .ok (.iaload, 1) := by decide +kernel
theorem dX5_creasesIn_28 : decode cX5_creasesIn 28 = .ok (.goto 9, 3) := by decide +kernel
theorem dX5_creasesIn_31 : decode cX5_creasesIn 31 = .ok (.aload_n 0, 1) := by decide +kernel
theorem dX5_creasesIn_32 : decode cX5_creasesIn 32 = .ok (.getfield 16, 3) := by decide +kernel
theorem dX5_creasesIn_35 : decode cX5_creasesIn 35 = .ok (.iload_n 1, 1) := by decide +kernel
theorem dX5_creasesIn_36 : decode cX5_creasesIn 36 = .ok (.iaload, 1) := by decide +kernel
theorem dX5_creasesIn_37 : decode cX5_creasesIn 37 = .ok (.imul, 1) := by decide +kernel
theorem dX5_creasesIn_38 : decode cX5_creasesIn 38 = .ok (.ireturn, 1) := by decide +kernel
theorem dX5_fold_0 : decode cX5_fold 0 = .ok (.aload_n 0, 1) := by decide +kernel
theorem dX5_fold_1 : decode cX5_fold 1 = .ok (.iload_n 1, 1) := by decide +kernel
theorem dX5_fold_2 : decode cX5_fold 2 = .ok (.invokevirtual 85, 3) := by decide +kernel
theorem dX5_fold_5 : decode cX5_fold 5 = .ok (.ifCond .ne 6, 3) := by decide +kernel
theorem dX5_fold_8 : decode cX5_fold 8 = .ok (.bipush (-101), 2) := by decide +kernel
theorem dX5_fold_10 : decode cX5_fold 10 = .ok (.ireturn, 1) := by decide +kernel
theorem dX5_fold_11 : decode cX5_fold 11 = .ok (.aload_n 0, 1) := by decide +kernel
theorem dX5_fold_12 : decode cX5_fold 12 = .ok (.getfield 7, 3) := by decide +kernel
theorem dX5_fold_15 : decode cX5_fold 15 = .ok (.iload_n 1, 1) := by decide +kernel
theorem dX5_fold_16 : decode cX5_fold 16 = .ok (.iaload, 1) := by decide +kernel
theorem dX5_fold_17 : decode cX5_fold 17 = .ok (.iconst 1, 1) := by decide +kernel
theorem dX5_fold_18 : decode cX5_fold 18 = .ok (.if_icmp .ne 6, 3) := by decide +kernel
theorem dX5_fold_21 : decode cX5_fold 21 = .ok (.bipush (-103), 2) := by decide +kernel
theorem dX5_fold_23 : decode cX5_fold 23 = .ok (.ireturn, 1) := by decide +kernel
theorem dX5_fold_24 : decode cX5_fold 24 = .ok (.aload_n 0, 1) := by decide +kernel
theorem dX5_fold_25 : decode cX5_fold 25 = .ok (.iload_n 1, 1) := by decide +kernel
theorem dX5_fold_26 : decode cX5_fold 26 = .ok (.aload_n 0, 1) := by decide +kernel
theorem dX5_fold_27 : decode cX5_fold 27 = .ok (.getfield 37, 3) := by decide +kernel
theorem dX5_fold_30 : decode cX5_fold 30 = .ok (.iload_n 1, 1) := by decide +kernel
theorem dX5_fold_31 : decode cX5_fold 31 = .ok (.iaload, 1) := by decide +kernel
theorem dX5_fold_32 : decode cX5_fold 32 = .ok (.aload_n 0, 1) := by decide +kernel
theorem dX5_fold_33 : decode cX5_fold 33 = .ok (.getfield 40, 3) := by decide +kernel
theorem dX5_fold_36 : decode cX5_fold 36 = .ok (.iload_n 1, 1) := by decide +kernel
theorem dX5_fold_37 : decode cX5_fold 37 = .ok (.iaload, 1) := by decide +kernel
theorem dX5_fold_38 : decode cX5_fold 38 = .ok (.iload_n 2, 1) := by decide +kernel
theorem dX5_fold_39 : decode cX5_fold 39 = .ok (.invokevirtual 214, 3) := by decide +kernel
theorem dX5_fold_42 : decode cX5_fold 42 = .ok (.istore_n 3, 1) := by decide +kernel
theorem dX5_fold_43 : decode cX5_fold 43 = .ok (.iload_n 2, 1) := by decide +kernel
theorem dX5_fold_44 : decode cX5_fold 44 = .ok (.iconst 2, 1) := by decide +kernel
theorem dX5_fold_45 : decode cX5_fold 45 = .ok (.iand, 1) := by decide +kernel
theorem dX5_fold_46 : decode cX5_fold 46 = .ok (.ifCond .eq 7, 3) := by decide +kernel
theorem dX5_fold_49 : decode cX5_fold 49 = .ok (.iconst 1, 1) := by decide +kernel
theorem dX5_fold_50 : decode cX5_fold 50 = .ok (.goto 4, 3) := by decide +kernel
theorem dX5_fold_53 : decode cX5_fold 53 = .ok (.iconst 0, 1) := by decide +kernel
theorem dX5_fold_54 : decode cX5_fold 54 = .ok (.istore 4, 2) := by decide +kernel
theorem dX5_fold_56 : decode cX5_fold 56 = .ok (.iload 4, 2) := by decide +kernel
theorem dX5_fold_58 : decode cX5_fold 58 = .ok (.ifCond .eq 16, 3) := by decide +kernel
theorem dX5_fold_61 : decode cX5_fold 61 = .ok (.aload_n 0, 1) := by decide +kernel
theorem dX5_fold_62 : decode cX5_fold 62 = .ok (.getfield 40, 3) := by decide +kernel
theorem dX5_fold_65 : decode cX5_fold 65 = .ok (.iload_n 1, 1) := by decide +kernel
theorem dX5_fold_66 : decode cX5_fold 66 = .ok (.dup2, 1) := by decide +kernel
theorem dX5_fold_67 : decode cX5_fold 67 = .ok (.iaload, 1) := by decide +kernel
theorem dX5_fold_68 : decode cX5_fold 68 = .ok (.iload_n 3, 1) := by decide +kernel
theorem dX5_fold_69 : decode cX5_fold 69 = .ok (.ior, 1) := by decide +kernel
theorem dX5_fold_70 : decode cX5_fold 70 = .ok (.iastore, 1) := by decide +kernel
theorem dX5_fold_71 : decode cX5_fold 71 = .ok (.goto 13, 3) := by decide +kernel
theorem dX5_fold_74 : decode cX5_fold 74 = .ok (.aload_n 0, 1) := by decide +kernel
theorem dX5_fold_75 : decode cX5_fold 75 = .ok (.getfield 37, 3) := by decide +kernel
theorem dX5_fold_78 : decode cX5_fold 78 = .ok (.iload_n 1, 1) := by decide +kernel
theorem dX5_fold_79 : decode cX5_fold 79 = .ok (.dup2, 1) := by decide +kernel
theorem dX5_fold_80 : decode cX5_fold 80 = .ok (.iaload, 1) := by decide +kernel
theorem dX5_fold_81 : decode cX5_fold 81 = .ok (.iload_n 3, 1) := by decide +kernel
theorem dX5_fold_82 : decode cX5_fold 82 = .ok (.ior, 1) := by decide +kernel
theorem dX5_fold_83 : decode cX5_fold 83 = .ok (.iastore, 1) := by decide +kernel
theorem dX5_fold_84 : decode cX5_fold 84 = .ok (.aload_n 0, 1) := by decide +kernel
theorem dX5_fold_85 : decode cX5_fold 85 = .ok (.iload_n 1, 1) := by decide +kernel
theorem dX5_fold_86 : decode cX5_fold 86 = .ok (.iload_n 3, 1) := by decide +kernel
theorem dX5_fold_87 : decode cX5_fold 87 = .ok (.iload 4, 2) := by decide +kernel
theorem dX5_fold_89 : decode cX5_fold 89 = .ok (.invokevirtual 221, 3) := by decide +kernel
theorem dX5_fold_92 : decode cX5_fold 92 = .ok (.ireturn, 1) := by decide +kernel
theorem dX5_flatten_0 : decode cX5_flatten 0 = .ok (.aload_n 0, 1) := by decide +kernel
theorem dX5_flatten_1 : decode cX5_flatten 1 = .ok (.iload_n 1, 1) := by decide +kernel
theorem dX5_flatten_2 : decode cX5_flatten 2 = .ok (.invokevirtual 85, 3) := by decide +kernel
theorem dX5_flatten_5 : decode cX5_flatten 5 = .ok (.ifCond .ne 6, 3) := by decide +kernel
theorem dX5_flatten_8 : decode cX5_flatten 8 = .ok (.bipush (-101), 2) := by decide +kernel
theorem dX5_flatten_10 : decode cX5_flatten 10 = .ok (.ireturn, 1) := by decide +kernel
theorem dX5_flatten_11 : decode cX5_flatten 11 = .ok (.aload_n 0, 1) := by decide +kernel
theorem dX5_flatten_12 : decode cX5_flatten 12 = .ok (.getfield 7, 3) := by decide +kernel
theorem dX5_flatten_15 : decode cX5_flatten 15 = .ok (.iload_n 1, 1) := by decide +kernel
theorem dX5_flatten_16 : decode cX5_flatten 16 = .ok (.iaload, 1) := by decide +kernel
theorem dX5_flatten_17 : decode cX5_flatten 17 = .ok (.iconst 1, 1) := by decide +kernel
theorem dX5_flatten_18 : decode cX5_flatten 18 = .ok (.if_icmp .ne 6, 3) := by decide +kernel
theorem dX5_flatten_21 : decode cX5_flatten 21 = .ok (.bipush (-103), 2) := by decide +kernel
theorem dX5_flatten_23 : decode cX5_flatten 23 = .ok (.ireturn, 1) := by decide +kernel
theorem dX5_flatten_24 : decode cX5_flatten 24 = .ok (.aload_n 0, 1) := by decide +kernel
theorem dX5_flatten_25 : decode cX5_flatten 25 = .ok (.iload_n 1, 1) := by decide +kernel
theorem dX5_flatten_26 : decode cX5_flatten 26 = .ok (.aload_n 0, 1) := by decide +kernel
theorem dX5_flatten_27 : decode cX5_flatten 27 = .ok (.getfield 37, 3) := by decide +kernel
theorem dX5_flatten_30 : decode cX5_flatten 30 = .ok (.iload_n 1, 1) := by decide +kernel
theorem dX5_flatten_31 : decode cX5_flatten 31 = .ok (.iaload, 1) := by decide +kernel
theorem dX5_flatten_32 : decode cX5_flatten 32 = .ok (.iconst 0, 1) := by decide +kernel
theorem dX5_flatten_33 : decode cX5_flatten 33 = .ok (.invokevirtual 221, 3) := by decide +kernel
theorem dX5_flatten_36 : decode cX5_flatten 36 = .ok (.aload_n 0, 1) := by decide +kernel
theorem dX5_flatten_37 : decode cX5_flatten 37 = .ok (.iload_n 1, 1) := by decide +kernel
theorem dX5_flatten_38 : decode cX5_flatten 38 = .ok (.aload_n 0, 1) := by decide +kernel
theorem dX5_flatten_39 : decode cX5_flatten 39 = .ok (.getfield 40, 3) := by decide +kernel
theorem dX5_flatten_42 : decode cX5_flatten 42 = .ok (.iload_n 1, 1) := by decide +kernel
theorem dX5_flatten_43 : decode cX5_flatten 43 = .ok (.iaload, 1) := by decide +kernel
theorem dX5_flatten_44 : decode cX5_flatten 44 = .ok (.iconst 1, 1) := by decide +kernel
theorem dX5_flatten_45 : decode cX5_flatten 45 = .ok (.invokevirtual 221, 3) := by decide +kernel
theorem dX5_flatten_48 : decode cX5_flatten 48 = .ok (.iadd, 1) := by decide +kernel
theorem dX5_flatten_49 : decode cX5_flatten 49 = .ok (.istore_n 2, 1) := by decide +kernel
theorem dX5_flatten_50 : decode cX5_flatten 50 = .ok (.aload_n 0, 1) := by decide +kernel
theorem dX5_flatten_51 : decode cX5_flatten 51 = .ok (.getfield 37, 3) := by decide +kernel
theorem dX5_flatten_54 : decode cX5_flatten 54 = .ok (.iload_n 1, 1) := by decide +kernel
theorem dX5_flatten_55 : decode cX5_flatten 55 = .ok (.iconst 0, 1) := by decide +kernel
theorem dX5_flatten_56 : decode cX5_flatten 56 = .ok (.iastore, 1) := by decide +kernel
theorem dX5_flatten_57 : decode cX5_flatten 57 = .ok (.aload_n 0, 1) := by decide +kernel
theorem dX5_flatten_58 : decode cX5_flatten 58 = .ok (.getfield 40, 3) := by decide +kernel
theorem dX5_flatten_61 : decode cX5_flatten 61 = .ok (.iload_n 1, 1) := by decide +kernel
theorem dX5_flatten_62 : decode cX5_flatten 62 = .ok (.iconst 0, 1) := by decide +kernel
theorem dX5_flatten_63 : decode cX5_flatten 63 = .ok (.iastore, 1) := by decide +kernel
theorem dX5_flatten_64 : decode cX5_flatten 64 = .ok (.iload_n 2, 1) := by decide +kernel
theorem dX5_flatten_65 : decode cX5_flatten 65 = .ok (.ireturn, 1) := by decide +kernel
theorem dX5_lies_0 : decode cX5_lies 0 = .ok (.aload_n 0, 1) := by decide +kernel
theorem dX5_lies_1 : decode cX5_lies 1 = .ok (.iload_n 1, 1) := by decide +kernel
theorem dX5_lies_2 : decode cX5_lies 2 = .ok (.iload_n 2, 1) := by decide +kernel
theorem dX5_lies_3 : decode cX5_lies 3 = .ok (.invokevirtual 97, 3) := by decide +kernel
theorem dX5_lies_6 : decode cX5_lies 6 = .ok (.ifCond .ne 6, 3) := by decide +kernel
theorem dX5_lies_9 : decode cX5_lies 9 = .ok (.bipush (-101), 2) := by decide +kernel
theorem dX5_lies_11 : decode cX5_lies 11 = .ok (.ireturn, 1) := by decide +kernel
theorem dX5_lies_12 : decode cX5_lies 12 = .ok (.iload_n 3, 1) := by decide +kernel
theorem dX5_lies_13 : decode cX5_lies 13 = .ok (.ifCond .lt 8, 3) := by decide +kernel
theorem dX5_lies_16 : decode cX5_lies 16 = .ok (.iload_n 3, 1) := by decide +kernel
theorem dX5_lies_17 : decode cX5_lies 17 = .ok (.iconst 3, 1) := by decide +kernel
theorem dX5_lies_18 : decode cX5_lies 18 = .ok (.if_icmp .le 6, 3) := by decide +kernel
theorem dX5_lies_21 : decode cX5_lies 21 = .ok (.bipush (-102), 2) := by decide +kernel
theorem dX5_lies_23 : decode cX5_lies 23 = .ok (.ireturn, 1) := by decide +kernel
theorem dX5_lies_24 : decode cX5_lies 24 = .ok (.aload_n 0, 1) := by decide +kernel
theorem dX5_lies_25 : decode cX5_lies 25 = .ok (.getfield 7, 3) := by decide +kernel
theorem dX5_lies_28 : decode cX5_lies 28 = .ok (.iload_n 1, 1) := by decide +kernel
theorem dX5_lies_29 : decode cX5_lies 29 = .ok (.iaload, 1) := by decide +kernel
theorem dX5_lies_30 : decode cX5_lies 30 = .ok (.iconst 1, 1) := by decide +kernel
theorem dX5_lies_31 : decode cX5_lies 31 = .ok (.if_icmp .ne 6, 3) := by decide +kernel
theorem dX5_lies_34 : decode cX5_lies 34 = .ok (.bipush (-103), 2) := by decide +kernel
theorem dX5_lies_36 : decode cX5_lies 36 = .ok (.ireturn, 1) := by decide +kernel
theorem dX5_lies_37 : decode cX5_lies 37 = .ok (.iload_n 2, 1) := by decide +kernel
theorem dX5_lies_38 : decode cX5_lies 38 = .ok (.aload_n 0, 1) := by decide +kernel
theorem dX5_lies_39 : decode cX5_lies 39 = .ok (.getfield 19, 3) := by decide +kernel
theorem dX5_lies_42 : decode cX5_lies 42 = .ok (.iload_n 1, 1) := by decide +kernel
theorem dX5_lies_43 : decode cX5_lies 43 = .ok (.iaload, 1) := by decide +kernel
theorem dX5_lies_44 : decode cX5_lies 44 = .ok (.irem, 1) := by decide +kernel
theorem dX5_lies_45 : decode cX5_lies 45 = .ok (.istore 4, 2) := by decide +kernel
theorem dX5_lies_47 : decode cX5_lies 47 = .ok (.iload_n 2, 1) := by decide +kernel
theorem dX5_lies_48 : decode cX5_lies 48 = .ok (.aload_n 0, 1) := by decide +kernel
theorem dX5_lies_49 : decode cX5_lies 49 = .ok (.getfield 19, 3) := by decide +kernel
theorem dX5_lies_52 : decode cX5_lies 52 = .ok (.iload_n 1, 1) := by decide +kernel
theorem dX5_lies_53 : decode cX5_lies 53 = .ok (.iaload, 1) := by decide +kernel
theorem dX5_lies_54 : decode cX5_lies 54 = .ok (.idiv, 1) := by decide +kernel
theorem dX5_lies_55 : decode cX5_lies 55 = .ok (.istore 5, 2) := by decide +kernel
theorem dX5_lies_57 : decode cX5_lies 57 = .ok (.iload_n 3, 1) := by decide +kernel
theorem dX5_lies_58 : decode cX5_lies 58 = .ok (.ifCond .ne 17, 3) := by decide +kernel
theorem dX5_lies_61 : decode cX5_lies 61 = .ok (.aload_n 0, 1) := by decide +kernel
theorem dX5_lies_62 : decode cX5_lies 62 = .ok (.iload_n 1, 1) := by decide +kernel
theorem dX5_lies_63 : decode cX5_lies 63 = .ok (.aload_n 0, 1) := by decide +kernel
theorem dX5_lies_64 : decode cX5_lies 64 = .ok (.getfield 37, 3) := by decide +kernel
theorem dX5_lies_67 : decode cX5_lies 67 = .ok (.iload_n 1, 1) := by decide +kernel
theorem dX5_lies_68 : decode cX5_lies 68 = .ok (.iaload, 1) := by decide +kernel
theorem dX5_lies_69 : decode cX5_lies 69 = .ok (.iload 4, 2) := by decide +kernel
theorem dX5_lies_71 : decode cX5_lies 71 = .ok (.invokevirtual 200, 3) := by decide +kernel
theorem dX5_lies_74 : decode cX5_lies 74 = .ok (.ireturn, 1) := by decide +kernel
theorem dX5_lies_75 : decode cX5_lies 75 = .ok (.iload_n 3, 1) := by decide +kernel
theorem dX5_lies_76 : decode cX5_lies 76 = .ok (.iconst 1, 1) := by decide +kernel
theorem dX5_lies_77 : decode cX5_lies 77 = .ok (.if_icmp .ne 23, 3) := by decide +kernel
theorem dX5_lies_80 : decode cX5_lies 80 = .ok (.aload_n 0, 1) := by decide +kernel
theorem dX5_lies_81 : decode cX5_lies 81 = .ok (.getfield 37, 3) := by decide +kernel
theorem dX5_lies_84 : decode cX5_lies 84 = .ok (.iload_n 1, 1) := by decide +kernel
theorem dX5_lies_85 : decode cX5_lies 85 = .ok (.iaload, 1) := by decide +kernel
theorem dX5_lies_86 : decode cX5_lies 86 = .ok (.iload 4, 2) := by decide +kernel
theorem dX5_lies_88 : decode cX5_lies 88 = .ok (.invokestatic 190, 3) := by decide +kernel
theorem dX5_lies_91 : decode cX5_lies 91 = .ok (.ifCond .eq 7, 3) := by decide +kernel
theorem dX5_lies_94 : decode cX5_lies 94 = .ok (.iconst 1, 1) := by decide +kernel
theorem dX5_lies_95 : decode cX5_lies 95 = .ok (.goto 4, 3) := by decide +kernel
theorem dX5_lies_98 : decode cX5_lies 98 = .ok (.iconst 0, 1) := by decide +kernel
theorem dX5_lies_99 : decode cX5_lies 99 = .ok (.ireturn, 1) := by decide +kernel
theorem dX5_lies_100 : decode cX5_lies 100 = .ok (.iload_n 3, 1) := by decide +kernel
theorem dX5_lies_101 : decode cX5_lies 101 = .ok (.iconst 2, 1) := by decide +kernel
theorem dX5_lies_102 : decode cX5_lies 102 = .ok (.if_icmp .ne 52, 3) := by decide +kernel
theorem dX5_lies_105 : decode cX5_lies 105 = .ok (.aload_n 0, 1) := by decide +kernel
theorem dX5_lies_106 : decode cX5_lies 106 = .ok (.getfield 37, 3) := by decide +kernel
theorem dX5_lies_109 : decode cX5_lies 109 = .ok (.iload_n 1, 1) := by decide +kernel
theorem dX5_lies_110 : decode cX5_lies 110 = .ok (.iaload, 1) := by decide +kernel
theorem dX5_lies_111 : decode cX5_lies 111 = .ok (.iload 4, 2) := by decide +kernel
theorem dX5_lies_113 : decode cX5_lies 113 = .ok (.invokestatic 190, 3) := by decide +kernel
theorem dX5_lies_116 : decode cX5_lies 116 = .ok (.aload_n 0, 1) := by decide +kernel
theorem dX5_lies_117 : decode cX5_lies 117 = .ok (.getfield 7, 3) := by decide +kernel
theorem dX5_lies_120 : decode cX5_lies 120 = .ok (.iload_n 1, 1) := by decide +kernel
theorem dX5_lies_121 : decode cX5_lies 121 = .ok (.iaload, 1) := by decide +kernel
theorem dX5_lies_122 : decode cX5_lies 122 = .ok (.iconst 2, 1) := by decide +kernel
theorem dX5_lies_123 : decode cX5_lies 123 = .ok (.if_icmp .ne 17, 3) := by decide +kernel
theorem dX5_lies_126 : decode cX5_lies 126 = .ok (.aload_n 0, 1) := by decide +kernel
theorem dX5_lies_127 : decode cX5_lies 127 = .ok (.getfield 40, 3) := by decide +kernel
theorem dX5_lies_130 : decode cX5_lies 130 = .ok (.iload_n 1, 1) := by decide +kernel
theorem dX5_lies_131 : decode cX5_lies 131 = .ok (.iaload, 1) := by decide +kernel
theorem dX5_lies_132 : decode cX5_lies 132 = .ok (.iload 5, 2) := by decide +kernel
theorem dX5_lies_134 : decode cX5_lies 134 = .ok (.invokestatic 190, 3) := by decide +kernel
theorem dX5_lies_137 : decode cX5_lies 137 = .ok (.ifCond .eq 7, 3) := by decide +kernel
theorem dX5_lies_140 : decode cX5_lies 140 = .ok (.iconst 1, 1) := by decide +kernel
theorem dX5_lies_141 : decode cX5_lies 141 = .ok (.goto 4, 3) := by decide +kernel
theorem dX5_lies_144 : decode cX5_lies 144 = .ok (.iconst 0, 1) := by decide +kernel
theorem dX5_lies_145 : decode cX5_lies 145 = .ok (.if_icmp .ne 7, 3) := by decide +kernel
theorem dX5_lies_148 : decode cX5_lies 148 = .ok (.iconst 1, 1) := by decide +kernel
theorem dX5_lies_149 : decode cX5_lies 149 = .ok (.goto 4, 3) := by decide +kernel
theorem dX5_lies_152 : decode cX5_lies 152 = .ok (.iconst 0, 1) := by decide +kernel
theorem dX5_lies_153 : decode cX5_lies 153 = .ok (.ireturn, 1) := by decide +kernel
theorem dX5_lies_154 : decode cX5_lies 154 = .ok (.aload_n 0, 1) := by decide +kernel
theorem dX5_lies_155 : decode cX5_lies 155 = .ok (.getfield 7, 3) := by decide +kernel
theorem dX5_lies_158 : decode cX5_lies 158 = .ok (.iload_n 1, 1) := by decide +kernel
theorem dX5_lies_159 : decode cX5_lies 159 = .ok (.iaload, 1) := by decide +kernel
theorem dX5_lies_160 : decode cX5_lies 160 = .ok (.iconst 2, 1) := by decide +kernel
theorem dX5_lies_161 : decode cX5_lies 161 = .ok (.if_icmp .ne 19, 3) := by decide +kernel
theorem dX5_lies_164 : decode cX5_lies 164 = .ok (.aload_n 0, 1) := by decide +kernel
theorem dX5_lies_165 : decode cX5_lies 165 = .ok (.iload_n 1, 1) := by decide +kernel
theorem dX5_lies_166 : decode cX5_lies 166 = .ok (.aload_n 0, 1) := by decide +kernel
theorem dX5_lies_167 : decode cX5_lies 167 = .ok (.getfield 40, 3) := by decide +kernel
theorem dX5_lies_170 : decode cX5_lies 170 = .ok (.iload_n 1, 1) := by decide +kernel
theorem dX5_lies_171 : decode cX5_lies 171 = .ok (.iaload, 1) := by decide +kernel
theorem dX5_lies_172 : decode cX5_lies 172 = .ok (.iload 5, 2) := by decide +kernel
theorem dX5_lies_174 : decode cX5_lies 174 = .ok (.invokevirtual 200, 3) := by decide +kernel
theorem dX5_lies_177 : decode cX5_lies 177 = .ok (.goto 4, 3) := by decide +kernel
theorem dX5_lies_180 : decode cX5_lies 180 = .ok (.iconst 0, 1) := by decide +kernel
theorem dX5_lies_181 : decode cX5_lies 181 = .ok (.ireturn, 1) := by decide +kernel
