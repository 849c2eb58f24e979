theorem dX5_isFine_107 : decode cX5_isFine 107 = .ok (.invokevirtual 136, 3) := by decide +kernel
theorem dX5_isFine_110 : decode cX5_isFine 110 = .ok (.ifCond .ne 28, 3) := by decide +kernel
theorem dX5_isFine_113 : decode cX5_isFine 113 = .ok (.iconst 0, 1) := by decide +kernel
theorem dX5_isFine_114 : decode cX5_isFine 114 = .ok (.ireturn, 1) := by decide +kernel
theorem dX5_isFine_115 : decode cX5_isFine 115 = .ok (.iload 5, 2) := by decide +kernel
theorem dX5_isFine_117 : decode cX5_isFine 117 = .ok (.iload 6, 2) := by decide +kernel
theorem dX5_isFine_119 : decode cX5_isFine 119 = .ok (.if_icmp .eq 19, 3) := by decide +kernel
theorem dX5_isFine_122 : decode cX5_isFine 122 = .ok (.aload_n 0, 1) := by decide +kernel
theorem dX5_isFine_123 : decode cX5_isFine 123 = .ok (.iload_n 1, 1) := by decide +kernel
theorem dX5_isFine_124 : decode cX5_isFine 124 = .ok (.aload_n 0, 1) := by decide +kernel
theorem dX5_isFine_125 : decode cX5_isFine 125 = .ok (.getfield 49, 3) := by decide +kernel
theorem dX5_isFine_128 : decode cX5_isFine 128 = .ok (.iload_n 2, 1) := by decide +kernel
theorem dX5_isFine_129 : decode cX5_isFine 129 = .ok (.iaload, 1) := by decide +kernel
theorem dX5_isFine_130 : decode cX5_isFine 130 = .ok (.invokevirtual 140, 3) := by decide +kernel
theorem dX5_isFine_133 : decode cX5_isFine 133 = .ok (.ifCond .eq 5, 3) := by decide +kernel
theorem dX5_isFine_136 : decode cX5_isFine 136 = .ok (.iconst 0, 1) := by decide +kernel
theorem dX5_isFine_137 : decode cX5_isFine 137 = .ok (.ireturn, 1) := by decide +kernel
theorem dX5_isFine_138 : decode cX5_isFine 138 = .ok (.iinc 2 1, 3) := by decide +kernel
theorem dX5_isFine_141 : decode cX5_isFine 141 = .ok (.goto (-139), 3) := by decide +kernel
theorem dX5_isFine_144 : decode cX5_isFine 144 = .ok (.iconst 1, 1) := by decide +kernel
theorem dX5_isFine_145 : decode cX5_isFine 145 = .ok (.ireturn, 1) := by decide +kernel
theorem dX5_isClosed_0 : decode cX5_isClosed 0 = .ok (.aload_n 0, 1) := by decide +kernel
theorem dX5_isClosed_1 : decode cX5_isClosed 1 = .ok (.getfield 34, 3) := by decide +kernel
theorem dX5_isClosed_4 : decode cX5_isClosed 4 = .ok (.bipush 12, 2) := by decide +kernel
theorem dX5_isClosed_6 : decode cX5_isClosed 6 = .ok (.aload_n 0, 1) := by decide +kernel
theorem dX5_isClosed_7 : decode cX5_isClosed 7 = .ok (.getfield 117, 3) := by decide +kernel
theorem dX5_isClosed_10 : decode cX5_isClosed 10 = .ok (.imul, 1) := by decide +kernel
theorem dX5_isClosed_11 : decode cX5_isClosed 11 = .ok (.iload_n 1, 1) := by decide +kernel
theorem dX5_isClosed_12 : decode cX5_isClosed 12 = .ok (.iadd, 1) := by decide +kernel
theorem dX5_isClosed_13 : decode cX5_isClosed 13 = .ok (.iaload, 1) := by decide +kernel
theorem dX5_isClosed_14 : decode cX5_isClosed 14 = .ok (.istore 4, 2) := by decide +kernel
theorem dX5_isClosed_16 : decode cX5_isClosed 16 = .ok (.iload 4, 2) := by decide +kernel
theorem dX5_isClosed_18 : decode cX5_isClosed 18 = .ok (.ifCond .eq 15, 3) := by decide +kernel
theorem dX5_isClosed_21 : decode cX5_isClosed 21 = .ok (.iload 4, 2) := by decide +kernel
theorem dX5_isClosed_23 : decode cX5_isClosed 23 = .ok (.aload_n 0, 1) := by decide +kernel
theorem dX5_isClosed_24 : decode cX5_isClosed 24 = .ok (.iload_n 1, 1) := by decide +kernel
theorem dX5_isClosed_25 : decode cX5_isClosed 25 = .ok (.invokevirtual 143, 3) := by decide +kernel
theorem dX5_isClosed_28 : decode cX5_isClosed 28 = .ok (.if_icmp .eq 5, 3) := by decide +kernel
theorem dX5_isClosed_31 : decode cX5_isClosed 31 = .ok (.iconst 0, 1) := by decide +kernel
theorem dX5_isClosed_32 : decode cX5_isClosed 32 = .ok (.ireturn, 1) := by decide +kernel
theorem dX5_isClosed_33 : decode cX5_isClosed 33 = .ok (.aload_n 0, 1) := by decide +kernel
theorem dX5_isClosed_34 : decode cX5_isClosed 34 = .ok (.getfield 46, 3) := by decide +kernel
theorem dX5_isClosed_37 : decode cX5_isClosed 37 = .ok (.iload_n 2, 1) := by decide +kernel
theorem dX5_isClosed_38 : decode cX5_isClosed 38 = .ok (.iaload, 1) := by decide +kernel
theorem dX5_isClosed_39 : decode cX5_isClosed 39 = .ok (.aload_n 0, 1) := by decide +kernel
theorem dX5_isClosed_40 : decode cX5_isClosed 40 = .ok (.getfield 46, 3) := by decide +kernel
theorem dX5_isClosed_43 : decode cX5_isClosed 43 = .ok (.iload_n 3, 1) := by decide +kernel
theorem dX5_isClosed_44 : decode cX5_isClosed 44 = .ok (.iaload, 1) := by decide +kernel
theorem dX5_isClosed_45 : decode cX5_isClosed 45 = .ok (.invokestatic 127, 3) := by decide +kernel
theorem dX5_isClosed_48 : decode cX5_isClosed 48 = .ok (.istore 5, 2) := by decide +kernel
theorem dX5_isClosed_50 : decode cX5_isClosed 50 = .ok (.aload_n 0, 1) := by decide +kernel
theorem dX5_isClosed_51 : decode cX5_isClosed 51 = .ok (.getfield 46, 3) := by decide +kernel
theorem dX5_isClosed_54 : decode cX5_isClosed 54 = .ok (.iload_n 2, 1) := by decide +kernel
theorem dX5_isClosed_55 : decode cX5_isClosed 55 = .ok (.iaload, 1) := by decide +kernel
theorem dX5_isClosed_56 : decode cX5_isClosed 56 = .ok (.aload_n 0, 1) := by decide +kernel
theorem dX5_isClosed_57 : decode cX5_isClosed 57 = .ok (.getfield 46, 3) := by decide +kernel
theorem dX5_isClosed_60 : decode cX5_isClosed 60 = .ok (.iload_n 3, 1) := by decide +kernel
theorem dX5_isClosed_61 : decode cX5_isClosed 61 = .ok (.iaload, 1) := by decide +kernel
theorem dX5_isClosed_62 : decode cX5_isClosed 62 = .ok (.invokestatic 130, 3) := by decide +kernel
theorem dX5_isClosed_65 : decode cX5_isClosed 65 = .ok (.istore 6, 2) := by decide +kernel
theorem dX5_isClosed_67 : decode cX5_isClosed 67 = .ok (.iconst 0, 1) := by decide +kernel
theorem dX5_isClosed_68 : decode cX5_isClosed 68 = .ok (.istore 7, 2) := by decide +kernel
theorem dX5_isClosed_70 : decode cX5_isClosed 70 = .ok (.iload 7, 2) := by decide +kernel
theorem dX5_isClosed_72 : decode cX5_isClosed 72 = .ok (.aload_n 0, 1) := by decide +kernel
theorem dX5_isClosed_73 : decode cX5_isClosed 73 = .ok (.getfield 22, 3) := by decide +kernel
theorem dX5_isClosed_76 : decode cX5_isClosed 76 = .ok (.aload_n 0, 1) := by decide +kernel
theorem dX5_isClosed_77 : decode cX5_isClosed 77 = .ok (.getfield 117, 3) := by decide +kernel
theorem dX5_isClosed_80 : decode cX5_isClosed 80 = .ok (.iaload, 1) := by decide +kernel
theorem dX5_isClosed_81 : decode cX5_isClosed 81 = .ok (.if_icmp .ge 142, 3) := by decide +kernel
theorem dX5_isClosed_84 : decode cX5_isClosed 84 = .ok (.iload 7, 2) := by decide +kernel
theorem dX5_isClosed_86 : decode cX5_isClosed 86 = .ok (.iload_n 1, 1) := by decide +kernel
theorem dX5_isClosed_87 : decode cX5_isClosed 87 = .ok (.if_icmp .eq 130, 3) := by decide +kernel
theorem dX5_isClosed_90 : decode cX5_isClosed 90 = .ok (.aload_n 0, 1) := by decide +kernel
theorem dX5_isClosed_91 : decode cX5_isClosed 91 = .ok (.iload_n 1, 1) := by decide +kernel
theorem dX5_isClosed_92 : decode cX5_isClosed 92 = .ok (.iload 7, 2) := by decide +kernel
theorem dX5_isClosed_94 : decode cX5_isClosed 94 = .ok (.invokevirtual 146, 3) := by decide +kernel
theorem dX5_isClosed_97 : decode cX5_isClosed 97 = .ok (.ifCond .eq 120, 3) := by decide +kernel
theorem dX5_isClosed_100 : decode cX5_isClosed 100 = .ok (.aload_n 0, 1) := by decide +kernel
theorem dX5_isClosed_101 : decode cX5_isClosed 101 = .ok (.iload_n 1, 1) := by decide +kernel
theorem dX5_isClosed_102 : decode cX5_isClosed 102 = .ok (.iload 7, 2) := by decide +kernel
theorem dX5_isClosed_104 : decode cX5_isClosed 104 = .ok (.invokevirtual 149, 3) := by decide +kernel
theorem dX5_isClosed_107 : decode cX5_isClosed 107 = .ok (.ifCond .eq 110, 3) := by decide +kernel
theorem dX5_isClosed_110 : decode cX5_isClosed 110 = .ok (.aload_n 0, 1) := by decide +kernel
theorem dX5_isClosed_111 : decode cX5_isClosed 111 = .ok (.getfield 46, 3) := by decide +kernel
theorem dX5_isClosed_114 : decode cX5_isClosed 114 = .ok (.aload_n 0, 1) := by decide +kernel
theorem dX5_isClosed_115 : decode cX5_isClosed 115 = .ok (.getfield 28, 3) := by decide +kernel
theorem dX5_isClosed_118 : decode cX5_isClosed 118 = .ok (.bipush 12, 2) := by decide +kernel
theorem dX5_isClosed_120 : decode cX5_isClosed 120 = .ok (.aload_n 0, 1) := by decide +kernel
theorem dX5_isClosed_121 : decode cX5_isClosed 121 = .ok (.getfield 117, 3) := by decide +kernel
theorem dX5_isClosed_124 : decode cX5_isClosed 124 = .ok (.imul, 1) := by decide +kernel
theorem dX5_isClosed_125 : decode cX5_isClosed 125 = .ok (.iload 7, 2) := by decide +kernel
theorem dX5_isClosed_127 : decode cX5_isClosed 127 = .ok (.iadd, 1) := by decide +kernel
theorem dX5_isClosed_128 : decode cX5_isClosed 128 = .ok (.iaload, 1) := by decide +kernel
theorem dX5_isClosed_129 : decode cX5_isClosed 129 = .ok (.iaload, 1) := by decide +kernel
theorem dX5_isClosed_130 : decode cX5_isClosed 130 = .ok (.istore 8, 2) := by decide +kernel
theorem dX5_isClosed_132 : decode cX5_isClosed 132 = .ok (.aload_n 0, 1) := by decide +kernel
theorem dX5_isClosed_133 : decode cX5_isClosed 133 = .ok (.getfield 46, 3) := by decide +kernel
theorem dX5_isClosed_136 : decode cX5_isClosed 136 = .ok (.aload_n 0, 1) := by decide +kernel
theorem dX5_isClosed_137 : decode cX5_isClosed 137 = .ok (.getfield 31, 3) := by decide +kernel
theorem dX5_isClosed_140 : decode cX5_isClosed 140 = .ok (.bipush 12, 2) := by decide +kernel
theorem dX5_isClosed_142 : decode cX5_isClosed 142 = .ok (.aload_n 0, 1) := by decide +kernel
theorem dX5_isClosed_143 : decode cX5_isClosed 143 = .ok (.getfield 117, 3) := by decide +kernel
theorem dX5_isClosed_146 : decode cX5_isClosed 146 = .ok (.imul, 1) := by decide +kernel
theorem dX5_isClosed_147 : decode cX5_isClosed 147 = .ok (.iload 7, 2) := by decide +kernel
theorem dX5_isClosed_149 : decode cX5_isClosed 149 = .ok (.iadd, 1) := by decide +kernel
theorem dX5_isClosed_150 : decode cX5_isClosed 150 = .ok (.iaload, 1) := by decide +kernel
theorem dX5_isClosed_151 : decode cX5_isClosed 151 = .ok (.iaload, 1) := by decide +kernel
theorem dX5_isClosed_152 : decode cX5_isClosed 152 = .ok (.istore 9, 2) := by decide +kernel
theorem dX5_isClosed_154 : decode cX5_isClosed 154 = .ok (.iload 8, 2) := by decide +kernel
theorem dX5_isClosed_156 : decode cX5_isClosed 156 = .ok (.iconst (-1), 1) := by decide +kernel
theorem dX5_isClosed_157 : decode cX5_isClosed 157 = .ok (.if_icmp .eq 21, 3) := by decide +kernel
theorem dX5_isClosed_160 : decode cX5_isClosed 160 = .ok (.iload 8, 2) := by decide +kernel
theorem dX5_isClosed_162 : decode cX5_isClosed 162 = .ok (.iload 5, 2) := by decide +kernel
theorem dX5_isClosed_164 : decode cX5_isClosed 164 = .ok (.if_icmp .le 14, 3) := by decide +kernel
theorem dX5_isClosed_167 : decode cX5_isClosed 167 = .ok (.iload 8, 2) := by decide +kernel
theorem dX5_isClosed_169 : decode cX5_isClosed 169 = .ok (.iload 6, 2) := by decide +kernel
theorem dX5_isClosed_171 : decode cX5_isClosed 171 = .ok (.if_icmp .ge 7, 3) := by decide +kernel
theorem dX5_isClosed_174 : decode cX5_isClosed 174 = .ok (.iconst 1, 1) := by decide +kernel
theorem dX5_isClosed_175 : decode cX5_isClosed 175 = .ok (.goto 4, 3) := by decide +kernel
theorem dX5_isClosed_178 : decode cX5_isClosed 178 = .ok (.iconst 0, 1) := by decide +kernel
theorem dX5_isClosed_179 : decode cX5_isClosed 179 = .ok (.istore 10, 2) := by decide +kernel
theorem dX5_isClosed_181 : decode cX5_isClosed 181 = .ok (.iload 9, 2) := by decide +kernel
theorem dX5_isClosed_183 : decode cX5_isClosed 183 = .ok (.iconst (-1), 1) := by decide +kernel
theorem dX5_isClosed_184 : decode cX5_isClosed 184 = .ok (.if_icmp .eq 21, 3) := by decide +kernel
theorem dX5_isClosed_187 : decode cX5_isClosed 187 = .ok (.iload 9, 2) := by decide +kernel
theorem dX5_isClosed_189 : decode cX5_isClosed 189 = .ok (.iload 5, 2) := by decide +kernel
theorem dX5_isClosed_191 : decode cX5_isClosed 191 = .ok (.if_icmp .le 14, 3) := by decide +kernel
theorem dX5_isClosed_194 : decode cX5_isClosed 194 = .ok (.iload 9, 2) := by decide +kernel
theorem dX5_isClosed_196 : decode cX5_isClosed 196 = .ok (.iload 6, 2) := by decide +kernel
theorem dX5_isClosed_198 : decode cX5_isClosed 198 = .ok (.if_icmp .ge 7, 3) := by decide +kernel
theorem dX5_isClosed_201 : decode cX5_isClosed 201 = .ok (.iconst 1, 1) := by decide +kernel
theorem dX5_isClosed_202 : decode cX5_isClosed 202 = .ok (.goto 4, 3) := by decide +kernel
theorem dX5_isClosed_205 : decode cX5_isClosed 205 = .ok (.iconst 0, 1) := by decide +kernel
theorem dX5_isClosed_206 : decode cX5_isClosed 206 = .ok (.istore 11, 2) := by decide +kernel
theorem dX5_isClosed_208 : decode cX5_isClosed 208 = .ok (.iload 10, 2) := by decide +kernel
theorem dX5_isClosed_210 : decode cX5_isClosed 210 = .ok (.iload 11, 2) := by decide +kernel
theorem dX5_isClosed_212 : decode cX5_isClosed 212 = .ok (.if_icmp .eq 5, 3) := by decide +kernel
theorem dX5_isClosed_215 : decode cX5_isClosed 215 = .ok (.iconst 0, 1) := by decide +kernel
theorem dX5_isClosed_216 : decode cX5_isClosed 216 = .ok (.ireturn, 1) := by decide +kernel
theorem dX5_isClosed_217 : decode cX5_isClosed 217 = .ok (.iinc 7 1, 3) := by decide +kernel
theorem dX5_isClosed_220 : decode cX5_isClosed 220 = .ok (.goto (-150), 3) := by decide +kernel
theorem dX5_isClosed_223 : decode cX5_isClosed 223 = .ok (.iconst 1, 1) := by decide +kernel
theorem dX5_isClosed_224 : decode cX5_isClosed 224 = .ok (.ireturn, 1) := by decide +kernel
theorem dX5_next_0 : decode cX5_next 0 = .ok (.aload_n 0, 1) := by decide +kernel
theorem dX5_next_1 : decode cX5_next 1 = .ok (.getfield 13, 3) := by decide +kernel
theorem dX5_next_4 : decode cX5_next 4 = .ok (.aload_n 0, 1) := by decide +kernel
theorem dX5_next_5 : decode cX5_next 5 = .ok (.getfield 117, 3) := by decide +kernel
theorem dX5_next_8 : decode cX5_next 8 = .ok (.iaload, 1) := by decide +kernel
theorem dX5_next_9 : decode cX5_next 9 = .ok (.istore_n 1, 1) := by decide +kernel
theorem dX5_next_10 : decode cX5_next 10 = .ok (.aload_n 0, 1) := by decide +kernel
theorem dX5_next_11 : decode cX5_next 11 = .ok (.getfield 7, 3) := by decide +kernel
theorem dX5_next_14 : decode cX5_next 14 = .ok (.aload_n 0, 1) := by decide +kernel
theorem dX5_next_15 : decode cX5_next 15 = .ok (.getfield 117, 3) := by decide +kernel
theorem dX5_next_18 : decode cX5_next 18 = .ok (.iaload, 1) := by decide +kernel
theorem dX5_next_19 : decode cX5_next 19 = .ok (.iconst 1, 1) := by decide +kernel
theorem dX5_next_20 : decode cX5_next 20 = .ok (.if_icmp .ne 23, 3) := by decide +kernel
theorem dX5_next_23 : decode cX5_next 23 = .ok (.iload_n 1, 1) := by decide +kernel
theorem dX5_next_24 : decode cX5_next 24 = .ok (.iconst 2, 1) := by decide +kernel
theorem dX5_next_25 : decode cX5_next 25 = .ok (.irem, 1) := by decide +kernel
theorem dX5_next_26 : decode cX5_next 26 = .ok (.iconst 1, 1) := by decide +kernel
theorem dX5_next_27 : decode cX5_next 27 = .ok (.if_icmp .eq 14, 3) := by decide +kernel
theorem dX5_next_30 : decode cX5_next 30 = .ok (.aload_n 0, 1) := by decide +kernel
theorem dX5_next_31 : decode cX5_next 31 = .ok (.aload_n 0, 1) := by decide +kernel
theorem dX5_next_32 : decode cX5_next 32 = .ok (.getfield 117, 3) := by decide +kernel
theorem dX5_next_35 : decode cX5_next 35 = .ok (.invokevirtual 107, 3) := by decide +kernel
theorem dX5_next_38 : decode cX5_next 38 = .ok (.ifCond .eq 5, 3) := by decide +kernel
theorem dX5_next_41 : decode cX5_next 41 = .ok (.iconst 0, 1) := by decide +kernel
theorem dX5_next_42 : decode cX5_next 42 = .ok (.ireturn, 1) := by decide +kernel
theorem dX5_next_43 : decode cX5_next 43 = .ok (.iconst 0, 1) := by decide +kernel
theorem dX5_next_44 : decode cX5_next 44 = .ok (.istore_n 2, 1) := by decide +kernel
theorem dX5_next_45 : decode cX5_next 45 = .ok (.aload_n 0, 1) := by decide +kernel
theorem dX5_next_46 : decode cX5_next 46 = .ok (.getfield 123, 3) := by decide +kernel
theorem dX5_next_49 : decode cX5_next 49 = .ok (.ifCond .eq 40, 3) := by decide +kernel
theorem dX5_next_52 : decode cX5_next 52 = .ok (.aload_n 0, 1) := by decide +kernel
theorem dX5_next_53 : decode cX5_next 53 = .ok (.dup, 1) := by decide +kernel
theorem dX5_next_54 : decode cX5_next 54 = .ok (.getfield 120, 3) := by decide +kernel
theorem dX5_next_57 : decode cX5_next 57 = .ok (.iconst 1, 1) := by decide +kernel
theorem dX5_next_58 : decode cX5_next 58 = .ok (.isub, 1) := by decide +kernel
theorem dX5_next_59 : decode cX5_next 59 = .ok (.putfield 120, 3) := by decide +kernel
theorem dX5_next_62 : decode cX5_next 62 = .ok (.aload_n 0, 1) := by decide +kernel
theorem dX5_next_63 : decode cX5_next 63 = .ok (.getfield 43, 3) := by decide +kernel
theorem dX5_next_66 : decode cX5_next 66 = .ok (.aload_n 0, 1) := by decide +kernel
theorem dX5_next_67 : decode cX5_next 67 = .ok (.getfield 120, 3) := by decide +kernel
theorem dX5_next_70 : decode cX5_next 70 = .ok (.iaload, 1) := by decide +kernel
theorem dX5_next_71 : decode cX5_next 71 = .ok (.iconst 1, 1) := by decide +kernel
theorem dX5_next_72 : decode cX5_next 72 = .ok (.iadd, 1) := by decide +kernel
theorem dX5_next_73 : decode cX5_next 73 = .ok (.istore_n 2, 1) := by decide +kernel
theorem dX5_next_74 : decode cX5_next 74 = .ok (.aload_n 0, 1) := by decide +kernel
theorem dX5_next_75 : decode cX5_next 75 = .ok (.getfield 46, 3) := by decide +kernel
theorem dX5_next_78 : decode cX5_next 78 = .ok (.aload_n 0, 1) := by decide +kernel
theorem dX5_next_79 : decode cX5_next 79 = .ok (.getfield 43, 3) := by decide +kernel
theorem dX5_next_82 : decode cX5_next 82 = .ok (.aload_n 0, 1) := by decide +kernel
theorem dX5_next_83 : decode cX5_next 83 = .ok (.getfield 120, 3) := by decide +kernel
theorem dX5_next_86 : decode cX5_next 86 = .ok (.iaload, 1) := by decide +kernel
theorem dX5_next_87 : decode cX5_next 87 = .ok (.iconst (-1), 1) := by decide +kernel
theorem dX5_next_88 : decode cX5_next 88 = .ok (.iastore, 1) := by decide +kernel
theorem dX5_next_89 : decode cX5_next 89 = .ok (.aload_n 0, 1) := by decide +kernel
theorem dX5_next_90 : decode cX5_next 90 = .ok (.iconst 1, 1) := by decide +kernel
theorem dX5_next_91 : decode cX5_next 91 = .ok (.putfield 123, 3) := by decide +kernel
theorem dX5_next_94 : decode cX5_next 94 = .ok (.iload_n 2, 1) := by decide +kernel
theorem dX5_next_95 : decode cX5_next 95 = .ok (.istore_n 3, 1) := by decide +kernel
theorem dX5_next_96 : decode cX5_next 96 = .ok (.iconst 0, 1) := by decide +kernel
theorem dX5_next_97 : decode cX5_next 97 = .ok (.istore 4, 2) := by decide +kernel
theorem dX5_next_99 : decode cX5_next 99 = .ok (.iload_n 3, 1) := by decide +kernel
theorem dX5_next_100 : decode cX5_next 100 = .ok (.iload_n 1, 1) := by decide +kernel
theorem dX5_next_101 : decode cX5_next 101 = .ok (.if_icmp .ge 63, 3) := by decide +kernel
theorem dX5_next_104 : decode cX5_next 104 = .ok (.iload 4, 2) := by decide +kernel
theorem dX5_next_106 : decode cX5_next 106 = .ok (.ifCond .ne 58, 3) := by decide +kernel
theorem dX5_next_109 : decode cX5_next 109 = .ok (.aload_n 0, 1) := by decide +kernel
theorem dX5_next_110 : decode cX5_next 110 = .ok (.getfield 46, 3) := by decide +kernel
theorem dX5_next_113 : decode cX5_next 113 = .ok (.iload_n 3, 1) := by decide +kernel
theorem dX5_next_114 : decode cX5_next 114 = .ok (.iaload, 1) := by decide +kernel
theorem dX5_next_115 : decode cX5_next 115 = .ok (.iconst (-1), 1) := by decide +kernel
theorem dX5_next_116 : decode cX5_next 116 = .ok (.if_icmp .ne 32, 3) := by decide +kernel
theorem dX5_next_119 : decode cX5_next 119 = .ok (.aload_n 0, 1) := by decide +kernel
theorem dX5_next_120 : decode cX5_next 120 = .ok (.getfield 46, 3) := by decide +kernel
theorem dX5_next_123 : decode cX5_next 123 = .ok (.iload_n 3, 1) := by decide +kernel
theorem dX5_next_124 : decode cX5_next 124 = .ok (.aload_n 0, 1) := by decide +kernel
theorem dX5_next_125 : decode cX5_next 125 = .ok (.getfield 120, 3) := by decide +kernel
theorem dX5_next_128 : decode cX5_next 128 = .ok (.iastore, 1) := by decide +kernel
theorem dX5_next_129 : decode cX5_next 129 = .ok (.aload_n 0, 1) := by decide +kernel
theorem dX5_next_130 : decode cX5_next 130 = .ok (.iload_n 3, 1) := by decide +kernel
theorem dX5_next_131 : decode cX5_next 131 = .ok (.invokevirtual 152, 3) := by decide +kernel
theorem dX5_next_134 : decode cX5_next 134 = .ok (.istore 4, 2) := by decide +kernel
theorem dX5_next_136 : decode cX5_next 136 = .ok (.iload 4, 2) := by decide +kernel
theorem dX5_next_138 : decode cX5_next 138 = .ok (.ifCond .ne 10, 3) := by decide +kernel
theorem dX5_next_141 : decode cX5_next 141 = .ok (.aload_n 0, 1) := by decide +kernel
theorem dX5_next_142 : decode cX5_next 142 = .ok (.getfield 46, 3) := by decide +kernel
theorem dX5_next_145 : decode cX5_next 145 = .ok (.iload_n 3, 1) := by decide +kernel
theorem dX5_next_146 : decode cX5_next 146 = .ok (.iconst (-1), 1) := by decide +kernel
theorem dX5_next_147 : decode cX5_next 147 = .ok (.iastore, 1) := by decide +kernel
theorem dX5_next_148 : decode cX5_next 148 = .ok (.iload_n 3, 1) := by decide +kernel
theorem dX5_next_149 : decode cX5_next 149 = .ok (.iload 4, 2) := by decide +kernel
theorem dX5_next_151 : decode cX5_next 151 = .ok (.ifCond .eq 7, 3) := by decide +kernel
theorem dX5_next_154 : decode cX5_next 154 = .ok (.iconst 0, 1) := by decide +kernel
theorem dX5_next_155 : decode cX5_next 155 = .ok (.goto 4, 3) := by decide +kernel
theorem dX5_next_158 : decode cX5_next 158 = .ok (.iconst 1, 1) := by decide +kernel
theorem dX5_next_159 : decode cX5_next 159 = .ok (.iadd, 1) := by decide +kernel
theorem dX5_next_160 : decode cX5_next 160 = .ok (.istore_n 3, 1) := by decide +kernel
theorem dX5_next_161 : decode cX5_next 161 = .ok (.goto (-62), 3) := by decide +kernel
theorem dX5_next_164 : decode cX5_next 164 = .ok (.iload 4, 2) := by decide +kernel
theorem dX5_next_166 : decode cX5_next 166 = .ok (.ifCond .eq 35, 3) := by decide +kernel
theorem dX5_next_169 : decode cX5_next 169 = .ok (.aload_n 0, 1) := by decide +kernel
theorem dX5_next_170 : decode cX5_next 170 = .ok (.getfield 43, 3) := by decide +kernel
theorem dX5_next_173 : decode cX5_next 173 = .ok (.aload_n 0, 1) := by decide +kernel
theorem dX5_next_174 : decode cX5_next 174 = .ok (.getfield 120, 3) := by decide +kernel
theorem dX5_next_177 : decode cX5_next 177 = .ok (.iload_n 3, 1) := by decide +kernel
theorem dX5_next_178 : decode cX5_next 178 = .ok (.iastore, 1) := by decide +kernel
theorem dX5_next_179 : decode cX5_next 179 = .ok (.aload_n 0, 1) := by decide +kernel
theorem dX5_next_180 : decode cX5_next 180 = .ok (.dup, 1) := by decide +kernel
theorem dX5_next_181 : decode cX5_next 181 = .ok (.getfield 120, 3) := by decide +kernel
theorem dX5_next_184 : decode cX5_next 184 = .ok (.iconst 1, 1) := by decide +kernel
theorem dX5_next_185 : decode cX5_next 185 = .ok (.iadd, 1) := by decide +kernel
theorem dX5_next_186 : decode cX5_next 186 = .ok (.putfield 120, 3) := by decide +kernel
theorem dX5_next_189 : decode cX5_next 189 = .ok (.iconst 0, 1) := by decide +kernel
theorem dX5_next_190 : decode cX5_next 190 = .ok (.istore_n 2, 1) := by decide +kernel
theorem dX5_next_191 : decode cX5_next 191 = .ok (.aload_n 0, 1) := by decide +kernel
theorem dX5_next_192 : decode cX5_next 192 = .ok (.getfield 120, 3) := by decide +kernel
theorem dX5_next_195 : decode cX5_next 195 = .ok (.iload_n 1, 1) := by decide +kernel
theorem dX5_next_196 : decode cX5_next 196 = .ok (.if_icmp .ne 51, 3) := by decide +kernel
theorem dX5_next_199 : decode cX5_next 199 = .ok (.iconst 1, 1) := by decide +kernel
theorem dX5_next_200 : decode cX5_next 200 = .ok (.ireturn, 1) := by decide +kernel
theorem dX5_next_201 : decode cX5_next 201 = .ok (.aload_n 0, 1) := by decide +kernel
theorem dX5_next_202 : decode cX5_next 202 = .ok (.getfield 120, 3) := by decide +kernel
theorem dX5_next_205 : decode cX5_next 205 = .ok (.ifCond .ne 5, 3) := by decide +kernel
theorem dX5_next_208 : decode cX5_next 208 = .ok (.iconst 0, 1) := by decide +kernel
theorem dX5_next_209 : decode cX5_next 209 = .ok (.ireturn, 1) := by decide +kernel
theorem dX5_next_210 : decode cX5_next 210 = .ok (.aload_n 0, 1) := by decide +kernel
theorem dX5_next_211 : decode cX5_next 211 = .ok (.dup, 1) := by decide +kernel
theorem dX5_next_212 : decode cX5_next 212 = .ok (.getfield 120, 3) := by decide +kernel
theorem dX5_next_215 : decode cX5_next 215 = .ok (.iconst 1, 1) := by decide +kernel
theorem dX5_next_216 : decode cX5_next 216 = .ok (.isub, 1) := by decide +kernel
theorem dX5_next_217 : decode cX5_next 217 = .ok (.putfield 120, 3) := by decide +kernel
theorem dX5_next_220 : decode cX5_next 220 = .ok (.aload_n 0, 1) := by decide +kernel
theorem dX5_next_221 : decode cX5_next 221 = .ok (.getfield 43, 3) := by decide +kernel
theorem dX5_next_224 : decode cX5_next 224 = .ok (.aload_n 0, 1) := by decide +kernel
theorem dX5_next_225 : decode cX5_next 225 = .ok (.getfield 120, 3) := by decide +kernel
theorem dX5_next_228 : decode cX5_next 228 = .ok (.iaload, 1) := by decide +kernel
theorem dX5_next_229 : decode cX5_next 229 = .ok (.iconst 1, 1) := by decide +kernel
theorem dX5_next_230 : decode cX5_next 230 = .ok (.iadd, 1) := by decide +kernel
theorem dX5_next_231 : decode cX5_next 231 = .ok (.istore_n 2, 1) := by decide +kernel
theorem dX5_next_232 : decode cX5_next 232 = .ok (.aload_n 0, 1) := by decide +kernel
theorem dX5_next_233 : decode cX5_next 233 = .ok (.getfield 46, 3) := by decide +kernel
theorem dX5_next_236 : decode cX5_next 236 = .ok (.aload_n 0, 1) := by decide +kernel
theorem dX5_next_237 : decode cX5_next 237 = .ok (.getfield 43, 3) := by decide +kernel
theorem dX5_next_240 : decode cX5_next 240 = .ok (.aload_n 0, 1) := by decide +kernel
theorem dX5_next_241 : decode cX5_next 241 = .ok (.getfield 120, 3) := by decide +kernel
theorem dX5_next_244 : decode cX5_next 244 = .ok (.iaload, 1) := by decide +kernel
theorem dX5_next_245 : decode cX5_next 245 = .ok (.iconst (-1), 1) := by decide +kernel
theorem dX5_next_246 : decode cX5_next 246 = .ok (.iastore, 1) := by decide +kernel
theorem dX5_next_247 : decode cX5_next 247 = .ok (.goto (-153), 3) := by decide +kernel
theorem dX5_number_0 : decode cX5_number 0 = .ok (.lconst 0, 1) := by decide +kernel
theorem dX5_number_1 : decode cX5_number 1 = .ok (.lstore_n 1, 1) := by decide +kernel
theorem dX5_number_2 : decode cX5_number 2 = .ok (.aload_n 0, 1) := by decide +kernel
theorem dX5_number_3 : decode cX5_number 3 = .ok (.getfield 13, 3) := by decide +kernel
theorem dX5_number_6 : decode cX5_number 6 = .ok (.aload_n 0, 1) := by decide +kernel
theorem dX5_number_7 : decode cX5_number 7 = .ok (.getfield 117, 3) := by decide +kernel
theorem dX5_number_10 : decode cX5_number 10 = .ok (.iaload, 1) := by decide +kernel
theorem dX5_number_11 : decode cX5_number 11 = .ok (.iconst 1, 1) := by decide +kernel
theorem dX5_number_12 : decode cX5_number 12 = .ok (.isub, 1) := by decide +kernel
theorem dX5_number_13 : decode cX5_number 13 = .ok (.istore_n 3, 1) := by decide +kernel
theorem dX5_number_14 : decode cX5_number 14 = .ok (.iload_n 3, 1) := by decide +kernel
theorem dX5_number_15 : decode cX5_number 15 = .ok (.ifCond .lt 23, 3) := by decide +kernel
theorem dX5_number_18 : decode cX5_number 18 = .ok (.ldc2_w 155, 3) := by decide +kernel
theorem dX5_number_21 : decode cX5_number 21 = .ok (.lload_n 1, 1) := by decide +kernel
theorem dX5_number_22 : decode cX5_number 22 = .ok (.lmul, 1) := by decide +kernel
theorem dX5_number_23 : decode cX5_number 23 = .ok (.aload_n 0, 1) := by decide +kernel
theorem dX5_number_24 : decode cX5_number 24 = .ok (.getfield 43, 3) := by decide +kernel
theorem dX5_number_27 : decode cX5_number 27 = .ok (.iload_n 3, 1) := by decide +kernel
theorem dX5_number_28 : decode cX5_number 28 = .ok (.iaload, 1) := by decide +kernel
theorem dX5_number_29 : decode cX5_number 29 = .ok (.i2l, 1) := by decide +kernel
theorem dX5_number_30 : decode cX5_number 30 = .ok (.ladd, 1) := by decide +kernel
theorem dX5_number_31 : decode cX5_number 31 = .ok (.lstore_n 1, 1) := by decide +kernel
theorem dX5_number_32 : decode cX5_number 32 = .ok (.iinc 3 (-1), 3) := by decide +kernel
theorem dX5_number_35 : decode cX5_number 35 = .ok (.goto (-21), 3) := by decide +kernel
theorem dX5_number_38 : decode cX5_number 38 = .ok (.lload_n 1, 1) := by decide +kernel
theorem dX5_number_39 : decode cX5_number 39 = .ok (.lreturn, 1) := by decide +kernel
theorem dX5_judge_0 : decode cX5_judge 0 = .ok (.aload_n 0, 1) := by decide +kernel
theorem dX5_judge_1 : decode cX5_judge 1 = .ok (.iload_n 1, 1) := by decide +kernel
theorem dX5_judge_2 : decode cX5_judge 2 = .ok (.invokevirtual 85, 3) := by decide +kernel
theorem dX5_judge_5 : decode cX5_judge 5 = .ok (.ifCond .ne 6, 3) := by decide +kernel
theorem dX5_judge_8 : decode cX5_judge 8 = .ok (.bipush (-101), 2) := by decide +kernel
theorem dX5_judge_10 : decode cX5_judge 10 = .ok (.ireturn, 1) := by decide +kernel
theorem dX5_judge_11 : decode cX5_judge 11 = .ok (.aload_n 0, 1) := by decide +kernel
theorem dX5_judge_12 : decode cX5_judge 12 = .ok (.iload_n 1, 1) := by decide +kernel
theorem dX5_judge_13 : decode cX5_judge 13 = .ok (.invokevirtual 157, 3) := by decide +kernel
theorem dX5_judge_16 : decode cX5_judge 16 = .ok (.aload_n 0, 1) := by decide +kernel
theorem dX5_judge_17 : decode cX5_judge 17 = .ok (.invokevirtual 161, 3) := by decide +kernel
theorem dX5_judge_20 : decode cX5_judge 20 = .ok (.ifCond .ne 5, 3) := by decide +kernel
theorem dX5_judge_23 : decode cX5_judge 23 = .ok (.iconst 0, 1) := by decide +kernel
theorem dX5_judge_24 : decode cX5_judge 24 = .ok (.ireturn, 1) := by decide +kernel
theorem dX5_judge_25 : decode cX5_judge 25 = .ok (.aload_n 0, 1) := by decide +kernel
theorem dX5_judge_26 : decode cX5_judge 26 = .ok (.iload_n 1, 1) := by decide +kernel
theorem dX5_judge_27 : decode cX5_judge 27 = .ok (.putfield 52, 3) := by decide +kernel
theorem dX5_judge_30 : decode cX5_judge 30 = .ok (.iconst 0, 1) := by decide +kernel
theorem dX5_judge_31 : decode cX5_judge 31 = .ok (.istore_n 2, 1) := by decide +kernel
theorem dX5_judge_32 : decode cX5_judge 32 = .ok (.iload_n 2, 1) := by decide +kernel
theorem dX5_judge_33 : decode cX5_judge 33 = .ok (.aload_n 0, 1) := by decide +kernel
theorem dX5_judge_34 : decode cX5_judge 34 = .ok (.getfield 13, 3) := by decide +kernel
theorem dX5_judge_37 : decode cX5_judge 37 = .ok (.iload_n 1, 1) := by decide +kernel
theorem dX5_judge_38 : decode cX5_judge 38 = .ok (.iaload, 1) := by decide +kernel
theorem dX5_judge_39 : decode cX5_judge 39 = .ok (.if_icmp .ge 21, 3) := by decide +kernel
theorem dX5_judge_42 : decode cX5_judge 42 = .ok (.aload_n 0, 1) := by decide +kernel
theorem dX5_judge_43 : decode cX5_judge 43 = .ok (.getfield 56, 3) := by decide +kernel
theorem dX5_judge_46 : decode cX5_judge 46 = .ok (.iload_n 2, 1) := by decide +kernel
theorem dX5_judge_47 : decode cX5_judge 47 = .ok (.aload_n 0, 1) := by decide +kernel
theorem dX5_judge_48 : decode cX5_judge 48 = .ok (.getfield 43, 3) := by decide +kernel
theorem dX5_judge_51 : decode cX5_judge 51 = .ok (.iload_n 2, 1) := by decide +kernel
theorem dX5_judge_52 : decode cX5_judge 52 = .ok (.iaload, 1) := by decide +kernel
theorem dX5_judge_53 : decode cX5_judge 53 = .ok (.iastore, 1) := by decide +kernel
theorem dX5_judge_54 : decode cX5_judge 54 = .ok (.iinc 2 1, 3) := by decide +kernel
theorem dX5_judge_57 : decode cX5_judge 57 = .ok (.goto (-25), 3) := by decide +kernel
theorem dX5_judge_60 : decode cX5_judge 60 = .ok (.iconst 1, 1) := by decide +kernel
theorem dX5_judge_61 : decode cX5_judge 61 = .ok (.ireturn, 1) := by decide +kernel
theorem dX5_layer_0 : decode cX5_layer 0 = .ok (.aload_n 0, 1) := by decide +kernel
theorem dX5_layer_1 : decode cX5_layer 1 = .ok (.getfield 52, 3) := by decide +kernel
theorem dX5_layer_4 : decode cX5_layer 4 = .ok (.iconst (-1), 1) := by decide +kernel
theorem dX5_layer_5 : decode cX5_layer 5 = .ok (.if_icmp .ne 8, 3) := by decide +kernel
theorem dX5_layer_8 : decode cX5_layer 8 = .ok (.bipush (-103), 2) := by decide +kernel
theorem dX5_layer_10 : decode cX5_layer 10 = .ok (.goto 31, 3) := by decide +kernel
theorem dX5_layer_13 : decode cX5_layer 13 = .ok (.iload_n 1, 1) := by decide +kernel
theorem dX5_layer_14 : decode cX5_layer 14 = .ok (.ifCond .lt 16, 3) := by decide +kernel
theorem dX5_layer_17 : decode cX5_layer 17 = .ok (.iload_n 1, 1) := by decide +kernel
theorem dX5_layer_18 : decode cX5_layer 18 = .ok (.aload_n 0, 1) := by decide +kernel
theorem dX5_layer_19 : decode cX5_layer 19 = .ok (.getfield 13, 3) := by decide +kernel
theorem dX5_layer_22 : decode cX5_layer 22 = .ok (.aload_n 0, 1) := by decide +kernel
theorem dX5_layer_23 : decode cX5_layer 23 = .ok (.getfield 52, 3) := by decide +kernel
theorem dX5_layer_26 : decode cX5_layer 26 = .ok (.iaload, 1) := by decide +kernel
theorem dX5_layer_27 : decode cX5_layer 27 = .ok (.if_icmp .lt 8, 3) := by decide +kernel
theorem dX5_layer_30 : decode cX5_layer 30 = .ok (.bipush (-102), 2) := by decide +kernel
theorem dX5_layer_32 : decode cX5_layer 32 = .ok (.goto 9, 3) := by decide +kernel
theorem dX5_layer_35 : decode cX5_layer 35 = .ok (.aload_n 0, 1) := by decide +kernel
theorem dX5_layer_36 : decode cX5_layer 36 = .ok (.getfield 56, 3) := by decide +kernel
theorem dX5_layer_39 : decode cX5_layer 39 = .ok (.iload_n 1, 1) := by decide +kernel
theorem dX5_layer_40 : decode cX5_layer 40 = .ok (.iaload, 1) := by decide +kernel
theorem dX5_layer_41 : decode cX5_layer 41 = .ok (.ireturn, 1) := by decide +kernel
theorem dX5_turned_0 : decode cX5_turned 0 = .ok (.aload_n 0, 1) := by decide +kernel
theorem dX5_turned_1 : decode cX5_turned 1 = .ok (.getfield 52, 3) := by decide +kernel
theorem dX5_turned_4 : decode cX5_turned 4 = .ok (.iconst (-1), 1) := by decide +kernel
theorem dX5_turned_5 : decode cX5_turned 5 = .ok (.if_icmp .ne 6, 3) := by decide +kernel
theorem dX5_turned_8 : decode cX5_turned 8 = .ok (.bipush (-103), 2) := by decide +kernel
theorem dX5_turned_10 : decode cX5_turned 10 = .ok (.ireturn, 1) := by decide +kernel
theorem dX5_turned_11 : decode cX5_turned 11 = .ok (.aload_n 0, 1) := by decide +kernel
theorem dX5_turned_12 : decode cX5_turned 12 = .ok (.aload_n 0, 1) := by decide +kernel
theorem dX5_turned_13 : decode cX5_turned 13 = .ok (.getfield 52, 3) := by decide +kernel
theorem dX5_turned_16 : decode cX5_turned 16 = .ok (.iload_n 1, 1) := by decide +kernel
theorem dX5_turned_17 : decode cX5_turned 17 = .ok (.invokevirtual 101, 3) := by decide +kernel
theorem dX5_turned_20 : decode cX5_turned 20 = .ok (.ifCond .ne 6, 3) := by decide +kernel
theorem dX5_turned_23 : decode cX5_turned 23 = .ok (.bipush (-101), 2) := by decide +kernel
theorem dX5_turned_25 : decode cX5_turned 25 = .ok (.ireturn, 1) := by decide +kernel
theorem dX5_turned_26 : decode cX5_turned 26 = .ok (.aload_n 0, 1) := by decide +kernel
theorem dX5_turned_27 : decode cX5_turned 27 = .ok (.aload_n 0, 1) := by decide +kernel
theorem dX5_turned_28 : decode cX5_turned 28 = .ok (.getfield 52, 3) := by decide +kernel
theorem dX5_turned_31 : decode cX5_turned 31 = .ok (.putfield 117, 3) := by decide +kernel
theorem dX5_turned_34 : decode cX5_turned 34 = .ok (.iconst 0, 1) := by decide +kernel
theorem dX5_turned_35 : decode cX5_turned 35 = .ok (.istore_n 2, 1) := by decide +kernel
theorem dX5_turned_36 : decode cX5_turned 36 = .ok (.iload_n 2, 1) := by decide +kernel
theorem dX5_turned_37 : decode cX5_turned 37 = .ok (.aload_n 0, 1) := by decide +kernel
theorem dX5_turned_38 : decode cX5_turned 38 = .ok (.getfield 13, 3) := by decide +kernel
theorem dX5_turned_41 : decode cX5_turned 41 = .ok (.aload_n 0, 1) := by decide +kernel
theorem dX5_turned_42 : decode cX5_turned 42 = .ok (.getfield 117, 3) := by decide +kernel
theorem dX5_turned_45 : decode cX5_turned 45 = .ok (.iaload, 1) := by decide +kernel
theorem dX5_turned_46 : decode cX5_turned 46 = .ok (.if_icmp .ge 21, 3) := by decide +kernel
theorem dX5_turned_49 : decode cX5_turned 49 = .ok (.aload_n 0, 1) := by decide +kernel
theorem dX5_turned_50 : decode cX5_turned 50 = .ok (.getfield 46, 3) := by decide +kernel
theorem dX5_turned_53 : decode cX5_turned 53 = .ok (.aload_n 0, 1) := by decide +kernel
theorem dX5_turned_54 : decode cX5_turned 54 = .ok (.getfield 56, 3) := by decide +kernel
theorem dX5_turned_57 : decode cX5_turned 57 = .ok (.iload_n 2, 1) := by decide +kernel
theorem dX5_turned_58 : decode cX5_turned 58 = .ok (.iaload, 1) := by decide +kernel
theorem dX5_turned_59 : decode cX5_turned 59 = .ok (.iload_n 2, 1) := by decide +kernel
theorem dX5_turned_60 : decode cX5_turned 60 = .ok (.iastore, 1) := by decide +kernel
theorem dX5_turned_61 : decode cX5_turned 61 = .ok (.iinc 2 1, 3) := by decide +kernel
theorem dX5_turned_64 : decode cX5_turned 64 = .ok (.goto (-28), 3) := by decide +kernel
theorem dX5_turned_67 : decode cX5_turned 67 = .ok (.aload_n 0, 1) := by decide +kernel
theorem dX5_turned_68 : decode cX5_turned 68 = .ok (.iload_n 1, 1) := by decide +kernel
theorem dX5_turned_69 : decode cX5_turned 69 = .ok (.invokevirtual 143, 3) := by decide +kernel
theorem dX5_turned_72 : decode cX5_turned 72 = .ok (.ireturn, 1) := by decide +kernel
theorem dX5_orders_0 : decode cX5_orders 0 = .ok (.aload_n 0, 1) := by decide +kernel
theorem dX5_orders_1 : decode cX5_orders 1 = .ok (.iload_n 1, 1) := by decide +kernel
theorem dX5_orders_2 : decode cX5_orders 2 = .ok (.invokevirtual 85, 3) := by decide +kernel
theorem dX5_orders_5 : decode cX5_orders 5 = .ok (.ifCond .ne 6, 3) := by decide +kernel
theorem dX5_orders_8 : decode cX5_orders 8 = .ok (.bipush (-101), 2) := by decide +kernel
theorem dX5_orders_10 : decode cX5_orders 10 = .ok (.ireturn, 1) := by decide +kernel
theorem dX5_orders_11 : decode cX5_orders 11 = .ok (.aload_n 0, 1) := by decide +kernel
theorem dX5_orders_12 : decode cX5_orders 12 = .ok (.iload_n 1, 1) := by decide +kernel
theorem dX5_orders_13 : decode cX5_orders 13 = .ok (.invokevirtual 157, 3) := by decide +kernel
theorem dX5_orders_16 : decode cX5_orders 16 = .ok (.iconst 0, 1) := by decide +kernel
theorem dX5_orders_17 : decode cX5_orders 17 = .ok (.istore_n 2, 1) := by decide +kernel
theorem dX5_orders_18 : decode cX5_orders 18 = .ok (.aload_n 0, 1) := by decide +kernel
theorem dX5_orders_19 : decode cX5_orders 19 = .ok (.invokevirtual 161, 3) := by decide +kernel
theorem dX5_orders_22 : decode cX5_orders 22 = .ok (.ifCond .eq 9, 3) := by decide +kernel
theorem dX5_orders_25 : decode cX5_orders 25 = .ok (.iinc 2 1, 3) := by decide +kernel
theorem dX5_orders_28 : decode cX5_orders 28 = .ok (.goto (-10), 3) := by decide +kernel
theorem dX5_orders_31 : decode cX5_orders 31 = .ok (.iload_n 2, 1) := by decide +kernel
theorem dX5_orders_32 : decode cX5_orders 32 = .ok (.ireturn, 1) := by decide +kernel
theorem dX5_order_0 : decode cX5_order 0 = .ok (.aload_n 0, 1) := by decide +kernel
theorem dX5_order_1 : decode cX5_order 1 = .ok (.iload_n 1, 1) := by decide +kernel
theorem dX5_order_2 : decode cX5_order 2 = .ok (.invokevirtual 85, 3) := by decide +kernel
theorem dX5_order_5 : decode cX5_order 5 = .ok (.ifCond .ne 7, 3) := by decide +kernel
theorem dX5_order_8 : decode cX5_order 8 = .ok (.ldc2_w 165, 3) := by decide +kernel
theorem dX5_order_11 : decode cX5_order 11 = .ok (.lreturn, 1) := by decide +kernel
theorem dX5_order_12 : decode cX5_order 12 = .ok (.aload_n 0, 1) := by decide +kernel
theorem dX5_order_13 : decode cX5_order 13 = .ok (.iload_n 1, 1) := by decide +kernel
theorem dX5_order_14 : decode cX5_order 14 = .ok (.invokevirtual 157, 3) := by decide +kernel
theorem dX5_order_17 : decode cX5_order 17 = .ok (.iconst 0, 1) := by decide +kernel
theorem dX5_order_18 : decode cX5_order 18 = .ok (.istore_n 3, 1) := by decide +kernel
theorem dX5_order_19 : decode cX5_order 19 = .ok (.iload_n 2, 1) := by decide +kernel
theorem dX5_order_20 : decode cX5_order 20 = .ok (.ifCond .lt 26, 3) := by decide +kernel
theorem dX5_order_23 : decode cX5_order 23 = .ok (.aload_n 0, 1) := by decide +kernel
theorem dX5_order_24 : decode cX5_order 24 = .ok (.invokevirtual 161, 3) := by decide +kernel
theorem dX5_order_27 : decode cX5_order 27 = .ok (.ifCond .eq 19, 3) := by decide +kernel
theorem dX5_order_30 : decode cX5_order 30 = .ok (.iload_n 3, 1) := by decide +kernel
theorem dX5_order_31 : decode cX5_order 31 = .ok (.iload_n 2, 1) := by decide +kernel
theorem dX5_order_32 : decode cX5_order 32 = .ok (.if_icmp .ne 8, 3) := by decide +kernel
theorem dX5_order_35 : decode cX5_order 35 = .ok (.aload_n 0, 1) := by decide +kernel
theorem dX5_order_36 : decode cX5_order 36 = .ok (.invokevirtual 167, 3) := by decide +kernel
theorem dX5_order_39 : decode cX5_order 39 = .ok (.lreturn, 1) := by decide +kernel
theorem dX5_order_40 : decode cX5_order 40 = .ok (.iinc 3 1, 3) := by decide +kernel
theorem dX5_order_43 : decode cX5_order 43 = .ok (.goto (-24), 3) := by decide +kernel
theorem dX5_order_46 : decode cX5_order 46 = .ok (.ldc2_w 171, 3) := by decide +kernel
theorem dX5_order_49 : decode cX5_order 49 = .ok (.lreturn, 1) := by decide +kernel
theorem dX5_check_0 : decode cX5_check 0 = .ok (.aload_n 0, 1) := by decide +kernel
theorem dX5_check_1 : decode cX5_check 1 = .ok (.iload_n 1, 1) := by decide +kernel
theorem dX5_check_2 : decode cX5_check 2 = .ok (.invokevirtual 85, 3) := by decide +kernel
theorem dX5_check_5 : decode cX5_check 5 = .ok (.ifCond .ne 6, 3) := by decide +kernel
theorem dX5_check_8 : decode cX5_check 8 = .ok (.bipush (-101), 2) := by decide +kernel
theorem dX5_check_10 : decode cX5_check 10 = .ok (.ireturn, 1) := by decide +kernel
theorem dX5_check_11 : decode cX5_check 11 = .ok (.aload_n 0, 1) := by decide +kernel
theorem dX5_check_12 : decode cX5_check 12 = .ok (.iload_n 1, 1) := by decide +kernel
theorem dX5_check_13 : decode cX5_check 13 = .ok (.invokevirtual 157, 3) := by decide +kernel
theorem dX5_check_16 : decode cX5_check 16 = .ok (.lload_n 2, 1) := by decide +kernel
theorem dX5_check_17 : decode cX5_check 17 = .ok (.lstore 4, 2) := by decide +kernel
theorem dX5_check_19 : decode cX5_check 19 = .ok (.iconst 0, 1) := by decide +kernel
theorem dX5_check_20 : decode cX5_check 20 = .ok (.istore 6, 2) := by decide +kernel
theorem dX5_check_22 : decode cX5_check 22 = .ok (.iload 6, 2) := by decide +kernel
theorem dX5_check_24 : decode cX5_check 24 = .ok (.aload_n 0, 1) := by decide +kernel
theorem dX5_check_25 : decode cX5_check 25 = .ok (.getfield 13, 3) := by decide +kernel
theorem dX5_check_28 : decode cX5_check 28 = .ok (.iload_n 1, 1) := by decide +kernel
theorem dX5_check_29 : decode cX5_check 29 = .ok (.iaload, 1) := by decide +kernel
theorem dX5_check_30 : decode cX5_check 30 = .ok (.if_icmp .ge 67, 3) := by decide +kernel
theorem dX5_check_33 : decode cX5_check 33 = .ok (.lload 4, 2) := by decide +kernel
theorem dX5_check_35 : decode cX5_check 35 = .ok (.ldc2_w 155, 3) := by decide +kernel
theorem dX5_check_38 : decode cX5_check 38 = .ok (.lrem, 1) := by decide +kernel
theorem dX5_check_39 : decode cX5_check 39 = .ok (.l2i, 1) := by decide +kernel
theorem dX5_check_40 : decode cX5_check 40 = .ok (.istore 7, 2) := by decide +kernel
theorem dX5_check_42 : decode cX5_check 42 = .ok (.lload 4, 2) := by decide +kernel
theorem dX5_check_44 : decode cX5_check 44 = .ok (.lconst 0, 1) := by decide +kernel
theorem dX5_check_45 : decode cX5_check 45 = .ok (.lcmp, 1) := by decide +kernel
theorem dX5_check_46 : decode cX5_check 46 = .ok (.ifCond .lt 25, 3) := by decide +kernel
theorem dX5_check_49 : decode cX5_check 49 = .ok (.iload 7, 2) := by decide +kernel
theorem dX5_check_51 : decode cX5_check 51 = .ok (.aload_n 0, 1) := by decide +kernel
theorem dX5_check_52 : decode cX5_check 52 = .ok (.getfield 13, 3) := by decide +kernel
theorem dX5_check_55 : decode cX5_check 55 = .ok (.iload_n 1, 1) := by decide +kernel
theorem dX5_check_56 : decode cX5_check 56 = .ok (.iaload, 1) := by decide +kernel
theorem dX5_check_57 : decode cX5_check 57 = .ok (.if_icmp .ge 14, 3) := by decide +kernel
theorem dX5_check_60 : decode cX5_check 60 = .ok (.aload_n 0, 1) := by decide +kernel
theorem dX5_check_61 : decode cX5_check 61 = .ok (.getfield 46, 3) := by decide +kernel
theorem dX5_check_64 : decode cX5_check 64 = .ok (.iload 7, 2) := by decide +kernel
theorem dX5_check_66 : decode cX5_check 66 = .ok (.iaload, 1) := by decide +kernel
theorem dX5_check_67 : decode cX5_check 67 = .ok (.iconst (-1), 1) := by decide +kernel
theorem dX5_check_68 : decode cX5_check 68 = .ok (.if_icmp .eq 6, 3) := by decide +kernel
theorem dX5_check_71 : decode cX5_check 71 = .ok (.bipush (-102), 2) := by decide +kernel
theorem dX5_check_73 : decode cX5_check 73 = .ok (.ireturn, 1) := by decide +kernel
theorem dX5_check_74 : decode cX5_check 74 = .ok (.aload_n 0, 1) := by decide +kernel
theorem dX5_check_75 : decode cX5_check 75 = .ok (.getfield 46, 3) := by decide +kernel
theorem dX5_check_78 : decode cX5_check 78 = .ok (.iload 7, 2) := by decide +kernel
theorem dX5_check_80 : decode cX5_check 80 = .ok (.iload 6, 2) := by decide +kernel
theorem dX5_check_82 : decode cX5_check 82 = .ok (.iastore, 1) := by decide +kernel
theorem dX5_check_83 : decode cX5_check 83 = .ok (.lload 4, 2) := by decide +kernel
theorem dX5_check_85 : decode cX5_check 85 = .ok (.ldc2_w 155, 3) := by decide +kernel
theorem dX5_check_88 : decode cX5_check 88 = .ok (.ldiv, 1) := by decide +kernel
theorem dX5_check_89 : decode cX5_check 89 = .ok (.lstore 4, 2) := by decide +kernel
theorem dX5_check_91 : decode cX5_check 91 = .ok (.iinc 6 1, 3) := by decide +kernel
theorem dX5_check_94 : decode cX5_check 94 = .ok (.goto (-72), 3) := by decide +kernel
theorem dX5_check_97 : decode cX5_check 97 = .ok (.lload 4, 2) := by decide +kernel
theorem dX5_check_99 : decode cX5_check 99 = .ok (.lconst 0, 1) := by decide +kernel
theorem dX5_check_100 : decode cX5_check 100 = .ok (.lcmp, 1) := by decide +kernel
theorem dX5_check_101 : decode cX5_check 101 = .ok (.ifCond .eq 6, 3) := by decide +kernel
theorem dX5_check_104 : decode cX5_check 104 = .ok (.bipush (-102), 2) := by decide +kernel
theorem dX5_check_106 : decode cX5_check 106 = .ok (.ireturn, 1) := by decide +kernel
theorem dX5_check_107 : decode cX5_check 107 = .ok (.aload_n 0, 1) := by decide +kernel
theorem dX5_check_108 : decode cX5_check 108 = .ok (.getfield 7, 3) := by decide +kernel
theorem dX5_check_111 : decode cX5_check 111 = .ok (.iload_n 1, 1) := by decide +kernel
theorem dX5_check_112 : decode cX5_check 112 = .ok (.iaload, 1) := by decide +kernel
theorem dX5_check_113 : decode cX5_check 113 = .ok (.iconst 1, 1) := by decide +kernel
theorem dX5_check_114 : decode cX5_check 114 = .ok (.if_icmp .ne 26, 3) := by decide +kernel
theorem dX5_check_117 : decode cX5_check 117 = .ok (.aload_n 0, 1) := by decide +kernel
theorem dX5_check_118 : decode cX5_check 118 = .ok (.getfield 13, 3) := by decide +kernel
theorem dX5_check_121 : decode cX5_check 121 = .ok (.iload_n 1, 1) := by decide +kernel
theorem dX5_check_122 : decode cX5_check 122 = .ok (.iaload, 1) := by decide +kernel
theorem dX5_check_123 : decode cX5_check 123 = .ok (.iconst 2, 1) := by decide +kernel
theorem dX5_check_124 : decode cX5_check 124 = .ok (.irem, 1) := by decide +kernel
theorem dX5_check_125 : decode cX5_check 125 = .ok (.iconst 1, 1) := by decide +kernel
theorem dX5_check_126 : decode cX5_check 126 = .ok (.if_icmp .eq 11, 3) := by decide +kernel
theorem dX5_check_129 : decode cX5_check 129 = .ok (.aload_n 0, 1) := by decide +kernel
theorem dX5_check_130 : decode cX5_check 130 = .ok (.iload_n 1, 1) := by decide +kernel
theorem dX5_check_131 : decode cX5_check 131 = .ok (.invokevirtual 107, 3) := by decide +kernel
theorem dX5_check_134 : decode cX5_check 134 = .ok (.ifCond .eq 6, 3) := by decide +kernel
theorem dX5_check_137 : decode cX5_check 137 = .ok (.ldc 173, 2) := by decide +kernel
theorem dX5_check_139 : decode cX5_check 139 = .ok (.ireturn, 1) := by decide +kernel
theorem dX5_check_140 : decode cX5_check 140 = .ok (.iconst 0, 1) := by decide +kernel
theorem dX5_check_141 : decode cX5_check 141 = .ok (.istore 6, 2) := by decide +kernel
theorem dX5_check_143 : decode cX5_check 143 = .ok (.iload 6, 2) := by decide +kernel
theorem dX5_check_145 : decode cX5_check 145 = .ok (.aload_n 0, 1) := by decide +kernel
theorem dX5_check_146 : decode cX5_check 146 = .ok (.getfield 22, 3) := by decide +kernel
theorem dX5_check_149 : decode cX5_check 149 = .ok (.iload_n 1, 1) := by decide +kernel
theorem dX5_check_150 : decode cX5_check 150 = .ok (.iaload, 1) := by decide +kernel
theorem dX5_check_151 : decode cX5_check 151 = .ok (.if_icmp .ge 49, 3) := by decide +kernel
theorem dX5_check_154 : decode cX5_check 154 = .ok (.aload_n 0, 1) := by decide +kernel
theorem dX5_check_155 : decode cX5_check 155 = .ok (.getfield 34, 3) := by decide +kernel
theorem dX5_check_158 : decode cX5_check 158 = .ok (.bipush 12, 2) := by decide +kernel
theorem dX5_check_160 : decode cX5_check 160 = .ok (.iload_n 1, 1) := by decide +kernel
theorem dX5_check_161 : decode cX5_check 161 = .ok (.imul, 1) := by decide +kernel
theorem dX5_check_162 : decode cX5_check 162 = .ok (.iload 6, 2) := by decide +kernel
theorem dX5_check_164 : decode cX5_check 164 = .ok (.iadd, 1) := by decide +kernel
theorem dX5_check_165 : decode cX5_check 165 = .ok (.iaload, 1) := by decide +kernel
theorem dX5_check_166 : decode cX5_check 166 = .ok (.istore 7, 2) := by decide +kernel
theorem dX5_check_168 : decode cX5_check 168 = .ok (.iload 7, 2) := by decide +kernel
theorem dX5_check_170 : decode cX5_check 170 = .ok (.ifCond .eq 24, 3) := by decide +kernel
theorem dX5_check_173 : decode cX5_check 173 = .ok (.iload 7, 2) := by decide +kernel
theorem dX5_check_175 : decode cX5_check 175 = .ok (.aload_n 0, 1) := by decide +kernel
theorem dX5_check_176 : decode cX5_check 176 = .ok (.iload 6, 2) := by decide +kernel
theorem dX5_check_178 : decode cX5_check 178 = .ok (.invokevirtual 143, 3) := by decide +kernel
theorem dX5_check_181 : decode cX5_check 181 = .ok (.if_icmp .eq 13, 3) := by decide +kernel
theorem dX5_check_184 : decode cX5_check 184 = .ok (.sipush 10000, 3) := by decide +kernel
theorem dX5_check_187 : decode cX5_check 187 = .ok (.bipush 100, 2) := by decide +kernel
theorem dX5_check_189 : decode cX5_check 189 = .ok (.iload 6, 2) := by decide +kernel
theorem dX5_check_191 : decode cX5_check 191 = .ok (.imul, 1) := by decide +kernel
theorem dX5_check_192 : decode cX5_check 192 = .ok (.iadd, 1) := by decide +kernel
theorem dX5_check_193 : decode cX5_check 193 = .ok (.ireturn, 1) := by decide +kernel
theorem dX5_check_194 : decode cX5_check 194 = .ok (.iinc 6 1, 3) := by decide +kernel
theorem dX5_check_197 : decode cX5_check 197 = .ok (.goto (-54), 3) := by decide +kernel
theorem dX5_check_200 : decode cX5_check 200 = .ok (.iconst 0, 1) := by decide +kernel
theorem dX5_check_201 : decode cX5_check 201 = .ok (.istore 6, 2) := by decide +kernel
theorem dX5_check_203 : decode cX5_check 203 = .ok (.iload 6, 2) := by decide +kernel
theorem dX5_check_205 : decode cX5_check 205 = .ok (.aload_n 0, 1) := by decide +kernel
theorem dX5_check_206 : decode cX5_check 206 = .ok (.getfield 22, 3) := by decide +kernel
theorem dX5_check_209 : decode cX5_check 209 = .ok (.iload_n 1, 1) := by decide +kernel
theorem dX5_check_210 : decode cX5_check 210 = .ok (.iaload, 1) := by decide +kernel
theorem dX5_check_211 : decode cX5_check 211 = .ok (.if_icmp .ge 103, 3) := by decide +kernel
theorem dX5_check_214 : decode cX5_check 214 = .ok (.iconst 0, 1) := by decide +kernel
theorem dX5_check_215 : decode cX5_check 215 = .ok (.istore 7, 2) := by decide +kernel
theorem dX5_check_217 : decode cX5_check 217 = .ok (.iload 7, 2) := by decide +kernel
theorem dX5_check_219 : decode cX5_check 219 = .ok (.aload_n 0, 1) := by decide +kernel
theorem dX5_check_220 : decode cX5_check 220 = .ok (.getfield 13, 3) := by decide +kernel
theorem dX5_check_223 : decode cX5_check 223 = .ok (.iload_n 1, 1) := by decide +kernel
theorem dX5_check_224 : decode cX5_check 224 = .ok (.iaload, 1) := by decide +kernel
theorem dX5_check_225 : decode cX5_check 225 = .ok (.if_icmp .ge 83, 3) := by decide +kernel
theorem dX5_check_228 : decode cX5_check 228 = .ok (.iload 7, 2) := by decide +kernel
theorem dX5_check_230 : decode cX5_check 230 = .ok (.aload_n 0, 1) := by decide +kernel
theorem dX5_check_231 : decode cX5_check 231 = .ok (.getfield 28, 3) := by decide +kernel
theorem dX5_check_234 : decode cX5_check 234 = .ok (.bipush 12, 2) := by decide +kernel
theorem dX5_check_236 : decode cX5_check 236 = .ok (.iload_n 1, 1) := by decide +kernel
theorem dX5_check_237 : decode cX5_check 237 = .ok (.imul, 1) := by decide +kernel
theorem dX5_check_238 : decode cX5_check 238 = .ok (.iload 6, 2) := by decide +kernel
theorem dX5_check_240 : decode cX5_check 240 = .ok (.iadd, 1) := by decide +kernel
theorem dX5_check_241 : decode cX5_check 241 = .ok (.iaload, 1) := by decide +kernel
theorem dX5_check_242 : decode cX5_check 242 = .ok (.if_icmp .eq 60, 3) := by decide +kernel
theorem dX5_check_245 : decode cX5_check 245 = .ok (.iload 7, 2) := by decide +kernel
theorem dX5_check_247 : decode cX5_check 247 = .ok (.aload_n 0, 1) := by decide +kernel
theorem dX5_check_248 : decode cX5_check 248 = .ok (.getfield 31, 3) := by decide +kernel
theorem dX5_check_251 : decode cX5_check 251 = .ok (.bipush 12, 2) := by decide +kernel
theorem dX5_check_253 : decode cX5_check 253 = .ok (.iload_n 1, 1) := by decide +kernel
theorem dX5_check_254 : decode cX5_check 254 = .ok (.imul, 1) := by decide +kernel
theorem dX5_check_255 : decode cX5_check 255 = .ok (.iload 6, 2) := by decide +kernel
theorem dX5_check_257 : decode cX5_check 257 = .ok (.iadd, 1) := by decide +kernel
theorem dX5_check_258 : decode cX5_check 258 = .ok (.iaload, 1) := by decide +kernel
theorem dX5_check_259 : decode cX5_check 259 = .ok (.if_icmp .eq 43, 3) := by decide +kernel
theorem dX5_check_262 : decode cX5_check 262 = .ok (.aload_n 0, 1) := by decide +kernel
theorem dX5_check_263 : decode cX5_check 263 = .ok (.iload 6, 2) := by decide +kernel
theorem dX5_check_265 : decode cX5_check 265 = .ok (.iload 7, 2) := by decide +kernel
theorem dX5_check_267 : decode cX5_check 267 = .ok (.invokevirtual 174, 3) := by decide +kernel
theorem dX5_check_270 : decode cX5_check 270 = .ok (.ifCond .eq 32, 3) := by decide +kernel
theorem dX5_check_273 : decode cX5_check 273 = .ok (.aload_n 0, 1) := by decide +kernel
theorem dX5_check_274 : decode cX5_check 274 = .ok (.iload 7, 2) := by decide +kernel
theorem dX5_check_276 : decode cX5_check 276 = .ok (.aload_n 0, 1) := by decide +kernel
theorem dX5_check_277 : decode cX5_check 277 = .ok (.getfield 49, 3) := by decide +kernel
theorem dX5_check_280 : decode cX5_check 280 = .ok (.iload 6, 2) := by decide +kernel
theorem dX5_check_282 : decode cX5_check 282 = .ok (.iaload, 1) := by decide +kernel
theorem dX5_check_283 : decode cX5_check 283 = .ok (.invokevirtual 140, 3) := by decide +kernel
theorem dX5_check_286 : decode cX5_check 286 = .ok (.ifCond .eq 16, 3) := by decide +kernel
theorem dX5_check_289 : decode cX5_check 289 = .ok (.sipush 20000, 3) := by decide +kernel
theorem dX5_check_292 : decode cX5_check 292 = .ok (.bipush 100, 2) := by decide +kernel
theorem dX5_check_294 : decode cX5_check 294 = .ok (.iload 6, 2) := by decide +kernel
theorem dX5_check_296 : decode cX5_check 296 = .ok (.imul, 1) := by decide +kernel
theorem dX5_check_297 : decode cX5_check 297 = .ok (.iadd, 1) := by decide +kernel
theorem dX5_check_298 : decode cX5_check 298 = .ok (.iload 7, 2) := by decide +kernel
theorem dX5_check_300 : decode cX5_check 300 = .ok (.iadd, 1) := by decide +kernel
theorem dX5_check_301 : decode cX5_check 301 = .ok (.ireturn, 1) := by decide +kernel
theorem dX5_check_302 : decode cX5_check 302 = .ok (.iinc 7 1, 3) := by decide +kernel
theorem dX5_check_305 : decode cX5_check 305 = .ok (.goto (-88), 3) := by decide +kernel
theorem dX5_check_308 : decode cX5_check 308 = .ok (.iinc 6 1, 3) := by decide +kernel
theorem dX5_check_311 : decode cX5_check 311 = .ok (.goto (-108), 3) := by decide +kernel
theorem dX5_check_314 : decode cX5_check 314 = .ok (.iconst 0, 1) := by decide +kernel
theorem dX5_check_315 : decode cX5_check 315 = .ok (.istore 6, 2) := by decide +kernel
theorem dX5_check_317 : decode cX5_check 317 = .ok (.iload 6, 2) := by decide +kernel
theorem dX5_check_319 : decode cX5_check 319 = .ok (.aload_n 0, 1) := by decide +kernel
theorem dX5_check_320 : decode cX5_check 320 = .ok (.getfield 22, 3) := by decide +kernel
theorem dX5_check_323 : decode cX5_check 323 = .ok (.iload_n 1, 1) := by decide +kernel
theorem dX5_check_324 : decode cX5_check 324 = .ok (.iaload, 1) := by decide +kernel
theorem dX5_check_325 : decode cX5_check 325 = .ok (.if_icmp .ge 106, 3) := by decide +kernel
theorem dX5_check_328 : decode cX5_check 328 = .ok (.iload 6, 2) := by decide +kernel
theorem dX5_check_330 : decode cX5_check 330 = .ok (.iconst 1, 1) := by decide +kernel
theorem dX5_check_331 : decode cX5_check 331 = .ok (.iadd, 1) := by decide +kernel
theorem dX5_check_332 : decode cX5_check 332 = .ok (.istore 7, 2) := by decide +kernel
theorem dX5_check_334 : decode cX5_check 334 = .ok (.iload 7, 2) := by decide +kernel
theorem dX5_check_336 : decode cX5_check 336 = .ok (.aload_n 0, 1) := by decide +kernel
theorem dX5_check_337 : decode cX5_check 337 = .ok (.getfield 22, 3) := by decide +kernel
theorem dX5_check_340 : decode cX5_check 340 = .ok (.iload_n 1, 1) := by decide +kernel
theorem dX5_check_341 : decode cX5_check 341 = .ok (.iaload, 1) := by decide +kernel
theorem dX5_check_342 : decode cX5_check 342 = .ok (.if_icmp .ge 83, 3) := by decide +kernel
theorem dX5_check_345 : decode cX5_check 345 = .ok (.aload_n 0, 1) := by decide +kernel
theorem dX5_check_346 : decode cX5_check 346 = .ok (.iload 6, 2) := by decide +kernel
theorem dX5_check_348 : decode cX5_check 348 = .ok (.iload 7, 2) := by decide +kernel
theorem dX5_check_350 : decode cX5_check 350 = .ok (.invokevirtual 146, 3) := by decide +kernel
theorem dX5_check_353 : decode cX5_check 353 = .ok (.ifCond .eq 66, 3) := by decide +kernel
theorem dX5_check_356 : decode cX5_check 356 = .ok (.aload_n 0, 1) := by decide +kernel
theorem dX5_check_357 : decode cX5_check 357 = .ok (.iload 6, 2) := by decide +kernel
theorem dX5_check_359 : decode cX5_check 359 = .ok (.iload 7, 2) := by decide +kernel
theorem dX5_check_361 : decode cX5_check 361 = .ok (.invokevirtual 149, 3) := by decide +kernel
theorem dX5_check_364 : decode cX5_check 364 = .ok (.ifCond .eq 55, 3) := by decide +kernel
theorem dX5_check_367 : decode cX5_check 367 = .ok (.aload_n 0, 1) := by decide +kernel
theorem dX5_check_368 : decode cX5_check 368 = .ok (.iload 6, 2) := by decide +kernel
theorem dX5_check_370 : decode cX5_check 370 = .ok (.aload_n 0, 1) := by decide +kernel
theorem dX5_check_371 : decode cX5_check 371 = .ok (.getfield 28, 3) := by decide +kernel
theorem dX5_check_374 : decode cX5_check 374 = .ok (.bipush 12, 2) := by decide +kernel
theorem dX5_check_376 : decode cX5_check 376 = .ok (.iload_n 1, 1) := by decide +kernel
theorem dX5_check_377 : decode cX5_check 377 = .ok (.imul, 1) := by decide +kernel
theorem dX5_check_378 : decode cX5_check 378 = .ok (.iload 7, 2) := by decide +kernel
theorem dX5_check_380 : decode cX5_check 380 = .ok (.iadd, 1) := by decide +kernel
theorem dX5_check_381 : decode cX5_check 381 = .ok (.iaload, 1) := by decide +kernel
theorem dX5_check_382 : decode cX5_check 382 = .ok (.invokevirtual 174, 3) := by decide +kernel
theorem dX5_check_385 : decode cX5_check 385 = .ok (.aload_n 0, 1) := by decide +kernel
theorem dX5_check_386 : decode cX5_check 386 = .ok (.iload 6, 2) := by decide +kernel
theorem dX5_check_388 : decode cX5_check 388 = .ok (.aload_n 0, 1) := by decide +kernel
theorem dX5_check_389 : decode cX5_check 389 = .ok (.getfield 31, 3) := by decide +kernel
theorem dX5_check_392 : decode cX5_check 392 = .ok (.bipush 12, 2) := by decide +kernel
theorem dX5_check_394 : decode cX5_check 394 = .ok (.iload_n 1, 1) := by decide +kernel
theorem dX5_check_395 : decode cX5_check 395 = .ok (.imul, 1) := by decide +kernel
theorem dX5_check_396 : decode cX5_check 396 = .ok (.iload 7, 2) := by decide +kernel
theorem dX5_check_398 : decode cX5_check 398 = .ok (.iadd, 1) := by decide +kernel
theorem dX5_check_399 : decode cX5_check 399 = .ok (.iaload, 1) := by decide +kernel
theorem dX5_check_400 : decode cX5_check 400 = .ok (.invokevirtual 174, 3) := by decide +kernel
theorem dX5_check_403 : decode cX5_check 403 = .ok (.if_icmp .eq 16, 3) := by decide +kernel
theorem dX5_check_406 : decode cX5_check 406 = .ok (.sipush 30000, 3) := by decide +kernel
theorem dX5_check_409 : decode cX5_check 409 = .ok (.bipush 100, 2) := by decide +kernel
theorem dX5_check_411 : decode cX5_check 411 = .ok (.iload 6, 2) := by decide +kernel
theorem dX5_check_413 : decode cX5_check 413 = .ok (.imul, 1) := by decide +kernel
theorem dX5_check_414 : decode cX5_check 414 = .ok (.iadd, 1) := by decide +kernel
theorem dX5_check_415 : decode cX5_check 415 = .ok (.iload 7, 2) := by decide +kernel
theorem dX5_check_417 : decode cX5_check 417 = .ok (.iadd, 1) := by decide +kernel
theorem dX5_check_418 : decode cX5_check 418 = .ok (.ireturn, 1) := by decide +kernel
theorem dX5_check_419 : decode cX5_check 419 = .ok (.iinc 7 1, 3) := by decide +kernel
theorem dX5_check_422 : decode cX5_check 422 = .ok (.goto (-88), 3) := by decide +kernel
theorem dX5_check_425 : decode cX5_check 425 = .ok (.iinc 6 1, 3) := by decide +kernel
theorem dX5_check_428 : decode cX5_check 428 = .ok (.goto (-111), 3) := by decide +kernel
theorem dX5_check_431 : decode cX5_check 431 = .ok (.iconst 0, 1) := by decide +kernel
theorem dX5_check_432 : decode cX5_check 432 = .ok (.ireturn, 1) := by decide +kernel
theorem dX5_isBetween_0 : decode cX5_isBetween 0 = .ok (.aload_n 0, 1) := by decide +kernel
theorem dX5_isBetween_1 : decode cX5_isBetween 1 = .ok (.getfield 46, 3) := by decide +kernel
theorem dX5_isBetween_4 : decode cX5_isBetween 4 = .ok (.aload_n 0, 1) := by decide +kernel
theorem dX5_isBetween_5 : decode cX5_isBetween 5 = .ok (.getfield 28, 3) := by decide +kernel
theorem dX5_isBetween_8 : decode cX5_isBetween 8 = .ok (.bipush 12, 2) := by decide +kernel
theorem dX5_isBetween_10 : decode cX5_isBetween 10 = .ok (.aload_n 0, 1) := by decide +kernel
theorem dX5_isBetween_11 : decode cX5_isBetween 11 = .ok (.getfield 117, 3) := by decide +kernel
theorem dX5_isBetween_14 : decode cX5_isBetween 14 = .ok (.imul, 1) := by decide +kernel
theorem dX5_isBetween_15 : decode cX5_isBetween 15 = .ok (.iload_n 1, 1) := by decide +kernel
theorem dX5_isBetween_16 : decode cX5_isBetween 16 = .ok (.iadd, 1) := by decide +kernel
theorem dX5_isBetween_17 : decode cX5_isBetween 17 = .ok (.iaload, 1) := by decide +kernel
theorem dX5_isBetween_18 : decode cX5_isBetween 18 = .ok (.iaload, 1) := by decide +kernel
theorem dX5_isBetween_19 : decode cX5_isBetween 19 = .ok (.istore_n 3, 1) := by decide +kernel
theorem dX5_isBetween_20 : decode cX5_isBetween 20 = .ok (.aload_n 0, 1) := by decide +kernel
theorem dX5_isBetween_21 : decode cX5_isBetween 21 = .ok (.getfield 46, 3) := by decide +kernel
theorem dX5_isBetween_24 : decode cX5_isBetween 24 = .ok (.aload_n 0, 1) := by decide +kernel
theorem dX5_isBetween_25 : decode cX5_isBetween 25 = .ok (.getfield 31, 3) := by decide +kernel
theorem dX5_isBetween_28 : decode cX5_isBetween 28 = .ok (.bipush 12, 2) := by decide +kernel
theorem dX5_isBetween_30 : decode cX5_isBetween 30 = .ok (.aload_n 0, 1) := by decide +kernel
theorem dX5_isBetween_31 : decode cX5_isBetween 31 = .ok (.getfield 117, 3) := by decide +kernel
theorem dX5_isBetween_34 : decode cX5_isBetween 34 = .ok (.imul, 1) := by decide +kernel
theorem dX5_isBetween_35 : decode cX5_isBetween 35 = .ok (.iload_n 1, 1) := by decide +kernel
theorem dX5_isBetween_36 : decode cX5_isBetween 36 = .ok (.iadd, 1) := by decide +kernel
theorem dX5_isBetween_37 : decode cX5_isBetween 37 = .ok (.iaload, 1) := by decide +kernel
theorem dX5_isBetween_38 : decode cX5_isBetween 38 = .ok (.iaload, 1) := by decide +kernel
theorem dX5_isBetween_39 : decode cX5_isBetween 39 = .ok (.istore 4, 2) := by decide +kernel
theorem dX5_isBetween_41 : decode cX5_isBetween 41 = .ok (.aload_n 0, 1) := by decide +kernel
theorem dX5_isBetween_42 : decode cX5_isBetween 42 = .ok (.getfield 46, 3) := by decide +kernel
theorem dX5_isBetween_45 : decode cX5_isBetween 45 = .ok (.iload_n 2, 1) := by decide +kernel
theorem dX5_isBetween_46 : decode cX5_isBetween 46 = .ok (.iaload, 1) := by decide +kernel
theorem dX5_isBetween_47 : decode cX5_isBetween 47 = .ok (.iload_n 3, 1) := by decide +kernel
theorem dX5_isBetween_48 : decode cX5_isBetween 48 = .ok (.iload 4, 2) := by decide +kernel
theorem dX5_isBetween_50 : decode cX5_isBetween 50 = .ok (.invokestatic 127, 3) := by decide +kernel
theorem dX5_isBetween_53 : decode cX5_isBetween 53 = .ok (.if_icmp .le 22, 3) := by decide +kernel
theorem dX5_isBetween_56 : decode cX5_isBetween 56 = .ok (.aload_n 0, 1) := by decide +kernel
theorem dX5_isBetween_57 : decode cX5_isBetween 57 = .ok (.getfield 46, 3) := by decide +kernel
theorem dX5_isBetween_60 : decode cX5_isBetween 60 = .ok (.iload_n 2, 1) := by decide +kernel
theorem dX5_isBetween_61 : decode cX5_isBetween 61 = .ok (.iaload, 1) := by decide +kernel
theorem dX5_isBetween_62 : decode cX5_isBetween 62 = .ok (.iload_n 3, 1) := by decide +kernel
theorem dX5_isBetween_63 : decode cX5_isBetween 63 = .ok (.iload 4, 2) := by decide +kernel
theorem dX5_isBetween_65 : decode cX5_isBetween 65 = .ok (.invokestatic 130, 3) := by decide +kernel
theorem dX5_isBetween_68 : decode cX5_isBetween 68 = .ok (.if_icmp .ge 7, 3) := by decide +kernel
theorem dX5_isBetween_71 : decode cX5_isBetween 71 = .ok (.iconst 1, 1) := by decide +kernel
theorem dX5_isBetween_72 : decode cX5_isBetween 72 = .ok (.goto 4, 3) := by decide +kernel
theorem dX5_isBetween_75 : decode cX5_isBetween 75 = .ok (.iconst 0, 1) := by decide +kernel
theorem dX5_isBetween_76 : decode cX5_isBetween 76 = .ok (.ireturn, 1) := by decide +kernel
theorem dX5_forced_0 : decode cX5_forced 0 = .ok (.aload_n 0, 1) := by decide +kernel
theorem dX5_forced_1 : decode cX5_forced 1 = .ok (.iload_n 1, 1) := by decide +kernel
theorem dX5_forced_2 : decode cX5_forced 2 = .ok (.iload_n 2, 1) := by decide +kernel
theorem dX5_forced_3 : decode cX5_forced 3 = .ok (.invokevirtual 101, 3) := by decide +kernel
theorem dX5_forced_6 : decode cX5_forced 6 = .ok (.ifCond .ne 6, 3) := by decide +kernel
theorem dX5_forced_9 : decode cX5_forced 9 = .ok (.bipush (-101), 2) := by decide +kernel
theorem dX5_forced_11 : decode cX5_forced 11 = .ok (.ireturn, 1) := by decide +kernel
theorem dX5_forced_12 : decode cX5_forced 12 = .ok (.aload_n 0, 1) := by decide +kernel
theorem dX5_forced_13 : decode cX5_forced 13 = .ok (.iload_n 1, 1) := by decide +kernel
theorem dX5_forced_14 : decode cX5_forced 14 = .ok (.invokevirtual 157, 3) := by decide +kernel
theorem dX5_forced_17 : decode cX5_forced 17 = .ok (.iconst 0, 1) := by decide +kernel
theorem dX5_forced_18 : decode cX5_forced 18 = .ok (.istore_n 3, 1) := by decide +kernel
theorem dX5_forced_19 : decode cX5_forced 19 = .ok (.iload_n 3, 1) := by decide +kernel
theorem dX5_forced_20 : decode cX5_forced 20 = .ok (.iconst 3, 1) := by decide +kernel
theorem dX5_forced_21 : decode cX5_forced 21 = .ok (.if_icmp .ge 21, 3) := by decide +kernel
theorem dX5_forced_24 : decode cX5_forced 24 = .ok (.aload_n 0, 1) := by decide +kernel
theorem dX5_forced_25 : decode cX5_forced 25 = .ok (.invokevirtual 161, 3) := by decide +kernel
theorem dX5_forced_28 : decode cX5_forced 28 = .ok (.ifCond .eq 14, 3) := by decide +kernel
theorem dX5_forced_31 : decode cX5_forced 31 = .ok (.iload_n 3, 1) := by decide +kernel
theorem dX5_forced_32 : decode cX5_forced 32 = .ok (.aload_n 0, 1) := by decide +kernel
theorem dX5_forced_33 : decode cX5_forced 33 = .ok (.iload_n 2, 1) := by decide +kernel
theorem dX5_forced_34 : decode cX5_forced 34 = .ok (.invokevirtual 143, 3) := by decide +kernel
theorem dX5_forced_37 : decode cX5_forced 37 = .ok (.ior, 1) := by decide +kernel
theorem dX5_forced_38 : decode cX5_forced 38 = .ok (.istore_n 3, 1) := by decide +kernel
theorem dX5_forced_39 : decode cX5_forced 39 = .ok (.goto (-20), 3) := by decide +kernel
theorem dX5_forced_42 : decode cX5_forced 42 = .ok (.iload_n 3, 1) := by decide +kernel
theorem dX5_forced_43 : decode cX5_forced 43 = .ok (.ireturn, 1) := by decide +kernel
theorem dX5_above_0 : decode cX5_above 0 = .ok (.aload_n 0, 1) := by decide +kernel
theorem dX5_above_1 : decode cX5_above 1 = .ok (.iload_n 1, 1) := by decide +kernel
theorem dX5_above_2 : decode cX5_above 2 = .ok (.iload_n 2, 1) := by decide +kernel
theorem dX5_above_3 : decode cX5_above 3 = .ok (.invokevirtual 97, 3) := by decide +kernel
theorem dX5_above_6 : decode cX5_above 6 = .ok (.ifCond .eq 12, 3) := by decide +kernel
theorem dX5_above_9 : decode cX5_above 9 = .ok (.aload_n 0, 1) := by decide +kernel
theorem dX5_above_10 : decode cX5_above 10 = .ok (.iload_n 1, 1) := by decide +kernel
theorem dX5_above_11 : decode cX5_above 11 = .ok (.iload_n 3, 1) := by decide +kernel
theorem dX5_above_12 : decode cX5_above 12 = .ok (.invokevirtual 97, 3) := by decide +kernel
theorem dX5_above_15 : decode cX5_above 15 = .ok (.ifCond .ne 6, 3) := by decide +kernel
theorem dX5_above_18 : decode cX5_above 18 = .ok (.bipush (-101), 2) := by decide +kernel
theorem dX5_above_20 : decode cX5_above 20 = .ok (.ireturn, 1) := by decide +kernel
theorem dX5_above_21 : decode cX5_above 21 = .ok (.iload_n 2, 1) := by decide +kernel
theorem dX5_above_22 : decode cX5_above 22 = .ok (.iload_n 3, 1) := by decide +kernel
theorem dX5_above_23 : decode cX5_above 23 = .ok (.if_icmp .ne 5, 3) := by decide +kernel
theorem dX5_above_26 : decode cX5_above 26 = .ok (.iconst 2, 1) := by decide +kernel
theorem dX5_above_27 : decode cX5_above 27 = .ok (.ireturn, 1) := by decide +kernel
theorem dX5_above_28 : decode cX5_above 28 = .ok (.aload_n 0, 1) := by decide +kernel
theorem dX5_above_29 : decode cX5_above 29 = .ok (.iload_n 1, 1) := by decide +kernel
theorem dX5_above_30 : decode cX5_above 30 = .ok (.invokevirtual 157, 3) := by decide +kernel
theorem dX5_above_33 : decode cX5_above 33 = .ok (.iconst 0, 1) := by decide +kernel
theorem dX5_above_34 : decode cX5_above 34 = .ok (.istore 4, 2) := by decide +kernel
theorem dX5_above_36 : decode cX5_above 36 = .ok (.iconst 0, 1) := by decide +kernel
theorem dX5_above_37 : decode cX5_above 37 = .ok (.istore 5, 2) := by decide +kernel
theorem dX5_above_39 : decode cX5_above 39 = .ok (.iload 4, 2) := by decide +kernel
theorem dX5_above_41 : decode cX5_above 41 = .ok (.ifCond .eq 8, 3) := by decide +kernel
theorem dX5_above_44 : decode cX5_above 44 = .ok (.iload 5, 2) := by decide +kernel
theorem dX5_above_46 : decode cX5_above 46 = .ok (.ifCond .ne 63, 3) := by decide +kernel
theorem dX5_above_49 : decode cX5_above 49 = .ok (.aload_n 0, 1) := by decide +kernel
theorem dX5_above_50 : decode cX5_above 50 = .ok (.invokevirtual 161, 3) := by decide +kernel
theorem dX5_above_53 : decode cX5_above 53 = .ok (.ifCond .eq 56, 3) := by decide +kernel
theorem dX5_above_56 : decode cX5_above 56 = .ok (.iload 4, 2) := by decide +kernel
theorem dX5_above_58 : decode cX5_above 58 = .ok (.aload_n 0, 1) := by decide +kernel
theorem dX5_above_59 : decode cX5_above 59 = .ok (.getfield 46, 3) := by decide +kernel
theorem dX5_above_62 : decode cX5_above 62 = .ok (.iload_n 2, 1) := by decide +kernel
theorem dX5_above_63 : decode cX5_above 63 = .ok (.iaload, 1) := by decide +kernel
theorem dX5_above_64 : decode cX5_above 64 = .ok (.aload_n 0, 1) := by decide +kernel
theorem dX5_above_65 : decode cX5_above 65 = .ok (.getfield 46, 3) := by decide +kernel
theorem dX5_above_68 : decode cX5_above 68 = .ok (.iload_n 3, 1) := by decide +kernel
theorem dX5_above_69 : decode cX5_above 69 = .ok (.iaload, 1) := by decide +kernel
theorem dX5_above_70 : decode cX5_above 70 = .ok (.if_icmp .le 7, 3) := by decide +kernel
theorem dX5_above_73 : decode cX5_above 73 = .ok (.iconst 1, 1) := by decide +kernel
theorem dX5_above_74 : decode cX5_above 74 = .ok (.goto 4, 3) := by decide +kernel
theorem dX5_above_77 : decode cX5_above 77 = .ok (.iconst 0, 1) := by decide +kernel
theorem dX5_above_78 : decode cX5_above 78 = .ok (.ior, 1) := by decide +kernel
theorem dX5_above_79 : decode cX5_above 79 = .ok (.istore 4, 2) := by decide +kernel
theorem dX5_above_81 : decode cX5_above 81 = .ok (.iload 5, 2) := by decide +kernel
theorem dX5_above_83 : decode cX5_above 83 = .ok (.aload_n 0, 1) := by decide +kernel
theorem dX5_above_84 : decode cX5_above 84 = .ok (.getfield 46, 3) := by decide +kernel
theorem dX5_above_87 : decode cX5_above 87 = .ok (.iload_n 2, 1) := by decide +kernel
theorem dX5_above_88 : decode cX5_above 88 = .ok (.iaload, 1) := by decide +kernel
theorem dX5_above_89 : decode cX5_above 89 = .ok (.aload_n 0, 1) := by decide +kernel
theorem dX5_above_90 : decode cX5_above 90 = .ok (.getfield 46, 3) := by decide +kernel
theorem dX5_above_93 : decode cX5_above 93 = .ok (.iload_n 3, 1) := by decide +kernel
theorem dX5_above_94 : decode cX5_above 94 = .ok (.iaload, 1) := by decide +kernel
theorem dX5_above_95 : decode cX5_above 95 = .ok (.if_icmp .ge 7, 3) := by decide +kernel
theorem dX5_above_98 : decode cX5_above 98 = .ok (.iconst 1, 1) := by decide +kernel
theorem dX5_above_99 : decode cX5_above 99 = .ok (.goto 4, 3) := by decide +kernel
theorem dX5_above_102 : decode cX5_above 102 = .ok (.iconst 0, 1) := by decide +kernel
theorem dX5_above_103 : decode cX5_above 103 = .ok (.ior, 1) := by decide +kernel
theorem dX5_above_104 : decode cX5_above 104 = .ok (.istore 5, 2) := by decide +kernel
theorem dX5_above_106 : decode cX5_above 106 = .ok (.goto (-67), 3) := by decide +kernel
theorem dX5_above_109 : decode cX5_above 109 = .ok (.iload 4, 2) := by decide +kernel
theorem dX5_above_111 : decode cX5_above 111 = .ok (.ifCond .eq 12, 3) := by decide +kernel
theorem dX5_above_114 : decode cX5_above 114 = .ok (.iload 5, 2) := by decide +kernel
theorem dX5_above_116 : decode cX5_above 116 = .ok (.ifCond .eq 7, 3) := by decide +kernel
theorem dX5_above_119 : decode cX5_above 119 = .ok (.iconst 0, 1) := by decide +kernel
theorem dX5_above_120 : decode cX5_above 120 = .ok (.goto 22, 3) := by decide +kernel
theorem dX5_above_123 : decode cX5_above 123 = .ok (.iload 4, 2) := by decide +kernel
theorem dX5_above_125 : decode cX5_above 125 = .ok (.ifCond .eq 7, 3) := by decide +kernel
theorem dX5_above_128 : decode cX5_above 128 = .ok (.iconst 1, 1) := by decide +kernel
theorem dX5_above_129 : decode cX5_above 129 = .ok (.goto 13, 3) := by decide +kernel
theorem dX5_above_132 : decode cX5_above 132 = .ok (.iload 5, 2) := by decide +kernel
theorem dX5_above_134 : decode cX5_above 134 = .ok (.ifCond .eq 7, 3) := by decide +kernel
theorem dX5_above_137 : decode cX5_above 137 = .ok (.iconst (-1), 1) := by decide +kernel
theorem dX5_above_138 : decode cX5_above 138 = .ok (.goto 4, 3) := by decide +kernel
theorem dX5_above_141 : decode cX5_above 141 = .ok (.iconst 2, 1) := by decide +kernel
theorem dX5_above_142 : decode cX5_above 142 = .ok (.ireturn, 1) := by decide +kernel
theorem dX5_alike_0 : decode cX5_alike 0 = .ok (.aload_n 0, 1) := by decide +kernel
theorem dX5_alike_1 : decode cX5_alike 1 = .ok (.iload_n 1, 1) := by decide +kernel
theorem dX5_alike_2 : decode cX5_alike 2 = .ok (.invokevirtual 85, 3) := by decide +kernel
theorem dX5_alike_5 : decode cX5_alike 5 = .ok (.ifCond .eq 11, 3) := by decide +kernel
theorem dX5_alike_8 : decode cX5_alike 8 = .ok (.aload_n 0, 1) := by decide +kernel
theorem dX5_alike_9 : decode cX5_alike 9 = .ok (.iload_n 2, 1) := by decide +kernel
theorem dX5_alike_10 : decode cX5_alike 10 = .ok (.invokevirtual 85, 3) := by decide +kernel
theorem dX5_alike_13 : decode cX5_alike 13 = .ok (.ifCond .ne 6, 3) := by decide +kernel
theorem dX5_alike_16 : decode cX5_alike 16 = .ok (.bipush (-101), 2) := by decide +kernel
theorem dX5_alike_18 : decode cX5_alike 18 = .ok (.ireturn, 1) := by decide +kernel
theorem dX5_alike_19 : decode cX5_alike 19 = .ok (.aload_n 0, 1) := by decide +kernel
theorem dX5_alike_20 : decode cX5_alike 20 = .ok (.getfield 13, 3) := by decide +kernel
theorem dX5_alike_23 : decode cX5_alike 23 = .ok (.iload_n 1, 1) := by decide +kernel
theorem dX5_alike_24 : decode cX5_alike 24 = .ok (.iaload, 1) := by decide +kernel
theorem dX5_alike_25 : decode cX5_alike 25 = .ok (.aload_n 0, 1) := by decide +kernel
theorem dX5_alike_26 : decode cX5_alike 26 = .ok (.getfield 13, 3) := by decide +kernel
theorem dX5_alike_29 : decode cX5_alike 29 = .ok (.iload_n 2, 1) := by decide +kernel
theorem dX5_alike_30 : decode cX5_alike 30 = .ok (.iaload, 1) := by decide +kernel
theorem dX5_alike_31 : decode cX5_alike 31 = .ok (.if_icmp .ne 16, 3) := by decide +kernel
theorem dX5_alike_34 : decode cX5_alike 34 = .ok (.aload_n 0, 1) := by decide +kernel
theorem dX5_alike_35 : decode cX5_alike 35 = .ok (.iload_n 1, 1) := by decide +kernel
theorem dX5_alike_36 : decode cX5_alike 36 = .ok (.invokevirtual 177, 3) := by decide +kernel
theorem dX5_alike_39 : decode cX5_alike 39 = .ok (.aload_n 0, 1) := by decide +kernel
theorem dX5_alike_40 : decode cX5_alike 40 = .ok (.iload_n 2, 1) := by decide +kernel
theorem dX5_alike_41 : decode cX5_alike 41 = .ok (.invokevirtual 177, 3) := by decide +kernel
theorem dX5_alike_44 : decode cX5_alike 44 = .ok (.if_icmp .eq 5, 3) := by decide +kernel
theorem dX5_alike_47 : decode cX5_alike 47 = .ok (.iconst 0, 1) := by decide +kernel
theorem dX5_alike_48 : decode cX5_alike 48 = .ok (.ireturn, 1) := by decide +kernel
theorem dX5_alike_49 : decode cX5_alike 49 = .ok (.aload_n 0, 1) := by decide +kernel
theorem dX5_alike_50 : decode cX5_alike 50 = .ok (.iload_n 1, 1) := by decide +kernel
theorem dX5_alike_51 : decode cX5_alike 51 = .ok (.invokevirtual 157, 3) := by decide +kernel
theorem dX5_alike_54 : decode cX5_alike 54 = .ok (.aload_n 0, 1) := by decide +kernel
theorem dX5_alike_55 : decode cX5_alike 55 = .ok (.invokevirtual 161, 3) := by decide +kernel
theorem dX5_alike_58 : decode cX5_alike 58 = .ok (.ifCond .eq 128, 3) := by decide +kernel
theorem dX5_alike_61 : decode cX5_alike 61 = .ok (.aload_n 0, 1) := by decide +kernel
theorem dX5_alike_62 : decode cX5_alike 62 = .ok (.getfield 120, 3) := by decide +kernel
theorem dX5_alike_65 : decode cX5_alike 65 = .ok (.istore_n 3, 1) := by decide +kernel
theorem dX5_alike_66 : decode cX5_alike 66 = .ok (.iconst 0, 1) := by decide +kernel
theorem dX5_alike_67 : decode cX5_alike 67 = .ok (.istore 4, 2) := by decide +kernel
theorem dX5_alike_69 : decode cX5_alike 69 = .ok (.iload 4, 2) := by decide +kernel
theorem dX5_alike_71 : decode cX5_alike 71 = .ok (.bipush 9, 2) := by decide +kernel
theorem dX5_alike_73 : decode cX5_alike 73 = .ok (.if_icmp .ge 37, 3) := by decide +kernel
theorem dX5_alike_76 : decode cX5_alike 76 = .ok (.aload_n 0, 1) := by decide +kernel
theorem dX5_alike_77 : decode cX5_alike 77 = .ok (.getfield 59, 3) := by decide +kernel
theorem dX5_alike_80 : decode cX5_alike 80 = .ok (.iload 4, 2) := by decide +kernel
theorem dX5_alike_82 : decode cX5_alike 82 = .ok (.aload_n 0, 1) := by decide +kernel
theorem dX5_alike_83 : decode cX5_alike 83 = .ok (.getfield 43, 3) := by decide +kernel
theorem dX5_alike_86 : decode cX5_alike 86 = .ok (.iload 4, 2) := by decide +kernel
theorem dX5_alike_88 : decode cX5_alike 88 = .ok (.iaload, 1) := by decide +kernel
theorem dX5_alike_89 : decode cX5_alike 89 = .ok (.iastore, 1) := by decide +kernel
theorem dX5_alike_90 : decode cX5_alike 90 = .ok (.aload_n 0, 1) := by decide +kernel
theorem dX5_alike_91 : decode cX5_alike 91 = .ok (.getfield 62, 3) := by decide +kernel
theorem dX5_alike_94 : decode cX5_alike 94 = .ok (.iload 4, 2) := by decide +kernel
theorem dX5_alike_96 : decode cX5_alike 96 = .ok (.aload_n 0, 1) := by decide +kernel
theorem dX5_alike_97 : decode cX5_alike 97 = .ok (.getfield 46, 3) := by decide +kernel
theorem dX5_alike_100 : decode cX5_alike 100 = .ok (.iload 4, 2) := by decide +kernel
theorem dX5_alike_102 : decode cX5_alike 102 = .ok (.iaload, 1) := by decide +kernel
theorem dX5_alike_103 : decode cX5_alike 103 = .ok (.iastore, 1) := by decide +kernel
theorem dX5_alike_104 : decode cX5_alike 104 = .ok (.iinc 4 1, 3) := by decide +kernel
theorem dX5_alike_107 : decode cX5_alike 107 = .ok (.goto (-38), 3) := by decide +kernel
theorem dX5_alike_110 : decode cX5_alike 110 = .ok (.aload_n 0, 1) := by decide +kernel
theorem dX5_alike_111 : decode cX5_alike 111 = .ok (.iload_n 2, 1) := by decide +kernel
theorem dX5_alike_112 : decode cX5_alike 112 = .ok (.aload_n 0, 1) := by decide +kernel
theorem dX5_alike_113 : decode cX5_alike 113 = .ok (.invokevirtual 167, 3) := by decide +kernel
theorem dX5_alike_116 : decode cX5_alike 116 = .ok (.invokevirtual 180, 3) := by decide +kernel
theorem dX5_alike_119 : decode cX5_alike 119 = .ok (.ifCond .eq 5, 3) := by decide +kernel
theorem dX5_alike_122 : decode cX5_alike 122 = .ok (.iconst 0, 1) := by decide +kernel
theorem dX5_alike_123 : decode cX5_alike 123 = .ok (.ireturn, 1) := by decide +kernel
theorem dX5_alike_124 : decode cX5_alike 124 = .ok (.aload_n 0, 1) := by decide +kernel
theorem dX5_alike_125 : decode cX5_alike 125 = .ok (.iload_n 1, 1) := by decide +kernel
theorem dX5_alike_126 : decode cX5_alike 126 = .ok (.invokevirtual 157, 3) := by decide +kernel
theorem dX5_alike_129 : decode cX5_alike 129 = .ok (.aload_n 0, 1) := by decide +kernel
theorem dX5_alike_130 : decode cX5_alike 130 = .ok (.iconst 1, 1) := by decide +kernel
theorem dX5_alike_131 : decode cX5_alike 131 = .ok (.putfield 123, 3) := by decide +kernel
theorem dX5_alike_134 : decode cX5_alike 134 = .ok (.aload_n 0, 1) := by decide +kernel
theorem dX5_alike_135 : decode cX5_alike 135 = .ok (.iload_n 3, 1) := by decide +kernel
theorem dX5_alike_136 : decode cX5_alike 136 = .ok (.putfield 120, 3) := by decide +kernel
theorem dX5_alike_139 : decode cX5_alike 139 = .ok (.iconst 0, 1) := by decide +kernel
theorem dX5_alike_140 : decode cX5_alike 140 = .ok (.istore 4, 2) := by decide +kernel
theorem dX5_alike_142 : decode cX5_alike 142 = .ok (.iload 4, 2) := by decide +kernel
theorem dX5_alike_144 : decode cX5_alike 144 = .ok (.bipush 9, 2) := by decide +kernel
theorem dX5_alike_146 : decode cX5_alike 146 = .ok (.if_icmp .ge 37, 3) := by decide +kernel
theorem dX5_alike_149 : decode cX5_alike 149 = .ok (.aload_n 0, 1) := by decide +kernel
theorem dX5_alike_150 : decode cX5_alike 150 = .ok (.getfield 43, 3) := by decide +kernel
theorem dX5_alike_153 : decode cX5_alike 153 = .ok (.iload 4, 2) := by decide +kernel
theorem dX5_alike_155 : decode cX5_alike 155 = .ok (.aload_n 0, 1) := by decide +kernel
theorem dX5_alike_156 : decode cX5_alike 156 = .ok (.getfield 59, 3) := by decide +kernel
theorem dX5_alike_159 : decode cX5_alike 159 = .ok (.iload 4, 2) := by decide +kernel
theorem dX5_alike_161 : decode cX5_alike 161 = .ok (.iaload, 1) := by decide +kernel
theorem dX5_alike_162 : decode cX5_alike 162 = .ok (.iastore, 1) := by decide +kernel
theorem dX5_alike_163 : decode cX5_alike 163 = .ok (.aload_n 0, 1) := by decide +kernel
theorem dX5_alike_164 : decode cX5_alike 164 = .ok (.getfield 46, 3) := by decide +kernel
theorem dX5_alike_167 : decode cX5_alike 167 = .ok (.iload 4, 2) := by decide +kernel
theorem dX5_alike_169 : decode cX5_alike 169 = .ok (.aload_n 0, 1) := by decide +kernel
theorem dX5_alike_170 : decode cX5_alike 170 = .ok (.getfield 62, 3) := by decide +kernel
theorem dX5_alike_173 : decode cX5_alike 173 = .ok (.iload 4, 2) := by decide +kernel
theorem dX5_alike_175 : decode cX5_alike 175 = .ok (.iaload, 1) := by decide +kernel
theorem dX5_alike_176 : decode cX5_alike 176 = .ok (.iastore, 1) := by decide +kernel
theorem dX5_alike_177 : decode cX5_alike 177 = .ok (.iinc 4 1, 3) := by decide +kernel
theorem dX5_alike_180 : decode cX5_alike 180 = .ok (.goto (-38), 3) := by decide +kernel
theorem dX5_alike_183 : decode cX5_alike 183 = .ok (.goto (-129), 3) := by decide +kernel
theorem dX5_alike_186 : decode cX5_alike 186 = .ok (.iconst 1, 1) := by decide +kernel
theorem dX5_alike_187 : decode cX5_alike 187 = .ok (.ireturn, 1) := by decide +kernel
theorem dX5_foldings_0 : decode cX5_foldings 0 = .ok (.aload_n 0, 1) := by decide +kernel
theorem dX5_foldings_1 : decode cX5_foldings 1 = .ok (.iload_n 1, 1) := by decide +kernel
theorem dX5_foldings_2 : decode cX5_foldings 2 = .ok (.invokevirtual 85, 3) := by decide +kernel
theorem dX5_foldings_5 : decode cX5_foldings 5 = .ok (.ifCond .ne 6, 3) := by decide +kernel
theorem dX5_foldings_8 : decode cX5_foldings 8 = .ok (.bipush (-101), 2) := by decide +kernel
theorem dX5_foldings_10 : decode cX5_foldings 10 = .ok (.ireturn, 1) := by decide +kernel
theorem dX5_foldings_11 : decode cX5_foldings 11 = .ok (.iconst 0, 1) := by decide +kernel
theorem dX5_foldings_12 : decode cX5_foldings 12 = .ok (.istore_n 2, 1) := by decide +kernel
theorem dX5_foldings_13 : decode cX5_foldings 13 = .ok (.iload_n 2, 1) := by decide +kernel
theorem dX5_foldings_14 : decode cX5_foldings 14 = .ok (.sipush 4096, 3) := by decide +kernel
theorem dX5_foldings_17 : decode cX5_foldings 17 = .ok (.if_icmp .ge 16, 3) := by decide +kernel
theorem dX5_foldings_20 : decode cX5_foldings 20 = .ok (.aload_n 0, 1) := by decide +kernel
theorem dX5_foldings_21 : decode cX5_foldings 21 = .ok (.getfield 65, 3) := by decide +kernel
theorem dX5_foldings_24 : decode cX5_foldings 24 = .ok (.iload_n 2, 1) := by decide +kernel
theorem dX5_foldings_25 : decode cX5_foldings 25 = .ok (.iconst 0, 1) := by decide +kernel
theorem dX5_foldings_26 : decode cX5_foldings 26 = .ok (.bastore, 1) := by decide +kernel
theorem dX5_foldings_27 : decode cX5_foldings 27 = .ok (.iinc 2 1, 3) := by decide +kernel
theorem dX5_foldings_30 : decode cX5_foldings 30 = .ok (.goto (-17), 3) := by decide +kernel
theorem dX5_foldings_33 : decode cX5_foldings 33 = .ok (.aload_n 0, 1) := by decide +kernel
theorem dX5_foldings_34 : decode cX5_foldings 34 = .ok (.iload_n 1, 1) := by decide +kernel
theorem dX5_foldings_35 : decode cX5_foldings 35 = .ok (.invokevirtual 157, 3) := by decide +kernel
theorem dX5_foldings_38 : decode cX5_foldings 38 = .ok (.iconst 0, 1) := by decide +kernel
theorem dX5_foldings_39 : decode cX5_foldings 39 = .ok (.istore_n 2, 1) := by decide +kernel
theorem dX5_foldings_40 : decode cX5_foldings 40 = .ok (.aload_n 0, 1) := by decide +kernel
theorem dX5_foldings_41 : decode cX5_foldings 41 = .ok (.invokevirtual 161, 3) := by decide +kernel
theorem dX5_foldings_44 : decode cX5_foldings 44 = .ok (.ifCond .eq 73, 3) := by decide +kernel
theorem dX5_foldings_47 : decode cX5_foldings 47 = .ok (.iconst 0, 1) := by decide +kernel
theorem dX5_foldings_48 : decode cX5_foldings 48 = .ok (.istore_n 3, 1) := by decide +kernel
theorem dX5_foldings_49 : decode cX5_foldings 49 = .ok (.iconst 0, 1) := by decide +kernel
theorem dX5_foldings_50 : decode cX5_foldings 50 = .ok (.istore 4, 2) := by decide +kernel
theorem dX5_foldings_52 : decode cX5_foldings 52 = .ok (.iload 4, 2) := by decide +kernel
theorem dX5_foldings_54 : decode cX5_foldings 54 = .ok (.aload_n 0, 1) := by decide +kernel
theorem dX5_foldings_55 : decode cX5_foldings 55 = .ok (.getfield 22, 3) := by decide +kernel
theorem dX5_foldings_58 : decode cX5_foldings 58 = .ok (.iload_n 1, 1) := by decide +kernel
theorem dX5_foldings_59 : decode cX5_foldings 59 = .ok (.iaload, 1) := by decide +kernel
theorem dX5_foldings_60 : decode cX5_foldings 60 = .ok (.if_icmp .ge 30, 3) := by decide +kernel
theorem dX5_foldings_63 : decode cX5_foldings 63 = .ok (.iload_n 3, 1) := by decide +kernel
theorem dX5_foldings_64 : decode cX5_foldings 64 = .ok (.aload_n 0, 1) := by decide +kernel
theorem dX5_foldings_65 : decode cX5_foldings 65 = .ok (.iload 4, 2) := by decide +kernel
theorem dX5_foldings_67 : decode cX5_foldings 67 = .ok (.invokevirtual 143, 3) := by decide +kernel
theorem dX5_foldings_70 : decode cX5_foldings 70 = .ok (.iconst 2, 1) := by decide +kernel
theorem dX5_foldings_71 : decode cX5_foldings 71 = .ok (.if_icmp .ne 10, 3) := by decide +kernel
theorem dX5_foldings_74 : decode cX5_foldings 74 = .ok (.iconst 1, 1) := by decide +kernel
theorem dX5_foldings_75 : decode cX5_foldings 75 = .ok (.iload 4, 2) := by decide +kernel
theorem dX5_foldings_77 : decode cX5_foldings 77 = .ok (.ishl, 1) := by decide +kernel
theorem dX5_foldings_78 : decode cX5_foldings 78 = .ok (.goto 4, 3) := by decide +kernel
theorem dX5_foldings_81 : decode cX5_foldings 81 = .ok (.iconst 0, 1) := by decide +kernel
theorem dX5_foldings_82 : decode cX5_foldings 82 = .ok (.ior, 1) := by decide +kernel
theorem dX5_foldings_83 : decode cX5_foldings 83 = .ok (.istore_n 3, 1) := by decide +kernel
theorem dX5_foldings_84 : decode cX5_foldings 84 = .ok (.iinc 4 1, 3) := by decide +kernel
theorem dX5_foldings_87 : decode cX5_foldings 87 = .ok (.goto (-35), 3) := by decide +kernel
theorem dX5_foldings_90 : decode cX5_foldings 90 = .ok (.iload_n 2, 1) := by decide +kernel
theorem dX5_foldings_91 : decode cX5_foldings 91 = .ok (.aload_n 0, 1) := by decide +kernel
theorem dX5_foldings_92 : decode cX5_foldings 92 = .ok (.getfield 65, 3) := by decide +kernel
theorem dX5_foldings_95 : decode cX5_foldings 95 = .ok (.iload_n 3, 1) := by decide +kernel
theorem dX5_foldings_96 : decode cX5_foldings 96 = .ok (.baload, 1) := by decide +kernel
theorem dX5_foldings_97 : decode cX5_foldings 97 = .ok (.ifCond .eq 7, 3) := by decide +kernel
theorem dX5_foldings_100 : decode cX5_foldings 100 = .ok (.iconst 0, 1) := by decide +kernel
theorem dX5_foldings_101 : decode cX5_foldings 101 = .ok (.goto 4, 3) := by decide +kernel
theorem dX5_foldings_104 : decode cX5_foldings 104 = .ok (.iconst 1, 1) := by decide +kernel
theorem dX5_foldings_105 : decode cX5_foldings 105 = .ok (.iadd, 1) := by decide +kernel
theorem dX5_foldings_106 : decode cX5_foldings 106 = .ok (.istore_n 2, 1) := by decide +kernel
theorem dX5_foldings_107 : decode cX5_foldings 107 = .ok (.aload_n 0, 1) := by decide +kernel
theorem dX5_foldings_108 : decode cX5_foldings 108 = .ok (.getfield 65, 3) := by decide +kernel
theorem dX5_foldings_111 : decode cX5_foldings 111 = .ok (.iload_n 3, 1) := by decide +kernel
theorem dX5_foldings_112 : decode cX5_foldings 112 = .ok (.iconst 1, 1) := by decide +kernel
theorem dX5_foldings_113 : decode cX5_foldings 113 = .ok (.bastore, 1) := by decide +kernel
theorem dX5_foldings_114 : decode cX5_foldings 114 = .ok (.goto (-74), 3) := by decide +kernel
theorem dX5_foldings_117 : decode cX5_foldings 117 = .ok (.iload_n 2, 1) := by decide +kernel
theorem dX5_foldings_118 : decode cX5_foldings 118 = .ok (.ireturn, 1) := by decide +kernel
theorem dX5_isAllowed_0 : decode cX5_isAllowed 0 = .ok (.aload_n 0, 1) := by decide +kernel
theorem dX5_isAllowed_1 : decode cX5_isAllowed 1 = .ok (.iload_n 1, 1) := by decide +kernel
theorem dX5_isAllowed_2 : decode cX5_isAllowed 2 = .ok (.invokevirtual 157, 3) := by decide +kernel
theorem dX5_isAllowed_5 : decode cX5_isAllowed 5 = .ok (.aload_n 0, 1) := by decide +kernel
theorem dX5_isAllowed_6 : decode cX5_isAllowed 6 = .ok (.invokevirtual 161, 3) := by decide +kernel
theorem dX5_isAllowed_9 : decode cX5_isAllowed 9 = .ok (.ireturn, 1) := by decide +kernel
theorem dX5_clash_0 : decode cX5_clash 0 = .ok (.aload_n 0, 1) := by decide +kernel
theorem dX5_clash_1 : decode cX5_clash 1 = .ok (.iload_n 1, 1) := by decide +kernel
theorem dX5_clash_2 : decode cX5_clash 2 = .ok (.invokevirtual 85, 3) := by decide +kernel
theorem dX5_clash_5 : decode cX5_clash 5 = .ok (.ifCond .ne 6, 3) := by decide +kernel
theorem dX5_clash_8 : decode cX5_clash 8 = .ok (.bipush (-101), 2) := by decide +kernel
theorem dX5_clash_10 : decode cX5_clash 10 = .ok (.ireturn, 1) := by decide +kernel
theorem dX5_clash_11 : decode cX5_clash 11 = .ok (.aload_n 0, 1) := by decide +kernel
theorem dX5_clash_12 : decode cX5_clash 12 = .ok (.iconst 0, 1) := by decide +kernel
theorem dX5_clash_13 : decode cX5_clash 13 = .ok (.putfield 184, 3) := by decide +kernel
theorem dX5_clash_16 : decode cX5_clash 16 = .ok (.aload_n 0, 1) := by decide +kernel
theorem dX5_clash_17 : decode cX5_clash 17 = .ok (.iload_n 1, 1) := by decide +kernel
theorem dX5_clash_18 : decode cX5_clash 18 = .ok (.invokevirtual 187, 3) := by decide +kernel
theorem dX5_clash_21 : decode cX5_clash 21 = .ok (.ifCond .eq 5, 3) := by decide +kernel
theorem dX5_clash_24 : decode cX5_clash 24 = .ok (.iconst 0, 1) := by decide +kernel
theorem dX5_clash_25 : decode cX5_clash 25 = .ok (.ireturn, 1) := by decide +kernel
theorem dX5_clash_26 : decode cX5_clash 26 = .ok (.aload_n 0, 1) := by decide +kernel
theorem dX5_clash_27 : decode cX5_clash 27 = .ok (.getfield 72, 3) := by decide +kernel
theorem dX5_clash_30 : decode cX5_clash 30 = .ok (.astore_n 2, 1) := by decide +kernel
theorem dX5_clash_31 : decode cX5_clash 31 = .ok (.iconst 0, 1) := by decide +kernel
theorem dX5_clash_32 : decode cX5_clash 32 = .ok (.istore_n 3, 1) := by decide +kernel
theorem dX5_clash_33 : decode cX5_clash 33 = .ok (.iload_n 3, 1) := by decide +kernel
theorem dX5_clash_34 : decode cX5_clash 34 = .ok (.aload_n 0, 1) := by decide +kernel
theorem dX5_clash_35 : decode cX5_clash 35 = .ok (.getfield 22, 3) := by decide +kernel
theorem dX5_clash_38 : decode cX5_clash 38 = .ok (.iload_n 1, 1) := by decide +kernel
theorem dX5_clash_39 : decode cX5_clash 39 = .ok (.iaload, 1) := by decide +kernel
theorem dX5_clash_40 : decode cX5_clash 40 = .ok (.if_icmp .ge 23, 3) := by decide +kernel
theorem dX5_clash_43 : decode cX5_clash 43 = .ok (.aload_n 2, 1) := by decide +kernel
theorem dX5_clash_44 : decode cX5_clash 44 = .ok (.iload_n 3, 1) := by decide +kernel
theorem dX5_clash_45 : decode cX5_clash 45 = .ok (.aload_n 0, 1) := by decide +kernel
theorem dX5_clash_46 : decode cX5_clash 46 = .ok (.getfield 34, 3) := by decide +kernel
theorem dX5_clash_49 : decode cX5_clash 49 = .ok (.bipush 12, 2) := by decide +kernel
theorem dX5_clash_51 : decode cX5_clash 51 = .ok (.iload_n 1, 1) := by decide +kernel
theorem dX5_clash_52 : decode cX5_clash 52 = .ok (.imul, 1) := by decide +kernel
theorem dX5_clash_53 : decode cX5_clash 53 = .ok (.iload_n 3, 1) := by decide +kernel
theorem dX5_clash_54 : decode cX5_clash 54 = .ok (.iadd, 1) := by decide +kernel
theorem dX5_clash_55 : decode cX5_clash 55 = .ok (.iaload, 1) := by decide +kernel
theorem dX5_clash_56 : decode cX5_clash 56 = .ok (.iastore, 1) := by decide +kernel
theorem dX5_clash_57 : decode cX5_clash 57 = .ok (.iinc 3 1, 3) := by decide +kernel
theorem dX5_clash_60 : decode cX5_clash 60 = .ok (.goto (-27), 3) := by decide +kernel
theorem dX5_clash_63 : decode cX5_clash 63 = .ok (.aload_n 0, 1) := by decide +kernel
theorem dX5_clash_64 : decode cX5_clash 64 = .ok (.getfield 22, 3) := by decide +kernel
theorem dX5_clash_67 : decode cX5_clash 67 = .ok (.iload_n 1, 1) := by decide +kernel
theorem dX5_clash_68 : decode cX5_clash 68 = .ok (.iaload, 1) := by decide +kernel
theorem dX5_clash_69 : decode cX5_clash 69 = .ok (.iconst 1, 1) := by decide +kernel
theorem dX5_clash_70 : decode cX5_clash 70 = .ok (.isub, 1) := by decide +kernel
theorem dX5_clash_71 : decode cX5_clash 71 = .ok (.istore_n 3, 1) := by decide +kernel
theorem dX5_clash_72 : decode cX5_clash 72 = .ok (.iload_n 3, 1) := by decide +kernel
theorem dX5_clash_73 : decode cX5_clash 73 = .ok (.ifCond .lt 60, 3) := by decide +kernel
theorem dX5_clash_76 : decode cX5_clash 76 = .ok (.aload_n 0, 1) := by decide +kernel
theorem dX5_clash_77 : decode cX5_clash 77 = .ok (.getfield 34, 3) := by decide +kernel
theorem dX5_clash_80 : decode cX5_clash 80 = .ok (.bipush 12, 2) := by decide +kernel
theorem dX5_clash_82 : decode cX5_clash 82 = .ok (.iload_n 1, 1) := by decide +kernel
theorem dX5_clash_83 : decode cX5_clash 83 = .ok (.imul, 1) := by decide +kernel
theorem dX5_clash_84 : decode cX5_clash 84 = .ok (.iload_n 3, 1) := by decide +kernel
theorem dX5_clash_85 : decode cX5_clash 85 = .ok (.iadd, 1) := by decide +kernel
theorem dX5_clash_86 : decode cX5_clash 86 = .ok (.iaload, 1) := by decide +kernel
theorem dX5_clash_87 : decode cX5_clash 87 = .ok (.istore 4, 2) := by decide +kernel
theorem dX5_clash_89 : decode cX5_clash 89 = .ok (.iload 4, 2) := by decide +kernel
theorem dX5_clash_91 : decode cX5_clash 91 = .ok (.ifCond .eq 36, 3) := by decide +kernel
theorem dX5_clash_94 : decode cX5_clash 94 = .ok (.aload_n 0, 1) := by decide +kernel
theorem dX5_clash_95 : decode cX5_clash 95 = .ok (.getfield 34, 3) := by decide +kernel
theorem dX5_clash_98 : decode cX5_clash 98 = .ok (.bipush 12, 2) := by decide +kernel
theorem dX5_clash_100 : decode cX5_clash 100 = .ok (.iload_n 1, 1) := by decide +kernel
theorem dX5_clash_101 : decode cX5_clash 101 = .ok (.imul, 1) := by decide +kernel
theorem dX5_clash_102 : decode cX5_clash 102 = .ok (.iload_n 3, 1) := by decide +kernel
theorem dX5_clash_103 : decode cX5_clash 103 = .ok (.iadd, 1) := by decide +kernel
theorem dX5_clash_104 : decode cX5_clash 104 = .ok (.iconst 0, 1) := by decide +kernel
theorem dX5_clash_105 : decode cX5_clash 105 = .ok (.iastore, 1) := by decide +kernel
theorem dX5_clash_106 : decode cX5_clash 106 = .ok (.aload_n 0, 1) := by decide +kernel
theorem dX5_clash_107 : decode cX5_clash 107 = .ok (.iload_n 1, 1) := by decide +kernel
theorem dX5_clash_108 : decode cX5_clash 108 = .ok (.invokevirtual 187, 3) := by decide +kernel
theorem dX5_clash_111 : decode cX5_clash 111 = .ok (.ifCond .eq 16, 3) := by decide +kernel
