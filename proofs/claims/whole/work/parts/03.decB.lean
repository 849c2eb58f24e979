theorem dX1_init_0 : decode cX1_init 0 = .ok (.aload_n 0, 1) := by decide +kernel
theorem dX1_init_1 : decode cX1_init 1 = .ok (.invokespecial 3, 3) := by decide +kernel
theorem dX1_init_4 : decode cX1_init 4 = .ok (.aload_n 0, 1) := by decide +kernel
theorem dX1_init_5 : decode cX1_init 5 = .ok (.iconst 0, 1) := by decide +kernel
theorem dX1_init_6 : decode cX1_init 6 = .ok (.putfield 9, 3) := by decide +kernel
theorem dX1_init_9 : decode cX1_init 9 = .ok (.aload_n 0, 1) := by decide +kernel
theorem dX1_init_10 : decode cX1_init 10 = .ok (.bipush 9, 2) := by decide +kernel
theorem dX1_init_12 : decode cX1_init 12 = .ok (.newarray .int, 2) := by decide +kernel
theorem dX1_init_14 : decode cX1_init 14 = .ok (.putfield 15, 3) := by decide +kernel
theorem dX1_init_17 : decode cX1_init 17 = .ok (.aload_n 0, 1) := by decide +kernel
theorem dX1_init_18 : decode cX1_init 18 = .ok (.bipush 9, 2) := by decide +kernel
theorem dX1_init_20 : decode cX1_init 20 = .ok (.newarray .int, 2) := by decide +kernel
theorem dX1_init_22 : decode cX1_init 22 = .ok (.putfield 19, 3) := by decide +kernel
theorem dX1_init_25 : decode cX1_init 25 = .ok (.aload_n 0, 1) := by decide +kernel
theorem dX1_init_26 : decode cX1_init 26 = .ok (.bipush 9, 2) := by decide +kernel
theorem dX1_init_28 : decode cX1_init 28 = .ok (.newarray .int, 2) := by decide +kernel
theorem dX1_init_30 : decode cX1_init 30 = .ok (.putfield 22, 3) := by decide +kernel
theorem dX1_init_33 : decode cX1_init 33 = .ok (.aload_n 0, 1) := by decide +kernel
theorem dX1_init_34 : decode cX1_init 34 = .ok (.bipush 10, 2) := by decide +kernel
theorem dX1_init_36 : decode cX1_init 36 = .ok (.newarray .int, 2) := by decide +kernel
theorem dX1_init_38 : decode cX1_init 38 = .ok (.putfield 25, 3) := by decide +kernel
theorem dX1_init_41 : decode cX1_init 41 = .ok (.aload_n 0, 1) := by decide +kernel
theorem dX1_init_42 : decode cX1_init 42 = .ok (.bipush 12, 2) := by decide +kernel
theorem dX1_init_44 : decode cX1_init 44 = .ok (.newarray .int, 2) := by decide +kernel
theorem dX1_init_46 : decode cX1_init 46 = .ok (.putfield 28, 3) := by decide +kernel
theorem dX1_init_49 : decode cX1_init 49 = .ok (.aload_n 0, 1) := by decide +kernel
theorem dX1_init_50 : decode cX1_init 50 = .ok (.bipush 12, 2) := by decide +kernel
theorem dX1_init_52 : decode cX1_init 52 = .ok (.newarray .int, 2) := by decide +kernel
theorem dX1_init_54 : decode cX1_init 54 = .ok (.putfield 31, 3) := by decide +kernel
theorem dX1_init_57 : decode cX1_init 57 = .ok (.aload_n 0, 1) := by decide +kernel
theorem dX1_init_58 : decode cX1_init 58 = .ok (.bipush 12, 2) := by decide +kernel
theorem dX1_init_60 : decode cX1_init 60 = .ok (.newarray .int, 2) := by decide +kernel
theorem dX1_init_62 : decode cX1_init 62 = .ok (.putfield 34, 3) := by decide +kernel
theorem dX1_init_65 : decode cX1_init 65 = .ok (.aload_n 0, 1) := by decide +kernel
theorem dX1_init_66 : decode cX1_init 66 = .ok (.bipush 12, 2) := by decide +kernel
theorem dX1_init_68 : decode cX1_init 68 = .ok (.newarray .int, 2) := by decide +kernel
theorem dX1_init_70 : decode cX1_init 70 = .ok (.putfield 37, 3) := by decide +kernel
theorem dX1_init_73 : decode cX1_init 73 = .ok (.aload_n 0, 1) := by decide +kernel
theorem dX1_init_74 : decode cX1_init 74 = .ok (.bipush 12, 2) := by decide +kernel
theorem dX1_init_76 : decode cX1_init 76 = .ok (.newarray .int, 2) := by decide +kernel
theorem dX1_init_78 : decode cX1_init 78 = .ok (.putfield 40, 3) := by decide +kernel
theorem dX1_init_81 : decode cX1_init 81 = .ok (.aload_n 0, 1) := by decide +kernel
theorem dX1_init_82 : decode cX1_init 82 = .ok (.bipush 12, 2) := by decide +kernel
theorem dX1_init_84 : decode cX1_init 84 = .ok (.newarray .int, 2) := by decide +kernel
theorem dX1_init_86 : decode cX1_init 86 = .ok (.putfield 43, 3) := by decide +kernel
theorem dX1_init_89 : decode cX1_init 89 = .ok (.aload_n 0, 1) := by decide +kernel
theorem dX1_init_90 : decode cX1_init 90 = .ok (.bipush 12, 2) := by decide +kernel
theorem dX1_init_92 : decode cX1_init 92 = .ok (.newarray .int, 2) := by decide +kernel
theorem dX1_init_94 : decode cX1_init 94 = .ok (.putfield 46, 3) := by decide +kernel
theorem dX1_init_97 : decode cX1_init 97 = .ok (.aload_n 0, 1) := by decide +kernel
theorem dX1_init_98 : decode cX1_init 98 = .ok (.bipush 9, 2) := by decide +kernel
theorem dX1_init_100 : decode cX1_init 100 = .ok (.newarray .int, 2) := by decide +kernel
theorem dX1_init_102 : decode cX1_init 102 = .ok (.putfield 49, 3) := by decide +kernel
theorem dX1_init_105 : decode cX1_init 105 = .ok (.aload_n 0, 1) := by decide +kernel
theorem dX1_init_106 : decode cX1_init 106 = .ok (.iconst 0, 1) := by decide +kernel
theorem dX1_init_107 : decode cX1_init 107 = .ok (.putfield 52, 3) := by decide +kernel
theorem dX1_init_110 : decode cX1_init 110 = .ok (.aload_n 0, 1) := by decide +kernel
theorem dX1_init_111 : decode cX1_init 111 = .ok (.iload_n 1, 1) := by decide +kernel
theorem dX1_init_112 : decode cX1_init 112 = .ok (.putfield 55, 3) := by decide +kernel
theorem dX1_init_115 : decode cX1_init 115 = .ok (.aload_n 0, 1) := by decide +kernel
theorem dX1_init_116 : decode cX1_init 116 = .ok (.iload_n 2, 1) := by decide +kernel
theorem dX1_init_117 : decode cX1_init 117 = .ok (.putfield 58, 3) := by decide +kernel
theorem dX1_init_120 : decode cX1_init 120 = .ok (.aload_n 0, 1) := by decide +kernel
theorem dX1_init_121 : decode cX1_init 121 = .ok (.iload_n 3, 1) := by decide +kernel
theorem dX1_init_122 : decode cX1_init 122 = .ok (.putfield 61, 3) := by decide +kernel
theorem dX1_init_125 : decode cX1_init 125 = .ok (.aload_n 0, 1) := by decide +kernel
theorem dX1_init_126 : decode cX1_init 126 = .ok (.iload_n 2, 1) := by decide +kernel
theorem dX1_init_127 : decode cX1_init 127 = .ok (.iload_n 3, 1) := by decide +kernel
theorem dX1_init_128 : decode cX1_init 128 = .ok (.imul, 1) := by decide +kernel
theorem dX1_init_129 : decode cX1_init 129 = .ok (.putfield 64, 3) := by decide +kernel
theorem dX1_init_132 : decode cX1_init 132 = .ok (.aload_n 0, 1) := by decide +kernel
theorem dX1_init_133 : decode cX1_init 133 = .ok (.getfield 22, 3) := by decide +kernel
theorem dX1_init_136 : decode cX1_init 136 = .ok (.iconst 1, 1) := by decide +kernel
theorem dX1_init_137 : decode cX1_init 137 = .ok (.invokestatic 67, 3) := by decide +kernel
theorem dX1_init_140 : decode cX1_init 140 = .ok (.iconst 0, 1) := by decide +kernel
theorem dX1_init_141 : decode cX1_init 141 = .ok (.istore 4, 2) := by decide +kernel
theorem dX1_init_143 : decode cX1_init 143 = .ok (.iconst 0, 1) := by decide +kernel
theorem dX1_init_144 : decode cX1_init 144 = .ok (.istore 5, 2) := by decide +kernel
theorem dX1_init_146 : decode cX1_init 146 = .ok (.iload 5, 2) := by decide +kernel
theorem dX1_init_148 : decode cX1_init 148 = .ok (.iload_n 2, 1) := by decide +kernel
theorem dX1_init_149 : decode cX1_init 149 = .ok (.if_icmp .ge 52, 3) := by decide +kernel
theorem dX1_init_152 : decode cX1_init 152 = .ok (.iconst 0, 1) := by decide +kernel
theorem dX1_init_153 : decode cX1_init 153 = .ok (.istore 6, 2) := by decide +kernel
theorem dX1_init_155 : decode cX1_init 155 = .ok (.iload 6, 2) := by decide +kernel
theorem dX1_init_157 : decode cX1_init 157 = .ok (.iload_n 3, 1) := by decide +kernel
theorem dX1_init_158 : decode cX1_init 158 = .ok (.if_icmp .ge 37, 3) := by decide +kernel
theorem dX1_init_161 : decode cX1_init 161 = .ok (.iload 4, 2) := by decide +kernel
theorem dX1_init_163 : decode cX1_init 163 = .ok (.bipush 9, 2) := by decide +kernel
theorem dX1_init_165 : decode cX1_init 165 = .ok (.if_icmp .ge 30, 3) := by decide +kernel
theorem dX1_init_168 : decode cX1_init 168 = .ok (.aload_n 0, 1) := by decide +kernel
theorem dX1_init_169 : decode cX1_init 169 = .ok (.getfield 15, 3) := by decide +kernel
theorem dX1_init_172 : decode cX1_init 172 = .ok (.iload 4, 2) := by decide +kernel
theorem dX1_init_174 : decode cX1_init 174 = .ok (.iload 5, 2) := by decide +kernel
theorem dX1_init_176 : decode cX1_init 176 = .ok (.iastore, 1) := by decide +kernel
theorem dX1_init_177 : decode cX1_init 177 = .ok (.aload_n 0, 1) := by decide +kernel
theorem dX1_init_178 : decode cX1_init 178 = .ok (.getfield 19, 3) := by decide +kernel
theorem dX1_init_181 : decode cX1_init 181 = .ok (.iload 4, 2) := by decide +kernel
theorem dX1_init_183 : decode cX1_init 183 = .ok (.iload 6, 2) := by decide +kernel
theorem dX1_init_185 : decode cX1_init 185 = .ok (.iastore, 1) := by decide +kernel
theorem dX1_init_186 : decode cX1_init 186 = .ok (.iinc 6 1, 3) := by decide +kernel
theorem dX1_init_189 : decode cX1_init 189 = .ok (.iinc 4 1, 3) := by decide +kernel
theorem dX1_init_192 : decode cX1_init 192 = .ok (.goto (-37), 3) := by decide +kernel
theorem dX1_init_195 : decode cX1_init 195 = .ok (.iinc 5 1, 3) := by decide +kernel
theorem dX1_init_198 : decode cX1_init 198 = .ok (.goto (-52), 3) := by decide +kernel
theorem dX1_init_201 : decode cX1_init 201 = .ok (.aload_n 0, 1) := by decide +kernel
theorem dX1_init_202 : decode cX1_init 202 = .ok (.invokevirtual 73, 3) := by decide +kernel
theorem dX1_init_205 : decode cX1_init 205 = .ok (.aload_n 0, 1) := by decide +kernel
theorem dX1_init_206 : decode cX1_init 206 = .ok (.invokevirtual 76, 3) := by decide +kernel
theorem dX1_init_209 : decode cX1_init 209 = .ok (.return_, 1) := by decide +kernel
theorem dX1_joinFaces_0 : decode cX1_joinFaces 0 = .ok (.iconst 0, 1) := by decide +kernel
theorem dX1_joinFaces_1 : decode cX1_joinFaces 1 = .ok (.istore_n 1, 1) := by decide +kernel
theorem dX1_joinFaces_2 : decode cX1_joinFaces 2 = .ok (.iload_n 1, 1) := by decide +kernel
theorem dX1_joinFaces_3 : decode cX1_joinFaces 3 = .ok (.aload_n 0, 1) := by decide +kernel
theorem dX1_joinFaces_4 : decode cX1_joinFaces 4 = .ok (.getfield 64, 3) := by decide +kernel
theorem dX1_joinFaces_7 : decode cX1_joinFaces 7 = .ok (.if_icmp .ge 38, 3) := by decide +kernel
theorem dX1_joinFaces_10 : decode cX1_joinFaces 10 = .ok (.aload_n 0, 1) := by decide +kernel
theorem dX1_joinFaces_11 : decode cX1_joinFaces 11 = .ok (.getfield 19, 3) := by decide +kernel
theorem dX1_joinFaces_14 : decode cX1_joinFaces 14 = .ok (.iload_n 1, 1) := by decide +kernel
theorem dX1_joinFaces_15 : decode cX1_joinFaces 15 = .ok (.iaload, 1) := by decide +kernel
theorem dX1_joinFaces_16 : decode cX1_joinFaces 16 = .ok (.iconst 1, 1) := by decide +kernel
theorem dX1_joinFaces_17 : decode cX1_joinFaces 17 = .ok (.iadd, 1) := by decide +kernel
theorem dX1_joinFaces_18 : decode cX1_joinFaces 18 = .ok (.aload_n 0, 1) := by decide +kernel
theorem dX1_joinFaces_19 : decode cX1_joinFaces 19 = .ok (.getfield 61, 3) := by decide +kernel
theorem dX1_joinFaces_22 : decode cX1_joinFaces 22 = .ok (.if_icmp .ge 17, 3) := by decide +kernel
theorem dX1_joinFaces_25 : decode cX1_joinFaces 25 = .ok (.aload_n 0, 1) := by decide +kernel
theorem dX1_joinFaces_26 : decode cX1_joinFaces 26 = .ok (.iload_n 1, 1) := by decide +kernel
theorem dX1_joinFaces_27 : decode cX1_joinFaces 27 = .ok (.iload_n 1, 1) := by decide +kernel
theorem dX1_joinFaces_28 : decode cX1_joinFaces 28 = .ok (.iconst 1, 1) := by decide +kernel
theorem dX1_joinFaces_29 : decode cX1_joinFaces 29 = .ok (.iadd, 1) := by decide +kernel
theorem dX1_joinFaces_30 : decode cX1_joinFaces 30 = .ok (.aload_n 0, 1) := by decide +kernel
theorem dX1_joinFaces_31 : decode cX1_joinFaces 31 = .ok (.getfield 19, 3) := by decide +kernel
theorem dX1_joinFaces_34 : decode cX1_joinFaces 34 = .ok (.iload_n 1, 1) := by decide +kernel
theorem dX1_joinFaces_35 : decode cX1_joinFaces 35 = .ok (.iaload, 1) := by decide +kernel
theorem dX1_joinFaces_36 : decode cX1_joinFaces 36 = .ok (.invokevirtual 79, 3) := by decide +kernel
theorem dX1_joinFaces_39 : decode cX1_joinFaces 39 = .ok (.iinc 1 1, 3) := by decide +kernel
theorem dX1_joinFaces_42 : decode cX1_joinFaces 42 = .ok (.goto (-40), 3) := by decide +kernel
theorem dX1_joinFaces_45 : decode cX1_joinFaces 45 = .ok (.iconst 0, 1) := by decide +kernel
theorem dX1_joinFaces_46 : decode cX1_joinFaces 46 = .ok (.istore_n 1, 1) := by decide +kernel
theorem dX1_joinFaces_47 : decode cX1_joinFaces 47 = .ok (.iload_n 1, 1) := by decide +kernel
theorem dX1_joinFaces_48 : decode cX1_joinFaces 48 = .ok (.aload_n 0, 1) := by decide +kernel
theorem dX1_joinFaces_49 : decode cX1_joinFaces 49 = .ok (.getfield 64, 3) := by decide +kernel
theorem dX1_joinFaces_52 : decode cX1_joinFaces 52 = .ok (.if_icmp .ge 48, 3) := by decide +kernel
theorem dX1_joinFaces_55 : decode cX1_joinFaces 55 = .ok (.aload_n 0, 1) := by decide +kernel
theorem dX1_joinFaces_56 : decode cX1_joinFaces 56 = .ok (.getfield 15, 3) := by decide +kernel
theorem dX1_joinFaces_59 : decode cX1_joinFaces 59 = .ok (.iload_n 1, 1) := by decide +kernel
theorem dX1_joinFaces_60 : decode cX1_joinFaces 60 = .ok (.iaload, 1) := by decide +kernel
theorem dX1_joinFaces_61 : decode cX1_joinFaces 61 = .ok (.iconst 1, 1) := by decide +kernel
theorem dX1_joinFaces_62 : decode cX1_joinFaces 62 = .ok (.iadd, 1) := by decide +kernel
theorem dX1_joinFaces_63 : decode cX1_joinFaces 63 = .ok (.aload_n 0, 1) := by decide +kernel
theorem dX1_joinFaces_64 : decode cX1_joinFaces 64 = .ok (.getfield 58, 3) := by decide +kernel
theorem dX1_joinFaces_67 : decode cX1_joinFaces 67 = .ok (.if_icmp .ge 27, 3) := by decide +kernel
theorem dX1_joinFaces_70 : decode cX1_joinFaces 70 = .ok (.aload_n 0, 1) := by decide +kernel
theorem dX1_joinFaces_71 : decode cX1_joinFaces 71 = .ok (.iload_n 1, 1) := by decide +kernel
theorem dX1_joinFaces_72 : decode cX1_joinFaces 72 = .ok (.iload_n 1, 1) := by decide +kernel
theorem dX1_joinFaces_73 : decode cX1_joinFaces 73 = .ok (.aload_n 0, 1) := by decide +kernel
theorem dX1_joinFaces_74 : decode cX1_joinFaces 74 = .ok (.getfield 61, 3) := by decide +kernel
theorem dX1_joinFaces_77 : decode cX1_joinFaces 77 = .ok (.iadd, 1) := by decide +kernel
theorem dX1_joinFaces_78 : decode cX1_joinFaces 78 = .ok (.aload_n 0, 1) := by decide +kernel
theorem dX1_joinFaces_79 : decode cX1_joinFaces 79 = .ok (.getfield 61, 3) := by decide +kernel
theorem dX1_joinFaces_82 : decode cX1_joinFaces 82 = .ok (.iconst 1, 1) := by decide +kernel
theorem dX1_joinFaces_83 : decode cX1_joinFaces 83 = .ok (.isub, 1) := by decide +kernel
theorem dX1_joinFaces_84 : decode cX1_joinFaces 84 = .ok (.aload_n 0, 1) := by decide +kernel
theorem dX1_joinFaces_85 : decode cX1_joinFaces 85 = .ok (.getfield 15, 3) := by decide +kernel
theorem dX1_joinFaces_88 : decode cX1_joinFaces 88 = .ok (.iload_n 1, 1) := by decide +kernel
theorem dX1_joinFaces_89 : decode cX1_joinFaces 89 = .ok (.iaload, 1) := by decide +kernel
theorem dX1_joinFaces_90 : decode cX1_joinFaces 90 = .ok (.iadd, 1) := by decide +kernel
theorem dX1_joinFaces_91 : decode cX1_joinFaces 91 = .ok (.invokevirtual 79, 3) := by decide +kernel
theorem dX1_joinFaces_94 : decode cX1_joinFaces 94 = .ok (.iinc 1 1, 3) := by decide +kernel
theorem dX1_joinFaces_97 : decode cX1_joinFaces 97 = .ok (.goto (-50), 3) := by decide +kernel
theorem dX1_joinFaces_100 : decode cX1_joinFaces 100 = .ok (.aload_n 0, 1) := by decide +kernel
theorem dX1_joinFaces_101 : decode cX1_joinFaces 101 = .ok (.getfield 55, 3) := by decide +kernel
theorem dX1_joinFaces_104 : decode cX1_joinFaces 104 = .ok (.iconst 1, 1) := by decide +kernel
theorem dX1_joinFaces_105 : decode cX1_joinFaces 105 = .ok (.if_icmp .ne 20, 3) := by decide +kernel
theorem dX1_joinFaces_108 : decode cX1_joinFaces 108 = .ok (.aload_n 0, 1) := by decide +kernel
theorem dX1_joinFaces_109 : decode cX1_joinFaces 109 = .ok (.aload_n 0, 1) := by decide +kernel
theorem dX1_joinFaces_110 : decode cX1_joinFaces 110 = .ok (.getfield 64, 3) := by decide +kernel
theorem dX1_joinFaces_113 : decode cX1_joinFaces 113 = .ok (.iconst 1, 1) := by decide +kernel
theorem dX1_joinFaces_114 : decode cX1_joinFaces 114 = .ok (.isub, 1) := by decide +kernel
theorem dX1_joinFaces_115 : decode cX1_joinFaces 115 = .ok (.iconst 0, 1) := by decide +kernel
theorem dX1_joinFaces_116 : decode cX1_joinFaces 116 = .ok (.aload_n 0, 1) := by decide +kernel
theorem dX1_joinFaces_117 : decode cX1_joinFaces 117 = .ok (.getfield 61, 3) := by decide +kernel
theorem dX1_joinFaces_120 : decode cX1_joinFaces 120 = .ok (.iconst 1, 1) := by decide +kernel
theorem dX1_joinFaces_121 : decode cX1_joinFaces 121 = .ok (.isub, 1) := by decide +kernel
theorem dX1_joinFaces_122 : decode cX1_joinFaces 122 = .ok (.invokevirtual 79, 3) := by decide +kernel
theorem dX1_joinFaces_125 : decode cX1_joinFaces 125 = .ok (.return_, 1) := by decide +kernel
theorem dX1_join_0 : decode cX1_join 0 = .ok (.aload_n 0, 1) := by decide +kernel
theorem dX1_join_1 : decode cX1_join 1 = .ok (.getfield 9, 3) := by decide +kernel
theorem dX1_join_4 : decode cX1_join 4 = .ok (.bipush 12, 2) := by decide +kernel
theorem dX1_join_6 : decode cX1_join 6 = .ok (.if_icmp .lt 4, 3) := by decide +kernel
theorem dX1_join_9 : decode cX1_join 9 = .ok (.return_, 1) := by decide +kernel
theorem dX1_join_10 : decode cX1_join 10 = .ok (.aload_n 0, 1) := by decide +kernel
theorem dX1_join_11 : decode cX1_join 11 = .ok (.getfield 28, 3) := by decide +kernel
theorem dX1_join_14 : decode cX1_join 14 = .ok (.aload_n 0, 1) := by decide +kernel
theorem dX1_join_15 : decode cX1_join 15 = .ok (.getfield 9, 3) := by decide +kernel
theorem dX1_join_18 : decode cX1_join 18 = .ok (.iload_n 1, 1) := by decide +kernel
theorem dX1_join_19 : decode cX1_join 19 = .ok (.iastore, 1) := by decide +kernel
theorem dX1_join_20 : decode cX1_join 20 = .ok (.aload_n 0, 1) := by decide +kernel
theorem dX1_join_21 : decode cX1_join 21 = .ok (.getfield 31, 3) := by decide +kernel
theorem dX1_join_24 : decode cX1_join 24 = .ok (.aload_n 0, 1) := by decide +kernel
theorem dX1_join_25 : decode cX1_join 25 = .ok (.getfield 9, 3) := by decide +kernel
theorem dX1_join_28 : decode cX1_join 28 = .ok (.iload_n 2, 1) := by decide +kernel
theorem dX1_join_29 : decode cX1_join 29 = .ok (.iastore, 1) := by decide +kernel
theorem dX1_join_30 : decode cX1_join 30 = .ok (.aload_n 0, 1) := by decide +kernel
theorem dX1_join_31 : decode cX1_join 31 = .ok (.getfield 34, 3) := by decide +kernel
theorem dX1_join_34 : decode cX1_join 34 = .ok (.aload_n 0, 1) := by decide +kernel
theorem dX1_join_35 : decode cX1_join 35 = .ok (.getfield 9, 3) := by decide +kernel
theorem dX1_join_38 : decode cX1_join 38 = .ok (.iload_n 3, 1) := by decide +kernel
theorem dX1_join_39 : decode cX1_join 39 = .ok (.iastore, 1) := by decide +kernel
theorem dX1_join_40 : decode cX1_join 40 = .ok (.aload_n 0, 1) := by decide +kernel
theorem dX1_join_41 : decode cX1_join 41 = .ok (.getfield 49, 3) := by decide +kernel
theorem dX1_join_44 : decode cX1_join 44 = .ok (.iload_n 1, 1) := by decide +kernel
theorem dX1_join_45 : decode cX1_join 45 = .ok (.dup2, 1) := by decide +kernel
theorem dX1_join_46 : decode cX1_join 46 = .ok (.iaload, 1) := by decide +kernel
theorem dX1_join_47 : decode cX1_join 47 = .ok (.iconst 1, 1) := by decide +kernel
theorem dX1_join_48 : decode cX1_join 48 = .ok (.aload_n 0, 1) := by decide +kernel
theorem dX1_join_49 : decode cX1_join 49 = .ok (.getfield 9, 3) := by decide +kernel
theorem dX1_join_52 : decode cX1_join 52 = .ok (.ishl, 1) := by decide +kernel
theorem dX1_join_53 : decode cX1_join 53 = .ok (.ior, 1) := by decide +kernel
theorem dX1_join_54 : decode cX1_join 54 = .ok (.iastore, 1) := by decide +kernel
theorem dX1_join_55 : decode cX1_join 55 = .ok (.aload_n 0, 1) := by decide +kernel
theorem dX1_join_56 : decode cX1_join 56 = .ok (.getfield 49, 3) := by decide +kernel
theorem dX1_join_59 : decode cX1_join 59 = .ok (.iload_n 2, 1) := by decide +kernel
theorem dX1_join_60 : decode cX1_join 60 = .ok (.dup2, 1) := by decide +kernel
theorem dX1_join_61 : decode cX1_join 61 = .ok (.iaload, 1) := by decide +kernel
theorem dX1_join_62 : decode cX1_join 62 = .ok (.iconst 1, 1) := by decide +kernel
theorem dX1_join_63 : decode cX1_join 63 = .ok (.aload_n 0, 1) := by decide +kernel
theorem dX1_join_64 : decode cX1_join 64 = .ok (.getfield 9, 3) := by decide +kernel
theorem dX1_join_67 : decode cX1_join 67 = .ok (.ishl, 1) := by decide +kernel
theorem dX1_join_68 : decode cX1_join 68 = .ok (.ior, 1) := by decide +kernel
theorem dX1_join_69 : decode cX1_join 69 = .ok (.iastore, 1) := by decide +kernel
theorem dX1_join_70 : decode cX1_join 70 = .ok (.aload_n 0, 1) := by decide +kernel
theorem dX1_join_71 : decode cX1_join 71 = .ok (.dup, 1) := by decide +kernel
theorem dX1_join_72 : decode cX1_join 72 = .ok (.getfield 9, 3) := by decide +kernel
theorem dX1_join_75 : decode cX1_join 75 = .ok (.iconst 1, 1) := by decide +kernel
theorem dX1_join_76 : decode cX1_join 76 = .ok (.iadd, 1) := by decide +kernel
theorem dX1_join_77 : decode cX1_join 77 = .ok (.putfield 9, 3) := by decide +kernel
theorem dX1_join_80 : decode cX1_join 80 = .ok (.return_, 1) := by decide +kernel
theorem dX1_measure_0 : decode cX1_measure 0 = .ok (.iconst 0, 1) := by decide +kernel
theorem dX1_measure_1 : decode cX1_measure 1 = .ok (.istore_n 1, 1) := by decide +kernel
theorem dX1_measure_2 : decode cX1_measure 2 = .ok (.iload_n 1, 1) := by decide +kernel
theorem dX1_measure_3 : decode cX1_measure 3 = .ok (.aload_n 0, 1) := by decide +kernel
theorem dX1_measure_4 : decode cX1_measure 4 = .ok (.getfield 64, 3) := by decide +kernel
theorem dX1_measure_7 : decode cX1_measure 7 = .ok (.if_icmp .ge 48, 3) := by decide +kernel
theorem dX1_measure_10 : decode cX1_measure 10 = .ok (.aload_n 0, 1) := by decide +kernel
theorem dX1_measure_11 : decode cX1_measure 11 = .ok (.getfield 25, 3) := by decide +kernel
theorem dX1_measure_14 : decode cX1_measure 14 = .ok (.iload_n 1, 1) := by decide +kernel
theorem dX1_measure_15 : decode cX1_measure 15 = .ok (.iconst 1, 1) := by decide +kernel
theorem dX1_measure_16 : decode cX1_measure 16 = .ok (.iadd, 1) := by decide +kernel
theorem dX1_measure_17 : decode cX1_measure 17 = .ok (.aload_n 0, 1) := by decide +kernel
theorem dX1_measure_18 : decode cX1_measure 18 = .ok (.getfield 25, 3) := by decide +kernel
theorem dX1_measure_21 : decode cX1_measure 21 = .ok (.iload_n 1, 1) := by decide +kernel
theorem dX1_measure_22 : decode cX1_measure 22 = .ok (.iaload, 1) := by decide +kernel
theorem dX1_measure_23 : decode cX1_measure 23 = .ok (.aload_n 0, 1) := by decide +kernel
theorem dX1_measure_24 : decode cX1_measure 24 = .ok (.iload_n 1, 1) := by decide +kernel
theorem dX1_measure_25 : decode cX1_measure 25 = .ok (.invokevirtual 83, 3) := by decide +kernel
theorem dX1_measure_28 : decode cX1_measure 28 = .ok (.ifCond .eq 12, 3) := by decide +kernel
theorem dX1_measure_31 : decode cX1_measure 31 = .ok (.aload_n 0, 1) := by decide +kernel
theorem dX1_measure_32 : decode cX1_measure 32 = .ok (.getfield 22, 3) := by decide +kernel
theorem dX1_measure_35 : decode cX1_measure 35 = .ok (.iload_n 1, 1) := by decide +kernel
theorem dX1_measure_36 : decode cX1_measure 36 = .ok (.iaload, 1) := by decide +kernel
theorem dX1_measure_37 : decode cX1_measure 37 = .ok (.goto 10, 3) := by decide +kernel
theorem dX1_measure_40 : decode cX1_measure 40 = .ok (.aload_n 0, 1) := by decide +kernel
theorem dX1_measure_41 : decode cX1_measure 41 = .ok (.getfield 22, 3) := by decide +kernel
theorem dX1_measure_44 : decode cX1_measure 44 = .ok (.iload_n 1, 1) := by decide +kernel
theorem dX1_measure_45 : decode cX1_measure 45 = .ok (.iaload, 1) := by decide +kernel
theorem dX1_measure_46 : decode cX1_measure 46 = .ok (.ineg, 1) := by decide +kernel
theorem dX1_measure_47 : decode cX1_measure 47 = .ok (.iadd, 1) := by decide +kernel
theorem dX1_measure_48 : decode cX1_measure 48 = .ok (.iastore, 1) := by decide +kernel
theorem dX1_measure_49 : decode cX1_measure 49 = .ok (.iinc 1 1, 3) := by decide +kernel
theorem dX1_measure_52 : decode cX1_measure 52 = .ok (.goto (-50), 3) := by decide +kernel
theorem dX1_measure_55 : decode cX1_measure 55 = .ok (.iconst 0, 1) := by decide +kernel
theorem dX1_measure_56 : decode cX1_measure 56 = .ok (.istore_n 1, 1) := by decide +kernel
theorem dX1_measure_57 : decode cX1_measure 57 = .ok (.iload_n 1, 1) := by decide +kernel
theorem dX1_measure_58 : decode cX1_measure 58 = .ok (.aload_n 0, 1) := by decide +kernel
theorem dX1_measure_59 : decode cX1_measure 59 = .ok (.getfield 9, 3) := by decide +kernel
theorem dX1_measure_62 : decode cX1_measure 62 = .ok (.if_icmp .ge 44, 3) := by decide +kernel
theorem dX1_measure_65 : decode cX1_measure 65 = .ok (.aload_n 0, 1) := by decide +kernel
theorem dX1_measure_66 : decode cX1_measure 66 = .ok (.getfield 40, 3) := by decide +kernel
theorem dX1_measure_69 : decode cX1_measure 69 = .ok (.iload_n 1, 1) := by decide +kernel
theorem dX1_measure_70 : decode cX1_measure 70 = .ok (.aload_n 0, 1) := by decide +kernel
theorem dX1_measure_71 : decode cX1_measure 71 = .ok (.getfield 55, 3) := by decide +kernel
theorem dX1_measure_74 : decode cX1_measure 74 = .ok (.iconst 2, 1) := by decide +kernel
theorem dX1_measure_75 : decode cX1_measure 75 = .ok (.if_icmp .ne 11, 3) := by decide +kernel
theorem dX1_measure_78 : decode cX1_measure 78 = .ok (.aload_n 0, 1) := by decide +kernel
theorem dX1_measure_79 : decode cX1_measure 79 = .ok (.iload_n 1, 1) := by decide +kernel
theorem dX1_measure_80 : decode cX1_measure 80 = .ok (.invokevirtual 87, 3) := by decide +kernel
theorem dX1_measure_83 : decode cX1_measure 83 = .ok (.goto 16, 3) := by decide +kernel
theorem dX1_measure_86 : decode cX1_measure 86 = .ok (.aload_n 0, 1) := by decide +kernel
theorem dX1_measure_87 : decode cX1_measure 87 = .ok (.getfield 25, 3) := by decide +kernel
theorem dX1_measure_90 : decode cX1_measure 90 = .ok (.aload_n 0, 1) := by decide +kernel
theorem dX1_measure_91 : decode cX1_measure 91 = .ok (.getfield 28, 3) := by decide +kernel
theorem dX1_measure_94 : decode cX1_measure 94 = .ok (.iload_n 1, 1) := by decide +kernel
theorem dX1_measure_95 : decode cX1_measure 95 = .ok (.iaload, 1) := by decide +kernel
theorem dX1_measure_96 : decode cX1_measure 96 = .ok (.iconst 1, 1) := by decide +kernel
theorem dX1_measure_97 : decode cX1_measure 97 = .ok (.iadd, 1) := by decide +kernel
theorem dX1_measure_98 : decode cX1_measure 98 = .ok (.iaload, 1) := by decide +kernel
theorem dX1_measure_99 : decode cX1_measure 99 = .ok (.iastore, 1) := by decide +kernel
theorem dX1_measure_100 : decode cX1_measure 100 = .ok (.iinc 1 1, 3) := by decide +kernel
theorem dX1_measure_103 : decode cX1_measure 103 = .ok (.goto (-46), 3) := by decide +kernel
theorem dX1_measure_106 : decode cX1_measure 106 = .ok (.iconst 0, 1) := by decide +kernel
theorem dX1_measure_107 : decode cX1_measure 107 = .ok (.istore_n 1, 1) := by decide +kernel
theorem dX1_measure_108 : decode cX1_measure 108 = .ok (.iload_n 1, 1) := by decide +kernel
theorem dX1_measure_109 : decode cX1_measure 109 = .ok (.aload_n 0, 1) := by decide +kernel
theorem dX1_measure_110 : decode cX1_measure 110 = .ok (.getfield 9, 3) := by decide +kernel
theorem dX1_measure_113 : decode cX1_measure 113 = .ok (.if_icmp .ge 43, 3) := by decide +kernel
theorem dX1_measure_116 : decode cX1_measure 116 = .ok (.aload_n 0, 1) := by decide +kernel
theorem dX1_measure_117 : decode cX1_measure 117 = .ok (.getfield 43, 3) := by decide +kernel
theorem dX1_measure_120 : decode cX1_measure 120 = .ok (.iload_n 1, 1) := by decide +kernel
theorem dX1_measure_121 : decode cX1_measure 121 = .ok (.aload_n 0, 1) := by decide +kernel
theorem dX1_measure_122 : decode cX1_measure 122 = .ok (.getfield 55, 3) := by decide +kernel
theorem dX1_measure_125 : decode cX1_measure 125 = .ok (.iconst 2, 1) := by decide +kernel
theorem dX1_measure_126 : decode cX1_measure 126 = .ok (.if_icmp .ne 7, 3) := by decide +kernel
theorem dX1_measure_129 : decode cX1_measure 129 = .ok (.iconst 0, 1) := by decide +kernel
theorem dX1_measure_130 : decode cX1_measure 130 = .ok (.goto 8, 3) := by decide +kernel
theorem dX1_measure_133 : decode cX1_measure 133 = .ok (.aload_n 0, 1) := by decide +kernel
theorem dX1_measure_134 : decode cX1_measure 134 = .ok (.iload_n 1, 1) := by decide +kernel
theorem dX1_measure_135 : decode cX1_measure 135 = .ok (.invokevirtual 91, 3) := by decide +kernel
theorem dX1_measure_138 : decode cX1_measure 138 = .ok (.iastore, 1) := by decide +kernel
theorem dX1_measure_139 : decode cX1_measure 139 = .ok (.aload_n 0, 1) := by decide +kernel
theorem dX1_measure_140 : decode cX1_measure 140 = .ok (.getfield 46, 3) := by decide +kernel
theorem dX1_measure_143 : decode cX1_measure 143 = .ok (.iload_n 1, 1) := by decide +kernel
theorem dX1_measure_144 : decode cX1_measure 144 = .ok (.aload_n 0, 1) := by decide +kernel
theorem dX1_measure_145 : decode cX1_measure 145 = .ok (.iload_n 1, 1) := by decide +kernel
theorem dX1_measure_146 : decode cX1_measure 146 = .ok (.invokevirtual 94, 3) := by decide +kernel
theorem dX1_measure_149 : decode cX1_measure 149 = .ok (.iastore, 1) := by decide +kernel
theorem dX1_measure_150 : decode cX1_measure 150 = .ok (.iinc 1 1, 3) := by decide +kernel
theorem dX1_measure_153 : decode cX1_measure 153 = .ok (.goto (-45), 3) := by decide +kernel
theorem dX1_measure_156 : decode cX1_measure 156 = .ok (.return_, 1) := by decide +kernel
theorem dX1_sideOf_0 : decode cX1_sideOf 0 = .ok (.aload_n 0, 1) := by decide +kernel
theorem dX1_sideOf_1 : decode cX1_sideOf 1 = .ok (.getfield 28, 3) := by decide +kernel
theorem dX1_sideOf_4 : decode cX1_sideOf 4 = .ok (.iload_n 1, 1) := by decide +kernel
theorem dX1_sideOf_5 : decode cX1_sideOf 5 = .ok (.iaload, 1) := by decide +kernel
theorem dX1_sideOf_6 : decode cX1_sideOf 6 = .ok (.istore_n 2, 1) := by decide +kernel
theorem dX1_sideOf_7 : decode cX1_sideOf 7 = .ok (.aload_n 0, 1) := by decide +kernel
theorem dX1_sideOf_8 : decode cX1_sideOf 8 = .ok (.getfield 15, 3) := by decide +kernel
theorem dX1_sideOf_11 : decode cX1_sideOf 11 = .ok (.iload_n 2, 1) := by decide +kernel
theorem dX1_sideOf_12 : decode cX1_sideOf 12 = .ok (.iaload, 1) := by decide +kernel
theorem dX1_sideOf_13 : decode cX1_sideOf 13 = .ok (.aload_n 0, 1) := by decide +kernel
theorem dX1_sideOf_14 : decode cX1_sideOf 14 = .ok (.getfield 15, 3) := by decide +kernel
theorem dX1_sideOf_17 : decode cX1_sideOf 17 = .ok (.aload_n 0, 1) := by decide +kernel
theorem dX1_sideOf_18 : decode cX1_sideOf 18 = .ok (.getfield 31, 3) := by decide +kernel
theorem dX1_sideOf_21 : decode cX1_sideOf 21 = .ok (.iload_n 1, 1) := by decide +kernel
theorem dX1_sideOf_22 : decode cX1_sideOf 22 = .ok (.iaload, 1) := by decide +kernel
theorem dX1_sideOf_23 : decode cX1_sideOf 23 = .ok (.iaload, 1) := by decide +kernel
theorem dX1_sideOf_24 : decode cX1_sideOf 24 = .ok (.if_icmp .ne 7, 3) := by decide +kernel
theorem dX1_sideOf_27 : decode cX1_sideOf 27 = .ok (.iconst 1, 1) := by decide +kernel
theorem dX1_sideOf_28 : decode cX1_sideOf 28 = .ok (.goto 4, 3) := by decide +kernel
theorem dX1_sideOf_31 : decode cX1_sideOf 31 = .ok (.iconst 0, 1) := by decide +kernel
theorem dX1_sideOf_32 : decode cX1_sideOf 32 = .ok (.istore_n 3, 1) := by decide +kernel
theorem dX1_sideOf_33 : decode cX1_sideOf 33 = .ok (.iload_n 3, 1) := by decide +kernel
theorem dX1_sideOf_34 : decode cX1_sideOf 34 = .ok (.ifCond .eq 14, 3) := by decide +kernel
theorem dX1_sideOf_37 : decode cX1_sideOf 37 = .ok (.aload_n 0, 1) := by decide +kernel
theorem dX1_sideOf_38 : decode cX1_sideOf 38 = .ok (.getfield 19, 3) := by decide +kernel
theorem dX1_sideOf_41 : decode cX1_sideOf 41 = .ok (.iload_n 2, 1) := by decide +kernel
theorem dX1_sideOf_42 : decode cX1_sideOf 42 = .ok (.iaload, 1) := by decide +kernel
theorem dX1_sideOf_43 : decode cX1_sideOf 43 = .ok (.iconst 2, 1) := by decide +kernel
theorem dX1_sideOf_44 : decode cX1_sideOf 44 = .ok (.irem, 1) := by decide +kernel
theorem dX1_sideOf_45 : decode cX1_sideOf 45 = .ok (.goto 13, 3) := by decide +kernel
theorem dX1_sideOf_48 : decode cX1_sideOf 48 = .ok (.iconst 2, 1) := by decide +kernel
theorem dX1_sideOf_49 : decode cX1_sideOf 49 = .ok (.aload_n 0, 1) := by decide +kernel
theorem dX1_sideOf_50 : decode cX1_sideOf 50 = .ok (.getfield 15, 3) := by decide +kernel
theorem dX1_sideOf_53 : decode cX1_sideOf 53 = .ok (.iload_n 2, 1) := by decide +kernel
theorem dX1_sideOf_54 : decode cX1_sideOf 54 = .ok (.iaload, 1) := by decide +kernel
theorem dX1_sideOf_55 : decode cX1_sideOf 55 = .ok (.iconst 2, 1) := by decide +kernel
theorem dX1_sideOf_56 : decode cX1_sideOf 56 = .ok (.irem, 1) := by decide +kernel
theorem dX1_sideOf_57 : decode cX1_sideOf 57 = .ok (.iadd, 1) := by decide +kernel
theorem dX1_sideOf_58 : decode cX1_sideOf 58 = .ok (.ireturn, 1) := by decide +kernel
theorem dX1_facesOver_0 : decode cX1_facesOver 0 = .ok (.iconst 0, 1) := by decide +kernel
theorem dX1_facesOver_1 : decode cX1_facesOver 1 = .ok (.istore_n 2, 1) := by decide +kernel
theorem dX1_facesOver_2 : decode cX1_facesOver 2 = .ok (.iconst 0, 1) := by decide +kernel
theorem dX1_facesOver_3 : decode cX1_facesOver 3 = .ok (.istore_n 3, 1) := by decide +kernel
theorem dX1_facesOver_4 : decode cX1_facesOver 4 = .ok (.iload_n 3, 1) := by decide +kernel
theorem dX1_facesOver_5 : decode cX1_facesOver 5 = .ok (.aload_n 0, 1) := by decide +kernel
theorem dX1_facesOver_6 : decode cX1_facesOver 6 = .ok (.getfield 64, 3) := by decide +kernel
theorem dX1_facesOver_9 : decode cX1_facesOver 9 = .ok (.if_icmp .ge 73, 3) := by decide +kernel
theorem dX1_facesOver_12 : decode cX1_facesOver 12 = .ok (.iload_n 3, 1) := by decide +kernel
theorem dX1_facesOver_13 : decode cX1_facesOver 13 = .ok (.aload_n 0, 1) := by decide +kernel
theorem dX1_facesOver_14 : decode cX1_facesOver 14 = .ok (.getfield 28, 3) := by decide +kernel
theorem dX1_facesOver_17 : decode cX1_facesOver 17 = .ok (.iload_n 1, 1) := by decide +kernel
theorem dX1_facesOver_18 : decode cX1_facesOver 18 = .ok (.iaload, 1) := by decide +kernel
theorem dX1_facesOver_19 : decode cX1_facesOver 19 = .ok (.if_icmp .eq 17, 3) := by decide +kernel
theorem dX1_facesOver_22 : decode cX1_facesOver 22 = .ok (.iload_n 3, 1) := by decide +kernel
theorem dX1_facesOver_23 : decode cX1_facesOver 23 = .ok (.aload_n 0, 1) := by decide +kernel
theorem dX1_facesOver_24 : decode cX1_facesOver 24 = .ok (.getfield 31, 3) := by decide +kernel
theorem dX1_facesOver_27 : decode cX1_facesOver 27 = .ok (.iload_n 1, 1) := by decide +kernel
theorem dX1_facesOver_28 : decode cX1_facesOver 28 = .ok (.iaload, 1) := by decide +kernel
theorem dX1_facesOver_29 : decode cX1_facesOver 29 = .ok (.if_icmp .eq 7, 3) := by decide +kernel
theorem dX1_facesOver_32 : decode cX1_facesOver 32 = .ok (.iconst 1, 1) := by decide +kernel
theorem dX1_facesOver_33 : decode cX1_facesOver 33 = .ok (.goto 4, 3) := by decide +kernel
theorem dX1_facesOver_36 : decode cX1_facesOver 36 = .ok (.iconst 0, 1) := by decide +kernel
theorem dX1_facesOver_37 : decode cX1_facesOver 37 = .ok (.istore 4, 2) := by decide +kernel
theorem dX1_facesOver_39 : decode cX1_facesOver 39 = .ok (.iload 4, 2) := by decide +kernel
theorem dX1_facesOver_41 : decode cX1_facesOver 41 = .ok (.ifCond .eq 35, 3) := by decide +kernel
theorem dX1_facesOver_44 : decode cX1_facesOver 44 = .ok (.aload_n 0, 1) := by decide +kernel
theorem dX1_facesOver_45 : decode cX1_facesOver 45 = .ok (.getfield 40, 3) := by decide +kernel
theorem dX1_facesOver_48 : decode cX1_facesOver 48 = .ok (.iload_n 1, 1) := by decide +kernel
theorem dX1_facesOver_49 : decode cX1_facesOver 49 = .ok (.iaload, 1) := by decide +kernel
theorem dX1_facesOver_50 : decode cX1_facesOver 50 = .ok (.aload_n 0, 1) := by decide +kernel
theorem dX1_facesOver_51 : decode cX1_facesOver 51 = .ok (.getfield 25, 3) := by decide +kernel
theorem dX1_facesOver_54 : decode cX1_facesOver 54 = .ok (.iload_n 3, 1) := by decide +kernel
theorem dX1_facesOver_55 : decode cX1_facesOver 55 = .ok (.iaload, 1) := by decide +kernel
theorem dX1_facesOver_56 : decode cX1_facesOver 56 = .ok (.aload_n 0, 1) := by decide +kernel
theorem dX1_facesOver_57 : decode cX1_facesOver 57 = .ok (.getfield 25, 3) := by decide +kernel
theorem dX1_facesOver_60 : decode cX1_facesOver 60 = .ok (.iload_n 3, 1) := by decide +kernel
theorem dX1_facesOver_61 : decode cX1_facesOver 61 = .ok (.iconst 1, 1) := by decide +kernel
theorem dX1_facesOver_62 : decode cX1_facesOver 62 = .ok (.iadd, 1) := by decide +kernel
theorem dX1_facesOver_63 : decode cX1_facesOver 63 = .ok (.iaload, 1) := by decide +kernel
theorem dX1_facesOver_64 : decode cX1_facesOver 64 = .ok (.invokestatic 97, 3) := by decide +kernel
theorem dX1_facesOver_67 : decode cX1_facesOver 67 = .ok (.ifCond .eq 9, 3) := by decide +kernel
theorem dX1_facesOver_70 : decode cX1_facesOver 70 = .ok (.iload_n 2, 1) := by decide +kernel
theorem dX1_facesOver_71 : decode cX1_facesOver 71 = .ok (.iconst 1, 1) := by decide +kernel
theorem dX1_facesOver_72 : decode cX1_facesOver 72 = .ok (.iload_n 3, 1) := by decide +kernel
theorem dX1_facesOver_73 : decode cX1_facesOver 73 = .ok (.ishl, 1) := by decide +kernel
theorem dX1_facesOver_74 : decode cX1_facesOver 74 = .ok (.ior, 1) := by decide +kernel
theorem dX1_facesOver_75 : decode cX1_facesOver 75 = .ok (.istore_n 2, 1) := by decide +kernel
theorem dX1_facesOver_76 : decode cX1_facesOver 76 = .ok (.iinc 3 1, 3) := by decide +kernel
theorem dX1_facesOver_79 : decode cX1_facesOver 79 = .ok (.goto (-75), 3) := by decide +kernel
theorem dX1_facesOver_82 : decode cX1_facesOver 82 = .ok (.iload_n 2, 1) := by decide +kernel
theorem dX1_facesOver_83 : decode cX1_facesOver 83 = .ok (.ireturn, 1) := by decide +kernel
theorem dX1_rivalsOf_0 : decode cX1_rivalsOf 0 = .ok (.iconst 0, 1) := by decide +kernel
theorem dX1_rivalsOf_1 : decode cX1_rivalsOf 1 = .ok (.istore_n 2, 1) := by decide +kernel
theorem dX1_rivalsOf_2 : decode cX1_rivalsOf 2 = .ok (.iconst 0, 1) := by decide +kernel
theorem dX1_rivalsOf_3 : decode cX1_rivalsOf 3 = .ok (.istore_n 3, 1) := by decide +kernel
theorem dX1_rivalsOf_4 : decode cX1_rivalsOf 4 = .ok (.iload_n 3, 1) := by decide +kernel
theorem dX1_rivalsOf_5 : decode cX1_rivalsOf 5 = .ok (.aload_n 0, 1) := by decide +kernel
theorem dX1_rivalsOf_6 : decode cX1_rivalsOf 6 = .ok (.getfield 9, 3) := by decide +kernel
theorem dX1_rivalsOf_9 : decode cX1_rivalsOf 9 = .ok (.if_icmp .ge 53, 3) := by decide +kernel
theorem dX1_rivalsOf_12 : decode cX1_rivalsOf 12 = .ok (.iload_n 3, 1) := by decide +kernel
theorem dX1_rivalsOf_13 : decode cX1_rivalsOf 13 = .ok (.iload_n 1, 1) := by decide +kernel
theorem dX1_rivalsOf_14 : decode cX1_rivalsOf 14 = .ok (.if_icmp .eq 42, 3) := by decide +kernel
theorem dX1_rivalsOf_17 : decode cX1_rivalsOf 17 = .ok (.aload_n 0, 1) := by decide +kernel
theorem dX1_rivalsOf_18 : decode cX1_rivalsOf 18 = .ok (.getfield 40, 3) := by decide +kernel
theorem dX1_rivalsOf_21 : decode cX1_rivalsOf 21 = .ok (.iload_n 3, 1) := by decide +kernel
theorem dX1_rivalsOf_22 : decode cX1_rivalsOf 22 = .ok (.iaload, 1) := by decide +kernel
theorem dX1_rivalsOf_23 : decode cX1_rivalsOf 23 = .ok (.aload_n 0, 1) := by decide +kernel
theorem dX1_rivalsOf_24 : decode cX1_rivalsOf 24 = .ok (.getfield 40, 3) := by decide +kernel
theorem dX1_rivalsOf_27 : decode cX1_rivalsOf 27 = .ok (.iload_n 1, 1) := by decide +kernel
theorem dX1_rivalsOf_28 : decode cX1_rivalsOf 28 = .ok (.iaload, 1) := by decide +kernel
theorem dX1_rivalsOf_29 : decode cX1_rivalsOf 29 = .ok (.if_icmp .ne 27, 3) := by decide +kernel
theorem dX1_rivalsOf_32 : decode cX1_rivalsOf 32 = .ok (.aload_n 0, 1) := by decide +kernel
theorem dX1_rivalsOf_33 : decode cX1_rivalsOf 33 = .ok (.iload_n 3, 1) := by decide +kernel
theorem dX1_rivalsOf_34 : decode cX1_rivalsOf 34 = .ok (.iload_n 1, 1) := by decide +kernel
theorem dX1_rivalsOf_35 : decode cX1_rivalsOf 35 = .ok (.invokevirtual 101, 3) := by decide +kernel
theorem dX1_rivalsOf_38 : decode cX1_rivalsOf 38 = .ok (.ifCond .eq 18, 3) := by decide +kernel
theorem dX1_rivalsOf_41 : decode cX1_rivalsOf 41 = .ok (.aload_n 0, 1) := by decide +kernel
theorem dX1_rivalsOf_42 : decode cX1_rivalsOf 42 = .ok (.iload_n 3, 1) := by decide +kernel
theorem dX1_rivalsOf_43 : decode cX1_rivalsOf 43 = .ok (.iload_n 1, 1) := by decide +kernel
theorem dX1_rivalsOf_44 : decode cX1_rivalsOf 44 = .ok (.invokevirtual 105, 3) := by decide +kernel
theorem dX1_rivalsOf_47 : decode cX1_rivalsOf 47 = .ok (.ifCond .eq 9, 3) := by decide +kernel
theorem dX1_rivalsOf_50 : decode cX1_rivalsOf 50 = .ok (.iload_n 2, 1) := by decide +kernel
theorem dX1_rivalsOf_51 : decode cX1_rivalsOf 51 = .ok (.iconst 1, 1) := by decide +kernel
theorem dX1_rivalsOf_52 : decode cX1_rivalsOf 52 = .ok (.iload_n 3, 1) := by decide +kernel
theorem dX1_rivalsOf_53 : decode cX1_rivalsOf 53 = .ok (.ishl, 1) := by decide +kernel
theorem dX1_rivalsOf_54 : decode cX1_rivalsOf 54 = .ok (.ior, 1) := by decide +kernel
theorem dX1_rivalsOf_55 : decode cX1_rivalsOf 55 = .ok (.istore_n 2, 1) := by decide +kernel
theorem dX1_rivalsOf_56 : decode cX1_rivalsOf 56 = .ok (.iinc 3 1, 3) := by decide +kernel
theorem dX1_rivalsOf_59 : decode cX1_rivalsOf 59 = .ok (.goto (-55), 3) := by decide +kernel
theorem dX1_rivalsOf_62 : decode cX1_rivalsOf 62 = .ok (.iload_n 2, 1) := by decide +kernel
theorem dX1_rivalsOf_63 : decode cX1_rivalsOf 63 = .ok (.ireturn, 1) := by decide +kernel
theorem dX1_onOneSide_0 : decode cX1_onOneSide 0 = .ok (.aload_n 0, 1) := by decide +kernel
theorem dX1_onOneSide_1 : decode cX1_onOneSide 1 = .ok (.getfield 55, 3) := by decide +kernel
theorem dX1_onOneSide_4 : decode cX1_onOneSide 4 = .ok (.iconst 2, 1) := by decide +kernel
theorem dX1_onOneSide_5 : decode cX1_onOneSide 5 = .ok (.if_icmp .eq 26, 3) := by decide +kernel
theorem dX1_onOneSide_8 : decode cX1_onOneSide 8 = .ok (.aload_n 0, 1) := by decide +kernel
theorem dX1_onOneSide_9 : decode cX1_onOneSide 9 = .ok (.aload_n 0, 1) := by decide +kernel
theorem dX1_onOneSide_10 : decode cX1_onOneSide 10 = .ok (.getfield 28, 3) := by decide +kernel
theorem dX1_onOneSide_13 : decode cX1_onOneSide 13 = .ok (.iload_n 1, 1) := by decide +kernel
theorem dX1_onOneSide_14 : decode cX1_onOneSide 14 = .ok (.iaload, 1) := by decide +kernel
theorem dX1_onOneSide_15 : decode cX1_onOneSide 15 = .ok (.invokevirtual 83, 3) := by decide +kernel
theorem dX1_onOneSide_18 : decode cX1_onOneSide 18 = .ok (.aload_n 0, 1) := by decide +kernel
theorem dX1_onOneSide_19 : decode cX1_onOneSide 19 = .ok (.aload_n 0, 1) := by decide +kernel
theorem dX1_onOneSide_20 : decode cX1_onOneSide 20 = .ok (.getfield 28, 3) := by decide +kernel
theorem dX1_onOneSide_23 : decode cX1_onOneSide 23 = .ok (.iload_n 2, 1) := by decide +kernel
theorem dX1_onOneSide_24 : decode cX1_onOneSide 24 = .ok (.iaload, 1) := by decide +kernel
theorem dX1_onOneSide_25 : decode cX1_onOneSide 25 = .ok (.invokevirtual 83, 3) := by decide +kernel
theorem dX1_onOneSide_28 : decode cX1_onOneSide 28 = .ok (.if_icmp .ne 7, 3) := by decide +kernel
theorem dX1_onOneSide_31 : decode cX1_onOneSide 31 = .ok (.iconst 1, 1) := by decide +kernel
theorem dX1_onOneSide_32 : decode cX1_onOneSide 32 = .ok (.goto 4, 3) := by decide +kernel
theorem dX1_onOneSide_35 : decode cX1_onOneSide 35 = .ok (.iconst 0, 1) := by decide +kernel
theorem dX1_onOneSide_36 : decode cX1_onOneSide 36 = .ok (.ireturn, 1) := by decide +kernel
theorem dX1_haveFourFaces_0 : decode cX1_haveFourFaces 0 = .ok (.aload_n 0, 1) := by decide +kernel
theorem dX1_haveFourFaces_1 : decode cX1_haveFourFaces 1 = .ok (.getfield 28, 3) := by decide +kernel
theorem dX1_haveFourFaces_4 : decode cX1_haveFourFaces 4 = .ok (.iload_n 1, 1) := by decide +kernel
theorem dX1_haveFourFaces_5 : decode cX1_haveFourFaces 5 = .ok (.iaload, 1) := by decide +kernel
theorem dX1_haveFourFaces_6 : decode cX1_haveFourFaces 6 = .ok (.aload_n 0, 1) := by decide +kernel
theorem dX1_haveFourFaces_7 : decode cX1_haveFourFaces 7 = .ok (.getfield 28, 3) := by decide +kernel
theorem dX1_haveFourFaces_10 : decode cX1_haveFourFaces 10 = .ok (.iload_n 2, 1) := by decide +kernel
theorem dX1_haveFourFaces_11 : decode cX1_haveFourFaces 11 = .ok (.iaload, 1) := by decide +kernel
theorem dX1_haveFourFaces_12 : decode cX1_haveFourFaces 12 = .ok (.if_icmp .eq 22, 3) := by decide +kernel
theorem dX1_haveFourFaces_15 : decode cX1_haveFourFaces 15 = .ok (.aload_n 0, 1) := by decide +kernel
theorem dX1_haveFourFaces_16 : decode cX1_haveFourFaces 16 = .ok (.getfield 28, 3) := by decide +kernel
theorem dX1_haveFourFaces_19 : decode cX1_haveFourFaces 19 = .ok (.iload_n 1, 1) := by decide +kernel
theorem dX1_haveFourFaces_20 : decode cX1_haveFourFaces 20 = .ok (.iaload, 1) := by decide +kernel
theorem dX1_haveFourFaces_21 : decode cX1_haveFourFaces 21 = .ok (.aload_n 0, 1) := by decide +kernel
theorem dX1_haveFourFaces_22 : decode cX1_haveFourFaces 22 = .ok (.getfield 31, 3) := by decide +kernel
theorem dX1_haveFourFaces_25 : decode cX1_haveFourFaces 25 = .ok (.iload_n 2, 1) := by decide +kernel
theorem dX1_haveFourFaces_26 : decode cX1_haveFourFaces 26 = .ok (.iaload, 1) := by decide +kernel
theorem dX1_haveFourFaces_27 : decode cX1_haveFourFaces 27 = .ok (.if_icmp .eq 7, 3) := by decide +kernel
theorem dX1_haveFourFaces_30 : decode cX1_haveFourFaces 30 = .ok (.iconst 1, 1) := by decide +kernel
theorem dX1_haveFourFaces_31 : decode cX1_haveFourFaces 31 = .ok (.goto 4, 3) := by decide +kernel
theorem dX1_haveFourFaces_34 : decode cX1_haveFourFaces 34 = .ok (.iconst 0, 1) := by decide +kernel
theorem dX1_haveFourFaces_35 : decode cX1_haveFourFaces 35 = .ok (.istore_n 3, 1) := by decide +kernel
theorem dX1_haveFourFaces_36 : decode cX1_haveFourFaces 36 = .ok (.iload_n 3, 1) := by decide +kernel
theorem dX1_haveFourFaces_37 : decode cX1_haveFourFaces 37 = .ok (.ifCond .eq 37, 3) := by decide +kernel
theorem dX1_haveFourFaces_40 : decode cX1_haveFourFaces 40 = .ok (.aload_n 0, 1) := by decide +kernel
theorem dX1_haveFourFaces_41 : decode cX1_haveFourFaces 41 = .ok (.getfield 31, 3) := by decide +kernel
theorem dX1_haveFourFaces_44 : decode cX1_haveFourFaces 44 = .ok (.iload_n 1, 1) := by decide +kernel
theorem dX1_haveFourFaces_45 : decode cX1_haveFourFaces 45 = .ok (.iaload, 1) := by decide +kernel
theorem dX1_haveFourFaces_46 : decode cX1_haveFourFaces 46 = .ok (.aload_n 0, 1) := by decide +kernel
theorem dX1_haveFourFaces_47 : decode cX1_haveFourFaces 47 = .ok (.getfield 28, 3) := by decide +kernel
theorem dX1_haveFourFaces_50 : decode cX1_haveFourFaces 50 = .ok (.iload_n 2, 1) := by decide +kernel
theorem dX1_haveFourFaces_51 : decode cX1_haveFourFaces 51 = .ok (.iaload, 1) := by decide +kernel
theorem dX1_haveFourFaces_52 : decode cX1_haveFourFaces 52 = .ok (.if_icmp .eq 22, 3) := by decide +kernel
theorem dX1_haveFourFaces_55 : decode cX1_haveFourFaces 55 = .ok (.aload_n 0, 1) := by decide +kernel
theorem dX1_haveFourFaces_56 : decode cX1_haveFourFaces 56 = .ok (.getfield 31, 3) := by decide +kernel
theorem dX1_haveFourFaces_59 : decode cX1_haveFourFaces 59 = .ok (.iload_n 1, 1) := by decide +kernel
theorem dX1_haveFourFaces_60 : decode cX1_haveFourFaces 60 = .ok (.iaload, 1) := by decide +kernel
theorem dX1_haveFourFaces_61 : decode cX1_haveFourFaces 61 = .ok (.aload_n 0, 1) := by decide +kernel
theorem dX1_haveFourFaces_62 : decode cX1_haveFourFaces 62 = .ok (.getfield 31, 3) := by decide +kernel
theorem dX1_haveFourFaces_65 : decode cX1_haveFourFaces 65 = .ok (.iload_n 2, 1) := by decide +kernel
theorem dX1_haveFourFaces_66 : decode cX1_haveFourFaces 66 = .ok (.iaload, 1) := by decide +kernel
theorem dX1_haveFourFaces_67 : decode cX1_haveFourFaces 67 = .ok (.if_icmp .eq 7, 3) := by decide +kernel
theorem dX1_haveFourFaces_70 : decode cX1_haveFourFaces 70 = .ok (.iconst 1, 1) := by decide +kernel
theorem dX1_haveFourFaces_71 : decode cX1_haveFourFaces 71 = .ok (.goto 4, 3) := by decide +kernel
theorem dX1_haveFourFaces_74 : decode cX1_haveFourFaces 74 = .ok (.iconst 0, 1) := by decide +kernel
theorem dX1_haveFourFaces_75 : decode cX1_haveFourFaces 75 = .ok (.ireturn, 1) := by decide +kernel
theorem dX1_hasFace_0 : decode cX1_hasFace 0 = .ok (.iload_n 1, 1) := by decide +kernel
theorem dX1_hasFace_1 : decode cX1_hasFace 1 = .ok (.ifCond .lt 15, 3) := by decide +kernel
theorem dX1_hasFace_4 : decode cX1_hasFace 4 = .ok (.iload_n 1, 1) := by decide +kernel
theorem dX1_hasFace_5 : decode cX1_hasFace 5 = .ok (.aload_n 0, 1) := by decide +kernel
theorem dX1_hasFace_6 : decode cX1_hasFace 6 = .ok (.getfield 64, 3) := by decide +kernel
theorem dX1_hasFace_9 : decode cX1_hasFace 9 = .ok (.if_icmp .ge 7, 3) := by decide +kernel
theorem dX1_hasFace_12 : decode cX1_hasFace 12 = .ok (.iconst 1, 1) := by decide +kernel
theorem dX1_hasFace_13 : decode cX1_hasFace 13 = .ok (.goto 4, 3) := by decide +kernel
theorem dX1_hasFace_16 : decode cX1_hasFace 16 = .ok (.iconst 0, 1) := by decide +kernel
theorem dX1_hasFace_17 : decode cX1_hasFace 17 = .ok (.ireturn, 1) := by decide +kernel
theorem dX1_hasCrease_0 : decode cX1_hasCrease 0 = .ok (.iload_n 1, 1) := by decide +kernel
theorem dX1_hasCrease_1 : decode cX1_hasCrease 1 = .ok (.ifCond .lt 15, 3) := by decide +kernel
theorem dX1_hasCrease_4 : decode cX1_hasCrease 4 = .ok (.iload_n 1, 1) := by decide +kernel
theorem dX1_hasCrease_5 : decode cX1_hasCrease 5 = .ok (.aload_n 0, 1) := by decide +kernel
theorem dX1_hasCrease_6 : decode cX1_hasCrease 6 = .ok (.getfield 9, 3) := by decide +kernel
theorem dX1_hasCrease_9 : decode cX1_hasCrease 9 = .ok (.if_icmp .ge 7, 3) := by decide +kernel
theorem dX1_hasCrease_12 : decode cX1_hasCrease 12 = .ok (.iconst 1, 1) := by decide +kernel
theorem dX1_hasCrease_13 : decode cX1_hasCrease 13 = .ok (.goto 4, 3) := by decide +kernel
theorem dX1_hasCrease_16 : decode cX1_hasCrease 16 = .ok (.iconst 0, 1) := by decide +kernel
theorem dX1_hasCrease_17 : decode cX1_hasCrease 17 = .ok (.ireturn, 1) := by decide +kernel
theorem dX1_isFrontUp_0 : decode cX1_isFrontUp 0 = .ok (.aload_n 0, 1) := by decide +kernel
theorem dX1_isFrontUp_1 : decode cX1_isFrontUp 1 = .ok (.getfield 15, 3) := by decide +kernel
theorem dX1_isFrontUp_4 : decode cX1_isFrontUp 4 = .ok (.iload_n 1, 1) := by decide +kernel
theorem dX1_isFrontUp_5 : decode cX1_isFrontUp 5 = .ok (.iaload, 1) := by decide +kernel
theorem dX1_isFrontUp_6 : decode cX1_isFrontUp 6 = .ok (.aload_n 0, 1) := by decide +kernel
theorem dX1_isFrontUp_7 : decode cX1_isFrontUp 7 = .ok (.getfield 19, 3) := by decide +kernel
theorem dX1_isFrontUp_10 : decode cX1_isFrontUp 10 = .ok (.iload_n 1, 1) := by decide +kernel
theorem dX1_isFrontUp_11 : decode cX1_isFrontUp 11 = .ok (.iaload, 1) := by decide +kernel
theorem dX1_isFrontUp_12 : decode cX1_isFrontUp 12 = .ok (.iadd, 1) := by decide +kernel
theorem dX1_isFrontUp_13 : decode cX1_isFrontUp 13 = .ok (.iconst 2, 1) := by decide +kernel
theorem dX1_isFrontUp_14 : decode cX1_isFrontUp 14 = .ok (.irem, 1) := by decide +kernel
theorem dX1_isFrontUp_15 : decode cX1_isFrontUp 15 = .ok (.ifCond .ne 7, 3) := by decide +kernel
theorem dX1_isFrontUp_18 : decode cX1_isFrontUp 18 = .ok (.iconst 1, 1) := by decide +kernel
theorem dX1_isFrontUp_19 : decode cX1_isFrontUp 19 = .ok (.goto 4, 3) := by decide +kernel
theorem dX1_isFrontUp_22 : decode cX1_isFrontUp 22 = .ok (.iconst 0, 1) := by decide +kernel
theorem dX1_isFrontUp_23 : decode cX1_isFrontUp 23 = .ok (.ireturn, 1) := by decide +kernel
theorem dX1_isUneven_0 : decode cX1_isUneven 0 = .ok (.aload_n 0, 1) := by decide +kernel
theorem dX1_isUneven_1 : decode cX1_isUneven 1 = .ok (.getfield 55, 3) := by decide +kernel
theorem dX1_isUneven_4 : decode cX1_isUneven 4 = .ok (.iconst 1, 1) := by decide +kernel
theorem dX1_isUneven_5 : decode cX1_isUneven 5 = .ok (.if_icmp .ne 28, 3) := by decide +kernel
theorem dX1_isUneven_8 : decode cX1_isUneven 8 = .ok (.aload_n 0, 1) := by decide +kernel
theorem dX1_isUneven_9 : decode cX1_isUneven 9 = .ok (.getfield 64, 3) := by decide +kernel
theorem dX1_isUneven_12 : decode cX1_isUneven 12 = .ok (.iconst 2, 1) := by decide +kernel
theorem dX1_isUneven_13 : decode cX1_isUneven 13 = .ok (.irem, 1) := by decide +kernel
theorem dX1_isUneven_14 : decode cX1_isUneven 14 = .ok (.ifCond .ne 15, 3) := by decide +kernel
theorem dX1_isUneven_17 : decode cX1_isUneven 17 = .ok (.aload_n 0, 1) := by decide +kernel
theorem dX1_isUneven_18 : decode cX1_isUneven 18 = .ok (.getfield 25, 3) := by decide +kernel
theorem dX1_isUneven_21 : decode cX1_isUneven 21 = .ok (.aload_n 0, 1) := by decide +kernel
theorem dX1_isUneven_22 : decode cX1_isUneven 22 = .ok (.getfield 64, 3) := by decide +kernel
theorem dX1_isUneven_25 : decode cX1_isUneven 25 = .ok (.iaload, 1) := by decide +kernel
theorem dX1_isUneven_26 : decode cX1_isUneven 26 = .ok (.ifCond .eq 7, 3) := by decide +kernel
theorem dX1_isUneven_29 : decode cX1_isUneven 29 = .ok (.iconst 1, 1) := by decide +kernel
theorem dX1_isUneven_30 : decode cX1_isUneven 30 = .ok (.goto 4, 3) := by decide +kernel
theorem dX1_isUneven_33 : decode cX1_isUneven 33 = .ok (.iconst 0, 1) := by decide +kernel
theorem dX1_isUneven_34 : decode cX1_isUneven 34 = .ok (.ireturn, 1) := by decide +kernel
theorem dX1_marked_0 : decode cX1_marked 0 = .ok (.iconst 0, 1) := by decide +kernel
theorem dX1_marked_1 : decode cX1_marked 1 = .ok (.istore_n 2, 1) := by decide +kernel
theorem dX1_marked_2 : decode cX1_marked 2 = .ok (.iconst 0, 1) := by decide +kernel
theorem dX1_marked_3 : decode cX1_marked 3 = .ok (.istore_n 3, 1) := by decide +kernel
theorem dX1_marked_4 : decode cX1_marked 4 = .ok (.iload_n 3, 1) := by decide +kernel
theorem dX1_marked_5 : decode cX1_marked 5 = .ok (.aload_n 0, 1) := by decide +kernel
theorem dX1_marked_6 : decode cX1_marked 6 = .ok (.getfield 9, 3) := by decide +kernel
theorem dX1_marked_9 : decode cX1_marked 9 = .ok (.if_icmp .ge 25, 3) := by decide +kernel
theorem dX1_marked_12 : decode cX1_marked 12 = .ok (.aload_n 0, 1) := by decide +kernel
theorem dX1_marked_13 : decode cX1_marked 13 = .ok (.getfield 37, 3) := by decide +kernel
theorem dX1_marked_16 : decode cX1_marked 16 = .ok (.iload_n 3, 1) := by decide +kernel
theorem dX1_marked_17 : decode cX1_marked 17 = .ok (.iaload, 1) := by decide +kernel
theorem dX1_marked_18 : decode cX1_marked 18 = .ok (.iload_n 1, 1) := by decide +kernel
theorem dX1_marked_19 : decode cX1_marked 19 = .ok (.if_icmp .ne 9, 3) := by decide +kernel
theorem dX1_marked_22 : decode cX1_marked 22 = .ok (.iload_n 2, 1) := by decide +kernel
theorem dX1_marked_23 : decode cX1_marked 23 = .ok (.iconst 1, 1) := by decide +kernel
theorem dX1_marked_24 : decode cX1_marked 24 = .ok (.iload_n 3, 1) := by decide +kernel
theorem dX1_marked_25 : decode cX1_marked 25 = .ok (.ishl, 1) := by decide +kernel
theorem dX1_marked_26 : decode cX1_marked 26 = .ok (.ior, 1) := by decide +kernel
theorem dX1_marked_27 : decode cX1_marked 27 = .ok (.istore_n 2, 1) := by decide +kernel
theorem dX1_marked_28 : decode cX1_marked 28 = .ok (.iinc 3 1, 3) := by decide +kernel
theorem dX1_marked_31 : decode cX1_marked 31 = .ok (.goto (-27), 3) := by decide +kernel
theorem dX1_marked_34 : decode cX1_marked 34 = .ok (.iload_n 2, 1) := by decide +kernel
theorem dX1_marked_35 : decode cX1_marked 35 = .ok (.ireturn, 1) := by decide +kernel
theorem dX1_becomes_0 : decode cX1_becomes 0 = .ok (.aload_n 2, 1) := by decide +kernel
theorem dX1_becomes_1 : decode cX1_becomes 1 = .ok (.aload_n 0, 1) := by decide +kernel
theorem dX1_becomes_2 : decode cX1_becomes 2 = .ok (.getfield 31, 3) := by decide +kernel
theorem dX1_becomes_5 : decode cX1_becomes 5 = .ok (.iload_n 1, 1) := by decide +kernel
theorem dX1_becomes_6 : decode cX1_becomes 6 = .ok (.iaload, 1) := by decide +kernel
theorem dX1_becomes_7 : decode cX1_becomes 7 = .ok (.iaload, 1) := by decide +kernel
theorem dX1_becomes_8 : decode cX1_becomes 8 = .ok (.aload_n 2, 1) := by decide +kernel
theorem dX1_becomes_9 : decode cX1_becomes 9 = .ok (.aload_n 0, 1) := by decide +kernel
theorem dX1_becomes_10 : decode cX1_becomes 10 = .ok (.getfield 28, 3) := by decide +kernel
theorem dX1_becomes_13 : decode cX1_becomes 13 = .ok (.iload_n 1, 1) := by decide +kernel
theorem dX1_becomes_14 : decode cX1_becomes 14 = .ok (.iaload, 1) := by decide +kernel
theorem dX1_becomes_15 : decode cX1_becomes 15 = .ok (.iaload, 1) := by decide +kernel
theorem dX1_becomes_16 : decode cX1_becomes 16 = .ok (.if_icmp .le 7, 3) := by decide +kernel
theorem dX1_becomes_19 : decode cX1_becomes 19 = .ok (.iconst 1, 1) := by decide +kernel
theorem dX1_becomes_20 : decode cX1_becomes 20 = .ok (.goto 4, 3) := by decide +kernel
theorem dX1_becomes_23 : decode cX1_becomes 23 = .ok (.iconst 0, 1) := by decide +kernel
theorem dX1_becomes_24 : decode cX1_becomes 24 = .ok (.istore_n 3, 1) := by decide +kernel
theorem dX1_becomes_25 : decode cX1_becomes 25 = .ok (.iload_n 3, 1) := by decide +kernel
theorem dX1_becomes_26 : decode cX1_becomes 26 = .ok (.aload_n 0, 1) := by decide +kernel
theorem dX1_becomes_27 : decode cX1_becomes 27 = .ok (.aload_n 0, 1) := by decide +kernel
theorem dX1_becomes_28 : decode cX1_becomes 28 = .ok (.getfield 28, 3) := by decide +kernel
theorem dX1_becomes_31 : decode cX1_becomes 31 = .ok (.iload_n 1, 1) := by decide +kernel
theorem dX1_becomes_32 : decode cX1_becomes 32 = .ok (.iaload, 1) := by decide +kernel
theorem dX1_becomes_33 : decode cX1_becomes 33 = .ok (.invokevirtual 83, 3) := by decide +kernel
theorem dX1_becomes_36 : decode cX1_becomes 36 = .ok (.if_icmp .ne 7, 3) := by decide +kernel
theorem dX1_becomes_39 : decode cX1_becomes 39 = .ok (.iconst 2, 1) := by decide +kernel
theorem dX1_becomes_40 : decode cX1_becomes 40 = .ok (.goto 4, 3) := by decide +kernel
theorem dX1_becomes_43 : decode cX1_becomes 43 = .ok (.iconst 1, 1) := by decide +kernel
theorem dX1_becomes_44 : decode cX1_becomes 44 = .ok (.ireturn, 1) := by decide +kernel
theorem dX1_valleysIn_0 : decode cX1_valleysIn 0 = .ok (.iconst 0, 1) := by decide +kernel
theorem dX1_valleysIn_1 : decode cX1_valleysIn 1 = .ok (.istore_n 2, 1) := by decide +kernel
theorem dX1_valleysIn_2 : decode cX1_valleysIn 2 = .ok (.iconst 0, 1) := by decide +kernel
theorem dX1_valleysIn_3 : decode cX1_valleysIn 3 = .ok (.istore_n 3, 1) := by decide +kernel
theorem dX1_valleysIn_4 : decode cX1_valleysIn 4 = .ok (.iload_n 3, 1) := by decide +kernel
theorem dX1_valleysIn_5 : decode cX1_valleysIn 5 = .ok (.aload_n 0, 1) := by decide +kernel
theorem dX1_valleysIn_6 : decode cX1_valleysIn 6 = .ok (.getfield 9, 3) := by decide +kernel
theorem dX1_valleysIn_9 : decode cX1_valleysIn 9 = .ok (.if_icmp .ge 25, 3) := by decide +kernel
theorem dX1_valleysIn_12 : decode cX1_valleysIn 12 = .ok (.aload_n 0, 1) := by decide +kernel
theorem dX1_valleysIn_13 : decode cX1_valleysIn 13 = .ok (.iload_n 3, 1) := by decide +kernel
theorem dX1_valleysIn_14 : decode cX1_valleysIn 14 = .ok (.aload_n 1, 1) := by decide +kernel
theorem dX1_valleysIn_15 : decode cX1_valleysIn 15 = .ok (.invokevirtual 108, 3) := by decide +kernel
theorem dX1_valleysIn_18 : decode cX1_valleysIn 18 = .ok (.iconst 2, 1) := by decide +kernel
theorem dX1_valleysIn_19 : decode cX1_valleysIn 19 = .ok (.if_icmp .ne 9, 3) := by decide +kernel
theorem dX1_valleysIn_22 : decode cX1_valleysIn 22 = .ok (.iload_n 2, 1) := by decide +kernel
theorem dX1_valleysIn_23 : decode cX1_valleysIn 23 = .ok (.iconst 1, 1) := by decide +kernel
theorem dX1_valleysIn_24 : decode cX1_valleysIn 24 = .ok (.iload_n 3, 1) := by decide +kernel
theorem dX1_valleysIn_25 : decode cX1_valleysIn 25 = .ok (.ishl, 1) := by decide +kernel
theorem dX1_valleysIn_26 : decode cX1_valleysIn 26 = .ok (.ior, 1) := by decide +kernel
theorem dX1_valleysIn_27 : decode cX1_valleysIn 27 = .ok (.istore_n 2, 1) := by decide +kernel
theorem dX1_valleysIn_28 : decode cX1_valleysIn 28 = .ok (.iinc 3 1, 3) := by decide +kernel
theorem dX1_valleysIn_31 : decode cX1_valleysIn 31 = .ok (.goto (-27), 3) := by decide +kernel
theorem dX1_valleysIn_34 : decode cX1_valleysIn 34 = .ok (.iload_n 2, 1) := by decide +kernel
theorem dX1_valleysIn_35 : decode cX1_valleysIn 35 = .ok (.ireturn, 1) := by decide +kernel
theorem dX1_brokenMark_0 : decode cX1_brokenMark 0 = .ok (.iconst 0, 1) := by decide +kernel
theorem dX1_brokenMark_1 : decode cX1_brokenMark 1 = .ok (.istore_n 2, 1) := by decide +kernel
theorem dX1_brokenMark_2 : decode cX1_brokenMark 2 = .ok (.iload_n 2, 1) := by decide +kernel
theorem dX1_brokenMark_3 : decode cX1_brokenMark 3 = .ok (.aload_n 0, 1) := by decide +kernel
theorem dX1_brokenMark_4 : decode cX1_brokenMark 4 = .ok (.getfield 9, 3) := by decide +kernel
theorem dX1_brokenMark_7 : decode cX1_brokenMark 7 = .ok (.if_icmp .ge 42, 3) := by decide +kernel
theorem dX1_brokenMark_10 : decode cX1_brokenMark 10 = .ok (.aload_n 0, 1) := by decide +kernel
theorem dX1_brokenMark_11 : decode cX1_brokenMark 11 = .ok (.getfield 37, 3) := by decide +kernel
theorem dX1_brokenMark_14 : decode cX1_brokenMark 14 = .ok (.iload_n 2, 1) := by decide +kernel
theorem dX1_brokenMark_15 : decode cX1_brokenMark 15 = .ok (.iaload, 1) := by decide +kernel
theorem dX1_brokenMark_16 : decode cX1_brokenMark 16 = .ok (.ifCond .eq 27, 3) := by decide +kernel
theorem dX1_brokenMark_19 : decode cX1_brokenMark 19 = .ok (.aload_n 0, 1) := by decide +kernel
theorem dX1_brokenMark_20 : decode cX1_brokenMark 20 = .ok (.getfield 37, 3) := by decide +kernel
theorem dX1_brokenMark_23 : decode cX1_brokenMark 23 = .ok (.iload_n 2, 1) := by decide +kernel
theorem dX1_brokenMark_24 : decode cX1_brokenMark 24 = .ok (.iaload, 1) := by decide +kernel
theorem dX1_brokenMark_25 : decode cX1_brokenMark 25 = .ok (.aload_n 0, 1) := by decide +kernel
theorem dX1_brokenMark_26 : decode cX1_brokenMark 26 = .ok (.iload_n 2, 1) := by decide +kernel
theorem dX1_brokenMark_27 : decode cX1_brokenMark 27 = .ok (.aload_n 1, 1) := by decide +kernel
theorem dX1_brokenMark_28 : decode cX1_brokenMark 28 = .ok (.invokevirtual 108, 3) := by decide +kernel
theorem dX1_brokenMark_31 : decode cX1_brokenMark 31 = .ok (.if_icmp .eq 12, 3) := by decide +kernel
theorem dX1_brokenMark_34 : decode cX1_brokenMark 34 = .ok (.sipush 10000, 3) := by decide +kernel
theorem dX1_brokenMark_37 : decode cX1_brokenMark 37 = .ok (.bipush 100, 2) := by decide +kernel
theorem dX1_brokenMark_39 : decode cX1_brokenMark 39 = .ok (.iload_n 2, 1) := by decide +kernel
theorem dX1_brokenMark_40 : decode cX1_brokenMark 40 = .ok (.imul, 1) := by decide +kernel
theorem dX1_brokenMark_41 : decode cX1_brokenMark 41 = .ok (.iadd, 1) := by decide +kernel
theorem dX1_brokenMark_42 : decode cX1_brokenMark 42 = .ok (.ireturn, 1) := by decide +kernel
theorem dX1_brokenMark_43 : decode cX1_brokenMark 43 = .ok (.iinc 2 1, 3) := by decide +kernel
theorem dX1_brokenMark_46 : decode cX1_brokenMark 46 = .ok (.goto (-44), 3) := by decide +kernel
theorem dX1_brokenMark_49 : decode cX1_brokenMark 49 = .ok (.iconst 0, 1) := by decide +kernel
theorem dX1_brokenMark_50 : decode cX1_brokenMark 50 = .ok (.ireturn, 1) := by decide +kernel
theorem dX1_brokenThrough_0 : decode cX1_brokenThrough 0 = .ok (.iconst 0, 1) := by decide +kernel
theorem dX1_brokenThrough_1 : decode cX1_brokenThrough 1 = .ok (.istore_n 2, 1) := by decide +kernel
theorem dX1_brokenThrough_2 : decode cX1_brokenThrough 2 = .ok (.iload_n 2, 1) := by decide +kernel
theorem dX1_brokenThrough_3 : decode cX1_brokenThrough 3 = .ok (.aload_n 0, 1) := by decide +kernel
theorem dX1_brokenThrough_4 : decode cX1_brokenThrough 4 = .ok (.getfield 9, 3) := by decide +kernel
theorem dX1_brokenThrough_7 : decode cX1_brokenThrough 7 = .ok (.if_icmp .ge 59, 3) := by decide +kernel
theorem dX1_brokenThrough_10 : decode cX1_brokenThrough 10 = .ok (.iconst 0, 1) := by decide +kernel
theorem dX1_brokenThrough_11 : decode cX1_brokenThrough 11 = .ok (.istore_n 3, 1) := by decide +kernel
theorem dX1_brokenThrough_12 : decode cX1_brokenThrough 12 = .ok (.iload_n 3, 1) := by decide +kernel
theorem dX1_brokenThrough_13 : decode cX1_brokenThrough 13 = .ok (.aload_n 0, 1) := by decide +kernel
theorem dX1_brokenThrough_14 : decode cX1_brokenThrough 14 = .ok (.getfield 64, 3) := by decide +kernel
theorem dX1_brokenThrough_17 : decode cX1_brokenThrough 17 = .ok (.if_icmp .ge 43, 3) := by decide +kernel
theorem dX1_brokenThrough_20 : decode cX1_brokenThrough 20 = .ok (.aload_n 0, 1) := by decide +kernel
theorem dX1_brokenThrough_21 : decode cX1_brokenThrough 21 = .ok (.getfield 43, 3) := by decide +kernel
theorem dX1_brokenThrough_24 : decode cX1_brokenThrough 24 = .ok (.iload_n 2, 1) := by decide +kernel
theorem dX1_brokenThrough_25 : decode cX1_brokenThrough 25 = .ok (.iaload, 1) := by decide +kernel
theorem dX1_brokenThrough_26 : decode cX1_brokenThrough 26 = .ok (.iload_n 3, 1) := by decide +kernel
theorem dX1_brokenThrough_27 : decode cX1_brokenThrough 27 = .ok (.invokestatic 112, 3) := by decide +kernel
theorem dX1_brokenThrough_30 : decode cX1_brokenThrough 30 = .ok (.ifCond .eq 24, 3) := by decide +kernel
theorem dX1_brokenThrough_33 : decode cX1_brokenThrough 33 = .ok (.aload_n 0, 1) := by decide +kernel
theorem dX1_brokenThrough_34 : decode cX1_brokenThrough 34 = .ok (.iload_n 3, 1) := by decide +kernel
theorem dX1_brokenThrough_35 : decode cX1_brokenThrough 35 = .ok (.iload_n 2, 1) := by decide +kernel
theorem dX1_brokenThrough_36 : decode cX1_brokenThrough 36 = .ok (.aload_n 1, 1) := by decide +kernel
theorem dX1_brokenThrough_37 : decode cX1_brokenThrough 37 = .ok (.invokevirtual 115, 3) := by decide +kernel
theorem dX1_brokenThrough_40 : decode cX1_brokenThrough 40 = .ok (.ifCond .eq 14, 3) := by decide +kernel
theorem dX1_brokenThrough_43 : decode cX1_brokenThrough 43 = .ok (.sipush 20000, 3) := by decide +kernel
theorem dX1_brokenThrough_46 : decode cX1_brokenThrough 46 = .ok (.bipush 100, 2) := by decide +kernel
theorem dX1_brokenThrough_48 : decode cX1_brokenThrough 48 = .ok (.iload_n 2, 1) := by decide +kernel
theorem dX1_brokenThrough_49 : decode cX1_brokenThrough 49 = .ok (.imul, 1) := by decide +kernel
theorem dX1_brokenThrough_50 : decode cX1_brokenThrough 50 = .ok (.iadd, 1) := by decide +kernel
theorem dX1_brokenThrough_51 : decode cX1_brokenThrough 51 = .ok (.iload_n 3, 1) := by decide +kernel
theorem dX1_brokenThrough_52 : decode cX1_brokenThrough 52 = .ok (.iadd, 1) := by decide +kernel
theorem dX1_brokenThrough_53 : decode cX1_brokenThrough 53 = .ok (.ireturn, 1) := by decide +kernel
theorem dX1_brokenThrough_54 : decode cX1_brokenThrough 54 = .ok (.iinc 3 1, 3) := by decide +kernel
theorem dX1_brokenThrough_57 : decode cX1_brokenThrough 57 = .ok (.goto (-45), 3) := by decide +kernel
theorem dX1_brokenThrough_60 : decode cX1_brokenThrough 60 = .ok (.iinc 2 1, 3) := by decide +kernel
theorem dX1_brokenThrough_63 : decode cX1_brokenThrough 63 = .ok (.goto (-61), 3) := by decide +kernel
theorem dX1_brokenThrough_66 : decode cX1_brokenThrough 66 = .ok (.iconst 0, 1) := by decide +kernel
theorem dX1_brokenThrough_67 : decode cX1_brokenThrough 67 = .ok (.ireturn, 1) := by decide +kernel
theorem dX1_brokenAcross_0 : decode cX1_brokenAcross 0 = .ok (.iconst 0, 1) := by decide +kernel
theorem dX1_brokenAcross_1 : decode cX1_brokenAcross 1 = .ok (.istore_n 2, 1) := by decide +kernel
theorem dX1_brokenAcross_2 : decode cX1_brokenAcross 2 = .ok (.iload_n 2, 1) := by decide +kernel
theorem dX1_brokenAcross_3 : decode cX1_brokenAcross 3 = .ok (.aload_n 0, 1) := by decide +kernel
theorem dX1_brokenAcross_4 : decode cX1_brokenAcross 4 = .ok (.getfield 9, 3) := by decide +kernel
theorem dX1_brokenAcross_7 : decode cX1_brokenAcross 7 = .ok (.if_icmp .ge 78, 3) := by decide +kernel
theorem dX1_brokenAcross_10 : decode cX1_brokenAcross 10 = .ok (.iload_n 2, 1) := by decide +kernel
theorem dX1_brokenAcross_11 : decode cX1_brokenAcross 11 = .ok (.iconst 1, 1) := by decide +kernel
theorem dX1_brokenAcross_12 : decode cX1_brokenAcross 12 = .ok (.iadd, 1) := by decide +kernel
theorem dX1_brokenAcross_13 : decode cX1_brokenAcross 13 = .ok (.istore_n 3, 1) := by decide +kernel
theorem dX1_brokenAcross_14 : decode cX1_brokenAcross 14 = .ok (.iload_n 3, 1) := by decide +kernel
theorem dX1_brokenAcross_15 : decode cX1_brokenAcross 15 = .ok (.aload_n 0, 1) := by decide +kernel
theorem dX1_brokenAcross_16 : decode cX1_brokenAcross 16 = .ok (.getfield 9, 3) := by decide +kernel
theorem dX1_brokenAcross_19 : decode cX1_brokenAcross 19 = .ok (.if_icmp .ge 60, 3) := by decide +kernel
theorem dX1_brokenAcross_22 : decode cX1_brokenAcross 22 = .ok (.aload_n 0, 1) := by decide +kernel
theorem dX1_brokenAcross_23 : decode cX1_brokenAcross 23 = .ok (.getfield 46, 3) := by decide +kernel
theorem dX1_brokenAcross_26 : decode cX1_brokenAcross 26 = .ok (.iload_n 2, 1) := by decide +kernel
theorem dX1_brokenAcross_27 : decode cX1_brokenAcross 27 = .ok (.iaload, 1) := by decide +kernel
theorem dX1_brokenAcross_28 : decode cX1_brokenAcross 28 = .ok (.iload_n 3, 1) := by decide +kernel
theorem dX1_brokenAcross_29 : decode cX1_brokenAcross 29 = .ok (.invokestatic 112, 3) := by decide +kernel
theorem dX1_brokenAcross_32 : decode cX1_brokenAcross 32 = .ok (.ifCond .eq 41, 3) := by decide +kernel
theorem dX1_brokenAcross_35 : decode cX1_brokenAcross 35 = .ok (.aload_n 0, 1) := by decide +kernel
theorem dX1_brokenAcross_36 : decode cX1_brokenAcross 36 = .ok (.aload_n 0, 1) := by decide +kernel
theorem dX1_brokenAcross_37 : decode cX1_brokenAcross 37 = .ok (.getfield 28, 3) := by decide +kernel
theorem dX1_brokenAcross_40 : decode cX1_brokenAcross 40 = .ok (.iload_n 3, 1) := by decide +kernel
theorem dX1_brokenAcross_41 : decode cX1_brokenAcross 41 = .ok (.iaload, 1) := by decide +kernel
theorem dX1_brokenAcross_42 : decode cX1_brokenAcross 42 = .ok (.iload_n 2, 1) := by decide +kernel
theorem dX1_brokenAcross_43 : decode cX1_brokenAcross 43 = .ok (.aload_n 1, 1) := by decide +kernel
theorem dX1_brokenAcross_44 : decode cX1_brokenAcross 44 = .ok (.invokevirtual 115, 3) := by decide +kernel
theorem dX1_brokenAcross_47 : decode cX1_brokenAcross 47 = .ok (.aload_n 0, 1) := by decide +kernel
theorem dX1_brokenAcross_48 : decode cX1_brokenAcross 48 = .ok (.aload_n 0, 1) := by decide +kernel
theorem dX1_brokenAcross_49 : decode cX1_brokenAcross 49 = .ok (.getfield 31, 3) := by decide +kernel
theorem dX1_brokenAcross_52 : decode cX1_brokenAcross 52 = .ok (.iload_n 3, 1) := by decide +kernel
theorem dX1_brokenAcross_53 : decode cX1_brokenAcross 53 = .ok (.iaload, 1) := by decide +kernel
theorem dX1_brokenAcross_54 : decode cX1_brokenAcross 54 = .ok (.iload_n 2, 1) := by decide +kernel
theorem dX1_brokenAcross_55 : decode cX1_brokenAcross 55 = .ok (.aload_n 1, 1) := by decide +kernel
theorem dX1_brokenAcross_56 : decode cX1_brokenAcross 56 = .ok (.invokevirtual 115, 3) := by decide +kernel
theorem dX1_brokenAcross_59 : decode cX1_brokenAcross 59 = .ok (.if_icmp .eq 14, 3) := by decide +kernel
theorem dX1_brokenAcross_62 : decode cX1_brokenAcross 62 = .ok (.sipush 30000, 3) := by decide +kernel
theorem dX1_brokenAcross_65 : decode cX1_brokenAcross 65 = .ok (.bipush 100, 2) := by decide +kernel
theorem dX1_brokenAcross_67 : decode cX1_brokenAcross 67 = .ok (.iload_n 2, 1) := by decide +kernel
theorem dX1_brokenAcross_68 : decode cX1_brokenAcross 68 = .ok (.imul, 1) := by decide +kernel
theorem dX1_brokenAcross_69 : decode cX1_brokenAcross 69 = .ok (.iadd, 1) := by decide +kernel
theorem dX1_brokenAcross_70 : decode cX1_brokenAcross 70 = .ok (.iload_n 3, 1) := by decide +kernel
theorem dX1_brokenAcross_71 : decode cX1_brokenAcross 71 = .ok (.iadd, 1) := by decide +kernel
theorem dX1_brokenAcross_72 : decode cX1_brokenAcross 72 = .ok (.ireturn, 1) := by decide +kernel
theorem dX1_brokenAcross_73 : decode cX1_brokenAcross 73 = .ok (.iinc 3 1, 3) := by decide +kernel
theorem dX1_brokenAcross_76 : decode cX1_brokenAcross 76 = .ok (.goto (-62), 3) := by decide +kernel
theorem dX1_brokenAcross_79 : decode cX1_brokenAcross 79 = .ok (.iinc 2 1, 3) := by decide +kernel
theorem dX1_brokenAcross_82 : decode cX1_brokenAcross 82 = .ok (.goto (-80), 3) := by decide +kernel
theorem dX1_brokenAcross_85 : decode cX1_brokenAcross 85 = .ok (.iconst 0, 1) := by decide +kernel
theorem dX1_brokenAcross_86 : decode cX1_brokenAcross 86 = .ok (.ireturn, 1) := by decide +kernel
theorem dX1_liesWithin_0 : decode cX1_liesWithin 0 = .ok (.aload_n 3, 1) := by decide +kernel
theorem dX1_liesWithin_1 : decode cX1_liesWithin 1 = .ok (.iload_n 1, 1) := by decide +kernel
theorem dX1_liesWithin_2 : decode cX1_liesWithin 2 = .ok (.iaload, 1) := by decide +kernel
theorem dX1_liesWithin_3 : decode cX1_liesWithin 3 = .ok (.aload_n 3, 1) := by decide +kernel
theorem dX1_liesWithin_4 : decode cX1_liesWithin 4 = .ok (.aload_n 0, 1) := by decide +kernel
theorem dX1_liesWithin_5 : decode cX1_liesWithin 5 = .ok (.getfield 28, 3) := by decide +kernel
theorem dX1_liesWithin_8 : decode cX1_liesWithin 8 = .ok (.iload_n 2, 1) := by decide +kernel
theorem dX1_liesWithin_9 : decode cX1_liesWithin 9 = .ok (.iaload, 1) := by decide +kernel
theorem dX1_liesWithin_10 : decode cX1_liesWithin 10 = .ok (.iaload, 1) := by decide +kernel
theorem dX1_liesWithin_11 : decode cX1_liesWithin 11 = .ok (.aload_n 3, 1) := by decide +kernel
theorem dX1_liesWithin_12 : decode cX1_liesWithin 12 = .ok (.aload_n 0, 1) := by decide +kernel
theorem dX1_liesWithin_13 : decode cX1_liesWithin 13 = .ok (.getfield 31, 3) := by decide +kernel
theorem dX1_liesWithin_16 : decode cX1_liesWithin 16 = .ok (.iload_n 2, 1) := by decide +kernel
theorem dX1_liesWithin_17 : decode cX1_liesWithin 17 = .ok (.iaload, 1) := by decide +kernel
theorem dX1_liesWithin_18 : decode cX1_liesWithin 18 = .ok (.iaload, 1) := by decide +kernel
theorem dX1_liesWithin_19 : decode cX1_liesWithin 19 = .ok (.invokestatic 97, 3) := by decide +kernel
theorem dX1_liesWithin_22 : decode cX1_liesWithin 22 = .ok (.ireturn, 1) := by decide +kernel
theorem dX1_isBetween_0 : decode cX1_isBetween 0 = .ok (.iload_n 0, 1) := by decide +kernel
theorem dX1_isBetween_1 : decode cX1_isBetween 1 = .ok (.iload_n 1, 1) := by decide +kernel
theorem dX1_isBetween_2 : decode cX1_isBetween 2 = .ok (.iload_n 2, 1) := by decide +kernel
theorem dX1_isBetween_3 : decode cX1_isBetween 3 = .ok (.invokestatic 119, 3) := by decide +kernel
theorem dX1_isBetween_6 : decode cX1_isBetween 6 = .ok (.if_icmp .le 16, 3) := by decide +kernel
theorem dX1_isBetween_9 : decode cX1_isBetween 9 = .ok (.iload_n 0, 1) := by decide +kernel
theorem dX1_isBetween_10 : decode cX1_isBetween 10 = .ok (.iload_n 1, 1) := by decide +kernel
theorem dX1_isBetween_11 : decode cX1_isBetween 11 = .ok (.iload_n 2, 1) := by decide +kernel
theorem dX1_isBetween_12 : decode cX1_isBetween 12 = .ok (.invokestatic 125, 3) := by decide +kernel
theorem dX1_isBetween_15 : decode cX1_isBetween 15 = .ok (.if_icmp .ge 7, 3) := by decide +kernel
theorem dX1_isBetween_18 : decode cX1_isBetween 18 = .ok (.iconst 1, 1) := by decide +kernel
theorem dX1_isBetween_19 : decode cX1_isBetween 19 = .ok (.goto 4, 3) := by decide +kernel
theorem dX1_isBetween_22 : decode cX1_isBetween 22 = .ok (.iconst 0, 1) := by decide +kernel
theorem dX1_isBetween_23 : decode cX1_isBetween 23 = .ok (.ireturn, 1) := by decide +kernel
theorem dX1_allLines_0 : decode cX1_allLines 0 = .ok (.iconst 1, 1) := by decide +kernel
theorem dX1_allLines_1 : decode cX1_allLines 1 = .ok (.aload_n 0, 1) := by decide +kernel
theorem dX1_allLines_2 : decode cX1_allLines 2 = .ok (.getfield 61, 3) := by decide +kernel
theorem dX1_allLines_5 : decode cX1_allLines 5 = .ok (.iconst 1, 1) := by decide +kernel
theorem dX1_allLines_6 : decode cX1_allLines 6 = .ok (.isub, 1) := by decide +kernel
theorem dX1_allLines_7 : decode cX1_allLines 7 = .ok (.aload_n 0, 1) := by decide +kernel
theorem dX1_allLines_8 : decode cX1_allLines 8 = .ok (.getfield 58, 3) := by decide +kernel
theorem dX1_allLines_11 : decode cX1_allLines 11 = .ok (.iadd, 1) := by decide +kernel
theorem dX1_allLines_12 : decode cX1_allLines 12 = .ok (.iconst 1, 1) := by decide +kernel
theorem dX1_allLines_13 : decode cX1_allLines 13 = .ok (.isub, 1) := by decide +kernel
theorem dX1_allLines_14 : decode cX1_allLines 14 = .ok (.ishl, 1) := by decide +kernel
theorem dX1_allLines_15 : decode cX1_allLines 15 = .ok (.iconst 1, 1) := by decide +kernel
theorem dX1_allLines_16 : decode cX1_allLines 16 = .ok (.isub, 1) := by decide +kernel
theorem dX1_allLines_17 : decode cX1_allLines 17 = .ok (.ireturn, 1) := by decide +kernel
theorem dX1_creasesOn_0 : decode cX1_creasesOn 0 = .ok (.iconst 0, 1) := by decide +kernel
theorem dX1_creasesOn_1 : decode cX1_creasesOn 1 = .ok (.istore_n 2, 1) := by decide +kernel
theorem dX1_creasesOn_2 : decode cX1_creasesOn 2 = .ok (.iconst 0, 1) := by decide +kernel
theorem dX1_creasesOn_3 : decode cX1_creasesOn 3 = .ok (.istore_n 3, 1) := by decide +kernel
theorem dX1_creasesOn_4 : decode cX1_creasesOn 4 = .ok (.iload_n 3, 1) := by decide +kernel
theorem dX1_creasesOn_5 : decode cX1_creasesOn 5 = .ok (.aload_n 0, 1) := by decide +kernel
theorem dX1_creasesOn_6 : decode cX1_creasesOn 6 = .ok (.getfield 9, 3) := by decide +kernel
theorem dX1_creasesOn_9 : decode cX1_creasesOn 9 = .ok (.if_icmp .ge 25, 3) := by decide +kernel
theorem dX1_creasesOn_12 : decode cX1_creasesOn 12 = .ok (.iload_n 1, 1) := by decide +kernel
theorem dX1_creasesOn_13 : decode cX1_creasesOn 13 = .ok (.aload_n 0, 1) := by decide +kernel
theorem dX1_creasesOn_14 : decode cX1_creasesOn 14 = .ok (.getfield 34, 3) := by decide +kernel
theorem dX1_creasesOn_17 : decode cX1_creasesOn 17 = .ok (.iload_n 3, 1) := by decide +kernel
theorem dX1_creasesOn_18 : decode cX1_creasesOn 18 = .ok (.iaload, 1) := by decide +kernel
theorem dX1_creasesOn_19 : decode cX1_creasesOn 19 = .ok (.invokestatic 112, 3) := by decide +kernel
theorem dX1_creasesOn_22 : decode cX1_creasesOn 22 = .ok (.ifCond .eq 6, 3) := by decide +kernel
theorem dX1_creasesOn_25 : decode cX1_creasesOn 25 = .ok (.iinc 2 1, 3) := by decide +kernel
theorem dX1_creasesOn_28 : decode cX1_creasesOn 28 = .ok (.iinc 3 1, 3) := by decide +kernel
theorem dX1_creasesOn_31 : decode cX1_creasesOn 31 = .ok (.goto (-27), 3) := by decide +kernel
theorem dX1_creasesOn_34 : decode cX1_creasesOn 34 = .ok (.iload_n 2, 1) := by decide +kernel
theorem dX1_creasesOn_35 : decode cX1_creasesOn 35 = .ok (.ireturn, 1) := by decide +kernel
