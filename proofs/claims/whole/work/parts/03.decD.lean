theorem dX5_init_0 : decode cX5_init 0 = .ok (.aload_n 0, 1) := by decide +kernel
theorem dX5_init_1 : decode cX5_init 1 = .ok (.invokespecial 1, 3) := by decide +kernel
theorem dX5_init_4 : decode cX5_init 4 = .ok (.aload_n 0, 1) := by decide +kernel
theorem dX5_init_5 : decode cX5_init 5 = .ok (.bipush 30, 2) := by decide +kernel
theorem dX5_init_7 : decode cX5_init 7 = .ok (.newarray .int, 2) := by decide +kernel
theorem dX5_init_9 : decode cX5_init 9 = .ok (.putfield 7, 3) := by decide +kernel
theorem dX5_init_12 : decode cX5_init 12 = .ok (.aload_n 0, 1) := by decide +kernel
theorem dX5_init_13 : decode cX5_init 13 = .ok (.bipush 30, 2) := by decide +kernel
theorem dX5_init_15 : decode cX5_init 15 = .ok (.newarray .int, 2) := by decide +kernel
theorem dX5_init_17 : decode cX5_init 17 = .ok (.putfield 13, 3) := by decide +kernel
theorem dX5_init_20 : decode cX5_init 20 = .ok (.aload_n 0, 1) := by decide +kernel
theorem dX5_init_21 : decode cX5_init 21 = .ok (.bipush 30, 2) := by decide +kernel
theorem dX5_init_23 : decode cX5_init 23 = .ok (.newarray .int, 2) := by decide +kernel
theorem dX5_init_25 : decode cX5_init 25 = .ok (.putfield 16, 3) := by decide +kernel
theorem dX5_init_28 : decode cX5_init 28 = .ok (.aload_n 0, 1) := by decide +kernel
theorem dX5_init_29 : decode cX5_init 29 = .ok (.bipush 30, 2) := by decide +kernel
theorem dX5_init_31 : decode cX5_init 31 = .ok (.newarray .int, 2) := by decide +kernel
theorem dX5_init_33 : decode cX5_init 33 = .ok (.putfield 19, 3) := by decide +kernel
theorem dX5_init_36 : decode cX5_init 36 = .ok (.aload_n 0, 1) := by decide +kernel
theorem dX5_init_37 : decode cX5_init 37 = .ok (.bipush 30, 2) := by decide +kernel
theorem dX5_init_39 : decode cX5_init 39 = .ok (.newarray .int, 2) := by decide +kernel
theorem dX5_init_41 : decode cX5_init 41 = .ok (.putfield 22, 3) := by decide +kernel
theorem dX5_init_44 : decode cX5_init 44 = .ok (.aload_n 0, 1) := by decide +kernel
theorem dX5_init_45 : decode cX5_init 45 = .ok (.sipush 270, 3) := by decide +kernel
theorem dX5_init_48 : decode cX5_init 48 = .ok (.newarray .int, 2) := by decide +kernel
theorem dX5_init_50 : decode cX5_init 50 = .ok (.putfield 25, 3) := by decide +kernel
theorem dX5_init_53 : decode cX5_init 53 = .ok (.aload_n 0, 1) := by decide +kernel
theorem dX5_init_54 : decode cX5_init 54 = .ok (.sipush 360, 3) := by decide +kernel
theorem dX5_init_57 : decode cX5_init 57 = .ok (.newarray .int, 2) := by decide +kernel
theorem dX5_init_59 : decode cX5_init 59 = .ok (.putfield 28, 3) := by decide +kernel
theorem dX5_init_62 : decode cX5_init 62 = .ok (.aload_n 0, 1) := by decide +kernel
theorem dX5_init_63 : decode cX5_init 63 = .ok (.sipush 360, 3) := by decide +kernel
theorem dX5_init_66 : decode cX5_init 66 = .ok (.newarray .int, 2) := by decide +kernel
theorem dX5_init_68 : decode cX5_init 68 = .ok (.putfield 31, 3) := by decide +kernel
theorem dX5_init_71 : decode cX5_init 71 = .ok (.aload_n 0, 1) := by decide +kernel
theorem dX5_init_72 : decode cX5_init 72 = .ok (.sipush 360, 3) := by decide +kernel
theorem dX5_init_75 : decode cX5_init 75 = .ok (.newarray .int, 2) := by decide +kernel
theorem dX5_init_77 : decode cX5_init 77 = .ok (.putfield 34, 3) := by decide +kernel
theorem dX5_init_80 : decode cX5_init 80 = .ok (.aload_n 0, 1) := by decide +kernel
theorem dX5_init_81 : decode cX5_init 81 = .ok (.bipush 30, 2) := by decide +kernel
theorem dX5_init_83 : decode cX5_init 83 = .ok (.newarray .int, 2) := by decide +kernel
theorem dX5_init_85 : decode cX5_init 85 = .ok (.putfield 37, 3) := by decide +kernel
theorem dX5_init_88 : decode cX5_init 88 = .ok (.aload_n 0, 1) := by decide +kernel
theorem dX5_init_89 : decode cX5_init 89 = .ok (.bipush 30, 2) := by decide +kernel
theorem dX5_init_91 : decode cX5_init 91 = .ok (.newarray .int, 2) := by decide +kernel
theorem dX5_init_93 : decode cX5_init 93 = .ok (.putfield 40, 3) := by decide +kernel
theorem dX5_init_96 : decode cX5_init 96 = .ok (.aload_n 0, 1) := by decide +kernel
theorem dX5_init_97 : decode cX5_init 97 = .ok (.bipush 9, 2) := by decide +kernel
theorem dX5_init_99 : decode cX5_init 99 = .ok (.newarray .int, 2) := by decide +kernel
theorem dX5_init_101 : decode cX5_init 101 = .ok (.putfield 43, 3) := by decide +kernel
theorem dX5_init_104 : decode cX5_init 104 = .ok (.aload_n 0, 1) := by decide +kernel
theorem dX5_init_105 : decode cX5_init 105 = .ok (.bipush 9, 2) := by decide +kernel
theorem dX5_init_107 : decode cX5_init 107 = .ok (.newarray .int, 2) := by decide +kernel
theorem dX5_init_109 : decode cX5_init 109 = .ok (.putfield 46, 3) := by decide +kernel
theorem dX5_init_112 : decode cX5_init 112 = .ok (.aload_n 0, 1) := by decide +kernel
theorem dX5_init_113 : decode cX5_init 113 = .ok (.bipush 12, 2) := by decide +kernel
theorem dX5_init_115 : decode cX5_init 115 = .ok (.newarray .int, 2) := by decide +kernel
theorem dX5_init_117 : decode cX5_init 117 = .ok (.putfield 49, 3) := by decide +kernel
theorem dX5_init_120 : decode cX5_init 120 = .ok (.aload_n 0, 1) := by decide +kernel
theorem dX5_init_121 : decode cX5_init 121 = .ok (.iconst (-1), 1) := by decide +kernel
theorem dX5_init_122 : decode cX5_init 122 = .ok (.putfield 52, 3) := by decide +kernel
theorem dX5_init_125 : decode cX5_init 125 = .ok (.aload_n 0, 1) := by decide +kernel
theorem dX5_init_126 : decode cX5_init 126 = .ok (.bipush 9, 2) := by decide +kernel
theorem dX5_init_128 : decode cX5_init 128 = .ok (.newarray .int, 2) := by decide +kernel
theorem dX5_init_130 : decode cX5_init 130 = .ok (.putfield 56, 3) := by decide +kernel
theorem dX5_init_133 : decode cX5_init 133 = .ok (.aload_n 0, 1) := by decide +kernel
theorem dX5_init_134 : decode cX5_init 134 = .ok (.bipush 9, 2) := by decide +kernel
theorem dX5_init_136 : decode cX5_init 136 = .ok (.newarray .int, 2) := by decide +kernel
theorem dX5_init_138 : decode cX5_init 138 = .ok (.putfield 59, 3) := by decide +kernel
theorem dX5_init_141 : decode cX5_init 141 = .ok (.aload_n 0, 1) := by decide +kernel
theorem dX5_init_142 : decode cX5_init 142 = .ok (.bipush 9, 2) := by decide +kernel
theorem dX5_init_144 : decode cX5_init 144 = .ok (.newarray .int, 2) := by decide +kernel
theorem dX5_init_146 : decode cX5_init 146 = .ok (.putfield 62, 3) := by decide +kernel
theorem dX5_init_149 : decode cX5_init 149 = .ok (.aload_n 0, 1) := by decide +kernel
theorem dX5_init_150 : decode cX5_init 150 = .ok (.sipush 4096, 3) := by decide +kernel
theorem dX5_init_153 : decode cX5_init 153 = .ok (.newarray .boolean, 2) := by decide +kernel
theorem dX5_init_155 : decode cX5_init 155 = .ok (.putfield 65, 3) := by decide +kernel
theorem dX5_init_158 : decode cX5_init 158 = .ok (.aload_n 0, 1) := by decide +kernel
theorem dX5_init_159 : decode cX5_init 159 = .ok (.bipush 12, 2) := by decide +kernel
theorem dX5_init_161 : decode cX5_init 161 = .ok (.newarray .int, 2) := by decide +kernel
theorem dX5_init_163 : decode cX5_init 163 = .ok (.putfield 69, 3) := by decide +kernel
theorem dX5_init_166 : decode cX5_init 166 = .ok (.aload_n 0, 1) := by decide +kernel
theorem dX5_init_167 : decode cX5_init 167 = .ok (.bipush 12, 2) := by decide +kernel
theorem dX5_init_169 : decode cX5_init 169 = .ok (.newarray .int, 2) := by decide +kernel
theorem dX5_init_171 : decode cX5_init 171 = .ok (.putfield 72, 3) := by decide +kernel
theorem dX5_init_174 : decode cX5_init 174 = .ok (.aload_n 0, 1) := by decide +kernel
theorem dX5_init_175 : decode cX5_init 175 = .ok (.ldc 75, 2) := by decide +kernel
theorem dX5_init_177 : decode cX5_init 177 = .ok (.newarray .int, 2) := by decide +kernel
theorem dX5_init_179 : decode cX5_init 179 = .ok (.putfield 76, 3) := by decide +kernel
theorem dX5_init_182 : decode cX5_init 182 = .ok (.aload_n 0, 1) := by decide +kernel
theorem dX5_init_183 : decode cX5_init 183 = .ok (.bipush 16, 2) := by decide +kernel
theorem dX5_init_185 : decode cX5_init 185 = .ok (.newarray .int, 2) := by decide +kernel
theorem dX5_init_187 : decode cX5_init 187 = .ok (.putfield 79, 3) := by decide +kernel
theorem dX5_init_190 : decode cX5_init 190 = .ok (.return_, 1) := by decide +kernel
theorem dX5_lesser_0 : decode cX5_lesser 0 = .ok (.iload_n 0, 1) := by decide +kernel
theorem dX5_lesser_1 : decode cX5_lesser 1 = .ok (.iload_n 1, 1) := by decide +kernel
theorem dX5_lesser_2 : decode cX5_lesser 2 = .ok (.if_icmp .ge 7, 3) := by decide +kernel
theorem dX5_lesser_5 : decode cX5_lesser 5 = .ok (.iload_n 0, 1) := by decide +kernel
theorem dX5_lesser_6 : decode cX5_lesser 6 = .ok (.goto 4, 3) := by decide +kernel
theorem dX5_lesser_9 : decode cX5_lesser 9 = .ok (.iload_n 1, 1) := by decide +kernel
theorem dX5_lesser_10 : decode cX5_lesser 10 = .ok (.ireturn, 1) := by decide +kernel
theorem dX5_greater_0 : decode cX5_greater 0 = .ok (.iload_n 0, 1) := by decide +kernel
theorem dX5_greater_1 : decode cX5_greater 1 = .ok (.iload_n 1, 1) := by decide +kernel
theorem dX5_greater_2 : decode cX5_greater 2 = .ok (.if_icmp .le 7, 3) := by decide +kernel
theorem dX5_greater_5 : decode cX5_greater 5 = .ok (.iload_n 0, 1) := by decide +kernel
theorem dX5_greater_6 : decode cX5_greater 6 = .ok (.goto 4, 3) := by decide +kernel
theorem dX5_greater_9 : decode cX5_greater 9 = .ok (.iload_n 1, 1) := by decide +kernel
theorem dX5_greater_10 : decode cX5_greater 10 = .ok (.ireturn, 1) := by decide +kernel
theorem dX5_bits_0 : decode cX5_bits 0 = .ok (.iconst 0, 1) := by decide +kernel
theorem dX5_bits_1 : decode cX5_bits 1 = .ok (.istore_n 1, 1) := by decide +kernel
theorem dX5_bits_2 : decode cX5_bits 2 = .ok (.iload_n 0, 1) := by decide +kernel
theorem dX5_bits_3 : decode cX5_bits 3 = .ok (.istore_n 2, 1) := by decide +kernel
theorem dX5_bits_4 : decode cX5_bits 4 = .ok (.iload_n 2, 1) := by decide +kernel
theorem dX5_bits_5 : decode cX5_bits 5 = .ok (.ifCond .eq 15, 3) := by decide +kernel
theorem dX5_bits_8 : decode cX5_bits 8 = .ok (.iinc 1 1, 3) := by decide +kernel
theorem dX5_bits_11 : decode cX5_bits 11 = .ok (.iload_n 2, 1) := by decide +kernel
theorem dX5_bits_12 : decode cX5_bits 12 = .ok (.iload_n 2, 1) := by decide +kernel
theorem dX5_bits_13 : decode cX5_bits 13 = .ok (.iconst 1, 1) := by decide +kernel
theorem dX5_bits_14 : decode cX5_bits 14 = .ok (.isub, 1) := by decide +kernel
theorem dX5_bits_15 : decode cX5_bits 15 = .ok (.iand, 1) := by decide +kernel
theorem dX5_bits_16 : decode cX5_bits 16 = .ok (.istore_n 2, 1) := by decide +kernel
theorem dX5_bits_17 : decode cX5_bits 17 = .ok (.goto (-13), 3) := by decide +kernel
theorem dX5_bits_20 : decode cX5_bits 20 = .ok (.iload_n 1, 1) := by decide +kernel
theorem dX5_bits_21 : decode cX5_bits 21 = .ok (.ireturn, 1) := by decide +kernel
theorem dX5_has_0 : decode cX5_has 0 = .ok (.iload_n 1, 1) := by decide +kernel
theorem dX5_has_1 : decode cX5_has 1 = .ok (.ifCond .lt 15, 3) := by decide +kernel
theorem dX5_has_4 : decode cX5_has 4 = .ok (.iload_n 1, 1) := by decide +kernel
theorem dX5_has_5 : decode cX5_has 5 = .ok (.aload_n 0, 1) := by decide +kernel
theorem dX5_has_6 : decode cX5_has 6 = .ok (.getfield 82, 3) := by decide +kernel
theorem dX5_has_9 : decode cX5_has 9 = .ok (.if_icmp .ge 7, 3) := by decide +kernel
theorem dX5_has_12 : decode cX5_has 12 = .ok (.iconst 1, 1) := by decide +kernel
theorem dX5_has_13 : decode cX5_has 13 = .ok (.goto 4, 3) := by decide +kernel
theorem dX5_has_16 : decode cX5_has 16 = .ok (.iconst 0, 1) := by decide +kernel
theorem dX5_has_17 : decode cX5_has 17 = .ok (.ireturn, 1) := by decide +kernel
theorem dX5_hasFace_0 : decode cX5_hasFace 0 = .ok (.aload_n 0, 1) := by decide +kernel
theorem dX5_hasFace_1 : decode cX5_hasFace 1 = .ok (.iload_n 1, 1) := by decide +kernel
theorem dX5_hasFace_2 : decode cX5_hasFace 2 = .ok (.invokevirtual 85, 3) := by decide +kernel
theorem dX5_hasFace_5 : decode cX5_hasFace 5 = .ok (.ifCond .eq 21, 3) := by decide +kernel
theorem dX5_hasFace_8 : decode cX5_hasFace 8 = .ok (.iload_n 2, 1) := by decide +kernel
theorem dX5_hasFace_9 : decode cX5_hasFace 9 = .ok (.ifCond .lt 17, 3) := by decide +kernel
theorem dX5_hasFace_12 : decode cX5_hasFace 12 = .ok (.iload_n 2, 1) := by decide +kernel
theorem dX5_hasFace_13 : decode cX5_hasFace 13 = .ok (.aload_n 0, 1) := by decide +kernel
theorem dX5_hasFace_14 : decode cX5_hasFace 14 = .ok (.getfield 13, 3) := by decide +kernel
theorem dX5_hasFace_17 : decode cX5_hasFace 17 = .ok (.iload_n 1, 1) := by decide +kernel
theorem dX5_hasFace_18 : decode cX5_hasFace 18 = .ok (.iaload, 1) := by decide +kernel
theorem dX5_hasFace_19 : decode cX5_hasFace 19 = .ok (.if_icmp .ge 7, 3) := by decide +kernel
theorem dX5_hasFace_22 : decode cX5_hasFace 22 = .ok (.iconst 1, 1) := by decide +kernel
theorem dX5_hasFace_23 : decode cX5_hasFace 23 = .ok (.goto 4, 3) := by decide +kernel
theorem dX5_hasFace_26 : decode cX5_hasFace 26 = .ok (.iconst 0, 1) := by decide +kernel
theorem dX5_hasFace_27 : decode cX5_hasFace 27 = .ok (.ireturn, 1) := by decide +kernel
theorem dX5_hasCrease_0 : decode cX5_hasCrease 0 = .ok (.aload_n 0, 1) := by decide +kernel
theorem dX5_hasCrease_1 : decode cX5_hasCrease 1 = .ok (.iload_n 1, 1) := by decide +kernel
theorem dX5_hasCrease_2 : decode cX5_hasCrease 2 = .ok (.invokevirtual 85, 3) := by decide +kernel
theorem dX5_hasCrease_5 : decode cX5_hasCrease 5 = .ok (.ifCond .eq 21, 3) := by decide +kernel
theorem dX5_hasCrease_8 : decode cX5_hasCrease 8 = .ok (.iload_n 2, 1) := by decide +kernel
theorem dX5_hasCrease_9 : decode cX5_hasCrease 9 = .ok (.ifCond .lt 17, 3) := by decide +kernel
theorem dX5_hasCrease_12 : decode cX5_hasCrease 12 = .ok (.iload_n 2, 1) := by decide +kernel
theorem dX5_hasCrease_13 : decode cX5_hasCrease 13 = .ok (.aload_n 0, 1) := by decide +kernel
theorem dX5_hasCrease_14 : decode cX5_hasCrease 14 = .ok (.getfield 22, 3) := by decide +kernel
theorem dX5_hasCrease_17 : decode cX5_hasCrease 17 = .ok (.iload_n 1, 1) := by decide +kernel
theorem dX5_hasCrease_18 : decode cX5_hasCrease 18 = .ok (.iaload, 1) := by decide +kernel
theorem dX5_hasCrease_19 : decode cX5_hasCrease 19 = .ok (.if_icmp .ge 7, 3) := by decide +kernel
theorem dX5_hasCrease_22 : decode cX5_hasCrease 22 = .ok (.iconst 1, 1) := by decide +kernel
theorem dX5_hasCrease_23 : decode cX5_hasCrease 23 = .ok (.goto 4, 3) := by decide +kernel
theorem dX5_hasCrease_26 : decode cX5_hasCrease 26 = .ok (.iconst 0, 1) := by decide +kernel
theorem dX5_hasCrease_27 : decode cX5_hasCrease 27 = .ok (.ireturn, 1) := by decide +kernel
theorem dX5_add_0 : decode cX5_add 0 = .ok (.aload_n 0, 1) := by decide +kernel
theorem dX5_add_1 : decode cX5_add 1 = .ok (.getfield 82, 3) := by decide +kernel
theorem dX5_add_4 : decode cX5_add 4 = .ok (.istore_n 3, 1) := by decide +kernel
theorem dX5_add_5 : decode cX5_add 5 = .ok (.aload_n 0, 1) := by decide +kernel
theorem dX5_add_6 : decode cX5_add 6 = .ok (.getfield 7, 3) := by decide +kernel
theorem dX5_add_9 : decode cX5_add 9 = .ok (.iload_n 3, 1) := by decide +kernel
theorem dX5_add_10 : decode cX5_add 10 = .ok (.iload_n 1, 1) := by decide +kernel
theorem dX5_add_11 : decode cX5_add 11 = .ok (.iastore, 1) := by decide +kernel
theorem dX5_add_12 : decode cX5_add 12 = .ok (.aload_n 0, 1) := by decide +kernel
theorem dX5_add_13 : decode cX5_add 13 = .ok (.getfield 13, 3) := by decide +kernel
theorem dX5_add_16 : decode cX5_add 16 = .ok (.iload_n 3, 1) := by decide +kernel
theorem dX5_add_17 : decode cX5_add 17 = .ok (.iload_n 2, 1) := by decide +kernel
theorem dX5_add_18 : decode cX5_add 18 = .ok (.iastore, 1) := by decide +kernel
theorem dX5_add_19 : decode cX5_add 19 = .ok (.aload_n 0, 1) := by decide +kernel
theorem dX5_add_20 : decode cX5_add 20 = .ok (.getfield 16, 3) := by decide +kernel
theorem dX5_add_23 : decode cX5_add 23 = .ok (.iload_n 3, 1) := by decide +kernel
theorem dX5_add_24 : decode cX5_add 24 = .ok (.iconst 1, 1) := by decide +kernel
theorem dX5_add_25 : decode cX5_add 25 = .ok (.iastore, 1) := by decide +kernel
theorem dX5_add_26 : decode cX5_add 26 = .ok (.aload_n 0, 1) := by decide +kernel
theorem dX5_add_27 : decode cX5_add 27 = .ok (.getfield 19, 3) := by decide +kernel
theorem dX5_add_30 : decode cX5_add 30 = .ok (.iload_n 3, 1) := by decide +kernel
theorem dX5_add_31 : decode cX5_add 31 = .ok (.iload_n 2, 1) := by decide +kernel
theorem dX5_add_32 : decode cX5_add 32 = .ok (.iastore, 1) := by decide +kernel
theorem dX5_add_33 : decode cX5_add 33 = .ok (.aload_n 0, 1) := by decide +kernel
theorem dX5_add_34 : decode cX5_add 34 = .ok (.getfield 22, 3) := by decide +kernel
theorem dX5_add_37 : decode cX5_add 37 = .ok (.iload_n 3, 1) := by decide +kernel
theorem dX5_add_38 : decode cX5_add 38 = .ok (.iconst 0, 1) := by decide +kernel
theorem dX5_add_39 : decode cX5_add 39 = .ok (.iastore, 1) := by decide +kernel
theorem dX5_add_40 : decode cX5_add 40 = .ok (.aload_n 0, 1) := by decide +kernel
theorem dX5_add_41 : decode cX5_add 41 = .ok (.getfield 37, 3) := by decide +kernel
theorem dX5_add_44 : decode cX5_add 44 = .ok (.iload_n 3, 1) := by decide +kernel
theorem dX5_add_45 : decode cX5_add 45 = .ok (.iconst 0, 1) := by decide +kernel
theorem dX5_add_46 : decode cX5_add 46 = .ok (.iastore, 1) := by decide +kernel
theorem dX5_add_47 : decode cX5_add 47 = .ok (.aload_n 0, 1) := by decide +kernel
theorem dX5_add_48 : decode cX5_add 48 = .ok (.getfield 40, 3) := by decide +kernel
theorem dX5_add_51 : decode cX5_add 51 = .ok (.iload_n 3, 1) := by decide +kernel
theorem dX5_add_52 : decode cX5_add 52 = .ok (.iconst 0, 1) := by decide +kernel
theorem dX5_add_53 : decode cX5_add 53 = .ok (.iastore, 1) := by decide +kernel
theorem dX5_add_54 : decode cX5_add 54 = .ok (.iconst 0, 1) := by decide +kernel
theorem dX5_add_55 : decode cX5_add 55 = .ok (.istore 4, 2) := by decide +kernel
theorem dX5_add_57 : decode cX5_add 57 = .ok (.iload 4, 2) := by decide +kernel
theorem dX5_add_59 : decode cX5_add 59 = .ok (.bipush 9, 2) := by decide +kernel
theorem dX5_add_61 : decode cX5_add 61 = .ok (.if_icmp .ge 22, 3) := by decide +kernel
theorem dX5_add_64 : decode cX5_add 64 = .ok (.aload_n 0, 1) := by decide +kernel
theorem dX5_add_65 : decode cX5_add 65 = .ok (.getfield 25, 3) := by decide +kernel
theorem dX5_add_68 : decode cX5_add 68 = .ok (.bipush 9, 2) := by decide +kernel
theorem dX5_add_70 : decode cX5_add 70 = .ok (.iload_n 3, 1) := by decide +kernel
theorem dX5_add_71 : decode cX5_add 71 = .ok (.imul, 1) := by decide +kernel
theorem dX5_add_72 : decode cX5_add 72 = .ok (.iload 4, 2) := by decide +kernel
theorem dX5_add_74 : decode cX5_add 74 = .ok (.iadd, 1) := by decide +kernel
theorem dX5_add_75 : decode cX5_add 75 = .ok (.iconst 1, 1) := by decide +kernel
theorem dX5_add_76 : decode cX5_add 76 = .ok (.iastore, 1) := by decide +kernel
theorem dX5_add_77 : decode cX5_add 77 = .ok (.iinc 4 1, 3) := by decide +kernel
theorem dX5_add_80 : decode cX5_add 80 = .ok (.goto (-23), 3) := by decide +kernel
theorem dX5_add_83 : decode cX5_add 83 = .ok (.aload_n 0, 1) := by decide +kernel
theorem dX5_add_84 : decode cX5_add 84 = .ok (.dup, 1) := by decide +kernel
theorem dX5_add_85 : decode cX5_add 85 = .ok (.getfield 82, 3) := by decide +kernel
theorem dX5_add_88 : decode cX5_add 88 = .ok (.iconst 1, 1) := by decide +kernel
theorem dX5_add_89 : decode cX5_add 89 = .ok (.iadd, 1) := by decide +kernel
theorem dX5_add_90 : decode cX5_add 90 = .ok (.putfield 82, 3) := by decide +kernel
theorem dX5_add_93 : decode cX5_add 93 = .ok (.iload_n 3, 1) := by decide +kernel
theorem dX5_add_94 : decode cX5_add 94 = .ok (.ireturn, 1) := by decide +kernel
theorem dX5_addCrease_0 : decode cX5_addCrease 0 = .ok (.bipush 12, 2) := by decide +kernel
theorem dX5_addCrease_2 : decode cX5_addCrease 2 = .ok (.iload_n 1, 1) := by decide +kernel
theorem dX5_addCrease_3 : decode cX5_addCrease 3 = .ok (.imul, 1) := by decide +kernel
theorem dX5_addCrease_4 : decode cX5_addCrease 4 = .ok (.aload_n 0, 1) := by decide +kernel
theorem dX5_addCrease_5 : decode cX5_addCrease 5 = .ok (.getfield 22, 3) := by decide +kernel
theorem dX5_addCrease_8 : decode cX5_addCrease 8 = .ok (.iload_n 1, 1) := by decide +kernel
theorem dX5_addCrease_9 : decode cX5_addCrease 9 = .ok (.iaload, 1) := by decide +kernel
theorem dX5_addCrease_10 : decode cX5_addCrease 10 = .ok (.iadd, 1) := by decide +kernel
theorem dX5_addCrease_11 : decode cX5_addCrease 11 = .ok (.istore 4, 2) := by decide +kernel
theorem dX5_addCrease_13 : decode cX5_addCrease 13 = .ok (.aload_n 0, 1) := by decide +kernel
theorem dX5_addCrease_14 : decode cX5_addCrease 14 = .ok (.getfield 28, 3) := by decide +kernel
theorem dX5_addCrease_17 : decode cX5_addCrease 17 = .ok (.iload 4, 2) := by decide +kernel
theorem dX5_addCrease_19 : decode cX5_addCrease 19 = .ok (.iload_n 2, 1) := by decide +kernel
theorem dX5_addCrease_20 : decode cX5_addCrease 20 = .ok (.iastore, 1) := by decide +kernel
theorem dX5_addCrease_21 : decode cX5_addCrease 21 = .ok (.aload_n 0, 1) := by decide +kernel
theorem dX5_addCrease_22 : decode cX5_addCrease 22 = .ok (.getfield 31, 3) := by decide +kernel
theorem dX5_addCrease_25 : decode cX5_addCrease 25 = .ok (.iload 4, 2) := by decide +kernel
theorem dX5_addCrease_27 : decode cX5_addCrease 27 = .ok (.iload_n 3, 1) := by decide +kernel
theorem dX5_addCrease_28 : decode cX5_addCrease 28 = .ok (.iastore, 1) := by decide +kernel
theorem dX5_addCrease_29 : decode cX5_addCrease 29 = .ok (.aload_n 0, 1) := by decide +kernel
theorem dX5_addCrease_30 : decode cX5_addCrease 30 = .ok (.getfield 34, 3) := by decide +kernel
theorem dX5_addCrease_33 : decode cX5_addCrease 33 = .ok (.iload 4, 2) := by decide +kernel
theorem dX5_addCrease_35 : decode cX5_addCrease 35 = .ok (.iconst 0, 1) := by decide +kernel
theorem dX5_addCrease_36 : decode cX5_addCrease 36 = .ok (.iastore, 1) := by decide +kernel
theorem dX5_addCrease_37 : decode cX5_addCrease 37 = .ok (.aload_n 0, 1) := by decide +kernel
theorem dX5_addCrease_38 : decode cX5_addCrease 38 = .ok (.getfield 22, 3) := by decide +kernel
theorem dX5_addCrease_41 : decode cX5_addCrease 41 = .ok (.iload_n 1, 1) := by decide +kernel
theorem dX5_addCrease_42 : decode cX5_addCrease 42 = .ok (.dup2, 1) := by decide +kernel
theorem dX5_addCrease_43 : decode cX5_addCrease 43 = .ok (.iaload, 1) := by decide +kernel
theorem dX5_addCrease_44 : decode cX5_addCrease 44 = .ok (.iconst 1, 1) := by decide +kernel
theorem dX5_addCrease_45 : decode cX5_addCrease 45 = .ok (.iadd, 1) := by decide +kernel
theorem dX5_addCrease_46 : decode cX5_addCrease 46 = .ok (.iastore, 1) := by decide +kernel
theorem dX5_addCrease_47 : decode cX5_addCrease 47 = .ok (.return_, 1) := by decide +kernel
theorem dX5_strip_0 : decode cX5_strip 0 = .ok (.iload_n 1, 1) := by decide +kernel
theorem dX5_strip_1 : decode cX5_strip 1 = .ok (.iconst 1, 1) := by decide +kernel
theorem dX5_strip_2 : decode cX5_strip 2 = .ok (.if_icmp .lt 9, 3) := by decide +kernel
theorem dX5_strip_5 : decode cX5_strip 5 = .ok (.iload_n 1, 1) := by decide +kernel
theorem dX5_strip_6 : decode cX5_strip 6 = .ok (.bipush 9, 2) := by decide +kernel
theorem dX5_strip_8 : decode cX5_strip 8 = .ok (.if_icmp .le 6, 3) := by decide +kernel
theorem dX5_strip_11 : decode cX5_strip 11 = .ok (.bipush (-102), 2) := by decide +kernel
theorem dX5_strip_13 : decode cX5_strip 13 = .ok (.ireturn, 1) := by decide +kernel
theorem dX5_strip_14 : decode cX5_strip 14 = .ok (.aload_n 0, 1) := by decide +kernel
theorem dX5_strip_15 : decode cX5_strip 15 = .ok (.getfield 82, 3) := by decide +kernel
theorem dX5_strip_18 : decode cX5_strip 18 = .ok (.bipush 30, 2) := by decide +kernel
theorem dX5_strip_20 : decode cX5_strip 20 = .ok (.if_icmp .ne 6, 3) := by decide +kernel
theorem dX5_strip_23 : decode cX5_strip 23 = .ok (.bipush (-104), 2) := by decide +kernel
theorem dX5_strip_25 : decode cX5_strip 25 = .ok (.ireturn, 1) := by decide +kernel
theorem dX5_strip_26 : decode cX5_strip 26 = .ok (.aload_n 0, 1) := by decide +kernel
theorem dX5_strip_27 : decode cX5_strip 27 = .ok (.iconst 0, 1) := by decide +kernel
theorem dX5_strip_28 : decode cX5_strip 28 = .ok (.iload_n 1, 1) := by decide +kernel
theorem dX5_strip_29 : decode cX5_strip 29 = .ok (.invokevirtual 89, 3) := by decide +kernel
theorem dX5_strip_32 : decode cX5_strip 32 = .ok (.istore_n 2, 1) := by decide +kernel
theorem dX5_strip_33 : decode cX5_strip 33 = .ok (.iconst 0, 1) := by decide +kernel
theorem dX5_strip_34 : decode cX5_strip 34 = .ok (.istore_n 3, 1) := by decide +kernel
theorem dX5_strip_35 : decode cX5_strip 35 = .ok (.iload_n 3, 1) := by decide +kernel
theorem dX5_strip_36 : decode cX5_strip 36 = .ok (.iconst 1, 1) := by decide +kernel
theorem dX5_strip_37 : decode cX5_strip 37 = .ok (.iadd, 1) := by decide +kernel
theorem dX5_strip_38 : decode cX5_strip 38 = .ok (.iload_n 1, 1) := by decide +kernel
theorem dX5_strip_39 : decode cX5_strip 39 = .ok (.if_icmp .ge 18, 3) := by decide +kernel
theorem dX5_strip_42 : decode cX5_strip 42 = .ok (.aload_n 0, 1) := by decide +kernel
theorem dX5_strip_43 : decode cX5_strip 43 = .ok (.iload_n 2, 1) := by decide +kernel
theorem dX5_strip_44 : decode cX5_strip 44 = .ok (.iload_n 3, 1) := by decide +kernel
theorem dX5_strip_45 : decode cX5_strip 45 = .ok (.iload_n 3, 1) := by decide +kernel
theorem dX5_strip_46 : decode cX5_strip 46 = .ok (.iconst 1, 1) := by decide +kernel
theorem dX5_strip_47 : decode cX5_strip 47 = .ok (.iadd, 1) := by decide +kernel
theorem dX5_strip_48 : decode cX5_strip 48 = .ok (.invokevirtual 93, 3) := by decide +kernel
theorem dX5_strip_51 : decode cX5_strip 51 = .ok (.iinc 3 1, 3) := by decide +kernel
theorem dX5_strip_54 : decode cX5_strip 54 = .ok (.goto (-19), 3) := by decide +kernel
theorem dX5_strip_57 : decode cX5_strip 57 = .ok (.iload_n 2, 1) := by decide +kernel
theorem dX5_strip_58 : decode cX5_strip 58 = .ok (.ireturn, 1) := by decide +kernel
theorem dX5_corner_0 : decode cX5_corner 0 = .ok (.iload_n 1, 1) := by decide +kernel
theorem dX5_corner_1 : decode cX5_corner 1 = .ok (.iconst 2, 1) := by decide +kernel
theorem dX5_corner_2 : decode cX5_corner 2 = .ok (.if_icmp .lt 9, 3) := by decide +kernel
theorem dX5_corner_5 : decode cX5_corner 5 = .ok (.iload_n 1, 1) := by decide +kernel
theorem dX5_corner_6 : decode cX5_corner 6 = .ok (.bipush 9, 2) := by decide +kernel
theorem dX5_corner_8 : decode cX5_corner 8 = .ok (.if_icmp .le 6, 3) := by decide +kernel
theorem dX5_corner_11 : decode cX5_corner 11 = .ok (.bipush (-102), 2) := by decide +kernel
theorem dX5_corner_13 : decode cX5_corner 13 = .ok (.ireturn, 1) := by decide +kernel
theorem dX5_corner_14 : decode cX5_corner 14 = .ok (.aload_n 0, 1) := by decide +kernel
theorem dX5_corner_15 : decode cX5_corner 15 = .ok (.getfield 82, 3) := by decide +kernel
theorem dX5_corner_18 : decode cX5_corner 18 = .ok (.bipush 30, 2) := by decide +kernel
theorem dX5_corner_20 : decode cX5_corner 20 = .ok (.if_icmp .ne 6, 3) := by decide +kernel
theorem dX5_corner_23 : decode cX5_corner 23 = .ok (.bipush (-104), 2) := by decide +kernel
theorem dX5_corner_25 : decode cX5_corner 25 = .ok (.ireturn, 1) := by decide +kernel
theorem dX5_corner_26 : decode cX5_corner 26 = .ok (.aload_n 0, 1) := by decide +kernel
theorem dX5_corner_27 : decode cX5_corner 27 = .ok (.iconst 1, 1) := by decide +kernel
theorem dX5_corner_28 : decode cX5_corner 28 = .ok (.iload_n 1, 1) := by decide +kernel
theorem dX5_corner_29 : decode cX5_corner 29 = .ok (.invokevirtual 89, 3) := by decide +kernel
theorem dX5_corner_32 : decode cX5_corner 32 = .ok (.istore_n 2, 1) := by decide +kernel
theorem dX5_corner_33 : decode cX5_corner 33 = .ok (.iconst 0, 1) := by decide +kernel
theorem dX5_corner_34 : decode cX5_corner 34 = .ok (.istore_n 3, 1) := by decide +kernel
theorem dX5_corner_35 : decode cX5_corner 35 = .ok (.iload_n 3, 1) := by decide +kernel
theorem dX5_corner_36 : decode cX5_corner 36 = .ok (.iload_n 1, 1) := by decide +kernel
theorem dX5_corner_37 : decode cX5_corner 37 = .ok (.if_icmp .ge 20, 3) := by decide +kernel
theorem dX5_corner_40 : decode cX5_corner 40 = .ok (.aload_n 0, 1) := by decide +kernel
theorem dX5_corner_41 : decode cX5_corner 41 = .ok (.iload_n 2, 1) := by decide +kernel
theorem dX5_corner_42 : decode cX5_corner 42 = .ok (.iload_n 3, 1) := by decide +kernel
theorem dX5_corner_43 : decode cX5_corner 43 = .ok (.iload_n 3, 1) := by decide +kernel
theorem dX5_corner_44 : decode cX5_corner 44 = .ok (.iconst 1, 1) := by decide +kernel
theorem dX5_corner_45 : decode cX5_corner 45 = .ok (.iadd, 1) := by decide +kernel
theorem dX5_corner_46 : decode cX5_corner 46 = .ok (.iload_n 1, 1) := by decide +kernel
theorem dX5_corner_47 : decode cX5_corner 47 = .ok (.irem, 1) := by decide +kernel
theorem dX5_corner_48 : decode cX5_corner 48 = .ok (.invokevirtual 93, 3) := by decide +kernel
theorem dX5_corner_51 : decode cX5_corner 51 = .ok (.iinc 3 1, 3) := by decide +kernel
theorem dX5_corner_54 : decode cX5_corner 54 = .ok (.goto (-19), 3) := by decide +kernel
theorem dX5_corner_57 : decode cX5_corner 57 = .ok (.iload_n 2, 1) := by decide +kernel
theorem dX5_corner_58 : decode cX5_corner 58 = .ok (.ireturn, 1) := by decide +kernel
theorem dX5_map_0 : decode cX5_map 0 = .ok (.iload_n 1, 1) := by decide +kernel
theorem dX5_map_1 : decode cX5_map 1 = .ok (.iconst 1, 1) := by decide +kernel
theorem dX5_map_2 : decode cX5_map 2 = .ok (.if_icmp .lt 28, 3) := by decide +kernel
theorem dX5_map_5 : decode cX5_map 5 = .ok (.iload_n 2, 1) := by decide +kernel
theorem dX5_map_6 : decode cX5_map 6 = .ok (.iconst 1, 1) := by decide +kernel
theorem dX5_map_7 : decode cX5_map 7 = .ok (.if_icmp .lt 23, 3) := by decide +kernel
theorem dX5_map_10 : decode cX5_map 10 = .ok (.iload_n 1, 1) := by decide +kernel
theorem dX5_map_11 : decode cX5_map 11 = .ok (.bipush 9, 2) := by decide +kernel
theorem dX5_map_13 : decode cX5_map 13 = .ok (.if_icmp .gt 17, 3) := by decide +kernel
theorem dX5_map_16 : decode cX5_map 16 = .ok (.iload_n 2, 1) := by decide +kernel
theorem dX5_map_17 : decode cX5_map 17 = .ok (.bipush 9, 2) := by decide +kernel
theorem dX5_map_19 : decode cX5_map 19 = .ok (.if_icmp .gt 11, 3) := by decide +kernel
theorem dX5_map_22 : decode cX5_map 22 = .ok (.iload_n 1, 1) := by decide +kernel
theorem dX5_map_23 : decode cX5_map 23 = .ok (.iload_n 2, 1) := by decide +kernel
theorem dX5_map_24 : decode cX5_map 24 = .ok (.imul, 1) := by decide +kernel
theorem dX5_map_25 : decode cX5_map 25 = .ok (.bipush 9, 2) := by decide +kernel
theorem dX5_map_27 : decode cX5_map 27 = .ok (.if_icmp .le 6, 3) := by decide +kernel
theorem dX5_map_30 : decode cX5_map 30 = .ok (.bipush (-102), 2) := by decide +kernel
theorem dX5_map_32 : decode cX5_map 32 = .ok (.ireturn, 1) := by decide +kernel
theorem dX5_map_33 : decode cX5_map 33 = .ok (.aload_n 0, 1) := by decide +kernel
theorem dX5_map_34 : decode cX5_map 34 = .ok (.getfield 82, 3) := by decide +kernel
theorem dX5_map_37 : decode cX5_map 37 = .ok (.bipush 30, 2) := by decide +kernel
theorem dX5_map_39 : decode cX5_map 39 = .ok (.if_icmp .ne 6, 3) := by decide +kernel
theorem dX5_map_42 : decode cX5_map 42 = .ok (.bipush (-104), 2) := by decide +kernel
theorem dX5_map_44 : decode cX5_map 44 = .ok (.ireturn, 1) := by decide +kernel
theorem dX5_map_45 : decode cX5_map 45 = .ok (.aload_n 0, 1) := by decide +kernel
theorem dX5_map_46 : decode cX5_map 46 = .ok (.iconst 2, 1) := by decide +kernel
theorem dX5_map_47 : decode cX5_map 47 = .ok (.iload_n 1, 1) := by decide +kernel
theorem dX5_map_48 : decode cX5_map 48 = .ok (.iload_n 2, 1) := by decide +kernel
theorem dX5_map_49 : decode cX5_map 49 = .ok (.imul, 1) := by decide +kernel
theorem dX5_map_50 : decode cX5_map 50 = .ok (.invokevirtual 89, 3) := by decide +kernel
theorem dX5_map_53 : decode cX5_map 53 = .ok (.istore_n 3, 1) := by decide +kernel
theorem dX5_map_54 : decode cX5_map 54 = .ok (.aload_n 0, 1) := by decide +kernel
theorem dX5_map_55 : decode cX5_map 55 = .ok (.getfield 16, 3) := by decide +kernel
theorem dX5_map_58 : decode cX5_map 58 = .ok (.iload_n 3, 1) := by decide +kernel
theorem dX5_map_59 : decode cX5_map 59 = .ok (.iload_n 1, 1) := by decide +kernel
theorem dX5_map_60 : decode cX5_map 60 = .ok (.iastore, 1) := by decide +kernel
theorem dX5_map_61 : decode cX5_map 61 = .ok (.aload_n 0, 1) := by decide +kernel
theorem dX5_map_62 : decode cX5_map 62 = .ok (.getfield 19, 3) := by decide +kernel
theorem dX5_map_65 : decode cX5_map 65 = .ok (.iload_n 3, 1) := by decide +kernel
theorem dX5_map_66 : decode cX5_map 66 = .ok (.iload_n 2, 1) := by decide +kernel
theorem dX5_map_67 : decode cX5_map 67 = .ok (.iastore, 1) := by decide +kernel
theorem dX5_map_68 : decode cX5_map 68 = .ok (.iconst 0, 1) := by decide +kernel
theorem dX5_map_69 : decode cX5_map 69 = .ok (.istore 4, 2) := by decide +kernel
theorem dX5_map_71 : decode cX5_map 71 = .ok (.iload 4, 2) := by decide +kernel
theorem dX5_map_73 : decode cX5_map 73 = .ok (.iload_n 1, 1) := by decide +kernel
theorem dX5_map_74 : decode cX5_map 74 = .ok (.if_icmp .ge 47, 3) := by decide +kernel
theorem dX5_map_77 : decode cX5_map 77 = .ok (.iconst 0, 1) := by decide +kernel
theorem dX5_map_78 : decode cX5_map 78 = .ok (.istore 5, 2) := by decide +kernel
theorem dX5_map_80 : decode cX5_map 80 = .ok (.iload 5, 2) := by decide +kernel
theorem dX5_map_82 : decode cX5_map 82 = .ok (.iconst 1, 1) := by decide +kernel
theorem dX5_map_83 : decode cX5_map 83 = .ok (.iadd, 1) := by decide +kernel
theorem dX5_map_84 : decode cX5_map 84 = .ok (.iload_n 2, 1) := by decide +kernel
theorem dX5_map_85 : decode cX5_map 85 = .ok (.if_icmp .ge 30, 3) := by decide +kernel
theorem dX5_map_88 : decode cX5_map 88 = .ok (.aload_n 0, 1) := by decide +kernel
theorem dX5_map_89 : decode cX5_map 89 = .ok (.iload_n 3, 1) := by decide +kernel
theorem dX5_map_90 : decode cX5_map 90 = .ok (.iload 4, 2) := by decide +kernel
theorem dX5_map_92 : decode cX5_map 92 = .ok (.iload_n 2, 1) := by decide +kernel
theorem dX5_map_93 : decode cX5_map 93 = .ok (.imul, 1) := by decide +kernel
theorem dX5_map_94 : decode cX5_map 94 = .ok (.iload 5, 2) := by decide +kernel
theorem dX5_map_96 : decode cX5_map 96 = .ok (.iadd, 1) := by decide +kernel
theorem dX5_map_97 : decode cX5_map 97 = .ok (.iload 4, 2) := by decide +kernel
theorem dX5_map_99 : decode cX5_map 99 = .ok (.iload_n 2, 1) := by decide +kernel
theorem dX5_map_100 : decode cX5_map 100 = .ok (.imul, 1) := by decide +kernel
theorem dX5_map_101 : decode cX5_map 101 = .ok (.iload 5, 2) := by decide +kernel
theorem dX5_map_103 : decode cX5_map 103 = .ok (.iadd, 1) := by decide +kernel
theorem dX5_map_104 : decode cX5_map 104 = .ok (.iconst 1, 1) := by decide +kernel
theorem dX5_map_105 : decode cX5_map 105 = .ok (.iadd, 1) := by decide +kernel
theorem dX5_map_106 : decode cX5_map 106 = .ok (.invokevirtual 93, 3) := by decide +kernel
theorem dX5_map_109 : decode cX5_map 109 = .ok (.iinc 5 1, 3) := by decide +kernel
theorem dX5_map_112 : decode cX5_map 112 = .ok (.goto (-32), 3) := by decide +kernel
theorem dX5_map_115 : decode cX5_map 115 = .ok (.iinc 4 1, 3) := by decide +kernel
theorem dX5_map_118 : decode cX5_map 118 = .ok (.goto (-47), 3) := by decide +kernel
theorem dX5_map_121 : decode cX5_map 121 = .ok (.iconst 0, 1) := by decide +kernel
theorem dX5_map_122 : decode cX5_map 122 = .ok (.istore 4, 2) := by decide +kernel
theorem dX5_map_124 : decode cX5_map 124 = .ok (.iload 4, 2) := by decide +kernel
theorem dX5_map_126 : decode cX5_map 126 = .ok (.iconst 1, 1) := by decide +kernel
theorem dX5_map_127 : decode cX5_map 127 = .ok (.iadd, 1) := by decide +kernel
theorem dX5_map_128 : decode cX5_map 128 = .ok (.iload_n 1, 1) := by decide +kernel
theorem dX5_map_129 : decode cX5_map 129 = .ok (.if_icmp .ge 45, 3) := by decide +kernel
theorem dX5_map_132 : decode cX5_map 132 = .ok (.iconst 0, 1) := by decide +kernel
theorem dX5_map_133 : decode cX5_map 133 = .ok (.istore 5, 2) := by decide +kernel
theorem dX5_map_135 : decode cX5_map 135 = .ok (.iload 5, 2) := by decide +kernel
theorem dX5_map_137 : decode cX5_map 137 = .ok (.iload_n 2, 1) := by decide +kernel
theorem dX5_map_138 : decode cX5_map 138 = .ok (.if_icmp .ge 30, 3) := by decide +kernel
theorem dX5_map_141 : decode cX5_map 141 = .ok (.aload_n 0, 1) := by decide +kernel
theorem dX5_map_142 : decode cX5_map 142 = .ok (.iload_n 3, 1) := by decide +kernel
theorem dX5_map_143 : decode cX5_map 143 = .ok (.iload 4, 2) := by decide +kernel
theorem dX5_map_145 : decode cX5_map 145 = .ok (.iload_n 2, 1) := by decide +kernel
theorem dX5_map_146 : decode cX5_map 146 = .ok (.imul, 1) := by decide +kernel
theorem dX5_map_147 : decode cX5_map 147 = .ok (.iload 5, 2) := by decide +kernel
theorem dX5_map_149 : decode cX5_map 149 = .ok (.iadd, 1) := by decide +kernel
theorem dX5_map_150 : decode cX5_map 150 = .ok (.iload 4, 2) := by decide +kernel
theorem dX5_map_152 : decode cX5_map 152 = .ok (.iload_n 2, 1) := by decide +kernel
theorem dX5_map_153 : decode cX5_map 153 = .ok (.imul, 1) := by decide +kernel
theorem dX5_map_154 : decode cX5_map 154 = .ok (.iload 5, 2) := by decide +kernel
theorem dX5_map_156 : decode cX5_map 156 = .ok (.iadd, 1) := by decide +kernel
theorem dX5_map_157 : decode cX5_map 157 = .ok (.iload_n 2, 1) := by decide +kernel
theorem dX5_map_158 : decode cX5_map 158 = .ok (.iadd, 1) := by decide +kernel
theorem dX5_map_159 : decode cX5_map 159 = .ok (.invokevirtual 93, 3) := by decide +kernel
theorem dX5_map_162 : decode cX5_map 162 = .ok (.iinc 5 1, 3) := by decide +kernel
theorem dX5_map_165 : decode cX5_map 165 = .ok (.goto (-30), 3) := by decide +kernel
theorem dX5_map_168 : decode cX5_map 168 = .ok (.iinc 4 1, 3) := by decide +kernel
theorem dX5_map_171 : decode cX5_map 171 = .ok (.goto (-47), 3) := by decide +kernel
theorem dX5_map_174 : decode cX5_map 174 = .ok (.iload_n 3, 1) := by decide +kernel
theorem dX5_map_175 : decode cX5_map 175 = .ok (.ireturn, 1) := by decide +kernel
theorem dX5_length_0 : decode cX5_length 0 = .ok (.aload_n 0, 1) := by decide +kernel
theorem dX5_length_1 : decode cX5_length 1 = .ok (.iload_n 1, 1) := by decide +kernel
theorem dX5_length_2 : decode cX5_length 2 = .ok (.iload_n 2, 1) := by decide +kernel
theorem dX5_length_3 : decode cX5_length 3 = .ok (.invokevirtual 97, 3) := by decide +kernel
theorem dX5_length_6 : decode cX5_length 6 = .ok (.ifCond .ne 6, 3) := by decide +kernel
theorem dX5_length_9 : decode cX5_length 9 = .ok (.bipush (-101), 2) := by decide +kernel
theorem dX5_length_11 : decode cX5_length 11 = .ok (.ireturn, 1) := by decide +kernel
theorem dX5_length_12 : decode cX5_length 12 = .ok (.iload_n 3, 1) := by decide +kernel
theorem dX5_length_13 : decode cX5_length 13 = .ok (.iconst 1, 1) := by decide +kernel
theorem dX5_length_14 : decode cX5_length 14 = .ok (.if_icmp .lt 10, 3) := by decide +kernel
theorem dX5_length_17 : decode cX5_length 17 = .ok (.iload_n 3, 1) := by decide +kernel
theorem dX5_length_18 : decode cX5_length 18 = .ok (.sipush 1000, 3) := by decide +kernel
theorem dX5_length_21 : decode cX5_length 21 = .ok (.if_icmp .le 6, 3) := by decide +kernel
theorem dX5_length_24 : decode cX5_length 24 = .ok (.bipush (-102), 2) := by decide +kernel
theorem dX5_length_26 : decode cX5_length 26 = .ok (.ireturn, 1) := by decide +kernel
theorem dX5_length_27 : decode cX5_length 27 = .ok (.aload_n 0, 1) := by decide +kernel
theorem dX5_length_28 : decode cX5_length 28 = .ok (.getfield 7, 3) := by decide +kernel
theorem dX5_length_31 : decode cX5_length 31 = .ok (.iload_n 1, 1) := by decide +kernel
theorem dX5_length_32 : decode cX5_length 32 = .ok (.iaload, 1) := by decide +kernel
theorem dX5_length_33 : decode cX5_length 33 = .ok (.iconst 2, 1) := by decide +kernel
theorem dX5_length_34 : decode cX5_length 34 = .ok (.if_icmp .ne 6, 3) := by decide +kernel
theorem dX5_length_37 : decode cX5_length 37 = .ok (.bipush (-103), 2) := by decide +kernel
theorem dX5_length_39 : decode cX5_length 39 = .ok (.ireturn, 1) := by decide +kernel
theorem dX5_length_40 : decode cX5_length 40 = .ok (.aload_n 0, 1) := by decide +kernel
theorem dX5_length_41 : decode cX5_length 41 = .ok (.getfield 25, 3) := by decide +kernel
theorem dX5_length_44 : decode cX5_length 44 = .ok (.bipush 9, 2) := by decide +kernel
theorem dX5_length_46 : decode cX5_length 46 = .ok (.iload_n 1, 1) := by decide +kernel
theorem dX5_length_47 : decode cX5_length 47 = .ok (.imul, 1) := by decide +kernel
theorem dX5_length_48 : decode cX5_length 48 = .ok (.iload_n 2, 1) := by decide +kernel
theorem dX5_length_49 : decode cX5_length 49 = .ok (.iadd, 1) := by decide +kernel
theorem dX5_length_50 : decode cX5_length 50 = .ok (.iaload, 1) := by decide +kernel
theorem dX5_length_51 : decode cX5_length 51 = .ok (.istore 4, 2) := by decide +kernel
theorem dX5_length_53 : decode cX5_length 53 = .ok (.aload_n 0, 1) := by decide +kernel
theorem dX5_length_54 : decode cX5_length 54 = .ok (.getfield 25, 3) := by decide +kernel
theorem dX5_length_57 : decode cX5_length 57 = .ok (.bipush 9, 2) := by decide +kernel
theorem dX5_length_59 : decode cX5_length 59 = .ok (.iload_n 1, 1) := by decide +kernel
theorem dX5_length_60 : decode cX5_length 60 = .ok (.imul, 1) := by decide +kernel
theorem dX5_length_61 : decode cX5_length 61 = .ok (.iload_n 2, 1) := by decide +kernel
theorem dX5_length_62 : decode cX5_length 62 = .ok (.iadd, 1) := by decide +kernel
theorem dX5_length_63 : decode cX5_length 63 = .ok (.iload_n 3, 1) := by decide +kernel
theorem dX5_length_64 : decode cX5_length 64 = .ok (.iastore, 1) := by decide +kernel
theorem dX5_length_65 : decode cX5_length 65 = .ok (.iload 4, 2) := by decide +kernel
theorem dX5_length_67 : decode cX5_length 67 = .ok (.ireturn, 1) := by decide +kernel
theorem dX5_mark_0 : decode cX5_mark 0 = .ok (.aload_n 0, 1) := by decide +kernel
theorem dX5_mark_1 : decode cX5_mark 1 = .ok (.iload_n 1, 1) := by decide +kernel
theorem dX5_mark_2 : decode cX5_mark 2 = .ok (.iload_n 2, 1) := by decide +kernel
theorem dX5_mark_3 : decode cX5_mark 3 = .ok (.invokevirtual 101, 3) := by decide +kernel
theorem dX5_mark_6 : decode cX5_mark 6 = .ok (.ifCond .ne 6, 3) := by decide +kernel
theorem dX5_mark_9 : decode cX5_mark 9 = .ok (.bipush (-101), 2) := by decide +kernel
theorem dX5_mark_11 : decode cX5_mark 11 = .ok (.ireturn, 1) := by decide +kernel
theorem dX5_mark_12 : decode cX5_mark 12 = .ok (.iload_n 3, 1) := by decide +kernel
theorem dX5_mark_13 : decode cX5_mark 13 = .ok (.ifCond .lt 8, 3) := by decide +kernel
theorem dX5_mark_16 : decode cX5_mark 16 = .ok (.iload_n 3, 1) := by decide +kernel
theorem dX5_mark_17 : decode cX5_mark 17 = .ok (.iconst 2, 1) := by decide +kernel
theorem dX5_mark_18 : decode cX5_mark 18 = .ok (.if_icmp .le 6, 3) := by decide +kernel
theorem dX5_mark_21 : decode cX5_mark 21 = .ok (.bipush (-102), 2) := by decide +kernel
theorem dX5_mark_23 : decode cX5_mark 23 = .ok (.ireturn, 1) := by decide +kernel
theorem dX5_mark_24 : decode cX5_mark 24 = .ok (.aload_n 0, 1) := by decide +kernel
theorem dX5_mark_25 : decode cX5_mark 25 = .ok (.getfield 34, 3) := by decide +kernel
theorem dX5_mark_28 : decode cX5_mark 28 = .ok (.bipush 12, 2) := by decide +kernel
theorem dX5_mark_30 : decode cX5_mark 30 = .ok (.iload_n 1, 1) := by decide +kernel
theorem dX5_mark_31 : decode cX5_mark 31 = .ok (.imul, 1) := by decide +kernel
theorem dX5_mark_32 : decode cX5_mark 32 = .ok (.iload_n 2, 1) := by decide +kernel
theorem dX5_mark_33 : decode cX5_mark 33 = .ok (.iadd, 1) := by decide +kernel
theorem dX5_mark_34 : decode cX5_mark 34 = .ok (.iaload, 1) := by decide +kernel
theorem dX5_mark_35 : decode cX5_mark 35 = .ok (.istore 4, 2) := by decide +kernel
theorem dX5_mark_37 : decode cX5_mark 37 = .ok (.aload_n 0, 1) := by decide +kernel
theorem dX5_mark_38 : decode cX5_mark 38 = .ok (.getfield 34, 3) := by decide +kernel
theorem dX5_mark_41 : decode cX5_mark 41 = .ok (.bipush 12, 2) := by decide +kernel
theorem dX5_mark_43 : decode cX5_mark 43 = .ok (.iload_n 1, 1) := by decide +kernel
theorem dX5_mark_44 : decode cX5_mark 44 = .ok (.imul, 1) := by decide +kernel
theorem dX5_mark_45 : decode cX5_mark 45 = .ok (.iload_n 2, 1) := by decide +kernel
theorem dX5_mark_46 : decode cX5_mark 46 = .ok (.iadd, 1) := by decide +kernel
theorem dX5_mark_47 : decode cX5_mark 47 = .ok (.iload_n 3, 1) := by decide +kernel
theorem dX5_mark_48 : decode cX5_mark 48 = .ok (.iastore, 1) := by decide +kernel
theorem dX5_mark_49 : decode cX5_mark 49 = .ok (.iload 4, 2) := by decide +kernel
theorem dX5_mark_51 : decode cX5_mark 51 = .ok (.ireturn, 1) := by decide +kernel
theorem dX5_uneven_0 : decode cX5_uneven 0 = .ok (.iconst 0, 1) := by decide +kernel
theorem dX5_uneven_1 : decode cX5_uneven 1 = .ok (.istore_n 2, 1) := by decide +kernel
theorem dX5_uneven_2 : decode cX5_uneven 2 = .ok (.iconst 0, 1) := by decide +kernel
theorem dX5_uneven_3 : decode cX5_uneven 3 = .ok (.istore_n 3, 1) := by decide +kernel
theorem dX5_uneven_4 : decode cX5_uneven 4 = .ok (.iload_n 3, 1) := by decide +kernel
theorem dX5_uneven_5 : decode cX5_uneven 5 = .ok (.aload_n 0, 1) := by decide +kernel
theorem dX5_uneven_6 : decode cX5_uneven 6 = .ok (.getfield 13, 3) := by decide +kernel
theorem dX5_uneven_9 : decode cX5_uneven 9 = .ok (.iload_n 1, 1) := by decide +kernel
theorem dX5_uneven_10 : decode cX5_uneven 10 = .ok (.iaload, 1) := by decide +kernel
theorem dX5_uneven_11 : decode cX5_uneven 11 = .ok (.if_icmp .ge 44, 3) := by decide +kernel
theorem dX5_uneven_14 : decode cX5_uneven 14 = .ok (.iload_n 2, 1) := by decide +kernel
theorem dX5_uneven_15 : decode cX5_uneven 15 = .ok (.iload_n 3, 1) := by decide +kernel
theorem dX5_uneven_16 : decode cX5_uneven 16 = .ok (.iconst 2, 1) := by decide +kernel
theorem dX5_uneven_17 : decode cX5_uneven 17 = .ok (.irem, 1) := by decide +kernel
theorem dX5_uneven_18 : decode cX5_uneven 18 = .ok (.ifCond .ne 17, 3) := by decide +kernel
theorem dX5_uneven_21 : decode cX5_uneven 21 = .ok (.aload_n 0, 1) := by decide +kernel
theorem dX5_uneven_22 : decode cX5_uneven 22 = .ok (.getfield 25, 3) := by decide +kernel
theorem dX5_uneven_25 : decode cX5_uneven 25 = .ok (.bipush 9, 2) := by decide +kernel
theorem dX5_uneven_27 : decode cX5_uneven 27 = .ok (.iload_n 1, 1) := by decide +kernel
theorem dX5_uneven_28 : decode cX5_uneven 28 = .ok (.imul, 1) := by decide +kernel
theorem dX5_uneven_29 : decode cX5_uneven 29 = .ok (.iload_n 3, 1) := by decide +kernel
theorem dX5_uneven_30 : decode cX5_uneven 30 = .ok (.iadd, 1) := by decide +kernel
theorem dX5_uneven_31 : decode cX5_uneven 31 = .ok (.iaload, 1) := by decide +kernel
theorem dX5_uneven_32 : decode cX5_uneven 32 = .ok (.goto 15, 3) := by decide +kernel
theorem dX5_uneven_35 : decode cX5_uneven 35 = .ok (.aload_n 0, 1) := by decide +kernel
theorem dX5_uneven_36 : decode cX5_uneven 36 = .ok (.getfield 25, 3) := by decide +kernel
theorem dX5_uneven_39 : decode cX5_uneven 39 = .ok (.bipush 9, 2) := by decide +kernel
theorem dX5_uneven_41 : decode cX5_uneven 41 = .ok (.iload_n 1, 1) := by decide +kernel
theorem dX5_uneven_42 : decode cX5_uneven 42 = .ok (.imul, 1) := by decide +kernel
theorem dX5_uneven_43 : decode cX5_uneven 43 = .ok (.iload_n 3, 1) := by decide +kernel
theorem dX5_uneven_44 : decode cX5_uneven 44 = .ok (.iadd, 1) := by decide +kernel
theorem dX5_uneven_45 : decode cX5_uneven 45 = .ok (.iaload, 1) := by decide +kernel
theorem dX5_uneven_46 : decode cX5_uneven 46 = .ok (.ineg, 1) := by decide +kernel
theorem dX5_uneven_47 : decode cX5_uneven 47 = .ok (.iadd, 1) := by decide +kernel
theorem dX5_uneven_48 : decode cX5_uneven 48 = .ok (.istore_n 2, 1) := by decide +kernel
theorem dX5_uneven_49 : decode cX5_uneven 49 = .ok (.iinc 3 1, 3) := by decide +kernel
theorem dX5_uneven_52 : decode cX5_uneven 52 = .ok (.goto (-48), 3) := by decide +kernel
theorem dX5_uneven_55 : decode cX5_uneven 55 = .ok (.iload_n 2, 1) := by decide +kernel
theorem dX5_uneven_56 : decode cX5_uneven 56 = .ok (.ireturn, 1) := by decide +kernel
theorem dX5_marked_0 : decode cX5_marked 0 = .ok (.iconst 0, 1) := by decide +kernel
theorem dX5_marked_1 : decode cX5_marked 1 = .ok (.istore_n 3, 1) := by decide +kernel
theorem dX5_marked_2 : decode cX5_marked 2 = .ok (.iconst 0, 1) := by decide +kernel
theorem dX5_marked_3 : decode cX5_marked 3 = .ok (.istore 4, 2) := by decide +kernel
theorem dX5_marked_5 : decode cX5_marked 5 = .ok (.iload 4, 2) := by decide +kernel
theorem dX5_marked_7 : decode cX5_marked 7 = .ok (.aload_n 0, 1) := by decide +kernel
theorem dX5_marked_8 : decode cX5_marked 8 = .ok (.getfield 22, 3) := by decide +kernel
theorem dX5_marked_11 : decode cX5_marked 11 = .ok (.iload_n 1, 1) := by decide +kernel
theorem dX5_marked_12 : decode cX5_marked 12 = .ok (.iaload, 1) := by decide +kernel
theorem dX5_marked_13 : decode cX5_marked 13 = .ok (.if_icmp .ge 33, 3) := by decide +kernel
theorem dX5_marked_16 : decode cX5_marked 16 = .ok (.iload_n 3, 1) := by decide +kernel
theorem dX5_marked_17 : decode cX5_marked 17 = .ok (.aload_n 0, 1) := by decide +kernel
theorem dX5_marked_18 : decode cX5_marked 18 = .ok (.getfield 34, 3) := by decide +kernel
theorem dX5_marked_21 : decode cX5_marked 21 = .ok (.bipush 12, 2) := by decide +kernel
theorem dX5_marked_23 : decode cX5_marked 23 = .ok (.iload_n 1, 1) := by decide +kernel
theorem dX5_marked_24 : decode cX5_marked 24 = .ok (.imul, 1) := by decide +kernel
theorem dX5_marked_25 : decode cX5_marked 25 = .ok (.iload 4, 2) := by decide +kernel
theorem dX5_marked_27 : decode cX5_marked 27 = .ok (.iadd, 1) := by decide +kernel
theorem dX5_marked_28 : decode cX5_marked 28 = .ok (.iaload, 1) := by decide +kernel
theorem dX5_marked_29 : decode cX5_marked 29 = .ok (.iload_n 2, 1) := by decide +kernel
theorem dX5_marked_30 : decode cX5_marked 30 = .ok (.if_icmp .ne 7, 3) := by decide +kernel
theorem dX5_marked_33 : decode cX5_marked 33 = .ok (.iconst 1, 1) := by decide +kernel
theorem dX5_marked_34 : decode cX5_marked 34 = .ok (.goto 4, 3) := by decide +kernel
theorem dX5_marked_37 : decode cX5_marked 37 = .ok (.iconst 0, 1) := by decide +kernel
theorem dX5_marked_38 : decode cX5_marked 38 = .ok (.iadd, 1) := by decide +kernel
theorem dX5_marked_39 : decode cX5_marked 39 = .ok (.istore_n 3, 1) := by decide +kernel
theorem dX5_marked_40 : decode cX5_marked 40 = .ok (.iinc 4 1, 3) := by decide +kernel
theorem dX5_marked_43 : decode cX5_marked 43 = .ok (.goto (-38), 3) := by decide +kernel
theorem dX5_marked_46 : decode cX5_marked 46 = .ok (.iload_n 3, 1) := by decide +kernel
theorem dX5_marked_47 : decode cX5_marked 47 = .ok (.ireturn, 1) := by decide +kernel
theorem dX5_about_0 : decode cX5_about 0 = .ok (.aload_n 0, 1) := by decide +kernel
theorem dX5_about_1 : decode cX5_about 1 = .ok (.iload_n 1, 1) := by decide +kernel
theorem dX5_about_2 : decode cX5_about 2 = .ok (.invokevirtual 85, 3) := by decide +kernel
theorem dX5_about_5 : decode cX5_about 5 = .ok (.ifCond .ne 6, 3) := by decide +kernel
theorem dX5_about_8 : decode cX5_about 8 = .ok (.bipush (-101), 2) := by decide +kernel
theorem dX5_about_10 : decode cX5_about 10 = .ok (.ireturn, 1) := by decide +kernel
theorem dX5_about_11 : decode cX5_about 11 = .ok (.iload_n 2, 1) := by decide +kernel
theorem dX5_about_12 : decode cX5_about 12 = .ok (.tableswitch 95 0 5 #[40, 47, 54, 61, 68, 75], 40) := by decide +kernel
theorem dX5_about_52 : decode cX5_about 52 = .ok (.aload_n 0, 1) := by decide +kernel
theorem dX5_about_53 : decode cX5_about 53 = .ok (.getfield 7, 3) := by decide +kernel
theorem dX5_about_56 : decode cX5_about 56 = .ok (.iload_n 1, 1) := by decide +kernel
theorem dX5_about_57 : decode cX5_about 57 = .ok (.iaload, 1) := by decide +kernel
theorem dX5_about_58 : decode cX5_about 58 = .ok (.ireturn, 1) := by decide +kernel
theorem dX5_about_59 : decode cX5_about 59 = .ok (.aload_n 0, 1) := by decide +kernel
theorem dX5_about_60 : decode cX5_about 60 = .ok (.getfield 13, 3) := by decide +kernel
theorem dX5_about_63 : decode cX5_about 63 = .ok (.iload_n 1, 1) := by decide +kernel
theorem dX5_about_64 : decode cX5_about 64 = .ok (.iaload, 1) := by decide +kernel
theorem dX5_about_65 : decode cX5_about 65 = .ok (.ireturn, 1) := by decide +kernel
theorem dX5_about_66 : decode cX5_about 66 = .ok (.aload_n 0, 1) := by decide +kernel
theorem dX5_about_67 : decode cX5_about 67 = .ok (.getfield 22, 3) := by decide +kernel
theorem dX5_about_70 : decode cX5_about 70 = .ok (.iload_n 1, 1) := by decide +kernel
theorem dX5_about_71 : decode cX5_about 71 = .ok (.iaload, 1) := by decide +kernel
theorem dX5_about_72 : decode cX5_about 72 = .ok (.ireturn, 1) := by decide +kernel
theorem dX5_about_73 : decode cX5_about 73 = .ok (.aload_n 0, 1) := by decide +kernel
theorem dX5_about_74 : decode cX5_about 74 = .ok (.iload_n 1, 1) := by decide +kernel
theorem dX5_about_75 : decode cX5_about 75 = .ok (.iconst 1, 1) := by decide +kernel
theorem dX5_about_76 : decode cX5_about 76 = .ok (.invokevirtual 104, 3) := by decide +kernel
theorem dX5_about_79 : decode cX5_about 79 = .ok (.ireturn, 1) := by decide +kernel
theorem dX5_about_80 : decode cX5_about 80 = .ok (.aload_n 0, 1) := by decide +kernel
theorem dX5_about_81 : decode cX5_about 81 = .ok (.iload_n 1, 1) := by decide +kernel
theorem dX5_about_82 : decode cX5_about 82 = .ok (.iconst 2, 1) := by decide +kernel
theorem dX5_about_83 : decode cX5_about 83 = .ok (.invokevirtual 104, 3) := by decide +kernel
theorem dX5_about_86 : decode cX5_about 86 = .ok (.ireturn, 1) := by decide +kernel
theorem dX5_about_87 : decode cX5_about 87 = .ok (.aload_n 0, 1) := by decide +kernel
theorem dX5_about_88 : decode cX5_about 88 = .ok (.getfield 7, 3) := by decide +kernel
theorem dX5_about_91 : decode cX5_about 91 = .ok (.iload_n 1, 1) := by decide +kernel
theorem dX5_about_92 : decode cX5_about 92 = .ok (.iaload, 1) := by decide +kernel
theorem dX5_about_93 : decode cX5_about 93 = .ok (.iconst 1, 1) := by decide +kernel
theorem dX5_about_94 : decode cX5_about 94 = .ok (.if_icmp .ne 11, 3) := by decide +kernel
theorem dX5_about_97 : decode cX5_about 97 = .ok (.aload_n 0, 1) := by decide +kernel
theorem dX5_about_98 : decode cX5_about 98 = .ok (.iload_n 1, 1) := by decide +kernel
theorem dX5_about_99 : decode cX5_about 99 = .ok (.invokevirtual 107, 3) := by decide +kernel
theorem dX5_about_102 : decode cX5_about 102 = .ok (.goto 4, 3) := by decide +kernel
theorem dX5_about_105 : decode cX5_about 105 = .ok (.iconst 0, 1) := by decide +kernel
theorem dX5_about_106 : decode cX5_about 106 = .ok (.ireturn, 1) := by decide +kernel
theorem dX5_about_107 : decode cX5_about 107 = .ok (.bipush (-102), 2) := by decide +kernel
theorem dX5_about_109 : decode cX5_about 109 = .ok (.ireturn, 1) := by decide +kernel
theorem dX5_begins_0 : decode cX5_begins 0 = .ok (.iconst 0, 1) := by decide +kernel
theorem dX5_begins_1 : decode cX5_begins 1 = .ok (.istore_n 3, 1) := by decide +kernel
theorem dX5_begins_2 : decode cX5_begins 2 = .ok (.iconst 0, 1) := by decide +kernel
theorem dX5_begins_3 : decode cX5_begins 3 = .ok (.istore 4, 2) := by decide +kernel
theorem dX5_begins_5 : decode cX5_begins 5 = .ok (.iload 4, 2) := by decide +kernel
theorem dX5_begins_7 : decode cX5_begins 7 = .ok (.iload_n 2, 1) := by decide +kernel
theorem dX5_begins_8 : decode cX5_begins 8 = .ok (.if_icmp .ge 47, 3) := by decide +kernel
theorem dX5_begins_11 : decode cX5_begins 11 = .ok (.iload_n 3, 1) := by decide +kernel
theorem dX5_begins_12 : decode cX5_begins 12 = .ok (.iload 4, 2) := by decide +kernel
theorem dX5_begins_14 : decode cX5_begins 14 = .ok (.iconst 2, 1) := by decide +kernel
theorem dX5_begins_15 : decode cX5_begins 15 = .ok (.irem, 1) := by decide +kernel
theorem dX5_begins_16 : decode cX5_begins 16 = .ok (.ifCond .ne 18, 3) := by decide +kernel
theorem dX5_begins_19 : decode cX5_begins 19 = .ok (.aload_n 0, 1) := by decide +kernel
theorem dX5_begins_20 : decode cX5_begins 20 = .ok (.getfield 25, 3) := by decide +kernel
theorem dX5_begins_23 : decode cX5_begins 23 = .ok (.bipush 9, 2) := by decide +kernel
theorem dX5_begins_25 : decode cX5_begins 25 = .ok (.iload_n 1, 1) := by decide +kernel
theorem dX5_begins_26 : decode cX5_begins 26 = .ok (.imul, 1) := by decide +kernel
theorem dX5_begins_27 : decode cX5_begins 27 = .ok (.iload 4, 2) := by decide +kernel
theorem dX5_begins_29 : decode cX5_begins 29 = .ok (.iadd, 1) := by decide +kernel
theorem dX5_begins_30 : decode cX5_begins 30 = .ok (.iaload, 1) := by decide +kernel
theorem dX5_begins_31 : decode cX5_begins 31 = .ok (.goto 16, 3) := by decide +kernel
theorem dX5_begins_34 : decode cX5_begins 34 = .ok (.aload_n 0, 1) := by decide +kernel
theorem dX5_begins_35 : decode cX5_begins 35 = .ok (.getfield 25, 3) := by decide +kernel
theorem dX5_begins_38 : decode cX5_begins 38 = .ok (.bipush 9, 2) := by decide +kernel
theorem dX5_begins_40 : decode cX5_begins 40 = .ok (.iload_n 1, 1) := by decide +kernel
theorem dX5_begins_41 : decode cX5_begins 41 = .ok (.imul, 1) := by decide +kernel
theorem dX5_begins_42 : decode cX5_begins 42 = .ok (.iload 4, 2) := by decide +kernel
theorem dX5_begins_44 : decode cX5_begins 44 = .ok (.iadd, 1) := by decide +kernel
theorem dX5_begins_45 : decode cX5_begins 45 = .ok (.iaload, 1) := by decide +kernel
theorem dX5_begins_46 : decode cX5_begins 46 = .ok (.ineg, 1) := by decide +kernel
theorem dX5_begins_47 : decode cX5_begins 47 = .ok (.iadd, 1) := by decide +kernel
theorem dX5_begins_48 : decode cX5_begins 48 = .ok (.istore_n 3, 1) := by decide +kernel
theorem dX5_begins_49 : decode cX5_begins 49 = .ok (.iinc 4 1, 3) := by decide +kernel
theorem dX5_begins_52 : decode cX5_begins 52 = .ok (.goto (-47), 3) := by decide +kernel
theorem dX5_begins_55 : decode cX5_begins 55 = .ok (.iload_n 3, 1) := by decide +kernel
theorem dX5_begins_56 : decode cX5_begins 56 = .ok (.ireturn, 1) := by decide +kernel
theorem dX5_placeOf_0 : decode cX5_placeOf 0 = .ok (.aload_n 0, 1) := by decide +kernel
theorem dX5_placeOf_1 : decode cX5_placeOf 1 = .ok (.getfield 28, 3) := by decide +kernel
theorem dX5_placeOf_4 : decode cX5_placeOf 4 = .ok (.bipush 12, 2) := by decide +kernel
theorem dX5_placeOf_6 : decode cX5_placeOf 6 = .ok (.iload_n 1, 1) := by decide +kernel
theorem dX5_placeOf_7 : decode cX5_placeOf 7 = .ok (.imul, 1) := by decide +kernel
theorem dX5_placeOf_8 : decode cX5_placeOf 8 = .ok (.iload_n 2, 1) := by decide +kernel
theorem dX5_placeOf_9 : decode cX5_placeOf 9 = .ok (.iadd, 1) := by decide +kernel
theorem dX5_placeOf_10 : decode cX5_placeOf 10 = .ok (.iaload, 1) := by decide +kernel
theorem dX5_placeOf_11 : decode cX5_placeOf 11 = .ok (.istore_n 3, 1) := by decide +kernel
theorem dX5_placeOf_12 : decode cX5_placeOf 12 = .ok (.aload_n 0, 1) := by decide +kernel
theorem dX5_placeOf_13 : decode cX5_placeOf 13 = .ok (.getfield 7, 3) := by decide +kernel
theorem dX5_placeOf_16 : decode cX5_placeOf 16 = .ok (.iload_n 1, 1) := by decide +kernel
theorem dX5_placeOf_17 : decode cX5_placeOf 17 = .ok (.iaload, 1) := by decide +kernel
theorem dX5_placeOf_18 : decode cX5_placeOf 18 = .ok (.iconst 2, 1) := by decide +kernel
theorem dX5_placeOf_19 : decode cX5_placeOf 19 = .ok (.if_icmp .eq 12, 3) := by decide +kernel
theorem dX5_placeOf_22 : decode cX5_placeOf 22 = .ok (.aload_n 0, 1) := by decide +kernel
theorem dX5_placeOf_23 : decode cX5_placeOf 23 = .ok (.iload_n 1, 1) := by decide +kernel
theorem dX5_placeOf_24 : decode cX5_placeOf 24 = .ok (.iload_n 3, 1) := by decide +kernel
theorem dX5_placeOf_25 : decode cX5_placeOf 25 = .ok (.iconst 1, 1) := by decide +kernel
theorem dX5_placeOf_26 : decode cX5_placeOf 26 = .ok (.iadd, 1) := by decide +kernel
theorem dX5_placeOf_27 : decode cX5_placeOf 27 = .ok (.invokevirtual 111, 3) := by decide +kernel
theorem dX5_placeOf_30 : decode cX5_placeOf 30 = .ok (.ireturn, 1) := by decide +kernel
theorem dX5_placeOf_31 : decode cX5_placeOf 31 = .ok (.iload_n 3, 1) := by decide +kernel
theorem dX5_placeOf_32 : decode cX5_placeOf 32 = .ok (.aload_n 0, 1) := by decide +kernel
theorem dX5_placeOf_33 : decode cX5_placeOf 33 = .ok (.getfield 19, 3) := by decide +kernel
theorem dX5_placeOf_36 : decode cX5_placeOf 36 = .ok (.iload_n 1, 1) := by decide +kernel
theorem dX5_placeOf_37 : decode cX5_placeOf 37 = .ok (.iaload, 1) := by decide +kernel
theorem dX5_placeOf_38 : decode cX5_placeOf 38 = .ok (.irem, 1) := by decide +kernel
theorem dX5_placeOf_39 : decode cX5_placeOf 39 = .ok (.istore 4, 2) := by decide +kernel
theorem dX5_placeOf_41 : decode cX5_placeOf 41 = .ok (.iload_n 3, 1) := by decide +kernel
theorem dX5_placeOf_42 : decode cX5_placeOf 42 = .ok (.aload_n 0, 1) := by decide +kernel
theorem dX5_placeOf_43 : decode cX5_placeOf 43 = .ok (.getfield 19, 3) := by decide +kernel
theorem dX5_placeOf_46 : decode cX5_placeOf 46 = .ok (.iload_n 1, 1) := by decide +kernel
theorem dX5_placeOf_47 : decode cX5_placeOf 47 = .ok (.iaload, 1) := by decide +kernel
theorem dX5_placeOf_48 : decode cX5_placeOf 48 = .ok (.idiv, 1) := by decide +kernel
theorem dX5_placeOf_49 : decode cX5_placeOf 49 = .ok (.istore 5, 2) := by decide +kernel
theorem dX5_placeOf_51 : decode cX5_placeOf 51 = .ok (.aload_n 0, 1) := by decide +kernel
theorem dX5_placeOf_52 : decode cX5_placeOf 52 = .ok (.getfield 31, 3) := by decide +kernel
theorem dX5_placeOf_55 : decode cX5_placeOf 55 = .ok (.bipush 12, 2) := by decide +kernel
theorem dX5_placeOf_57 : decode cX5_placeOf 57 = .ok (.iload_n 1, 1) := by decide +kernel
theorem dX5_placeOf_58 : decode cX5_placeOf 58 = .ok (.imul, 1) := by decide +kernel
theorem dX5_placeOf_59 : decode cX5_placeOf 59 = .ok (.iload_n 2, 1) := by decide +kernel
theorem dX5_placeOf_60 : decode cX5_placeOf 60 = .ok (.iadd, 1) := by decide +kernel
theorem dX5_placeOf_61 : decode cX5_placeOf 61 = .ok (.iaload, 1) := by decide +kernel
theorem dX5_placeOf_62 : decode cX5_placeOf 62 = .ok (.iload_n 3, 1) := by decide +kernel
theorem dX5_placeOf_63 : decode cX5_placeOf 63 = .ok (.iconst 1, 1) := by decide +kernel
theorem dX5_placeOf_64 : decode cX5_placeOf 64 = .ok (.iadd, 1) := by decide +kernel
theorem dX5_placeOf_65 : decode cX5_placeOf 65 = .ok (.if_icmp .ne 29, 3) := by decide +kernel
theorem dX5_placeOf_68 : decode cX5_placeOf 68 = .ok (.iload_n 2, 1) := by decide +kernel
theorem dX5_placeOf_69 : decode cX5_placeOf 69 = .ok (.aload_n 0, 1) := by decide +kernel
theorem dX5_placeOf_70 : decode cX5_placeOf 70 = .ok (.getfield 16, 3) := by decide +kernel
theorem dX5_placeOf_73 : decode cX5_placeOf 73 = .ok (.iload_n 1, 1) := by decide +kernel
theorem dX5_placeOf_74 : decode cX5_placeOf 74 = .ok (.iaload, 1) := by decide +kernel
theorem dX5_placeOf_75 : decode cX5_placeOf 75 = .ok (.aload_n 0, 1) := by decide +kernel
theorem dX5_placeOf_76 : decode cX5_placeOf 76 = .ok (.getfield 19, 3) := by decide +kernel
theorem dX5_placeOf_79 : decode cX5_placeOf 79 = .ok (.iload_n 1, 1) := by decide +kernel
theorem dX5_placeOf_80 : decode cX5_placeOf 80 = .ok (.iaload, 1) := by decide +kernel
theorem dX5_placeOf_81 : decode cX5_placeOf 81 = .ok (.iconst 1, 1) := by decide +kernel
theorem dX5_placeOf_82 : decode cX5_placeOf 82 = .ok (.isub, 1) := by decide +kernel
theorem dX5_placeOf_83 : decode cX5_placeOf 83 = .ok (.imul, 1) := by decide +kernel
theorem dX5_placeOf_84 : decode cX5_placeOf 84 = .ok (.if_icmp .ge 10, 3) := by decide +kernel
theorem dX5_placeOf_87 : decode cX5_placeOf 87 = .ok (.iload 4, 2) := by decide +kernel
theorem dX5_placeOf_89 : decode cX5_placeOf 89 = .ok (.iconst 2, 1) := by decide +kernel
theorem dX5_placeOf_90 : decode cX5_placeOf 90 = .ok (.irem, 1) := by decide +kernel
theorem dX5_placeOf_91 : decode cX5_placeOf 91 = .ok (.goto 9, 3) := by decide +kernel
theorem dX5_placeOf_94 : decode cX5_placeOf 94 = .ok (.iconst 2, 1) := by decide +kernel
theorem dX5_placeOf_95 : decode cX5_placeOf 95 = .ok (.iload 5, 2) := by decide +kernel
theorem dX5_placeOf_97 : decode cX5_placeOf 97 = .ok (.iconst 2, 1) := by decide +kernel
theorem dX5_placeOf_98 : decode cX5_placeOf 98 = .ok (.irem, 1) := by decide +kernel
theorem dX5_placeOf_99 : decode cX5_placeOf 99 = .ok (.iadd, 1) := by decide +kernel
theorem dX5_placeOf_100 : decode cX5_placeOf 100 = .ok (.ireturn, 1) := by decide +kernel
theorem dX5_crease_0 : decode cX5_crease 0 = .ok (.aload_n 0, 1) := by decide +kernel
theorem dX5_crease_1 : decode cX5_crease 1 = .ok (.iload_n 1, 1) := by decide +kernel
theorem dX5_crease_2 : decode cX5_crease 2 = .ok (.iload_n 2, 1) := by decide +kernel
theorem dX5_crease_3 : decode cX5_crease 3 = .ok (.invokevirtual 101, 3) := by decide +kernel
theorem dX5_crease_6 : decode cX5_crease 6 = .ok (.ifCond .ne 6, 3) := by decide +kernel
theorem dX5_crease_9 : decode cX5_crease 9 = .ok (.bipush (-101), 2) := by decide +kernel
theorem dX5_crease_11 : decode cX5_crease 11 = .ok (.ireturn, 1) := by decide +kernel
theorem dX5_crease_12 : decode cX5_crease 12 = .ok (.bipush 12, 2) := by decide +kernel
theorem dX5_crease_14 : decode cX5_crease 14 = .ok (.iload_n 1, 1) := by decide +kernel
theorem dX5_crease_15 : decode cX5_crease 15 = .ok (.imul, 1) := by decide +kernel
theorem dX5_crease_16 : decode cX5_crease 16 = .ok (.iload_n 2, 1) := by decide +kernel
theorem dX5_crease_17 : decode cX5_crease 17 = .ok (.iadd, 1) := by decide +kernel
theorem dX5_crease_18 : decode cX5_crease 18 = .ok (.istore 4, 2) := by decide +kernel
theorem dX5_crease_20 : decode cX5_crease 20 = .ok (.iload_n 3, 1) := by decide +kernel
theorem dX5_crease_21 : decode cX5_crease 21 = .ok (.ifCond .ne 13, 3) := by decide +kernel
theorem dX5_crease_24 : decode cX5_crease 24 = .ok (.aload_n 0, 1) := by decide +kernel
theorem dX5_crease_25 : decode cX5_crease 25 = .ok (.getfield 28, 3) := by decide +kernel
theorem dX5_crease_28 : decode cX5_crease 28 = .ok (.iload 4, 2) := by decide +kernel
theorem dX5_crease_30 : decode cX5_crease 30 = .ok (.iaload, 1) := by decide +kernel
theorem dX5_crease_31 : decode cX5_crease 31 = .ok (.goto 49, 3) := by decide +kernel
theorem dX5_crease_34 : decode cX5_crease 34 = .ok (.iload_n 3, 1) := by decide +kernel
theorem dX5_crease_35 : decode cX5_crease 35 = .ok (.iconst 1, 1) := by decide +kernel
theorem dX5_crease_36 : decode cX5_crease 36 = .ok (.if_icmp .ne 13, 3) := by decide +kernel
theorem dX5_crease_39 : decode cX5_crease 39 = .ok (.aload_n 0, 1) := by decide +kernel
theorem dX5_crease_40 : decode cX5_crease 40 = .ok (.getfield 31, 3) := by decide +kernel
theorem dX5_crease_43 : decode cX5_crease 43 = .ok (.iload 4, 2) := by decide +kernel
theorem dX5_crease_45 : decode cX5_crease 45 = .ok (.iaload, 1) := by decide +kernel
theorem dX5_crease_46 : decode cX5_crease 46 = .ok (.goto 34, 3) := by decide +kernel
theorem dX5_crease_49 : decode cX5_crease 49 = .ok (.iload_n 3, 1) := by decide +kernel
theorem dX5_crease_50 : decode cX5_crease 50 = .ok (.iconst 2, 1) := by decide +kernel
theorem dX5_crease_51 : decode cX5_crease 51 = .ok (.if_icmp .ne 13, 3) := by decide +kernel
theorem dX5_crease_54 : decode cX5_crease 54 = .ok (.aload_n 0, 1) := by decide +kernel
theorem dX5_crease_55 : decode cX5_crease 55 = .ok (.getfield 34, 3) := by decide +kernel
theorem dX5_crease_58 : decode cX5_crease 58 = .ok (.iload 4, 2) := by decide +kernel
theorem dX5_crease_60 : decode cX5_crease 60 = .ok (.iaload, 1) := by decide +kernel
theorem dX5_crease_61 : decode cX5_crease 61 = .ok (.goto 19, 3) := by decide +kernel
theorem dX5_crease_64 : decode cX5_crease 64 = .ok (.iload_n 3, 1) := by decide +kernel
theorem dX5_crease_65 : decode cX5_crease 65 = .ok (.iconst 3, 1) := by decide +kernel
theorem dX5_crease_66 : decode cX5_crease 66 = .ok (.if_icmp .ne 12, 3) := by decide +kernel
theorem dX5_crease_69 : decode cX5_crease 69 = .ok (.aload_n 0, 1) := by decide +kernel
theorem dX5_crease_70 : decode cX5_crease 70 = .ok (.iload_n 1, 1) := by decide +kernel
theorem dX5_crease_71 : decode cX5_crease 71 = .ok (.iload_n 2, 1) := by decide +kernel
theorem dX5_crease_72 : decode cX5_crease 72 = .ok (.invokevirtual 114, 3) := by decide +kernel
theorem dX5_crease_75 : decode cX5_crease 75 = .ok (.goto 5, 3) := by decide +kernel
theorem dX5_crease_78 : decode cX5_crease 78 = .ok (.bipush (-102), 2) := by decide +kernel
theorem dX5_crease_80 : decode cX5_crease 80 = .ok (.ireturn, 1) := by decide +kernel
theorem dX5_isUp_0 : decode cX5_isUp 0 = .ok (.aload_n 0, 1) := by decide +kernel
theorem dX5_isUp_1 : decode cX5_isUp 1 = .ok (.getfield 7, 3) := by decide +kernel
theorem dX5_isUp_4 : decode cX5_isUp 4 = .ok (.iload_n 1, 1) := by decide +kernel
theorem dX5_isUp_5 : decode cX5_isUp 5 = .ok (.iaload, 1) := by decide +kernel
theorem dX5_isUp_6 : decode cX5_isUp 6 = .ok (.iconst 2, 1) := by decide +kernel
theorem dX5_isUp_7 : decode cX5_isUp 7 = .ok (.if_icmp .ne 33, 3) := by decide +kernel
theorem dX5_isUp_10 : decode cX5_isUp 10 = .ok (.iload_n 2, 1) := by decide +kernel
theorem dX5_isUp_11 : decode cX5_isUp 11 = .ok (.aload_n 0, 1) := by decide +kernel
theorem dX5_isUp_12 : decode cX5_isUp 12 = .ok (.getfield 19, 3) := by decide +kernel
theorem dX5_isUp_15 : decode cX5_isUp 15 = .ok (.iload_n 1, 1) := by decide +kernel
theorem dX5_isUp_16 : decode cX5_isUp 16 = .ok (.iaload, 1) := by decide +kernel
theorem dX5_isUp_17 : decode cX5_isUp 17 = .ok (.idiv, 1) := by decide +kernel
theorem dX5_isUp_18 : decode cX5_isUp 18 = .ok (.iload_n 2, 1) := by decide +kernel
theorem dX5_isUp_19 : decode cX5_isUp 19 = .ok (.aload_n 0, 1) := by decide +kernel
theorem dX5_isUp_20 : decode cX5_isUp 20 = .ok (.getfield 19, 3) := by decide +kernel
theorem dX5_isUp_23 : decode cX5_isUp 23 = .ok (.iload_n 1, 1) := by decide +kernel
theorem dX5_isUp_24 : decode cX5_isUp 24 = .ok (.iaload, 1) := by decide +kernel
theorem dX5_isUp_25 : decode cX5_isUp 25 = .ok (.irem, 1) := by decide +kernel
theorem dX5_isUp_26 : decode cX5_isUp 26 = .ok (.iadd, 1) := by decide +kernel
theorem dX5_isUp_27 : decode cX5_isUp 27 = .ok (.iconst 2, 1) := by decide +kernel
theorem dX5_isUp_28 : decode cX5_isUp 28 = .ok (.irem, 1) := by decide +kernel
theorem dX5_isUp_29 : decode cX5_isUp 29 = .ok (.ifCond .ne 7, 3) := by decide +kernel
theorem dX5_isUp_32 : decode cX5_isUp 32 = .ok (.iconst 1, 1) := by decide +kernel
theorem dX5_isUp_33 : decode cX5_isUp 33 = .ok (.goto 18, 3) := by decide +kernel
theorem dX5_isUp_36 : decode cX5_isUp 36 = .ok (.iconst 0, 1) := by decide +kernel
theorem dX5_isUp_37 : decode cX5_isUp 37 = .ok (.goto 14, 3) := by decide +kernel
theorem dX5_isUp_40 : decode cX5_isUp 40 = .ok (.iload_n 2, 1) := by decide +kernel
theorem dX5_isUp_41 : decode cX5_isUp 41 = .ok (.iconst 2, 1) := by decide +kernel
theorem dX5_isUp_42 : decode cX5_isUp 42 = .ok (.irem, 1) := by decide +kernel
theorem dX5_isUp_43 : decode cX5_isUp 43 = .ok (.ifCond .ne 7, 3) := by decide +kernel
theorem dX5_isUp_46 : decode cX5_isUp 46 = .ok (.iconst 1, 1) := by decide +kernel
theorem dX5_isUp_47 : decode cX5_isUp 47 = .ok (.goto 4, 3) := by decide +kernel
theorem dX5_isUp_50 : decode cX5_isUp 50 = .ok (.iconst 0, 1) := by decide +kernel
theorem dX5_isUp_51 : decode cX5_isUp 51 = .ok (.ireturn, 1) := by decide +kernel
theorem dX5_begin_0 : decode cX5_begin 0 = .ok (.aload_n 0, 1) := by decide +kernel
theorem dX5_begin_1 : decode cX5_begin 1 = .ok (.iload_n 1, 1) := by decide +kernel
theorem dX5_begin_2 : decode cX5_begin 2 = .ok (.putfield 117, 3) := by decide +kernel
theorem dX5_begin_5 : decode cX5_begin 5 = .ok (.aload_n 0, 1) := by decide +kernel
theorem dX5_begin_6 : decode cX5_begin 6 = .ok (.iconst 0, 1) := by decide +kernel
theorem dX5_begin_7 : decode cX5_begin 7 = .ok (.putfield 120, 3) := by decide +kernel
theorem dX5_begin_10 : decode cX5_begin 10 = .ok (.aload_n 0, 1) := by decide +kernel
theorem dX5_begin_11 : decode cX5_begin 11 = .ok (.iconst 0, 1) := by decide +kernel
theorem dX5_begin_12 : decode cX5_begin 12 = .ok (.putfield 123, 3) := by decide +kernel
theorem dX5_begin_15 : decode cX5_begin 15 = .ok (.iconst 0, 1) := by decide +kernel
theorem dX5_begin_16 : decode cX5_begin 16 = .ok (.istore_n 2, 1) := by decide +kernel
theorem dX5_begin_17 : decode cX5_begin 17 = .ok (.iload_n 2, 1) := by decide +kernel
theorem dX5_begin_18 : decode cX5_begin 18 = .ok (.bipush 9, 2) := by decide +kernel
theorem dX5_begin_20 : decode cX5_begin 20 = .ok (.if_icmp .ge 16, 3) := by decide +kernel
theorem dX5_begin_23 : decode cX5_begin 23 = .ok (.aload_n 0, 1) := by decide +kernel
theorem dX5_begin_24 : decode cX5_begin 24 = .ok (.getfield 46, 3) := by decide +kernel
theorem dX5_begin_27 : decode cX5_begin 27 = .ok (.iload_n 2, 1) := by decide +kernel
theorem dX5_begin_28 : decode cX5_begin 28 = .ok (.iconst (-1), 1) := by decide +kernel
theorem dX5_begin_29 : decode cX5_begin 29 = .ok (.iastore, 1) := by decide +kernel
theorem dX5_begin_30 : decode cX5_begin 30 = .ok (.iinc 2 1, 3) := by decide +kernel
theorem dX5_begin_33 : decode cX5_begin 33 = .ok (.goto (-16), 3) := by decide +kernel
theorem dX5_begin_36 : decode cX5_begin 36 = .ok (.iconst 0, 1) := by decide +kernel
theorem dX5_begin_37 : decode cX5_begin 37 = .ok (.istore_n 2, 1) := by decide +kernel
theorem dX5_begin_38 : decode cX5_begin 38 = .ok (.iload_n 2, 1) := by decide +kernel
theorem dX5_begin_39 : decode cX5_begin 39 = .ok (.aload_n 0, 1) := by decide +kernel
theorem dX5_begin_40 : decode cX5_begin 40 = .ok (.getfield 22, 3) := by decide +kernel
theorem dX5_begin_43 : decode cX5_begin 43 = .ok (.iload_n 1, 1) := by decide +kernel
theorem dX5_begin_44 : decode cX5_begin 44 = .ok (.iaload, 1) := by decide +kernel
theorem dX5_begin_45 : decode cX5_begin 45 = .ok (.if_icmp .ge 21, 3) := by decide +kernel
theorem dX5_begin_48 : decode cX5_begin 48 = .ok (.aload_n 0, 1) := by decide +kernel
theorem dX5_begin_49 : decode cX5_begin 49 = .ok (.getfield 49, 3) := by decide +kernel
theorem dX5_begin_52 : decode cX5_begin 52 = .ok (.iload_n 2, 1) := by decide +kernel
theorem dX5_begin_53 : decode cX5_begin 53 = .ok (.aload_n 0, 1) := by decide +kernel
theorem dX5_begin_54 : decode cX5_begin 54 = .ok (.iload_n 1, 1) := by decide +kernel
theorem dX5_begin_55 : decode cX5_begin 55 = .ok (.iload_n 2, 1) := by decide +kernel
theorem dX5_begin_56 : decode cX5_begin 56 = .ok (.invokevirtual 114, 3) := by decide +kernel
theorem dX5_begin_59 : decode cX5_begin 59 = .ok (.iastore, 1) := by decide +kernel
theorem dX5_begin_60 : decode cX5_begin 60 = .ok (.iinc 2 1, 3) := by decide +kernel
theorem dX5_begin_63 : decode cX5_begin 63 = .ok (.goto (-25), 3) := by decide +kernel
theorem dX5_begin_66 : decode cX5_begin 66 = .ok (.return_, 1) := by decide +kernel
theorem dX5_isWithin_0 : decode cX5_isWithin 0 = .ok (.aload_n 0, 1) := by decide +kernel
theorem dX5_isWithin_1 : decode cX5_isWithin 1 = .ok (.aload_n 0, 1) := by decide +kernel
theorem dX5_isWithin_2 : decode cX5_isWithin 2 = .ok (.getfield 117, 3) := by decide +kernel
theorem dX5_isWithin_5 : decode cX5_isWithin 5 = .ok (.iload_n 1, 1) := by decide +kernel
theorem dX5_isWithin_6 : decode cX5_isWithin 6 = .ok (.invokevirtual 111, 3) := by decide +kernel
theorem dX5_isWithin_9 : decode cX5_isWithin 9 = .ok (.istore_n 3, 1) := by decide +kernel
theorem dX5_isWithin_10 : decode cX5_isWithin 10 = .ok (.aload_n 0, 1) := by decide +kernel
theorem dX5_isWithin_11 : decode cX5_isWithin 11 = .ok (.aload_n 0, 1) := by decide +kernel
theorem dX5_isWithin_12 : decode cX5_isWithin 12 = .ok (.getfield 117, 3) := by decide +kernel
theorem dX5_isWithin_15 : decode cX5_isWithin 15 = .ok (.iload_n 1, 1) := by decide +kernel
theorem dX5_isWithin_16 : decode cX5_isWithin 16 = .ok (.iconst 1, 1) := by decide +kernel
theorem dX5_isWithin_17 : decode cX5_isWithin 17 = .ok (.iadd, 1) := by decide +kernel
theorem dX5_isWithin_18 : decode cX5_isWithin 18 = .ok (.invokevirtual 111, 3) := by decide +kernel
theorem dX5_isWithin_21 : decode cX5_isWithin 21 = .ok (.istore 4, 2) := by decide +kernel
theorem dX5_isWithin_23 : decode cX5_isWithin 23 = .ok (.aload_n 0, 1) := by decide +kernel
theorem dX5_isWithin_24 : decode cX5_isWithin 24 = .ok (.getfield 7, 3) := by decide +kernel
theorem dX5_isWithin_27 : decode cX5_isWithin 27 = .ok (.aload_n 0, 1) := by decide +kernel
theorem dX5_isWithin_28 : decode cX5_isWithin 28 = .ok (.getfield 117, 3) := by decide +kernel
theorem dX5_isWithin_31 : decode cX5_isWithin 31 = .ok (.iaload, 1) := by decide +kernel
theorem dX5_isWithin_32 : decode cX5_isWithin 32 = .ok (.iconst 2, 1) := by decide +kernel
theorem dX5_isWithin_33 : decode cX5_isWithin 33 = .ok (.if_icmp .eq 27, 3) := by decide +kernel
theorem dX5_isWithin_36 : decode cX5_isWithin 36 = .ok (.iload_n 2, 1) := by decide +kernel
theorem dX5_isWithin_37 : decode cX5_isWithin 37 = .ok (.iload_n 3, 1) := by decide +kernel
theorem dX5_isWithin_38 : decode cX5_isWithin 38 = .ok (.iload 4, 2) := by decide +kernel
theorem dX5_isWithin_40 : decode cX5_isWithin 40 = .ok (.invokestatic 127, 3) := by decide +kernel
theorem dX5_isWithin_43 : decode cX5_isWithin 43 = .ok (.if_icmp .le 17, 3) := by decide +kernel
theorem dX5_isWithin_46 : decode cX5_isWithin 46 = .ok (.iload_n 2, 1) := by decide +kernel
theorem dX5_isWithin_47 : decode cX5_isWithin 47 = .ok (.iload_n 3, 1) := by decide +kernel
theorem dX5_isWithin_48 : decode cX5_isWithin 48 = .ok (.iload 4, 2) := by decide +kernel
theorem dX5_isWithin_50 : decode cX5_isWithin 50 = .ok (.invokestatic 130, 3) := by decide +kernel
theorem dX5_isWithin_53 : decode cX5_isWithin 53 = .ok (.if_icmp .ge 7, 3) := by decide +kernel
theorem dX5_isWithin_56 : decode cX5_isWithin 56 = .ok (.iconst 1, 1) := by decide +kernel
theorem dX5_isWithin_57 : decode cX5_isWithin 57 = .ok (.goto 4, 3) := by decide +kernel
theorem dX5_isWithin_60 : decode cX5_isWithin 60 = .ok (.iconst 0, 1) := by decide +kernel
theorem dX5_isWithin_61 : decode cX5_isWithin 61 = .ok (.ireturn, 1) := by decide +kernel
theorem dX5_isOneSide_0 : decode cX5_isOneSide 0 = .ok (.aload_n 0, 1) := by decide +kernel
theorem dX5_isOneSide_1 : decode cX5_isOneSide 1 = .ok (.getfield 49, 3) := by decide +kernel
theorem dX5_isOneSide_4 : decode cX5_isOneSide 4 = .ok (.iload_n 1, 1) := by decide +kernel
theorem dX5_isOneSide_5 : decode cX5_isOneSide 5 = .ok (.iaload, 1) := by decide +kernel
theorem dX5_isOneSide_6 : decode cX5_isOneSide 6 = .ok (.aload_n 0, 1) := by decide +kernel
theorem dX5_isOneSide_7 : decode cX5_isOneSide 7 = .ok (.getfield 49, 3) := by decide +kernel
theorem dX5_isOneSide_10 : decode cX5_isOneSide 10 = .ok (.iload_n 2, 1) := by decide +kernel
theorem dX5_isOneSide_11 : decode cX5_isOneSide 11 = .ok (.iaload, 1) := by decide +kernel
theorem dX5_isOneSide_12 : decode cX5_isOneSide 12 = .ok (.if_icmp .ne 55, 3) := by decide +kernel
theorem dX5_isOneSide_15 : decode cX5_isOneSide 15 = .ok (.aload_n 0, 1) := by decide +kernel
theorem dX5_isOneSide_16 : decode cX5_isOneSide 16 = .ok (.getfield 7, 3) := by decide +kernel
theorem dX5_isOneSide_19 : decode cX5_isOneSide 19 = .ok (.aload_n 0, 1) := by decide +kernel
theorem dX5_isOneSide_20 : decode cX5_isOneSide 20 = .ok (.getfield 117, 3) := by decide +kernel
theorem dX5_isOneSide_23 : decode cX5_isOneSide 23 = .ok (.iaload, 1) := by decide +kernel
theorem dX5_isOneSide_24 : decode cX5_isOneSide 24 = .ok (.iconst 2, 1) := by decide +kernel
theorem dX5_isOneSide_25 : decode cX5_isOneSide 25 = .ok (.if_icmp .eq 38, 3) := by decide +kernel
theorem dX5_isOneSide_28 : decode cX5_isOneSide 28 = .ok (.aload_n 0, 1) := by decide +kernel
theorem dX5_isOneSide_29 : decode cX5_isOneSide 29 = .ok (.getfield 28, 3) := by decide +kernel
theorem dX5_isOneSide_32 : decode cX5_isOneSide 32 = .ok (.bipush 12, 2) := by decide +kernel
theorem dX5_isOneSide_34 : decode cX5_isOneSide 34 = .ok (.aload_n 0, 1) := by decide +kernel
theorem dX5_isOneSide_35 : decode cX5_isOneSide 35 = .ok (.getfield 117, 3) := by decide +kernel
theorem dX5_isOneSide_38 : decode cX5_isOneSide 38 = .ok (.imul, 1) := by decide +kernel
theorem dX5_isOneSide_39 : decode cX5_isOneSide 39 = .ok (.iload_n 1, 1) := by decide +kernel
theorem dX5_isOneSide_40 : decode cX5_isOneSide 40 = .ok (.iadd, 1) := by decide +kernel
theorem dX5_isOneSide_41 : decode cX5_isOneSide 41 = .ok (.iaload, 1) := by decide +kernel
theorem dX5_isOneSide_42 : decode cX5_isOneSide 42 = .ok (.iconst 2, 1) := by decide +kernel
theorem dX5_isOneSide_43 : decode cX5_isOneSide 43 = .ok (.irem, 1) := by decide +kernel
theorem dX5_isOneSide_44 : decode cX5_isOneSide 44 = .ok (.aload_n 0, 1) := by decide +kernel
theorem dX5_isOneSide_45 : decode cX5_isOneSide 45 = .ok (.getfield 28, 3) := by decide +kernel
theorem dX5_isOneSide_48 : decode cX5_isOneSide 48 = .ok (.bipush 12, 2) := by decide +kernel
theorem dX5_isOneSide_50 : decode cX5_isOneSide 50 = .ok (.aload_n 0, 1) := by decide +kernel
theorem dX5_isOneSide_51 : decode cX5_isOneSide 51 = .ok (.getfield 117, 3) := by decide +kernel
theorem dX5_isOneSide_54 : decode cX5_isOneSide 54 = .ok (.imul, 1) := by decide +kernel
theorem dX5_isOneSide_55 : decode cX5_isOneSide 55 = .ok (.iload_n 2, 1) := by decide +kernel
theorem dX5_isOneSide_56 : decode cX5_isOneSide 56 = .ok (.iadd, 1) := by decide +kernel
theorem dX5_isOneSide_57 : decode cX5_isOneSide 57 = .ok (.iaload, 1) := by decide +kernel
theorem dX5_isOneSide_58 : decode cX5_isOneSide 58 = .ok (.iconst 2, 1) := by decide +kernel
theorem dX5_isOneSide_59 : decode cX5_isOneSide 59 = .ok (.irem, 1) := by decide +kernel
theorem dX5_isOneSide_60 : decode cX5_isOneSide 60 = .ok (.if_icmp .ne 7, 3) := by decide +kernel
theorem dX5_isOneSide_63 : decode cX5_isOneSide 63 = .ok (.iconst 1, 1) := by decide +kernel
theorem dX5_isOneSide_64 : decode cX5_isOneSide 64 = .ok (.goto 4, 3) := by decide +kernel
theorem dX5_isOneSide_67 : decode cX5_isOneSide 67 = .ok (.iconst 0, 1) := by decide +kernel
theorem dX5_isOneSide_68 : decode cX5_isOneSide 68 = .ok (.ireturn, 1) := by decide +kernel
theorem dX5_isFour_0 : decode cX5_isFour 0 = .ok (.aload_n 0, 1) := by decide +kernel
theorem dX5_isFour_1 : decode cX5_isFour 1 = .ok (.getfield 28, 3) := by decide +kernel
theorem dX5_isFour_4 : decode cX5_isFour 4 = .ok (.bipush 12, 2) := by decide +kernel
theorem dX5_isFour_6 : decode cX5_isFour 6 = .ok (.aload_n 0, 1) := by decide +kernel
theorem dX5_isFour_7 : decode cX5_isFour 7 = .ok (.getfield 117, 3) := by decide +kernel
theorem dX5_isFour_10 : decode cX5_isFour 10 = .ok (.imul, 1) := by decide +kernel
theorem dX5_isFour_11 : decode cX5_isFour 11 = .ok (.iload_n 1, 1) := by decide +kernel
theorem dX5_isFour_12 : decode cX5_isFour 12 = .ok (.iadd, 1) := by decide +kernel
theorem dX5_isFour_13 : decode cX5_isFour 13 = .ok (.iaload, 1) := by decide +kernel
theorem dX5_isFour_14 : decode cX5_isFour 14 = .ok (.istore_n 3, 1) := by decide +kernel
theorem dX5_isFour_15 : decode cX5_isFour 15 = .ok (.aload_n 0, 1) := by decide +kernel
theorem dX5_isFour_16 : decode cX5_isFour 16 = .ok (.getfield 31, 3) := by decide +kernel
theorem dX5_isFour_19 : decode cX5_isFour 19 = .ok (.bipush 12, 2) := by decide +kernel
theorem dX5_isFour_21 : decode cX5_isFour 21 = .ok (.aload_n 0, 1) := by decide +kernel
theorem dX5_isFour_22 : decode cX5_isFour 22 = .ok (.getfield 117, 3) := by decide +kernel
theorem dX5_isFour_25 : decode cX5_isFour 25 = .ok (.imul, 1) := by decide +kernel
theorem dX5_isFour_26 : decode cX5_isFour 26 = .ok (.iload_n 1, 1) := by decide +kernel
theorem dX5_isFour_27 : decode cX5_isFour 27 = .ok (.iadd, 1) := by decide +kernel
theorem dX5_isFour_28 : decode cX5_isFour 28 = .ok (.iaload, 1) := by decide +kernel
theorem dX5_isFour_29 : decode cX5_isFour 29 = .ok (.istore 4, 2) := by decide +kernel
theorem dX5_isFour_31 : decode cX5_isFour 31 = .ok (.aload_n 0, 1) := by decide +kernel
theorem dX5_isFour_32 : decode cX5_isFour 32 = .ok (.getfield 28, 3) := by decide +kernel
theorem dX5_isFour_35 : decode cX5_isFour 35 = .ok (.bipush 12, 2) := by decide +kernel
theorem dX5_isFour_37 : decode cX5_isFour 37 = .ok (.aload_n 0, 1) := by decide +kernel
theorem dX5_isFour_38 : decode cX5_isFour 38 = .ok (.getfield 117, 3) := by decide +kernel
theorem dX5_isFour_41 : decode cX5_isFour 41 = .ok (.imul, 1) := by decide +kernel
theorem dX5_isFour_42 : decode cX5_isFour 42 = .ok (.iload_n 2, 1) := by decide +kernel
theorem dX5_isFour_43 : decode cX5_isFour 43 = .ok (.iadd, 1) := by decide +kernel
theorem dX5_isFour_44 : decode cX5_isFour 44 = .ok (.iaload, 1) := by decide +kernel
theorem dX5_isFour_45 : decode cX5_isFour 45 = .ok (.istore 5, 2) := by decide +kernel
theorem dX5_isFour_47 : decode cX5_isFour 47 = .ok (.aload_n 0, 1) := by decide +kernel
theorem dX5_isFour_48 : decode cX5_isFour 48 = .ok (.getfield 31, 3) := by decide +kernel
theorem dX5_isFour_51 : decode cX5_isFour 51 = .ok (.bipush 12, 2) := by decide +kernel
theorem dX5_isFour_53 : decode cX5_isFour 53 = .ok (.aload_n 0, 1) := by decide +kernel
theorem dX5_isFour_54 : decode cX5_isFour 54 = .ok (.getfield 117, 3) := by decide +kernel
theorem dX5_isFour_57 : decode cX5_isFour 57 = .ok (.imul, 1) := by decide +kernel
theorem dX5_isFour_58 : decode cX5_isFour 58 = .ok (.iload_n 2, 1) := by decide +kernel
theorem dX5_isFour_59 : decode cX5_isFour 59 = .ok (.iadd, 1) := by decide +kernel
theorem dX5_isFour_60 : decode cX5_isFour 60 = .ok (.iaload, 1) := by decide +kernel
theorem dX5_isFour_61 : decode cX5_isFour 61 = .ok (.istore 6, 2) := by decide +kernel
theorem dX5_isFour_63 : decode cX5_isFour 63 = .ok (.iload_n 3, 1) := by decide +kernel
theorem dX5_isFour_64 : decode cX5_isFour 64 = .ok (.iload 5, 2) := by decide +kernel
theorem dX5_isFour_66 : decode cX5_isFour 66 = .ok (.if_icmp .eq 27, 3) := by decide +kernel
theorem dX5_isFour_69 : decode cX5_isFour 69 = .ok (.iload_n 3, 1) := by decide +kernel
theorem dX5_isFour_70 : decode cX5_isFour 70 = .ok (.iload 6, 2) := by decide +kernel
theorem dX5_isFour_72 : decode cX5_isFour 72 = .ok (.if_icmp .eq 21, 3) := by decide +kernel
theorem dX5_isFour_75 : decode cX5_isFour 75 = .ok (.iload 4, 2) := by decide +kernel
theorem dX5_isFour_77 : decode cX5_isFour 77 = .ok (.iload 5, 2) := by decide +kernel
theorem dX5_isFour_79 : decode cX5_isFour 79 = .ok (.if_icmp .eq 14, 3) := by decide +kernel
theorem dX5_isFour_82 : decode cX5_isFour 82 = .ok (.iload 4, 2) := by decide +kernel
theorem dX5_isFour_84 : decode cX5_isFour 84 = .ok (.iload 6, 2) := by decide +kernel
theorem dX5_isFour_86 : decode cX5_isFour 86 = .ok (.if_icmp .eq 7, 3) := by decide +kernel
theorem dX5_isFour_89 : decode cX5_isFour 89 = .ok (.iconst 1, 1) := by decide +kernel
theorem dX5_isFour_90 : decode cX5_isFour 90 = .ok (.goto 4, 3) := by decide +kernel
theorem dX5_isFour_93 : decode cX5_isFour 93 = .ok (.iconst 0, 1) := by decide +kernel
theorem dX5_isFour_94 : decode cX5_isFour 94 = .ok (.ireturn, 1) := by decide +kernel
theorem dX5_markIn_0 : decode cX5_markIn 0 = .ok (.aload_n 0, 1) := by decide +kernel
theorem dX5_markIn_1 : decode cX5_markIn 1 = .ok (.getfield 28, 3) := by decide +kernel
theorem dX5_markIn_4 : decode cX5_markIn 4 = .ok (.bipush 12, 2) := by decide +kernel
theorem dX5_markIn_6 : decode cX5_markIn 6 = .ok (.aload_n 0, 1) := by decide +kernel
theorem dX5_markIn_7 : decode cX5_markIn 7 = .ok (.getfield 117, 3) := by decide +kernel
theorem dX5_markIn_10 : decode cX5_markIn 10 = .ok (.imul, 1) := by decide +kernel
theorem dX5_markIn_11 : decode cX5_markIn 11 = .ok (.iload_n 1, 1) := by decide +kernel
theorem dX5_markIn_12 : decode cX5_markIn 12 = .ok (.iadd, 1) := by decide +kernel
theorem dX5_markIn_13 : decode cX5_markIn 13 = .ok (.iaload, 1) := by decide +kernel
theorem dX5_markIn_14 : decode cX5_markIn 14 = .ok (.istore_n 2, 1) := by decide +kernel
theorem dX5_markIn_15 : decode cX5_markIn 15 = .ok (.aload_n 0, 1) := by decide +kernel
theorem dX5_markIn_16 : decode cX5_markIn 16 = .ok (.getfield 46, 3) := by decide +kernel
theorem dX5_markIn_19 : decode cX5_markIn 19 = .ok (.aload_n 0, 1) := by decide +kernel
theorem dX5_markIn_20 : decode cX5_markIn 20 = .ok (.getfield 31, 3) := by decide +kernel
theorem dX5_markIn_23 : decode cX5_markIn 23 = .ok (.bipush 12, 2) := by decide +kernel
theorem dX5_markIn_25 : decode cX5_markIn 25 = .ok (.aload_n 0, 1) := by decide +kernel
theorem dX5_markIn_26 : decode cX5_markIn 26 = .ok (.getfield 117, 3) := by decide +kernel
theorem dX5_markIn_29 : decode cX5_markIn 29 = .ok (.imul, 1) := by decide +kernel
theorem dX5_markIn_30 : decode cX5_markIn 30 = .ok (.iload_n 1, 1) := by decide +kernel
theorem dX5_markIn_31 : decode cX5_markIn 31 = .ok (.iadd, 1) := by decide +kernel
theorem dX5_markIn_32 : decode cX5_markIn 32 = .ok (.iaload, 1) := by decide +kernel
theorem dX5_markIn_33 : decode cX5_markIn 33 = .ok (.iaload, 1) := by decide +kernel
theorem dX5_markIn_34 : decode cX5_markIn 34 = .ok (.aload_n 0, 1) := by decide +kernel
theorem dX5_markIn_35 : decode cX5_markIn 35 = .ok (.getfield 46, 3) := by decide +kernel
theorem dX5_markIn_38 : decode cX5_markIn 38 = .ok (.iload_n 2, 1) := by decide +kernel
theorem dX5_markIn_39 : decode cX5_markIn 39 = .ok (.iaload, 1) := by decide +kernel
theorem dX5_markIn_40 : decode cX5_markIn 40 = .ok (.if_icmp .le 7, 3) := by decide +kernel
theorem dX5_markIn_43 : decode cX5_markIn 43 = .ok (.iconst 1, 1) := by decide +kernel
theorem dX5_markIn_44 : decode cX5_markIn 44 = .ok (.goto 4, 3) := by decide +kernel
theorem dX5_markIn_47 : decode cX5_markIn 47 = .ok (.iconst 0, 1) := by decide +kernel
theorem dX5_markIn_48 : decode cX5_markIn 48 = .ok (.istore_n 3, 1) := by decide +kernel
theorem dX5_markIn_49 : decode cX5_markIn 49 = .ok (.iload_n 3, 1) := by decide +kernel
theorem dX5_markIn_50 : decode cX5_markIn 50 = .ok (.aload_n 0, 1) := by decide +kernel
theorem dX5_markIn_51 : decode cX5_markIn 51 = .ok (.aload_n 0, 1) := by decide +kernel
theorem dX5_markIn_52 : decode cX5_markIn 52 = .ok (.getfield 117, 3) := by decide +kernel
theorem dX5_markIn_55 : decode cX5_markIn 55 = .ok (.iload_n 2, 1) := by decide +kernel
theorem dX5_markIn_56 : decode cX5_markIn 56 = .ok (.invokevirtual 133, 3) := by decide +kernel
theorem dX5_markIn_59 : decode cX5_markIn 59 = .ok (.if_icmp .ne 7, 3) := by decide +kernel
theorem dX5_markIn_62 : decode cX5_markIn 62 = .ok (.iconst 2, 1) := by decide +kernel
theorem dX5_markIn_63 : decode cX5_markIn 63 = .ok (.goto 4, 3) := by decide +kernel
theorem dX5_markIn_66 : decode cX5_markIn 66 = .ok (.iconst 1, 1) := by decide +kernel
theorem dX5_markIn_67 : decode cX5_markIn 67 = .ok (.ireturn, 1) := by decide +kernel
theorem dX5_isFine_0 : decode cX5_isFine 0 = .ok (.iconst 0, 1) := by decide +kernel
theorem dX5_isFine_1 : decode cX5_isFine 1 = .ok (.istore_n 2, 1) := by decide +kernel
theorem dX5_isFine_2 : decode cX5_isFine 2 = .ok (.iload_n 2, 1) := by decide +kernel
theorem dX5_isFine_3 : decode cX5_isFine 3 = .ok (.aload_n 0, 1) := by decide +kernel
theorem dX5_isFine_4 : decode cX5_isFine 4 = .ok (.getfield 22, 3) := by decide +kernel
theorem dX5_isFine_7 : decode cX5_isFine 7 = .ok (.aload_n 0, 1) := by decide +kernel
theorem dX5_isFine_8 : decode cX5_isFine 8 = .ok (.getfield 117, 3) := by decide +kernel
theorem dX5_isFine_11 : decode cX5_isFine 11 = .ok (.iaload, 1) := by decide +kernel
theorem dX5_isFine_12 : decode cX5_isFine 12 = .ok (.if_icmp .ge 132, 3) := by decide +kernel
theorem dX5_isFine_15 : decode cX5_isFine 15 = .ok (.aload_n 0, 1) := by decide +kernel
theorem dX5_isFine_16 : decode cX5_isFine 16 = .ok (.getfield 28, 3) := by decide +kernel
theorem dX5_isFine_19 : decode cX5_isFine 19 = .ok (.bipush 12, 2) := by decide +kernel
theorem dX5_isFine_21 : decode cX5_isFine 21 = .ok (.aload_n 0, 1) := by decide +kernel
theorem dX5_isFine_22 : decode cX5_isFine 22 = .ok (.getfield 117, 3) := by decide +kernel
theorem dX5_isFine_25 : decode cX5_isFine 25 = .ok (.imul, 1) := by decide +kernel
theorem dX5_isFine_26 : decode cX5_isFine 26 = .ok (.iload_n 2, 1) := by decide +kernel
theorem dX5_isFine_27 : decode cX5_isFine 27 = .ok (.iadd, 1) := by decide +kernel
theorem dX5_isFine_28 : decode cX5_isFine 28 = .ok (.iaload, 1) := by decide +kernel
theorem dX5_isFine_29 : decode cX5_isFine 29 = .ok (.istore_n 3, 1) := by decide +kernel
theorem dX5_isFine_30 : decode cX5_isFine 30 = .ok (.aload_n 0, 1) := by decide +kernel
theorem dX5_isFine_31 : decode cX5_isFine 31 = .ok (.getfield 31, 3) := by decide +kernel
theorem dX5_isFine_34 : decode cX5_isFine 34 = .ok (.bipush 12, 2) := by decide +kernel
theorem dX5_isFine_36 : decode cX5_isFine 36 = .ok (.aload_n 0, 1) := by decide +kernel
theorem dX5_isFine_37 : decode cX5_isFine 37 = .ok (.getfield 117, 3) := by decide +kernel
theorem dX5_isFine_40 : decode cX5_isFine 40 = .ok (.imul, 1) := by decide +kernel
theorem dX5_isFine_41 : decode cX5_isFine 41 = .ok (.iload_n 2, 1) := by decide +kernel
theorem dX5_isFine_42 : decode cX5_isFine 42 = .ok (.iadd, 1) := by decide +kernel
theorem dX5_isFine_43 : decode cX5_isFine 43 = .ok (.iaload, 1) := by decide +kernel
theorem dX5_isFine_44 : decode cX5_isFine 44 = .ok (.istore 4, 2) := by decide +kernel
theorem dX5_isFine_46 : decode cX5_isFine 46 = .ok (.aload_n 0, 1) := by decide +kernel
theorem dX5_isFine_47 : decode cX5_isFine 47 = .ok (.getfield 46, 3) := by decide +kernel
theorem dX5_isFine_50 : decode cX5_isFine 50 = .ok (.iload_n 3, 1) := by decide +kernel
theorem dX5_isFine_51 : decode cX5_isFine 51 = .ok (.iaload, 1) := by decide +kernel
theorem dX5_isFine_52 : decode cX5_isFine 52 = .ok (.iconst (-1), 1) := by decide +kernel
theorem dX5_isFine_53 : decode cX5_isFine 53 = .ok (.if_icmp .eq 7, 3) := by decide +kernel
theorem dX5_isFine_56 : decode cX5_isFine 56 = .ok (.iconst 1, 1) := by decide +kernel
theorem dX5_isFine_57 : decode cX5_isFine 57 = .ok (.goto 4, 3) := by decide +kernel
theorem dX5_isFine_60 : decode cX5_isFine 60 = .ok (.iconst 0, 1) := by decide +kernel
theorem dX5_isFine_61 : decode cX5_isFine 61 = .ok (.istore 5, 2) := by decide +kernel
theorem dX5_isFine_63 : decode cX5_isFine 63 = .ok (.aload_n 0, 1) := by decide +kernel
theorem dX5_isFine_64 : decode cX5_isFine 64 = .ok (.getfield 46, 3) := by decide +kernel
theorem dX5_isFine_67 : decode cX5_isFine 67 = .ok (.iload 4, 2) := by decide +kernel
theorem dX5_isFine_69 : decode cX5_isFine 69 = .ok (.iaload, 1) := by decide +kernel
theorem dX5_isFine_70 : decode cX5_isFine 70 = .ok (.iconst (-1), 1) := by decide +kernel
theorem dX5_isFine_71 : decode cX5_isFine 71 = .ok (.if_icmp .eq 7, 3) := by decide +kernel
theorem dX5_isFine_74 : decode cX5_isFine 74 = .ok (.iconst 1, 1) := by decide +kernel
theorem dX5_isFine_75 : decode cX5_isFine 75 = .ok (.goto 4, 3) := by decide +kernel
theorem dX5_isFine_78 : decode cX5_isFine 78 = .ok (.iconst 0, 1) := by decide +kernel
theorem dX5_isFine_79 : decode cX5_isFine 79 = .ok (.istore 6, 2) := by decide +kernel
theorem dX5_isFine_81 : decode cX5_isFine 81 = .ok (.iload_n 3, 1) := by decide +kernel
theorem dX5_isFine_82 : decode cX5_isFine 82 = .ok (.iload_n 1, 1) := by decide +kernel
theorem dX5_isFine_83 : decode cX5_isFine 83 = .ok (.if_icmp .eq 9, 3) := by decide +kernel
theorem dX5_isFine_86 : decode cX5_isFine 86 = .ok (.iload 4, 2) := by decide +kernel
theorem dX5_isFine_88 : decode cX5_isFine 88 = .ok (.iload_n 1, 1) := by decide +kernel
theorem dX5_isFine_89 : decode cX5_isFine 89 = .ok (.if_icmp .ne 26, 3) := by decide +kernel
theorem dX5_isFine_92 : decode cX5_isFine 92 = .ok (.iload 5, 2) := by decide +kernel
theorem dX5_isFine_94 : decode cX5_isFine 94 = .ok (.ifCond .eq 44, 3) := by decide +kernel
theorem dX5_isFine_97 : decode cX5_isFine 97 = .ok (.iload 6, 2) := by decide +kernel
theorem dX5_isFine_99 : decode cX5_isFine 99 = .ok (.ifCond .eq 39, 3) := by decide +kernel
theorem dX5_isFine_102 : decode cX5_isFine 102 = .ok (.aload_n 0, 1) := by decide +kernel
theorem dX5_isFine_103 : decode cX5_isFine 103 = .ok (.iload_n 2, 1) := by decide +kernel
theorem dX5_isFine_104 : decode cX5_isFine 104 = .ok (.iload_n 3, 1) := by decide +kernel
theorem dX5_isFine_105 : decode cX5_isFine 105 = .ok (.iload 4, 2) := by decide +kernel
