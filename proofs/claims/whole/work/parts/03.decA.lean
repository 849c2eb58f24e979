theorem dX0_init_0 : decode cX0_init 0 = .ok (.aload_n 0, 1) := by decide +kernel
theorem dX0_init_1 : decode cX0_init 1 = .ok (.invokespecial 3, 3) := by decide +kernel
theorem dX0_init_4 : decode cX0_init 4 = .ok (.aload_n 0, 1) := by decide +kernel
theorem dX0_init_5 : decode cX0_init 5 = .ok (.iconst 0, 1) := by decide +kernel
theorem dX0_init_6 : decode cX0_init 6 = .ok (.putfield 9, 3) := by decide +kernel
theorem dX0_init_9 : decode cX0_init 9 = .ok (.aload_n 0, 1) := by decide +kernel
theorem dX0_init_10 : decode cX0_init 10 = .ok (.iconst 2, 1) := by decide +kernel
theorem dX0_init_11 : decode cX0_init 11 = .ok (.bipush 10, 2) := by decide +kernel
theorem dX0_init_13 : decode cX0_init 13 = .ok (.multianewarray 15 2, 4) := by decide +kernel
theorem dX0_init_17 : decode cX0_init 17 = .ok (.putfield 17, 3) := by decide +kernel
theorem dX0_init_20 : decode cX0_init 20 = .ok (.aload_n 0, 1) := by decide +kernel
theorem dX0_init_21 : decode cX0_init 21 = .ok (.iconst 2, 1) := by decide +kernel
theorem dX0_init_22 : decode cX0_init 22 = .ok (.bipush 9, 2) := by decide +kernel
theorem dX0_init_24 : decode cX0_init 24 = .ok (.multianewarray 15 2, 4) := by decide +kernel
theorem dX0_init_28 : decode cX0_init 28 = .ok (.putfield 20, 3) := by decide +kernel
theorem dX0_init_31 : decode cX0_init 31 = .ok (.return_, 1) := by decide +kernel
theorem dX0_put_0 : decode cX0_put 0 = .ok (.aload_n 0, 1) := by decide +kernel
theorem dX0_put_1 : decode cX0_put 1 = .ok (.iload_n 2, 1) := by decide +kernel
theorem dX0_put_2 : decode cX0_put 2 = .ok (.putfield 9, 3) := by decide +kernel
theorem dX0_put_5 : decode cX0_put 5 = .ok (.iconst 0, 1) := by decide +kernel
theorem dX0_put_6 : decode cX0_put 6 = .ok (.istore_n 3, 1) := by decide +kernel
theorem dX0_put_7 : decode cX0_put 7 = .ok (.iload_n 3, 1) := by decide +kernel
theorem dX0_put_8 : decode cX0_put 8 = .ok (.iconst 1, 1) := by decide +kernel
theorem dX0_put_9 : decode cX0_put 9 = .ok (.if_icmp .gt 117, 3) := by decide +kernel
theorem dX0_put_12 : decode cX0_put 12 = .ok (.iconst 0, 1) := by decide +kernel
theorem dX0_put_13 : decode cX0_put 13 = .ok (.istore 4, 2) := by decide +kernel
theorem dX0_put_15 : decode cX0_put 15 = .ok (.iconst 0, 1) := by decide +kernel
theorem dX0_put_16 : decode cX0_put 16 = .ok (.istore 5, 2) := by decide +kernel
theorem dX0_put_18 : decode cX0_put 18 = .ok (.iload 5, 2) := by decide +kernel
theorem dX0_put_20 : decode cX0_put 20 = .ok (.aload_n 0, 1) := by decide +kernel
theorem dX0_put_21 : decode cX0_put 21 = .ok (.aload_n 1, 1) := by decide +kernel
theorem dX0_put_22 : decode cX0_put 22 = .ok (.iload_n 3, 1) := by decide +kernel
theorem dX0_put_23 : decode cX0_put 23 = .ok (.invokevirtual 23, 3) := by decide +kernel
theorem dX0_put_26 : decode cX0_put 26 = .ok (.if_icmp .ge 94, 3) := by decide +kernel
theorem dX0_put_29 : decode cX0_put 29 = .ok (.iload 5, 2) := by decide +kernel
theorem dX0_put_31 : decode cX0_put 31 = .ok (.ifCond .le 29, 3) := by decide +kernel
theorem dX0_put_34 : decode cX0_put 34 = .ok (.aload_n 0, 1) := by decide +kernel
theorem dX0_put_35 : decode cX0_put 35 = .ok (.getfield 9, 3) := by decide +kernel
theorem dX0_put_38 : decode cX0_put 38 = .ok (.aload_n 0, 1) := by decide +kernel
theorem dX0_put_39 : decode cX0_put 39 = .ok (.aload_n 1, 1) := by decide +kernel
theorem dX0_put_40 : decode cX0_put 40 = .ok (.iload_n 3, 1) := by decide +kernel
theorem dX0_put_41 : decode cX0_put 41 = .ok (.iload 5, 2) := by decide +kernel
theorem dX0_put_43 : decode cX0_put 43 = .ok (.iconst 1, 1) := by decide +kernel
theorem dX0_put_44 : decode cX0_put 44 = .ok (.isub, 1) := by decide +kernel
theorem dX0_put_45 : decode cX0_put 45 = .ok (.invokevirtual 27, 3) := by decide +kernel
theorem dX0_put_48 : decode cX0_put 48 = .ok (.invokestatic 31, 3) := by decide +kernel
theorem dX0_put_51 : decode cX0_put 51 = .ok (.ifCond .eq 9, 3) := by decide +kernel
theorem dX0_put_54 : decode cX0_put 54 = .ok (.iconst 1, 1) := by decide +kernel
theorem dX0_put_55 : decode cX0_put 55 = .ok (.iload 4, 2) := by decide +kernel
theorem dX0_put_57 : decode cX0_put 57 = .ok (.isub, 1) := by decide +kernel
theorem dX0_put_58 : decode cX0_put 58 = .ok (.istore 4, 2) := by decide +kernel
theorem dX0_put_60 : decode cX0_put 60 = .ok (.aload_n 1, 1) := by decide +kernel
theorem dX0_put_61 : decode cX0_put 61 = .ok (.getfield 35, 3) := by decide +kernel
theorem dX0_put_64 : decode cX0_put 64 = .ok (.iload 5, 2) := by decide +kernel
theorem dX0_put_66 : decode cX0_put 66 = .ok (.iaload, 1) := by decide +kernel
theorem dX0_put_67 : decode cX0_put 67 = .ok (.istore 6, 2) := by decide +kernel
theorem dX0_put_69 : decode cX0_put 69 = .ok (.aload_n 0, 1) := by decide +kernel
theorem dX0_put_70 : decode cX0_put 70 = .ok (.getfield 20, 3) := by decide +kernel
theorem dX0_put_73 : decode cX0_put 73 = .ok (.iload_n 3, 1) := by decide +kernel
theorem dX0_put_74 : decode cX0_put 74 = .ok (.aaload, 1) := by decide +kernel
theorem dX0_put_75 : decode cX0_put 75 = .ok (.iload 5, 2) := by decide +kernel
theorem dX0_put_77 : decode cX0_put 77 = .ok (.iload 4, 2) := by decide +kernel
theorem dX0_put_79 : decode cX0_put 79 = .ok (.iastore, 1) := by decide +kernel
theorem dX0_put_80 : decode cX0_put 80 = .ok (.aload_n 0, 1) := by decide +kernel
theorem dX0_put_81 : decode cX0_put 81 = .ok (.getfield 17, 3) := by decide +kernel
theorem dX0_put_84 : decode cX0_put 84 = .ok (.iload_n 3, 1) := by decide +kernel
theorem dX0_put_85 : decode cX0_put 85 = .ok (.aaload, 1) := by decide +kernel
theorem dX0_put_86 : decode cX0_put 86 = .ok (.iload 5, 2) := by decide +kernel
theorem dX0_put_88 : decode cX0_put 88 = .ok (.iconst 1, 1) := by decide +kernel
theorem dX0_put_89 : decode cX0_put 89 = .ok (.iadd, 1) := by decide +kernel
theorem dX0_put_90 : decode cX0_put 90 = .ok (.aload_n 0, 1) := by decide +kernel
theorem dX0_put_91 : decode cX0_put 91 = .ok (.getfield 17, 3) := by decide +kernel
theorem dX0_put_94 : decode cX0_put 94 = .ok (.iload_n 3, 1) := by decide +kernel
theorem dX0_put_95 : decode cX0_put 95 = .ok (.aaload, 1) := by decide +kernel
theorem dX0_put_96 : decode cX0_put 96 = .ok (.iload 5, 2) := by decide +kernel
theorem dX0_put_98 : decode cX0_put 98 = .ok (.iaload, 1) := by decide +kernel
theorem dX0_put_99 : decode cX0_put 99 = .ok (.iload 4, 2) := by decide +kernel
theorem dX0_put_101 : decode cX0_put 101 = .ok (.ifCond .ne 8, 3) := by decide +kernel
theorem dX0_put_104 : decode cX0_put 104 = .ok (.iload 6, 2) := by decide +kernel
theorem dX0_put_106 : decode cX0_put 106 = .ok (.goto 6, 3) := by decide +kernel
theorem dX0_put_109 : decode cX0_put 109 = .ok (.iload 6, 2) := by decide +kernel
theorem dX0_put_111 : decode cX0_put 111 = .ok (.ineg, 1) := by decide +kernel
theorem dX0_put_112 : decode cX0_put 112 = .ok (.iadd, 1) := by decide +kernel
theorem dX0_put_113 : decode cX0_put 113 = .ok (.iastore, 1) := by decide +kernel
theorem dX0_put_114 : decode cX0_put 114 = .ok (.iinc 5 1, 3) := by decide +kernel
theorem dX0_put_117 : decode cX0_put 117 = .ok (.goto (-99), 3) := by decide +kernel
theorem dX0_put_120 : decode cX0_put 120 = .ok (.iinc 3 1, 3) := by decide +kernel
theorem dX0_put_123 : decode cX0_put 123 = .ok (.goto (-116), 3) := by decide +kernel
theorem dX0_put_126 : decode cX0_put 126 = .ok (.return_, 1) := by decide +kernel
theorem dX0_bands_0 : decode cX0_bands 0 = .ok (.iload_n 2, 1) := by decide +kernel
theorem dX0_bands_1 : decode cX0_bands 1 = .ok (.ifCond .ne 10, 3) := by decide +kernel
theorem dX0_bands_4 : decode cX0_bands 4 = .ok (.aload_n 1, 1) := by decide +kernel
theorem dX0_bands_5 : decode cX0_bands 5 = .ok (.getfield 41, 3) := by decide +kernel
theorem dX0_bands_8 : decode cX0_bands 8 = .ok (.goto 7, 3) := by decide +kernel
theorem dX0_bands_11 : decode cX0_bands 11 = .ok (.aload_n 1, 1) := by decide +kernel
theorem dX0_bands_12 : decode cX0_bands 12 = .ok (.getfield 44, 3) := by decide +kernel
theorem dX0_bands_15 : decode cX0_bands 15 = .ok (.ireturn, 1) := by decide +kernel
theorem dX0_lineBehind_0 : decode cX0_lineBehind 0 = .ok (.iload_n 2, 1) := by decide +kernel
theorem dX0_lineBehind_1 : decode cX0_lineBehind 1 = .ok (.ifCond .ne 7, 3) := by decide +kernel
theorem dX0_lineBehind_4 : decode cX0_lineBehind 4 = .ok (.iload_n 3, 1) := by decide +kernel
theorem dX0_lineBehind_5 : decode cX0_lineBehind 5 = .ok (.goto 11, 3) := by decide +kernel
theorem dX0_lineBehind_8 : decode cX0_lineBehind 8 = .ok (.aload_n 1, 1) := by decide +kernel
theorem dX0_lineBehind_9 : decode cX0_lineBehind 9 = .ok (.getfield 41, 3) := by decide +kernel
theorem dX0_lineBehind_12 : decode cX0_lineBehind 12 = .ok (.iconst 1, 1) := by decide +kernel
theorem dX0_lineBehind_13 : decode cX0_lineBehind 13 = .ok (.isub, 1) := by decide +kernel
theorem dX0_lineBehind_14 : decode cX0_lineBehind 14 = .ok (.iload_n 3, 1) := by decide +kernel
theorem dX0_lineBehind_15 : decode cX0_lineBehind 15 = .ok (.iadd, 1) := by decide +kernel
theorem dX0_lineBehind_16 : decode cX0_lineBehind 16 = .ok (.ireturn, 1) := by decide +kernel
theorem dX0_isFrontUp_0 : decode cX0_isFrontUp 0 = .ok (.aload_n 0, 1) := by decide +kernel
theorem dX0_isFrontUp_1 : decode cX0_isFrontUp 1 = .ok (.getfield 20, 3) := by decide +kernel
theorem dX0_isFrontUp_4 : decode cX0_isFrontUp 4 = .ok (.iconst 0, 1) := by decide +kernel
theorem dX0_isFrontUp_5 : decode cX0_isFrontUp 5 = .ok (.aaload, 1) := by decide +kernel
theorem dX0_isFrontUp_6 : decode cX0_isFrontUp 6 = .ok (.aload_n 1, 1) := by decide +kernel
theorem dX0_isFrontUp_7 : decode cX0_isFrontUp 7 = .ok (.getfield 47, 3) := by decide +kernel
theorem dX0_isFrontUp_10 : decode cX0_isFrontUp 10 = .ok (.iload_n 2, 1) := by decide +kernel
theorem dX0_isFrontUp_11 : decode cX0_isFrontUp 11 = .ok (.iaload, 1) := by decide +kernel
theorem dX0_isFrontUp_12 : decode cX0_isFrontUp 12 = .ok (.iaload, 1) := by decide +kernel
theorem dX0_isFrontUp_13 : decode cX0_isFrontUp 13 = .ok (.aload_n 0, 1) := by decide +kernel
theorem dX0_isFrontUp_14 : decode cX0_isFrontUp 14 = .ok (.getfield 20, 3) := by decide +kernel
theorem dX0_isFrontUp_17 : decode cX0_isFrontUp 17 = .ok (.iconst 1, 1) := by decide +kernel
theorem dX0_isFrontUp_18 : decode cX0_isFrontUp 18 = .ok (.aaload, 1) := by decide +kernel
theorem dX0_isFrontUp_19 : decode cX0_isFrontUp 19 = .ok (.aload_n 1, 1) := by decide +kernel
theorem dX0_isFrontUp_20 : decode cX0_isFrontUp 20 = .ok (.getfield 50, 3) := by decide +kernel
theorem dX0_isFrontUp_23 : decode cX0_isFrontUp 23 = .ok (.iload_n 2, 1) := by decide +kernel
theorem dX0_isFrontUp_24 : decode cX0_isFrontUp 24 = .ok (.iaload, 1) := by decide +kernel
theorem dX0_isFrontUp_25 : decode cX0_isFrontUp 25 = .ok (.iaload, 1) := by decide +kernel
theorem dX0_isFrontUp_26 : decode cX0_isFrontUp 26 = .ok (.if_icmp .ne 7, 3) := by decide +kernel
theorem dX0_isFrontUp_29 : decode cX0_isFrontUp 29 = .ok (.iconst 1, 1) := by decide +kernel
theorem dX0_isFrontUp_30 : decode cX0_isFrontUp 30 = .ok (.goto 4, 3) := by decide +kernel
theorem dX0_isFrontUp_33 : decode cX0_isFrontUp 33 = .ok (.iconst 0, 1) := by decide +kernel
theorem dX0_isFrontUp_34 : decode cX0_isFrontUp 34 = .ok (.ireturn, 1) := by decide +kernel
theorem dX0_linesFoldedBy_0 : decode cX0_linesFoldedBy 0 = .ok (.iload_n 2, 1) := by decide +kernel
theorem dX0_linesFoldedBy_1 : decode cX0_linesFoldedBy 1 = .ok (.iconst 1, 1) := by decide +kernel
theorem dX0_linesFoldedBy_2 : decode cX0_linesFoldedBy 2 = .ok (.ishr, 1) := by decide +kernel
theorem dX0_linesFoldedBy_3 : decode cX0_linesFoldedBy 3 = .ok (.iconst 1, 1) := by decide +kernel
theorem dX0_linesFoldedBy_4 : decode cX0_linesFoldedBy 4 = .ok (.iand, 1) := by decide +kernel
theorem dX0_linesFoldedBy_5 : decode cX0_linesFoldedBy 5 = .ok (.istore_n 3, 1) := by decide +kernel
theorem dX0_linesFoldedBy_6 : decode cX0_linesFoldedBy 6 = .ok (.iload_n 2, 1) := by decide +kernel
theorem dX0_linesFoldedBy_7 : decode cX0_linesFoldedBy 7 = .ok (.iconst 2, 1) := by decide +kernel
theorem dX0_linesFoldedBy_8 : decode cX0_linesFoldedBy 8 = .ok (.ishr, 1) := by decide +kernel
theorem dX0_linesFoldedBy_9 : decode cX0_linesFoldedBy 9 = .ok (.istore 4, 2) := by decide +kernel
theorem dX0_linesFoldedBy_11 : decode cX0_linesFoldedBy 11 = .ok (.iload_n 2, 1) := by decide +kernel
theorem dX0_linesFoldedBy_12 : decode cX0_linesFoldedBy 12 = .ok (.iconst 1, 1) := by decide +kernel
theorem dX0_linesFoldedBy_13 : decode cX0_linesFoldedBy 13 = .ok (.iand, 1) := by decide +kernel
theorem dX0_linesFoldedBy_14 : decode cX0_linesFoldedBy 14 = .ok (.ifCond .eq 7, 3) := by decide +kernel
theorem dX0_linesFoldedBy_17 : decode cX0_linesFoldedBy 17 = .ok (.iconst 1, 1) := by decide +kernel
theorem dX0_linesFoldedBy_18 : decode cX0_linesFoldedBy 18 = .ok (.goto 4, 3) := by decide +kernel
theorem dX0_linesFoldedBy_21 : decode cX0_linesFoldedBy 21 = .ok (.iconst 0, 1) := by decide +kernel
theorem dX0_linesFoldedBy_22 : decode cX0_linesFoldedBy 22 = .ok (.istore 5, 2) := by decide +kernel
theorem dX0_linesFoldedBy_24 : decode cX0_linesFoldedBy 24 = .ok (.aload_n 0, 1) := by decide +kernel
theorem dX0_linesFoldedBy_25 : decode cX0_linesFoldedBy 25 = .ok (.aload_n 1, 1) := by decide +kernel
theorem dX0_linesFoldedBy_26 : decode cX0_linesFoldedBy 26 = .ok (.iload_n 3, 1) := by decide +kernel
theorem dX0_linesFoldedBy_27 : decode cX0_linesFoldedBy 27 = .ok (.iload 4, 2) := by decide +kernel
theorem dX0_linesFoldedBy_29 : decode cX0_linesFoldedBy 29 = .ok (.invokevirtual 53, 3) := by decide +kernel
theorem dX0_linesFoldedBy_32 : decode cX0_linesFoldedBy 32 = .ok (.istore 6, 2) := by decide +kernel
theorem dX0_linesFoldedBy_34 : decode cX0_linesFoldedBy 34 = .ok (.aload_n 0, 1) := by decide +kernel
theorem dX0_linesFoldedBy_35 : decode cX0_linesFoldedBy 35 = .ok (.aload_n 1, 1) := by decide +kernel
theorem dX0_linesFoldedBy_36 : decode cX0_linesFoldedBy 36 = .ok (.iload_n 3, 1) := by decide +kernel
theorem dX0_linesFoldedBy_37 : decode cX0_linesFoldedBy 37 = .ok (.iload 4, 2) := by decide +kernel
theorem dX0_linesFoldedBy_39 : decode cX0_linesFoldedBy 39 = .ok (.invokevirtual 56, 3) := by decide +kernel
theorem dX0_linesFoldedBy_42 : decode cX0_linesFoldedBy 42 = .ok (.ifCond .ne 15, 3) := by decide +kernel
theorem dX0_linesFoldedBy_45 : decode cX0_linesFoldedBy 45 = .ok (.aload_n 0, 1) := by decide +kernel
theorem dX0_linesFoldedBy_46 : decode cX0_linesFoldedBy 46 = .ok (.aload_n 1, 1) := by decide +kernel
theorem dX0_linesFoldedBy_47 : decode cX0_linesFoldedBy 47 = .ok (.iload 6, 2) := by decide +kernel
theorem dX0_linesFoldedBy_49 : decode cX0_linesFoldedBy 49 = .ok (.iload 5, 2) := by decide +kernel
theorem dX0_linesFoldedBy_51 : decode cX0_linesFoldedBy 51 = .ok (.invokevirtual 60, 3) := by decide +kernel
theorem dX0_linesFoldedBy_54 : decode cX0_linesFoldedBy 54 = .ok (.ifCond .ne 7, 3) := by decide +kernel
theorem dX0_linesFoldedBy_57 : decode cX0_linesFoldedBy 57 = .ok (.iconst 0, 1) := by decide +kernel
theorem dX0_linesFoldedBy_58 : decode cX0_linesFoldedBy 58 = .ok (.goto 5, 3) := by decide +kernel
theorem dX0_linesFoldedBy_61 : decode cX0_linesFoldedBy 61 = .ok (.iload 6, 2) := by decide +kernel
theorem dX0_linesFoldedBy_63 : decode cX0_linesFoldedBy 63 = .ok (.ireturn, 1) := by decide +kernel
theorem dX0_unfoldedAt_0 : decode cX0_unfoldedAt 0 = .ok (.iconst 0, 1) := by decide +kernel
theorem dX0_unfoldedAt_1 : decode cX0_unfoldedAt 1 = .ok (.istore 4, 2) := by decide +kernel
theorem dX0_unfoldedAt_3 : decode cX0_unfoldedAt 3 = .ok (.iconst 0, 1) := by decide +kernel
theorem dX0_unfoldedAt_4 : decode cX0_unfoldedAt 4 = .ok (.istore 5, 2) := by decide +kernel
theorem dX0_unfoldedAt_6 : decode cX0_unfoldedAt 6 = .ok (.iload 5, 2) := by decide +kernel
theorem dX0_unfoldedAt_8 : decode cX0_unfoldedAt 8 = .ok (.aload_n 0, 1) := by decide +kernel
theorem dX0_unfoldedAt_9 : decode cX0_unfoldedAt 9 = .ok (.aload_n 1, 1) := by decide +kernel
theorem dX0_unfoldedAt_10 : decode cX0_unfoldedAt 10 = .ok (.iload_n 2, 1) := by decide +kernel
theorem dX0_unfoldedAt_11 : decode cX0_unfoldedAt 11 = .ok (.invokevirtual 23, 3) := by decide +kernel
theorem dX0_unfoldedAt_14 : decode cX0_unfoldedAt 14 = .ok (.iconst 1, 1) := by decide +kernel
theorem dX0_unfoldedAt_15 : decode cX0_unfoldedAt 15 = .ok (.isub, 1) := by decide +kernel
theorem dX0_unfoldedAt_16 : decode cX0_unfoldedAt 16 = .ok (.if_icmp .ge 55, 3) := by decide +kernel
theorem dX0_unfoldedAt_19 : decode cX0_unfoldedAt 19 = .ok (.aload_n 0, 1) := by decide +kernel
theorem dX0_unfoldedAt_20 : decode cX0_unfoldedAt 20 = .ok (.aload_n 1, 1) := by decide +kernel
theorem dX0_unfoldedAt_21 : decode cX0_unfoldedAt 21 = .ok (.iload_n 2, 1) := by decide +kernel
theorem dX0_unfoldedAt_22 : decode cX0_unfoldedAt 22 = .ok (.iload 5, 2) := by decide +kernel
theorem dX0_unfoldedAt_24 : decode cX0_unfoldedAt 24 = .ok (.invokevirtual 27, 3) := by decide +kernel
theorem dX0_unfoldedAt_27 : decode cX0_unfoldedAt 27 = .ok (.istore 6, 2) := by decide +kernel
theorem dX0_unfoldedAt_29 : decode cX0_unfoldedAt 29 = .ok (.aload_n 0, 1) := by decide +kernel
theorem dX0_unfoldedAt_30 : decode cX0_unfoldedAt 30 = .ok (.getfield 9, 3) := by decide +kernel
theorem dX0_unfoldedAt_33 : decode cX0_unfoldedAt 33 = .ok (.iload 6, 2) := by decide +kernel
theorem dX0_unfoldedAt_35 : decode cX0_unfoldedAt 35 = .ok (.invokestatic 31, 3) := by decide +kernel
theorem dX0_unfoldedAt_38 : decode cX0_unfoldedAt 38 = .ok (.ifCond .ne 27, 3) := by decide +kernel
theorem dX0_unfoldedAt_41 : decode cX0_unfoldedAt 41 = .ok (.aload_n 0, 1) := by decide +kernel
theorem dX0_unfoldedAt_42 : decode cX0_unfoldedAt 42 = .ok (.getfield 17, 3) := by decide +kernel
theorem dX0_unfoldedAt_45 : decode cX0_unfoldedAt 45 = .ok (.iload_n 2, 1) := by decide +kernel
theorem dX0_unfoldedAt_46 : decode cX0_unfoldedAt 46 = .ok (.aaload, 1) := by decide +kernel
theorem dX0_unfoldedAt_47 : decode cX0_unfoldedAt 47 = .ok (.iload 5, 2) := by decide +kernel
theorem dX0_unfoldedAt_49 : decode cX0_unfoldedAt 49 = .ok (.iconst 1, 1) := by decide +kernel
theorem dX0_unfoldedAt_50 : decode cX0_unfoldedAt 50 = .ok (.iadd, 1) := by decide +kernel
theorem dX0_unfoldedAt_51 : decode cX0_unfoldedAt 51 = .ok (.iaload, 1) := by decide +kernel
theorem dX0_unfoldedAt_52 : decode cX0_unfoldedAt 52 = .ok (.iload_n 3, 1) := by decide +kernel
theorem dX0_unfoldedAt_53 : decode cX0_unfoldedAt 53 = .ok (.if_icmp .ne 12, 3) := by decide +kernel
theorem dX0_unfoldedAt_56 : decode cX0_unfoldedAt 56 = .ok (.iload 4, 2) := by decide +kernel
theorem dX0_unfoldedAt_58 : decode cX0_unfoldedAt 58 = .ok (.iconst 1, 1) := by decide +kernel
theorem dX0_unfoldedAt_59 : decode cX0_unfoldedAt 59 = .ok (.iload 6, 2) := by decide +kernel
theorem dX0_unfoldedAt_61 : decode cX0_unfoldedAt 61 = .ok (.ishl, 1) := by decide +kernel
theorem dX0_unfoldedAt_62 : decode cX0_unfoldedAt 62 = .ok (.ior, 1) := by decide +kernel
theorem dX0_unfoldedAt_63 : decode cX0_unfoldedAt 63 = .ok (.istore 4, 2) := by decide +kernel
theorem dX0_unfoldedAt_65 : decode cX0_unfoldedAt 65 = .ok (.iinc 5 1, 3) := by decide +kernel
theorem dX0_unfoldedAt_68 : decode cX0_unfoldedAt 68 = .ok (.goto (-62), 3) := by decide +kernel
theorem dX0_unfoldedAt_71 : decode cX0_unfoldedAt 71 = .ok (.iload 4, 2) := by decide +kernel
theorem dX0_unfoldedAt_73 : decode cX0_unfoldedAt 73 = .ok (.ireturn, 1) := by decide +kernel
theorem dX0_isWithinOne_0 : decode cX0_isWithinOne 0 = .ok (.iconst 0, 1) := by decide +kernel
theorem dX0_isWithinOne_1 : decode cX0_isWithinOne 1 = .ok (.istore 4, 2) := by decide +kernel
theorem dX0_isWithinOne_3 : decode cX0_isWithinOne 3 = .ok (.iload 4, 2) := by decide +kernel
theorem dX0_isWithinOne_5 : decode cX0_isWithinOne 5 = .ok (.aload_n 0, 1) := by decide +kernel
theorem dX0_isWithinOne_6 : decode cX0_isWithinOne 6 = .ok (.aload_n 1, 1) := by decide +kernel
theorem dX0_isWithinOne_7 : decode cX0_isWithinOne 7 = .ok (.iload_n 2, 1) := by decide +kernel
theorem dX0_isWithinOne_8 : decode cX0_isWithinOne 8 = .ok (.invokevirtual 23, 3) := by decide +kernel
theorem dX0_isWithinOne_11 : decode cX0_isWithinOne 11 = .ok (.if_icmp .ge 38, 3) := by decide +kernel
theorem dX0_isWithinOne_14 : decode cX0_isWithinOne 14 = .ok (.iload_n 3, 1) := by decide +kernel
theorem dX0_isWithinOne_15 : decode cX0_isWithinOne 15 = .ok (.aload_n 0, 1) := by decide +kernel
theorem dX0_isWithinOne_16 : decode cX0_isWithinOne 16 = .ok (.getfield 17, 3) := by decide +kernel
theorem dX0_isWithinOne_19 : decode cX0_isWithinOne 19 = .ok (.iload_n 2, 1) := by decide +kernel
theorem dX0_isWithinOne_20 : decode cX0_isWithinOne 20 = .ok (.aaload, 1) := by decide +kernel
theorem dX0_isWithinOne_21 : decode cX0_isWithinOne 21 = .ok (.iload 4, 2) := by decide +kernel
theorem dX0_isWithinOne_23 : decode cX0_isWithinOne 23 = .ok (.iaload, 1) := by decide +kernel
theorem dX0_isWithinOne_24 : decode cX0_isWithinOne 24 = .ok (.aload_n 0, 1) := by decide +kernel
theorem dX0_isWithinOne_25 : decode cX0_isWithinOne 25 = .ok (.getfield 17, 3) := by decide +kernel
theorem dX0_isWithinOne_28 : decode cX0_isWithinOne 28 = .ok (.iload_n 2, 1) := by decide +kernel
theorem dX0_isWithinOne_29 : decode cX0_isWithinOne 29 = .ok (.aaload, 1) := by decide +kernel
theorem dX0_isWithinOne_30 : decode cX0_isWithinOne 30 = .ok (.iload 4, 2) := by decide +kernel
theorem dX0_isWithinOne_32 : decode cX0_isWithinOne 32 = .ok (.iconst 1, 1) := by decide +kernel
theorem dX0_isWithinOne_33 : decode cX0_isWithinOne 33 = .ok (.iadd, 1) := by decide +kernel
theorem dX0_isWithinOne_34 : decode cX0_isWithinOne 34 = .ok (.iaload, 1) := by decide +kernel
theorem dX0_isWithinOne_35 : decode cX0_isWithinOne 35 = .ok (.invokestatic 64, 3) := by decide +kernel
theorem dX0_isWithinOne_38 : decode cX0_isWithinOne 38 = .ok (.ifCond .eq 5, 3) := by decide +kernel
theorem dX0_isWithinOne_41 : decode cX0_isWithinOne 41 = .ok (.iconst 1, 1) := by decide +kernel
theorem dX0_isWithinOne_42 : decode cX0_isWithinOne 42 = .ok (.ireturn, 1) := by decide +kernel
theorem dX0_isWithinOne_43 : decode cX0_isWithinOne 43 = .ok (.iinc 4 1, 3) := by decide +kernel
theorem dX0_isWithinOne_46 : decode cX0_isWithinOne 46 = .ok (.goto (-43), 3) := by decide +kernel
theorem dX0_isWithinOne_49 : decode cX0_isWithinOne 49 = .ok (.iconst 0, 1) := by decide +kernel
theorem dX0_isWithinOne_50 : decode cX0_isWithinOne 50 = .ok (.ireturn, 1) := by decide +kernel
theorem dX0_marksAllow_0 : decode cX0_marksAllow 0 = .ok (.iconst 0, 1) := by decide +kernel
theorem dX0_marksAllow_1 : decode cX0_marksAllow 1 = .ok (.istore 4, 2) := by decide +kernel
theorem dX0_marksAllow_3 : decode cX0_marksAllow 3 = .ok (.iload 4, 2) := by decide +kernel
theorem dX0_marksAllow_5 : decode cX0_marksAllow 5 = .ok (.aload_n 1, 1) := by decide +kernel
theorem dX0_marksAllow_6 : decode cX0_marksAllow 6 = .ok (.getfield 68, 3) := by decide +kernel
theorem dX0_marksAllow_9 : decode cX0_marksAllow 9 = .ok (.if_icmp .ge 70, 3) := by decide +kernel
theorem dX0_marksAllow_12 : decode cX0_marksAllow 12 = .ok (.iload_n 2, 1) := by decide +kernel
theorem dX0_marksAllow_13 : decode cX0_marksAllow 13 = .ok (.aload_n 1, 1) := by decide +kernel
theorem dX0_marksAllow_14 : decode cX0_marksAllow 14 = .ok (.getfield 71, 3) := by decide +kernel
theorem dX0_marksAllow_17 : decode cX0_marksAllow 17 = .ok (.iload 4, 2) := by decide +kernel
theorem dX0_marksAllow_19 : decode cX0_marksAllow 19 = .ok (.iaload, 1) := by decide +kernel
theorem dX0_marksAllow_20 : decode cX0_marksAllow 20 = .ok (.invokestatic 31, 3) := by decide +kernel
theorem dX0_marksAllow_23 : decode cX0_marksAllow 23 = .ok (.ifCond .eq 50, 3) := by decide +kernel
theorem dX0_marksAllow_26 : decode cX0_marksAllow 26 = .ok (.aload_n 1, 1) := by decide +kernel
theorem dX0_marksAllow_27 : decode cX0_marksAllow 27 = .ok (.getfield 74, 3) := by decide +kernel
theorem dX0_marksAllow_30 : decode cX0_marksAllow 30 = .ok (.iload 4, 2) := by decide +kernel
theorem dX0_marksAllow_32 : decode cX0_marksAllow 32 = .ok (.iaload, 1) := by decide +kernel
theorem dX0_marksAllow_33 : decode cX0_marksAllow 33 = .ok (.ifCond .eq 40, 3) := by decide +kernel
theorem dX0_marksAllow_36 : decode cX0_marksAllow 36 = .ok (.aload_n 0, 1) := by decide +kernel
theorem dX0_marksAllow_37 : decode cX0_marksAllow 37 = .ok (.aload_n 1, 1) := by decide +kernel
theorem dX0_marksAllow_38 : decode cX0_marksAllow 38 = .ok (.aload_n 1, 1) := by decide +kernel
theorem dX0_marksAllow_39 : decode cX0_marksAllow 39 = .ok (.getfield 77, 3) := by decide +kernel
theorem dX0_marksAllow_42 : decode cX0_marksAllow 42 = .ok (.iload 4, 2) := by decide +kernel
theorem dX0_marksAllow_44 : decode cX0_marksAllow 44 = .ok (.iaload, 1) := by decide +kernel
theorem dX0_marksAllow_45 : decode cX0_marksAllow 45 = .ok (.invokevirtual 80, 3) := by decide +kernel
theorem dX0_marksAllow_48 : decode cX0_marksAllow 48 = .ok (.iload_n 3, 1) := by decide +kernel
theorem dX0_marksAllow_49 : decode cX0_marksAllow 49 = .ok (.if_icmp .eq 7, 3) := by decide +kernel
theorem dX0_marksAllow_52 : decode cX0_marksAllow 52 = .ok (.iconst 2, 1) := by decide +kernel
theorem dX0_marksAllow_53 : decode cX0_marksAllow 53 = .ok (.goto 4, 3) := by decide +kernel
theorem dX0_marksAllow_56 : decode cX0_marksAllow 56 = .ok (.iconst 1, 1) := by decide +kernel
theorem dX0_marksAllow_57 : decode cX0_marksAllow 57 = .ok (.istore 5, 2) := by decide +kernel
theorem dX0_marksAllow_59 : decode cX0_marksAllow 59 = .ok (.aload_n 1, 1) := by decide +kernel
theorem dX0_marksAllow_60 : decode cX0_marksAllow 60 = .ok (.getfield 74, 3) := by decide +kernel
theorem dX0_marksAllow_63 : decode cX0_marksAllow 63 = .ok (.iload 4, 2) := by decide +kernel
theorem dX0_marksAllow_65 : decode cX0_marksAllow 65 = .ok (.iaload, 1) := by decide +kernel
theorem dX0_marksAllow_66 : decode cX0_marksAllow 66 = .ok (.iload 5, 2) := by decide +kernel
theorem dX0_marksAllow_68 : decode cX0_marksAllow 68 = .ok (.if_icmp .eq 5, 3) := by decide +kernel
theorem dX0_marksAllow_71 : decode cX0_marksAllow 71 = .ok (.iconst 0, 1) := by decide +kernel
theorem dX0_marksAllow_72 : decode cX0_marksAllow 72 = .ok (.ireturn, 1) := by decide +kernel
theorem dX0_marksAllow_73 : decode cX0_marksAllow 73 = .ok (.iinc 4 1, 3) := by decide +kernel
theorem dX0_marksAllow_76 : decode cX0_marksAllow 76 = .ok (.goto (-73), 3) := by decide +kernel
theorem dX0_marksAllow_79 : decode cX0_marksAllow 79 = .ok (.iconst 1, 1) := by decide +kernel
theorem dX0_marksAllow_80 : decode cX0_marksAllow 80 = .ok (.ireturn, 1) := by decide +kernel
theorem dX2_init_0 : decode cX2_init 0 = .ok (.aload_n 0, 1) := by decide +kernel
theorem dX2_init_1 : decode cX2_init 1 = .ok (.invokespecial 3, 3) := by decide +kernel
theorem dX2_init_4 : decode cX2_init 4 = .ok (.aload_n 0, 1) := by decide +kernel
theorem dX2_init_5 : decode cX2_init 5 = .ok (.aconst_null, 1) := by decide +kernel
theorem dX2_init_6 : decode cX2_init 6 = .ok (.putfield 9, 3) := by decide +kernel
theorem dX2_init_9 : decode cX2_init 9 = .ok (.aload_n 0, 1) := by decide +kernel
theorem dX2_init_10 : decode cX2_init 10 = .ok (.bipush 9, 2) := by decide +kernel
theorem dX2_init_12 : decode cX2_init 12 = .ok (.newarray .int, 2) := by decide +kernel
theorem dX2_init_14 : decode cX2_init 14 = .ok (.putfield 15, 3) := by decide +kernel
theorem dX2_init_17 : decode cX2_init 17 = .ok (.aload_n 0, 1) := by decide +kernel
theorem dX2_init_18 : decode cX2_init 18 = .ok (.bipush 9, 2) := by decide +kernel
theorem dX2_init_20 : decode cX2_init 20 = .ok (.newarray .int, 2) := by decide +kernel
theorem dX2_init_22 : decode cX2_init 22 = .ok (.putfield 19, 3) := by decide +kernel
theorem dX2_init_25 : decode cX2_init 25 = .ok (.aload_n 0, 1) := by decide +kernel
theorem dX2_init_26 : decode cX2_init 26 = .ok (.iconst 0, 1) := by decide +kernel
theorem dX2_init_27 : decode cX2_init 27 = .ok (.putfield 22, 3) := by decide +kernel
theorem dX2_init_30 : decode cX2_init 30 = .ok (.aload_n 0, 1) := by decide +kernel
theorem dX2_init_31 : decode cX2_init 31 = .ok (.iconst 0, 1) := by decide +kernel
theorem dX2_init_32 : decode cX2_init 32 = .ok (.putfield 26, 3) := by decide +kernel
theorem dX2_init_35 : decode cX2_init 35 = .ok (.aload_n 0, 1) := by decide +kernel
theorem dX2_init_36 : decode cX2_init 36 = .ok (.bipush 9, 2) := by decide +kernel
theorem dX2_init_38 : decode cX2_init 38 = .ok (.newarray .int, 2) := by decide +kernel
theorem dX2_init_40 : decode cX2_init 40 = .ok (.putfield 29, 3) := by decide +kernel
theorem dX2_init_43 : decode cX2_init 43 = .ok (.aload_n 0, 1) := by decide +kernel
theorem dX2_init_44 : decode cX2_init 44 = .ok (.iconst 0, 1) := by decide +kernel
theorem dX2_init_45 : decode cX2_init 45 = .ok (.putfield 32, 3) := by decide +kernel
theorem dX2_init_48 : decode cX2_init 48 = .ok (.aload_n 0, 1) := by decide +kernel
theorem dX2_init_49 : decode cX2_init 49 = .ok (.bipush 10, 2) := by decide +kernel
theorem dX2_init_51 : decode cX2_init 51 = .ok (.newarray .int, 2) := by decide +kernel
theorem dX2_init_53 : decode cX2_init 53 = .ok (.putfield 35, 3) := by decide +kernel
theorem dX2_init_56 : decode cX2_init 56 = .ok (.aload_n 0, 1) := by decide +kernel
theorem dX2_init_57 : decode cX2_init 57 = .ok (.bipush 10, 2) := by decide +kernel
theorem dX2_init_59 : decode cX2_init 59 = .ok (.newarray .int, 2) := by decide +kernel
theorem dX2_init_61 : decode cX2_init 61 = .ok (.putfield 38, 3) := by decide +kernel
theorem dX2_init_64 : decode cX2_init 64 = .ok (.aload_n 0, 1) := by decide +kernel
theorem dX2_init_65 : decode cX2_init 65 = .ok (.iconst 0, 1) := by decide +kernel
theorem dX2_init_66 : decode cX2_init 66 = .ok (.putfield 41, 3) := by decide +kernel
theorem dX2_init_69 : decode cX2_init 69 = .ok (.return_, 1) := by decide +kernel
theorem dX2_begin_0 : decode cX2_begin 0 = .ok (.aload_n 0, 1) := by decide +kernel
theorem dX2_begin_1 : decode cX2_begin 1 = .ok (.aload_n 1, 1) := by decide +kernel
theorem dX2_begin_2 : decode cX2_begin 2 = .ok (.iconst (-1), 1) := by decide +kernel
theorem dX2_begin_3 : decode cX2_begin 3 = .ok (.invokevirtual 45, 3) := by decide +kernel
theorem dX2_begin_6 : decode cX2_begin 6 = .ok (.return_, 1) := by decide +kernel
theorem dX2_beginWith_0 : decode cX2_beginWith 0 = .ok (.aload_n 0, 1) := by decide +kernel
theorem dX2_beginWith_1 : decode cX2_beginWith 1 = .ok (.aload_n 1, 1) := by decide +kernel
theorem dX2_beginWith_2 : decode cX2_beginWith 2 = .ok (.putfield 9, 3) := by decide +kernel
theorem dX2_beginWith_5 : decode cX2_beginWith 5 = .ok (.aload_n 0, 1) := by decide +kernel
theorem dX2_beginWith_6 : decode cX2_beginWith 6 = .ok (.iconst 0, 1) := by decide +kernel
theorem dX2_beginWith_7 : decode cX2_beginWith 7 = .ok (.putfield 22, 3) := by decide +kernel
theorem dX2_beginWith_10 : decode cX2_beginWith 10 = .ok (.aload_n 0, 1) := by decide +kernel
theorem dX2_beginWith_11 : decode cX2_beginWith 11 = .ok (.iconst 0, 1) := by decide +kernel
theorem dX2_beginWith_12 : decode cX2_beginWith 12 = .ok (.putfield 26, 3) := by decide +kernel
theorem dX2_beginWith_15 : decode cX2_beginWith 15 = .ok (.aload_n 0, 1) := by decide +kernel
theorem dX2_beginWith_16 : decode cX2_beginWith 16 = .ok (.getfield 35, 3) := by decide +kernel
theorem dX2_beginWith_19 : decode cX2_beginWith 19 = .ok (.iconst 0, 1) := by decide +kernel
theorem dX2_beginWith_20 : decode cX2_beginWith 20 = .ok (.iconst 0, 1) := by decide +kernel
theorem dX2_beginWith_21 : decode cX2_beginWith 21 = .ok (.iastore, 1) := by decide +kernel
theorem dX2_beginWith_22 : decode cX2_beginWith 22 = .ok (.aload_n 0, 1) := by decide +kernel
theorem dX2_beginWith_23 : decode cX2_beginWith 23 = .ok (.iconst 0, 1) := by decide +kernel
theorem dX2_beginWith_24 : decode cX2_beginWith 24 = .ok (.putfield 41, 3) := by decide +kernel
theorem dX2_beginWith_27 : decode cX2_beginWith 27 = .ok (.aload_n 0, 1) := by decide +kernel
theorem dX2_beginWith_28 : decode cX2_beginWith 28 = .ok (.getfield 29, 3) := by decide +kernel
theorem dX2_beginWith_31 : decode cX2_beginWith 31 = .ok (.iconst 0, 1) := by decide +kernel
theorem dX2_beginWith_32 : decode cX2_beginWith 32 = .ok (.invokestatic 49, 3) := by decide +kernel
theorem dX2_beginWith_35 : decode cX2_beginWith 35 = .ok (.aload_n 0, 1) := by decide +kernel
theorem dX2_beginWith_36 : decode cX2_beginWith 36 = .ok (.iconst 0, 1) := by decide +kernel
theorem dX2_beginWith_37 : decode cX2_beginWith 37 = .ok (.putfield 32, 3) := by decide +kernel
theorem dX2_beginWith_40 : decode cX2_beginWith 40 = .ok (.iconst 0, 1) := by decide +kernel
theorem dX2_beginWith_41 : decode cX2_beginWith 41 = .ok (.istore_n 3, 1) := by decide +kernel
theorem dX2_beginWith_42 : decode cX2_beginWith 42 = .ok (.iload_n 3, 1) := by decide +kernel
theorem dX2_beginWith_43 : decode cX2_beginWith 43 = .ok (.aload_n 1, 1) := by decide +kernel
theorem dX2_beginWith_44 : decode cX2_beginWith 44 = .ok (.getfield 55, 3) := by decide +kernel
theorem dX2_beginWith_47 : decode cX2_beginWith 47 = .ok (.if_icmp .ge 37, 3) := by decide +kernel
theorem dX2_beginWith_50 : decode cX2_beginWith 50 = .ok (.iload_n 2, 1) := by decide +kernel
theorem dX2_beginWith_51 : decode cX2_beginWith 51 = .ok (.iload_n 3, 1) := by decide +kernel
theorem dX2_beginWith_52 : decode cX2_beginWith 52 = .ok (.invokestatic 60, 3) := by decide +kernel
theorem dX2_beginWith_55 : decode cX2_beginWith 55 = .ok (.ifCond .eq 23, 3) := by decide +kernel
theorem dX2_beginWith_58 : decode cX2_beginWith 58 = .ok (.aload_n 1, 1) := by decide +kernel
theorem dX2_beginWith_59 : decode cX2_beginWith 59 = .ok (.getfield 64, 3) := by decide +kernel
theorem dX2_beginWith_62 : decode cX2_beginWith 62 = .ok (.iload_n 3, 1) := by decide +kernel
theorem dX2_beginWith_63 : decode cX2_beginWith 63 = .ok (.iaload, 1) := by decide +kernel
theorem dX2_beginWith_64 : decode cX2_beginWith 64 = .ok (.ifCond .eq 14, 3) := by decide +kernel
theorem dX2_beginWith_67 : decode cX2_beginWith 67 = .ok (.aload_n 0, 1) := by decide +kernel
theorem dX2_beginWith_68 : decode cX2_beginWith 68 = .ok (.iload_n 3, 1) := by decide +kernel
theorem dX2_beginWith_69 : decode cX2_beginWith 69 = .ok (.aload_n 1, 1) := by decide +kernel
theorem dX2_beginWith_70 : decode cX2_beginWith 70 = .ok (.getfield 64, 3) := by decide +kernel
theorem dX2_beginWith_73 : decode cX2_beginWith 73 = .ok (.iload_n 3, 1) := by decide +kernel
theorem dX2_beginWith_74 : decode cX2_beginWith 74 = .ok (.iaload, 1) := by decide +kernel
theorem dX2_beginWith_75 : decode cX2_beginWith 75 = .ok (.invokevirtual 67, 3) := by decide +kernel
theorem dX2_beginWith_78 : decode cX2_beginWith 78 = .ok (.iinc 3 1, 3) := by decide +kernel
theorem dX2_beginWith_81 : decode cX2_beginWith 81 = .ok (.goto (-39), 3) := by decide +kernel
theorem dX2_beginWith_84 : decode cX2_beginWith 84 = .ok (.return_, 1) := by decide +kernel
theorem dX2_demandTurn_0 : decode cX2_demandTurn 0 = .ok (.aload_n 0, 1) := by decide +kernel
theorem dX2_demandTurn_1 : decode cX2_demandTurn 1 = .ok (.getfield 9, 3) := by decide +kernel
theorem dX2_demandTurn_4 : decode cX2_demandTurn 4 = .ok (.astore_n 3, 1) := by decide +kernel
theorem dX2_demandTurn_5 : decode cX2_demandTurn 5 = .ok (.aload_n 3, 1) := by decide +kernel
theorem dX2_demandTurn_6 : decode cX2_demandTurn 6 = .ok (.ifnull 11, 3) := by decide +kernel
theorem dX2_demandTurn_9 : decode cX2_demandTurn 9 = .ok (.aload_n 3, 1) := by decide +kernel
theorem dX2_demandTurn_10 : decode cX2_demandTurn 10 = .ok (.iload_n 1, 1) := by decide +kernel
theorem dX2_demandTurn_11 : decode cX2_demandTurn 11 = .ok (.invokevirtual 71, 3) := by decide +kernel
theorem dX2_demandTurn_14 : decode cX2_demandTurn 14 = .ok (.ifCond .ne 4, 3) := by decide +kernel
theorem dX2_demandTurn_17 : decode cX2_demandTurn 17 = .ok (.return_, 1) := by decide +kernel
theorem dX2_demandTurn_18 : decode cX2_demandTurn 18 = .ok (.aload_n 3, 1) := by decide +kernel
theorem dX2_demandTurn_19 : decode cX2_demandTurn 19 = .ok (.getfield 75, 3) := by decide +kernel
theorem dX2_demandTurn_22 : decode cX2_demandTurn 22 = .ok (.iload_n 1, 1) := by decide +kernel
theorem dX2_demandTurn_23 : decode cX2_demandTurn 23 = .ok (.iaload, 1) := by decide +kernel
theorem dX2_demandTurn_24 : decode cX2_demandTurn 24 = .ok (.istore 4, 2) := by decide +kernel
theorem dX2_demandTurn_26 : decode cX2_demandTurn 26 = .ok (.aload_n 3, 1) := by decide +kernel
theorem dX2_demandTurn_27 : decode cX2_demandTurn 27 = .ok (.getfield 78, 3) := by decide +kernel
theorem dX2_demandTurn_30 : decode cX2_demandTurn 30 = .ok (.iload_n 1, 1) := by decide +kernel
theorem dX2_demandTurn_31 : decode cX2_demandTurn 31 = .ok (.iaload, 1) := by decide +kernel
theorem dX2_demandTurn_32 : decode cX2_demandTurn 32 = .ok (.istore 5, 2) := by decide +kernel
theorem dX2_demandTurn_34 : decode cX2_demandTurn 34 = .ok (.aload_n 3, 1) := by decide +kernel
theorem dX2_demandTurn_35 : decode cX2_demandTurn 35 = .ok (.iload 4, 2) := by decide +kernel
theorem dX2_demandTurn_37 : decode cX2_demandTurn 37 = .ok (.invokevirtual 81, 3) := by decide +kernel
theorem dX2_demandTurn_40 : decode cX2_demandTurn 40 = .ok (.iload_n 2, 1) := by decide +kernel
theorem dX2_demandTurn_41 : decode cX2_demandTurn 41 = .ok (.iconst 2, 1) := by decide +kernel
theorem dX2_demandTurn_42 : decode cX2_demandTurn 42 = .ok (.if_icmp .ne 7, 3) := by decide +kernel
theorem dX2_demandTurn_45 : decode cX2_demandTurn 45 = .ok (.iconst 1, 1) := by decide +kernel
theorem dX2_demandTurn_46 : decode cX2_demandTurn 46 = .ok (.goto 4, 3) := by decide +kernel
theorem dX2_demandTurn_49 : decode cX2_demandTurn 49 = .ok (.iconst 0, 1) := by decide +kernel
theorem dX2_demandTurn_50 : decode cX2_demandTurn 50 = .ok (.if_icmp .ne 14, 3) := by decide +kernel
theorem dX2_demandTurn_53 : decode cX2_demandTurn 53 = .ok (.aload_n 0, 1) := by decide +kernel
theorem dX2_demandTurn_54 : decode cX2_demandTurn 54 = .ok (.iload 4, 2) := by decide +kernel
theorem dX2_demandTurn_56 : decode cX2_demandTurn 56 = .ok (.iload 5, 2) := by decide +kernel
theorem dX2_demandTurn_58 : decode cX2_demandTurn 58 = .ok (.invokevirtual 84, 3) := by decide +kernel
theorem dX2_demandTurn_61 : decode cX2_demandTurn 61 = .ok (.goto 11, 3) := by decide +kernel
theorem dX2_demandTurn_64 : decode cX2_demandTurn 64 = .ok (.aload_n 0, 1) := by decide +kernel
theorem dX2_demandTurn_65 : decode cX2_demandTurn 65 = .ok (.iload 5, 2) := by decide +kernel
theorem dX2_demandTurn_67 : decode cX2_demandTurn 67 = .ok (.iload 4, 2) := by decide +kernel
theorem dX2_demandTurn_69 : decode cX2_demandTurn 69 = .ok (.invokevirtual 84, 3) := by decide +kernel
theorem dX2_demandTurn_72 : decode cX2_demandTurn 72 = .ok (.return_, 1) := by decide +kernel
theorem dX2_demandBelow_0 : decode cX2_demandBelow 0 = .ok (.aload_n 0, 1) := by decide +kernel
theorem dX2_demandBelow_1 : decode cX2_demandBelow 1 = .ok (.getfield 9, 3) := by decide +kernel
theorem dX2_demandBelow_4 : decode cX2_demandBelow 4 = .ok (.ifnull 49, 3) := by decide +kernel
theorem dX2_demandBelow_7 : decode cX2_demandBelow 7 = .ok (.aload_n 0, 1) := by decide +kernel
theorem dX2_demandBelow_8 : decode cX2_demandBelow 8 = .ok (.getfield 9, 3) := by decide +kernel
theorem dX2_demandBelow_11 : decode cX2_demandBelow 11 = .ok (.iload_n 1, 1) := by decide +kernel
theorem dX2_demandBelow_12 : decode cX2_demandBelow 12 = .ok (.invokevirtual 87, 3) := by decide +kernel
theorem dX2_demandBelow_15 : decode cX2_demandBelow 15 = .ok (.ifCond .eq 38, 3) := by decide +kernel
theorem dX2_demandBelow_18 : decode cX2_demandBelow 18 = .ok (.aload_n 0, 1) := by decide +kernel
theorem dX2_demandBelow_19 : decode cX2_demandBelow 19 = .ok (.getfield 9, 3) := by decide +kernel
theorem dX2_demandBelow_22 : decode cX2_demandBelow 22 = .ok (.iload_n 2, 1) := by decide +kernel
theorem dX2_demandBelow_23 : decode cX2_demandBelow 23 = .ok (.invokevirtual 87, 3) := by decide +kernel
theorem dX2_demandBelow_26 : decode cX2_demandBelow 26 = .ok (.ifCond .eq 27, 3) := by decide +kernel
theorem dX2_demandBelow_29 : decode cX2_demandBelow 29 = .ok (.aload_n 0, 1) := by decide +kernel
theorem dX2_demandBelow_30 : decode cX2_demandBelow 30 = .ok (.getfield 29, 3) := by decide +kernel
theorem dX2_demandBelow_33 : decode cX2_demandBelow 33 = .ok (.iload_n 2, 1) := by decide +kernel
theorem dX2_demandBelow_34 : decode cX2_demandBelow 34 = .ok (.dup2, 1) := by decide +kernel
theorem dX2_demandBelow_35 : decode cX2_demandBelow 35 = .ok (.iaload, 1) := by decide +kernel
theorem dX2_demandBelow_36 : decode cX2_demandBelow 36 = .ok (.iconst 1, 1) := by decide +kernel
theorem dX2_demandBelow_37 : decode cX2_demandBelow 37 = .ok (.iload_n 1, 1) := by decide +kernel
theorem dX2_demandBelow_38 : decode cX2_demandBelow 38 = .ok (.ishl, 1) := by decide +kernel
theorem dX2_demandBelow_39 : decode cX2_demandBelow 39 = .ok (.ior, 1) := by decide +kernel
theorem dX2_demandBelow_40 : decode cX2_demandBelow 40 = .ok (.iastore, 1) := by decide +kernel
theorem dX2_demandBelow_41 : decode cX2_demandBelow 41 = .ok (.aload_n 0, 1) := by decide +kernel
theorem dX2_demandBelow_42 : decode cX2_demandBelow 42 = .ok (.dup, 1) := by decide +kernel
theorem dX2_demandBelow_43 : decode cX2_demandBelow 43 = .ok (.getfield 32, 3) := by decide +kernel
theorem dX2_demandBelow_46 : decode cX2_demandBelow 46 = .ok (.iconst 1, 1) := by decide +kernel
theorem dX2_demandBelow_47 : decode cX2_demandBelow 47 = .ok (.iload_n 2, 1) := by decide +kernel
theorem dX2_demandBelow_48 : decode cX2_demandBelow 48 = .ok (.ishl, 1) := by decide +kernel
theorem dX2_demandBelow_49 : decode cX2_demandBelow 49 = .ok (.ior, 1) := by decide +kernel
theorem dX2_demandBelow_50 : decode cX2_demandBelow 50 = .ok (.putfield 32, 3) := by decide +kernel
theorem dX2_demandBelow_53 : decode cX2_demandBelow 53 = .ok (.return_, 1) := by decide +kernel
theorem dX2_next_0 : decode cX2_next 0 = .ok (.aload_n 0, 1) := by decide +kernel
theorem dX2_next_1 : decode cX2_next 1 = .ok (.getfield 9, 3) := by decide +kernel
theorem dX2_next_4 : decode cX2_next 4 = .ok (.astore_n 1, 1) := by decide +kernel
theorem dX2_next_5 : decode cX2_next 5 = .ok (.aload_n 1, 1) := by decide +kernel
theorem dX2_next_6 : decode cX2_next 6 = .ok (.ifnonnull 5, 3) := by decide +kernel
theorem dX2_next_9 : decode cX2_next 9 = .ok (.iconst 0, 1) := by decide +kernel
theorem dX2_next_10 : decode cX2_next 10 = .ok (.ireturn, 1) := by decide +kernel
theorem dX2_next_11 : decode cX2_next 11 = .ok (.aload_n 0, 1) := by decide +kernel
theorem dX2_next_12 : decode cX2_next 12 = .ok (.getfield 41, 3) := by decide +kernel
theorem dX2_next_15 : decode cX2_next 15 = .ok (.ifCond .ne 38, 3) := by decide +kernel
theorem dX2_next_18 : decode cX2_next 18 = .ok (.aload_n 0, 1) := by decide +kernel
theorem dX2_next_19 : decode cX2_next 19 = .ok (.iconst 1, 1) := by decide +kernel
theorem dX2_next_20 : decode cX2_next 20 = .ok (.putfield 41, 3) := by decide +kernel
theorem dX2_next_23 : decode cX2_next 23 = .ok (.aload_n 0, 1) := by decide +kernel
theorem dX2_next_24 : decode cX2_next 24 = .ok (.getfield 38, 3) := by decide +kernel
theorem dX2_next_27 : decode cX2_next 27 = .ok (.iconst 0, 1) := by decide +kernel
theorem dX2_next_28 : decode cX2_next 28 = .ok (.aload_n 1, 1) := by decide +kernel
theorem dX2_next_29 : decode cX2_next 29 = .ok (.invokevirtual 90, 3) := by decide +kernel
theorem dX2_next_32 : decode cX2_next 32 = .ok (.ifCond .ne 11, 3) := by decide +kernel
theorem dX2_next_35 : decode cX2_next 35 = .ok (.aload_n 0, 1) := by decide +kernel
theorem dX2_next_36 : decode cX2_next 36 = .ok (.aload_n 1, 1) := by decide +kernel
theorem dX2_next_37 : decode cX2_next 37 = .ok (.invokevirtual 94, 3) := by decide +kernel
theorem dX2_next_40 : decode cX2_next 40 = .ok (.ifCond .eq 7, 3) := by decide +kernel
theorem dX2_next_43 : decode cX2_next 43 = .ok (.iconst 0, 1) := by decide +kernel
theorem dX2_next_44 : decode cX2_next 44 = .ok (.goto 8, 3) := by decide +kernel
theorem dX2_next_47 : decode cX2_next 47 = .ok (.aload_n 0, 1) := by decide +kernel
theorem dX2_next_48 : decode cX2_next 48 = .ok (.aload_n 1, 1) := by decide +kernel
theorem dX2_next_49 : decode cX2_next 49 = .ok (.invokevirtual 98, 3) := by decide +kernel
theorem dX2_next_52 : decode cX2_next 52 = .ok (.iastore, 1) := by decide +kernel
theorem dX2_next_53 : decode cX2_next 53 = .ok (.iconst 0, 1) := by decide +kernel
theorem dX2_next_54 : decode cX2_next 54 = .ok (.istore_n 2, 1) := by decide +kernel
theorem dX2_next_55 : decode cX2_next 55 = .ok (.iload_n 2, 1) := by decide +kernel
theorem dX2_next_56 : decode cX2_next 56 = .ok (.ldc 102, 2) := by decide +kernel
theorem dX2_next_58 : decode cX2_next 58 = .ok (.if_icmp .ge 59, 3) := by decide +kernel
theorem dX2_next_61 : decode cX2_next 61 = .ok (.aload_n 0, 1) := by decide +kernel
theorem dX2_next_62 : decode cX2_next 62 = .ok (.getfield 38, 3) := by decide +kernel
theorem dX2_next_65 : decode cX2_next 65 = .ok (.aload_n 0, 1) := by decide +kernel
theorem dX2_next_66 : decode cX2_next 66 = .ok (.getfield 22, 3) := by decide +kernel
theorem dX2_next_69 : decode cX2_next 69 = .ok (.iaload, 1) := by decide +kernel
theorem dX2_next_70 : decode cX2_next 70 = .ok (.ifCond .eq 25, 3) := by decide +kernel
theorem dX2_next_73 : decode cX2_next 73 = .ok (.aload_n 0, 1) := by decide +kernel
theorem dX2_next_74 : decode cX2_next 74 = .ok (.aload_n 1, 1) := by decide +kernel
theorem dX2_next_75 : decode cX2_next 75 = .ok (.aload_n 0, 1) := by decide +kernel
theorem dX2_next_76 : decode cX2_next 76 = .ok (.invokevirtual 103, 3) := by decide +kernel
theorem dX2_next_79 : decode cX2_next 79 = .ok (.invokevirtual 107, 3) := by decide +kernel
theorem dX2_next_82 : decode cX2_next 82 = .ok (.aload_n 0, 1) := by decide +kernel
theorem dX2_next_83 : decode cX2_next 83 = .ok (.getfield 22, 3) := by decide +kernel
theorem dX2_next_86 : decode cX2_next 86 = .ok (.aload_n 1, 1) := by decide +kernel
theorem dX2_next_87 : decode cX2_next 87 = .ok (.getfield 110, 3) := by decide +kernel
theorem dX2_next_90 : decode cX2_next 90 = .ok (.if_icmp .ne 21, 3) := by decide +kernel
theorem dX2_next_93 : decode cX2_next 93 = .ok (.iconst 1, 1) := by decide +kernel
theorem dX2_next_94 : decode cX2_next 94 = .ok (.ireturn, 1) := by decide +kernel
theorem dX2_next_95 : decode cX2_next 95 = .ok (.aload_n 0, 1) := by decide +kernel
theorem dX2_next_96 : decode cX2_next 96 = .ok (.getfield 22, 3) := by decide +kernel
theorem dX2_next_99 : decode cX2_next 99 = .ok (.ifCond .le 10, 3) := by decide +kernel
theorem dX2_next_102 : decode cX2_next 102 = .ok (.aload_n 0, 1) := by decide +kernel
theorem dX2_next_103 : decode cX2_next 103 = .ok (.invokevirtual 113, 3) := by decide +kernel
theorem dX2_next_106 : decode cX2_next 106 = .ok (.goto 5, 3) := by decide +kernel
theorem dX2_next_109 : decode cX2_next 109 = .ok (.iconst 0, 1) := by decide +kernel
theorem dX2_next_110 : decode cX2_next 110 = .ok (.ireturn, 1) := by decide +kernel
theorem dX2_next_111 : decode cX2_next 111 = .ok (.iinc 2 1, 3) := by decide +kernel
theorem dX2_next_114 : decode cX2_next 114 = .ok (.goto (-59), 3) := by decide +kernel
theorem dX2_next_117 : decode cX2_next 117 = .ok (.iconst 0, 1) := by decide +kernel
theorem dX2_next_118 : decode cX2_next 118 = .ok (.ireturn, 1) := by decide +kernel
theorem dX2_asNumber_0 : decode cX2_asNumber 0 = .ok (.lconst 0, 1) := by decide +kernel
theorem dX2_asNumber_1 : decode cX2_asNumber 1 = .ok (.lstore_n 1, 1) := by decide +kernel
theorem dX2_asNumber_2 : decode cX2_asNumber 2 = .ok (.aload_n 0, 1) := by decide +kernel
theorem dX2_asNumber_3 : decode cX2_asNumber 3 = .ok (.getfield 22, 3) := by decide +kernel
theorem dX2_asNumber_6 : decode cX2_asNumber 6 = .ok (.iconst 1, 1) := by decide +kernel
theorem dX2_asNumber_7 : decode cX2_asNumber 7 = .ok (.isub, 1) := by decide +kernel
theorem dX2_asNumber_8 : decode cX2_asNumber 8 = .ok (.istore_n 3, 1) := by decide +kernel
theorem dX2_asNumber_9 : decode cX2_asNumber 9 = .ok (.iload_n 3, 1) := by decide +kernel
theorem dX2_asNumber_10 : decode cX2_asNumber 10 = .ok (.ifCond .lt 23, 3) := by decide +kernel
theorem dX2_asNumber_13 : decode cX2_asNumber 13 = .ok (.lload_n 1, 1) := by decide +kernel
theorem dX2_asNumber_14 : decode cX2_asNumber 14 = .ok (.ldc2_w 116, 3) := by decide +kernel
theorem dX2_asNumber_17 : decode cX2_asNumber 17 = .ok (.lmul, 1) := by decide +kernel
theorem dX2_asNumber_18 : decode cX2_asNumber 18 = .ok (.aload_n 0, 1) := by decide +kernel
theorem dX2_asNumber_19 : decode cX2_asNumber 19 = .ok (.getfield 15, 3) := by decide +kernel
theorem dX2_asNumber_22 : decode cX2_asNumber 22 = .ok (.iload_n 3, 1) := by decide +kernel
theorem dX2_asNumber_23 : decode cX2_asNumber 23 = .ok (.iaload, 1) := by decide +kernel
theorem dX2_asNumber_24 : decode cX2_asNumber 24 = .ok (.i2l, 1) := by decide +kernel
theorem dX2_asNumber_25 : decode cX2_asNumber 25 = .ok (.ladd, 1) := by decide +kernel
theorem dX2_asNumber_26 : decode cX2_asNumber 26 = .ok (.lstore_n 1, 1) := by decide +kernel
theorem dX2_asNumber_27 : decode cX2_asNumber 27 = .ok (.iinc 3 (-1), 3) := by decide +kernel
theorem dX2_asNumber_30 : decode cX2_asNumber 30 = .ok (.goto (-21), 3) := by decide +kernel
theorem dX2_asNumber_33 : decode cX2_asNumber 33 = .ok (.lload_n 1, 1) := by decide +kernel
theorem dX2_asNumber_34 : decode cX2_asNumber 34 = .ok (.lreturn, 1) := by decide +kernel
theorem dX2_demandsClash_0 : decode cX2_demandsClash 0 = .ok (.iconst 0, 1) := by decide +kernel
theorem dX2_demandsClash_1 : decode cX2_demandsClash 1 = .ok (.istore_n 2, 1) := by decide +kernel
theorem dX2_demandsClash_2 : decode cX2_demandsClash 2 = .ok (.iload_n 2, 1) := by decide +kernel
theorem dX2_demandsClash_3 : decode cX2_demandsClash 3 = .ok (.aload_n 1, 1) := by decide +kernel
theorem dX2_demandsClash_4 : decode cX2_demandsClash 4 = .ok (.getfield 110, 3) := by decide +kernel
theorem dX2_demandsClash_7 : decode cX2_demandsClash 7 = .ok (.if_icmp .ge 53, 3) := by decide +kernel
theorem dX2_demandsClash_10 : decode cX2_demandsClash 10 = .ok (.iconst 0, 1) := by decide +kernel
theorem dX2_demandsClash_11 : decode cX2_demandsClash 11 = .ok (.istore_n 3, 1) := by decide +kernel
theorem dX2_demandsClash_12 : decode cX2_demandsClash 12 = .ok (.iload_n 3, 1) := by decide +kernel
theorem dX2_demandsClash_13 : decode cX2_demandsClash 13 = .ok (.aload_n 1, 1) := by decide +kernel
theorem dX2_demandsClash_14 : decode cX2_demandsClash 14 = .ok (.getfield 110, 3) := by decide +kernel
theorem dX2_demandsClash_17 : decode cX2_demandsClash 17 = .ok (.if_icmp .ge 37, 3) := by decide +kernel
theorem dX2_demandsClash_20 : decode cX2_demandsClash 20 = .ok (.aload_n 0, 1) := by decide +kernel
theorem dX2_demandsClash_21 : decode cX2_demandsClash 21 = .ok (.getfield 29, 3) := by decide +kernel
theorem dX2_demandsClash_24 : decode cX2_demandsClash 24 = .ok (.iload_n 3, 1) := by decide +kernel
theorem dX2_demandsClash_25 : decode cX2_demandsClash 25 = .ok (.iaload, 1) := by decide +kernel
theorem dX2_demandsClash_26 : decode cX2_demandsClash 26 = .ok (.iload_n 2, 1) := by decide +kernel
theorem dX2_demandsClash_27 : decode cX2_demandsClash 27 = .ok (.invokestatic 60, 3) := by decide +kernel
theorem dX2_demandsClash_30 : decode cX2_demandsClash 30 = .ok (.ifCond .eq 18, 3) := by decide +kernel
theorem dX2_demandsClash_33 : decode cX2_demandsClash 33 = .ok (.aload_n 0, 1) := by decide +kernel
theorem dX2_demandsClash_34 : decode cX2_demandsClash 34 = .ok (.getfield 29, 3) := by decide +kernel
theorem dX2_demandsClash_37 : decode cX2_demandsClash 37 = .ok (.iload_n 3, 1) := by decide +kernel
theorem dX2_demandsClash_38 : decode cX2_demandsClash 38 = .ok (.dup2, 1) := by decide +kernel
theorem dX2_demandsClash_39 : decode cX2_demandsClash 39 = .ok (.iaload, 1) := by decide +kernel
theorem dX2_demandsClash_40 : decode cX2_demandsClash 40 = .ok (.aload_n 0, 1) := by decide +kernel
theorem dX2_demandsClash_41 : decode cX2_demandsClash 41 = .ok (.getfield 29, 3) := by decide +kernel
theorem dX2_demandsClash_44 : decode cX2_demandsClash 44 = .ok (.iload_n 2, 1) := by decide +kernel
theorem dX2_demandsClash_45 : decode cX2_demandsClash 45 = .ok (.iaload, 1) := by decide +kernel
theorem dX2_demandsClash_46 : decode cX2_demandsClash 46 = .ok (.ior, 1) := by decide +kernel
theorem dX2_demandsClash_47 : decode cX2_demandsClash 47 = .ok (.iastore, 1) := by decide +kernel
theorem dX2_demandsClash_48 : decode cX2_demandsClash 48 = .ok (.iinc 3 1, 3) := by decide +kernel
theorem dX2_demandsClash_51 : decode cX2_demandsClash 51 = .ok (.goto (-39), 3) := by decide +kernel
theorem dX2_demandsClash_54 : decode cX2_demandsClash 54 = .ok (.iinc 2 1, 3) := by decide +kernel
theorem dX2_demandsClash_57 : decode cX2_demandsClash 57 = .ok (.goto (-55), 3) := by decide +kernel
theorem dX2_demandsClash_60 : decode cX2_demandsClash 60 = .ok (.iconst 0, 1) := by decide +kernel
theorem dX2_demandsClash_61 : decode cX2_demandsClash 61 = .ok (.istore_n 2, 1) := by decide +kernel
theorem dX2_demandsClash_62 : decode cX2_demandsClash 62 = .ok (.iload_n 2, 1) := by decide +kernel
theorem dX2_demandsClash_63 : decode cX2_demandsClash 63 = .ok (.aload_n 1, 1) := by decide +kernel
theorem dX2_demandsClash_64 : decode cX2_demandsClash 64 = .ok (.getfield 110, 3) := by decide +kernel
theorem dX2_demandsClash_67 : decode cX2_demandsClash 67 = .ok (.if_icmp .ge 24, 3) := by decide +kernel
theorem dX2_demandsClash_70 : decode cX2_demandsClash 70 = .ok (.aload_n 0, 1) := by decide +kernel
theorem dX2_demandsClash_71 : decode cX2_demandsClash 71 = .ok (.getfield 29, 3) := by decide +kernel
theorem dX2_demandsClash_74 : decode cX2_demandsClash 74 = .ok (.iload_n 2, 1) := by decide +kernel
theorem dX2_demandsClash_75 : decode cX2_demandsClash 75 = .ok (.iaload, 1) := by decide +kernel
theorem dX2_demandsClash_76 : decode cX2_demandsClash 76 = .ok (.iload_n 2, 1) := by decide +kernel
theorem dX2_demandsClash_77 : decode cX2_demandsClash 77 = .ok (.invokestatic 60, 3) := by decide +kernel
theorem dX2_demandsClash_80 : decode cX2_demandsClash 80 = .ok (.ifCond .eq 5, 3) := by decide +kernel
theorem dX2_demandsClash_83 : decode cX2_demandsClash 83 = .ok (.iconst 1, 1) := by decide +kernel
theorem dX2_demandsClash_84 : decode cX2_demandsClash 84 = .ok (.ireturn, 1) := by decide +kernel
theorem dX2_demandsClash_85 : decode cX2_demandsClash 85 = .ok (.iinc 2 1, 3) := by decide +kernel
theorem dX2_demandsClash_88 : decode cX2_demandsClash 88 = .ok (.goto (-26), 3) := by decide +kernel
theorem dX2_demandsClash_91 : decode cX2_demandsClash 91 = .ok (.iconst 0, 1) := by decide +kernel
theorem dX2_demandsClash_92 : decode cX2_demandsClash 92 = .ok (.ireturn, 1) := by decide +kernel
theorem dX2_leastUntried_0 : decode cX2_leastUntried 0 = .ok (.iconst 0, 1) := by decide +kernel
theorem dX2_leastUntried_1 : decode cX2_leastUntried 1 = .ok (.istore_n 1, 1) := by decide +kernel
theorem dX2_leastUntried_2 : decode cX2_leastUntried 2 = .ok (.iload_n 1, 1) := by decide +kernel
theorem dX2_leastUntried_3 : decode cX2_leastUntried 3 = .ok (.bipush 8, 2) := by decide +kernel
theorem dX2_leastUntried_5 : decode cX2_leastUntried 5 = .ok (.if_icmp .ge 25, 3) := by decide +kernel
theorem dX2_leastUntried_8 : decode cX2_leastUntried 8 = .ok (.aload_n 0, 1) := by decide +kernel
theorem dX2_leastUntried_9 : decode cX2_leastUntried 9 = .ok (.getfield 38, 3) := by decide +kernel
theorem dX2_leastUntried_12 : decode cX2_leastUntried 12 = .ok (.aload_n 0, 1) := by decide +kernel
theorem dX2_leastUntried_13 : decode cX2_leastUntried 13 = .ok (.getfield 22, 3) := by decide +kernel
theorem dX2_leastUntried_16 : decode cX2_leastUntried 16 = .ok (.iaload, 1) := by decide +kernel
theorem dX2_leastUntried_17 : decode cX2_leastUntried 17 = .ok (.iload_n 1, 1) := by decide +kernel
theorem dX2_leastUntried_18 : decode cX2_leastUntried 18 = .ok (.invokestatic 60, 3) := by decide +kernel
theorem dX2_leastUntried_21 : decode cX2_leastUntried 21 = .ok (.ifCond .ne 9, 3) := by decide +kernel
theorem dX2_leastUntried_24 : decode cX2_leastUntried 24 = .ok (.iinc 1 1, 3) := by decide +kernel
theorem dX2_leastUntried_27 : decode cX2_leastUntried 27 = .ok (.goto (-25), 3) := by decide +kernel
theorem dX2_leastUntried_30 : decode cX2_leastUntried 30 = .ok (.iload_n 1, 1) := by decide +kernel
theorem dX2_leastUntried_31 : decode cX2_leastUntried 31 = .ok (.ireturn, 1) := by decide +kernel
theorem dX2_put_0 : decode cX2_put 0 = .ok (.aload_n 0, 1) := by decide +kernel
theorem dX2_put_1 : decode cX2_put 1 = .ok (.getfield 38, 3) := by decide +kernel
theorem dX2_put_4 : decode cX2_put 4 = .ok (.aload_n 0, 1) := by decide +kernel
theorem dX2_put_5 : decode cX2_put 5 = .ok (.getfield 22, 3) := by decide +kernel
theorem dX2_put_8 : decode cX2_put 8 = .ok (.dup2, 1) := by decide +kernel
theorem dX2_put_9 : decode cX2_put 9 = .ok (.iaload, 1) := by decide +kernel
theorem dX2_put_10 : decode cX2_put 10 = .ok (.iconst 1, 1) := by decide +kernel
theorem dX2_put_11 : decode cX2_put 11 = .ok (.iload_n 2, 1) := by decide +kernel
theorem dX2_put_12 : decode cX2_put 12 = .ok (.ishl, 1) := by decide +kernel
theorem dX2_put_13 : decode cX2_put 13 = .ok (.iconst (-1), 1) := by decide +kernel
theorem dX2_put_14 : decode cX2_put 14 = .ok (.ixor, 1) := by decide +kernel
theorem dX2_put_15 : decode cX2_put 15 = .ok (.iand, 1) := by decide +kernel
theorem dX2_put_16 : decode cX2_put 16 = .ok (.iastore, 1) := by decide +kernel
theorem dX2_put_17 : decode cX2_put 17 = .ok (.aload_n 0, 1) := by decide +kernel
theorem dX2_put_18 : decode cX2_put 18 = .ok (.getfield 15, 3) := by decide +kernel
theorem dX2_put_21 : decode cX2_put 21 = .ok (.aload_n 0, 1) := by decide +kernel
theorem dX2_put_22 : decode cX2_put 22 = .ok (.getfield 22, 3) := by decide +kernel
theorem dX2_put_25 : decode cX2_put 25 = .ok (.iload_n 2, 1) := by decide +kernel
theorem dX2_put_26 : decode cX2_put 26 = .ok (.iastore, 1) := by decide +kernel
theorem dX2_put_27 : decode cX2_put 27 = .ok (.aload_n 0, 1) := by decide +kernel
theorem dX2_put_28 : decode cX2_put 28 = .ok (.getfield 19, 3) := by decide +kernel
theorem dX2_put_31 : decode cX2_put 31 = .ok (.iload_n 2, 1) := by decide +kernel
theorem dX2_put_32 : decode cX2_put 32 = .ok (.aload_n 0, 1) := by decide +kernel
theorem dX2_put_33 : decode cX2_put 33 = .ok (.getfield 22, 3) := by decide +kernel
theorem dX2_put_36 : decode cX2_put 36 = .ok (.iastore, 1) := by decide +kernel
theorem dX2_put_37 : decode cX2_put 37 = .ok (.aload_n 0, 1) := by decide +kernel
theorem dX2_put_38 : decode cX2_put 38 = .ok (.dup, 1) := by decide +kernel
theorem dX2_put_39 : decode cX2_put 39 = .ok (.getfield 26, 3) := by decide +kernel
theorem dX2_put_42 : decode cX2_put 42 = .ok (.iconst 1, 1) := by decide +kernel
theorem dX2_put_43 : decode cX2_put 43 = .ok (.iload_n 2, 1) := by decide +kernel
theorem dX2_put_44 : decode cX2_put 44 = .ok (.ishl, 1) := by decide +kernel
theorem dX2_put_45 : decode cX2_put 45 = .ok (.ior, 1) := by decide +kernel
theorem dX2_put_46 : decode cX2_put 46 = .ok (.putfield 26, 3) := by decide +kernel
theorem dX2_put_49 : decode cX2_put 49 = .ok (.aload_n 0, 1) := by decide +kernel
theorem dX2_put_50 : decode cX2_put 50 = .ok (.getfield 35, 3) := by decide +kernel
theorem dX2_put_53 : decode cX2_put 53 = .ok (.aload_n 0, 1) := by decide +kernel
theorem dX2_put_54 : decode cX2_put 54 = .ok (.getfield 22, 3) := by decide +kernel
theorem dX2_put_57 : decode cX2_put 57 = .ok (.iconst 1, 1) := by decide +kernel
theorem dX2_put_58 : decode cX2_put 58 = .ok (.iadd, 1) := by decide +kernel
theorem dX2_put_59 : decode cX2_put 59 = .ok (.aload_n 0, 1) := by decide +kernel
theorem dX2_put_60 : decode cX2_put 60 = .ok (.getfield 35, 3) := by decide +kernel
theorem dX2_put_63 : decode cX2_put 63 = .ok (.aload_n 0, 1) := by decide +kernel
theorem dX2_put_64 : decode cX2_put 64 = .ok (.getfield 22, 3) := by decide +kernel
theorem dX2_put_67 : decode cX2_put 67 = .ok (.iaload, 1) := by decide +kernel
theorem dX2_put_68 : decode cX2_put 68 = .ok (.aload_n 1, 1) := by decide +kernel
theorem dX2_put_69 : decode cX2_put 69 = .ok (.getfield 118, 3) := by decide +kernel
theorem dX2_put_72 : decode cX2_put 72 = .ok (.iload_n 2, 1) := by decide +kernel
theorem dX2_put_73 : decode cX2_put 73 = .ok (.iaload, 1) := by decide +kernel
theorem dX2_put_74 : decode cX2_put 74 = .ok (.ixor, 1) := by decide +kernel
theorem dX2_put_75 : decode cX2_put 75 = .ok (.iastore, 1) := by decide +kernel
theorem dX2_put_76 : decode cX2_put 76 = .ok (.aload_n 0, 1) := by decide +kernel
theorem dX2_put_77 : decode cX2_put 77 = .ok (.dup, 1) := by decide +kernel
theorem dX2_put_78 : decode cX2_put 78 = .ok (.getfield 22, 3) := by decide +kernel
theorem dX2_put_81 : decode cX2_put 81 = .ok (.iconst 1, 1) := by decide +kernel
theorem dX2_put_82 : decode cX2_put 82 = .ok (.iadd, 1) := by decide +kernel
theorem dX2_put_83 : decode cX2_put 83 = .ok (.putfield 22, 3) := by decide +kernel
theorem dX2_put_86 : decode cX2_put 86 = .ok (.aload_n 0, 1) := by decide +kernel
theorem dX2_put_87 : decode cX2_put 87 = .ok (.getfield 38, 3) := by decide +kernel
theorem dX2_put_90 : decode cX2_put 90 = .ok (.aload_n 0, 1) := by decide +kernel
theorem dX2_put_91 : decode cX2_put 91 = .ok (.getfield 22, 3) := by decide +kernel
theorem dX2_put_94 : decode cX2_put 94 = .ok (.aload_n 0, 1) := by decide +kernel
theorem dX2_put_95 : decode cX2_put 95 = .ok (.getfield 22, 3) := by decide +kernel
theorem dX2_put_98 : decode cX2_put 98 = .ok (.aload_n 1, 1) := by decide +kernel
theorem dX2_put_99 : decode cX2_put 99 = .ok (.getfield 110, 3) := by decide +kernel
theorem dX2_put_102 : decode cX2_put 102 = .ok (.if_icmp .ge 11, 3) := by decide +kernel
theorem dX2_put_105 : decode cX2_put 105 = .ok (.aload_n 0, 1) := by decide +kernel
theorem dX2_put_106 : decode cX2_put 106 = .ok (.aload_n 1, 1) := by decide +kernel
theorem dX2_put_107 : decode cX2_put 107 = .ok (.invokevirtual 98, 3) := by decide +kernel
theorem dX2_put_110 : decode cX2_put 110 = .ok (.goto 4, 3) := by decide +kernel
theorem dX2_put_113 : decode cX2_put 113 = .ok (.iconst 0, 1) := by decide +kernel
theorem dX2_put_114 : decode cX2_put 114 = .ok (.iastore, 1) := by decide +kernel
theorem dX2_put_115 : decode cX2_put 115 = .ok (.return_, 1) := by decide +kernel
theorem dX2_takeOff_0 : decode cX2_takeOff 0 = .ok (.aload_n 0, 1) := by decide +kernel
theorem dX2_takeOff_1 : decode cX2_takeOff 1 = .ok (.dup, 1) := by decide +kernel
theorem dX2_takeOff_2 : decode cX2_takeOff 2 = .ok (.getfield 22, 3) := by decide +kernel
theorem dX2_takeOff_5 : decode cX2_takeOff 5 = .ok (.iconst 1, 1) := by decide +kernel
theorem dX2_takeOff_6 : decode cX2_takeOff 6 = .ok (.isub, 1) := by decide +kernel
theorem dX2_takeOff_7 : decode cX2_takeOff 7 = .ok (.putfield 22, 3) := by decide +kernel
theorem dX2_takeOff_10 : decode cX2_takeOff 10 = .ok (.aload_n 0, 1) := by decide +kernel
theorem dX2_takeOff_11 : decode cX2_takeOff 11 = .ok (.dup, 1) := by decide +kernel
theorem dX2_takeOff_12 : decode cX2_takeOff 12 = .ok (.getfield 26, 3) := by decide +kernel
theorem dX2_takeOff_15 : decode cX2_takeOff 15 = .ok (.iconst 1, 1) := by decide +kernel
theorem dX2_takeOff_16 : decode cX2_takeOff 16 = .ok (.aload_n 0, 1) := by decide +kernel
theorem dX2_takeOff_17 : decode cX2_takeOff 17 = .ok (.getfield 15, 3) := by decide +kernel
theorem dX2_takeOff_20 : decode cX2_takeOff 20 = .ok (.aload_n 0, 1) := by decide +kernel
theorem dX2_takeOff_21 : decode cX2_takeOff 21 = .ok (.getfield 22, 3) := by decide +kernel
theorem dX2_takeOff_24 : decode cX2_takeOff 24 = .ok (.iaload, 1) := by decide +kernel
theorem dX2_takeOff_25 : decode cX2_takeOff 25 = .ok (.ishl, 1) := by decide +kernel
theorem dX2_takeOff_26 : decode cX2_takeOff 26 = .ok (.iconst (-1), 1) := by decide +kernel
theorem dX2_takeOff_27 : decode cX2_takeOff 27 = .ok (.ixor, 1) := by decide +kernel
theorem dX2_takeOff_28 : decode cX2_takeOff 28 = .ok (.iand, 1) := by decide +kernel
theorem dX2_takeOff_29 : decode cX2_takeOff 29 = .ok (.putfield 26, 3) := by decide +kernel
theorem dX2_takeOff_32 : decode cX2_takeOff 32 = .ok (.return_, 1) := by decide +kernel
theorem dX2_candidates_0 : decode cX2_candidates 0 = .ok (.aload_n 0, 1) := by decide +kernel
theorem dX2_candidates_1 : decode cX2_candidates 1 = .ok (.getfield 26, 3) := by decide +kernel
theorem dX2_candidates_4 : decode cX2_candidates 4 = .ok (.istore_n 2, 1) := by decide +kernel
theorem dX2_candidates_5 : decode cX2_candidates 5 = .ok (.aload_n 0, 1) := by decide +kernel
theorem dX2_candidates_6 : decode cX2_candidates 6 = .ok (.getfield 35, 3) := by decide +kernel
theorem dX2_candidates_9 : decode cX2_candidates 9 = .ok (.aload_n 0, 1) := by decide +kernel
theorem dX2_candidates_10 : decode cX2_candidates 10 = .ok (.getfield 22, 3) := by decide +kernel
theorem dX2_candidates_13 : decode cX2_candidates 13 = .ok (.iaload, 1) := by decide +kernel
theorem dX2_candidates_14 : decode cX2_candidates 14 = .ok (.istore_n 3, 1) := by decide +kernel
theorem dX2_candidates_15 : decode cX2_candidates 15 = .ok (.iconst 0, 1) := by decide +kernel
theorem dX2_candidates_16 : decode cX2_candidates 16 = .ok (.istore 4, 2) := by decide +kernel
theorem dX2_candidates_18 : decode cX2_candidates 18 = .ok (.iload 4, 2) := by decide +kernel
theorem dX2_candidates_20 : decode cX2_candidates 20 = .ok (.aload_n 1, 1) := by decide +kernel
theorem dX2_candidates_21 : decode cX2_candidates 21 = .ok (.getfield 55, 3) := by decide +kernel
theorem dX2_candidates_24 : decode cX2_candidates 24 = .ok (.if_icmp .ge 50, 3) := by decide +kernel
theorem dX2_candidates_27 : decode cX2_candidates 27 = .ok (.iload_n 3, 1) := by decide +kernel
theorem dX2_candidates_28 : decode cX2_candidates 28 = .ok (.iload 4, 2) := by decide +kernel
theorem dX2_candidates_30 : decode cX2_candidates 30 = .ok (.ishr, 1) := by decide +kernel
theorem dX2_candidates_31 : decode cX2_candidates 31 = .ok (.iconst 1, 1) := by decide +kernel
theorem dX2_candidates_32 : decode cX2_candidates 32 = .ok (.iand, 1) := by decide +kernel
theorem dX2_candidates_33 : decode cX2_candidates 33 = .ok (.ifCond .eq 35, 3) := by decide +kernel
theorem dX2_candidates_36 : decode cX2_candidates 36 = .ok (.iload_n 2, 1) := by decide +kernel
theorem dX2_candidates_37 : decode cX2_candidates 37 = .ok (.aload_n 1, 1) := by decide +kernel
theorem dX2_candidates_38 : decode cX2_candidates 38 = .ok (.getfield 121, 3) := by decide +kernel
theorem dX2_candidates_41 : decode cX2_candidates 41 = .ok (.iload 4, 2) := by decide +kernel
theorem dX2_candidates_43 : decode cX2_candidates 43 = .ok (.iaload, 1) := by decide +kernel
theorem dX2_candidates_44 : decode cX2_candidates 44 = .ok (.ior, 1) := by decide +kernel
theorem dX2_candidates_45 : decode cX2_candidates 45 = .ok (.istore_n 2, 1) := by decide +kernel
theorem dX2_candidates_46 : decode cX2_candidates 46 = .ok (.iload_n 3, 1) := by decide +kernel
theorem dX2_candidates_47 : decode cX2_candidates 47 = .ok (.aload_n 1, 1) := by decide +kernel
theorem dX2_candidates_48 : decode cX2_candidates 48 = .ok (.getfield 124, 3) := by decide +kernel
theorem dX2_candidates_51 : decode cX2_candidates 51 = .ok (.iload 4, 2) := by decide +kernel
theorem dX2_candidates_53 : decode cX2_candidates 53 = .ok (.iaload, 1) := by decide +kernel
theorem dX2_candidates_54 : decode cX2_candidates 54 = .ok (.iand, 1) := by decide +kernel
theorem dX2_candidates_55 : decode cX2_candidates 55 = .ok (.ifCond .eq 13, 3) := by decide +kernel
theorem dX2_candidates_58 : decode cX2_candidates 58 = .ok (.iload_n 2, 1) := by decide +kernel
theorem dX2_candidates_59 : decode cX2_candidates 59 = .ok (.aload_n 0, 1) := by decide +kernel
theorem dX2_candidates_60 : decode cX2_candidates 60 = .ok (.aload_n 1, 1) := by decide +kernel
theorem dX2_candidates_61 : decode cX2_candidates 61 = .ok (.iload 4, 2) := by decide +kernel
theorem dX2_candidates_63 : decode cX2_candidates 63 = .ok (.invokevirtual 127, 3) := by decide +kernel
theorem dX2_candidates_66 : decode cX2_candidates 66 = .ok (.ior, 1) := by decide +kernel
theorem dX2_candidates_67 : decode cX2_candidates 67 = .ok (.istore_n 2, 1) := by decide +kernel
theorem dX2_candidates_68 : decode cX2_candidates 68 = .ok (.iinc 4 1, 3) := by decide +kernel
theorem dX2_candidates_71 : decode cX2_candidates 71 = .ok (.goto (-53), 3) := by decide +kernel
theorem dX2_candidates_74 : decode cX2_candidates 74 = .ok (.iconst 1, 1) := by decide +kernel
theorem dX2_candidates_75 : decode cX2_candidates 75 = .ok (.aload_n 1, 1) := by decide +kernel
theorem dX2_candidates_76 : decode cX2_candidates 76 = .ok (.getfield 110, 3) := by decide +kernel
theorem dX2_candidates_79 : decode cX2_candidates 79 = .ok (.ishl, 1) := by decide +kernel
theorem dX2_candidates_80 : decode cX2_candidates 80 = .ok (.iconst 1, 1) := by decide +kernel
theorem dX2_candidates_81 : decode cX2_candidates 81 = .ok (.isub, 1) := by decide +kernel
theorem dX2_candidates_82 : decode cX2_candidates 82 = .ok (.iload_n 2, 1) := by decide +kernel
theorem dX2_candidates_83 : decode cX2_candidates 83 = .ok (.iconst (-1), 1) := by decide +kernel
theorem dX2_candidates_84 : decode cX2_candidates 84 = .ok (.ixor, 1) := by decide +kernel
theorem dX2_candidates_85 : decode cX2_candidates 85 = .ok (.iand, 1) := by decide +kernel
theorem dX2_candidates_86 : decode cX2_candidates 86 = .ok (.istore 4, 2) := by decide +kernel
theorem dX2_candidates_88 : decode cX2_candidates 88 = .ok (.iload 4, 2) := by decide +kernel
theorem dX2_candidates_90 : decode cX2_candidates 90 = .ok (.aload_n 0, 1) := by decide +kernel
theorem dX2_candidates_91 : decode cX2_candidates 91 = .ok (.getfield 32, 3) := by decide +kernel
theorem dX2_candidates_94 : decode cX2_candidates 94 = .ok (.iand, 1) := by decide +kernel
theorem dX2_candidates_95 : decode cX2_candidates 95 = .ok (.ifCond .ne 8, 3) := by decide +kernel
theorem dX2_candidates_98 : decode cX2_candidates 98 = .ok (.iload 4, 2) := by decide +kernel
theorem dX2_candidates_100 : decode cX2_candidates 100 = .ok (.goto 10, 3) := by decide +kernel
theorem dX2_candidates_103 : decode cX2_candidates 103 = .ok (.aload_n 0, 1) := by decide +kernel
theorem dX2_candidates_104 : decode cX2_candidates 104 = .ok (.aload_n 1, 1) := by decide +kernel
theorem dX2_candidates_105 : decode cX2_candidates 105 = .ok (.iload 4, 2) := by decide +kernel
theorem dX2_candidates_107 : decode cX2_candidates 107 = .ok (.invokevirtual 131, 3) := by decide +kernel
theorem dX2_candidates_110 : decode cX2_candidates 110 = .ok (.ireturn, 1) := by decide +kernel
theorem dX2_readyAmong_0 : decode cX2_readyAmong 0 = .ok (.iconst 0, 1) := by decide +kernel
theorem dX2_readyAmong_1 : decode cX2_readyAmong 1 = .ok (.istore_n 3, 1) := by decide +kernel
theorem dX2_readyAmong_2 : decode cX2_readyAmong 2 = .ok (.iconst 0, 1) := by decide +kernel
theorem dX2_readyAmong_3 : decode cX2_readyAmong 3 = .ok (.istore 4, 2) := by decide +kernel
theorem dX2_readyAmong_5 : decode cX2_readyAmong 5 = .ok (.iload 4, 2) := by decide +kernel
theorem dX2_readyAmong_7 : decode cX2_readyAmong 7 = .ok (.aload_n 1, 1) := by decide +kernel
theorem dX2_readyAmong_8 : decode cX2_readyAmong 8 = .ok (.getfield 110, 3) := by decide +kernel
theorem dX2_readyAmong_11 : decode cX2_readyAmong 11 = .ok (.if_icmp .ge 42, 3) := by decide +kernel
theorem dX2_readyAmong_14 : decode cX2_readyAmong 14 = .ok (.iload_n 2, 1) := by decide +kernel
theorem dX2_readyAmong_15 : decode cX2_readyAmong 15 = .ok (.iload 4, 2) := by decide +kernel
theorem dX2_readyAmong_17 : decode cX2_readyAmong 17 = .ok (.invokestatic 60, 3) := by decide +kernel
theorem dX2_readyAmong_20 : decode cX2_readyAmong 20 = .ok (.ifCond .eq 27, 3) := by decide +kernel
theorem dX2_readyAmong_23 : decode cX2_readyAmong 23 = .ok (.aload_n 0, 1) := by decide +kernel
theorem dX2_readyAmong_24 : decode cX2_readyAmong 24 = .ok (.getfield 29, 3) := by decide +kernel
theorem dX2_readyAmong_27 : decode cX2_readyAmong 27 = .ok (.iload 4, 2) := by decide +kernel
theorem dX2_readyAmong_29 : decode cX2_readyAmong 29 = .ok (.iaload, 1) := by decide +kernel
theorem dX2_readyAmong_30 : decode cX2_readyAmong 30 = .ok (.aload_n 0, 1) := by decide +kernel
theorem dX2_readyAmong_31 : decode cX2_readyAmong 31 = .ok (.getfield 26, 3) := by decide +kernel
theorem dX2_readyAmong_34 : decode cX2_readyAmong 34 = .ok (.iconst (-1), 1) := by decide +kernel
theorem dX2_readyAmong_35 : decode cX2_readyAmong 35 = .ok (.ixor, 1) := by decide +kernel
theorem dX2_readyAmong_36 : decode cX2_readyAmong 36 = .ok (.iand, 1) := by decide +kernel
theorem dX2_readyAmong_37 : decode cX2_readyAmong 37 = .ok (.ifCond .ne 10, 3) := by decide +kernel
theorem dX2_readyAmong_40 : decode cX2_readyAmong 40 = .ok (.iload_n 3, 1) := by decide +kernel
theorem dX2_readyAmong_41 : decode cX2_readyAmong 41 = .ok (.iconst 1, 1) := by decide +kernel
theorem dX2_readyAmong_42 : decode cX2_readyAmong 42 = .ok (.iload 4, 2) := by decide +kernel
theorem dX2_readyAmong_44 : decode cX2_readyAmong 44 = .ok (.ishl, 1) := by decide +kernel
theorem dX2_readyAmong_45 : decode cX2_readyAmong 45 = .ok (.ior, 1) := by decide +kernel
theorem dX2_readyAmong_46 : decode cX2_readyAmong 46 = .ok (.istore_n 3, 1) := by decide +kernel
theorem dX2_readyAmong_47 : decode cX2_readyAmong 47 = .ok (.iinc 4 1, 3) := by decide +kernel
theorem dX2_readyAmong_50 : decode cX2_readyAmong 50 = .ok (.goto (-45), 3) := by decide +kernel
theorem dX2_readyAmong_53 : decode cX2_readyAmong 53 = .ok (.iload_n 3, 1) := by decide +kernel
theorem dX2_readyAmong_54 : decode cX2_readyAmong 54 = .ok (.ireturn, 1) := by decide +kernel
theorem dX2_barredFromClosing_0 : decode cX2_barredFromClosing 0 = .ok (.aload_n 0, 1) := by decide +kernel
theorem dX2_barredFromClosing_1 : decode cX2_barredFromClosing 1 = .ok (.getfield 26, 3) := by decide +kernel
theorem dX2_barredFromClosing_4 : decode cX2_barredFromClosing 4 = .ok (.aload_n 1, 1) := by decide +kernel
theorem dX2_barredFromClosing_5 : decode cX2_barredFromClosing 5 = .ok (.getfield 75, 3) := by decide +kernel
theorem dX2_barredFromClosing_8 : decode cX2_barredFromClosing 8 = .ok (.iload_n 2, 1) := by decide +kernel
theorem dX2_barredFromClosing_9 : decode cX2_barredFromClosing 9 = .ok (.iaload, 1) := by decide +kernel
theorem dX2_barredFromClosing_10 : decode cX2_barredFromClosing 10 = .ok (.invokestatic 60, 3) := by decide +kernel
theorem dX2_barredFromClosing_13 : decode cX2_barredFromClosing 13 = .ok (.istore_n 3, 1) := by decide +kernel
theorem dX2_barredFromClosing_14 : decode cX2_barredFromClosing 14 = .ok (.iload_n 3, 1) := by decide +kernel
theorem dX2_barredFromClosing_15 : decode cX2_barredFromClosing 15 = .ok (.ifCond .eq 12, 3) := by decide +kernel
theorem dX2_barredFromClosing_18 : decode cX2_barredFromClosing 18 = .ok (.aload_n 1, 1) := by decide +kernel
theorem dX2_barredFromClosing_19 : decode cX2_barredFromClosing 19 = .ok (.getfield 75, 3) := by decide +kernel
theorem dX2_barredFromClosing_22 : decode cX2_barredFromClosing 22 = .ok (.iload_n 2, 1) := by decide +kernel
theorem dX2_barredFromClosing_23 : decode cX2_barredFromClosing 23 = .ok (.iaload, 1) := by decide +kernel
theorem dX2_barredFromClosing_24 : decode cX2_barredFromClosing 24 = .ok (.goto 9, 3) := by decide +kernel
theorem dX2_barredFromClosing_27 : decode cX2_barredFromClosing 27 = .ok (.aload_n 1, 1) := by decide +kernel
theorem dX2_barredFromClosing_28 : decode cX2_barredFromClosing 28 = .ok (.getfield 78, 3) := by decide +kernel
theorem dX2_barredFromClosing_31 : decode cX2_barredFromClosing 31 = .ok (.iload_n 2, 1) := by decide +kernel
theorem dX2_barredFromClosing_32 : decode cX2_barredFromClosing 32 = .ok (.iaload, 1) := by decide +kernel
theorem dX2_barredFromClosing_33 : decode cX2_barredFromClosing 33 = .ok (.istore 4, 2) := by decide +kernel
theorem dX2_barredFromClosing_35 : decode cX2_barredFromClosing 35 = .ok (.iload_n 3, 1) := by decide +kernel
theorem dX2_barredFromClosing_36 : decode cX2_barredFromClosing 36 = .ok (.ifCond .eq 12, 3) := by decide +kernel
theorem dX2_barredFromClosing_39 : decode cX2_barredFromClosing 39 = .ok (.aload_n 1, 1) := by decide +kernel
theorem dX2_barredFromClosing_40 : decode cX2_barredFromClosing 40 = .ok (.getfield 78, 3) := by decide +kernel
theorem dX2_barredFromClosing_43 : decode cX2_barredFromClosing 43 = .ok (.iload_n 2, 1) := by decide +kernel
theorem dX2_barredFromClosing_44 : decode cX2_barredFromClosing 44 = .ok (.iaload, 1) := by decide +kernel
theorem dX2_barredFromClosing_45 : decode cX2_barredFromClosing 45 = .ok (.goto 9, 3) := by decide +kernel
theorem dX2_barredFromClosing_48 : decode cX2_barredFromClosing 48 = .ok (.aload_n 1, 1) := by decide +kernel
theorem dX2_barredFromClosing_49 : decode cX2_barredFromClosing 49 = .ok (.getfield 75, 3) := by decide +kernel
theorem dX2_barredFromClosing_52 : decode cX2_barredFromClosing 52 = .ok (.iload_n 2, 1) := by decide +kernel
theorem dX2_barredFromClosing_53 : decode cX2_barredFromClosing 53 = .ok (.iaload, 1) := by decide +kernel
theorem dX2_barredFromClosing_54 : decode cX2_barredFromClosing 54 = .ok (.istore 5, 2) := by decide +kernel
theorem dX2_barredFromClosing_56 : decode cX2_barredFromClosing 56 = .ok (.aload_n 0, 1) := by decide +kernel
theorem dX2_barredFromClosing_57 : decode cX2_barredFromClosing 57 = .ok (.getfield 35, 3) := by decide +kernel
theorem dX2_barredFromClosing_60 : decode cX2_barredFromClosing 60 = .ok (.aload_n 0, 1) := by decide +kernel
theorem dX2_barredFromClosing_61 : decode cX2_barredFromClosing 61 = .ok (.getfield 22, 3) := by decide +kernel
theorem dX2_barredFromClosing_64 : decode cX2_barredFromClosing 64 = .ok (.iaload, 1) := by decide +kernel
theorem dX2_barredFromClosing_65 : decode cX2_barredFromClosing 65 = .ok (.aload_n 0, 1) := by decide +kernel
theorem dX2_barredFromClosing_66 : decode cX2_barredFromClosing 66 = .ok (.getfield 35, 3) := by decide +kernel
theorem dX2_barredFromClosing_69 : decode cX2_barredFromClosing 69 = .ok (.aload_n 0, 1) := by decide +kernel
theorem dX2_barredFromClosing_70 : decode cX2_barredFromClosing 70 = .ok (.getfield 19, 3) := by decide +kernel
theorem dX2_barredFromClosing_73 : decode cX2_barredFromClosing 73 = .ok (.iload 4, 2) := by decide +kernel
theorem dX2_barredFromClosing_75 : decode cX2_barredFromClosing 75 = .ok (.iaload, 1) := by decide +kernel
theorem dX2_barredFromClosing_76 : decode cX2_barredFromClosing 76 = .ok (.iconst 1, 1) := by decide +kernel
theorem dX2_barredFromClosing_77 : decode cX2_barredFromClosing 77 = .ok (.iadd, 1) := by decide +kernel
theorem dX2_barredFromClosing_78 : decode cX2_barredFromClosing 78 = .ok (.iaload, 1) := by decide +kernel
theorem dX2_barredFromClosing_79 : decode cX2_barredFromClosing 79 = .ok (.iconst (-1), 1) := by decide +kernel
theorem dX2_barredFromClosing_80 : decode cX2_barredFromClosing 80 = .ok (.ixor, 1) := by decide +kernel
theorem dX2_barredFromClosing_81 : decode cX2_barredFromClosing 81 = .ok (.iand, 1) := by decide +kernel
theorem dX2_barredFromClosing_82 : decode cX2_barredFromClosing 82 = .ok (.istore 6, 2) := by decide +kernel
theorem dX2_barredFromClosing_84 : decode cX2_barredFromClosing 84 = .ok (.iload 6, 2) := by decide +kernel
theorem dX2_barredFromClosing_86 : decode cX2_barredFromClosing 86 = .ok (.aload_n 1, 1) := by decide +kernel
theorem dX2_barredFromClosing_87 : decode cX2_barredFromClosing 87 = .ok (.getfield 124, 3) := by decide +kernel
theorem dX2_barredFromClosing_90 : decode cX2_barredFromClosing 90 = .ok (.iload_n 2, 1) := by decide +kernel
theorem dX2_barredFromClosing_91 : decode cX2_barredFromClosing 91 = .ok (.iaload, 1) := by decide +kernel
theorem dX2_barredFromClosing_92 : decode cX2_barredFromClosing 92 = .ok (.iand, 1) := by decide +kernel
theorem dX2_barredFromClosing_93 : decode cX2_barredFromClosing 93 = .ok (.ifCond .eq 10, 3) := by decide +kernel
theorem dX2_barredFromClosing_96 : decode cX2_barredFromClosing 96 = .ok (.iconst 1, 1) := by decide +kernel
theorem dX2_barredFromClosing_97 : decode cX2_barredFromClosing 97 = .ok (.iload 5, 2) := by decide +kernel
theorem dX2_barredFromClosing_99 : decode cX2_barredFromClosing 99 = .ok (.ishl, 1) := by decide +kernel
theorem dX2_barredFromClosing_100 : decode cX2_barredFromClosing 100 = .ok (.goto 4, 3) := by decide +kernel
theorem dX2_barredFromClosing_103 : decode cX2_barredFromClosing 103 = .ok (.iconst 0, 1) := by decide +kernel
theorem dX2_barredFromClosing_104 : decode cX2_barredFromClosing 104 = .ok (.ireturn, 1) := by decide +kernel
theorem dX3_init_0 : decode cX3_init 0 = .ok (.aload_n 0, 1) := by decide +kernel
theorem dX3_init_1 : decode cX3_init 1 = .ok (.invokespecial 3, 3) := by decide +kernel
theorem dX3_init_4 : decode cX3_init 4 = .ok (.aload_n 0, 1) := by decide +kernel
theorem dX3_init_5 : decode cX3_init 5 = .ok (.sipush 256, 3) := by decide +kernel
theorem dX3_init_8 : decode cX3_init 8 = .ok (.newarray .int, 2) := by decide +kernel
theorem dX3_init_10 : decode cX3_init 10 = .ok (.putfield 9, 3) := by decide +kernel
theorem dX3_init_13 : decode cX3_init 13 = .ok (.aload_n 0, 1) := by decide +kernel
theorem dX3_init_14 : decode cX3_init 14 = .ok (.sipush 256, 3) := by decide +kernel
theorem dX3_init_17 : decode cX3_init 17 = .ok (.newarray .int, 2) := by decide +kernel
theorem dX3_init_19 : decode cX3_init 19 = .ok (.putfield 15, 3) := by decide +kernel
theorem dX3_init_22 : decode cX3_init 22 = .ok (.aload_n 0, 1) := by decide +kernel
theorem dX3_init_23 : decode cX3_init 23 = .ok (.sipush 256, 3) := by decide +kernel
theorem dX3_init_26 : decode cX3_init 26 = .ok (.newarray .int, 2) := by decide +kernel
theorem dX3_init_28 : decode cX3_init 28 = .ok (.putfield 18, 3) := by decide +kernel
theorem dX3_init_31 : decode cX3_init 31 = .ok (.return_, 1) := by decide +kernel
theorem dX3_explore_0 : decode cX3_explore 0 = .ok (.aload_n 1, 1) := by decide +kernel
theorem dX3_explore_1 : decode cX3_explore 1 = .ok (.invokevirtual 21, 3) := by decide +kernel
theorem dX3_explore_4 : decode cX3_explore 4 = .ok (.aload_n 0, 1) := by decide +kernel
theorem dX3_explore_5 : decode cX3_explore 5 = .ok (.getfield 9, 3) := by decide +kernel
theorem dX3_explore_8 : decode cX3_explore 8 = .ok (.arraylength, 1) := by decide +kernel
theorem dX3_explore_9 : decode cX3_explore 9 = .ok (.iconst 1, 1) := by decide +kernel
theorem dX3_explore_10 : decode cX3_explore 10 = .ok (.isub, 1) := by decide +kernel
theorem dX3_explore_11 : decode cX3_explore 11 = .ok (.invokestatic 27, 3) := by decide +kernel
theorem dX3_explore_14 : decode cX3_explore 14 = .ok (.istore_n 3, 1) := by decide +kernel
theorem dX3_explore_15 : decode cX3_explore 15 = .ok (.aload_n 0, 1) := by decide +kernel
theorem dX3_explore_16 : decode cX3_explore 16 = .ok (.getfield 9, 3) := by decide +kernel
theorem dX3_explore_19 : decode cX3_explore 19 = .ok (.iload_n 3, 1) := by decide +kernel
theorem dX3_explore_20 : decode cX3_explore 20 = .ok (.iconst 0, 1) := by decide +kernel
theorem dX3_explore_21 : decode cX3_explore 21 = .ok (.iastore, 1) := by decide +kernel
theorem dX3_explore_22 : decode cX3_explore 22 = .ok (.iload_n 3, 1) := by decide +kernel
theorem dX3_explore_23 : decode cX3_explore 23 = .ok (.iconst 1, 1) := by decide +kernel
theorem dX3_explore_24 : decode cX3_explore 24 = .ok (.isub, 1) := by decide +kernel
theorem dX3_explore_25 : decode cX3_explore 25 = .ok (.istore 4, 2) := by decide +kernel
theorem dX3_explore_27 : decode cX3_explore 27 = .ok (.iload 4, 2) := by decide +kernel
theorem dX3_explore_29 : decode cX3_explore 29 = .ok (.ifCond .lt 44, 3) := by decide +kernel
theorem dX3_explore_32 : decode cX3_explore 32 = .ok (.aload_n 0, 1) := by decide +kernel
theorem dX3_explore_33 : decode cX3_explore 33 = .ok (.getfield 9, 3) := by decide +kernel
theorem dX3_explore_36 : decode cX3_explore 36 = .ok (.iload 4, 2) := by decide +kernel
theorem dX3_explore_38 : decode cX3_explore 38 = .ok (.sipush 1000, 3) := by decide +kernel
theorem dX3_explore_41 : decode cX3_explore 41 = .ok (.iastore, 1) := by decide +kernel
theorem dX3_explore_42 : decode cX3_explore 42 = .ok (.aload_n 2, 1) := by decide +kernel
theorem dX3_explore_43 : decode cX3_explore 43 = .ok (.aload_n 1, 1) := by decide +kernel
theorem dX3_explore_44 : decode cX3_explore 44 = .ok (.iload 4, 2) := by decide +kernel
theorem dX3_explore_46 : decode cX3_explore 46 = .ok (.invokevirtual 33, 3) := by decide +kernel
theorem dX3_explore_49 : decode cX3_explore 49 = .ok (.aload_n 0, 1) := by decide +kernel
theorem dX3_explore_50 : decode cX3_explore 50 = .ok (.aload_n 1, 1) := by decide +kernel
theorem dX3_explore_51 : decode cX3_explore 51 = .ok (.iconst 0, 1) := by decide +kernel
theorem dX3_explore_52 : decode cX3_explore 52 = .ok (.iload 4, 2) := by decide +kernel
theorem dX3_explore_54 : decode cX3_explore 54 = .ok (.aload_n 2, 1) := by decide +kernel
theorem dX3_explore_55 : decode cX3_explore 55 = .ok (.invokevirtual 39, 3) := by decide +kernel
theorem dX3_explore_58 : decode cX3_explore 58 = .ok (.aload_n 0, 1) := by decide +kernel
theorem dX3_explore_59 : decode cX3_explore 59 = .ok (.aload_n 1, 1) := by decide +kernel
theorem dX3_explore_60 : decode cX3_explore 60 = .ok (.iconst 1, 1) := by decide +kernel
theorem dX3_explore_61 : decode cX3_explore 61 = .ok (.iload 4, 2) := by decide +kernel
theorem dX3_explore_63 : decode cX3_explore 63 = .ok (.aload_n 2, 1) := by decide +kernel
theorem dX3_explore_64 : decode cX3_explore 64 = .ok (.invokevirtual 39, 3) := by decide +kernel
theorem dX3_explore_67 : decode cX3_explore 67 = .ok (.iinc 4 (-1), 3) := by decide +kernel
theorem dX3_explore_70 : decode cX3_explore 70 = .ok (.goto (-43), 3) := by decide +kernel
theorem dX3_explore_73 : decode cX3_explore 73 = .ok (.return_, 1) := by decide +kernel
theorem dX3_tryLines_0 : decode cX3_tryLines 0 = .ok (.iconst 0, 1) := by decide +kernel
theorem dX3_tryLines_1 : decode cX3_tryLines 1 = .ok (.istore 5, 2) := by decide +kernel
theorem dX3_tryLines_3 : decode cX3_tryLines 3 = .ok (.iload 5, 2) := by decide +kernel
theorem dX3_tryLines_5 : decode cX3_tryLines 5 = .ok (.aload 4, 2) := by decide +kernel
theorem dX3_tryLines_7 : decode cX3_tryLines 7 = .ok (.aload_n 1, 1) := by decide +kernel
theorem dX3_tryLines_8 : decode cX3_tryLines 8 = .ok (.iload_n 2, 1) := by decide +kernel
theorem dX3_tryLines_9 : decode cX3_tryLines 9 = .ok (.invokevirtual 43, 3) := by decide +kernel
theorem dX3_tryLines_12 : decode cX3_tryLines 12 = .ok (.iconst 1, 1) := by decide +kernel
theorem dX3_tryLines_13 : decode cX3_tryLines 13 = .ok (.isub, 1) := by decide +kernel
theorem dX3_tryLines_14 : decode cX3_tryLines 14 = .ok (.if_icmp .ge 67, 3) := by decide +kernel
theorem dX3_tryLines_17 : decode cX3_tryLines 17 = .ok (.iload_n 3, 1) := by decide +kernel
theorem dX3_tryLines_18 : decode cX3_tryLines 18 = .ok (.aload 4, 2) := by decide +kernel
theorem dX3_tryLines_20 : decode cX3_tryLines 20 = .ok (.aload_n 1, 1) := by decide +kernel
theorem dX3_tryLines_21 : decode cX3_tryLines 21 = .ok (.iload_n 2, 1) := by decide +kernel
theorem dX3_tryLines_22 : decode cX3_tryLines 22 = .ok (.iload 5, 2) := by decide +kernel
theorem dX3_tryLines_24 : decode cX3_tryLines 24 = .ok (.invokevirtual 47, 3) := by decide +kernel
theorem dX3_tryLines_27 : decode cX3_tryLines 27 = .ok (.invokestatic 51, 3) := by decide +kernel
theorem dX3_tryLines_30 : decode cX3_tryLines 30 = .ok (.ifCond .ne 45, 3) := by decide +kernel
theorem dX3_tryLines_33 : decode cX3_tryLines 33 = .ok (.iconst 4, 1) := by decide +kernel
theorem dX3_tryLines_34 : decode cX3_tryLines 34 = .ok (.aload 4, 2) := by decide +kernel
theorem dX3_tryLines_36 : decode cX3_tryLines 36 = .ok (.getfield 55, 3) := by decide +kernel
theorem dX3_tryLines_39 : decode cX3_tryLines 39 = .ok (.iload_n 2, 1) := by decide +kernel
theorem dX3_tryLines_40 : decode cX3_tryLines 40 = .ok (.aaload, 1) := by decide +kernel
theorem dX3_tryLines_41 : decode cX3_tryLines 41 = .ok (.iload 5, 2) := by decide +kernel
theorem dX3_tryLines_43 : decode cX3_tryLines 43 = .ok (.iconst 1, 1) := by decide +kernel
theorem dX3_tryLines_44 : decode cX3_tryLines 44 = .ok (.iadd, 1) := by decide +kernel
theorem dX3_tryLines_45 : decode cX3_tryLines 45 = .ok (.iaload, 1) := by decide +kernel
theorem dX3_tryLines_46 : decode cX3_tryLines 46 = .ok (.imul, 1) := by decide +kernel
theorem dX3_tryLines_47 : decode cX3_tryLines 47 = .ok (.iconst 2, 1) := by decide +kernel
theorem dX3_tryLines_48 : decode cX3_tryLines 48 = .ok (.iload_n 2, 1) := by decide +kernel
theorem dX3_tryLines_49 : decode cX3_tryLines 49 = .ok (.imul, 1) := by decide +kernel
theorem dX3_tryLines_50 : decode cX3_tryLines 50 = .ok (.iadd, 1) := by decide +kernel
theorem dX3_tryLines_51 : decode cX3_tryLines 51 = .ok (.istore 6, 2) := by decide +kernel
theorem dX3_tryLines_53 : decode cX3_tryLines 53 = .ok (.aload_n 0, 1) := by decide +kernel
theorem dX3_tryLines_54 : decode cX3_tryLines 54 = .ok (.aload_n 1, 1) := by decide +kernel
theorem dX3_tryLines_55 : decode cX3_tryLines 55 = .ok (.iload 6, 2) := by decide +kernel
theorem dX3_tryLines_57 : decode cX3_tryLines 57 = .ok (.iload_n 3, 1) := by decide +kernel
theorem dX3_tryLines_58 : decode cX3_tryLines 58 = .ok (.aload 4, 2) := by decide +kernel
theorem dX3_tryLines_60 : decode cX3_tryLines 60 = .ok (.invokevirtual 59, 3) := by decide +kernel
theorem dX3_tryLines_63 : decode cX3_tryLines 63 = .ok (.aload_n 0, 1) := by decide +kernel
theorem dX3_tryLines_64 : decode cX3_tryLines 64 = .ok (.aload_n 1, 1) := by decide +kernel
theorem dX3_tryLines_65 : decode cX3_tryLines 65 = .ok (.iload 6, 2) := by decide +kernel
theorem dX3_tryLines_67 : decode cX3_tryLines 67 = .ok (.iconst 1, 1) := by decide +kernel
theorem dX3_tryLines_68 : decode cX3_tryLines 68 = .ok (.iadd, 1) := by decide +kernel
theorem dX3_tryLines_69 : decode cX3_tryLines 69 = .ok (.iload_n 3, 1) := by decide +kernel
theorem dX3_tryLines_70 : decode cX3_tryLines 70 = .ok (.aload 4, 2) := by decide +kernel
theorem dX3_tryLines_72 : decode cX3_tryLines 72 = .ok (.invokevirtual 59, 3) := by decide +kernel
theorem dX3_tryLines_75 : decode cX3_tryLines 75 = .ok (.iinc 5 1, 3) := by decide +kernel
theorem dX3_tryLines_78 : decode cX3_tryLines 78 = .ok (.goto (-75), 3) := by decide +kernel
theorem dX3_tryLines_81 : decode cX3_tryLines 81 = .ok (.return_, 1) := by decide +kernel
theorem dX3_tryStep_0 : decode cX3_tryStep 0 = .ok (.aload 4, 2) := by decide +kernel
theorem dX3_tryStep_2 : decode cX3_tryStep 2 = .ok (.aload_n 1, 1) := by decide +kernel
theorem dX3_tryStep_3 : decode cX3_tryStep 3 = .ok (.iload_n 2, 1) := by decide +kernel
theorem dX3_tryStep_4 : decode cX3_tryStep 4 = .ok (.invokevirtual 62, 3) := by decide +kernel
theorem dX3_tryStep_7 : decode cX3_tryStep 7 = .ok (.istore 5, 2) := by decide +kernel
theorem dX3_tryStep_9 : decode cX3_tryStep 9 = .ok (.iload_n 3, 1) := by decide +kernel
theorem dX3_tryStep_10 : decode cX3_tryStep 10 = .ok (.iload 5, 2) := by decide +kernel
theorem dX3_tryStep_12 : decode cX3_tryStep 12 = .ok (.ior, 1) := by decide +kernel
theorem dX3_tryStep_13 : decode cX3_tryStep 13 = .ok (.istore 6, 2) := by decide +kernel
theorem dX3_tryStep_15 : decode cX3_tryStep 15 = .ok (.iload 5, 2) := by decide +kernel
theorem dX3_tryStep_17 : decode cX3_tryStep 17 = .ok (.ifCond .eq 16, 3) := by decide +kernel
theorem dX3_tryStep_20 : decode cX3_tryStep 20 = .ok (.aload_n 0, 1) := by decide +kernel
theorem dX3_tryStep_21 : decode cX3_tryStep 21 = .ok (.getfield 9, 3) := by decide +kernel
theorem dX3_tryStep_24 : decode cX3_tryStep 24 = .ok (.iload 6, 2) := by decide +kernel
theorem dX3_tryStep_26 : decode cX3_tryStep 26 = .ok (.iaload, 1) := by decide +kernel
theorem dX3_tryStep_27 : decode cX3_tryStep 27 = .ok (.sipush 1000, 3) := by decide +kernel
theorem dX3_tryStep_30 : decode cX3_tryStep 30 = .ok (.if_icmp .ne 4, 3) := by decide +kernel
theorem dX3_tryStep_33 : decode cX3_tryStep 33 = .ok (.return_, 1) := by decide +kernel
theorem dX3_tryStep_34 : decode cX3_tryStep 34 = .ok (.aload_n 0, 1) := by decide +kernel
theorem dX3_tryStep_35 : decode cX3_tryStep 35 = .ok (.getfield 9, 3) := by decide +kernel
theorem dX3_tryStep_38 : decode cX3_tryStep 38 = .ok (.iload 6, 2) := by decide +kernel
theorem dX3_tryStep_40 : decode cX3_tryStep 40 = .ok (.iaload, 1) := by decide +kernel
theorem dX3_tryStep_41 : decode cX3_tryStep 41 = .ok (.iconst 1, 1) := by decide +kernel
theorem dX3_tryStep_42 : decode cX3_tryStep 42 = .ok (.iadd, 1) := by decide +kernel
theorem dX3_tryStep_43 : decode cX3_tryStep 43 = .ok (.istore 7, 2) := by decide +kernel
theorem dX3_tryStep_45 : decode cX3_tryStep 45 = .ok (.iload 7, 2) := by decide +kernel
theorem dX3_tryStep_47 : decode cX3_tryStep 47 = .ok (.aload_n 0, 1) := by decide +kernel
theorem dX3_tryStep_48 : decode cX3_tryStep 48 = .ok (.getfield 9, 3) := by decide +kernel
theorem dX3_tryStep_51 : decode cX3_tryStep 51 = .ok (.iload_n 3, 1) := by decide +kernel
theorem dX3_tryStep_52 : decode cX3_tryStep 52 = .ok (.iaload, 1) := by decide +kernel
theorem dX3_tryStep_53 : decode cX3_tryStep 53 = .ok (.if_icmp .lt 24, 3) := by decide +kernel
theorem dX3_tryStep_56 : decode cX3_tryStep 56 = .ok (.iload 7, 2) := by decide +kernel
theorem dX3_tryStep_58 : decode cX3_tryStep 58 = .ok (.aload_n 0, 1) := by decide +kernel
theorem dX3_tryStep_59 : decode cX3_tryStep 59 = .ok (.getfield 9, 3) := by decide +kernel
theorem dX3_tryStep_62 : decode cX3_tryStep 62 = .ok (.iload_n 3, 1) := by decide +kernel
theorem dX3_tryStep_63 : decode cX3_tryStep 63 = .ok (.iaload, 1) := by decide +kernel
theorem dX3_tryStep_64 : decode cX3_tryStep 64 = .ok (.if_icmp .ne 36, 3) := by decide +kernel
theorem dX3_tryStep_67 : decode cX3_tryStep 67 = .ok (.iload_n 2, 1) := by decide +kernel
theorem dX3_tryStep_68 : decode cX3_tryStep 68 = .ok (.aload_n 0, 1) := by decide +kernel
theorem dX3_tryStep_69 : decode cX3_tryStep 69 = .ok (.getfield 15, 3) := by decide +kernel
theorem dX3_tryStep_72 : decode cX3_tryStep 72 = .ok (.iload_n 3, 1) := by decide +kernel
theorem dX3_tryStep_73 : decode cX3_tryStep 73 = .ok (.iaload, 1) := by decide +kernel
theorem dX3_tryStep_74 : decode cX3_tryStep 74 = .ok (.if_icmp .ge 26, 3) := by decide +kernel
theorem dX3_tryStep_77 : decode cX3_tryStep 77 = .ok (.aload_n 0, 1) := by decide +kernel
theorem dX3_tryStep_78 : decode cX3_tryStep 78 = .ok (.getfield 9, 3) := by decide +kernel
theorem dX3_tryStep_81 : decode cX3_tryStep 81 = .ok (.iload_n 3, 1) := by decide +kernel
theorem dX3_tryStep_82 : decode cX3_tryStep 82 = .ok (.iload 7, 2) := by decide +kernel
theorem dX3_tryStep_84 : decode cX3_tryStep 84 = .ok (.iastore, 1) := by decide +kernel
theorem dX3_tryStep_85 : decode cX3_tryStep 85 = .ok (.aload_n 0, 1) := by decide +kernel
theorem dX3_tryStep_86 : decode cX3_tryStep 86 = .ok (.getfield 15, 3) := by decide +kernel
theorem dX3_tryStep_89 : decode cX3_tryStep 89 = .ok (.iload_n 3, 1) := by decide +kernel
theorem dX3_tryStep_90 : decode cX3_tryStep 90 = .ok (.iload_n 2, 1) := by decide +kernel
theorem dX3_tryStep_91 : decode cX3_tryStep 91 = .ok (.iastore, 1) := by decide +kernel
theorem dX3_tryStep_92 : decode cX3_tryStep 92 = .ok (.aload_n 0, 1) := by decide +kernel
theorem dX3_tryStep_93 : decode cX3_tryStep 93 = .ok (.getfield 18, 3) := by decide +kernel
theorem dX3_tryStep_96 : decode cX3_tryStep 96 = .ok (.iload_n 3, 1) := by decide +kernel
theorem dX3_tryStep_97 : decode cX3_tryStep 97 = .ok (.iload 6, 2) := by decide +kernel
theorem dX3_tryStep_99 : decode cX3_tryStep 99 = .ok (.iastore, 1) := by decide +kernel
theorem dX3_tryStep_100 : decode cX3_tryStep 100 = .ok (.return_, 1) := by decide +kernel
theorem dX3_trace_0 : decode cX3_trace 0 = .ok (.iconst 0, 1) := by decide +kernel
theorem dX3_trace_1 : decode cX3_trace 1 = .ok (.istore_n 3, 1) := by decide +kernel
theorem dX3_trace_2 : decode cX3_trace 2 = .ok (.iconst 0, 1) := by decide +kernel
theorem dX3_trace_3 : decode cX3_trace 3 = .ok (.istore 4, 2) := by decide +kernel
theorem dX3_trace_5 : decode cX3_trace 5 = .ok (.iload 4, 2) := by decide +kernel
theorem dX3_trace_7 : decode cX3_trace 7 = .ok (.iload_n 1, 1) := by decide +kernel
theorem dX3_trace_8 : decode cX3_trace 8 = .ok (.if_icmp .eq 34, 3) := by decide +kernel
theorem dX3_trace_11 : decode cX3_trace 11 = .ok (.iload_n 3, 1) := by decide +kernel
theorem dX3_trace_12 : decode cX3_trace 12 = .ok (.aload_n 2, 1) := by decide +kernel
theorem dX3_trace_13 : decode cX3_trace 13 = .ok (.arraylength, 1) := by decide +kernel
theorem dX3_trace_14 : decode cX3_trace 14 = .ok (.if_icmp .ge 28, 3) := by decide +kernel
theorem dX3_trace_17 : decode cX3_trace 17 = .ok (.aload_n 2, 1) := by decide +kernel
theorem dX3_trace_18 : decode cX3_trace 18 = .ok (.iload_n 3, 1) := by decide +kernel
theorem dX3_trace_19 : decode cX3_trace 19 = .ok (.aload_n 0, 1) := by decide +kernel
theorem dX3_trace_20 : decode cX3_trace 20 = .ok (.getfield 15, 3) := by decide +kernel
theorem dX3_trace_23 : decode cX3_trace 23 = .ok (.iload 4, 2) := by decide +kernel
theorem dX3_trace_25 : decode cX3_trace 25 = .ok (.iaload, 1) := by decide +kernel
theorem dX3_trace_26 : decode cX3_trace 26 = .ok (.iastore, 1) := by decide +kernel
theorem dX3_trace_27 : decode cX3_trace 27 = .ok (.iinc 3 1, 3) := by decide +kernel
theorem dX3_trace_30 : decode cX3_trace 30 = .ok (.aload_n 0, 1) := by decide +kernel
theorem dX3_trace_31 : decode cX3_trace 31 = .ok (.getfield 18, 3) := by decide +kernel
theorem dX3_trace_34 : decode cX3_trace 34 = .ok (.iload 4, 2) := by decide +kernel
theorem dX3_trace_36 : decode cX3_trace 36 = .ok (.iaload, 1) := by decide +kernel
theorem dX3_trace_37 : decode cX3_trace 37 = .ok (.istore 4, 2) := by decide +kernel
theorem dX3_trace_39 : decode cX3_trace 39 = .ok (.goto (-34), 3) := by decide +kernel
theorem dX3_trace_42 : decode cX3_trace 42 = .ok (.iload_n 3, 1) := by decide +kernel
theorem dX3_trace_43 : decode cX3_trace 43 = .ok (.ireturn, 1) := by decide +kernel
theorem dJ6_bitCount_0f7a4_0 : decode cJ6_bitCount_0f7a4 0 = .ok (.iload_n 0, 1) := by decide +kernel
theorem dJ6_bitCount_0f7a4_1 : decode cJ6_bitCount_0f7a4 1 = .ok (.iload_n 0, 1) := by decide +kernel
theorem dJ6_bitCount_0f7a4_2 : decode cJ6_bitCount_0f7a4 2 = .ok (.iconst 1, 1) := by decide +kernel
theorem dJ6_bitCount_0f7a4_3 : decode cJ6_bitCount_0f7a4 3 = .ok (.iushr, 1) := by decide +kernel
theorem dJ6_bitCount_0f7a4_4 : decode cJ6_bitCount_0f7a4 4 = .ok (.ldc_w 265, 3) := by decide +kernel
theorem dJ6_bitCount_0f7a4_7 : decode cJ6_bitCount_0f7a4 7 = .ok (.iand, 1) := by decide +kernel
theorem dJ6_bitCount_0f7a4_8 : decode cJ6_bitCount_0f7a4 8 = .ok (.isub, 1) := by decide +kernel
theorem dJ6_bitCount_0f7a4_9 : decode cJ6_bitCount_0f7a4 9 = .ok (.istore_n 0, 1) := by decide +kernel
theorem dJ6_bitCount_0f7a4_10 : decode cJ6_bitCount_0f7a4 10 = .ok (.iload_n 0, 1) := by decide +kernel
theorem dJ6_bitCount_0f7a4_11 : decode cJ6_bitCount_0f7a4 11 = .ok (.ldc_w 266, 3) := by decide +kernel
theorem dJ6_bitCount_0f7a4_14 : decode cJ6_bitCount_0f7a4 14 = .ok (.iand, 1) := by decide +kernel
theorem dJ6_bitCount_0f7a4_15 : decode cJ6_bitCount_0f7a4 15 = .ok (.iload_n 0, 1) := by decide +kernel
theorem dJ6_bitCount_0f7a4_16 : decode cJ6_bitCount_0f7a4 16 = .ok (.iconst 2, 1) := by decide +kernel
theorem dJ6_bitCount_0f7a4_17 : decode cJ6_bitCount_0f7a4 17 = .ok (.iushr, 1) := by decide +kernel
theorem dJ6_bitCount_0f7a4_18 : decode cJ6_bitCount_0f7a4 18 = .ok (.ldc_w 266, 3) := by decide +kernel
theorem dJ6_bitCount_0f7a4_21 : decode cJ6_bitCount_0f7a4 21 = .ok (.iand, 1) := by decide +kernel
theorem dJ6_bitCount_0f7a4_22 : decode cJ6_bitCount_0f7a4 22 = .ok (.iadd, 1) := by decide +kernel
theorem dJ6_bitCount_0f7a4_23 : decode cJ6_bitCount_0f7a4 23 = .ok (.istore_n 0, 1) := by decide +kernel
theorem dJ6_bitCount_0f7a4_24 : decode cJ6_bitCount_0f7a4 24 = .ok (.iload_n 0, 1) := by decide +kernel
theorem dJ6_bitCount_0f7a4_25 : decode cJ6_bitCount_0f7a4 25 = .ok (.iload_n 0, 1) := by decide +kernel
theorem dJ6_bitCount_0f7a4_26 : decode cJ6_bitCount_0f7a4 26 = .ok (.iconst 4, 1) := by decide +kernel
theorem dJ6_bitCount_0f7a4_27 : decode cJ6_bitCount_0f7a4 27 = .ok (.iushr, 1) := by decide +kernel
theorem dJ6_bitCount_0f7a4_28 : decode cJ6_bitCount_0f7a4 28 = .ok (.iadd, 1) := by decide +kernel
theorem dJ6_bitCount_0f7a4_29 : decode cJ6_bitCount_0f7a4 29 = .ok (.ldc_w 267, 3) := by decide +kernel
theorem dJ6_bitCount_0f7a4_32 : decode cJ6_bitCount_0f7a4 32 = .ok (.iand, 1) := by decide +kernel
theorem dJ6_bitCount_0f7a4_33 : decode cJ6_bitCount_0f7a4 33 = .ok (.istore_n 0, 1) := by decide +kernel
theorem dJ6_bitCount_0f7a4_34 : decode cJ6_bitCount_0f7a4 34 = .ok (.iload_n 0, 1) := by decide +kernel
theorem dJ6_bitCount_0f7a4_35 : decode cJ6_bitCount_0f7a4 35 = .ok (.iload_n 0, 1) := by decide +kernel
theorem dJ6_bitCount_0f7a4_36 : decode cJ6_bitCount_0f7a4 36 = .ok (.bipush 8, 2) := by decide +kernel
theorem dJ6_bitCount_0f7a4_38 : decode cJ6_bitCount_0f7a4 38 = .ok (.iushr, 1) := by decide +kernel
theorem dJ6_bitCount_0f7a4_39 : decode cJ6_bitCount_0f7a4 39 = .ok (.iadd, 1) := by decide +kernel
theorem dJ6_bitCount_0f7a4_40 : decode cJ6_bitCount_0f7a4 40 = .ok (.istore_n 0, 1) := by decide +kernel
theorem dJ6_bitCount_0f7a4_41 : decode cJ6_bitCount_0f7a4 41 = .ok (.iload_n 0, 1) := by decide +kernel
theorem dJ6_bitCount_0f7a4_42 : decode cJ6_bitCount_0f7a4 42 = .ok (.iload_n 0, 1) := by decide +kernel
theorem dJ6_bitCount_0f7a4_43 : decode cJ6_bitCount_0f7a4 43 = .ok (.bipush 16, 2) := by decide +kernel
theorem dJ6_bitCount_0f7a4_45 : decode cJ6_bitCount_0f7a4 45 = .ok (.iushr, 1) := by decide +kernel
theorem dJ6_bitCount_0f7a4_46 : decode cJ6_bitCount_0f7a4 46 = .ok (.iadd, 1) := by decide +kernel
theorem dJ6_bitCount_0f7a4_47 : decode cJ6_bitCount_0f7a4 47 = .ok (.istore_n 0, 1) := by decide +kernel
theorem dJ6_bitCount_0f7a4_48 : decode cJ6_bitCount_0f7a4 48 = .ok (.iload_n 0, 1) := by decide +kernel
theorem dJ6_bitCount_0f7a4_49 : decode cJ6_bitCount_0f7a4 49 = .ok (.bipush 63, 2) := by decide +kernel
theorem dJ6_bitCount_0f7a4_51 : decode cJ6_bitCount_0f7a4 51 = .ok (.iand, 1) := by decide +kernel
theorem dJ6_bitCount_0f7a4_52 : decode cJ6_bitCount_0f7a4 52 = .ok (.ireturn, 1) := by decide +kernel
theorem dJ9_max_7cf53_0 : decode cJ9_max_7cf53 0 = .ok (.iload_n 0, 1) := by decide +kernel
theorem dJ9_max_7cf53_1 : decode cJ9_max_7cf53 1 = .ok (.iload_n 1, 1) := by decide +kernel
theorem dJ9_max_7cf53_2 : decode cJ9_max_7cf53 2 = .ok (.if_icmp .lt 7, 3) := by decide +kernel
theorem dJ9_max_7cf53_5 : decode cJ9_max_7cf53 5 = .ok (.iload_n 0, 1) := by decide +kernel
theorem dJ9_max_7cf53_6 : decode cJ9_max_7cf53 6 = .ok (.goto 4, 3) := by decide +kernel
theorem dJ9_max_7cf53_9 : decode cJ9_max_7cf53 9 = .ok (.iload_n 1, 1) := by decide +kernel
theorem dJ9_max_7cf53_10 : decode cJ9_max_7cf53 10 = .ok (.ireturn, 1) := by decide +kernel
theorem dJ9_min_7cf53_0 : decode cJ9_min_7cf53 0 = .ok (.iload_n 0, 1) := by decide +kernel
theorem dJ9_min_7cf53_1 : decode cJ9_min_7cf53 1 = .ok (.iload_n 1, 1) := by decide +kernel
theorem dJ9_min_7cf53_2 : decode cJ9_min_7cf53 2 = .ok (.if_icmp .gt 7, 3) := by decide +kernel
theorem dJ9_min_7cf53_5 : decode cJ9_min_7cf53 5 = .ok (.iload_n 0, 1) := by decide +kernel
theorem dJ9_min_7cf53_6 : decode cJ9_min_7cf53 6 = .ok (.goto 4, 3) := by decide +kernel
theorem dJ9_min_7cf53_9 : decode cJ9_min_7cf53 9 = .ok (.iload_n 1, 1) := by decide +kernel
theorem dJ9_min_7cf53_10 : decode cJ9_min_7cf53 10 = .ok (.ireturn, 1) := by decide +kernel
theorem dJ7_fill_d0a16_0 : decode cJ7_fill_d0a16 0 = .ok (.iconst 0, 1) := by decide +kernel
theorem dJ7_fill_d0a16_1 : decode cJ7_fill_d0a16 1 = .ok (.istore_n 3, 1) := by decide +kernel
theorem dJ7_fill_d0a16_2 : decode cJ7_fill_d0a16 2 = .ok (.aload_n 0, 1) := by decide +kernel
theorem dJ7_fill_d0a16_3 : decode cJ7_fill_d0a16 3 = .ok (.arraylength, 1) := by decide +kernel
theorem dJ7_fill_d0a16_4 : decode cJ7_fill_d0a16 4 = .ok (.istore 4, 2) := by decide +kernel
theorem dJ7_fill_d0a16_6 : decode cJ7_fill_d0a16 6 = .ok (.iload_n 3, 1) := by decide +kernel
theorem dJ7_fill_d0a16_7 : decode cJ7_fill_d0a16 7 = .ok (.iload 4, 2) := by decide +kernel
theorem dJ7_fill_d0a16_9 : decode cJ7_fill_d0a16 9 = .ok (.if_icmp .ge 13, 3) := by decide +kernel
theorem dJ7_fill_d0a16_12 : decode cJ7_fill_d0a16 12 = .ok (.aload_n 0, 1) := by decide +kernel
theorem dJ7_fill_d0a16_13 : decode cJ7_fill_d0a16 13 = .ok (.iload_n 3, 1) := by decide +kernel
theorem dJ7_fill_d0a16_14 : decode cJ7_fill_d0a16 14 = .ok (.lload_n 1, 1) := by decide +kernel
theorem dJ7_fill_d0a16_15 : decode cJ7_fill_d0a16 15 = .ok (.lastore, 1) := by decide +kernel
theorem dJ7_fill_d0a16_16 : decode cJ7_fill_d0a16 16 = .ok (.iinc 3 1, 3) := by decide +kernel
theorem dJ7_fill_d0a16_19 : decode cJ7_fill_d0a16 19 = .ok (.goto (-13), 3) := by decide +kernel
theorem dJ7_fill_d0a16_22 : decode cJ7_fill_d0a16 22 = .ok (.return_, 1) := by decide +kernel
theorem dJ7_fill_53178_0 : decode cJ7_fill_53178 0 = .ok (.iconst 0, 1) := by decide +kernel
theorem dJ7_fill_53178_1 : decode cJ7_fill_53178 1 = .ok (.istore_n 2, 1) := by decide +kernel
theorem dJ7_fill_53178_2 : decode cJ7_fill_53178 2 = .ok (.aload_n 0, 1) := by decide +kernel
theorem dJ7_fill_53178_3 : decode cJ7_fill_53178 3 = .ok (.arraylength, 1) := by decide +kernel
theorem dJ7_fill_53178_4 : decode cJ7_fill_53178 4 = .ok (.istore_n 3, 1) := by decide +kernel
theorem dJ7_fill_53178_5 : decode cJ7_fill_53178 5 = .ok (.iload_n 2, 1) := by decide +kernel
theorem dJ7_fill_53178_6 : decode cJ7_fill_53178 6 = .ok (.iload_n 3, 1) := by decide +kernel
theorem dJ7_fill_53178_7 : decode cJ7_fill_53178 7 = .ok (.if_icmp .ge 13, 3) := by decide +kernel
theorem dJ7_fill_53178_10 : decode cJ7_fill_53178 10 = .ok (.aload_n 0, 1) := by decide +kernel
theorem dJ7_fill_53178_11 : decode cJ7_fill_53178 11 = .ok (.iload_n 2, 1) := by decide +kernel
theorem dJ7_fill_53178_12 : decode cJ7_fill_53178 12 = .ok (.iload_n 1, 1) := by decide +kernel
theorem dJ7_fill_53178_13 : decode cJ7_fill_53178 13 = .ok (.iastore, 1) := by decide +kernel
theorem dJ7_fill_53178_14 : decode cJ7_fill_53178 14 = .ok (.iinc 2 1, 3) := by decide +kernel
theorem dJ7_fill_53178_17 : decode cJ7_fill_53178 17 = .ok (.goto (-12), 3) := by decide +kernel
theorem dJ7_fill_53178_20 : decode cJ7_fill_53178 20 = .ok (.return_, 1) := by decide +kernel
