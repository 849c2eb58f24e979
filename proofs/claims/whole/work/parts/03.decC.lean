theorem dX4_init_0 : decode cX4_init 0 = .ok (.aload_n 0, 1) := by decide +kernel
theorem dX4_init_1 : decode cX4_init 1 = .ok (.invokespecial 1, 3) := by decide +kernel
theorem dX4_init_4 : decode cX4_init 4 = .ok (.aload_n 0, 1) := by decide +kernel
theorem dX4_init_5 : decode cX4_init 5 = .ok (.bipush 30, 2) := by decide +kernel
theorem dX4_init_7 : decode cX4_init 7 = .ok (.anewarray 9, 3) := by decide +kernel
theorem dX4_init_10 : decode cX4_init 10 = .ok (.putfield 11, 3) := by decide +kernel
theorem dX4_init_13 : decode cX4_init 13 = .ok (.aload_n 0, 1) := by decide +kernel
theorem dX4_init_14 : decode cX4_init 14 = .ok (.iconst 0, 1) := by decide +kernel
theorem dX4_init_15 : decode cX4_init 15 = .ok (.putfield 15, 3) := by decide +kernel
theorem dX4_init_18 : decode cX4_init 18 = .ok (.aload_n 0, 1) := by decide +kernel
theorem dX4_init_19 : decode cX4_init 19 = .ok (.new 19, 3) := by decide +kernel
theorem dX4_init_22 : decode cX4_init 22 = .ok (.dup, 1) := by decide +kernel
theorem dX4_init_23 : decode cX4_init 23 = .ok (.invokespecial 21, 3) := by decide +kernel
theorem dX4_init_26 : decode cX4_init 26 = .ok (.putfield 22, 3) := by decide +kernel
theorem dX4_init_29 : decode cX4_init 29 = .ok (.aload_n 0, 1) := by decide +kernel
theorem dX4_init_30 : decode cX4_init 30 = .ok (.new 19, 3) := by decide +kernel
theorem dX4_init_33 : decode cX4_init 33 = .ok (.dup, 1) := by decide +kernel
theorem dX4_init_34 : decode cX4_init 34 = .ok (.invokespecial 21, 3) := by decide +kernel
theorem dX4_init_37 : decode cX4_init 37 = .ok (.putfield 26, 3) := by decide +kernel
theorem dX4_init_40 : decode cX4_init 40 = .ok (.aload_n 0, 1) := by decide +kernel
theorem dX4_init_41 : decode cX4_init 41 = .ok (.aconst_null, 1) := by decide +kernel
theorem dX4_init_42 : decode cX4_init 42 = .ok (.putfield 29, 3) := by decide +kernel
theorem dX4_init_45 : decode cX4_init 45 = .ok (.aload_n 0, 1) := by decide +kernel
theorem dX4_init_46 : decode cX4_init 46 = .ok (.bipush 9, 2) := by decide +kernel
theorem dX4_init_48 : decode cX4_init 48 = .ok (.newarray .int, 2) := by decide +kernel
theorem dX4_init_50 : decode cX4_init 50 = .ok (.putfield 33, 3) := by decide +kernel
theorem dX4_init_53 : decode cX4_init 53 = .ok (.aload_n 0, 1) := by decide +kernel
theorem dX4_init_54 : decode cX4_init 54 = .ok (.bipush 9, 2) := by decide +kernel
theorem dX4_init_56 : decode cX4_init 56 = .ok (.newarray .int, 2) := by decide +kernel
theorem dX4_init_58 : decode cX4_init 58 = .ok (.putfield 37, 3) := by decide +kernel
theorem dX4_init_61 : decode cX4_init 61 = .ok (.aload_n 0, 1) := by decide +kernel
theorem dX4_init_62 : decode cX4_init 62 = .ok (.bipush 9, 2) := by decide +kernel
theorem dX4_init_64 : decode cX4_init 64 = .ok (.newarray .int, 2) := by decide +kernel
theorem dX4_init_66 : decode cX4_init 66 = .ok (.putfield 40, 3) := by decide +kernel
theorem dX4_init_69 : decode cX4_init 69 = .ok (.aload_n 0, 1) := by decide +kernel
theorem dX4_init_70 : decode cX4_init 70 = .ok (.bipush 64, 2) := by decide +kernel
theorem dX4_init_72 : decode cX4_init 72 = .ok (.newarray .long, 2) := by decide +kernel
theorem dX4_init_74 : decode cX4_init 74 = .ok (.putfield 43, 3) := by decide +kernel
theorem dX4_init_77 : decode cX4_init 77 = .ok (.aload_n 0, 1) := by decide +kernel
theorem dX4_init_78 : decode cX4_init 78 = .ok (.bipush 12, 2) := by decide +kernel
theorem dX4_init_80 : decode cX4_init 80 = .ok (.newarray .int, 2) := by decide +kernel
theorem dX4_init_82 : decode cX4_init 82 = .ok (.putfield 47, 3) := by decide +kernel
theorem dX4_init_85 : decode cX4_init 85 = .ok (.aload_n 0, 1) := by decide +kernel
theorem dX4_init_86 : decode cX4_init 86 = .ok (.iconst 0, 1) := by decide +kernel
theorem dX4_init_87 : decode cX4_init 87 = .ok (.putfield 50, 3) := by decide +kernel
theorem dX4_init_90 : decode cX4_init 90 = .ok (.aload_n 0, 1) := by decide +kernel
theorem dX4_init_91 : decode cX4_init 91 = .ok (.new 53, 3) := by decide +kernel
theorem dX4_init_94 : decode cX4_init 94 = .ok (.dup, 1) := by decide +kernel
theorem dX4_init_95 : decode cX4_init 95 = .ok (.invokespecial 55, 3) := by decide +kernel
theorem dX4_init_98 : decode cX4_init 98 = .ok (.putfield 56, 3) := by decide +kernel
theorem dX4_init_101 : decode cX4_init 101 = .ok (.aload_n 0, 1) := by decide +kernel
theorem dX4_init_102 : decode cX4_init 102 = .ok (.new 60, 3) := by decide +kernel
theorem dX4_init_105 : decode cX4_init 105 = .ok (.dup, 1) := by decide +kernel
theorem dX4_init_106 : decode cX4_init 106 = .ok (.invokespecial 62, 3) := by decide +kernel
theorem dX4_init_109 : decode cX4_init 109 = .ok (.putfield 63, 3) := by decide +kernel
theorem dX4_init_112 : decode cX4_init 112 = .ok (.aload_n 0, 1) := by decide +kernel
theorem dX4_init_113 : decode cX4_init 113 = .ok (.bipush 8, 2) := by decide +kernel
theorem dX4_init_115 : decode cX4_init 115 = .ok (.newarray .int, 2) := by decide +kernel
theorem dX4_init_117 : decode cX4_init 117 = .ok (.putfield 67, 3) := by decide +kernel
theorem dX4_init_120 : decode cX4_init 120 = .ok (.aload_n 0, 1) := by decide +kernel
theorem dX4_init_121 : decode cX4_init 121 = .ok (.iconst 0, 1) := by decide +kernel
theorem dX4_init_122 : decode cX4_init 122 = .ok (.putfield 70, 3) := by decide +kernel
theorem dX4_init_125 : decode cX4_init 125 = .ok (.return_, 1) := by decide +kernel
theorem dX4_strip_0 : decode cX4_strip 0 = .ok (.iload_n 1, 1) := by decide +kernel
theorem dX4_strip_1 : decode cX4_strip 1 = .ok (.iconst 1, 1) := by decide +kernel
theorem dX4_strip_2 : decode cX4_strip 2 = .ok (.if_icmp .lt 9, 3) := by decide +kernel
theorem dX4_strip_5 : decode cX4_strip 5 = .ok (.iload_n 1, 1) := by decide +kernel
theorem dX4_strip_6 : decode cX4_strip 6 = .ok (.bipush 9, 2) := by decide +kernel
theorem dX4_strip_8 : decode cX4_strip 8 = .ok (.if_icmp .le 8, 3) := by decide +kernel
theorem dX4_strip_11 : decode cX4_strip 11 = .ok (.bipush (-102), 2) := by decide +kernel
theorem dX4_strip_13 : decode cX4_strip 13 = .ok (.goto 10, 3) := by decide +kernel
theorem dX4_strip_16 : decode cX4_strip 16 = .ok (.aload_n 0, 1) := by decide +kernel
theorem dX4_strip_17 : decode cX4_strip 17 = .ok (.iconst 0, 1) := by decide +kernel
theorem dX4_strip_18 : decode cX4_strip 18 = .ok (.iconst 1, 1) := by decide +kernel
theorem dX4_strip_19 : decode cX4_strip 19 = .ok (.iload_n 1, 1) := by decide +kernel
theorem dX4_strip_20 : decode cX4_strip 20 = .ok (.invokevirtual 73, 3) := by decide +kernel
theorem dX4_strip_23 : decode cX4_strip 23 = .ok (.ireturn, 1) := by decide +kernel
theorem dX4_corner_0 : decode cX4_corner 0 = .ok (.iload_n 1, 1) := by decide +kernel
theorem dX4_corner_1 : decode cX4_corner 1 = .ok (.iconst 2, 1) := by decide +kernel
theorem dX4_corner_2 : decode cX4_corner 2 = .ok (.if_icmp .lt 9, 3) := by decide +kernel
theorem dX4_corner_5 : decode cX4_corner 5 = .ok (.iload_n 1, 1) := by decide +kernel
theorem dX4_corner_6 : decode cX4_corner 6 = .ok (.bipush 9, 2) := by decide +kernel
theorem dX4_corner_8 : decode cX4_corner 8 = .ok (.if_icmp .le 8, 3) := by decide +kernel
theorem dX4_corner_11 : decode cX4_corner 11 = .ok (.bipush (-102), 2) := by decide +kernel
theorem dX4_corner_13 : decode cX4_corner 13 = .ok (.goto 10, 3) := by decide +kernel
theorem dX4_corner_16 : decode cX4_corner 16 = .ok (.aload_n 0, 1) := by decide +kernel
theorem dX4_corner_17 : decode cX4_corner 17 = .ok (.iconst 1, 1) := by decide +kernel
theorem dX4_corner_18 : decode cX4_corner 18 = .ok (.iconst 1, 1) := by decide +kernel
theorem dX4_corner_19 : decode cX4_corner 19 = .ok (.iload_n 1, 1) := by decide +kernel
theorem dX4_corner_20 : decode cX4_corner 20 = .ok (.invokevirtual 73, 3) := by decide +kernel
theorem dX4_corner_23 : decode cX4_corner 23 = .ok (.ireturn, 1) := by decide +kernel
theorem dX4_map_0 : decode cX4_map 0 = .ok (.iload_n 1, 1) := by decide +kernel
theorem dX4_map_1 : decode cX4_map 1 = .ok (.iconst 1, 1) := by decide +kernel
theorem dX4_map_2 : decode cX4_map 2 = .ok (.if_icmp .lt 20, 3) := by decide +kernel
theorem dX4_map_5 : decode cX4_map 5 = .ok (.iload_n 2, 1) := by decide +kernel
theorem dX4_map_6 : decode cX4_map 6 = .ok (.iconst 1, 1) := by decide +kernel
theorem dX4_map_7 : decode cX4_map 7 = .ok (.if_icmp .lt 15, 3) := by decide +kernel
theorem dX4_map_10 : decode cX4_map 10 = .ok (.iload_n 1, 1) := by decide +kernel
theorem dX4_map_11 : decode cX4_map 11 = .ok (.bipush 9, 2) := by decide +kernel
theorem dX4_map_13 : decode cX4_map 13 = .ok (.if_icmp .gt 9, 3) := by decide +kernel
theorem dX4_map_16 : decode cX4_map 16 = .ok (.iload_n 2, 1) := by decide +kernel
theorem dX4_map_17 : decode cX4_map 17 = .ok (.bipush 9, 2) := by decide +kernel
theorem dX4_map_19 : decode cX4_map 19 = .ok (.if_icmp .le 6, 3) := by decide +kernel
theorem dX4_map_22 : decode cX4_map 22 = .ok (.bipush (-102), 2) := by decide +kernel
theorem dX4_map_24 : decode cX4_map 24 = .ok (.ireturn, 1) := by decide +kernel
theorem dX4_map_25 : decode cX4_map 25 = .ok (.iload_n 1, 1) := by decide +kernel
theorem dX4_map_26 : decode cX4_map 26 = .ok (.iload_n 2, 1) := by decide +kernel
theorem dX4_map_27 : decode cX4_map 27 = .ok (.imul, 1) := by decide +kernel
theorem dX4_map_28 : decode cX4_map 28 = .ok (.bipush 9, 2) := by decide +kernel
theorem dX4_map_30 : decode cX4_map 30 = .ok (.if_icmp .le 8, 3) := by decide +kernel
theorem dX4_map_33 : decode cX4_map 33 = .ok (.bipush (-102), 2) := by decide +kernel
theorem dX4_map_35 : decode cX4_map 35 = .ok (.goto 10, 3) := by decide +kernel
theorem dX4_map_38 : decode cX4_map 38 = .ok (.aload_n 0, 1) := by decide +kernel
theorem dX4_map_39 : decode cX4_map 39 = .ok (.iconst 2, 1) := by decide +kernel
theorem dX4_map_40 : decode cX4_map 40 = .ok (.iload_n 1, 1) := by decide +kernel
theorem dX4_map_41 : decode cX4_map 41 = .ok (.iload_n 2, 1) := by decide +kernel
theorem dX4_map_42 : decode cX4_map 42 = .ok (.invokevirtual 73, 3) := by decide +kernel
theorem dX4_map_45 : decode cX4_map 45 = .ok (.ireturn, 1) := by decide +kernel
theorem dX4_length_0 : decode cX4_length 0 = .ok (.aload_n 0, 1) := by decide +kernel
theorem dX4_length_1 : decode cX4_length 1 = .ok (.iload_n 1, 1) := by decide +kernel
theorem dX4_length_2 : decode cX4_length 2 = .ok (.invokevirtual 77, 3) := by decide +kernel
theorem dX4_length_5 : decode cX4_length 5 = .ok (.astore 4, 2) := by decide +kernel
theorem dX4_length_7 : decode cX4_length 7 = .ok (.aload 4, 2) := by decide +kernel
theorem dX4_length_9 : decode cX4_length 9 = .ok (.ifnull 12, 3) := by decide +kernel
theorem dX4_length_12 : decode cX4_length 12 = .ok (.aload 4, 2) := by decide +kernel
theorem dX4_length_14 : decode cX4_length 14 = .ok (.iload_n 2, 1) := by decide +kernel
theorem dX4_length_15 : decode cX4_length 15 = .ok (.invokevirtual 81, 3) := by decide +kernel
theorem dX4_length_18 : decode cX4_length 18 = .ok (.ifCond .ne 6, 3) := by decide +kernel
theorem dX4_length_21 : decode cX4_length 21 = .ok (.bipush (-101), 2) := by decide +kernel
theorem dX4_length_23 : decode cX4_length 23 = .ok (.ireturn, 1) := by decide +kernel
theorem dX4_length_24 : decode cX4_length 24 = .ok (.iload_n 3, 1) := by decide +kernel
theorem dX4_length_25 : decode cX4_length 25 = .ok (.iconst 1, 1) := by decide +kernel
theorem dX4_length_26 : decode cX4_length 26 = .ok (.if_icmp .lt 10, 3) := by decide +kernel
theorem dX4_length_29 : decode cX4_length 29 = .ok (.iload_n 3, 1) := by decide +kernel
theorem dX4_length_30 : decode cX4_length 30 = .ok (.sipush 1000, 3) := by decide +kernel
theorem dX4_length_33 : decode cX4_length 33 = .ok (.if_icmp .le 6, 3) := by decide +kernel
theorem dX4_length_36 : decode cX4_length 36 = .ok (.bipush (-102), 2) := by decide +kernel
theorem dX4_length_38 : decode cX4_length 38 = .ok (.ireturn, 1) := by decide +kernel
theorem dX4_length_39 : decode cX4_length 39 = .ok (.aload 4, 2) := by decide +kernel
theorem dX4_length_41 : decode cX4_length 41 = .ok (.getfield 85, 3) := by decide +kernel
theorem dX4_length_44 : decode cX4_length 44 = .ok (.iconst 2, 1) := by decide +kernel
theorem dX4_length_45 : decode cX4_length 45 = .ok (.if_icmp .ne 6, 3) := by decide +kernel
theorem dX4_length_48 : decode cX4_length 48 = .ok (.bipush (-103), 2) := by decide +kernel
theorem dX4_length_50 : decode cX4_length 50 = .ok (.ireturn, 1) := by decide +kernel
theorem dX4_length_51 : decode cX4_length 51 = .ok (.aload 4, 2) := by decide +kernel
theorem dX4_length_53 : decode cX4_length 53 = .ok (.getfield 88, 3) := by decide +kernel
theorem dX4_length_56 : decode cX4_length 56 = .ok (.iload_n 2, 1) := by decide +kernel
theorem dX4_length_57 : decode cX4_length 57 = .ok (.iaload, 1) := by decide +kernel
theorem dX4_length_58 : decode cX4_length 58 = .ok (.istore 5, 2) := by decide +kernel
theorem dX4_length_60 : decode cX4_length 60 = .ok (.aload 4, 2) := by decide +kernel
theorem dX4_length_62 : decode cX4_length 62 = .ok (.getfield 88, 3) := by decide +kernel
theorem dX4_length_65 : decode cX4_length 65 = .ok (.iload_n 2, 1) := by decide +kernel
theorem dX4_length_66 : decode cX4_length 66 = .ok (.iload_n 3, 1) := by decide +kernel
theorem dX4_length_67 : decode cX4_length 67 = .ok (.iastore, 1) := by decide +kernel
theorem dX4_length_68 : decode cX4_length 68 = .ok (.aload 4, 2) := by decide +kernel
theorem dX4_length_70 : decode cX4_length 70 = .ok (.invokevirtual 91, 3) := by decide +kernel
theorem dX4_length_73 : decode cX4_length 73 = .ok (.iload 5, 2) := by decide +kernel
theorem dX4_length_75 : decode cX4_length 75 = .ok (.ireturn, 1) := by decide +kernel
theorem dX4_mark_0 : decode cX4_mark 0 = .ok (.aload_n 0, 1) := by decide +kernel
theorem dX4_mark_1 : decode cX4_mark 1 = .ok (.iload_n 1, 1) := by decide +kernel
theorem dX4_mark_2 : decode cX4_mark 2 = .ok (.invokevirtual 77, 3) := by decide +kernel
theorem dX4_mark_5 : decode cX4_mark 5 = .ok (.astore 4, 2) := by decide +kernel
theorem dX4_mark_7 : decode cX4_mark 7 = .ok (.aload 4, 2) := by decide +kernel
theorem dX4_mark_9 : decode cX4_mark 9 = .ok (.ifnull 12, 3) := by decide +kernel
theorem dX4_mark_12 : decode cX4_mark 12 = .ok (.aload 4, 2) := by decide +kernel
theorem dX4_mark_14 : decode cX4_mark 14 = .ok (.iload_n 2, 1) := by decide +kernel
theorem dX4_mark_15 : decode cX4_mark 15 = .ok (.invokevirtual 94, 3) := by decide +kernel
theorem dX4_mark_18 : decode cX4_mark 18 = .ok (.ifCond .ne 6, 3) := by decide +kernel
theorem dX4_mark_21 : decode cX4_mark 21 = .ok (.bipush (-101), 2) := by decide +kernel
theorem dX4_mark_23 : decode cX4_mark 23 = .ok (.ireturn, 1) := by decide +kernel
theorem dX4_mark_24 : decode cX4_mark 24 = .ok (.iload_n 3, 1) := by decide +kernel
theorem dX4_mark_25 : decode cX4_mark 25 = .ok (.ifCond .lt 8, 3) := by decide +kernel
theorem dX4_mark_28 : decode cX4_mark 28 = .ok (.iload_n 3, 1) := by decide +kernel
theorem dX4_mark_29 : decode cX4_mark 29 = .ok (.iconst 2, 1) := by decide +kernel
theorem dX4_mark_30 : decode cX4_mark 30 = .ok (.if_icmp .le 6, 3) := by decide +kernel
theorem dX4_mark_33 : decode cX4_mark 33 = .ok (.bipush (-102), 2) := by decide +kernel
theorem dX4_mark_35 : decode cX4_mark 35 = .ok (.ireturn, 1) := by decide +kernel
theorem dX4_mark_36 : decode cX4_mark 36 = .ok (.aload 4, 2) := by decide +kernel
theorem dX4_mark_38 : decode cX4_mark 38 = .ok (.getfield 97, 3) := by decide +kernel
theorem dX4_mark_41 : decode cX4_mark 41 = .ok (.iload_n 2, 1) := by decide +kernel
theorem dX4_mark_42 : decode cX4_mark 42 = .ok (.iaload, 1) := by decide +kernel
theorem dX4_mark_43 : decode cX4_mark 43 = .ok (.istore 5, 2) := by decide +kernel
theorem dX4_mark_45 : decode cX4_mark 45 = .ok (.aload 4, 2) := by decide +kernel
theorem dX4_mark_47 : decode cX4_mark 47 = .ok (.getfield 97, 3) := by decide +kernel
theorem dX4_mark_50 : decode cX4_mark 50 = .ok (.iload_n 2, 1) := by decide +kernel
theorem dX4_mark_51 : decode cX4_mark 51 = .ok (.iload_n 3, 1) := by decide +kernel
theorem dX4_mark_52 : decode cX4_mark 52 = .ok (.iastore, 1) := by decide +kernel
theorem dX4_mark_53 : decode cX4_mark 53 = .ok (.iload 5, 2) := by decide +kernel
theorem dX4_mark_55 : decode cX4_mark 55 = .ok (.ireturn, 1) := by decide +kernel
theorem dX4_about_0 : decode cX4_about 0 = .ok (.aload_n 0, 1) := by decide +kernel
theorem dX4_about_1 : decode cX4_about 1 = .ok (.iload_n 1, 1) := by decide +kernel
theorem dX4_about_2 : decode cX4_about 2 = .ok (.invokevirtual 77, 3) := by decide +kernel
theorem dX4_about_5 : decode cX4_about 5 = .ok (.astore_n 3, 1) := by decide +kernel
theorem dX4_about_6 : decode cX4_about 6 = .ok (.aload_n 3, 1) := by decide +kernel
theorem dX4_about_7 : decode cX4_about 7 = .ok (.ifnonnull 6, 3) := by decide +kernel
theorem dX4_about_10 : decode cX4_about 10 = .ok (.bipush (-101), 2) := by decide +kernel
theorem dX4_about_12 : decode cX4_about 12 = .ok (.ireturn, 1) := by decide +kernel
theorem dX4_about_13 : decode cX4_about 13 = .ok (.iload_n 2, 1) := by decide +kernel
theorem dX4_about_14 : decode cX4_about 14 = .ok (.tableswitch 93 0 5 #[38, 43, 48, 53, 62, 71], 38) := by decide +kernel
theorem dX4_about_52 : decode cX4_about 52 = .ok (.aload_n 3, 1) := by decide +kernel
theorem dX4_about_53 : decode cX4_about 53 = .ok (.getfield 85, 3) := by decide +kernel
theorem dX4_about_56 : decode cX4_about 56 = .ok (.ireturn, 1) := by decide +kernel
theorem dX4_about_57 : decode cX4_about 57 = .ok (.aload_n 3, 1) := by decide +kernel
theorem dX4_about_58 : decode cX4_about 58 = .ok (.getfield 100, 3) := by decide +kernel
theorem dX4_about_61 : decode cX4_about 61 = .ok (.ireturn, 1) := by decide +kernel
theorem dX4_about_62 : decode cX4_about 62 = .ok (.aload_n 3, 1) := by decide +kernel
theorem dX4_about_63 : decode cX4_about 63 = .ok (.getfield 103, 3) := by decide +kernel
theorem dX4_about_66 : decode cX4_about 66 = .ok (.ireturn, 1) := by decide +kernel
theorem dX4_about_67 : decode cX4_about 67 = .ok (.aload_n 3, 1) := by decide +kernel
theorem dX4_about_68 : decode cX4_about 68 = .ok (.iconst 1, 1) := by decide +kernel
theorem dX4_about_69 : decode cX4_about 69 = .ok (.invokevirtual 106, 3) := by decide +kernel
theorem dX4_about_72 : decode cX4_about 72 = .ok (.invokestatic 110, 3) := by decide +kernel
theorem dX4_about_75 : decode cX4_about 75 = .ok (.ireturn, 1) := by decide +kernel
theorem dX4_about_76 : decode cX4_about 76 = .ok (.aload_n 3, 1) := by decide +kernel
theorem dX4_about_77 : decode cX4_about 77 = .ok (.iconst 2, 1) := by decide +kernel
theorem dX4_about_78 : decode cX4_about 78 = .ok (.invokevirtual 106, 3) := by decide +kernel
theorem dX4_about_81 : decode cX4_about 81 = .ok (.invokestatic 110, 3) := by decide +kernel
theorem dX4_about_84 : decode cX4_about 84 = .ok (.ireturn, 1) := by decide +kernel
theorem dX4_about_85 : decode cX4_about 85 = .ok (.aload_n 3, 1) := by decide +kernel
theorem dX4_about_86 : decode cX4_about 86 = .ok (.getfield 85, 3) := by decide +kernel
theorem dX4_about_89 : decode cX4_about 89 = .ok (.iconst 1, 1) := by decide +kernel
theorem dX4_about_90 : decode cX4_about 90 = .ok (.if_icmp .ne 15, 3) := by decide +kernel
theorem dX4_about_93 : decode cX4_about 93 = .ok (.aload_n 3, 1) := by decide +kernel
theorem dX4_about_94 : decode cX4_about 94 = .ok (.getfield 115, 3) := by decide +kernel
theorem dX4_about_97 : decode cX4_about 97 = .ok (.aload_n 3, 1) := by decide +kernel
theorem dX4_about_98 : decode cX4_about 98 = .ok (.getfield 100, 3) := by decide +kernel
theorem dX4_about_101 : decode cX4_about 101 = .ok (.iaload, 1) := by decide +kernel
theorem dX4_about_102 : decode cX4_about 102 = .ok (.goto 4, 3) := by decide +kernel
theorem dX4_about_105 : decode cX4_about 105 = .ok (.iconst 0, 1) := by decide +kernel
theorem dX4_about_106 : decode cX4_about 106 = .ok (.ireturn, 1) := by decide +kernel
theorem dX4_about_107 : decode cX4_about 107 = .ok (.bipush (-102), 2) := by decide +kernel
theorem dX4_about_109 : decode cX4_about 109 = .ok (.ireturn, 1) := by decide +kernel
theorem dX4_crease_0 : decode cX4_crease 0 = .ok (.aload_n 0, 1) := by decide +kernel
theorem dX4_crease_1 : decode cX4_crease 1 = .ok (.iload_n 1, 1) := by decide +kernel
theorem dX4_crease_2 : decode cX4_crease 2 = .ok (.invokevirtual 77, 3) := by decide +kernel
theorem dX4_crease_5 : decode cX4_crease 5 = .ok (.astore 4, 2) := by decide +kernel
theorem dX4_crease_7 : decode cX4_crease 7 = .ok (.aload 4, 2) := by decide +kernel
theorem dX4_crease_9 : decode cX4_crease 9 = .ok (.ifnull 12, 3) := by decide +kernel
theorem dX4_crease_12 : decode cX4_crease 12 = .ok (.aload 4, 2) := by decide +kernel
theorem dX4_crease_14 : decode cX4_crease 14 = .ok (.iload_n 2, 1) := by decide +kernel
theorem dX4_crease_15 : decode cX4_crease 15 = .ok (.invokevirtual 94, 3) := by decide +kernel
theorem dX4_crease_18 : decode cX4_crease 18 = .ok (.ifCond .ne 6, 3) := by decide +kernel
theorem dX4_crease_21 : decode cX4_crease 21 = .ok (.bipush (-101), 2) := by decide +kernel
theorem dX4_crease_23 : decode cX4_crease 23 = .ok (.ireturn, 1) := by decide +kernel
theorem dX4_crease_24 : decode cX4_crease 24 = .ok (.iload_n 3, 1) := by decide +kernel
theorem dX4_crease_25 : decode cX4_crease 25 = .ok (.tableswitch 63 0 3 #[31, 39, 47, 55], 31) := by decide +kernel
theorem dX4_crease_56 : decode cX4_crease 56 = .ok (.aload 4, 2) := by decide +kernel
theorem dX4_crease_58 : decode cX4_crease 58 = .ok (.getfield 118, 3) := by decide +kernel
theorem dX4_crease_61 : decode cX4_crease 61 = .ok (.iload_n 2, 1) := by decide +kernel
theorem dX4_crease_62 : decode cX4_crease 62 = .ok (.iaload, 1) := by decide +kernel
theorem dX4_crease_63 : decode cX4_crease 63 = .ok (.ireturn, 1) := by decide +kernel
theorem dX4_crease_64 : decode cX4_crease 64 = .ok (.aload 4, 2) := by decide +kernel
theorem dX4_crease_66 : decode cX4_crease 66 = .ok (.getfield 121, 3) := by decide +kernel
theorem dX4_crease_69 : decode cX4_crease 69 = .ok (.iload_n 2, 1) := by decide +kernel
theorem dX4_crease_70 : decode cX4_crease 70 = .ok (.iaload, 1) := by decide +kernel
theorem dX4_crease_71 : decode cX4_crease 71 = .ok (.ireturn, 1) := by decide +kernel
theorem dX4_crease_72 : decode cX4_crease 72 = .ok (.aload 4, 2) := by decide +kernel
theorem dX4_crease_74 : decode cX4_crease 74 = .ok (.getfield 97, 3) := by decide +kernel
theorem dX4_crease_77 : decode cX4_crease 77 = .ok (.iload_n 2, 1) := by decide +kernel
theorem dX4_crease_78 : decode cX4_crease 78 = .ok (.iaload, 1) := by decide +kernel
theorem dX4_crease_79 : decode cX4_crease 79 = .ok (.ireturn, 1) := by decide +kernel
theorem dX4_crease_80 : decode cX4_crease 80 = .ok (.aload 4, 2) := by decide +kernel
theorem dX4_crease_82 : decode cX4_crease 82 = .ok (.getfield 124, 3) := by decide +kernel
theorem dX4_crease_85 : decode cX4_crease 85 = .ok (.iload_n 2, 1) := by decide +kernel
theorem dX4_crease_86 : decode cX4_crease 86 = .ok (.iaload, 1) := by decide +kernel
theorem dX4_crease_87 : decode cX4_crease 87 = .ok (.ireturn, 1) := by decide +kernel
theorem dX4_crease_88 : decode cX4_crease 88 = .ok (.bipush (-102), 2) := by decide +kernel
theorem dX4_crease_90 : decode cX4_crease 90 = .ok (.ireturn, 1) := by decide +kernel
theorem dX4_judge_0 : decode cX4_judge 0 = .ok (.aload_n 0, 1) := by decide +kernel
theorem dX4_judge_1 : decode cX4_judge 1 = .ok (.iload_n 1, 1) := by decide +kernel
theorem dX4_judge_2 : decode cX4_judge 2 = .ok (.invokevirtual 77, 3) := by decide +kernel
theorem dX4_judge_5 : decode cX4_judge 5 = .ok (.astore_n 2, 1) := by decide +kernel
theorem dX4_judge_6 : decode cX4_judge 6 = .ok (.aload_n 2, 1) := by decide +kernel
theorem dX4_judge_7 : decode cX4_judge 7 = .ok (.ifnonnull 6, 3) := by decide +kernel
theorem dX4_judge_10 : decode cX4_judge 10 = .ok (.bipush (-101), 2) := by decide +kernel
theorem dX4_judge_12 : decode cX4_judge 12 = .ok (.ireturn, 1) := by decide +kernel
theorem dX4_judge_13 : decode cX4_judge 13 = .ok (.aload_n 0, 1) := by decide +kernel
theorem dX4_judge_14 : decode cX4_judge 14 = .ok (.getfield 22, 3) := by decide +kernel
theorem dX4_judge_17 : decode cX4_judge 17 = .ok (.aload_n 2, 1) := by decide +kernel
theorem dX4_judge_18 : decode cX4_judge 18 = .ok (.invokevirtual 127, 3) := by decide +kernel
theorem dX4_judge_21 : decode cX4_judge 21 = .ok (.aload_n 0, 1) := by decide +kernel
theorem dX4_judge_22 : decode cX4_judge 22 = .ok (.getfield 22, 3) := by decide +kernel
theorem dX4_judge_25 : decode cX4_judge 25 = .ok (.invokevirtual 131, 3) := by decide +kernel
theorem dX4_judge_28 : decode cX4_judge 28 = .ok (.ifCond .ne 5, 3) := by decide +kernel
theorem dX4_judge_31 : decode cX4_judge 31 = .ok (.iconst 0, 1) := by decide +kernel
theorem dX4_judge_32 : decode cX4_judge 32 = .ok (.ireturn, 1) := by decide +kernel
theorem dX4_judge_33 : decode cX4_judge 33 = .ok (.aload_n 0, 1) := by decide +kernel
theorem dX4_judge_34 : decode cX4_judge 34 = .ok (.aload_n 2, 1) := by decide +kernel
theorem dX4_judge_35 : decode cX4_judge 35 = .ok (.putfield 29, 3) := by decide +kernel
theorem dX4_judge_38 : decode cX4_judge 38 = .ok (.aload_n 0, 1) := by decide +kernel
theorem dX4_judge_39 : decode cX4_judge 39 = .ok (.getfield 22, 3) := by decide +kernel
theorem dX4_judge_42 : decode cX4_judge 42 = .ok (.getfield 135, 3) := by decide +kernel
theorem dX4_judge_45 : decode cX4_judge 45 = .ok (.iconst 0, 1) := by decide +kernel
theorem dX4_judge_46 : decode cX4_judge 46 = .ok (.aload_n 0, 1) := by decide +kernel
theorem dX4_judge_47 : decode cX4_judge 47 = .ok (.getfield 33, 3) := by decide +kernel
theorem dX4_judge_50 : decode cX4_judge 50 = .ok (.iconst 0, 1) := by decide +kernel
theorem dX4_judge_51 : decode cX4_judge 51 = .ok (.bipush 9, 2) := by decide +kernel
theorem dX4_judge_53 : decode cX4_judge 53 = .ok (.invokestatic 138, 3) := by decide +kernel
theorem dX4_judge_56 : decode cX4_judge 56 = .ok (.aload_n 0, 1) := by decide +kernel
theorem dX4_judge_57 : decode cX4_judge 57 = .ok (.getfield 22, 3) := by decide +kernel
theorem dX4_judge_60 : decode cX4_judge 60 = .ok (.getfield 144, 3) := by decide +kernel
theorem dX4_judge_63 : decode cX4_judge 63 = .ok (.iconst 0, 1) := by decide +kernel
theorem dX4_judge_64 : decode cX4_judge 64 = .ok (.aload_n 0, 1) := by decide +kernel
theorem dX4_judge_65 : decode cX4_judge 65 = .ok (.getfield 37, 3) := by decide +kernel
theorem dX4_judge_68 : decode cX4_judge 68 = .ok (.iconst 0, 1) := by decide +kernel
theorem dX4_judge_69 : decode cX4_judge 69 = .ok (.bipush 9, 2) := by decide +kernel
theorem dX4_judge_71 : decode cX4_judge 71 = .ok (.invokestatic 138, 3) := by decide +kernel
theorem dX4_judge_74 : decode cX4_judge 74 = .ok (.iconst 1, 1) := by decide +kernel
theorem dX4_judge_75 : decode cX4_judge 75 = .ok (.ireturn, 1) := by decide +kernel
theorem dX4_layer_0 : decode cX4_layer 0 = .ok (.aload_n 0, 1) := by decide +kernel
theorem dX4_layer_1 : decode cX4_layer 1 = .ok (.getfield 29, 3) := by decide +kernel
theorem dX4_layer_4 : decode cX4_layer 4 = .ok (.ifnonnull 6, 3) := by decide +kernel
theorem dX4_layer_7 : decode cX4_layer 7 = .ok (.bipush (-103), 2) := by decide +kernel
theorem dX4_layer_9 : decode cX4_layer 9 = .ok (.ireturn, 1) := by decide +kernel
theorem dX4_layer_10 : decode cX4_layer 10 = .ok (.iload_n 1, 1) := by decide +kernel
theorem dX4_layer_11 : decode cX4_layer 11 = .ok (.ifCond .lt 14, 3) := by decide +kernel
theorem dX4_layer_14 : decode cX4_layer 14 = .ok (.iload_n 1, 1) := by decide +kernel
theorem dX4_layer_15 : decode cX4_layer 15 = .ok (.aload_n 0, 1) := by decide +kernel
theorem dX4_layer_16 : decode cX4_layer 16 = .ok (.getfield 29, 3) := by decide +kernel
theorem dX4_layer_19 : decode cX4_layer 19 = .ok (.getfield 100, 3) := by decide +kernel
theorem dX4_layer_22 : decode cX4_layer 22 = .ok (.if_icmp .lt 8, 3) := by decide +kernel
theorem dX4_layer_25 : decode cX4_layer 25 = .ok (.bipush (-102), 2) := by decide +kernel
theorem dX4_layer_27 : decode cX4_layer 27 = .ok (.goto 9, 3) := by decide +kernel
theorem dX4_layer_30 : decode cX4_layer 30 = .ok (.aload_n 0, 1) := by decide +kernel
theorem dX4_layer_31 : decode cX4_layer 31 = .ok (.getfield 33, 3) := by decide +kernel
theorem dX4_layer_34 : decode cX4_layer 34 = .ok (.iload_n 1, 1) := by decide +kernel
theorem dX4_layer_35 : decode cX4_layer 35 = .ok (.iaload, 1) := by decide +kernel
theorem dX4_layer_36 : decode cX4_layer 36 = .ok (.ireturn, 1) := by decide +kernel
theorem dX4_turned_0 : decode cX4_turned 0 = .ok (.aload_n 0, 1) := by decide +kernel
theorem dX4_turned_1 : decode cX4_turned 1 = .ok (.getfield 29, 3) := by decide +kernel
theorem dX4_turned_4 : decode cX4_turned 4 = .ok (.ifnonnull 6, 3) := by decide +kernel
theorem dX4_turned_7 : decode cX4_turned 7 = .ok (.bipush (-103), 2) := by decide +kernel
theorem dX4_turned_9 : decode cX4_turned 9 = .ok (.ireturn, 1) := by decide +kernel
theorem dX4_turned_10 : decode cX4_turned 10 = .ok (.aload_n 0, 1) := by decide +kernel
theorem dX4_turned_11 : decode cX4_turned 11 = .ok (.getfield 29, 3) := by decide +kernel
theorem dX4_turned_14 : decode cX4_turned 14 = .ok (.iload_n 1, 1) := by decide +kernel
theorem dX4_turned_15 : decode cX4_turned 15 = .ok (.invokevirtual 94, 3) := by decide +kernel
theorem dX4_turned_18 : decode cX4_turned 18 = .ok (.ifCond .eq 18, 3) := by decide +kernel
theorem dX4_turned_21 : decode cX4_turned 21 = .ok (.aload_n 0, 1) := by decide +kernel
theorem dX4_turned_22 : decode cX4_turned 22 = .ok (.getfield 29, 3) := by decide +kernel
theorem dX4_turned_25 : decode cX4_turned 25 = .ok (.iload_n 1, 1) := by decide +kernel
theorem dX4_turned_26 : decode cX4_turned 26 = .ok (.aload_n 0, 1) := by decide +kernel
theorem dX4_turned_27 : decode cX4_turned 27 = .ok (.getfield 37, 3) := by decide +kernel
theorem dX4_turned_30 : decode cX4_turned 30 = .ok (.invokevirtual 147, 3) := by decide +kernel
theorem dX4_turned_33 : decode cX4_turned 33 = .ok (.goto 5, 3) := by decide +kernel
theorem dX4_turned_36 : decode cX4_turned 36 = .ok (.bipush (-101), 2) := by decide +kernel
theorem dX4_turned_38 : decode cX4_turned 38 = .ok (.ireturn, 1) := by decide +kernel
theorem dX4_orders_0 : decode cX4_orders 0 = .ok (.aload_n 0, 1) := by decide +kernel
theorem dX4_orders_1 : decode cX4_orders 1 = .ok (.iload_n 1, 1) := by decide +kernel
theorem dX4_orders_2 : decode cX4_orders 2 = .ok (.invokevirtual 77, 3) := by decide +kernel
theorem dX4_orders_5 : decode cX4_orders 5 = .ok (.astore_n 2, 1) := by decide +kernel
theorem dX4_orders_6 : decode cX4_orders 6 = .ok (.aload_n 2, 1) := by decide +kernel
theorem dX4_orders_7 : decode cX4_orders 7 = .ok (.ifnonnull 6, 3) := by decide +kernel
theorem dX4_orders_10 : decode cX4_orders 10 = .ok (.bipush (-101), 2) := by decide +kernel
theorem dX4_orders_12 : decode cX4_orders 12 = .ok (.ireturn, 1) := by decide +kernel
theorem dX4_orders_13 : decode cX4_orders 13 = .ok (.aload_n 0, 1) := by decide +kernel
theorem dX4_orders_14 : decode cX4_orders 14 = .ok (.getfield 22, 3) := by decide +kernel
theorem dX4_orders_17 : decode cX4_orders 17 = .ok (.aload_n 2, 1) := by decide +kernel
theorem dX4_orders_18 : decode cX4_orders 18 = .ok (.invokevirtual 127, 3) := by decide +kernel
theorem dX4_orders_21 : decode cX4_orders 21 = .ok (.iconst 0, 1) := by decide +kernel
theorem dX4_orders_22 : decode cX4_orders 22 = .ok (.istore_n 3, 1) := by decide +kernel
theorem dX4_orders_23 : decode cX4_orders 23 = .ok (.iload_n 3, 1) := by decide +kernel
theorem dX4_orders_24 : decode cX4_orders 24 = .ok (.ldc 151, 2) := by decide +kernel
theorem dX4_orders_26 : decode cX4_orders 26 = .ok (.if_icmp .ge 19, 3) := by decide +kernel
theorem dX4_orders_29 : decode cX4_orders 29 = .ok (.aload_n 0, 1) := by decide +kernel
theorem dX4_orders_30 : decode cX4_orders 30 = .ok (.getfield 22, 3) := by decide +kernel
theorem dX4_orders_33 : decode cX4_orders 33 = .ok (.invokevirtual 131, 3) := by decide +kernel
theorem dX4_orders_36 : decode cX4_orders 36 = .ok (.ifCond .eq 9, 3) := by decide +kernel
theorem dX4_orders_39 : decode cX4_orders 39 = .ok (.iinc 3 1, 3) := by decide +kernel
theorem dX4_orders_42 : decode cX4_orders 42 = .ok (.goto (-19), 3) := by decide +kernel
theorem dX4_orders_45 : decode cX4_orders 45 = .ok (.iload_n 3, 1) := by decide +kernel
theorem dX4_orders_46 : decode cX4_orders 46 = .ok (.ireturn, 1) := by decide +kernel
theorem dX4_order_0 : decode cX4_order 0 = .ok (.aload_n 0, 1) := by decide +kernel
theorem dX4_order_1 : decode cX4_order 1 = .ok (.iload_n 1, 1) := by decide +kernel
theorem dX4_order_2 : decode cX4_order 2 = .ok (.invokevirtual 77, 3) := by decide +kernel
theorem dX4_order_5 : decode cX4_order 5 = .ok (.astore_n 3, 1) := by decide +kernel
theorem dX4_order_6 : decode cX4_order 6 = .ok (.aload_n 3, 1) := by decide +kernel
theorem dX4_order_7 : decode cX4_order 7 = .ok (.ifnonnull 7, 3) := by decide +kernel
theorem dX4_order_10 : decode cX4_order 10 = .ok (.ldc2_w 152, 3) := by decide +kernel
theorem dX4_order_13 : decode cX4_order 13 = .ok (.lreturn, 1) := by decide +kernel
theorem dX4_order_14 : decode cX4_order 14 = .ok (.iload_n 2, 1) := by decide +kernel
theorem dX4_order_15 : decode cX4_order 15 = .ok (.ifCond .lt 9, 3) := by decide +kernel
theorem dX4_order_18 : decode cX4_order 18 = .ok (.iload_n 2, 1) := by decide +kernel
theorem dX4_order_19 : decode cX4_order 19 = .ok (.ldc 151, 2) := by decide +kernel
theorem dX4_order_21 : decode cX4_order 21 = .ok (.if_icmp .lt 7, 3) := by decide +kernel
theorem dX4_order_24 : decode cX4_order 24 = .ok (.ldc2_w 154, 3) := by decide +kernel
theorem dX4_order_27 : decode cX4_order 27 = .ok (.lreturn, 1) := by decide +kernel
theorem dX4_order_28 : decode cX4_order 28 = .ok (.aload_n 0, 1) := by decide +kernel
theorem dX4_order_29 : decode cX4_order 29 = .ok (.getfield 22, 3) := by decide +kernel
theorem dX4_order_32 : decode cX4_order 32 = .ok (.aload_n 3, 1) := by decide +kernel
theorem dX4_order_33 : decode cX4_order 33 = .ok (.invokevirtual 127, 3) := by decide +kernel
theorem dX4_order_36 : decode cX4_order 36 = .ok (.iconst 0, 1) := by decide +kernel
theorem dX4_order_37 : decode cX4_order 37 = .ok (.istore 4, 2) := by decide +kernel
theorem dX4_order_39 : decode cX4_order 39 = .ok (.iload 4, 2) := by decide +kernel
theorem dX4_order_41 : decode cX4_order 41 = .ok (.iload_n 2, 1) := by decide +kernel
theorem dX4_order_42 : decode cX4_order 42 = .ok (.if_icmp .gt 23, 3) := by decide +kernel
theorem dX4_order_45 : decode cX4_order 45 = .ok (.aload_n 0, 1) := by decide +kernel
theorem dX4_order_46 : decode cX4_order 46 = .ok (.getfield 22, 3) := by decide +kernel
theorem dX4_order_49 : decode cX4_order 49 = .ok (.invokevirtual 131, 3) := by decide +kernel
theorem dX4_order_52 : decode cX4_order 52 = .ok (.ifCond .ne 7, 3) := by decide +kernel
theorem dX4_order_55 : decode cX4_order 55 = .ok (.ldc2_w 154, 3) := by decide +kernel
theorem dX4_order_58 : decode cX4_order 58 = .ok (.lreturn, 1) := by decide +kernel
theorem dX4_order_59 : decode cX4_order 59 = .ok (.iinc 4 1, 3) := by decide +kernel
theorem dX4_order_62 : decode cX4_order 62 = .ok (.goto (-23), 3) := by decide +kernel
theorem dX4_order_65 : decode cX4_order 65 = .ok (.aload_n 0, 1) := by decide +kernel
theorem dX4_order_66 : decode cX4_order 66 = .ok (.getfield 22, 3) := by decide +kernel
theorem dX4_order_69 : decode cX4_order 69 = .ok (.invokevirtual 156, 3) := by decide +kernel
theorem dX4_order_72 : decode cX4_order 72 = .ok (.lreturn, 1) := by decide +kernel
theorem dX4_check_0 : decode cX4_check 0 = .ok (.aload_n 0, 1) := by decide +kernel
theorem dX4_check_1 : decode cX4_check 1 = .ok (.iload_n 1, 1) := by decide +kernel
theorem dX4_check_2 : decode cX4_check 2 = .ok (.invokevirtual 77, 3) := by decide +kernel
theorem dX4_check_5 : decode cX4_check 5 = .ok (.astore 4, 2) := by decide +kernel
theorem dX4_check_7 : decode cX4_check 7 = .ok (.aload 4, 2) := by decide +kernel
theorem dX4_check_9 : decode cX4_check 9 = .ok (.ifnonnull 6, 3) := by decide +kernel
theorem dX4_check_12 : decode cX4_check 12 = .ok (.bipush (-101), 2) := by decide +kernel
theorem dX4_check_14 : decode cX4_check 14 = .ok (.ireturn, 1) := by decide +kernel
theorem dX4_check_15 : decode cX4_check 15 = .ok (.aload_n 0, 1) := by decide +kernel
theorem dX4_check_16 : decode cX4_check 16 = .ok (.aload 4, 2) := by decide +kernel
theorem dX4_check_18 : decode cX4_check 18 = .ok (.getfield 100, 3) := by decide +kernel
theorem dX4_check_21 : decode cX4_check 21 = .ok (.lload_n 2, 1) := by decide +kernel
theorem dX4_check_22 : decode cX4_check 22 = .ok (.invokevirtual 160, 3) := by decide +kernel
theorem dX4_check_25 : decode cX4_check 25 = .ok (.ifCond .ne 6, 3) := by decide +kernel
theorem dX4_check_28 : decode cX4_check 28 = .ok (.bipush (-102), 2) := by decide +kernel
theorem dX4_check_30 : decode cX4_check 30 = .ok (.ireturn, 1) := by decide +kernel
theorem dX4_check_31 : decode cX4_check 31 = .ok (.aload 4, 2) := by decide +kernel
theorem dX4_check_33 : decode cX4_check 33 = .ok (.invokevirtual 164, 3) := by decide +kernel
theorem dX4_check_36 : decode cX4_check 36 = .ok (.ifCond .eq 6, 3) := by decide +kernel
theorem dX4_check_39 : decode cX4_check 39 = .ok (.ldc 167, 2) := by decide +kernel
theorem dX4_check_41 : decode cX4_check 41 = .ok (.ireturn, 1) := by decide +kernel
theorem dX4_check_42 : decode cX4_check 42 = .ok (.aload 4, 2) := by decide +kernel
theorem dX4_check_44 : decode cX4_check 44 = .ok (.aload_n 0, 1) := by decide +kernel
theorem dX4_check_45 : decode cX4_check 45 = .ok (.getfield 40, 3) := by decide +kernel
theorem dX4_check_48 : decode cX4_check 48 = .ok (.invokevirtual 168, 3) := by decide +kernel
theorem dX4_check_51 : decode cX4_check 51 = .ok (.istore 5, 2) := by decide +kernel
theorem dX4_check_53 : decode cX4_check 53 = .ok (.iload 5, 2) := by decide +kernel
theorem dX4_check_55 : decode cX4_check 55 = .ok (.ifCond .ne 14, 3) := by decide +kernel
theorem dX4_check_58 : decode cX4_check 58 = .ok (.aload 4, 2) := by decide +kernel
theorem dX4_check_60 : decode cX4_check 60 = .ok (.aload_n 0, 1) := by decide +kernel
theorem dX4_check_61 : decode cX4_check 61 = .ok (.getfield 40, 3) := by decide +kernel
theorem dX4_check_64 : decode cX4_check 64 = .ok (.invokevirtual 172, 3) := by decide +kernel
theorem dX4_check_67 : decode cX4_check 67 = .ok (.istore 5, 2) := by decide +kernel
theorem dX4_check_69 : decode cX4_check 69 = .ok (.iload 5, 2) := by decide +kernel
theorem dX4_check_71 : decode cX4_check 71 = .ok (.ifCond .ne 15, 3) := by decide +kernel
theorem dX4_check_74 : decode cX4_check 74 = .ok (.aload 4, 2) := by decide +kernel
theorem dX4_check_76 : decode cX4_check 76 = .ok (.aload_n 0, 1) := by decide +kernel
theorem dX4_check_77 : decode cX4_check 77 = .ok (.getfield 40, 3) := by decide +kernel
theorem dX4_check_80 : decode cX4_check 80 = .ok (.invokevirtual 175, 3) := by decide +kernel
theorem dX4_check_83 : decode cX4_check 83 = .ok (.goto 5, 3) := by decide +kernel
theorem dX4_check_86 : decode cX4_check 86 = .ok (.iload 5, 2) := by decide +kernel
theorem dX4_check_88 : decode cX4_check 88 = .ok (.ireturn, 1) := by decide +kernel
theorem dX4_forced_0 : decode cX4_forced 0 = .ok (.aload_n 0, 1) := by decide +kernel
theorem dX4_forced_1 : decode cX4_forced 1 = .ok (.iload_n 1, 1) := by decide +kernel
theorem dX4_forced_2 : decode cX4_forced 2 = .ok (.invokevirtual 77, 3) := by decide +kernel
theorem dX4_forced_5 : decode cX4_forced 5 = .ok (.astore_n 3, 1) := by decide +kernel
theorem dX4_forced_6 : decode cX4_forced 6 = .ok (.aload_n 3, 1) := by decide +kernel
theorem dX4_forced_7 : decode cX4_forced 7 = .ok (.ifnull 11, 3) := by decide +kernel
theorem dX4_forced_10 : decode cX4_forced 10 = .ok (.aload_n 3, 1) := by decide +kernel
theorem dX4_forced_11 : decode cX4_forced 11 = .ok (.iload_n 2, 1) := by decide +kernel
theorem dX4_forced_12 : decode cX4_forced 12 = .ok (.invokevirtual 94, 3) := by decide +kernel
theorem dX4_forced_15 : decode cX4_forced 15 = .ok (.ifCond .ne 6, 3) := by decide +kernel
theorem dX4_forced_18 : decode cX4_forced 18 = .ok (.bipush (-101), 2) := by decide +kernel
theorem dX4_forced_20 : decode cX4_forced 20 = .ok (.ireturn, 1) := by decide +kernel
theorem dX4_forced_21 : decode cX4_forced 21 = .ok (.aload_n 0, 1) := by decide +kernel
theorem dX4_forced_22 : decode cX4_forced 22 = .ok (.aload_n 3, 1) := by decide +kernel
theorem dX4_forced_23 : decode cX4_forced 23 = .ok (.iload_n 2, 1) := by decide +kernel
theorem dX4_forced_24 : decode cX4_forced 24 = .ok (.iconst 1, 1) := by decide +kernel
theorem dX4_forced_25 : decode cX4_forced 25 = .ok (.invokevirtual 178, 3) := by decide +kernel
theorem dX4_forced_28 : decode cX4_forced 28 = .ok (.ifCond .eq 7, 3) := by decide +kernel
theorem dX4_forced_31 : decode cX4_forced 31 = .ok (.iconst 1, 1) := by decide +kernel
theorem dX4_forced_32 : decode cX4_forced 32 = .ok (.goto 4, 3) := by decide +kernel
theorem dX4_forced_35 : decode cX4_forced 35 = .ok (.iconst 0, 1) := by decide +kernel
theorem dX4_forced_36 : decode cX4_forced 36 = .ok (.aload_n 0, 1) := by decide +kernel
theorem dX4_forced_37 : decode cX4_forced 37 = .ok (.aload_n 3, 1) := by decide +kernel
theorem dX4_forced_38 : decode cX4_forced 38 = .ok (.iload_n 2, 1) := by decide +kernel
theorem dX4_forced_39 : decode cX4_forced 39 = .ok (.iconst 2, 1) := by decide +kernel
theorem dX4_forced_40 : decode cX4_forced 40 = .ok (.invokevirtual 178, 3) := by decide +kernel
theorem dX4_forced_43 : decode cX4_forced 43 = .ok (.ifCond .eq 7, 3) := by decide +kernel
theorem dX4_forced_46 : decode cX4_forced 46 = .ok (.iconst 2, 1) := by decide +kernel
theorem dX4_forced_47 : decode cX4_forced 47 = .ok (.goto 4, 3) := by decide +kernel
theorem dX4_forced_50 : decode cX4_forced 50 = .ok (.iconst 0, 1) := by decide +kernel
theorem dX4_forced_51 : decode cX4_forced 51 = .ok (.iadd, 1) := by decide +kernel
theorem dX4_forced_52 : decode cX4_forced 52 = .ok (.ireturn, 1) := by decide +kernel
theorem dX4_above_0 : decode cX4_above 0 = .ok (.aload_n 0, 1) := by decide +kernel
theorem dX4_above_1 : decode cX4_above 1 = .ok (.iload_n 1, 1) := by decide +kernel
theorem dX4_above_2 : decode cX4_above 2 = .ok (.invokevirtual 77, 3) := by decide +kernel
theorem dX4_above_5 : decode cX4_above 5 = .ok (.astore 4, 2) := by decide +kernel
theorem dX4_above_7 : decode cX4_above 7 = .ok (.aload 4, 2) := by decide +kernel
theorem dX4_above_9 : decode cX4_above 9 = .ok (.ifnull 21, 3) := by decide +kernel
theorem dX4_above_12 : decode cX4_above 12 = .ok (.aload 4, 2) := by decide +kernel
theorem dX4_above_14 : decode cX4_above 14 = .ok (.iload_n 2, 1) := by decide +kernel
theorem dX4_above_15 : decode cX4_above 15 = .ok (.invokevirtual 81, 3) := by decide +kernel
theorem dX4_above_18 : decode cX4_above 18 = .ok (.ifCond .eq 12, 3) := by decide +kernel
theorem dX4_above_21 : decode cX4_above 21 = .ok (.aload 4, 2) := by decide +kernel
theorem dX4_above_23 : decode cX4_above 23 = .ok (.iload_n 3, 1) := by decide +kernel
theorem dX4_above_24 : decode cX4_above 24 = .ok (.invokevirtual 81, 3) := by decide +kernel
theorem dX4_above_27 : decode cX4_above 27 = .ok (.ifCond .ne 6, 3) := by decide +kernel
theorem dX4_above_30 : decode cX4_above 30 = .ok (.bipush (-101), 2) := by decide +kernel
theorem dX4_above_32 : decode cX4_above 32 = .ok (.ireturn, 1) := by decide +kernel
theorem dX4_above_33 : decode cX4_above 33 = .ok (.iload_n 2, 1) := by decide +kernel
theorem dX4_above_34 : decode cX4_above 34 = .ok (.iload_n 3, 1) := by decide +kernel
theorem dX4_above_35 : decode cX4_above 35 = .ok (.if_icmp .ne 5, 3) := by decide +kernel
theorem dX4_above_38 : decode cX4_above 38 = .ok (.iconst 2, 1) := by decide +kernel
theorem dX4_above_39 : decode cX4_above 39 = .ok (.ireturn, 1) := by decide +kernel
theorem dX4_above_40 : decode cX4_above 40 = .ok (.aload_n 0, 1) := by decide +kernel
theorem dX4_above_41 : decode cX4_above 41 = .ok (.aload 4, 2) := by decide +kernel
theorem dX4_above_43 : decode cX4_above 43 = .ok (.iload_n 3, 1) := by decide +kernel
theorem dX4_above_44 : decode cX4_above 44 = .ok (.iload_n 2, 1) := by decide +kernel
theorem dX4_above_45 : decode cX4_above 45 = .ok (.invokevirtual 182, 3) := by decide +kernel
theorem dX4_above_48 : decode cX4_above 48 = .ok (.istore 5, 2) := by decide +kernel
theorem dX4_above_50 : decode cX4_above 50 = .ok (.aload_n 0, 1) := by decide +kernel
theorem dX4_above_51 : decode cX4_above 51 = .ok (.aload 4, 2) := by decide +kernel
theorem dX4_above_53 : decode cX4_above 53 = .ok (.iload_n 2, 1) := by decide +kernel
theorem dX4_above_54 : decode cX4_above 54 = .ok (.iload_n 3, 1) := by decide +kernel
theorem dX4_above_55 : decode cX4_above 55 = .ok (.invokevirtual 182, 3) := by decide +kernel
theorem dX4_above_58 : decode cX4_above 58 = .ok (.istore 6, 2) := by decide +kernel
theorem dX4_above_60 : decode cX4_above 60 = .ok (.iload 5, 2) := by decide +kernel
theorem dX4_above_62 : decode cX4_above 62 = .ok (.iload 6, 2) := by decide +kernel
theorem dX4_above_64 : decode cX4_above 64 = .ok (.if_icmp .ne 14, 3) := by decide +kernel
theorem dX4_above_67 : decode cX4_above 67 = .ok (.iload 5, 2) := by decide +kernel
theorem dX4_above_69 : decode cX4_above 69 = .ok (.ifCond .eq 7, 3) := by decide +kernel
theorem dX4_above_72 : decode cX4_above 72 = .ok (.iconst 0, 1) := by decide +kernel
theorem dX4_above_73 : decode cX4_above 73 = .ok (.goto 4, 3) := by decide +kernel
theorem dX4_above_76 : decode cX4_above 76 = .ok (.iconst 2, 1) := by decide +kernel
theorem dX4_above_77 : decode cX4_above 77 = .ok (.ireturn, 1) := by decide +kernel
theorem dX4_above_78 : decode cX4_above 78 = .ok (.iload 5, 2) := by decide +kernel
theorem dX4_above_80 : decode cX4_above 80 = .ok (.ifCond .eq 7, 3) := by decide +kernel
theorem dX4_above_83 : decode cX4_above 83 = .ok (.iconst 1, 1) := by decide +kernel
theorem dX4_above_84 : decode cX4_above 84 = .ok (.goto 4, 3) := by decide +kernel
theorem dX4_above_87 : decode cX4_above 87 = .ok (.iconst (-1), 1) := by decide +kernel
theorem dX4_above_88 : decode cX4_above 88 = .ok (.ireturn, 1) := by decide +kernel
theorem dX4_alike_0 : decode cX4_alike 0 = .ok (.aload_n 0, 1) := by decide +kernel
theorem dX4_alike_1 : decode cX4_alike 1 = .ok (.iload_n 1, 1) := by decide +kernel
theorem dX4_alike_2 : decode cX4_alike 2 = .ok (.invokevirtual 77, 3) := by decide +kernel
theorem dX4_alike_5 : decode cX4_alike 5 = .ok (.astore_n 3, 1) := by decide +kernel
theorem dX4_alike_6 : decode cX4_alike 6 = .ok (.aload_n 0, 1) := by decide +kernel
theorem dX4_alike_7 : decode cX4_alike 7 = .ok (.iload_n 2, 1) := by decide +kernel
theorem dX4_alike_8 : decode cX4_alike 8 = .ok (.invokevirtual 77, 3) := by decide +kernel
theorem dX4_alike_11 : decode cX4_alike 11 = .ok (.astore 4, 2) := by decide +kernel
theorem dX4_alike_13 : decode cX4_alike 13 = .ok (.aload_n 3, 1) := by decide +kernel
theorem dX4_alike_14 : decode cX4_alike 14 = .ok (.ifnull 8, 3) := by decide +kernel
theorem dX4_alike_17 : decode cX4_alike 17 = .ok (.aload 4, 2) := by decide +kernel
theorem dX4_alike_19 : decode cX4_alike 19 = .ok (.ifnonnull 6, 3) := by decide +kernel
theorem dX4_alike_22 : decode cX4_alike 22 = .ok (.bipush (-101), 2) := by decide +kernel
theorem dX4_alike_24 : decode cX4_alike 24 = .ok (.ireturn, 1) := by decide +kernel
theorem dX4_alike_25 : decode cX4_alike 25 = .ok (.aload_n 3, 1) := by decide +kernel
theorem dX4_alike_26 : decode cX4_alike 26 = .ok (.getfield 100, 3) := by decide +kernel
theorem dX4_alike_29 : decode cX4_alike 29 = .ok (.aload 4, 2) := by decide +kernel
theorem dX4_alike_31 : decode cX4_alike 31 = .ok (.getfield 100, 3) := by decide +kernel
theorem dX4_alike_34 : decode cX4_alike 34 = .ok (.if_icmp .ne 17, 3) := by decide +kernel
theorem dX4_alike_37 : decode cX4_alike 37 = .ok (.aload_n 0, 1) := by decide +kernel
theorem dX4_alike_38 : decode cX4_alike 38 = .ok (.aload_n 3, 1) := by decide +kernel
theorem dX4_alike_39 : decode cX4_alike 39 = .ok (.aload 4, 2) := by decide +kernel
theorem dX4_alike_41 : decode cX4_alike 41 = .ok (.invokevirtual 185, 3) := by decide +kernel
theorem dX4_alike_44 : decode cX4_alike 44 = .ok (.ifCond .eq 7, 3) := by decide +kernel
theorem dX4_alike_47 : decode cX4_alike 47 = .ok (.iconst 1, 1) := by decide +kernel
theorem dX4_alike_48 : decode cX4_alike 48 = .ok (.goto 4, 3) := by decide +kernel
theorem dX4_alike_51 : decode cX4_alike 51 = .ok (.iconst 0, 1) := by decide +kernel
theorem dX4_alike_52 : decode cX4_alike 52 = .ok (.ireturn, 1) := by decide +kernel
theorem dX4_foldings_0 : decode cX4_foldings 0 = .ok (.aload_n 0, 1) := by decide +kernel
theorem dX4_foldings_1 : decode cX4_foldings 1 = .ok (.iload_n 1, 1) := by decide +kernel
theorem dX4_foldings_2 : decode cX4_foldings 2 = .ok (.invokevirtual 77, 3) := by decide +kernel
theorem dX4_foldings_5 : decode cX4_foldings 5 = .ok (.astore_n 2, 1) := by decide +kernel
theorem dX4_foldings_6 : decode cX4_foldings 6 = .ok (.aload_n 2, 1) := by decide +kernel
theorem dX4_foldings_7 : decode cX4_foldings 7 = .ok (.ifnonnull 6, 3) := by decide +kernel
theorem dX4_foldings_10 : decode cX4_foldings 10 = .ok (.bipush (-101), 2) := by decide +kernel
theorem dX4_foldings_12 : decode cX4_foldings 12 = .ok (.ireturn, 1) := by decide +kernel
theorem dX4_foldings_13 : decode cX4_foldings 13 = .ok (.aload_n 0, 1) := by decide +kernel
theorem dX4_foldings_14 : decode cX4_foldings 14 = .ok (.getfield 43, 3) := by decide +kernel
theorem dX4_foldings_17 : decode cX4_foldings 17 = .ok (.lconst 0, 1) := by decide +kernel
theorem dX4_foldings_18 : decode cX4_foldings 18 = .ok (.invokestatic 189, 3) := by decide +kernel
theorem dX4_foldings_21 : decode cX4_foldings 21 = .ok (.aload_n 0, 1) := by decide +kernel
theorem dX4_foldings_22 : decode cX4_foldings 22 = .ok (.getfield 22, 3) := by decide +kernel
theorem dX4_foldings_25 : decode cX4_foldings 25 = .ok (.aload_n 2, 1) := by decide +kernel
theorem dX4_foldings_26 : decode cX4_foldings 26 = .ok (.invokevirtual 127, 3) := by decide +kernel
theorem dX4_foldings_29 : decode cX4_foldings 29 = .ok (.iconst 0, 1) := by decide +kernel
theorem dX4_foldings_30 : decode cX4_foldings 30 = .ok (.istore_n 3, 1) := by decide +kernel
theorem dX4_foldings_31 : decode cX4_foldings 31 = .ok (.iconst 0, 1) := by decide +kernel
theorem dX4_foldings_32 : decode cX4_foldings 32 = .ok (.istore 4, 2) := by decide +kernel
theorem dX4_foldings_34 : decode cX4_foldings 34 = .ok (.iload 4, 2) := by decide +kernel
theorem dX4_foldings_36 : decode cX4_foldings 36 = .ok (.ldc 151, 2) := by decide +kernel
theorem dX4_foldings_38 : decode cX4_foldings 38 = .ok (.if_icmp .ge 40, 3) := by decide +kernel
theorem dX4_foldings_41 : decode cX4_foldings 41 = .ok (.aload_n 0, 1) := by decide +kernel
theorem dX4_foldings_42 : decode cX4_foldings 42 = .ok (.getfield 22, 3) := by decide +kernel
theorem dX4_foldings_45 : decode cX4_foldings 45 = .ok (.invokevirtual 131, 3) := by decide +kernel
theorem dX4_foldings_48 : decode cX4_foldings 48 = .ok (.ifCond .eq 30, 3) := by decide +kernel
theorem dX4_foldings_51 : decode cX4_foldings 51 = .ok (.aload_n 0, 1) := by decide +kernel
theorem dX4_foldings_52 : decode cX4_foldings 52 = .ok (.aload_n 2, 1) := by decide +kernel
theorem dX4_foldings_53 : decode cX4_foldings 53 = .ok (.aload_n 0, 1) := by decide +kernel
theorem dX4_foldings_54 : decode cX4_foldings 54 = .ok (.getfield 22, 3) := by decide +kernel
theorem dX4_foldings_57 : decode cX4_foldings 57 = .ok (.getfield 144, 3) := by decide +kernel
theorem dX4_foldings_60 : decode cX4_foldings 60 = .ok (.invokevirtual 195, 3) := by decide +kernel
theorem dX4_foldings_63 : decode cX4_foldings 63 = .ok (.invokevirtual 198, 3) := by decide +kernel
theorem dX4_foldings_66 : decode cX4_foldings 66 = .ok (.ifCond .eq 6, 3) := by decide +kernel
theorem dX4_foldings_69 : decode cX4_foldings 69 = .ok (.iinc 3 1, 3) := by decide +kernel
theorem dX4_foldings_72 : decode cX4_foldings 72 = .ok (.iinc 4 1, 3) := by decide +kernel
theorem dX4_foldings_75 : decode cX4_foldings 75 = .ok (.goto (-41), 3) := by decide +kernel
theorem dX4_foldings_78 : decode cX4_foldings 78 = .ok (.iload_n 3, 1) := by decide +kernel
theorem dX4_foldings_79 : decode cX4_foldings 79 = .ok (.ireturn, 1) := by decide +kernel
theorem dX4_clash_0 : decode cX4_clash 0 = .ok (.aload_n 0, 1) := by decide +kernel
theorem dX4_clash_1 : decode cX4_clash 1 = .ok (.iload_n 1, 1) := by decide +kernel
theorem dX4_clash_2 : decode cX4_clash 2 = .ok (.invokevirtual 77, 3) := by decide +kernel
theorem dX4_clash_5 : decode cX4_clash 5 = .ok (.astore_n 2, 1) := by decide +kernel
theorem dX4_clash_6 : decode cX4_clash 6 = .ok (.aload_n 2, 1) := by decide +kernel
theorem dX4_clash_7 : decode cX4_clash 7 = .ok (.ifnonnull 6, 3) := by decide +kernel
theorem dX4_clash_10 : decode cX4_clash 10 = .ok (.bipush (-101), 2) := by decide +kernel
theorem dX4_clash_12 : decode cX4_clash 12 = .ok (.ireturn, 1) := by decide +kernel
theorem dX4_clash_13 : decode cX4_clash 13 = .ok (.aload_n 0, 1) := by decide +kernel
theorem dX4_clash_14 : decode cX4_clash 14 = .ok (.iconst 0, 1) := by decide +kernel
theorem dX4_clash_15 : decode cX4_clash 15 = .ok (.putfield 50, 3) := by decide +kernel
theorem dX4_clash_18 : decode cX4_clash 18 = .ok (.aload_n 2, 1) := by decide +kernel
theorem dX4_clash_19 : decode cX4_clash 19 = .ok (.iconst 1, 1) := by decide +kernel
theorem dX4_clash_20 : decode cX4_clash 20 = .ok (.invokevirtual 106, 3) := by decide +kernel
theorem dX4_clash_23 : decode cX4_clash 23 = .ok (.aload_n 2, 1) := by decide +kernel
theorem dX4_clash_24 : decode cX4_clash 24 = .ok (.iconst 2, 1) := by decide +kernel
theorem dX4_clash_25 : decode cX4_clash 25 = .ok (.invokevirtual 106, 3) := by decide +kernel
theorem dX4_clash_28 : decode cX4_clash 28 = .ok (.ior, 1) := by decide +kernel
theorem dX4_clash_29 : decode cX4_clash 29 = .ok (.istore_n 3, 1) := by decide +kernel
theorem dX4_clash_30 : decode cX4_clash 30 = .ok (.aload_n 0, 1) := by decide +kernel
theorem dX4_clash_31 : decode cX4_clash 31 = .ok (.aload_n 2, 1) := by decide +kernel
theorem dX4_clash_32 : decode cX4_clash 32 = .ok (.iload_n 3, 1) := by decide +kernel
theorem dX4_clash_33 : decode cX4_clash 33 = .ok (.invokevirtual 201, 3) := by decide +kernel
theorem dX4_clash_36 : decode cX4_clash 36 = .ok (.ifCond .eq 5, 3) := by decide +kernel
theorem dX4_clash_39 : decode cX4_clash 39 = .ok (.iconst 0, 1) := by decide +kernel
theorem dX4_clash_40 : decode cX4_clash 40 = .ok (.ireturn, 1) := by decide +kernel
theorem dX4_clash_41 : decode cX4_clash 41 = .ok (.aload_n 2, 1) := by decide +kernel
theorem dX4_clash_42 : decode cX4_clash 42 = .ok (.getfield 103, 3) := by decide +kernel
theorem dX4_clash_45 : decode cX4_clash 45 = .ok (.iconst 1, 1) := by decide +kernel
theorem dX4_clash_46 : decode cX4_clash 46 = .ok (.isub, 1) := by decide +kernel
theorem dX4_clash_47 : decode cX4_clash 47 = .ok (.istore 4, 2) := by decide +kernel
theorem dX4_clash_49 : decode cX4_clash 49 = .ok (.iload 4, 2) := by decide +kernel
theorem dX4_clash_51 : decode cX4_clash 51 = .ok (.ifCond .lt 38, 3) := by decide +kernel
theorem dX4_clash_54 : decode cX4_clash 54 = .ok (.iload_n 3, 1) := by decide +kernel
theorem dX4_clash_55 : decode cX4_clash 55 = .ok (.iconst 1, 1) := by decide +kernel
theorem dX4_clash_56 : decode cX4_clash 56 = .ok (.iload 4, 2) := by decide +kernel
theorem dX4_clash_58 : decode cX4_clash 58 = .ok (.ishl, 1) := by decide +kernel
theorem dX4_clash_59 : decode cX4_clash 59 = .ok (.iconst (-1), 1) := by decide +kernel
theorem dX4_clash_60 : decode cX4_clash 60 = .ok (.ixor, 1) := by decide +kernel
theorem dX4_clash_61 : decode cX4_clash 61 = .ok (.iand, 1) := by decide +kernel
theorem dX4_clash_62 : decode cX4_clash 62 = .ok (.istore 5, 2) := by decide +kernel
theorem dX4_clash_64 : decode cX4_clash 64 = .ok (.iload 5, 2) := by decide +kernel
theorem dX4_clash_66 : decode cX4_clash 66 = .ok (.iload_n 3, 1) := by decide +kernel
theorem dX4_clash_67 : decode cX4_clash 67 = .ok (.if_icmp .eq 16, 3) := by decide +kernel
theorem dX4_clash_70 : decode cX4_clash 70 = .ok (.aload_n 0, 1) := by decide +kernel
theorem dX4_clash_71 : decode cX4_clash 71 = .ok (.aload_n 2, 1) := by decide +kernel
theorem dX4_clash_72 : decode cX4_clash 72 = .ok (.iload 5, 2) := by decide +kernel
theorem dX4_clash_74 : decode cX4_clash 74 = .ok (.invokevirtual 201, 3) := by decide +kernel
theorem dX4_clash_77 : decode cX4_clash 77 = .ok (.ifCond .ne 6, 3) := by decide +kernel
theorem dX4_clash_80 : decode cX4_clash 80 = .ok (.iload 5, 2) := by decide +kernel
theorem dX4_clash_82 : decode cX4_clash 82 = .ok (.istore_n 3, 1) := by decide +kernel
theorem dX4_clash_83 : decode cX4_clash 83 = .ok (.iinc 4 (-1), 3) := by decide +kernel
theorem dX4_clash_86 : decode cX4_clash 86 = .ok (.goto (-37), 3) := by decide +kernel
theorem dX4_clash_89 : decode cX4_clash 89 = .ok (.iconst 0, 1) := by decide +kernel
theorem dX4_clash_90 : decode cX4_clash 90 = .ok (.istore 4, 2) := by decide +kernel
theorem dX4_clash_92 : decode cX4_clash 92 = .ok (.iload 4, 2) := by decide +kernel
theorem dX4_clash_94 : decode cX4_clash 94 = .ok (.aload_n 2, 1) := by decide +kernel
theorem dX4_clash_95 : decode cX4_clash 95 = .ok (.getfield 103, 3) := by decide +kernel
theorem dX4_clash_98 : decode cX4_clash 98 = .ok (.if_icmp .ge 39, 3) := by decide +kernel
theorem dX4_clash_101 : decode cX4_clash 101 = .ok (.iload_n 3, 1) := by decide +kernel
theorem dX4_clash_102 : decode cX4_clash 102 = .ok (.iload 4, 2) := by decide +kernel
theorem dX4_clash_104 : decode cX4_clash 104 = .ok (.invokestatic 205, 3) := by decide +kernel
theorem dX4_clash_107 : decode cX4_clash 107 = .ok (.ifCond .eq 24, 3) := by decide +kernel
theorem dX4_clash_110 : decode cX4_clash 110 = .ok (.aload_n 0, 1) := by decide +kernel
theorem dX4_clash_111 : decode cX4_clash 111 = .ok (.getfield 47, 3) := by decide +kernel
theorem dX4_clash_114 : decode cX4_clash 114 = .ok (.aload_n 0, 1) := by decide +kernel
theorem dX4_clash_115 : decode cX4_clash 115 = .ok (.getfield 50, 3) := by decide +kernel
theorem dX4_clash_118 : decode cX4_clash 118 = .ok (.iload 4, 2) := by decide +kernel
theorem dX4_clash_120 : decode cX4_clash 120 = .ok (.iastore, 1) := by decide +kernel
theorem dX4_clash_121 : decode cX4_clash 121 = .ok (.aload_n 0, 1) := by decide +kernel
theorem dX4_clash_122 : decode cX4_clash 122 = .ok (.dup, 1) := by decide +kernel
theorem dX4_clash_123 : decode cX4_clash 123 = .ok (.getfield 50, 3) := by decide +kernel
theorem dX4_clash_126 : decode cX4_clash 126 = .ok (.iconst 1, 1) := by decide +kernel
theorem dX4_clash_127 : decode cX4_clash 127 = .ok (.iadd, 1) := by decide +kernel
theorem dX4_clash_128 : decode cX4_clash 128 = .ok (.putfield 50, 3) := by decide +kernel
theorem dX4_clash_131 : decode cX4_clash 131 = .ok (.iinc 4 1, 3) := by decide +kernel
theorem dX4_clash_134 : decode cX4_clash 134 = .ok (.goto (-42), 3) := by decide +kernel
theorem dX4_clash_137 : decode cX4_clash 137 = .ok (.aload_n 0, 1) := by decide +kernel
theorem dX4_clash_138 : decode cX4_clash 138 = .ok (.getfield 50, 3) := by decide +kernel
theorem dX4_clash_141 : decode cX4_clash 141 = .ok (.ireturn, 1) := by decide +kernel
theorem dX4_inClash_0 : decode cX4_inClash 0 = .ok (.iload_n 1, 1) := by decide +kernel
theorem dX4_inClash_1 : decode cX4_inClash 1 = .ok (.ifCond .lt 11, 3) := by decide +kernel
theorem dX4_inClash_4 : decode cX4_inClash 4 = .ok (.iload_n 1, 1) := by decide +kernel
theorem dX4_inClash_5 : decode cX4_inClash 5 = .ok (.aload_n 0, 1) := by decide +kernel
theorem dX4_inClash_6 : decode cX4_inClash 6 = .ok (.getfield 50, 3) := by decide +kernel
theorem dX4_inClash_9 : decode cX4_inClash 9 = .ok (.if_icmp .lt 7, 3) := by decide +kernel
theorem dX4_inClash_12 : decode cX4_inClash 12 = .ok (.iconst (-1), 1) := by decide +kernel
theorem dX4_inClash_13 : decode cX4_inClash 13 = .ok (.goto 9, 3) := by decide +kernel
theorem dX4_inClash_16 : decode cX4_inClash 16 = .ok (.aload_n 0, 1) := by decide +kernel
theorem dX4_inClash_17 : decode cX4_inClash 17 = .ok (.getfield 47, 3) := by decide +kernel
theorem dX4_inClash_20 : decode cX4_inClash 20 = .ok (.iload_n 1, 1) := by decide +kernel
theorem dX4_inClash_21 : decode cX4_inClash 21 = .ok (.iaload, 1) := by decide +kernel
theorem dX4_inClash_22 : decode cX4_inClash 22 = .ok (.ireturn, 1) := by decide +kernel
theorem dX4_simple_0 : decode cX4_simple 0 = .ok (.aload_n 0, 1) := by decide +kernel
theorem dX4_simple_1 : decode cX4_simple 1 = .ok (.iload_n 1, 1) := by decide +kernel
theorem dX4_simple_2 : decode cX4_simple 2 = .ok (.invokevirtual 77, 3) := by decide +kernel
theorem dX4_simple_5 : decode cX4_simple 5 = .ok (.astore_n 2, 1) := by decide +kernel
theorem dX4_simple_6 : decode cX4_simple 6 = .ok (.aload_n 2, 1) := by decide +kernel
theorem dX4_simple_7 : decode cX4_simple 7 = .ok (.ifnonnull 6, 3) := by decide +kernel
theorem dX4_simple_10 : decode cX4_simple 10 = .ok (.bipush (-101), 2) := by decide +kernel
theorem dX4_simple_12 : decode cX4_simple 12 = .ok (.ireturn, 1) := by decide +kernel
theorem dX4_simple_13 : decode cX4_simple 13 = .ok (.aload_n 2, 1) := by decide +kernel
theorem dX4_simple_14 : decode cX4_simple 14 = .ok (.getfield 85, 3) := by decide +kernel
theorem dX4_simple_17 : decode cX4_simple 17 = .ok (.iconst 1, 1) := by decide +kernel
theorem dX4_simple_18 : decode cX4_simple 18 = .ok (.if_icmp .ne 6, 3) := by decide +kernel
theorem dX4_simple_21 : decode cX4_simple 21 = .ok (.bipush (-103), 2) := by decide +kernel
theorem dX4_simple_23 : decode cX4_simple 23 = .ok (.ireturn, 1) := by decide +kernel
theorem dX4_simple_24 : decode cX4_simple 24 = .ok (.aload_n 0, 1) := by decide +kernel
theorem dX4_simple_25 : decode cX4_simple 25 = .ok (.getfield 63, 3) := by decide +kernel
theorem dX4_simple_28 : decode cX4_simple 28 = .ok (.aload_n 2, 1) := by decide +kernel
theorem dX4_simple_29 : decode cX4_simple 29 = .ok (.aload_n 0, 1) := by decide +kernel
theorem dX4_simple_30 : decode cX4_simple 30 = .ok (.getfield 56, 3) := by decide +kernel
theorem dX4_simple_33 : decode cX4_simple 33 = .ok (.invokevirtual 209, 3) := by decide +kernel
theorem dX4_simple_36 : decode cX4_simple 36 = .ok (.aload_n 0, 1) := by decide +kernel
theorem dX4_simple_37 : decode cX4_simple 37 = .ok (.getfield 63, 3) := by decide +kernel
theorem dX4_simple_40 : decode cX4_simple 40 = .ok (.getfield 213, 3) := by decide +kernel
theorem dX4_simple_43 : decode cX4_simple 43 = .ok (.iconst 0, 1) := by decide +kernel
theorem dX4_simple_44 : decode cX4_simple 44 = .ok (.iaload, 1) := by decide +kernel
theorem dX4_simple_45 : decode cX4_simple 45 = .ok (.bipush 8, 2) := by decide +kernel
theorem dX4_simple_47 : decode cX4_simple 47 = .ok (.if_icmp .le 5, 3) := by decide +kernel
theorem dX4_simple_50 : decode cX4_simple 50 = .ok (.iconst (-1), 1) := by decide +kernel
theorem dX4_simple_51 : decode cX4_simple 51 = .ok (.ireturn, 1) := by decide +kernel
theorem dX4_simple_52 : decode cX4_simple 52 = .ok (.aload_n 0, 1) := by decide +kernel
theorem dX4_simple_53 : decode cX4_simple 53 = .ok (.aload_n 0, 1) := by decide +kernel
theorem dX4_simple_54 : decode cX4_simple 54 = .ok (.getfield 63, 3) := by decide +kernel
theorem dX4_simple_57 : decode cX4_simple 57 = .ok (.aload_n 2, 1) := by decide +kernel
theorem dX4_simple_58 : decode cX4_simple 58 = .ok (.invokevirtual 216, 3) := by decide +kernel
theorem dX4_simple_61 : decode cX4_simple 61 = .ok (.aload_n 0, 1) := by decide +kernel
theorem dX4_simple_62 : decode cX4_simple 62 = .ok (.getfield 67, 3) := by decide +kernel
theorem dX4_simple_65 : decode cX4_simple 65 = .ok (.invokevirtual 220, 3) := by decide +kernel
theorem dX4_simple_68 : decode cX4_simple 68 = .ok (.putfield 70, 3) := by decide +kernel
theorem dX4_simple_71 : decode cX4_simple 71 = .ok (.aload_n 0, 1) := by decide +kernel
theorem dX4_simple_72 : decode cX4_simple 72 = .ok (.getfield 70, 3) := by decide +kernel
theorem dX4_simple_75 : decode cX4_simple 75 = .ok (.ireturn, 1) := by decide +kernel
theorem dX4_step_0 : decode cX4_step 0 = .ok (.iload_n 1, 1) := by decide +kernel
theorem dX4_step_1 : decode cX4_step 1 = .ok (.ifCond .lt 11, 3) := by decide +kernel
theorem dX4_step_4 : decode cX4_step 4 = .ok (.iload_n 1, 1) := by decide +kernel
theorem dX4_step_5 : decode cX4_step 5 = .ok (.aload_n 0, 1) := by decide +kernel
theorem dX4_step_6 : decode cX4_step 6 = .ok (.getfield 70, 3) := by decide +kernel
theorem dX4_step_9 : decode cX4_step 9 = .ok (.if_icmp .lt 8, 3) := by decide +kernel
theorem dX4_step_12 : decode cX4_step 12 = .ok (.bipush (-103), 2) := by decide +kernel
theorem dX4_step_14 : decode cX4_step 14 = .ok (.goto 9, 3) := by decide +kernel
theorem dX4_step_17 : decode cX4_step 17 = .ok (.aload_n 0, 1) := by decide +kernel
theorem dX4_step_18 : decode cX4_step 18 = .ok (.getfield 67, 3) := by decide +kernel
theorem dX4_step_21 : decode cX4_step 21 = .ok (.iload_n 1, 1) := by decide +kernel
theorem dX4_step_22 : decode cX4_step 22 = .ok (.iaload, 1) := by decide +kernel
theorem dX4_step_23 : decode cX4_step 23 = .ok (.ireturn, 1) := by decide +kernel
theorem dX4_fold_0 : decode cX4_fold 0 = .ok (.aload_n 0, 1) := by decide +kernel
theorem dX4_fold_1 : decode cX4_fold 1 = .ok (.iload_n 1, 1) := by decide +kernel
theorem dX4_fold_2 : decode cX4_fold 2 = .ok (.invokevirtual 77, 3) := by decide +kernel
theorem dX4_fold_5 : decode cX4_fold 5 = .ok (.astore_n 3, 1) := by decide +kernel
theorem dX4_fold_6 : decode cX4_fold 6 = .ok (.aload_n 3, 1) := by decide +kernel
theorem dX4_fold_7 : decode cX4_fold 7 = .ok (.ifnonnull 6, 3) := by decide +kernel
theorem dX4_fold_10 : decode cX4_fold 10 = .ok (.bipush (-101), 2) := by decide +kernel
theorem dX4_fold_12 : decode cX4_fold 12 = .ok (.ireturn, 1) := by decide +kernel
theorem dX4_fold_13 : decode cX4_fold 13 = .ok (.aload_n 3, 1) := by decide +kernel
theorem dX4_fold_14 : decode cX4_fold 14 = .ok (.getfield 85, 3) := by decide +kernel
theorem dX4_fold_17 : decode cX4_fold 17 = .ok (.iconst 1, 1) := by decide +kernel
theorem dX4_fold_18 : decode cX4_fold 18 = .ok (.if_icmp .ne 6, 3) := by decide +kernel
theorem dX4_fold_21 : decode cX4_fold 21 = .ok (.bipush (-103), 2) := by decide +kernel
theorem dX4_fold_23 : decode cX4_fold 23 = .ok (.ireturn, 1) := by decide +kernel
theorem dX4_fold_24 : decode cX4_fold 24 = .ok (.aload_n 0, 1) := by decide +kernel
theorem dX4_fold_25 : decode cX4_fold 25 = .ok (.getfield 56, 3) := by decide +kernel
theorem dX4_fold_28 : decode cX4_fold 28 = .ok (.aload_n 3, 1) := by decide +kernel
theorem dX4_fold_29 : decode cX4_fold 29 = .ok (.aload_n 3, 1) := by decide +kernel
theorem dX4_fold_30 : decode cX4_fold 30 = .ok (.getfield 223, 3) := by decide +kernel
theorem dX4_fold_33 : decode cX4_fold 33 = .ok (.invokevirtual 226, 3) := by decide +kernel
theorem dX4_fold_36 : decode cX4_fold 36 = .ok (.aload_n 0, 1) := by decide +kernel
theorem dX4_fold_37 : decode cX4_fold 37 = .ok (.getfield 56, 3) := by decide +kernel
theorem dX4_fold_40 : decode cX4_fold 40 = .ok (.aload_n 3, 1) := by decide +kernel
theorem dX4_fold_41 : decode cX4_fold 41 = .ok (.iload_n 2, 1) := by decide +kernel
theorem dX4_fold_42 : decode cX4_fold 42 = .ok (.invokevirtual 230, 3) := by decide +kernel
theorem dX4_fold_45 : decode cX4_fold 45 = .ok (.istore 4, 2) := by decide +kernel
theorem dX4_fold_47 : decode cX4_fold 47 = .ok (.aload_n 3, 1) := by decide +kernel
theorem dX4_fold_48 : decode cX4_fold 48 = .ok (.dup, 1) := by decide +kernel
theorem dX4_fold_49 : decode cX4_fold 49 = .ok (.getfield 223, 3) := by decide +kernel
theorem dX4_fold_52 : decode cX4_fold 52 = .ok (.iload 4, 2) := by decide +kernel
theorem dX4_fold_54 : decode cX4_fold 54 = .ok (.ior, 1) := by decide +kernel
theorem dX4_fold_55 : decode cX4_fold 55 = .ok (.putfield 223, 3) := by decide +kernel
theorem dX4_fold_58 : decode cX4_fold 58 = .ok (.aload_n 3, 1) := by decide +kernel
theorem dX4_fold_59 : decode cX4_fold 59 = .ok (.iload 4, 2) := by decide +kernel
theorem dX4_fold_61 : decode cX4_fold 61 = .ok (.invokevirtual 234, 3) := by decide +kernel
theorem dX4_fold_64 : decode cX4_fold 64 = .ok (.ireturn, 1) := by decide +kernel
theorem dX4_flatten_0 : decode cX4_flatten 0 = .ok (.aload_n 0, 1) := by decide +kernel
theorem dX4_flatten_1 : decode cX4_flatten 1 = .ok (.iload_n 1, 1) := by decide +kernel
theorem dX4_flatten_2 : decode cX4_flatten 2 = .ok (.invokevirtual 77, 3) := by decide +kernel
theorem dX4_flatten_5 : decode cX4_flatten 5 = .ok (.astore_n 2, 1) := by decide +kernel
theorem dX4_flatten_6 : decode cX4_flatten 6 = .ok (.aload_n 2, 1) := by decide +kernel
theorem dX4_flatten_7 : decode cX4_flatten 7 = .ok (.ifnonnull 6, 3) := by decide +kernel
theorem dX4_flatten_10 : decode cX4_flatten 10 = .ok (.bipush (-101), 2) := by decide +kernel
theorem dX4_flatten_12 : decode cX4_flatten 12 = .ok (.ireturn, 1) := by decide +kernel
theorem dX4_flatten_13 : decode cX4_flatten 13 = .ok (.aload_n 2, 1) := by decide +kernel
theorem dX4_flatten_14 : decode cX4_flatten 14 = .ok (.getfield 85, 3) := by decide +kernel
theorem dX4_flatten_17 : decode cX4_flatten 17 = .ok (.iconst 1, 1) := by decide +kernel
theorem dX4_flatten_18 : decode cX4_flatten 18 = .ok (.if_icmp .ne 6, 3) := by decide +kernel
theorem dX4_flatten_21 : decode cX4_flatten 21 = .ok (.bipush (-103), 2) := by decide +kernel
theorem dX4_flatten_23 : decode cX4_flatten 23 = .ok (.ireturn, 1) := by decide +kernel
theorem dX4_flatten_24 : decode cX4_flatten 24 = .ok (.aload_n 2, 1) := by decide +kernel
theorem dX4_flatten_25 : decode cX4_flatten 25 = .ok (.aload_n 2, 1) := by decide +kernel
theorem dX4_flatten_26 : decode cX4_flatten 26 = .ok (.getfield 223, 3) := by decide +kernel
theorem dX4_flatten_29 : decode cX4_flatten 29 = .ok (.invokevirtual 234, 3) := by decide +kernel
theorem dX4_flatten_32 : decode cX4_flatten 32 = .ok (.istore_n 3, 1) := by decide +kernel
theorem dX4_flatten_33 : decode cX4_flatten 33 = .ok (.aload_n 2, 1) := by decide +kernel
theorem dX4_flatten_34 : decode cX4_flatten 34 = .ok (.iconst 0, 1) := by decide +kernel
theorem dX4_flatten_35 : decode cX4_flatten 35 = .ok (.putfield 223, 3) := by decide +kernel
theorem dX4_flatten_38 : decode cX4_flatten 38 = .ok (.iload_n 3, 1) := by decide +kernel
theorem dX4_flatten_39 : decode cX4_flatten 39 = .ok (.ireturn, 1) := by decide +kernel
theorem dX4_lies_0 : decode cX4_lies 0 = .ok (.aload_n 0, 1) := by decide +kernel
theorem dX4_lies_1 : decode cX4_lies 1 = .ok (.iload_n 1, 1) := by decide +kernel
theorem dX4_lies_2 : decode cX4_lies 2 = .ok (.invokevirtual 77, 3) := by decide +kernel
theorem dX4_lies_5 : decode cX4_lies 5 = .ok (.astore 4, 2) := by decide +kernel
theorem dX4_lies_7 : decode cX4_lies 7 = .ok (.aload 4, 2) := by decide +kernel
theorem dX4_lies_9 : decode cX4_lies 9 = .ok (.ifnull 12, 3) := by decide +kernel
theorem dX4_lies_12 : decode cX4_lies 12 = .ok (.aload 4, 2) := by decide +kernel
theorem dX4_lies_14 : decode cX4_lies 14 = .ok (.iload_n 2, 1) := by decide +kernel
theorem dX4_lies_15 : decode cX4_lies 15 = .ok (.invokevirtual 81, 3) := by decide +kernel
theorem dX4_lies_18 : decode cX4_lies 18 = .ok (.ifCond .ne 6, 3) := by decide +kernel
theorem dX4_lies_21 : decode cX4_lies 21 = .ok (.bipush (-101), 2) := by decide +kernel
theorem dX4_lies_23 : decode cX4_lies 23 = .ok (.ireturn, 1) := by decide +kernel
theorem dX4_lies_24 : decode cX4_lies 24 = .ok (.iload_n 3, 1) := by decide +kernel
theorem dX4_lies_25 : decode cX4_lies 25 = .ok (.ifCond .lt 8, 3) := by decide +kernel
theorem dX4_lies_28 : decode cX4_lies 28 = .ok (.iload_n 3, 1) := by decide +kernel
theorem dX4_lies_29 : decode cX4_lies 29 = .ok (.iconst 3, 1) := by decide +kernel
theorem dX4_lies_30 : decode cX4_lies 30 = .ok (.if_icmp .le 6, 3) := by decide +kernel
theorem dX4_lies_33 : decode cX4_lies 33 = .ok (.bipush (-102), 2) := by decide +kernel
theorem dX4_lies_35 : decode cX4_lies 35 = .ok (.ireturn, 1) := by decide +kernel
theorem dX4_lies_36 : decode cX4_lies 36 = .ok (.aload 4, 2) := by decide +kernel
theorem dX4_lies_38 : decode cX4_lies 38 = .ok (.getfield 85, 3) := by decide +kernel
theorem dX4_lies_41 : decode cX4_lies 41 = .ok (.iconst 1, 1) := by decide +kernel
theorem dX4_lies_42 : decode cX4_lies 42 = .ok (.if_icmp .ne 6, 3) := by decide +kernel
theorem dX4_lies_45 : decode cX4_lies 45 = .ok (.bipush (-103), 2) := by decide +kernel
theorem dX4_lies_47 : decode cX4_lies 47 = .ok (.ireturn, 1) := by decide +kernel
theorem dX4_lies_48 : decode cX4_lies 48 = .ok (.aload_n 0, 1) := by decide +kernel
theorem dX4_lies_49 : decode cX4_lies 49 = .ok (.getfield 56, 3) := by decide +kernel
theorem dX4_lies_52 : decode cX4_lies 52 = .ok (.aload 4, 2) := by decide +kernel
theorem dX4_lies_54 : decode cX4_lies 54 = .ok (.aload 4, 2) := by decide +kernel
theorem dX4_lies_56 : decode cX4_lies 56 = .ok (.getfield 223, 3) := by decide +kernel
theorem dX4_lies_59 : decode cX4_lies 59 = .ok (.invokevirtual 226, 3) := by decide +kernel
theorem dX4_lies_62 : decode cX4_lies 62 = .ok (.iload_n 3, 1) := by decide +kernel
theorem dX4_lies_63 : decode cX4_lies 63 = .ok (.tableswitch 82 0 2 #[25, 43, 63], 25) := by decide +kernel
theorem dX4_lies_88 : decode cX4_lies 88 = .ok (.aload_n 0, 1) := by decide +kernel
theorem dX4_lies_89 : decode cX4_lies 89 = .ok (.getfield 56, 3) := by decide +kernel
theorem dX4_lies_92 : decode cX4_lies 92 = .ok (.getfield 237, 3) := by decide +kernel
theorem dX4_lies_95 : decode cX4_lies 95 = .ok (.iconst 0, 1) := by decide +kernel
theorem dX4_lies_96 : decode cX4_lies 96 = .ok (.aaload, 1) := by decide +kernel
theorem dX4_lies_97 : decode cX4_lies 97 = .ok (.aload 4, 2) := by decide +kernel
theorem dX4_lies_99 : decode cX4_lies 99 = .ok (.getfield 240, 3) := by decide +kernel
theorem dX4_lies_102 : decode cX4_lies 102 = .ok (.iload_n 2, 1) := by decide +kernel
theorem dX4_lies_103 : decode cX4_lies 103 = .ok (.iaload, 1) := by decide +kernel
theorem dX4_lies_104 : decode cX4_lies 104 = .ok (.iaload, 1) := by decide +kernel
theorem dX4_lies_105 : decode cX4_lies 105 = .ok (.ireturn, 1) := by decide +kernel
theorem dX4_lies_106 : decode cX4_lies 106 = .ok (.iconst 1, 1) := by decide +kernel
theorem dX4_lies_107 : decode cX4_lies 107 = .ok (.aload_n 0, 1) := by decide +kernel
theorem dX4_lies_108 : decode cX4_lies 108 = .ok (.getfield 56, 3) := by decide +kernel
theorem dX4_lies_111 : decode cX4_lies 111 = .ok (.getfield 243, 3) := by decide +kernel
theorem dX4_lies_114 : decode cX4_lies 114 = .ok (.iconst 0, 1) := by decide +kernel
theorem dX4_lies_115 : decode cX4_lies 115 = .ok (.aaload, 1) := by decide +kernel
theorem dX4_lies_116 : decode cX4_lies 116 = .ok (.aload 4, 2) := by decide +kernel
theorem dX4_lies_118 : decode cX4_lies 118 = .ok (.getfield 240, 3) := by decide +kernel
theorem dX4_lies_121 : decode cX4_lies 121 = .ok (.iload_n 2, 1) := by decide +kernel
theorem dX4_lies_122 : decode cX4_lies 122 = .ok (.iaload, 1) := by decide +kernel
theorem dX4_lies_123 : decode cX4_lies 123 = .ok (.iaload, 1) := by decide +kernel
theorem dX4_lies_124 : decode cX4_lies 124 = .ok (.isub, 1) := by decide +kernel
theorem dX4_lies_125 : decode cX4_lies 125 = .ok (.ireturn, 1) := by decide +kernel
theorem dX4_lies_126 : decode cX4_lies 126 = .ok (.aload_n 0, 1) := by decide +kernel
theorem dX4_lies_127 : decode cX4_lies 127 = .ok (.getfield 56, 3) := by decide +kernel
theorem dX4_lies_130 : decode cX4_lies 130 = .ok (.aload 4, 2) := by decide +kernel
theorem dX4_lies_132 : decode cX4_lies 132 = .ok (.iload_n 2, 1) := by decide +kernel
theorem dX4_lies_133 : decode cX4_lies 133 = .ok (.invokevirtual 246, 3) := by decide +kernel
theorem dX4_lies_136 : decode cX4_lies 136 = .ok (.ifCond .eq 7, 3) := by decide +kernel
theorem dX4_lies_139 : decode cX4_lies 139 = .ok (.iconst 1, 1) := by decide +kernel
theorem dX4_lies_140 : decode cX4_lies 140 = .ok (.goto 4, 3) := by decide +kernel
theorem dX4_lies_143 : decode cX4_lies 143 = .ok (.iconst 0, 1) := by decide +kernel
theorem dX4_lies_144 : decode cX4_lies 144 = .ok (.ireturn, 1) := by decide +kernel
theorem dX4_lies_145 : decode cX4_lies 145 = .ok (.aload_n 0, 1) := by decide +kernel
theorem dX4_lies_146 : decode cX4_lies 146 = .ok (.getfield 56, 3) := by decide +kernel
theorem dX4_lies_149 : decode cX4_lies 149 = .ok (.getfield 237, 3) := by decide +kernel
theorem dX4_lies_152 : decode cX4_lies 152 = .ok (.iconst 1, 1) := by decide +kernel
theorem dX4_lies_153 : decode cX4_lies 153 = .ok (.aaload, 1) := by decide +kernel
theorem dX4_lies_154 : decode cX4_lies 154 = .ok (.aload 4, 2) := by decide +kernel
theorem dX4_lies_156 : decode cX4_lies 156 = .ok (.getfield 249, 3) := by decide +kernel
theorem dX4_lies_159 : decode cX4_lies 159 = .ok (.iload_n 2, 1) := by decide +kernel
theorem dX4_lies_160 : decode cX4_lies 160 = .ok (.iaload, 1) := by decide +kernel
theorem dX4_lies_161 : decode cX4_lies 161 = .ok (.iaload, 1) := by decide +kernel
theorem dX4_lies_162 : decode cX4_lies 162 = .ok (.ireturn, 1) := by decide +kernel
theorem dX4_addPaper_0 : decode cX4_addPaper 0 = .ok (.aload_n 0, 1) := by decide +kernel
theorem dX4_addPaper_1 : decode cX4_addPaper 1 = .ok (.getfield 15, 3) := by decide +kernel
theorem dX4_addPaper_4 : decode cX4_addPaper 4 = .ok (.bipush 30, 2) := by decide +kernel
theorem dX4_addPaper_6 : decode cX4_addPaper 6 = .ok (.if_icmp .lt 6, 3) := by decide +kernel
theorem dX4_addPaper_9 : decode cX4_addPaper 9 = .ok (.bipush (-104), 2) := by decide +kernel
theorem dX4_addPaper_11 : decode cX4_addPaper 11 = .ok (.ireturn, 1) := by decide +kernel
theorem dX4_addPaper_12 : decode cX4_addPaper 12 = .ok (.aload_n 0, 1) := by decide +kernel
theorem dX4_addPaper_13 : decode cX4_addPaper 13 = .ok (.getfield 11, 3) := by decide +kernel
theorem dX4_addPaper_16 : decode cX4_addPaper 16 = .ok (.aload_n 0, 1) := by decide +kernel
theorem dX4_addPaper_17 : decode cX4_addPaper 17 = .ok (.getfield 15, 3) := by decide +kernel
theorem dX4_addPaper_20 : decode cX4_addPaper 20 = .ok (.new 9, 3) := by decide +kernel
theorem dX4_addPaper_23 : decode cX4_addPaper 23 = .ok (.dup, 1) := by decide +kernel
theorem dX4_addPaper_24 : decode cX4_addPaper 24 = .ok (.iload_n 1, 1) := by decide +kernel
theorem dX4_addPaper_25 : decode cX4_addPaper 25 = .ok (.iload_n 2, 1) := by decide +kernel
theorem dX4_addPaper_26 : decode cX4_addPaper 26 = .ok (.iload_n 3, 1) := by decide +kernel
theorem dX4_addPaper_27 : decode cX4_addPaper 27 = .ok (.invokespecial 252, 3) := by decide +kernel
theorem dX4_addPaper_30 : decode cX4_addPaper 30 = .ok (.aastore, 1) := by decide +kernel
theorem dX4_addPaper_31 : decode cX4_addPaper 31 = .ok (.aload_n 0, 1) := by decide +kernel
theorem dX4_addPaper_32 : decode cX4_addPaper 32 = .ok (.dup, 1) := by decide +kernel
theorem dX4_addPaper_33 : decode cX4_addPaper 33 = .ok (.getfield 15, 3) := by decide +kernel
theorem dX4_addPaper_36 : decode cX4_addPaper 36 = .ok (.iconst 1, 1) := by decide +kernel
theorem dX4_addPaper_37 : decode cX4_addPaper 37 = .ok (.iadd, 1) := by decide +kernel
theorem dX4_addPaper_38 : decode cX4_addPaper 38 = .ok (.putfield 15, 3) := by decide +kernel
theorem dX4_addPaper_41 : decode cX4_addPaper 41 = .ok (.aload_n 0, 1) := by decide +kernel
theorem dX4_addPaper_42 : decode cX4_addPaper 42 = .ok (.getfield 15, 3) := by decide +kernel
theorem dX4_addPaper_45 : decode cX4_addPaper 45 = .ok (.iconst 1, 1) := by decide +kernel
theorem dX4_addPaper_46 : decode cX4_addPaper 46 = .ok (.isub, 1) := by decide +kernel
theorem dX4_addPaper_47 : decode cX4_addPaper 47 = .ok (.ireturn, 1) := by decide +kernel
theorem dX4_find_0 : decode cX4_find 0 = .ok (.iload_n 1, 1) := by decide +kernel
theorem dX4_find_1 : decode cX4_find 1 = .ok (.ifCond .lt 11, 3) := by decide +kernel
theorem dX4_find_4 : decode cX4_find 4 = .ok (.iload_n 1, 1) := by decide +kernel
theorem dX4_find_5 : decode cX4_find 5 = .ok (.aload_n 0, 1) := by decide +kernel
theorem dX4_find_6 : decode cX4_find 6 = .ok (.getfield 15, 3) := by decide +kernel
theorem dX4_find_9 : decode cX4_find 9 = .ok (.if_icmp .lt 7, 3) := by decide +kernel
theorem dX4_find_12 : decode cX4_find 12 = .ok (.aconst_null, 1) := by decide +kernel
theorem dX4_find_13 : decode cX4_find 13 = .ok (.goto 9, 3) := by decide +kernel
theorem dX4_find_16 : decode cX4_find 16 = .ok (.aload_n 0, 1) := by decide +kernel
theorem dX4_find_17 : decode cX4_find 17 = .ok (.getfield 11, 3) := by decide +kernel
theorem dX4_find_20 : decode cX4_find 20 = .ok (.iload_n 1, 1) := by decide +kernel
theorem dX4_find_21 : decode cX4_find 21 = .ok (.aaload, 1) := by decide +kernel
theorem dX4_find_22 : decode cX4_find 22 = .ok (.areturn, 1) := by decide +kernel
theorem dX4_has_0 : decode cX4_has 0 = .ok (.iload_n 0, 1) := by decide +kernel
theorem dX4_has_1 : decode cX4_has 1 = .ok (.iload_n 1, 1) := by decide +kernel
theorem dX4_has_2 : decode cX4_has 2 = .ok (.ishr, 1) := by decide +kernel
theorem dX4_has_3 : decode cX4_has 3 = .ok (.iconst 1, 1) := by decide +kernel
theorem dX4_has_4 : decode cX4_has 4 = .ok (.iand, 1) := by decide +kernel
theorem dX4_has_5 : decode cX4_has 5 = .ok (.ifCond .eq 7, 3) := by decide +kernel
theorem dX4_has_8 : decode cX4_has 8 = .ok (.iconst 1, 1) := by decide +kernel
theorem dX4_has_9 : decode cX4_has 9 = .ok (.goto 4, 3) := by decide +kernel
theorem dX4_has_12 : decode cX4_has 12 = .ok (.iconst 0, 1) := by decide +kernel
theorem dX4_has_13 : decode cX4_has 13 = .ok (.ireturn, 1) := by decide +kernel
theorem dX4_readOrder_0 : decode cX4_readOrder 0 = .ok (.lload_n 2, 1) := by decide +kernel
theorem dX4_readOrder_1 : decode cX4_readOrder 1 = .ok (.lstore 4, 2) := by decide +kernel
theorem dX4_readOrder_3 : decode cX4_readOrder 3 = .ok (.iconst 0, 1) := by decide +kernel
theorem dX4_readOrder_4 : decode cX4_readOrder 4 = .ok (.istore 6, 2) := by decide +kernel
theorem dX4_readOrder_6 : decode cX4_readOrder 6 = .ok (.iconst 0, 1) := by decide +kernel
theorem dX4_readOrder_7 : decode cX4_readOrder 7 = .ok (.istore 7, 2) := by decide +kernel
theorem dX4_readOrder_9 : decode cX4_readOrder 9 = .ok (.iload 7, 2) := by decide +kernel
theorem dX4_readOrder_11 : decode cX4_readOrder 11 = .ok (.iload_n 1, 1) := by decide +kernel
theorem dX4_readOrder_12 : decode cX4_readOrder 12 = .ok (.if_icmp .ge 67, 3) := by decide +kernel
theorem dX4_readOrder_15 : decode cX4_readOrder 15 = .ok (.lload 4, 2) := by decide +kernel
theorem dX4_readOrder_17 : decode cX4_readOrder 17 = .ok (.ldc2_w 255, 3) := by decide +kernel
theorem dX4_readOrder_20 : decode cX4_readOrder 20 = .ok (.lrem, 1) := by decide +kernel
theorem dX4_readOrder_21 : decode cX4_readOrder 21 = .ok (.l2i, 1) := by decide +kernel
theorem dX4_readOrder_22 : decode cX4_readOrder 22 = .ok (.istore 8, 2) := by decide +kernel
theorem dX4_readOrder_24 : decode cX4_readOrder 24 = .ok (.lload 4, 2) := by decide +kernel
theorem dX4_readOrder_26 : decode cX4_readOrder 26 = .ok (.ldc2_w 255, 3) := by decide +kernel
theorem dX4_readOrder_29 : decode cX4_readOrder 29 = .ok (.ldiv, 1) := by decide +kernel
theorem dX4_readOrder_30 : decode cX4_readOrder 30 = .ok (.lstore 4, 2) := by decide +kernel
theorem dX4_readOrder_32 : decode cX4_readOrder 32 = .ok (.iload 8, 2) := by decide +kernel
theorem dX4_readOrder_34 : decode cX4_readOrder 34 = .ok (.ifCond .lt 19, 3) := by decide +kernel
theorem dX4_readOrder_37 : decode cX4_readOrder 37 = .ok (.iload 8, 2) := by decide +kernel
theorem dX4_readOrder_39 : decode cX4_readOrder 39 = .ok (.iload_n 1, 1) := by decide +kernel
theorem dX4_readOrder_40 : decode cX4_readOrder 40 = .ok (.if_icmp .ge 13, 3) := by decide +kernel
theorem dX4_readOrder_43 : decode cX4_readOrder 43 = .ok (.iload 6, 2) := by decide +kernel
theorem dX4_readOrder_45 : decode cX4_readOrder 45 = .ok (.iload 8, 2) := by decide +kernel
theorem dX4_readOrder_47 : decode cX4_readOrder 47 = .ok (.invokestatic 205, 3) := by decide +kernel
theorem dX4_readOrder_50 : decode cX4_readOrder 50 = .ok (.ifCond .eq 5, 3) := by decide +kernel
theorem dX4_readOrder_53 : decode cX4_readOrder 53 = .ok (.iconst 0, 1) := by decide +kernel
theorem dX4_readOrder_54 : decode cX4_readOrder 54 = .ok (.ireturn, 1) := by decide +kernel
theorem dX4_readOrder_55 : decode cX4_readOrder 55 = .ok (.iload 6, 2) := by decide +kernel
theorem dX4_readOrder_57 : decode cX4_readOrder 57 = .ok (.iconst 1, 1) := by decide +kernel
theorem dX4_readOrder_58 : decode cX4_readOrder 58 = .ok (.iload 8, 2) := by decide +kernel
theorem dX4_readOrder_60 : decode cX4_readOrder 60 = .ok (.ishl, 1) := by decide +kernel
theorem dX4_readOrder_61 : decode cX4_readOrder 61 = .ok (.ior, 1) := by decide +kernel
theorem dX4_readOrder_62 : decode cX4_readOrder 62 = .ok (.istore 6, 2) := by decide +kernel
theorem dX4_readOrder_64 : decode cX4_readOrder 64 = .ok (.aload_n 0, 1) := by decide +kernel
theorem dX4_readOrder_65 : decode cX4_readOrder 65 = .ok (.getfield 40, 3) := by decide +kernel
theorem dX4_readOrder_68 : decode cX4_readOrder 68 = .ok (.iload 8, 2) := by decide +kernel
theorem dX4_readOrder_70 : decode cX4_readOrder 70 = .ok (.iload 7, 2) := by decide +kernel
theorem dX4_readOrder_72 : decode cX4_readOrder 72 = .ok (.iastore, 1) := by decide +kernel
theorem dX4_readOrder_73 : decode cX4_readOrder 73 = .ok (.iinc 7 1, 3) := by decide +kernel
theorem dX4_readOrder_76 : decode cX4_readOrder 76 = .ok (.goto (-67), 3) := by decide +kernel
theorem dX4_readOrder_79 : decode cX4_readOrder 79 = .ok (.lload 4, 2) := by decide +kernel
theorem dX4_readOrder_81 : decode cX4_readOrder 81 = .ok (.lconst 0, 1) := by decide +kernel
theorem dX4_readOrder_82 : decode cX4_readOrder 82 = .ok (.lcmp, 1) := by decide +kernel
theorem dX4_readOrder_83 : decode cX4_readOrder 83 = .ok (.ifCond .ne 7, 3) := by decide +kernel
theorem dX4_readOrder_86 : decode cX4_readOrder 86 = .ok (.iconst 1, 1) := by decide +kernel
theorem dX4_readOrder_87 : decode cX4_readOrder 87 = .ok (.goto 4, 3) := by decide +kernel
theorem dX4_readOrder_90 : decode cX4_readOrder 90 = .ok (.iconst 0, 1) := by decide +kernel
theorem dX4_readOrder_91 : decode cX4_readOrder 91 = .ok (.ireturn, 1) := by decide +kernel
theorem dX4_canBecome_0 : decode cX4_canBecome 0 = .ok (.aload_n 0, 1) := by decide +kernel
theorem dX4_canBecome_1 : decode cX4_canBecome 1 = .ok (.getfield 22, 3) := by decide +kernel
theorem dX4_canBecome_4 : decode cX4_canBecome 4 = .ok (.aload_n 1, 1) := by decide +kernel
theorem dX4_canBecome_5 : decode cX4_canBecome 5 = .ok (.invokevirtual 127, 3) := by decide +kernel
theorem dX4_canBecome_8 : decode cX4_canBecome 8 = .ok (.aload_n 0, 1) := by decide +kernel
theorem dX4_canBecome_9 : decode cX4_canBecome 9 = .ok (.getfield 22, 3) := by decide +kernel
theorem dX4_canBecome_12 : decode cX4_canBecome 12 = .ok (.iload_n 2, 1) := by decide +kernel
theorem dX4_canBecome_13 : decode cX4_canBecome 13 = .ok (.iload_n 3, 1) := by decide +kernel
theorem dX4_canBecome_14 : decode cX4_canBecome 14 = .ok (.invokevirtual 257, 3) := by decide +kernel
theorem dX4_canBecome_17 : decode cX4_canBecome 17 = .ok (.aload_n 0, 1) := by decide +kernel
theorem dX4_canBecome_18 : decode cX4_canBecome 18 = .ok (.getfield 22, 3) := by decide +kernel
theorem dX4_canBecome_21 : decode cX4_canBecome 21 = .ok (.invokevirtual 131, 3) := by decide +kernel
theorem dX4_canBecome_24 : decode cX4_canBecome 24 = .ok (.ireturn, 1) := by decide +kernel
theorem dX4_canLieBelow_0 : decode cX4_canLieBelow 0 = .ok (.aload_n 0, 1) := by decide +kernel
theorem dX4_canLieBelow_1 : decode cX4_canLieBelow 1 = .ok (.getfield 22, 3) := by decide +kernel
theorem dX4_canLieBelow_4 : decode cX4_canLieBelow 4 = .ok (.aload_n 1, 1) := by decide +kernel
theorem dX4_canLieBelow_5 : decode cX4_canLieBelow 5 = .ok (.invokevirtual 127, 3) := by decide +kernel
theorem dX4_canLieBelow_8 : decode cX4_canLieBelow 8 = .ok (.aload_n 0, 1) := by decide +kernel
theorem dX4_canLieBelow_9 : decode cX4_canLieBelow 9 = .ok (.getfield 22, 3) := by decide +kernel
theorem dX4_canLieBelow_12 : decode cX4_canLieBelow 12 = .ok (.iload_n 2, 1) := by decide +kernel
theorem dX4_canLieBelow_13 : decode cX4_canLieBelow 13 = .ok (.iload_n 3, 1) := by decide +kernel
theorem dX4_canLieBelow_14 : decode cX4_canLieBelow 14 = .ok (.invokevirtual 261, 3) := by decide +kernel
theorem dX4_canLieBelow_17 : decode cX4_canLieBelow 17 = .ok (.aload_n 0, 1) := by decide +kernel
theorem dX4_canLieBelow_18 : decode cX4_canLieBelow 18 = .ok (.getfield 22, 3) := by decide +kernel
theorem dX4_canLieBelow_21 : decode cX4_canLieBelow 21 = .ok (.invokevirtual 131, 3) := by decide +kernel
theorem dX4_canLieBelow_24 : decode cX4_canLieBelow 24 = .ok (.ireturn, 1) := by decide +kernel
theorem dX4_allowsSome_0 : decode cX4_allowsSome 0 = .ok (.aload_n 0, 1) := by decide +kernel
theorem dX4_allowsSome_1 : decode cX4_allowsSome 1 = .ok (.getfield 22, 3) := by decide +kernel
theorem dX4_allowsSome_4 : decode cX4_allowsSome 4 = .ok (.aload_n 1, 1) := by decide +kernel
theorem dX4_allowsSome_5 : decode cX4_allowsSome 5 = .ok (.iload_n 2, 1) := by decide +kernel
theorem dX4_allowsSome_6 : decode cX4_allowsSome 6 = .ok (.invokevirtual 264, 3) := by decide +kernel
theorem dX4_allowsSome_9 : decode cX4_allowsSome 9 = .ok (.aload_n 0, 1) := by decide +kernel
theorem dX4_allowsSome_10 : decode cX4_allowsSome 10 = .ok (.getfield 22, 3) := by decide +kernel
theorem dX4_allowsSome_13 : decode cX4_allowsSome 13 = .ok (.invokevirtual 131, 3) := by decide +kernel
theorem dX4_allowsSome_16 : decode cX4_allowsSome 16 = .ok (.ireturn, 1) := by decide +kernel
theorem dX4_allowTheSame_0 : decode cX4_allowTheSame 0 = .ok (.aload_n 0, 1) := by decide +kernel
theorem dX4_allowTheSame_1 : decode cX4_allowTheSame 1 = .ok (.getfield 22, 3) := by decide +kernel
theorem dX4_allowTheSame_4 : decode cX4_allowTheSame 4 = .ok (.aload_n 1, 1) := by decide +kernel
theorem dX4_allowTheSame_5 : decode cX4_allowTheSame 5 = .ok (.invokevirtual 127, 3) := by decide +kernel
theorem dX4_allowTheSame_8 : decode cX4_allowTheSame 8 = .ok (.aload_n 0, 1) := by decide +kernel
theorem dX4_allowTheSame_9 : decode cX4_allowTheSame 9 = .ok (.getfield 26, 3) := by decide +kernel
theorem dX4_allowTheSame_12 : decode cX4_allowTheSame 12 = .ok (.aload_n 2, 1) := by decide +kernel
theorem dX4_allowTheSame_13 : decode cX4_allowTheSame 13 = .ok (.invokevirtual 127, 3) := by decide +kernel
theorem dX4_allowTheSame_16 : decode cX4_allowTheSame 16 = .ok (.iconst 0, 1) := by decide +kernel
theorem dX4_allowTheSame_17 : decode cX4_allowTheSame 17 = .ok (.istore_n 3, 1) := by decide +kernel
theorem dX4_allowTheSame_18 : decode cX4_allowTheSame 18 = .ok (.iload_n 3, 1) := by decide +kernel
theorem dX4_allowTheSame_19 : decode cX4_allowTheSame 19 = .ok (.ldc 151, 2) := by decide +kernel
theorem dX4_allowTheSame_21 : decode cX4_allowTheSame 21 = .ok (.if_icmp .gt 59, 3) := by decide +kernel
theorem dX4_allowTheSame_24 : decode cX4_allowTheSame 24 = .ok (.aload_n 0, 1) := by decide +kernel
theorem dX4_allowTheSame_25 : decode cX4_allowTheSame 25 = .ok (.getfield 22, 3) := by decide +kernel
theorem dX4_allowTheSame_28 : decode cX4_allowTheSame 28 = .ok (.invokevirtual 131, 3) := by decide +kernel
theorem dX4_allowTheSame_31 : decode cX4_allowTheSame 31 = .ok (.istore 4, 2) := by decide +kernel
theorem dX4_allowTheSame_33 : decode cX4_allowTheSame 33 = .ok (.iload 4, 2) := by decide +kernel
theorem dX4_allowTheSame_35 : decode cX4_allowTheSame 35 = .ok (.aload_n 0, 1) := by decide +kernel
theorem dX4_allowTheSame_36 : decode cX4_allowTheSame 36 = .ok (.getfield 26, 3) := by decide +kernel
theorem dX4_allowTheSame_39 : decode cX4_allowTheSame 39 = .ok (.invokevirtual 131, 3) := by decide +kernel
theorem dX4_allowTheSame_42 : decode cX4_allowTheSame 42 = .ok (.if_icmp .eq 5, 3) := by decide +kernel
theorem dX4_allowTheSame_45 : decode cX4_allowTheSame 45 = .ok (.iconst 0, 1) := by decide +kernel
theorem dX4_allowTheSame_46 : decode cX4_allowTheSame 46 = .ok (.ireturn, 1) := by decide +kernel
theorem dX4_allowTheSame_47 : decode cX4_allowTheSame 47 = .ok (.iload 4, 2) := by decide +kernel
theorem dX4_allowTheSame_49 : decode cX4_allowTheSame 49 = .ok (.ifCond .ne 5, 3) := by decide +kernel
theorem dX4_allowTheSame_52 : decode cX4_allowTheSame 52 = .ok (.iconst 1, 1) := by decide +kernel
theorem dX4_allowTheSame_53 : decode cX4_allowTheSame 53 = .ok (.ireturn, 1) := by decide +kernel
theorem dX4_allowTheSame_54 : decode cX4_allowTheSame 54 = .ok (.aload_n 0, 1) := by decide +kernel
theorem dX4_allowTheSame_55 : decode cX4_allowTheSame 55 = .ok (.getfield 22, 3) := by decide +kernel
theorem dX4_allowTheSame_58 : decode cX4_allowTheSame 58 = .ok (.invokevirtual 156, 3) := by decide +kernel
theorem dX4_allowTheSame_61 : decode cX4_allowTheSame 61 = .ok (.aload_n 0, 1) := by decide +kernel
theorem dX4_allowTheSame_62 : decode cX4_allowTheSame 62 = .ok (.getfield 26, 3) := by decide +kernel
theorem dX4_allowTheSame_65 : decode cX4_allowTheSame 65 = .ok (.invokevirtual 156, 3) := by decide +kernel
theorem dX4_allowTheSame_68 : decode cX4_allowTheSame 68 = .ok (.lcmp, 1) := by decide +kernel
theorem dX4_allowTheSame_69 : decode cX4_allowTheSame 69 = .ok (.ifCond .eq 5, 3) := by decide +kernel
theorem dX4_allowTheSame_72 : decode cX4_allowTheSame 72 = .ok (.iconst 0, 1) := by decide +kernel
theorem dX4_allowTheSame_73 : decode cX4_allowTheSame 73 = .ok (.ireturn, 1) := by decide +kernel
theorem dX4_allowTheSame_74 : decode cX4_allowTheSame 74 = .ok (.iinc 3 1, 3) := by decide +kernel
theorem dX4_allowTheSame_77 : decode cX4_allowTheSame 77 = .ok (.goto (-59), 3) := by decide +kernel
theorem dX4_allowTheSame_80 : decode cX4_allowTheSame 80 = .ok (.iconst 1, 1) := by decide +kernel
theorem dX4_allowTheSame_81 : decode cX4_allowTheSame 81 = .ok (.ireturn, 1) := by decide +kernel
theorem dX4_isNew_0 : decode cX4_isNew 0 = .ok (.lconst 1, 1) := by decide +kernel
theorem dX4_isNew_1 : decode cX4_isNew 1 = .ok (.iload_n 1, 1) := by decide +kernel
theorem dX4_isNew_2 : decode cX4_isNew 2 = .ok (.bipush 63, 2) := by decide +kernel
theorem dX4_isNew_4 : decode cX4_isNew 4 = .ok (.iand, 1) := by decide +kernel
theorem dX4_isNew_5 : decode cX4_isNew 5 = .ok (.lshl, 1) := by decide +kernel
theorem dX4_isNew_6 : decode cX4_isNew 6 = .ok (.lstore_n 2, 1) := by decide +kernel
theorem dX4_isNew_7 : decode cX4_isNew 7 = .ok (.iload_n 1, 1) := by decide +kernel
theorem dX4_isNew_8 : decode cX4_isNew 8 = .ok (.bipush 6, 2) := by decide +kernel
theorem dX4_isNew_10 : decode cX4_isNew 10 = .ok (.ishr, 1) := by decide +kernel
theorem dX4_isNew_11 : decode cX4_isNew 11 = .ok (.istore 4, 2) := by decide +kernel
theorem dX4_isNew_13 : decode cX4_isNew 13 = .ok (.iload 4, 2) := by decide +kernel
theorem dX4_isNew_15 : decode cX4_isNew 15 = .ok (.ifCond .lt 27, 3) := by decide +kernel
theorem dX4_isNew_18 : decode cX4_isNew 18 = .ok (.iload 4, 2) := by decide +kernel
theorem dX4_isNew_20 : decode cX4_isNew 20 = .ok (.aload_n 0, 1) := by decide +kernel
theorem dX4_isNew_21 : decode cX4_isNew 21 = .ok (.getfield 43, 3) := by decide +kernel
theorem dX4_isNew_24 : decode cX4_isNew 24 = .ok (.arraylength, 1) := by decide +kernel
theorem dX4_isNew_25 : decode cX4_isNew 25 = .ok (.if_icmp .ge 17, 3) := by decide +kernel
theorem dX4_isNew_28 : decode cX4_isNew 28 = .ok (.aload_n 0, 1) := by decide +kernel
theorem dX4_isNew_29 : decode cX4_isNew 29 = .ok (.getfield 43, 3) := by decide +kernel
theorem dX4_isNew_32 : decode cX4_isNew 32 = .ok (.iload 4, 2) := by decide +kernel
theorem dX4_isNew_34 : decode cX4_isNew 34 = .ok (.laload, 1) := by decide +kernel
theorem dX4_isNew_35 : decode cX4_isNew 35 = .ok (.lload_n 2, 1) := by decide +kernel
theorem dX4_isNew_36 : decode cX4_isNew 36 = .ok (.land, 1) := by decide +kernel
theorem dX4_isNew_37 : decode cX4_isNew 37 = .ok (.lconst 0, 1) := by decide +kernel
theorem dX4_isNew_38 : decode cX4_isNew 38 = .ok (.lcmp, 1) := by decide +kernel
theorem dX4_isNew_39 : decode cX4_isNew 39 = .ok (.ifCond .eq 5, 3) := by decide +kernel
theorem dX4_isNew_42 : decode cX4_isNew 42 = .ok (.iconst 0, 1) := by decide +kernel
theorem dX4_isNew_43 : decode cX4_isNew 43 = .ok (.ireturn, 1) := by decide +kernel
theorem dX4_isNew_44 : decode cX4_isNew 44 = .ok (.aload_n 0, 1) := by decide +kernel
theorem dX4_isNew_45 : decode cX4_isNew 45 = .ok (.getfield 43, 3) := by decide +kernel
theorem dX4_isNew_48 : decode cX4_isNew 48 = .ok (.iload 4, 2) := by decide +kernel
theorem dX4_isNew_50 : decode cX4_isNew 50 = .ok (.dup2, 1) := by decide +kernel
theorem dX4_isNew_51 : decode cX4_isNew 51 = .ok (.laload, 1) := by decide +kernel
theorem dX4_isNew_52 : decode cX4_isNew 52 = .ok (.lload_n 2, 1) := by decide +kernel
theorem dX4_isNew_53 : decode cX4_isNew 53 = .ok (.lor, 1) := by decide +kernel
theorem dX4_isNew_54 : decode cX4_isNew 54 = .ok (.lastore, 1) := by decide +kernel
theorem dX4_isNew_55 : decode cX4_isNew 55 = .ok (.iconst 1, 1) := by decide +kernel
theorem dX4_isNew_56 : decode cX4_isNew 56 = .ok (.ireturn, 1) := by decide +kernel
