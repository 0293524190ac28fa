theorem dX0_init_0 : decode cX0_init 0 = .ok (.aload_n 0, 1) := by decide +kernel
theorem dX0_init_1 : decode cX0_init 1 = .ok (.invokespecial 3, 3) := by decide +kernel
theorem dX0_init_4 : decode cX0_init 4 = .ok (.return_, 1) := by decide +kernel
theorem dX0_find_0 : decode cX0_find 0 = .ok (.aload_n 1, 1) := by decide +kernel
theorem dX0_find_1 : decode cX0_find 1 = .ok (.aload_n 2, 1) := by decide +kernel
theorem dX0_find_2 : decode cX0_find 2 = .ok (.invokestatic 9, 3) := by decide +kernel
theorem dX0_find_5 : decode cX0_find 5 = .ok (.istore_n 3, 1) := by decide +kernel
theorem dX0_find_6 : decode cX0_find 6 = .ok (.iload_n 3, 1) := by decide +kernel
theorem dX0_find_7 : decode cX0_find 7 = .ok (.istore 4, 2) := by decide +kernel
theorem dX0_find_9 : decode cX0_find 9 = .ok (.iload 4, 2) := by decide +kernel
theorem dX0_find_11 : decode cX0_find 11 = .ok (.ifCond .le 34, 3) := by decide +kernel
theorem dX0_find_14 : decode cX0_find 14 = .ok (.aload_n 2, 1) := by decide +kernel
theorem dX0_find_15 : decode cX0_find 15 = .ok (.aload_n 2, 1) := by decide +kernel
theorem dX0_find_16 : decode cX0_find 16 = .ok (.iload 4, 2) := by decide +kernel
theorem dX0_find_18 : decode cX0_find 18 = .ok (.invokevirtual 15, 3) := by decide +kernel
theorem dX0_find_21 : decode cX0_find 21 = .ok (.invokevirtual 21, 3) := by decide +kernel
theorem dX0_find_24 : decode cX0_find 24 = .ok (.aload_n 2, 1) := by decide +kernel
theorem dX0_find_25 : decode cX0_find 25 = .ok (.aload_n 2, 1) := by decide +kernel
theorem dX0_find_26 : decode cX0_find 26 = .ok (.iload 4, 2) := by decide +kernel
theorem dX0_find_28 : decode cX0_find 28 = .ok (.iconst 1, 1) := by decide +kernel
theorem dX0_find_29 : decode cX0_find 29 = .ok (.isub, 1) := by decide +kernel
theorem dX0_find_30 : decode cX0_find 30 = .ok (.invokevirtual 15, 3) := by decide +kernel
theorem dX0_find_33 : decode cX0_find 33 = .ok (.invokevirtual 24, 3) := by decide +kernel
theorem dX0_find_36 : decode cX0_find 36 = .ok (.if_icmp .ne 9, 3) := by decide +kernel
theorem dX0_find_39 : decode cX0_find 39 = .ok (.iinc 4 (-1), 3) := by decide +kernel
theorem dX0_find_42 : decode cX0_find 42 = .ok (.goto (-33), 3) := by decide +kernel
theorem dX0_find_45 : decode cX0_find 45 = .ok (.aload_n 0, 1) := by decide +kernel
theorem dX0_find_46 : decode cX0_find 46 = .ok (.aload_n 2, 1) := by decide +kernel
theorem dX0_find_47 : decode cX0_find 47 = .ok (.iload_n 3, 1) := by decide +kernel
theorem dX0_find_48 : decode cX0_find 48 = .ok (.invokevirtual 15, 3) := by decide +kernel
theorem dX0_find_51 : decode cX0_find 51 = .ok (.putfield 27, 3) := by decide +kernel
theorem dX0_find_54 : decode cX0_find 54 = .ok (.aload_n 0, 1) := by decide +kernel
theorem dX0_find_55 : decode cX0_find 55 = .ok (.aload_n 2, 1) := by decide +kernel
theorem dX0_find_56 : decode cX0_find 56 = .ok (.iload 4, 2) := by decide +kernel
theorem dX0_find_58 : decode cX0_find 58 = .ok (.invokevirtual 15, 3) := by decide +kernel
theorem dX0_find_61 : decode cX0_find 61 = .ok (.putfield 31, 3) := by decide +kernel
theorem dX0_find_64 : decode cX0_find 64 = .ok (.aload_n 0, 1) := by decide +kernel
theorem dX0_find_65 : decode cX0_find 65 = .ok (.iload_n 3, 1) := by decide +kernel
theorem dX0_find_66 : decode cX0_find 66 = .ok (.iload 4, 2) := by decide +kernel
theorem dX0_find_68 : decode cX0_find 68 = .ok (.isub, 1) := by decide +kernel
theorem dX0_find_69 : decode cX0_find 69 = .ok (.iconst 1, 1) := by decide +kernel
theorem dX0_find_70 : decode cX0_find 70 = .ok (.iadd, 1) := by decide +kernel
theorem dX0_find_71 : decode cX0_find 71 = .ok (.putfield 34, 3) := by decide +kernel
theorem dX0_find_74 : decode cX0_find 74 = .ok (.aload_n 0, 1) := by decide +kernel
theorem dX0_find_75 : decode cX0_find 75 = .ok (.aload_n 1, 1) := by decide +kernel
theorem dX0_find_76 : decode cX0_find 76 = .ok (.aload_n 2, 1) := by decide +kernel
theorem dX0_find_77 : decode cX0_find 77 = .ok (.iload 4, 2) := by decide +kernel
theorem dX0_find_79 : decode cX0_find 79 = .ok (.iload_n 3, 1) := by decide +kernel
theorem dX0_find_80 : decode cX0_find 80 = .ok (.invokevirtual 37, 3) := by decide +kernel
theorem dX0_find_83 : decode cX0_find 83 = .ok (.return_, 1) := by decide +kernel
theorem dX0_placeOfLast_0 : decode cX0_placeOfLast 0 = .ok (.iconst (-1), 1) := by decide +kernel
theorem dX0_placeOfLast_1 : decode cX0_placeOfLast 1 = .ok (.istore_n 2, 1) := by decide +kernel
theorem dX0_placeOfLast_2 : decode cX0_placeOfLast 2 = .ok (.iconst 0, 1) := by decide +kernel
theorem dX0_placeOfLast_3 : decode cX0_placeOfLast 3 = .ok (.istore_n 3, 1) := by decide +kernel
theorem dX0_placeOfLast_4 : decode cX0_placeOfLast 4 = .ok (.iload_n 3, 1) := by decide +kernel
theorem dX0_placeOfLast_5 : decode cX0_placeOfLast 5 = .ok (.aload_n 1, 1) := by decide +kernel
theorem dX0_placeOfLast_6 : decode cX0_placeOfLast 6 = .ok (.getfield 41, 3) := by decide +kernel
theorem dX0_placeOfLast_9 : decode cX0_placeOfLast 9 = .ok (.if_icmp .ge 38, 3) := by decide +kernel
theorem dX0_placeOfLast_12 : decode cX0_placeOfLast 12 = .ok (.aload_n 1, 1) := by decide +kernel
theorem dX0_placeOfLast_13 : decode cX0_placeOfLast 13 = .ok (.iload_n 3, 1) := by decide +kernel
theorem dX0_placeOfLast_14 : decode cX0_placeOfLast 14 = .ok (.invokevirtual 15, 3) := by decide +kernel
theorem dX0_placeOfLast_17 : decode cX0_placeOfLast 17 = .ok (.istore 4, 2) := by decide +kernel
theorem dX0_placeOfLast_19 : decode cX0_placeOfLast 19 = .ok (.aload_n 1, 1) := by decide +kernel
theorem dX0_placeOfLast_20 : decode cX0_placeOfLast 20 = .ok (.iload 4, 2) := by decide +kernel
theorem dX0_placeOfLast_22 : decode cX0_placeOfLast 22 = .ok (.invokevirtual 24, 3) := by decide +kernel
theorem dX0_placeOfLast_25 : decode cX0_placeOfLast 25 = .ok (.aload_n 0, 1) := by decide +kernel
theorem dX0_placeOfLast_26 : decode cX0_placeOfLast 26 = .ok (.iload 4, 2) := by decide +kernel
theorem dX0_placeOfLast_28 : decode cX0_placeOfLast 28 = .ok (.invokevirtual 42, 3) := by decide +kernel
theorem dX0_placeOfLast_31 : decode cX0_placeOfLast 31 = .ok (.iadd, 1) := by decide +kernel
theorem dX0_placeOfLast_32 : decode cX0_placeOfLast 32 = .ok (.aload_n 1, 1) := by decide +kernel
theorem dX0_placeOfLast_33 : decode cX0_placeOfLast 33 = .ok (.getfield 47, 3) := by decide +kernel
theorem dX0_placeOfLast_36 : decode cX0_placeOfLast 36 = .ok (.if_icmp .ne 5, 3) := by decide +kernel
theorem dX0_placeOfLast_39 : decode cX0_placeOfLast 39 = .ok (.iload_n 3, 1) := by decide +kernel
theorem dX0_placeOfLast_40 : decode cX0_placeOfLast 40 = .ok (.istore_n 2, 1) := by decide +kernel
theorem dX0_placeOfLast_41 : decode cX0_placeOfLast 41 = .ok (.iinc 3 1, 3) := by decide +kernel
theorem dX0_placeOfLast_44 : decode cX0_placeOfLast 44 = .ok (.goto (-40), 3) := by decide +kernel
theorem dX0_placeOfLast_47 : decode cX0_placeOfLast 47 = .ok (.iload_n 2, 1) := by decide +kernel
theorem dX0_placeOfLast_48 : decode cX0_placeOfLast 48 = .ok (.ireturn, 1) := by decide +kernel
theorem dX0_findBar_0 : decode cX0_findBar 0 = .ok (.aload_n 0, 1) := by decide +kernel
theorem dX0_findBar_1 : decode cX0_findBar 1 = .ok (.iconst (-1), 1) := by decide +kernel
theorem dX0_findBar_2 : decode cX0_findBar 2 = .ok (.putfield 50, 3) := by decide +kernel
theorem dX0_findBar_5 : decode cX0_findBar 5 = .ok (.aload_n 0, 1) := by decide +kernel
theorem dX0_findBar_6 : decode cX0_findBar 6 = .ok (.iconst 0, 1) := by decide +kernel
theorem dX0_findBar_7 : decode cX0_findBar 7 = .ok (.putfield 53, 3) := by decide +kernel
theorem dX0_findBar_10 : decode cX0_findBar 10 = .ok (.iconst 0, 1) := by decide +kernel
theorem dX0_findBar_11 : decode cX0_findBar 11 = .ok (.istore 5, 2) := by decide +kernel
theorem dX0_findBar_13 : decode cX0_findBar 13 = .ok (.iconst (-1), 1) := by decide +kernel
theorem dX0_findBar_14 : decode cX0_findBar 14 = .ok (.istore 6, 2) := by decide +kernel
theorem dX0_findBar_16 : decode cX0_findBar 16 = .ok (.iload 4, 2) := by decide +kernel
theorem dX0_findBar_18 : decode cX0_findBar 18 = .ok (.istore 7, 2) := by decide +kernel
theorem dX0_findBar_20 : decode cX0_findBar 20 = .ok (.iload 7, 2) := by decide +kernel
theorem dX0_findBar_22 : decode cX0_findBar 22 = .ok (.iload_n 3, 1) := by decide +kernel
theorem dX0_findBar_23 : decode cX0_findBar 23 = .ok (.if_icmp .lt 144, 3) := by decide +kernel
theorem dX0_findBar_26 : decode cX0_findBar 26 = .ok (.iload 7, 2) := by decide +kernel
theorem dX0_findBar_28 : decode cX0_findBar 28 = .ok (.ifCond .lt 139, 3) := by decide +kernel
theorem dX0_findBar_31 : decode cX0_findBar 31 = .ok (.aload_n 2, 1) := by decide +kernel
theorem dX0_findBar_32 : decode cX0_findBar 32 = .ok (.iload 7, 2) := by decide +kernel
theorem dX0_findBar_34 : decode cX0_findBar 34 = .ok (.invokevirtual 15, 3) := by decide +kernel
theorem dX0_findBar_37 : decode cX0_findBar 37 = .ok (.istore 8, 2) := by decide +kernel
theorem dX0_findBar_39 : decode cX0_findBar 39 = .ok (.aload_n 1, 1) := by decide +kernel
theorem dX0_findBar_40 : decode cX0_findBar 40 = .ok (.iload 8, 2) := by decide +kernel
theorem dX0_findBar_42 : decode cX0_findBar 42 = .ok (.invokevirtual 42, 3) := by decide +kernel
theorem dX0_findBar_45 : decode cX0_findBar 45 = .ok (.aload_n 1, 1) := by decide +kernel
theorem dX0_findBar_46 : decode cX0_findBar 46 = .ok (.aload_n 0, 1) := by decide +kernel
theorem dX0_findBar_47 : decode cX0_findBar 47 = .ok (.getfield 27, 3) := by decide +kernel
theorem dX0_findBar_50 : decode cX0_findBar 50 = .ok (.invokevirtual 42, 3) := by decide +kernel
theorem dX0_findBar_53 : decode cX0_findBar 53 = .ok (.if_icmp .ge 56, 3) := by decide +kernel
theorem dX0_findBar_56 : decode cX0_findBar 56 = .ok (.aload_n 0, 1) := by decide +kernel
theorem dX0_findBar_57 : decode cX0_findBar 57 = .ok (.iload 8, 2) := by decide +kernel
theorem dX0_findBar_59 : decode cX0_findBar 59 = .ok (.putfield 50, 3) := by decide +kernel
theorem dX0_findBar_62 : decode cX0_findBar 62 = .ok (.aload_n 0, 1) := by decide +kernel
theorem dX0_findBar_63 : decode cX0_findBar 63 = .ok (.aload_n 1, 1) := by decide +kernel
theorem dX0_findBar_64 : decode cX0_findBar 64 = .ok (.aload_n 0, 1) := by decide +kernel
theorem dX0_findBar_65 : decode cX0_findBar 65 = .ok (.getfield 50, 3) := by decide +kernel
theorem dX0_findBar_68 : decode cX0_findBar 68 = .ok (.invokevirtual 42, 3) := by decide +kernel
theorem dX0_findBar_71 : decode cX0_findBar 71 = .ok (.iload 5, 2) := by decide +kernel
theorem dX0_findBar_73 : decode cX0_findBar 73 = .ok (.aload_n 1, 1) := by decide +kernel
theorem dX0_findBar_74 : decode cX0_findBar 74 = .ok (.aload_n 0, 1) := by decide +kernel
theorem dX0_findBar_75 : decode cX0_findBar 75 = .ok (.getfield 27, 3) := by decide +kernel
theorem dX0_findBar_78 : decode cX0_findBar 78 = .ok (.invokevirtual 42, 3) := by decide +kernel
theorem dX0_findBar_81 : decode cX0_findBar 81 = .ok (.iadd, 1) := by decide +kernel
theorem dX0_findBar_82 : decode cX0_findBar 82 = .ok (.invokestatic 56, 3) := by decide +kernel
theorem dX0_findBar_85 : decode cX0_findBar 85 = .ok (.putfield 62, 3) := by decide +kernel
theorem dX0_findBar_88 : decode cX0_findBar 88 = .ok (.aload_n 0, 1) := by decide +kernel
theorem dX0_findBar_89 : decode cX0_findBar 89 = .ok (.aload_n 1, 1) := by decide +kernel
theorem dX0_findBar_90 : decode cX0_findBar 90 = .ok (.aload_n 0, 1) := by decide +kernel
theorem dX0_findBar_91 : decode cX0_findBar 91 = .ok (.getfield 50, 3) := by decide +kernel
theorem dX0_findBar_94 : decode cX0_findBar 94 = .ok (.invokevirtual 65, 3) := by decide +kernel
theorem dX0_findBar_97 : decode cX0_findBar 97 = .ok (.iload 6, 2) := by decide +kernel
theorem dX0_findBar_99 : decode cX0_findBar 99 = .ok (.iload 5, 2) := by decide +kernel
theorem dX0_findBar_101 : decode cX0_findBar 101 = .ok (.iadd, 1) := by decide +kernel
theorem dX0_findBar_102 : decode cX0_findBar 102 = .ok (.invokestatic 56, 3) := by decide +kernel
theorem dX0_findBar_105 : decode cX0_findBar 105 = .ok (.putfield 68, 3) := by decide +kernel
theorem dX0_findBar_108 : decode cX0_findBar 108 = .ok (.return_, 1) := by decide +kernel
theorem dX0_findBar_109 : decode cX0_findBar 109 = .ok (.aload_n 0, 1) := by decide +kernel
theorem dX0_findBar_110 : decode cX0_findBar 110 = .ok (.dup, 1) := by decide +kernel
theorem dX0_findBar_111 : decode cX0_findBar 111 = .ok (.getfield 53, 3) := by decide +kernel
theorem dX0_findBar_114 : decode cX0_findBar 114 = .ok (.iconst 1, 1) := by decide +kernel
theorem dX0_findBar_115 : decode cX0_findBar 115 = .ok (.iload 8, 2) := by decide +kernel
theorem dX0_findBar_117 : decode cX0_findBar 117 = .ok (.ishl, 1) := by decide +kernel
theorem dX0_findBar_118 : decode cX0_findBar 118 = .ok (.ior, 1) := by decide +kernel
theorem dX0_findBar_119 : decode cX0_findBar 119 = .ok (.putfield 53, 3) := by decide +kernel
theorem dX0_findBar_122 : decode cX0_findBar 122 = .ok (.iload 5, 2) := by decide +kernel
theorem dX0_findBar_124 : decode cX0_findBar 124 = .ok (.aload_n 1, 1) := by decide +kernel
theorem dX0_findBar_125 : decode cX0_findBar 125 = .ok (.iload 8, 2) := by decide +kernel
theorem dX0_findBar_127 : decode cX0_findBar 127 = .ok (.invokevirtual 71, 3) := by decide +kernel
theorem dX0_findBar_130 : decode cX0_findBar 130 = .ok (.iadd, 1) := by decide +kernel
theorem dX0_findBar_131 : decode cX0_findBar 131 = .ok (.istore 5, 2) := by decide +kernel
theorem dX0_findBar_133 : decode cX0_findBar 133 = .ok (.iload 6, 2) := by decide +kernel
theorem dX0_findBar_135 : decode cX0_findBar 135 = .ok (.iconst (-1), 1) := by decide +kernel
theorem dX0_findBar_136 : decode cX0_findBar 136 = .ok (.if_icmp .ne 12, 3) := by decide +kernel
theorem dX0_findBar_139 : decode cX0_findBar 139 = .ok (.aload_n 1, 1) := by decide +kernel
theorem dX0_findBar_140 : decode cX0_findBar 140 = .ok (.iload 8, 2) := by decide +kernel
theorem dX0_findBar_142 : decode cX0_findBar 142 = .ok (.invokevirtual 65, 3) := by decide +kernel
theorem dX0_findBar_145 : decode cX0_findBar 145 = .ok (.goto 14, 3) := by decide +kernel
theorem dX0_findBar_148 : decode cX0_findBar 148 = .ok (.iload 6, 2) := by decide +kernel
theorem dX0_findBar_150 : decode cX0_findBar 150 = .ok (.aload_n 1, 1) := by decide +kernel
theorem dX0_findBar_151 : decode cX0_findBar 151 = .ok (.iload 8, 2) := by decide +kernel
theorem dX0_findBar_153 : decode cX0_findBar 153 = .ok (.invokevirtual 65, 3) := by decide +kernel
theorem dX0_findBar_156 : decode cX0_findBar 156 = .ok (.invokestatic 74, 3) := by decide +kernel
theorem dX0_findBar_159 : decode cX0_findBar 159 = .ok (.istore 6, 2) := by decide +kernel
theorem dX0_findBar_161 : decode cX0_findBar 161 = .ok (.iinc 7 (-1), 3) := by decide +kernel
theorem dX0_findBar_164 : decode cX0_findBar 164 = .ok (.goto (-144), 3) := by decide +kernel
theorem dX0_findBar_167 : decode cX0_findBar 167 = .ok (.aload_n 0, 1) := by decide +kernel
theorem dX0_findBar_168 : decode cX0_findBar 168 = .ok (.iconst 0, 1) := by decide +kernel
theorem dX0_findBar_169 : decode cX0_findBar 169 = .ok (.putfield 53, 3) := by decide +kernel
theorem dX0_findBar_172 : decode cX0_findBar 172 = .ok (.return_, 1) := by decide +kernel
theorem dX1_init_0 : decode cX1_init 0 = .ok (.aload_n 0, 1) := by decide +kernel
theorem dX1_init_1 : decode cX1_init 1 = .ok (.invokespecial 3, 3) := by decide +kernel
theorem dX1_init_4 : decode cX1_init 4 = .ok (.aload_n 0, 1) := by decide +kernel
theorem dX1_init_5 : decode cX1_init 5 = .ok (.bipush 8, 2) := by decide +kernel
theorem dX1_init_7 : decode cX1_init 7 = .ok (.newarray .int, 2) := by decide +kernel
theorem dX1_init_9 : decode cX1_init 9 = .ok (.putfield 9, 3) := by decide +kernel
theorem dX1_init_12 : decode cX1_init 12 = .ok (.return_, 1) := by decide +kernel
theorem dX1_run_0 : decode cX1_run 0 = .ok (.aload_n 0, 1) := by decide +kernel
theorem dX1_run_1 : decode cX1_run 1 = .ok (.iconst 0, 1) := by decide +kernel
theorem dX1_run_2 : decode cX1_run 2 = .ok (.putfield 15, 3) := by decide +kernel
theorem dX1_run_5 : decode cX1_run 5 = .ok (.aload_n 0, 1) := by decide +kernel
theorem dX1_run_6 : decode cX1_run 6 = .ok (.iconst 0, 1) := by decide +kernel
theorem dX1_run_7 : decode cX1_run 7 = .ok (.putfield 19, 3) := by decide +kernel
theorem dX1_run_10 : decode cX1_run 10 = .ok (.iconst 0, 1) := by decide +kernel
theorem dX1_run_11 : decode cX1_run 11 = .ok (.istore_n 2, 1) := by decide +kernel
theorem dX1_run_12 : decode cX1_run 12 = .ok (.iload_n 2, 1) := by decide +kernel
theorem dX1_run_13 : decode cX1_run 13 = .ok (.aload_n 0, 1) := by decide +kernel
theorem dX1_run_14 : decode cX1_run 14 = .ok (.getfield 9, 3) := by decide +kernel
theorem dX1_run_17 : decode cX1_run 17 = .ok (.arraylength, 1) := by decide +kernel
theorem dX1_run_18 : decode cX1_run 18 = .ok (.if_icmp .ge 20, 3) := by decide +kernel
theorem dX1_run_21 : decode cX1_run 21 = .ok (.aload_n 0, 1) := by decide +kernel
theorem dX1_run_22 : decode cX1_run 22 = .ok (.getfield 9, 3) := by decide +kernel
theorem dX1_run_25 : decode cX1_run 25 = .ok (.iload_n 2, 1) := by decide +kernel
theorem dX1_run_26 : decode cX1_run 26 = .ok (.aload_n 1, 1) := by decide +kernel
theorem dX1_run_27 : decode cX1_run 27 = .ok (.iload_n 2, 1) := by decide +kernel
theorem dX1_run_28 : decode cX1_run 28 = .ok (.invokevirtual 22, 3) := by decide +kernel
theorem dX1_run_31 : decode cX1_run 31 = .ok (.iastore, 1) := by decide +kernel
theorem dX1_run_32 : decode cX1_run 32 = .ok (.iinc 2 1, 3) := by decide +kernel
theorem dX1_run_35 : decode cX1_run 35 = .ok (.goto (-23), 3) := by decide +kernel
theorem dX1_run_38 : decode cX1_run 38 = .ok (.iconst 0, 1) := by decide +kernel
theorem dX1_run_39 : decode cX1_run 39 = .ok (.istore_n 2, 1) := by decide +kernel
theorem dX1_run_40 : decode cX1_run 40 = .ok (.iconst 0, 1) := by decide +kernel
theorem dX1_run_41 : decode cX1_run 41 = .ok (.istore_n 3, 1) := by decide +kernel
theorem dX1_run_42 : decode cX1_run 42 = .ok (.iconst 0, 1) := by decide +kernel
theorem dX1_run_43 : decode cX1_run 43 = .ok (.istore 4, 2) := by decide +kernel
theorem dX1_run_45 : decode cX1_run 45 = .ok (.iload 4, 2) := by decide +kernel
theorem dX1_run_47 : decode cX1_run 47 = .ok (.bipush 16, 2) := by decide +kernel
theorem dX1_run_49 : decode cX1_run 49 = .ok (.if_icmp .ge 132, 3) := by decide +kernel
theorem dX1_run_52 : decode cX1_run 52 = .ok (.iload_n 2, 1) := by decide +kernel
theorem dX1_run_53 : decode cX1_run 53 = .ok (.aload_n 1, 1) := by decide +kernel
theorem dX1_run_54 : decode cX1_run 54 = .ok (.invokevirtual 28, 3) := by decide +kernel
theorem dX1_run_57 : decode cX1_run 57 = .ok (.if_icmp .eq 124, 3) := by decide +kernel
theorem dX1_run_60 : decode cX1_run 60 = .ok (.aload_n 1, 1) := by decide +kernel
theorem dX1_run_61 : decode cX1_run 61 = .ok (.iload_n 2, 1) := by decide +kernel
theorem dX1_run_62 : decode cX1_run 62 = .ok (.iload_n 3, 1) := by decide +kernel
theorem dX1_run_63 : decode cX1_run 63 = .ok (.invokevirtual 32, 3) := by decide +kernel
theorem dX1_run_66 : decode cX1_run 66 = .ok (.istore_n 3, 1) := by decide +kernel
theorem dX1_run_67 : decode cX1_run 67 = .ok (.aload_n 1, 1) := by decide +kernel
theorem dX1_run_68 : decode cX1_run 68 = .ok (.iload_n 2, 1) := by decide +kernel
theorem dX1_run_69 : decode cX1_run 69 = .ok (.iload_n 3, 1) := by decide +kernel
theorem dX1_run_70 : decode cX1_run 70 = .ok (.invokevirtual 36, 3) := by decide +kernel
theorem dX1_run_73 : decode cX1_run 73 = .ok (.istore 5, 2) := by decide +kernel
theorem dX1_run_75 : decode cX1_run 75 = .ok (.iload 5, 2) := by decide +kernel
theorem dX1_run_77 : decode cX1_run 77 = .ok (.ifCond .lt 13, 3) := by decide +kernel
theorem dX1_run_80 : decode cX1_run 80 = .ok (.iload 5, 2) := by decide +kernel
theorem dX1_run_82 : decode cX1_run 82 = .ok (.aload_n 0, 1) := by decide +kernel
theorem dX1_run_83 : decode cX1_run 83 = .ok (.getfield 9, 3) := by decide +kernel
theorem dX1_run_86 : decode cX1_run 86 = .ok (.arraylength, 1) := by decide +kernel
theorem dX1_run_87 : decode cX1_run 87 = .ok (.if_icmp .lt 4, 3) := by decide +kernel
theorem dX1_run_90 : decode cX1_run 90 = .ok (.return_, 1) := by decide +kernel
theorem dX1_run_91 : decode cX1_run 91 = .ok (.aload_n 1, 1) := by decide +kernel
theorem dX1_run_92 : decode cX1_run 92 = .ok (.iload 5, 2) := by decide +kernel
theorem dX1_run_94 : decode cX1_run 94 = .ok (.iload_n 3, 1) := by decide +kernel
theorem dX1_run_95 : decode cX1_run 95 = .ok (.iload_n 3, 1) := by decide +kernel
theorem dX1_run_96 : decode cX1_run 96 = .ok (.aload_n 0, 1) := by decide +kernel
theorem dX1_run_97 : decode cX1_run 97 = .ok (.getfield 9, 3) := by decide +kernel
theorem dX1_run_100 : decode cX1_run 100 = .ok (.iload 5, 2) := by decide +kernel
theorem dX1_run_102 : decode cX1_run 102 = .ok (.iaload, 1) := by decide +kernel
theorem dX1_run_103 : decode cX1_run 103 = .ok (.iadd, 1) := by decide +kernel
theorem dX1_run_104 : decode cX1_run 104 = .ok (.invokevirtual 39, 3) := by decide +kernel
theorem dX1_run_107 : decode cX1_run 107 = .ok (.istore 6, 2) := by decide +kernel
theorem dX1_run_109 : decode cX1_run 109 = .ok (.aload_n 0, 1) := by decide +kernel
theorem dX1_run_110 : decode cX1_run 110 = .ok (.getfield 9, 3) := by decide +kernel
theorem dX1_run_113 : decode cX1_run 113 = .ok (.iload 5, 2) := by decide +kernel
theorem dX1_run_115 : decode cX1_run 115 = .ok (.dup2, 1) := by decide +kernel
theorem dX1_run_116 : decode cX1_run 116 = .ok (.iaload, 1) := by decide +kernel
theorem dX1_run_117 : decode cX1_run 117 = .ok (.iload 6, 2) := by decide +kernel
theorem dX1_run_119 : decode cX1_run 119 = .ok (.iload_n 3, 1) := by decide +kernel
theorem dX1_run_120 : decode cX1_run 120 = .ok (.isub, 1) := by decide +kernel
theorem dX1_run_121 : decode cX1_run 121 = .ok (.isub, 1) := by decide +kernel
theorem dX1_run_122 : decode cX1_run 122 = .ok (.iastore, 1) := by decide +kernel
theorem dX1_run_123 : decode cX1_run 123 = .ok (.iload 6, 2) := by decide +kernel
theorem dX1_run_125 : decode cX1_run 125 = .ok (.istore_n 3, 1) := by decide +kernel
theorem dX1_run_126 : decode cX1_run 126 = .ok (.aload_n 0, 1) := by decide +kernel
theorem dX1_run_127 : decode cX1_run 127 = .ok (.getfield 9, 3) := by decide +kernel
theorem dX1_run_130 : decode cX1_run 130 = .ok (.iload 5, 2) := by decide +kernel
theorem dX1_run_132 : decode cX1_run 132 = .ok (.iaload, 1) := by decide +kernel
theorem dX1_run_133 : decode cX1_run 133 = .ok (.ifCond .le 16, 3) := by decide +kernel
theorem dX1_run_136 : decode cX1_run 136 = .ok (.aload_n 0, 1) := by decide +kernel
theorem dX1_run_137 : decode cX1_run 137 = .ok (.dup, 1) := by decide +kernel
theorem dX1_run_138 : decode cX1_run 138 = .ok (.getfield 19, 3) := by decide +kernel
theorem dX1_run_141 : decode cX1_run 141 = .ok (.iconst 1, 1) := by decide +kernel
theorem dX1_run_142 : decode cX1_run 142 = .ok (.iadd, 1) := by decide +kernel
theorem dX1_run_143 : decode cX1_run 143 = .ok (.putfield 19, 3) := by decide +kernel
theorem dX1_run_146 : decode cX1_run 146 = .ok (.goto 29, 3) := by decide +kernel
theorem dX1_run_149 : decode cX1_run 149 = .ok (.iload_n 2, 1) := by decide +kernel
theorem dX1_run_150 : decode cX1_run 150 = .ok (.iconst 1, 1) := by decide +kernel
theorem dX1_run_151 : decode cX1_run 151 = .ok (.iload 5, 2) := by decide +kernel
theorem dX1_run_153 : decode cX1_run 153 = .ok (.ishl, 1) := by decide +kernel
theorem dX1_run_154 : decode cX1_run 154 = .ok (.ior, 1) := by decide +kernel
theorem dX1_run_155 : decode cX1_run 155 = .ok (.istore_n 2, 1) := by decide +kernel
theorem dX1_run_156 : decode cX1_run 156 = .ok (.aload_n 0, 1) := by decide +kernel
theorem dX1_run_157 : decode cX1_run 157 = .ok (.aload_n 0, 1) := by decide +kernel
theorem dX1_run_158 : decode cX1_run 158 = .ok (.getfield 15, 3) := by decide +kernel
theorem dX1_run_161 : decode cX1_run 161 = .ok (.iload_n 3, 1) := by decide +kernel
theorem dX1_run_162 : decode cX1_run 162 = .ok (.aload_n 1, 1) := by decide +kernel
theorem dX1_run_163 : decode cX1_run 163 = .ok (.iload 5, 2) := by decide +kernel
theorem dX1_run_165 : decode cX1_run 165 = .ok (.invokevirtual 43, 3) := by decide +kernel
theorem dX1_run_168 : decode cX1_run 168 = .ok (.iadd, 1) := by decide +kernel
theorem dX1_run_169 : decode cX1_run 169 = .ok (.invokestatic 46, 3) := by decide +kernel
theorem dX1_run_172 : decode cX1_run 172 = .ok (.putfield 15, 3) := by decide +kernel
theorem dX1_run_175 : decode cX1_run 175 = .ok (.iinc 4 1, 3) := by decide +kernel
theorem dX1_run_178 : decode cX1_run 178 = .ok (.goto (-133), 3) := by decide +kernel
theorem dX1_run_181 : decode cX1_run 181 = .ok (.return_, 1) := by decide +kernel
theorem dX2_init_0 : decode cX2_init 0 = .ok (.aload_n 0, 1) := by decide +kernel
theorem dX2_init_1 : decode cX2_init 1 = .ok (.invokespecial 3, 3) := by decide +kernel
theorem dX2_init_4 : decode cX2_init 4 = .ok (.aload_n 0, 1) := by decide +kernel
theorem dX2_init_5 : decode cX2_init 5 = .ok (.iconst 4, 1) := by decide +kernel
theorem dX2_init_6 : decode cX2_init 6 = .ok (.bipush 8, 2) := by decide +kernel
theorem dX2_init_8 : decode cX2_init 8 = .ok (.multianewarray 9 2, 4) := by decide +kernel
theorem dX2_init_12 : decode cX2_init 12 = .ok (.putfield 11, 3) := by decide +kernel
theorem dX2_init_15 : decode cX2_init 15 = .ok (.return_, 1) := by decide +kernel
theorem dX2_mayBe_0 : decode cX2_mayBe 0 = .ok (.iload_n 0, 1) := by decide +kernel
theorem dX2_mayBe_1 : decode cX2_mayBe 1 = .ok (.ifCond .lt 41, 3) := by decide +kernel
theorem dX2_mayBe_4 : decode cX2_mayBe 4 = .ok (.iload_n 0, 1) := by decide +kernel
theorem dX2_mayBe_5 : decode cX2_mayBe 5 = .ok (.getstatic 16, 3) := by decide +kernel
theorem dX2_mayBe_8 : decode cX2_mayBe 8 = .ok (.arraylength, 1) := by decide +kernel
theorem dX2_mayBe_9 : decode cX2_mayBe 9 = .ok (.if_icmp .ge 33, 3) := by decide +kernel
theorem dX2_mayBe_12 : decode cX2_mayBe 12 = .ok (.iload_n 0, 1) := by decide +kernel
theorem dX2_mayBe_13 : decode cX2_mayBe 13 = .ok (.getstatic 20, 3) := by decide +kernel
theorem dX2_mayBe_16 : decode cX2_mayBe 16 = .ok (.arraylength, 1) := by decide +kernel
theorem dX2_mayBe_17 : decode cX2_mayBe 17 = .ok (.if_icmp .ge 25, 3) := by decide +kernel
theorem dX2_mayBe_20 : decode cX2_mayBe 20 = .ok (.iload_n 1, 1) := by decide +kernel
theorem dX2_mayBe_21 : decode cX2_mayBe 21 = .ok (.getstatic 16, 3) := by decide +kernel
theorem dX2_mayBe_24 : decode cX2_mayBe 24 = .ok (.iload_n 0, 1) := by decide +kernel
theorem dX2_mayBe_25 : decode cX2_mayBe 25 = .ok (.iaload, 1) := by decide +kernel
theorem dX2_mayBe_26 : decode cX2_mayBe 26 = .ok (.if_icmp .lt 16, 3) := by decide +kernel
theorem dX2_mayBe_29 : decode cX2_mayBe 29 = .ok (.iload_n 1, 1) := by decide +kernel
theorem dX2_mayBe_30 : decode cX2_mayBe 30 = .ok (.getstatic 20, 3) := by decide +kernel
theorem dX2_mayBe_33 : decode cX2_mayBe 33 = .ok (.iload_n 0, 1) := by decide +kernel
theorem dX2_mayBe_34 : decode cX2_mayBe 34 = .ok (.iaload, 1) := by decide +kernel
theorem dX2_mayBe_35 : decode cX2_mayBe 35 = .ok (.if_icmp .gt 7, 3) := by decide +kernel
theorem dX2_mayBe_38 : decode cX2_mayBe 38 = .ok (.iconst 1, 1) := by decide +kernel
theorem dX2_mayBe_39 : decode cX2_mayBe 39 = .ok (.goto 4, 3) := by decide +kernel
theorem dX2_mayBe_42 : decode cX2_mayBe 42 = .ok (.iconst 0, 1) := by decide +kernel
theorem dX2_mayBe_43 : decode cX2_mayBe 43 = .ok (.ireturn, 1) := by decide +kernel
theorem dX2_holds_0 : decode cX2_holds 0 = .ok (.iload_n 1, 1) := by decide +kernel
theorem dX2_holds_1 : decode cX2_holds 1 = .ok (.ifCond .lt 21, 3) := by decide +kernel
theorem dX2_holds_4 : decode cX2_holds 4 = .ok (.iload_n 1, 1) := by decide +kernel
theorem dX2_holds_5 : decode cX2_holds 5 = .ok (.aload_n 0, 1) := by decide +kernel
theorem dX2_holds_6 : decode cX2_holds 6 = .ok (.getfield 23, 3) := by decide +kernel
theorem dX2_holds_9 : decode cX2_holds 9 = .ok (.if_icmp .ge 13, 3) := by decide +kernel
theorem dX2_holds_12 : decode cX2_holds 12 = .ok (.iload_n 1, 1) := by decide +kernel
theorem dX2_holds_13 : decode cX2_holds 13 = .ok (.bipush 8, 2) := by decide +kernel
theorem dX2_holds_15 : decode cX2_holds 15 = .ok (.if_icmp .ge 7, 3) := by decide +kernel
theorem dX2_holds_18 : decode cX2_holds 18 = .ok (.iconst 1, 1) := by decide +kernel
theorem dX2_holds_19 : decode cX2_holds 19 = .ok (.goto 4, 3) := by decide +kernel
theorem dX2_holds_22 : decode cX2_holds 22 = .ok (.iconst 0, 1) := by decide +kernel
theorem dX2_holds_23 : decode cX2_holds 23 = .ok (.ireturn, 1) := by decide +kernel
theorem dX2_hasRoom_0 : decode cX2_hasRoom 0 = .ok (.aload_n 0, 1) := by decide +kernel
theorem dX2_hasRoom_1 : decode cX2_hasRoom 1 = .ok (.getfield 23, 3) := by decide +kernel
theorem dX2_hasRoom_4 : decode cX2_hasRoom 4 = .ok (.iload_n 1, 1) := by decide +kernel
theorem dX2_hasRoom_5 : decode cX2_hasRoom 5 = .ok (.iadd, 1) := by decide +kernel
theorem dX2_hasRoom_6 : decode cX2_hasRoom 6 = .ok (.bipush 8, 2) := by decide +kernel
theorem dX2_hasRoom_8 : decode cX2_hasRoom 8 = .ok (.if_icmp .gt 7, 3) := by decide +kernel
theorem dX2_hasRoom_11 : decode cX2_hasRoom 11 = .ok (.iconst 1, 1) := by decide +kernel
theorem dX2_hasRoom_12 : decode cX2_hasRoom 12 = .ok (.goto 4, 3) := by decide +kernel
theorem dX2_hasRoom_15 : decode cX2_hasRoom 15 = .ok (.iconst 0, 1) := by decide +kernel
theorem dX2_hasRoom_16 : decode cX2_hasRoom 16 = .ok (.ireturn, 1) := by decide +kernel
theorem dX2_value_0 : decode cX2_value 0 = .ok (.iload_n 1, 1) := by decide +kernel
theorem dX2_value_1 : decode cX2_value 1 = .ok (.ifCond .lt 31, 3) := by decide +kernel
theorem dX2_value_4 : decode cX2_value 4 = .ok (.iload_n 1, 1) := by decide +kernel
theorem dX2_value_5 : decode cX2_value 5 = .ok (.aload_n 0, 1) := by decide +kernel
theorem dX2_value_6 : decode cX2_value 6 = .ok (.getfield 11, 3) := by decide +kernel
theorem dX2_value_9 : decode cX2_value 9 = .ok (.arraylength, 1) := by decide +kernel
theorem dX2_value_10 : decode cX2_value 10 = .ok (.if_icmp .ge 22, 3) := by decide +kernel
theorem dX2_value_13 : decode cX2_value 13 = .ok (.aload_n 0, 1) := by decide +kernel
theorem dX2_value_14 : decode cX2_value 14 = .ok (.iload_n 2, 1) := by decide +kernel
theorem dX2_value_15 : decode cX2_value 15 = .ok (.invokevirtual 27, 3) := by decide +kernel
theorem dX2_value_18 : decode cX2_value 18 = .ok (.ifCond .eq 14, 3) := by decide +kernel
theorem dX2_value_21 : decode cX2_value 21 = .ok (.aload_n 0, 1) := by decide +kernel
theorem dX2_value_22 : decode cX2_value 22 = .ok (.getfield 11, 3) := by decide +kernel
theorem dX2_value_25 : decode cX2_value 25 = .ok (.iload_n 1, 1) := by decide +kernel
theorem dX2_value_26 : decode cX2_value 26 = .ok (.aaload, 1) := by decide +kernel
theorem dX2_value_27 : decode cX2_value 27 = .ok (.iload_n 2, 1) := by decide +kernel
theorem dX2_value_28 : decode cX2_value 28 = .ok (.iaload, 1) := by decide +kernel
theorem dX2_value_29 : decode cX2_value 29 = .ok (.goto 4, 3) := by decide +kernel
theorem dX2_value_32 : decode cX2_value 32 = .ok (.iconst 0, 1) := by decide +kernel
theorem dX2_value_33 : decode cX2_value 33 = .ok (.ireturn, 1) := by decide +kernel
theorem dX2_change_0 : decode cX2_change 0 = .ok (.iload_n 1, 1) := by decide +kernel
theorem dX2_change_1 : decode cX2_change 1 = .ok (.ifCond .lt 29, 3) := by decide +kernel
theorem dX2_change_4 : decode cX2_change 4 = .ok (.iload_n 1, 1) := by decide +kernel
theorem dX2_change_5 : decode cX2_change 5 = .ok (.aload_n 0, 1) := by decide +kernel
theorem dX2_change_6 : decode cX2_change 6 = .ok (.getfield 11, 3) := by decide +kernel
theorem dX2_change_9 : decode cX2_change 9 = .ok (.arraylength, 1) := by decide +kernel
theorem dX2_change_10 : decode cX2_change 10 = .ok (.if_icmp .ge 20, 3) := by decide +kernel
theorem dX2_change_13 : decode cX2_change 13 = .ok (.aload_n 0, 1) := by decide +kernel
theorem dX2_change_14 : decode cX2_change 14 = .ok (.iload_n 2, 1) := by decide +kernel
theorem dX2_change_15 : decode cX2_change 15 = .ok (.invokevirtual 27, 3) := by decide +kernel
theorem dX2_change_18 : decode cX2_change 18 = .ok (.ifCond .eq 12, 3) := by decide +kernel
theorem dX2_change_21 : decode cX2_change 21 = .ok (.aload_n 0, 1) := by decide +kernel
theorem dX2_change_22 : decode cX2_change 22 = .ok (.getfield 11, 3) := by decide +kernel
theorem dX2_change_25 : decode cX2_change 25 = .ok (.iload_n 1, 1) := by decide +kernel
theorem dX2_change_26 : decode cX2_change 26 = .ok (.aaload, 1) := by decide +kernel
theorem dX2_change_27 : decode cX2_change 27 = .ok (.iload_n 2, 1) := by decide +kernel
theorem dX2_change_28 : decode cX2_change 28 = .ok (.iload_n 3, 1) := by decide +kernel
theorem dX2_change_29 : decode cX2_change 29 = .ok (.iastore, 1) := by decide +kernel
theorem dX2_change_30 : decode cX2_change 30 = .ok (.return_, 1) := by decide +kernel
theorem dX2_clear_0 : decode cX2_clear 0 = .ok (.aload_n 0, 1) := by decide +kernel
theorem dX2_clear_1 : decode cX2_clear 1 = .ok (.iconst 0, 1) := by decide +kernel
theorem dX2_clear_2 : decode cX2_clear 2 = .ok (.putfield 23, 3) := by decide +kernel
theorem dX2_clear_5 : decode cX2_clear 5 = .ok (.return_, 1) := by decide +kernel
theorem dX2_add_0 : decode cX2_add 0 = .ok (.aload_n 0, 1) := by decide +kernel
theorem dX2_add_1 : decode cX2_add 1 = .ok (.iconst 1, 1) := by decide +kernel
theorem dX2_add_2 : decode cX2_add 2 = .ok (.invokevirtual 31, 3) := by decide +kernel
theorem dX2_add_5 : decode cX2_add 5 = .ok (.ifCond .ne 4, 3) := by decide +kernel
theorem dX2_add_8 : decode cX2_add 8 = .ok (.return_, 1) := by decide +kernel
theorem dX2_add_9 : decode cX2_add 9 = .ok (.aload_n 0, 1) := by decide +kernel
theorem dX2_add_10 : decode cX2_add 10 = .ok (.getfield 23, 3) := by decide +kernel
theorem dX2_add_13 : decode cX2_add 13 = .ok (.istore 5, 2) := by decide +kernel
theorem dX2_add_15 : decode cX2_add 15 = .ok (.aload_n 0, 1) := by decide +kernel
theorem dX2_add_16 : decode cX2_add 16 = .ok (.dup, 1) := by decide +kernel
theorem dX2_add_17 : decode cX2_add 17 = .ok (.getfield 23, 3) := by decide +kernel
theorem dX2_add_20 : decode cX2_add 20 = .ok (.iconst 1, 1) := by decide +kernel
theorem dX2_add_21 : decode cX2_add 21 = .ok (.iadd, 1) := by decide +kernel
theorem dX2_add_22 : decode cX2_add 22 = .ok (.putfield 23, 3) := by decide +kernel
theorem dX2_add_25 : decode cX2_add 25 = .ok (.aload_n 0, 1) := by decide +kernel
theorem dX2_add_26 : decode cX2_add 26 = .ok (.iconst 0, 1) := by decide +kernel
theorem dX2_add_27 : decode cX2_add 27 = .ok (.iload 5, 2) := by decide +kernel
theorem dX2_add_29 : decode cX2_add 29 = .ok (.iload_n 1, 1) := by decide +kernel
theorem dX2_add_30 : decode cX2_add 30 = .ok (.invokevirtual 34, 3) := by decide +kernel
theorem dX2_add_33 : decode cX2_add 33 = .ok (.aload_n 0, 1) := by decide +kernel
theorem dX2_add_34 : decode cX2_add 34 = .ok (.iconst 1, 1) := by decide +kernel
theorem dX2_add_35 : decode cX2_add 35 = .ok (.iload 5, 2) := by decide +kernel
theorem dX2_add_37 : decode cX2_add 37 = .ok (.iload_n 2, 1) := by decide +kernel
theorem dX2_add_38 : decode cX2_add 38 = .ok (.invokevirtual 34, 3) := by decide +kernel
theorem dX2_add_41 : decode cX2_add 41 = .ok (.aload_n 0, 1) := by decide +kernel
theorem dX2_add_42 : decode cX2_add 42 = .ok (.iconst 2, 1) := by decide +kernel
theorem dX2_add_43 : decode cX2_add 43 = .ok (.iload 5, 2) := by decide +kernel
theorem dX2_add_45 : decode cX2_add 45 = .ok (.iload_n 3, 1) := by decide +kernel
theorem dX2_add_46 : decode cX2_add 46 = .ok (.invokevirtual 34, 3) := by decide +kernel
theorem dX2_add_49 : decode cX2_add 49 = .ok (.aload_n 0, 1) := by decide +kernel
theorem dX2_add_50 : decode cX2_add 50 = .ok (.iconst 3, 1) := by decide +kernel
theorem dX2_add_51 : decode cX2_add 51 = .ok (.iload 5, 2) := by decide +kernel
theorem dX2_add_53 : decode cX2_add 53 = .ok (.iload 4, 2) := by decide +kernel
theorem dX2_add_55 : decode cX2_add 55 = .ok (.invokevirtual 34, 3) := by decide +kernel
theorem dX2_add_58 : decode cX2_add 58 = .ok (.return_, 1) := by decide +kernel
theorem dX2_addAll_0 : decode cX2_addAll 0 = .ok (.iconst 0, 1) := by decide +kernel
theorem dX2_addAll_1 : decode cX2_addAll 1 = .ok (.istore_n 2, 1) := by decide +kernel
theorem dX2_addAll_2 : decode cX2_addAll 2 = .ok (.iload_n 2, 1) := by decide +kernel
theorem dX2_addAll_3 : decode cX2_addAll 3 = .ok (.aload_n 1, 1) := by decide +kernel
theorem dX2_addAll_4 : decode cX2_addAll 4 = .ok (.getfield 23, 3) := by decide +kernel
theorem dX2_addAll_7 : decode cX2_addAll 7 = .ok (.if_icmp .ge 37, 3) := by decide +kernel
theorem dX2_addAll_10 : decode cX2_addAll 10 = .ok (.aload_n 0, 1) := by decide +kernel
theorem dX2_addAll_11 : decode cX2_addAll 11 = .ok (.aload_n 1, 1) := by decide +kernel
theorem dX2_addAll_12 : decode cX2_addAll 12 = .ok (.iconst 0, 1) := by decide +kernel
theorem dX2_addAll_13 : decode cX2_addAll 13 = .ok (.iload_n 2, 1) := by decide +kernel
theorem dX2_addAll_14 : decode cX2_addAll 14 = .ok (.invokevirtual 38, 3) := by decide +kernel
theorem dX2_addAll_17 : decode cX2_addAll 17 = .ok (.aload_n 1, 1) := by decide +kernel
theorem dX2_addAll_18 : decode cX2_addAll 18 = .ok (.iconst 1, 1) := by decide +kernel
theorem dX2_addAll_19 : decode cX2_addAll 19 = .ok (.iload_n 2, 1) := by decide +kernel
theorem dX2_addAll_20 : decode cX2_addAll 20 = .ok (.invokevirtual 38, 3) := by decide +kernel
theorem dX2_addAll_23 : decode cX2_addAll 23 = .ok (.aload_n 1, 1) := by decide +kernel
theorem dX2_addAll_24 : decode cX2_addAll 24 = .ok (.iconst 2, 1) := by decide +kernel
theorem dX2_addAll_25 : decode cX2_addAll 25 = .ok (.iload_n 2, 1) := by decide +kernel
theorem dX2_addAll_26 : decode cX2_addAll 26 = .ok (.invokevirtual 38, 3) := by decide +kernel
theorem dX2_addAll_29 : decode cX2_addAll 29 = .ok (.aload_n 1, 1) := by decide +kernel
theorem dX2_addAll_30 : decode cX2_addAll 30 = .ok (.iconst 3, 1) := by decide +kernel
theorem dX2_addAll_31 : decode cX2_addAll 31 = .ok (.iload_n 2, 1) := by decide +kernel
theorem dX2_addAll_32 : decode cX2_addAll 32 = .ok (.invokevirtual 38, 3) := by decide +kernel
theorem dX2_addAll_35 : decode cX2_addAll 35 = .ok (.invokevirtual 42, 3) := by decide +kernel
theorem dX2_addAll_38 : decode cX2_addAll 38 = .ok (.iinc 2 1, 3) := by decide +kernel
theorem dX2_addAll_41 : decode cX2_addAll 41 = .ok (.goto (-39), 3) := by decide +kernel
theorem dX2_addAll_44 : decode cX2_addAll 44 = .ok (.return_, 1) := by decide +kernel
theorem dX2_becomeAs_0 : decode cX2_becomeAs 0 = .ok (.aload_n 0, 1) := by decide +kernel
theorem dX2_becomeAs_1 : decode cX2_becomeAs 1 = .ok (.invokevirtual 46, 3) := by decide +kernel
theorem dX2_becomeAs_4 : decode cX2_becomeAs 4 = .ok (.aload_n 0, 1) := by decide +kernel
theorem dX2_becomeAs_5 : decode cX2_becomeAs 5 = .ok (.aload_n 1, 1) := by decide +kernel
theorem dX2_becomeAs_6 : decode cX2_becomeAs 6 = .ok (.invokevirtual 49, 3) := by decide +kernel
theorem dX2_becomeAs_9 : decode cX2_becomeAs 9 = .ok (.return_, 1) := by decide +kernel
theorem dX2_remove_0 : decode cX2_remove 0 = .ok (.aload_n 0, 1) := by decide +kernel
theorem dX2_remove_1 : decode cX2_remove 1 = .ok (.iload_n 1, 1) := by decide +kernel
theorem dX2_remove_2 : decode cX2_remove 2 = .ok (.invokevirtual 27, 3) := by decide +kernel
theorem dX2_remove_5 : decode cX2_remove 5 = .ok (.ifCond .ne 4, 3) := by decide +kernel
theorem dX2_remove_8 : decode cX2_remove 8 = .ok (.return_, 1) := by decide +kernel
theorem dX2_remove_9 : decode cX2_remove 9 = .ok (.iconst 0, 1) := by decide +kernel
theorem dX2_remove_10 : decode cX2_remove 10 = .ok (.istore_n 2, 1) := by decide +kernel
theorem dX2_remove_11 : decode cX2_remove 11 = .ok (.iload_n 2, 1) := by decide +kernel
theorem dX2_remove_12 : decode cX2_remove 12 = .ok (.aload_n 0, 1) := by decide +kernel
theorem dX2_remove_13 : decode cX2_remove 13 = .ok (.getfield 11, 3) := by decide +kernel
theorem dX2_remove_16 : decode cX2_remove 16 = .ok (.arraylength, 1) := by decide +kernel
theorem dX2_remove_17 : decode cX2_remove 17 = .ok (.if_icmp .ge 41, 3) := by decide +kernel
theorem dX2_remove_20 : decode cX2_remove 20 = .ok (.iload_n 1, 1) := by decide +kernel
theorem dX2_remove_21 : decode cX2_remove 21 = .ok (.istore_n 3, 1) := by decide +kernel
theorem dX2_remove_22 : decode cX2_remove 22 = .ok (.iload_n 3, 1) := by decide +kernel
theorem dX2_remove_23 : decode cX2_remove 23 = .ok (.aload_n 0, 1) := by decide +kernel
theorem dX2_remove_24 : decode cX2_remove 24 = .ok (.getfield 23, 3) := by decide +kernel
theorem dX2_remove_27 : decode cX2_remove 27 = .ok (.iconst 1, 1) := by decide +kernel
theorem dX2_remove_28 : decode cX2_remove 28 = .ok (.isub, 1) := by decide +kernel
theorem dX2_remove_29 : decode cX2_remove 29 = .ok (.if_icmp .ge 23, 3) := by decide +kernel
theorem dX2_remove_32 : decode cX2_remove 32 = .ok (.aload_n 0, 1) := by decide +kernel
theorem dX2_remove_33 : decode cX2_remove 33 = .ok (.iload_n 2, 1) := by decide +kernel
theorem dX2_remove_34 : decode cX2_remove 34 = .ok (.iload_n 3, 1) := by decide +kernel
theorem dX2_remove_35 : decode cX2_remove 35 = .ok (.aload_n 0, 1) := by decide +kernel
theorem dX2_remove_36 : decode cX2_remove 36 = .ok (.iload_n 2, 1) := by decide +kernel
theorem dX2_remove_37 : decode cX2_remove 37 = .ok (.iload_n 3, 1) := by decide +kernel
theorem dX2_remove_38 : decode cX2_remove 38 = .ok (.iconst 1, 1) := by decide +kernel
theorem dX2_remove_39 : decode cX2_remove 39 = .ok (.iadd, 1) := by decide +kernel
theorem dX2_remove_40 : decode cX2_remove 40 = .ok (.invokevirtual 38, 3) := by decide +kernel
theorem dX2_remove_43 : decode cX2_remove 43 = .ok (.invokevirtual 34, 3) := by decide +kernel
theorem dX2_remove_46 : decode cX2_remove 46 = .ok (.iinc 3 1, 3) := by decide +kernel
theorem dX2_remove_49 : decode cX2_remove 49 = .ok (.goto (-27), 3) := by decide +kernel
theorem dX2_remove_52 : decode cX2_remove 52 = .ok (.iinc 2 1, 3) := by decide +kernel
theorem dX2_remove_55 : decode cX2_remove 55 = .ok (.goto (-44), 3) := by decide +kernel
theorem dX2_remove_58 : decode cX2_remove 58 = .ok (.aload_n 0, 1) := by decide +kernel
theorem dX2_remove_59 : decode cX2_remove 59 = .ok (.dup, 1) := by decide +kernel
theorem dX2_remove_60 : decode cX2_remove 60 = .ok (.getfield 23, 3) := by decide +kernel
theorem dX2_remove_63 : decode cX2_remove 63 = .ok (.iconst 1, 1) := by decide +kernel
theorem dX2_remove_64 : decode cX2_remove 64 = .ok (.isub, 1) := by decide +kernel
theorem dX2_remove_65 : decode cX2_remove 65 = .ok (.putfield 23, 3) := by decide +kernel
theorem dX2_remove_68 : decode cX2_remove 68 = .ok (.return_, 1) := by decide +kernel
theorem dX2_isOfKind_0 : decode cX2_isOfKind 0 = .ok (.aload_n 0, 1) := by decide +kernel
theorem dX2_isOfKind_1 : decode cX2_isOfKind 1 = .ok (.iconst 0, 1) := by decide +kernel
theorem dX2_isOfKind_2 : decode cX2_isOfKind 2 = .ok (.iload_n 1, 1) := by decide +kernel
theorem dX2_isOfKind_3 : decode cX2_isOfKind 3 = .ok (.invokevirtual 38, 3) := by decide +kernel
theorem dX2_isOfKind_6 : decode cX2_isOfKind 6 = .ok (.istore_n 3, 1) := by decide +kernel
theorem dX2_isOfKind_7 : decode cX2_isOfKind 7 = .ok (.iconst 0, 1) := by decide +kernel
theorem dX2_isOfKind_8 : decode cX2_isOfKind 8 = .ok (.istore 4, 2) := by decide +kernel
theorem dX2_isOfKind_10 : decode cX2_isOfKind 10 = .ok (.iload 4, 2) := by decide +kernel
theorem dX2_isOfKind_12 : decode cX2_isOfKind 12 = .ok (.getstatic 53, 3) := by decide +kernel
theorem dX2_isOfKind_15 : decode cX2_isOfKind 15 = .ok (.arraylength, 1) := by decide +kernel
theorem dX2_isOfKind_16 : decode cX2_isOfKind 16 = .ok (.if_icmp .ge 36, 3) := by decide +kernel
theorem dX2_isOfKind_19 : decode cX2_isOfKind 19 = .ok (.iload_n 3, 1) := by decide +kernel
theorem dX2_isOfKind_20 : decode cX2_isOfKind 20 = .ok (.iload_n 2, 1) := by decide +kernel
theorem dX2_isOfKind_21 : decode cX2_isOfKind 21 = .ok (.if_icmp .ne 5, 3) := by decide +kernel
theorem dX2_isOfKind_24 : decode cX2_isOfKind 24 = .ok (.iconst 1, 1) := by decide +kernel
theorem dX2_isOfKind_25 : decode cX2_isOfKind 25 = .ok (.ireturn, 1) := by decide +kernel
theorem dX2_isOfKind_26 : decode cX2_isOfKind 26 = .ok (.iload_n 3, 1) := by decide +kernel
theorem dX2_isOfKind_27 : decode cX2_isOfKind 27 = .ok (.ifCond .lt 11, 3) := by decide +kernel
theorem dX2_isOfKind_30 : decode cX2_isOfKind 30 = .ok (.iload_n 3, 1) := by decide +kernel
theorem dX2_isOfKind_31 : decode cX2_isOfKind 31 = .ok (.getstatic 53, 3) := by decide +kernel
theorem dX2_isOfKind_34 : decode cX2_isOfKind 34 = .ok (.arraylength, 1) := by decide +kernel
theorem dX2_isOfKind_35 : decode cX2_isOfKind 35 = .ok (.if_icmp .lt 5, 3) := by decide +kernel
theorem dX2_isOfKind_38 : decode cX2_isOfKind 38 = .ok (.iconst 0, 1) := by decide +kernel
theorem dX2_isOfKind_39 : decode cX2_isOfKind 39 = .ok (.ireturn, 1) := by decide +kernel
theorem dX2_isOfKind_40 : decode cX2_isOfKind 40 = .ok (.getstatic 53, 3) := by decide +kernel
theorem dX2_isOfKind_43 : decode cX2_isOfKind 43 = .ok (.iload_n 3, 1) := by decide +kernel
theorem dX2_isOfKind_44 : decode cX2_isOfKind 44 = .ok (.iaload, 1) := by decide +kernel
theorem dX2_isOfKind_45 : decode cX2_isOfKind 45 = .ok (.istore_n 3, 1) := by decide +kernel
theorem dX2_isOfKind_46 : decode cX2_isOfKind 46 = .ok (.iinc 4 1, 3) := by decide +kernel
theorem dX2_isOfKind_49 : decode cX2_isOfKind 49 = .ok (.goto (-39), 3) := by decide +kernel
theorem dX2_isOfKind_52 : decode cX2_isOfKind 52 = .ok (.iconst 0, 1) := by decide +kernel
theorem dX2_isOfKind_53 : decode cX2_isOfKind 53 = .ok (.ireturn, 1) := by decide +kernel
theorem dX2_comesOf_0 : decode cX2_comesOf 0 = .ok (.aload_n 0, 1) := by decide +kernel
theorem dX2_comesOf_1 : decode cX2_comesOf 1 = .ok (.iconst 1, 1) := by decide +kernel
theorem dX2_comesOf_2 : decode cX2_comesOf 2 = .ok (.iload_n 1, 1) := by decide +kernel
theorem dX2_comesOf_3 : decode cX2_comesOf 3 = .ok (.invokevirtual 38, 3) := by decide +kernel
theorem dX2_comesOf_6 : decode cX2_comesOf 6 = .ok (.istore_n 2, 1) := by decide +kernel
theorem dX2_comesOf_7 : decode cX2_comesOf 7 = .ok (.aload_n 0, 1) := by decide +kernel
theorem dX2_comesOf_8 : decode cX2_comesOf 8 = .ok (.iload_n 1, 1) := by decide +kernel
theorem dX2_comesOf_9 : decode cX2_comesOf 9 = .ok (.iconst 3, 1) := by decide +kernel
theorem dX2_comesOf_10 : decode cX2_comesOf 10 = .ok (.invokevirtual 56, 3) := by decide +kernel
theorem dX2_comesOf_13 : decode cX2_comesOf 13 = .ok (.ifCond .eq 7, 3) := by decide +kernel
theorem dX2_comesOf_16 : decode cX2_comesOf 16 = .ok (.iload_n 2, 1) := by decide +kernel
theorem dX2_comesOf_17 : decode cX2_comesOf 17 = .ok (.iconst 2, 1) := by decide +kernel
theorem dX2_comesOf_18 : decode cX2_comesOf 18 = .ok (.idiv, 1) := by decide +kernel
theorem dX2_comesOf_19 : decode cX2_comesOf 19 = .ok (.ireturn, 1) := by decide +kernel
theorem dX2_comesOf_20 : decode cX2_comesOf 20 = .ok (.aload_n 0, 1) := by decide +kernel
theorem dX2_comesOf_21 : decode cX2_comesOf 21 = .ok (.iload_n 1, 1) := by decide +kernel
theorem dX2_comesOf_22 : decode cX2_comesOf 22 = .ok (.iconst 4, 1) := by decide +kernel
theorem dX2_comesOf_23 : decode cX2_comesOf 23 = .ok (.invokevirtual 56, 3) := by decide +kernel
theorem dX2_comesOf_26 : decode cX2_comesOf 26 = .ok (.ifCond .eq 9, 3) := by decide +kernel
theorem dX2_comesOf_29 : decode cX2_comesOf 29 = .ok (.iload_n 2, 1) := by decide +kernel
theorem dX2_comesOf_30 : decode cX2_comesOf 30 = .ok (.iconst 3, 1) := by decide +kernel
theorem dX2_comesOf_31 : decode cX2_comesOf 31 = .ok (.iadd, 1) := by decide +kernel
theorem dX2_comesOf_32 : decode cX2_comesOf 32 = .ok (.goto 4, 3) := by decide +kernel
theorem dX2_comesOf_35 : decode cX2_comesOf 35 = .ok (.iload_n 2, 1) := by decide +kernel
theorem dX2_comesOf_36 : decode cX2_comesOf 36 = .ok (.ireturn, 1) := by decide +kernel
theorem dX2_takesOf_0 : decode cX2_takesOf 0 = .ok (.aload_n 0, 1) := by decide +kernel
theorem dX2_takesOf_1 : decode cX2_takesOf 1 = .ok (.iconst 2, 1) := by decide +kernel
theorem dX2_takesOf_2 : decode cX2_takesOf 2 = .ok (.iload_n 1, 1) := by decide +kernel
theorem dX2_takesOf_3 : decode cX2_takesOf 3 = .ok (.invokevirtual 38, 3) := by decide +kernel
theorem dX2_takesOf_6 : decode cX2_takesOf 6 = .ok (.istore_n 2, 1) := by decide +kernel
theorem dX2_takesOf_7 : decode cX2_takesOf 7 = .ok (.aload_n 0, 1) := by decide +kernel
theorem dX2_takesOf_8 : decode cX2_takesOf 8 = .ok (.iload_n 1, 1) := by decide +kernel
theorem dX2_takesOf_9 : decode cX2_takesOf 9 = .ok (.iconst 2, 1) := by decide +kernel
theorem dX2_takesOf_10 : decode cX2_takesOf 10 = .ok (.invokevirtual 56, 3) := by decide +kernel
theorem dX2_takesOf_13 : decode cX2_takesOf 13 = .ok (.ifCond .eq 11, 3) := by decide +kernel
theorem dX2_takesOf_16 : decode cX2_takesOf 16 = .ok (.iload_n 2, 1) := by decide +kernel
theorem dX2_takesOf_17 : decode cX2_takesOf 17 = .ok (.iload_n 2, 1) := by decide +kernel
theorem dX2_takesOf_18 : decode cX2_takesOf 18 = .ok (.iconst 4, 1) := by decide +kernel
theorem dX2_takesOf_19 : decode cX2_takesOf 19 = .ok (.idiv, 1) := by decide +kernel
theorem dX2_takesOf_20 : decode cX2_takesOf 20 = .ok (.iadd, 1) := by decide +kernel
theorem dX2_takesOf_21 : decode cX2_takesOf 21 = .ok (.goto 4, 3) := by decide +kernel
theorem dX2_takesOf_24 : decode cX2_takesOf 24 = .ok (.iload_n 2, 1) := by decide +kernel
theorem dX2_takesOf_25 : decode cX2_takesOf 25 = .ok (.istore_n 3, 1) := by decide +kernel
theorem dX2_takesOf_26 : decode cX2_takesOf 26 = .ok (.aload_n 0, 1) := by decide +kernel
theorem dX2_takesOf_27 : decode cX2_takesOf 27 = .ok (.iload_n 1, 1) := by decide +kernel
theorem dX2_takesOf_28 : decode cX2_takesOf 28 = .ok (.iconst 5, 1) := by decide +kernel
theorem dX2_takesOf_29 : decode cX2_takesOf 29 = .ok (.invokevirtual 56, 3) := by decide +kernel
theorem dX2_takesOf_32 : decode cX2_takesOf 32 = .ok (.ifCond .eq 13, 3) := by decide +kernel
theorem dX2_takesOf_35 : decode cX2_takesOf 35 = .ok (.iconst 1, 1) := by decide +kernel
theorem dX2_takesOf_36 : decode cX2_takesOf 36 = .ok (.iload_n 3, 1) := by decide +kernel
theorem dX2_takesOf_37 : decode cX2_takesOf 37 = .ok (.iconst 1, 1) := by decide +kernel
theorem dX2_takesOf_38 : decode cX2_takesOf 38 = .ok (.isub, 1) := by decide +kernel
theorem dX2_takesOf_39 : decode cX2_takesOf 39 = .ok (.invokestatic 60, 3) := by decide +kernel
theorem dX2_takesOf_42 : decode cX2_takesOf 42 = .ok (.goto 4, 3) := by decide +kernel
theorem dX2_takesOf_45 : decode cX2_takesOf 45 = .ok (.iload_n 3, 1) := by decide +kernel
theorem dX2_takesOf_46 : decode cX2_takesOf 46 = .ok (.ireturn, 1) := by decide +kernel
theorem dX2_coolsOf_0 : decode cX2_coolsOf 0 = .ok (.aload_n 0, 1) := by decide +kernel
theorem dX2_coolsOf_1 : decode cX2_coolsOf 1 = .ok (.iconst 3, 1) := by decide +kernel
theorem dX2_coolsOf_2 : decode cX2_coolsOf 2 = .ok (.iload_n 1, 1) := by decide +kernel
theorem dX2_coolsOf_3 : decode cX2_coolsOf 3 = .ok (.invokevirtual 38, 3) := by decide +kernel
theorem dX2_coolsOf_6 : decode cX2_coolsOf 6 = .ok (.istore_n 2, 1) := by decide +kernel
theorem dX2_coolsOf_7 : decode cX2_coolsOf 7 = .ok (.aload_n 0, 1) := by decide +kernel
theorem dX2_coolsOf_8 : decode cX2_coolsOf 8 = .ok (.iload_n 1, 1) := by decide +kernel
theorem dX2_coolsOf_9 : decode cX2_coolsOf 9 = .ok (.iconst 1, 1) := by decide +kernel
theorem dX2_coolsOf_10 : decode cX2_coolsOf 10 = .ok (.invokevirtual 56, 3) := by decide +kernel
theorem dX2_coolsOf_13 : decode cX2_coolsOf 13 = .ok (.ifCond .eq 7, 3) := by decide +kernel
theorem dX2_coolsOf_16 : decode cX2_coolsOf 16 = .ok (.iload_n 2, 1) := by decide +kernel
theorem dX2_coolsOf_17 : decode cX2_coolsOf 17 = .ok (.iconst 5, 1) := by decide +kernel
theorem dX2_coolsOf_18 : decode cX2_coolsOf 18 = .ok (.iadd, 1) := by decide +kernel
theorem dX2_coolsOf_19 : decode cX2_coolsOf 19 = .ok (.ireturn, 1) := by decide +kernel
theorem dX2_coolsOf_20 : decode cX2_coolsOf 20 = .ok (.aload_n 0, 1) := by decide +kernel
theorem dX2_coolsOf_21 : decode cX2_coolsOf 21 = .ok (.iload_n 1, 1) := by decide +kernel
theorem dX2_coolsOf_22 : decode cX2_coolsOf 22 = .ok (.iconst 4, 1) := by decide +kernel
theorem dX2_coolsOf_23 : decode cX2_coolsOf 23 = .ok (.invokevirtual 56, 3) := by decide +kernel
theorem dX2_coolsOf_26 : decode cX2_coolsOf 26 = .ok (.ifCond .eq 9, 3) := by decide +kernel
theorem dX2_coolsOf_29 : decode cX2_coolsOf 29 = .ok (.iload_n 2, 1) := by decide +kernel
theorem dX2_coolsOf_30 : decode cX2_coolsOf 30 = .ok (.iconst 2, 1) := by decide +kernel
theorem dX2_coolsOf_31 : decode cX2_coolsOf 31 = .ok (.imul, 1) := by decide +kernel
theorem dX2_coolsOf_32 : decode cX2_coolsOf 32 = .ok (.goto 4, 3) := by decide +kernel
theorem dX2_coolsOf_35 : decode cX2_coolsOf 35 = .ok (.iload_n 2, 1) := by decide +kernel
theorem dX2_coolsOf_36 : decode cX2_coolsOf 36 = .ok (.ireturn, 1) := by decide +kernel
theorem dX3_init_0 : decode cX3_init 0 = .ok (.aload_n 0, 1) := by decide +kernel
theorem dX3_init_1 : decode cX3_init 1 = .ok (.invokespecial 3, 3) := by decide +kernel
theorem dX3_init_4 : decode cX3_init 4 = .ok (.aload_n 0, 1) := by decide +kernel
theorem dX3_init_5 : decode cX3_init 5 = .ok (.bipush 8, 2) := by decide +kernel
theorem dX3_init_7 : decode cX3_init 7 = .ok (.newarray .int, 2) := by decide +kernel
theorem dX3_init_9 : decode cX3_init 9 = .ok (.putfield 9, 3) := by decide +kernel
theorem dX3_init_12 : decode cX3_init 12 = .ok (.aload_n 0, 1) := by decide +kernel
theorem dX3_init_13 : decode cX3_init 13 = .ok (.bipush 8, 2) := by decide +kernel
theorem dX3_init_15 : decode cX3_init 15 = .ok (.newarray .int, 2) := by decide +kernel
theorem dX3_init_17 : decode cX3_init 17 = .ok (.putfield 15, 3) := by decide +kernel
theorem dX3_init_20 : decode cX3_init 20 = .ok (.aload_n 0, 1) := by decide +kernel
theorem dX3_init_21 : decode cX3_init 21 = .ok (.bipush 8, 2) := by decide +kernel
theorem dX3_init_23 : decode cX3_init 23 = .ok (.newarray .int, 2) := by decide +kernel
theorem dX3_init_25 : decode cX3_init 25 = .ok (.putfield 18, 3) := by decide +kernel
theorem dX3_init_28 : decode cX3_init 28 = .ok (.return_, 1) := by decide +kernel
theorem dX3_clear_0 : decode cX3_clear 0 = .ok (.aload_n 0, 1) := by decide +kernel
theorem dX3_clear_1 : decode cX3_clear 1 = .ok (.iconst 0, 1) := by decide +kernel
theorem dX3_clear_2 : decode cX3_clear 2 = .ok (.putfield 21, 3) := by decide +kernel
theorem dX3_clear_5 : decode cX3_clear 5 = .ok (.aload_n 0, 1) := by decide +kernel
theorem dX3_clear_6 : decode cX3_clear 6 = .ok (.iconst 0, 1) := by decide +kernel
theorem dX3_clear_7 : decode cX3_clear 7 = .ok (.putfield 25, 3) := by decide +kernel
theorem dX3_clear_10 : decode cX3_clear 10 = .ok (.aload_n 0, 1) := by decide +kernel
theorem dX3_clear_11 : decode cX3_clear 11 = .ok (.iconst 0, 1) := by decide +kernel
theorem dX3_clear_12 : decode cX3_clear 12 = .ok (.putfield 28, 3) := by decide +kernel
theorem dX3_clear_15 : decode cX3_clear 15 = .ok (.aload_n 0, 1) := by decide +kernel
theorem dX3_clear_16 : decode cX3_clear 16 = .ok (.iconst 0, 1) := by decide +kernel
theorem dX3_clear_17 : decode cX3_clear 17 = .ok (.putfield 31, 3) := by decide +kernel
theorem dX3_clear_20 : decode cX3_clear 20 = .ok (.aload_n 0, 1) := by decide +kernel
theorem dX3_clear_21 : decode cX3_clear 21 = .ok (.iconst 0, 1) := by decide +kernel
theorem dX3_clear_22 : decode cX3_clear 22 = .ok (.putfield 34, 3) := by decide +kernel
theorem dX3_clear_25 : decode cX3_clear 25 = .ok (.return_, 1) := by decide +kernel
theorem dX3_has_0 : decode cX3_has 0 = .ok (.iload_n 1, 1) := by decide +kernel
theorem dX3_has_1 : decode cX3_has 1 = .ok (.ifCond .lt 24, 3) := by decide +kernel
theorem dX3_has_4 : decode cX3_has 4 = .ok (.iload_n 1, 1) := by decide +kernel
theorem dX3_has_5 : decode cX3_has 5 = .ok (.bipush 8, 2) := by decide +kernel
theorem dX3_has_7 : decode cX3_has 7 = .ok (.if_icmp .ge 18, 3) := by decide +kernel
theorem dX3_has_10 : decode cX3_has 10 = .ok (.aload_n 0, 1) := by decide +kernel
theorem dX3_has_11 : decode cX3_has 11 = .ok (.getfield 25, 3) := by decide +kernel
theorem dX3_has_14 : decode cX3_has 14 = .ok (.iload_n 1, 1) := by decide +kernel
theorem dX3_has_15 : decode cX3_has 15 = .ok (.ishr, 1) := by decide +kernel
theorem dX3_has_16 : decode cX3_has 16 = .ok (.iconst 1, 1) := by decide +kernel
theorem dX3_has_17 : decode cX3_has 17 = .ok (.iand, 1) := by decide +kernel
theorem dX3_has_18 : decode cX3_has 18 = .ok (.ifCond .eq 7, 3) := by decide +kernel
theorem dX3_has_21 : decode cX3_has 21 = .ok (.iconst 1, 1) := by decide +kernel
theorem dX3_has_22 : decode cX3_has 22 = .ok (.goto 4, 3) := by decide +kernel
theorem dX3_has_25 : decode cX3_has 25 = .ok (.iconst 0, 1) := by decide +kernel
theorem dX3_has_26 : decode cX3_has 26 = .ok (.ireturn, 1) := by decide +kernel
theorem dX3_append_0 : decode cX3_append 0 = .ok (.aload_n 1, 1) := by decide +kernel
theorem dX3_append_1 : decode cX3_append 1 = .ok (.iload_n 2, 1) := by decide +kernel
theorem dX3_append_2 : decode cX3_append 2 = .ok (.invokevirtual 37, 3) := by decide +kernel
theorem dX3_append_5 : decode cX3_append 5 = .ok (.ifCond .eq 33, 3) := by decide +kernel
theorem dX3_append_8 : decode cX3_append 8 = .ok (.aload_n 0, 1) := by decide +kernel
theorem dX3_append_9 : decode cX3_append 9 = .ok (.getfield 21, 3) := by decide +kernel
theorem dX3_append_12 : decode cX3_append 12 = .ok (.aload_n 0, 1) := by decide +kernel
theorem dX3_append_13 : decode cX3_append 13 = .ok (.getfield 9, 3) := by decide +kernel
theorem dX3_append_16 : decode cX3_append 16 = .ok (.arraylength, 1) := by decide +kernel
theorem dX3_append_17 : decode cX3_append 17 = .ok (.if_icmp .ge 21, 3) := by decide +kernel
theorem dX3_append_20 : decode cX3_append 20 = .ok (.iload_n 2, 1) := by decide +kernel
theorem dX3_append_21 : decode cX3_append 21 = .ok (.aload_n 0, 1) := by decide +kernel
theorem dX3_append_22 : decode cX3_append 22 = .ok (.getfield 15, 3) := by decide +kernel
theorem dX3_append_25 : decode cX3_append 25 = .ok (.arraylength, 1) := by decide +kernel
theorem dX3_append_26 : decode cX3_append 26 = .ok (.if_icmp .ge 12, 3) := by decide +kernel
theorem dX3_append_29 : decode cX3_append 29 = .ok (.iload_n 2, 1) := by decide +kernel
theorem dX3_append_30 : decode cX3_append 30 = .ok (.aload_n 0, 1) := by decide +kernel
theorem dX3_append_31 : decode cX3_append 31 = .ok (.getfield 18, 3) := by decide +kernel
theorem dX3_append_34 : decode cX3_append 34 = .ok (.arraylength, 1) := by decide +kernel
theorem dX3_append_35 : decode cX3_append 35 = .ok (.if_icmp .lt 4, 3) := by decide +kernel
theorem dX3_append_38 : decode cX3_append 38 = .ok (.return_, 1) := by decide +kernel
theorem dX3_append_39 : decode cX3_append 39 = .ok (.aload_n 0, 1) := by decide +kernel
theorem dX3_append_40 : decode cX3_append 40 = .ok (.getfield 28, 3) := by decide +kernel
theorem dX3_append_43 : decode cX3_append 43 = .ok (.aload_n 1, 1) := by decide +kernel
theorem dX3_append_44 : decode cX3_append 44 = .ok (.iload_n 2, 1) := by decide +kernel
theorem dX3_append_45 : decode cX3_append 45 = .ok (.invokevirtual 43, 3) := by decide +kernel
theorem dX3_append_48 : decode cX3_append 48 = .ok (.invokestatic 47, 3) := by decide +kernel
theorem dX3_append_51 : decode cX3_append 51 = .ok (.istore_n 3, 1) := by decide +kernel
theorem dX3_append_52 : decode cX3_append 52 = .ok (.aload_n 0, 1) := by decide +kernel
theorem dX3_append_53 : decode cX3_append 53 = .ok (.dup, 1) := by decide +kernel
theorem dX3_append_54 : decode cX3_append 54 = .ok (.getfield 34, 3) := by decide +kernel
theorem dX3_append_57 : decode cX3_append 57 = .ok (.iload_n 3, 1) := by decide +kernel
theorem dX3_append_58 : decode cX3_append 58 = .ok (.aload_n 0, 1) := by decide +kernel
theorem dX3_append_59 : decode cX3_append 59 = .ok (.getfield 28, 3) := by decide +kernel
theorem dX3_append_62 : decode cX3_append 62 = .ok (.isub, 1) := by decide +kernel
theorem dX3_append_63 : decode cX3_append 63 = .ok (.iadd, 1) := by decide +kernel
theorem dX3_append_64 : decode cX3_append 64 = .ok (.putfield 34, 3) := by decide +kernel
theorem dX3_append_67 : decode cX3_append 67 = .ok (.aload_n 0, 1) := by decide +kernel
theorem dX3_append_68 : decode cX3_append 68 = .ok (.iload_n 3, 1) := by decide +kernel
theorem dX3_append_69 : decode cX3_append 69 = .ok (.aload_n 1, 1) := by decide +kernel
theorem dX3_append_70 : decode cX3_append 70 = .ok (.iload_n 2, 1) := by decide +kernel
theorem dX3_append_71 : decode cX3_append 71 = .ok (.invokevirtual 53, 3) := by decide +kernel
theorem dX3_append_74 : decode cX3_append 74 = .ok (.iadd, 1) := by decide +kernel
theorem dX3_append_75 : decode cX3_append 75 = .ok (.putfield 28, 3) := by decide +kernel
theorem dX3_append_78 : decode cX3_append 78 = .ok (.aload_n 0, 1) := by decide +kernel
theorem dX3_append_79 : decode cX3_append 79 = .ok (.aload_n 0, 1) := by decide +kernel
theorem dX3_append_80 : decode cX3_append 80 = .ok (.getfield 31, 3) := by decide +kernel
theorem dX3_append_83 : decode cX3_append 83 = .ok (.aload_n 0, 1) := by decide +kernel
theorem dX3_append_84 : decode cX3_append 84 = .ok (.getfield 28, 3) := by decide +kernel
theorem dX3_append_87 : decode cX3_append 87 = .ok (.aload_n 1, 1) := by decide +kernel
theorem dX3_append_88 : decode cX3_append 88 = .ok (.iload_n 2, 1) := by decide +kernel
theorem dX3_append_89 : decode cX3_append 89 = .ok (.invokevirtual 56, 3) := by decide +kernel
theorem dX3_append_92 : decode cX3_append 92 = .ok (.iadd, 1) := by decide +kernel
theorem dX3_append_93 : decode cX3_append 93 = .ok (.invokestatic 47, 3) := by decide +kernel
theorem dX3_append_96 : decode cX3_append 96 = .ok (.putfield 31, 3) := by decide +kernel
theorem dX3_append_99 : decode cX3_append 99 = .ok (.aload_n 0, 1) := by decide +kernel
theorem dX3_append_100 : decode cX3_append 100 = .ok (.getfield 15, 3) := by decide +kernel
theorem dX3_append_103 : decode cX3_append 103 = .ok (.iload_n 2, 1) := by decide +kernel
theorem dX3_append_104 : decode cX3_append 104 = .ok (.iload_n 3, 1) := by decide +kernel
theorem dX3_append_105 : decode cX3_append 105 = .ok (.iastore, 1) := by decide +kernel
theorem dX3_append_106 : decode cX3_append 106 = .ok (.aload_n 0, 1) := by decide +kernel
theorem dX3_append_107 : decode cX3_append 107 = .ok (.getfield 18, 3) := by decide +kernel
theorem dX3_append_110 : decode cX3_append 110 = .ok (.iload_n 2, 1) := by decide +kernel
theorem dX3_append_111 : decode cX3_append 111 = .ok (.aload_n 0, 1) := by decide +kernel
theorem dX3_append_112 : decode cX3_append 112 = .ok (.getfield 28, 3) := by decide +kernel
theorem dX3_append_115 : decode cX3_append 115 = .ok (.iastore, 1) := by decide +kernel
theorem dX3_append_116 : decode cX3_append 116 = .ok (.aload_n 0, 1) := by decide +kernel
theorem dX3_append_117 : decode cX3_append 117 = .ok (.dup, 1) := by decide +kernel
theorem dX3_append_118 : decode cX3_append 118 = .ok (.getfield 25, 3) := by decide +kernel
theorem dX3_append_121 : decode cX3_append 121 = .ok (.iconst 1, 1) := by decide +kernel
theorem dX3_append_122 : decode cX3_append 122 = .ok (.iload_n 2, 1) := by decide +kernel
theorem dX3_append_123 : decode cX3_append 123 = .ok (.ishl, 1) := by decide +kernel
theorem dX3_append_124 : decode cX3_append 124 = .ok (.ior, 1) := by decide +kernel
theorem dX3_append_125 : decode cX3_append 125 = .ok (.putfield 25, 3) := by decide +kernel
theorem dX3_append_128 : decode cX3_append 128 = .ok (.aload_n 0, 1) := by decide +kernel
theorem dX3_append_129 : decode cX3_append 129 = .ok (.getfield 9, 3) := by decide +kernel
theorem dX3_append_132 : decode cX3_append 132 = .ok (.aload_n 0, 1) := by decide +kernel
theorem dX3_append_133 : decode cX3_append 133 = .ok (.getfield 21, 3) := by decide +kernel
theorem dX3_append_136 : decode cX3_append 136 = .ok (.iload_n 2, 1) := by decide +kernel
theorem dX3_append_137 : decode cX3_append 137 = .ok (.iastore, 1) := by decide +kernel
theorem dX3_append_138 : decode cX3_append 138 = .ok (.aload_n 0, 1) := by decide +kernel
theorem dX3_append_139 : decode cX3_append 139 = .ok (.dup, 1) := by decide +kernel
theorem dX3_append_140 : decode cX3_append 140 = .ok (.getfield 21, 3) := by decide +kernel
theorem dX3_append_143 : decode cX3_append 143 = .ok (.iconst 1, 1) := by decide +kernel
theorem dX3_append_144 : decode cX3_append 144 = .ok (.iadd, 1) := by decide +kernel
theorem dX3_append_145 : decode cX3_append 145 = .ok (.putfield 21, 3) := by decide +kernel
theorem dX3_append_148 : decode cX3_append 148 = .ok (.return_, 1) := by decide +kernel
theorem dX3_layGreedy_0 : decode cX3_layGreedy 0 = .ok (.aload_n 0, 1) := by decide +kernel
theorem dX3_layGreedy_1 : decode cX3_layGreedy 1 = .ok (.invokevirtual 59, 3) := by decide +kernel
theorem dX3_layGreedy_4 : decode cX3_layGreedy 4 = .ok (.iconst 0, 1) := by decide +kernel
theorem dX3_layGreedy_5 : decode cX3_layGreedy 5 = .ok (.istore_n 2, 1) := by decide +kernel
theorem dX3_layGreedy_6 : decode cX3_layGreedy 6 = .ok (.iload_n 2, 1) := by decide +kernel
theorem dX3_layGreedy_7 : decode cX3_layGreedy 7 = .ok (.aload_n 1, 1) := by decide +kernel
theorem dX3_layGreedy_8 : decode cX3_layGreedy 8 = .ok (.getfield 62, 3) := by decide +kernel
theorem dX3_layGreedy_11 : decode cX3_layGreedy 11 = .ok (.if_icmp .ge 34, 3) := by decide +kernel
theorem dX3_layGreedy_14 : decode cX3_layGreedy 14 = .ok (.aload_n 0, 1) := by decide +kernel
theorem dX3_layGreedy_15 : decode cX3_layGreedy 15 = .ok (.aload_n 1, 1) := by decide +kernel
theorem dX3_layGreedy_16 : decode cX3_layGreedy 16 = .ok (.aload_n 1, 1) := by decide +kernel
theorem dX3_layGreedy_17 : decode cX3_layGreedy 17 = .ok (.aload_n 0, 1) := by decide +kernel
theorem dX3_layGreedy_18 : decode cX3_layGreedy 18 = .ok (.getfield 25, 3) := by decide +kernel
theorem dX3_layGreedy_21 : decode cX3_layGreedy 21 = .ok (.aload_n 1, 1) := by decide +kernel
theorem dX3_layGreedy_22 : decode cX3_layGreedy 22 = .ok (.aload_n 0, 1) := by decide +kernel
theorem dX3_layGreedy_23 : decode cX3_layGreedy 23 = .ok (.getfield 25, 3) := by decide +kernel
theorem dX3_layGreedy_26 : decode cX3_layGreedy 26 = .ok (.aload_n 0, 1) := by decide +kernel
theorem dX3_layGreedy_27 : decode cX3_layGreedy 27 = .ok (.getfield 28, 3) := by decide +kernel
theorem dX3_layGreedy_30 : decode cX3_layGreedy 30 = .ok (.invokevirtual 63, 3) := by decide +kernel
theorem dX3_layGreedy_33 : decode cX3_layGreedy 33 = .ok (.invokevirtual 66, 3) := by decide +kernel
theorem dX3_layGreedy_36 : decode cX3_layGreedy 36 = .ok (.invokevirtual 69, 3) := by decide +kernel
theorem dX3_layGreedy_39 : decode cX3_layGreedy 39 = .ok (.iinc 2 1, 3) := by decide +kernel
theorem dX3_layGreedy_42 : decode cX3_layGreedy 42 = .ok (.goto (-36), 3) := by decide +kernel
theorem dX3_layGreedy_45 : decode cX3_layGreedy 45 = .ok (.return_, 1) := by decide +kernel
theorem dX3_jobAt_0 : decode cX3_jobAt 0 = .ok (.iload_n 1, 1) := by decide +kernel
theorem dX3_jobAt_1 : decode cX3_jobAt 1 = .ok (.ifCond .lt 29, 3) := by decide +kernel
theorem dX3_jobAt_4 : decode cX3_jobAt 4 = .ok (.iload_n 1, 1) := by decide +kernel
theorem dX3_jobAt_5 : decode cX3_jobAt 5 = .ok (.aload_n 0, 1) := by decide +kernel
theorem dX3_jobAt_6 : decode cX3_jobAt 6 = .ok (.getfield 21, 3) := by decide +kernel
theorem dX3_jobAt_9 : decode cX3_jobAt 9 = .ok (.if_icmp .ge 21, 3) := by decide +kernel
theorem dX3_jobAt_12 : decode cX3_jobAt 12 = .ok (.iload_n 1, 1) := by decide +kernel
theorem dX3_jobAt_13 : decode cX3_jobAt 13 = .ok (.aload_n 0, 1) := by decide +kernel
theorem dX3_jobAt_14 : decode cX3_jobAt 14 = .ok (.getfield 9, 3) := by decide +kernel
theorem dX3_jobAt_17 : decode cX3_jobAt 17 = .ok (.arraylength, 1) := by decide +kernel
theorem dX3_jobAt_18 : decode cX3_jobAt 18 = .ok (.if_icmp .ge 12, 3) := by decide +kernel
theorem dX3_jobAt_21 : decode cX3_jobAt 21 = .ok (.aload_n 0, 1) := by decide +kernel
theorem dX3_jobAt_22 : decode cX3_jobAt 22 = .ok (.getfield 9, 3) := by decide +kernel
theorem dX3_jobAt_25 : decode cX3_jobAt 25 = .ok (.iload_n 1, 1) := by decide +kernel
theorem dX3_jobAt_26 : decode cX3_jobAt 26 = .ok (.iaload, 1) := by decide +kernel
theorem dX3_jobAt_27 : decode cX3_jobAt 27 = .ok (.goto 4, 3) := by decide +kernel
theorem dX3_jobAt_30 : decode cX3_jobAt 30 = .ok (.iconst (-1), 1) := by decide +kernel
theorem dX3_jobAt_31 : decode cX3_jobAt 31 = .ok (.ireturn, 1) := by decide +kernel
theorem dX3_beginOf_0 : decode cX3_beginOf 0 = .ok (.iload_n 1, 1) := by decide +kernel
theorem dX3_beginOf_1 : decode cX3_beginOf 1 = .ok (.ifCond .lt 32, 3) := by decide +kernel
theorem dX3_beginOf_4 : decode cX3_beginOf 4 = .ok (.iload_n 1, 1) := by decide +kernel
theorem dX3_beginOf_5 : decode cX3_beginOf 5 = .ok (.aload_n 0, 1) := by decide +kernel
theorem dX3_beginOf_6 : decode cX3_beginOf 6 = .ok (.getfield 15, 3) := by decide +kernel
theorem dX3_beginOf_9 : decode cX3_beginOf 9 = .ok (.arraylength, 1) := by decide +kernel
theorem dX3_beginOf_10 : decode cX3_beginOf 10 = .ok (.if_icmp .ge 23, 3) := by decide +kernel
theorem dX3_beginOf_13 : decode cX3_beginOf 13 = .ok (.aload_n 0, 1) := by decide +kernel
theorem dX3_beginOf_14 : decode cX3_beginOf 14 = .ok (.getfield 25, 3) := by decide +kernel
theorem dX3_beginOf_17 : decode cX3_beginOf 17 = .ok (.iload_n 1, 1) := by decide +kernel
theorem dX3_beginOf_18 : decode cX3_beginOf 18 = .ok (.ishr, 1) := by decide +kernel
theorem dX3_beginOf_19 : decode cX3_beginOf 19 = .ok (.iconst 1, 1) := by decide +kernel
theorem dX3_beginOf_20 : decode cX3_beginOf 20 = .ok (.iand, 1) := by decide +kernel
theorem dX3_beginOf_21 : decode cX3_beginOf 21 = .ok (.ifCond .eq 12, 3) := by decide +kernel
theorem dX3_beginOf_24 : decode cX3_beginOf 24 = .ok (.aload_n 0, 1) := by decide +kernel
theorem dX3_beginOf_25 : decode cX3_beginOf 25 = .ok (.getfield 15, 3) := by decide +kernel
theorem dX3_beginOf_28 : decode cX3_beginOf 28 = .ok (.iload_n 1, 1) := by decide +kernel
theorem dX3_beginOf_29 : decode cX3_beginOf 29 = .ok (.iaload, 1) := by decide +kernel
theorem dX3_beginOf_30 : decode cX3_beginOf 30 = .ok (.goto 4, 3) := by decide +kernel
theorem dX3_beginOf_33 : decode cX3_beginOf 33 = .ok (.iconst (-1), 1) := by decide +kernel
theorem dX3_beginOf_34 : decode cX3_beginOf 34 = .ok (.ireturn, 1) := by decide +kernel
theorem dX3_endOf_0 : decode cX3_endOf 0 = .ok (.iload_n 1, 1) := by decide +kernel
theorem dX3_endOf_1 : decode cX3_endOf 1 = .ok (.ifCond .lt 32, 3) := by decide +kernel
theorem dX3_endOf_4 : decode cX3_endOf 4 = .ok (.iload_n 1, 1) := by decide +kernel
theorem dX3_endOf_5 : decode cX3_endOf 5 = .ok (.aload_n 0, 1) := by decide +kernel
theorem dX3_endOf_6 : decode cX3_endOf 6 = .ok (.getfield 18, 3) := by decide +kernel
theorem dX3_endOf_9 : decode cX3_endOf 9 = .ok (.arraylength, 1) := by decide +kernel
theorem dX3_endOf_10 : decode cX3_endOf 10 = .ok (.if_icmp .ge 23, 3) := by decide +kernel
theorem dX3_endOf_13 : decode cX3_endOf 13 = .ok (.aload_n 0, 1) := by decide +kernel
theorem dX3_endOf_14 : decode cX3_endOf 14 = .ok (.getfield 25, 3) := by decide +kernel
theorem dX3_endOf_17 : decode cX3_endOf 17 = .ok (.iload_n 1, 1) := by decide +kernel
theorem dX3_endOf_18 : decode cX3_endOf 18 = .ok (.ishr, 1) := by decide +kernel
theorem dX3_endOf_19 : decode cX3_endOf 19 = .ok (.iconst 1, 1) := by decide +kernel
theorem dX3_endOf_20 : decode cX3_endOf 20 = .ok (.iand, 1) := by decide +kernel
theorem dX3_endOf_21 : decode cX3_endOf 21 = .ok (.ifCond .eq 12, 3) := by decide +kernel
theorem dX3_endOf_24 : decode cX3_endOf 24 = .ok (.aload_n 0, 1) := by decide +kernel
theorem dX3_endOf_25 : decode cX3_endOf 25 = .ok (.getfield 18, 3) := by decide +kernel
theorem dX3_endOf_28 : decode cX3_endOf 28 = .ok (.iload_n 1, 1) := by decide +kernel
theorem dX3_endOf_29 : decode cX3_endOf 29 = .ok (.iaload, 1) := by decide +kernel
theorem dX3_endOf_30 : decode cX3_endOf 30 = .ok (.goto 4, 3) := by decide +kernel
theorem dX3_endOf_33 : decode cX3_endOf 33 = .ok (.iconst (-1), 1) := by decide +kernel
theorem dX3_endOf_34 : decode cX3_endOf 34 = .ok (.ireturn, 1) := by decide +kernel
theorem dX3_laterThan_0 : decode cX3_laterThan 0 = .ok (.iconst 0, 1) := by decide +kernel
theorem dX3_laterThan_1 : decode cX3_laterThan 1 = .ok (.istore_n 2, 1) := by decide +kernel
theorem dX3_laterThan_2 : decode cX3_laterThan 2 = .ok (.iconst 0, 1) := by decide +kernel
theorem dX3_laterThan_3 : decode cX3_laterThan 3 = .ok (.istore_n 3, 1) := by decide +kernel
theorem dX3_laterThan_4 : decode cX3_laterThan 4 = .ok (.iload_n 3, 1) := by decide +kernel
theorem dX3_laterThan_5 : decode cX3_laterThan 5 = .ok (.aload_n 0, 1) := by decide +kernel
theorem dX3_laterThan_6 : decode cX3_laterThan 6 = .ok (.getfield 21, 3) := by decide +kernel
theorem dX3_laterThan_9 : decode cX3_laterThan 9 = .ok (.if_icmp .ge 33, 3) := by decide +kernel
theorem dX3_laterThan_12 : decode cX3_laterThan 12 = .ok (.aload_n 0, 1) := by decide +kernel
theorem dX3_laterThan_13 : decode cX3_laterThan 13 = .ok (.aload_n 0, 1) := by decide +kernel
theorem dX3_laterThan_14 : decode cX3_laterThan 14 = .ok (.iload_n 3, 1) := by decide +kernel
theorem dX3_laterThan_15 : decode cX3_laterThan 15 = .ok (.invokevirtual 73, 3) := by decide +kernel
theorem dX3_laterThan_18 : decode cX3_laterThan 18 = .ok (.invokevirtual 76, 3) := by decide +kernel
theorem dX3_laterThan_21 : decode cX3_laterThan 21 = .ok (.aload_n 1, 1) := by decide +kernel
theorem dX3_laterThan_22 : decode cX3_laterThan 22 = .ok (.aload_n 0, 1) := by decide +kernel
theorem dX3_laterThan_23 : decode cX3_laterThan 23 = .ok (.iload_n 3, 1) := by decide +kernel
theorem dX3_laterThan_24 : decode cX3_laterThan 24 = .ok (.invokevirtual 73, 3) := by decide +kernel
theorem dX3_laterThan_27 : decode cX3_laterThan 27 = .ok (.invokevirtual 76, 3) := by decide +kernel
theorem dX3_laterThan_30 : decode cX3_laterThan 30 = .ok (.if_icmp .le 6, 3) := by decide +kernel
theorem dX3_laterThan_33 : decode cX3_laterThan 33 = .ok (.iinc 2 1, 3) := by decide +kernel
theorem dX3_laterThan_36 : decode cX3_laterThan 36 = .ok (.iinc 3 1, 3) := by decide +kernel
theorem dX3_laterThan_39 : decode cX3_laterThan 39 = .ok (.goto (-35), 3) := by decide +kernel
theorem dX3_laterThan_42 : decode cX3_laterThan 42 = .ok (.iload_n 2, 1) := by decide +kernel
theorem dX3_laterThan_43 : decode cX3_laterThan 43 = .ok (.ireturn, 1) := by decide +kernel
theorem dX3_longestWait_0 : decode cX3_longestWait 0 = .ok (.iconst 0, 1) := by decide +kernel
theorem dX3_longestWait_1 : decode cX3_longestWait 1 = .ok (.istore_n 2, 1) := by decide +kernel
theorem dX3_longestWait_2 : decode cX3_longestWait 2 = .ok (.iconst 0, 1) := by decide +kernel
theorem dX3_longestWait_3 : decode cX3_longestWait 3 = .ok (.istore_n 3, 1) := by decide +kernel
theorem dX3_longestWait_4 : decode cX3_longestWait 4 = .ok (.iload_n 3, 1) := by decide +kernel
theorem dX3_longestWait_5 : decode cX3_longestWait 5 = .ok (.aload_n 0, 1) := by decide +kernel
theorem dX3_longestWait_6 : decode cX3_longestWait 6 = .ok (.getfield 21, 3) := by decide +kernel
theorem dX3_longestWait_9 : decode cX3_longestWait 9 = .ok (.if_icmp .ge 33, 3) := by decide +kernel
theorem dX3_longestWait_12 : decode cX3_longestWait 12 = .ok (.iload_n 2, 1) := by decide +kernel
theorem dX3_longestWait_13 : decode cX3_longestWait 13 = .ok (.aload_n 0, 1) := by decide +kernel
theorem dX3_longestWait_14 : decode cX3_longestWait 14 = .ok (.aload_n 0, 1) := by decide +kernel
theorem dX3_longestWait_15 : decode cX3_longestWait 15 = .ok (.iload_n 3, 1) := by decide +kernel
theorem dX3_longestWait_16 : decode cX3_longestWait 16 = .ok (.invokevirtual 73, 3) := by decide +kernel
theorem dX3_longestWait_19 : decode cX3_longestWait 19 = .ok (.invokevirtual 76, 3) := by decide +kernel
theorem dX3_longestWait_22 : decode cX3_longestWait 22 = .ok (.aload_n 1, 1) := by decide +kernel
theorem dX3_longestWait_23 : decode cX3_longestWait 23 = .ok (.aload_n 0, 1) := by decide +kernel
theorem dX3_longestWait_24 : decode cX3_longestWait 24 = .ok (.iload_n 3, 1) := by decide +kernel
theorem dX3_longestWait_25 : decode cX3_longestWait 25 = .ok (.invokevirtual 73, 3) := by decide +kernel
theorem dX3_longestWait_28 : decode cX3_longestWait 28 = .ok (.invokevirtual 43, 3) := by decide +kernel
theorem dX3_longestWait_31 : decode cX3_longestWait 31 = .ok (.isub, 1) := by decide +kernel
theorem dX3_longestWait_32 : decode cX3_longestWait 32 = .ok (.invokestatic 47, 3) := by decide +kernel
theorem dX3_longestWait_35 : decode cX3_longestWait 35 = .ok (.istore_n 2, 1) := by decide +kernel
theorem dX3_longestWait_36 : decode cX3_longestWait 36 = .ok (.iinc 3 1, 3) := by decide +kernel
theorem dX3_longestWait_39 : decode cX3_longestWait 39 = .ok (.goto (-35), 3) := by decide +kernel
theorem dX3_longestWait_42 : decode cX3_longestWait 42 = .ok (.iload_n 2, 1) := by decide +kernel
theorem dX3_longestWait_43 : decode cX3_longestWait 43 = .ok (.ireturn, 1) := by decide +kernel
theorem dX4_init_0 : decode cX4_init 0 = .ok (.aload_n 0, 1) := by decide +kernel
theorem dX4_init_1 : decode cX4_init 1 = .ok (.invokespecial 3, 3) := by decide +kernel
theorem dX4_init_4 : decode cX4_init 4 = .ok (.aload_n 0, 1) := by decide +kernel
theorem dX4_init_5 : decode cX4_init 5 = .ok (.bipush 8, 2) := by decide +kernel
theorem dX4_init_7 : decode cX4_init 7 = .ok (.newarray .int, 2) := by decide +kernel
theorem dX4_init_9 : decode cX4_init 9 = .ok (.putfield 9, 3) := by decide +kernel
theorem dX4_init_12 : decode cX4_init 12 = .ok (.aload_n 0, 1) := by decide +kernel
theorem dX4_init_13 : decode cX4_init 13 = .ok (.bipush 8, 2) := by decide +kernel
theorem dX4_init_15 : decode cX4_init 15 = .ok (.newarray .int, 2) := by decide +kernel
theorem dX4_init_17 : decode cX4_init 17 = .ok (.putfield 15, 3) := by decide +kernel
theorem dX4_init_20 : decode cX4_init 20 = .ok (.aload_n 0, 1) := by decide +kernel
theorem dX4_init_21 : decode cX4_init 21 = .ok (.bipush 8, 2) := by decide +kernel
theorem dX4_init_23 : decode cX4_init 23 = .ok (.newarray .int, 2) := by decide +kernel
theorem dX4_init_25 : decode cX4_init 25 = .ok (.putfield 18, 3) := by decide +kernel
theorem dX4_init_28 : decode cX4_init 28 = .ok (.return_, 1) := by decide +kernel
theorem dX4_readFrom_0 : decode cX4_readFrom 0 = .ok (.aload_n 0, 1) := by decide +kernel
theorem dX4_readFrom_1 : decode cX4_readFrom 1 = .ok (.iconst 0, 1) := by decide +kernel
theorem dX4_readFrom_2 : decode cX4_readFrom 2 = .ok (.putfield 21, 3) := by decide +kernel
theorem dX4_readFrom_5 : decode cX4_readFrom 5 = .ok (.iconst 0, 1) := by decide +kernel
theorem dX4_readFrom_6 : decode cX4_readFrom 6 = .ok (.istore_n 2, 1) := by decide +kernel
theorem dX4_readFrom_7 : decode cX4_readFrom 7 = .ok (.iload_n 2, 1) := by decide +kernel
theorem dX4_readFrom_8 : decode cX4_readFrom 8 = .ok (.aload_n 1, 1) := by decide +kernel
theorem dX4_readFrom_9 : decode cX4_readFrom 9 = .ok (.getfield 25, 3) := by decide +kernel
theorem dX4_readFrom_12 : decode cX4_readFrom 12 = .ok (.if_icmp .ge 58, 3) := by decide +kernel
theorem dX4_readFrom_15 : decode cX4_readFrom 15 = .ok (.iload_n 2, 1) := by decide +kernel
theorem dX4_readFrom_16 : decode cX4_readFrom 16 = .ok (.bipush 8, 2) := by decide +kernel
theorem dX4_readFrom_18 : decode cX4_readFrom 18 = .ok (.if_icmp .ge 52, 3) := by decide +kernel
theorem dX4_readFrom_21 : decode cX4_readFrom 21 = .ok (.aload_n 0, 1) := by decide +kernel
theorem dX4_readFrom_22 : decode cX4_readFrom 22 = .ok (.getfield 9, 3) := by decide +kernel
theorem dX4_readFrom_25 : decode cX4_readFrom 25 = .ok (.iload_n 2, 1) := by decide +kernel
theorem dX4_readFrom_26 : decode cX4_readFrom 26 = .ok (.aload_n 1, 1) := by decide +kernel
theorem dX4_readFrom_27 : decode cX4_readFrom 27 = .ok (.iload_n 2, 1) := by decide +kernel
theorem dX4_readFrom_28 : decode cX4_readFrom 28 = .ok (.invokevirtual 28, 3) := by decide +kernel
theorem dX4_readFrom_31 : decode cX4_readFrom 31 = .ok (.iastore, 1) := by decide +kernel
theorem dX4_readFrom_32 : decode cX4_readFrom 32 = .ok (.aload_n 0, 1) := by decide +kernel
theorem dX4_readFrom_33 : decode cX4_readFrom 33 = .ok (.getfield 15, 3) := by decide +kernel
theorem dX4_readFrom_36 : decode cX4_readFrom 36 = .ok (.iload_n 2, 1) := by decide +kernel
theorem dX4_readFrom_37 : decode cX4_readFrom 37 = .ok (.aload_n 1, 1) := by decide +kernel
theorem dX4_readFrom_38 : decode cX4_readFrom 38 = .ok (.iload_n 2, 1) := by decide +kernel
theorem dX4_readFrom_39 : decode cX4_readFrom 39 = .ok (.invokevirtual 32, 3) := by decide +kernel
theorem dX4_readFrom_42 : decode cX4_readFrom 42 = .ok (.iastore, 1) := by decide +kernel
theorem dX4_readFrom_43 : decode cX4_readFrom 43 = .ok (.aload_n 0, 1) := by decide +kernel
theorem dX4_readFrom_44 : decode cX4_readFrom 44 = .ok (.getfield 18, 3) := by decide +kernel
theorem dX4_readFrom_47 : decode cX4_readFrom 47 = .ok (.iload_n 2, 1) := by decide +kernel
theorem dX4_readFrom_48 : decode cX4_readFrom 48 = .ok (.aload_n 1, 1) := by decide +kernel
theorem dX4_readFrom_49 : decode cX4_readFrom 49 = .ok (.iload_n 2, 1) := by decide +kernel
theorem dX4_readFrom_50 : decode cX4_readFrom 50 = .ok (.invokevirtual 35, 3) := by decide +kernel
theorem dX4_readFrom_53 : decode cX4_readFrom 53 = .ok (.iastore, 1) := by decide +kernel
theorem dX4_readFrom_54 : decode cX4_readFrom 54 = .ok (.aload_n 0, 1) := by decide +kernel
theorem dX4_readFrom_55 : decode cX4_readFrom 55 = .ok (.dup, 1) := by decide +kernel
theorem dX4_readFrom_56 : decode cX4_readFrom 56 = .ok (.getfield 21, 3) := by decide +kernel
theorem dX4_readFrom_59 : decode cX4_readFrom 59 = .ok (.iconst 1, 1) := by decide +kernel
theorem dX4_readFrom_60 : decode cX4_readFrom 60 = .ok (.iadd, 1) := by decide +kernel
theorem dX4_readFrom_61 : decode cX4_readFrom 61 = .ok (.putfield 21, 3) := by decide +kernel
theorem dX4_readFrom_64 : decode cX4_readFrom 64 = .ok (.iinc 2 1, 3) := by decide +kernel
theorem dX4_readFrom_67 : decode cX4_readFrom 67 = .ok (.goto (-60), 3) := by decide +kernel
theorem dX4_readFrom_70 : decode cX4_readFrom 70 = .ok (.return_, 1) := by decide +kernel
theorem dX4_becomeAs_0 : decode cX4_becomeAs 0 = .ok (.aload_n 0, 1) := by decide +kernel
theorem dX4_becomeAs_1 : decode cX4_becomeAs 1 = .ok (.iconst 0, 1) := by decide +kernel
theorem dX4_becomeAs_2 : decode cX4_becomeAs 2 = .ok (.putfield 21, 3) := by decide +kernel
theorem dX4_becomeAs_5 : decode cX4_becomeAs 5 = .ok (.iconst 0, 1) := by decide +kernel
theorem dX4_becomeAs_6 : decode cX4_becomeAs 6 = .ok (.istore_n 2, 1) := by decide +kernel
theorem dX4_becomeAs_7 : decode cX4_becomeAs 7 = .ok (.iload_n 2, 1) := by decide +kernel
theorem dX4_becomeAs_8 : decode cX4_becomeAs 8 = .ok (.aload_n 1, 1) := by decide +kernel
theorem dX4_becomeAs_9 : decode cX4_becomeAs 9 = .ok (.getfield 21, 3) := by decide +kernel
theorem dX4_becomeAs_12 : decode cX4_becomeAs 12 = .ok (.if_icmp .ge 61, 3) := by decide +kernel
theorem dX4_becomeAs_15 : decode cX4_becomeAs 15 = .ok (.iload_n 2, 1) := by decide +kernel
theorem dX4_becomeAs_16 : decode cX4_becomeAs 16 = .ok (.bipush 8, 2) := by decide +kernel
theorem dX4_becomeAs_18 : decode cX4_becomeAs 18 = .ok (.if_icmp .ge 55, 3) := by decide +kernel
theorem dX4_becomeAs_21 : decode cX4_becomeAs 21 = .ok (.aload_n 0, 1) := by decide +kernel
theorem dX4_becomeAs_22 : decode cX4_becomeAs 22 = .ok (.getfield 9, 3) := by decide +kernel
theorem dX4_becomeAs_25 : decode cX4_becomeAs 25 = .ok (.iload_n 2, 1) := by decide +kernel
theorem dX4_becomeAs_26 : decode cX4_becomeAs 26 = .ok (.aload_n 1, 1) := by decide +kernel
theorem dX4_becomeAs_27 : decode cX4_becomeAs 27 = .ok (.getfield 9, 3) := by decide +kernel
theorem dX4_becomeAs_30 : decode cX4_becomeAs 30 = .ok (.iload_n 2, 1) := by decide +kernel
theorem dX4_becomeAs_31 : decode cX4_becomeAs 31 = .ok (.iaload, 1) := by decide +kernel
theorem dX4_becomeAs_32 : decode cX4_becomeAs 32 = .ok (.iastore, 1) := by decide +kernel
theorem dX4_becomeAs_33 : decode cX4_becomeAs 33 = .ok (.aload_n 0, 1) := by decide +kernel
theorem dX4_becomeAs_34 : decode cX4_becomeAs 34 = .ok (.getfield 15, 3) := by decide +kernel
theorem dX4_becomeAs_37 : decode cX4_becomeAs 37 = .ok (.iload_n 2, 1) := by decide +kernel
theorem dX4_becomeAs_38 : decode cX4_becomeAs 38 = .ok (.aload_n 1, 1) := by decide +kernel
theorem dX4_becomeAs_39 : decode cX4_becomeAs 39 = .ok (.getfield 15, 3) := by decide +kernel
theorem dX4_becomeAs_42 : decode cX4_becomeAs 42 = .ok (.iload_n 2, 1) := by decide +kernel
theorem dX4_becomeAs_43 : decode cX4_becomeAs 43 = .ok (.iaload, 1) := by decide +kernel
theorem dX4_becomeAs_44 : decode cX4_becomeAs 44 = .ok (.iastore, 1) := by decide +kernel
theorem dX4_becomeAs_45 : decode cX4_becomeAs 45 = .ok (.aload_n 0, 1) := by decide +kernel
theorem dX4_becomeAs_46 : decode cX4_becomeAs 46 = .ok (.getfield 18, 3) := by decide +kernel
theorem dX4_becomeAs_49 : decode cX4_becomeAs 49 = .ok (.iload_n 2, 1) := by decide +kernel
theorem dX4_becomeAs_50 : decode cX4_becomeAs 50 = .ok (.aload_n 1, 1) := by decide +kernel
theorem dX4_becomeAs_51 : decode cX4_becomeAs 51 = .ok (.getfield 18, 3) := by decide +kernel
theorem dX4_becomeAs_54 : decode cX4_becomeAs 54 = .ok (.iload_n 2, 1) := by decide +kernel
theorem dX4_becomeAs_55 : decode cX4_becomeAs 55 = .ok (.iaload, 1) := by decide +kernel
theorem dX4_becomeAs_56 : decode cX4_becomeAs 56 = .ok (.iastore, 1) := by decide +kernel
theorem dX4_becomeAs_57 : decode cX4_becomeAs 57 = .ok (.aload_n 0, 1) := by decide +kernel
theorem dX4_becomeAs_58 : decode cX4_becomeAs 58 = .ok (.dup, 1) := by decide +kernel
theorem dX4_becomeAs_59 : decode cX4_becomeAs 59 = .ok (.getfield 21, 3) := by decide +kernel
theorem dX4_becomeAs_62 : decode cX4_becomeAs 62 = .ok (.iconst 1, 1) := by decide +kernel
theorem dX4_becomeAs_63 : decode cX4_becomeAs 63 = .ok (.iadd, 1) := by decide +kernel
theorem dX4_becomeAs_64 : decode cX4_becomeAs 64 = .ok (.putfield 21, 3) := by decide +kernel
theorem dX4_becomeAs_67 : decode cX4_becomeAs 67 = .ok (.iinc 2 1, 3) := by decide +kernel
theorem dX4_becomeAs_70 : decode cX4_becomeAs 70 = .ok (.goto (-63), 3) := by decide +kernel
theorem dX4_becomeAs_73 : decode cX4_becomeAs 73 = .ok (.return_, 1) := by decide +kernel
theorem dX4_leaveOut_0 : decode cX4_leaveOut 0 = .ok (.aload_n 0, 1) := by decide +kernel
theorem dX4_leaveOut_1 : decode cX4_leaveOut 1 = .ok (.iload_n 1, 1) := by decide +kernel
theorem dX4_leaveOut_2 : decode cX4_leaveOut 2 = .ok (.invokevirtual 38, 3) := by decide +kernel
theorem dX4_leaveOut_5 : decode cX4_leaveOut 5 = .ok (.ifCond .ne 4, 3) := by decide +kernel
theorem dX4_leaveOut_8 : decode cX4_leaveOut 8 = .ok (.return_, 1) := by decide +kernel
theorem dX4_leaveOut_9 : decode cX4_leaveOut 9 = .ok (.iload_n 1, 1) := by decide +kernel
theorem dX4_leaveOut_10 : decode cX4_leaveOut 10 = .ok (.istore_n 2, 1) := by decide +kernel
theorem dX4_leaveOut_11 : decode cX4_leaveOut 11 = .ok (.iload_n 2, 1) := by decide +kernel
theorem dX4_leaveOut_12 : decode cX4_leaveOut 12 = .ok (.aload_n 0, 1) := by decide +kernel
theorem dX4_leaveOut_13 : decode cX4_leaveOut 13 = .ok (.getfield 21, 3) := by decide +kernel
theorem dX4_leaveOut_16 : decode cX4_leaveOut 16 = .ok (.iconst 1, 1) := by decide +kernel
theorem dX4_leaveOut_17 : decode cX4_leaveOut 17 = .ok (.isub, 1) := by decide +kernel
theorem dX4_leaveOut_18 : decode cX4_leaveOut 18 = .ok (.if_icmp .ge 57, 3) := by decide +kernel
theorem dX4_leaveOut_21 : decode cX4_leaveOut 21 = .ok (.iload_n 2, 1) := by decide +kernel
theorem dX4_leaveOut_22 : decode cX4_leaveOut 22 = .ok (.bipush 7, 2) := by decide +kernel
theorem dX4_leaveOut_24 : decode cX4_leaveOut 24 = .ok (.if_icmp .ge 51, 3) := by decide +kernel
theorem dX4_leaveOut_27 : decode cX4_leaveOut 27 = .ok (.aload_n 0, 1) := by decide +kernel
theorem dX4_leaveOut_28 : decode cX4_leaveOut 28 = .ok (.getfield 9, 3) := by decide +kernel
theorem dX4_leaveOut_31 : decode cX4_leaveOut 31 = .ok (.iload_n 2, 1) := by decide +kernel
theorem dX4_leaveOut_32 : decode cX4_leaveOut 32 = .ok (.aload_n 0, 1) := by decide +kernel
theorem dX4_leaveOut_33 : decode cX4_leaveOut 33 = .ok (.getfield 9, 3) := by decide +kernel
theorem dX4_leaveOut_36 : decode cX4_leaveOut 36 = .ok (.iload_n 2, 1) := by decide +kernel
theorem dX4_leaveOut_37 : decode cX4_leaveOut 37 = .ok (.iconst 1, 1) := by decide +kernel
theorem dX4_leaveOut_38 : decode cX4_leaveOut 38 = .ok (.iadd, 1) := by decide +kernel
theorem dX4_leaveOut_39 : decode cX4_leaveOut 39 = .ok (.iaload, 1) := by decide +kernel
theorem dX4_leaveOut_40 : decode cX4_leaveOut 40 = .ok (.iastore, 1) := by decide +kernel
theorem dX4_leaveOut_41 : decode cX4_leaveOut 41 = .ok (.aload_n 0, 1) := by decide +kernel
theorem dX4_leaveOut_42 : decode cX4_leaveOut 42 = .ok (.getfield 15, 3) := by decide +kernel
theorem dX4_leaveOut_45 : decode cX4_leaveOut 45 = .ok (.iload_n 2, 1) := by decide +kernel
theorem dX4_leaveOut_46 : decode cX4_leaveOut 46 = .ok (.aload_n 0, 1) := by decide +kernel
theorem dX4_leaveOut_47 : decode cX4_leaveOut 47 = .ok (.getfield 15, 3) := by decide +kernel
theorem dX4_leaveOut_50 : decode cX4_leaveOut 50 = .ok (.iload_n 2, 1) := by decide +kernel
theorem dX4_leaveOut_51 : decode cX4_leaveOut 51 = .ok (.iconst 1, 1) := by decide +kernel
theorem dX4_leaveOut_52 : decode cX4_leaveOut 52 = .ok (.iadd, 1) := by decide +kernel
theorem dX4_leaveOut_53 : decode cX4_leaveOut 53 = .ok (.iaload, 1) := by decide +kernel
theorem dX4_leaveOut_54 : decode cX4_leaveOut 54 = .ok (.iastore, 1) := by decide +kernel
theorem dX4_leaveOut_55 : decode cX4_leaveOut 55 = .ok (.aload_n 0, 1) := by decide +kernel
theorem dX4_leaveOut_56 : decode cX4_leaveOut 56 = .ok (.getfield 18, 3) := by decide +kernel
theorem dX4_leaveOut_59 : decode cX4_leaveOut 59 = .ok (.iload_n 2, 1) := by decide +kernel
theorem dX4_leaveOut_60 : decode cX4_leaveOut 60 = .ok (.aload_n 0, 1) := by decide +kernel
theorem dX4_leaveOut_61 : decode cX4_leaveOut 61 = .ok (.getfield 18, 3) := by decide +kernel
theorem dX4_leaveOut_64 : decode cX4_leaveOut 64 = .ok (.iload_n 2, 1) := by decide +kernel
theorem dX4_leaveOut_65 : decode cX4_leaveOut 65 = .ok (.iconst 1, 1) := by decide +kernel
theorem dX4_leaveOut_66 : decode cX4_leaveOut 66 = .ok (.iadd, 1) := by decide +kernel
theorem dX4_leaveOut_67 : decode cX4_leaveOut 67 = .ok (.iaload, 1) := by decide +kernel
theorem dX4_leaveOut_68 : decode cX4_leaveOut 68 = .ok (.iastore, 1) := by decide +kernel
theorem dX4_leaveOut_69 : decode cX4_leaveOut 69 = .ok (.iinc 2 1, 3) := by decide +kernel
theorem dX4_leaveOut_72 : decode cX4_leaveOut 72 = .ok (.goto (-61), 3) := by decide +kernel
theorem dX4_leaveOut_75 : decode cX4_leaveOut 75 = .ok (.aload_n 0, 1) := by decide +kernel
theorem dX4_leaveOut_76 : decode cX4_leaveOut 76 = .ok (.dup, 1) := by decide +kernel
theorem dX4_leaveOut_77 : decode cX4_leaveOut 77 = .ok (.getfield 21, 3) := by decide +kernel
theorem dX4_leaveOut_80 : decode cX4_leaveOut 80 = .ok (.iconst 1, 1) := by decide +kernel
theorem dX4_leaveOut_81 : decode cX4_leaveOut 81 = .ok (.isub, 1) := by decide +kernel
theorem dX4_leaveOut_82 : decode cX4_leaveOut 82 = .ok (.putfield 21, 3) := by decide +kernel
theorem dX4_leaveOut_85 : decode cX4_leaveOut 85 = .ok (.return_, 1) := by decide +kernel
theorem dX4_comeLater_0 : decode cX4_comeLater 0 = .ok (.iload_n 2, 1) := by decide +kernel
theorem dX4_comeLater_1 : decode cX4_comeLater 1 = .ok (.ifCond .ge 4, 3) := by decide +kernel
theorem dX4_comeLater_4 : decode cX4_comeLater 4 = .ok (.return_, 1) := by decide +kernel
theorem dX4_comeLater_5 : decode cX4_comeLater 5 = .ok (.iload_n 1, 1) := by decide +kernel
theorem dX4_comeLater_6 : decode cX4_comeLater 6 = .ok (.istore_n 3, 1) := by decide +kernel
theorem dX4_comeLater_7 : decode cX4_comeLater 7 = .ok (.iconst 0, 1) := by decide +kernel
theorem dX4_comeLater_8 : decode cX4_comeLater 8 = .ok (.istore 4, 2) := by decide +kernel
theorem dX4_comeLater_10 : decode cX4_comeLater 10 = .ok (.iload 4, 2) := by decide +kernel
theorem dX4_comeLater_12 : decode cX4_comeLater 12 = .ok (.aload_n 0, 1) := by decide +kernel
theorem dX4_comeLater_13 : decode cX4_comeLater 13 = .ok (.getfield 21, 3) := by decide +kernel
theorem dX4_comeLater_16 : decode cX4_comeLater 16 = .ok (.if_icmp .ge 40, 3) := by decide +kernel
theorem dX4_comeLater_19 : decode cX4_comeLater 19 = .ok (.iload_n 3, 1) := by decide +kernel
theorem dX4_comeLater_20 : decode cX4_comeLater 20 = .ok (.ldc 42, 2) := by decide +kernel
theorem dX4_comeLater_22 : decode cX4_comeLater 22 = .ok (.imul, 1) := by decide +kernel
theorem dX4_comeLater_23 : decode cX4_comeLater 23 = .ok (.sipush 12345, 3) := by decide +kernel
theorem dX4_comeLater_26 : decode cX4_comeLater 26 = .ok (.iadd, 1) := by decide +kernel
theorem dX4_comeLater_27 : decode cX4_comeLater 27 = .ok (.istore_n 3, 1) := by decide +kernel
theorem dX4_comeLater_28 : decode cX4_comeLater 28 = .ok (.aload_n 0, 1) := by decide +kernel
theorem dX4_comeLater_29 : decode cX4_comeLater 29 = .ok (.iload 4, 2) := by decide +kernel
theorem dX4_comeLater_31 : decode cX4_comeLater 31 = .ok (.aload_n 0, 1) := by decide +kernel
theorem dX4_comeLater_32 : decode cX4_comeLater 32 = .ok (.iload 4, 2) := by decide +kernel
theorem dX4_comeLater_34 : decode cX4_comeLater 34 = .ok (.invokevirtual 43, 3) := by decide +kernel
theorem dX4_comeLater_37 : decode cX4_comeLater 37 = .ok (.iload_n 3, 1) := by decide +kernel
theorem dX4_comeLater_38 : decode cX4_comeLater 38 = .ok (.bipush 9, 2) := by decide +kernel
theorem dX4_comeLater_40 : decode cX4_comeLater 40 = .ok (.iushr, 1) := by decide +kernel
theorem dX4_comeLater_41 : decode cX4_comeLater 41 = .ok (.iload_n 2, 1) := by decide +kernel
theorem dX4_comeLater_42 : decode cX4_comeLater 42 = .ok (.iconst 1, 1) := by decide +kernel
theorem dX4_comeLater_43 : decode cX4_comeLater 43 = .ok (.iadd, 1) := by decide +kernel
theorem dX4_comeLater_44 : decode cX4_comeLater 44 = .ok (.irem, 1) := by decide +kernel
theorem dX4_comeLater_45 : decode cX4_comeLater 45 = .ok (.iadd, 1) := by decide +kernel
theorem dX4_comeLater_46 : decode cX4_comeLater 46 = .ok (.invokevirtual 44, 3) := by decide +kernel
theorem dX4_comeLater_49 : decode cX4_comeLater 49 = .ok (.pop, 1) := by decide +kernel
theorem dX4_comeLater_50 : decode cX4_comeLater 50 = .ok (.iinc 4 1, 3) := by decide +kernel
theorem dX4_comeLater_53 : decode cX4_comeLater 53 = .ok (.goto (-43), 3) := by decide +kernel
theorem dX4_comeLater_56 : decode cX4_comeLater 56 = .ok (.return_, 1) := by decide +kernel
theorem dX4_holds_0 : decode cX4_holds 0 = .ok (.iload_n 1, 1) := by decide +kernel
theorem dX4_holds_1 : decode cX4_holds 1 = .ok (.ifCond .lt 21, 3) := by decide +kernel
theorem dX4_holds_4 : decode cX4_holds 4 = .ok (.iload_n 1, 1) := by decide +kernel
theorem dX4_holds_5 : decode cX4_holds 5 = .ok (.aload_n 0, 1) := by decide +kernel
theorem dX4_holds_6 : decode cX4_holds 6 = .ok (.getfield 21, 3) := by decide +kernel
theorem dX4_holds_9 : decode cX4_holds 9 = .ok (.if_icmp .ge 13, 3) := by decide +kernel
theorem dX4_holds_12 : decode cX4_holds 12 = .ok (.iload_n 1, 1) := by decide +kernel
theorem dX4_holds_13 : decode cX4_holds 13 = .ok (.bipush 8, 2) := by decide +kernel
theorem dX4_holds_15 : decode cX4_holds 15 = .ok (.if_icmp .ge 7, 3) := by decide +kernel
theorem dX4_holds_18 : decode cX4_holds 18 = .ok (.iconst 1, 1) := by decide +kernel
theorem dX4_holds_19 : decode cX4_holds 19 = .ok (.goto 4, 3) := by decide +kernel
theorem dX4_holds_22 : decode cX4_holds 22 = .ok (.iconst 0, 1) := by decide +kernel
theorem dX4_holds_23 : decode cX4_holds 23 = .ok (.ireturn, 1) := by decide +kernel
theorem dX4_everyone_0 : decode cX4_everyone 0 = .ok (.iconst 1, 1) := by decide +kernel
theorem dX4_everyone_1 : decode cX4_everyone 1 = .ok (.aload_n 0, 1) := by decide +kernel
theorem dX4_everyone_2 : decode cX4_everyone 2 = .ok (.getfield 21, 3) := by decide +kernel
theorem dX4_everyone_5 : decode cX4_everyone 5 = .ok (.ishl, 1) := by decide +kernel
theorem dX4_everyone_6 : decode cX4_everyone 6 = .ok (.iconst 1, 1) := by decide +kernel
theorem dX4_everyone_7 : decode cX4_everyone 7 = .ok (.isub, 1) := by decide +kernel
theorem dX4_everyone_8 : decode cX4_everyone 8 = .ok (.ireturn, 1) := by decide +kernel
theorem dX4_comesOf_0 : decode cX4_comesOf 0 = .ok (.iload_n 1, 1) := by decide +kernel
theorem dX4_comesOf_1 : decode cX4_comesOf 1 = .ok (.ifCond .lt 29, 3) := by decide +kernel
theorem dX4_comesOf_4 : decode cX4_comesOf 4 = .ok (.iload_n 1, 1) := by decide +kernel
theorem dX4_comesOf_5 : decode cX4_comesOf 5 = .ok (.aload_n 0, 1) := by decide +kernel
theorem dX4_comesOf_6 : decode cX4_comesOf 6 = .ok (.getfield 21, 3) := by decide +kernel
theorem dX4_comesOf_9 : decode cX4_comesOf 9 = .ok (.if_icmp .ge 21, 3) := by decide +kernel
theorem dX4_comesOf_12 : decode cX4_comesOf 12 = .ok (.iload_n 1, 1) := by decide +kernel
theorem dX4_comesOf_13 : decode cX4_comesOf 13 = .ok (.aload_n 0, 1) := by decide +kernel
theorem dX4_comesOf_14 : decode cX4_comesOf 14 = .ok (.getfield 9, 3) := by decide +kernel
theorem dX4_comesOf_17 : decode cX4_comesOf 17 = .ok (.arraylength, 1) := by decide +kernel
theorem dX4_comesOf_18 : decode cX4_comesOf 18 = .ok (.if_icmp .ge 12, 3) := by decide +kernel
theorem dX4_comesOf_21 : decode cX4_comesOf 21 = .ok (.aload_n 0, 1) := by decide +kernel
theorem dX4_comesOf_22 : decode cX4_comesOf 22 = .ok (.getfield 9, 3) := by decide +kernel
theorem dX4_comesOf_25 : decode cX4_comesOf 25 = .ok (.iload_n 1, 1) := by decide +kernel
theorem dX4_comesOf_26 : decode cX4_comesOf 26 = .ok (.iaload, 1) := by decide +kernel
theorem dX4_comesOf_27 : decode cX4_comesOf 27 = .ok (.goto 4, 3) := by decide +kernel
theorem dX4_comesOf_30 : decode cX4_comesOf 30 = .ok (.iconst 0, 1) := by decide +kernel
theorem dX4_comesOf_31 : decode cX4_comesOf 31 = .ok (.ireturn, 1) := by decide +kernel
theorem dX4_takesOf_0 : decode cX4_takesOf 0 = .ok (.iload_n 1, 1) := by decide +kernel
theorem dX4_takesOf_1 : decode cX4_takesOf 1 = .ok (.ifCond .lt 29, 3) := by decide +kernel
theorem dX4_takesOf_4 : decode cX4_takesOf 4 = .ok (.iload_n 1, 1) := by decide +kernel
theorem dX4_takesOf_5 : decode cX4_takesOf 5 = .ok (.aload_n 0, 1) := by decide +kernel
theorem dX4_takesOf_6 : decode cX4_takesOf 6 = .ok (.getfield 21, 3) := by decide +kernel
theorem dX4_takesOf_9 : decode cX4_takesOf 9 = .ok (.if_icmp .ge 21, 3) := by decide +kernel
theorem dX4_takesOf_12 : decode cX4_takesOf 12 = .ok (.iload_n 1, 1) := by decide +kernel
theorem dX4_takesOf_13 : decode cX4_takesOf 13 = .ok (.aload_n 0, 1) := by decide +kernel
theorem dX4_takesOf_14 : decode cX4_takesOf 14 = .ok (.getfield 15, 3) := by decide +kernel
theorem dX4_takesOf_17 : decode cX4_takesOf 17 = .ok (.arraylength, 1) := by decide +kernel
theorem dX4_takesOf_18 : decode cX4_takesOf 18 = .ok (.if_icmp .ge 12, 3) := by decide +kernel
theorem dX4_takesOf_21 : decode cX4_takesOf 21 = .ok (.aload_n 0, 1) := by decide +kernel
theorem dX4_takesOf_22 : decode cX4_takesOf 22 = .ok (.getfield 15, 3) := by decide +kernel
theorem dX4_takesOf_25 : decode cX4_takesOf 25 = .ok (.iload_n 1, 1) := by decide +kernel
theorem dX4_takesOf_26 : decode cX4_takesOf 26 = .ok (.iaload, 1) := by decide +kernel
theorem dX4_takesOf_27 : decode cX4_takesOf 27 = .ok (.goto 4, 3) := by decide +kernel
theorem dX4_takesOf_30 : decode cX4_takesOf 30 = .ok (.iconst 0, 1) := by decide +kernel
theorem dX4_takesOf_31 : decode cX4_takesOf 31 = .ok (.ireturn, 1) := by decide +kernel
theorem dX4_coolsOf_0 : decode cX4_coolsOf 0 = .ok (.iload_n 1, 1) := by decide +kernel
theorem dX4_coolsOf_1 : decode cX4_coolsOf 1 = .ok (.ifCond .lt 29, 3) := by decide +kernel
theorem dX4_coolsOf_4 : decode cX4_coolsOf 4 = .ok (.iload_n 1, 1) := by decide +kernel
theorem dX4_coolsOf_5 : decode cX4_coolsOf 5 = .ok (.aload_n 0, 1) := by decide +kernel
theorem dX4_coolsOf_6 : decode cX4_coolsOf 6 = .ok (.getfield 21, 3) := by decide +kernel
theorem dX4_coolsOf_9 : decode cX4_coolsOf 9 = .ok (.if_icmp .ge 21, 3) := by decide +kernel
theorem dX4_coolsOf_12 : decode cX4_coolsOf 12 = .ok (.iload_n 1, 1) := by decide +kernel
theorem dX4_coolsOf_13 : decode cX4_coolsOf 13 = .ok (.aload_n 0, 1) := by decide +kernel
theorem dX4_coolsOf_14 : decode cX4_coolsOf 14 = .ok (.getfield 18, 3) := by decide +kernel
theorem dX4_coolsOf_17 : decode cX4_coolsOf 17 = .ok (.arraylength, 1) := by decide +kernel
theorem dX4_coolsOf_18 : decode cX4_coolsOf 18 = .ok (.if_icmp .ge 12, 3) := by decide +kernel
theorem dX4_coolsOf_21 : decode cX4_coolsOf 21 = .ok (.aload_n 0, 1) := by decide +kernel
theorem dX4_coolsOf_22 : decode cX4_coolsOf 22 = .ok (.getfield 18, 3) := by decide +kernel
theorem dX4_coolsOf_25 : decode cX4_coolsOf 25 = .ok (.iload_n 1, 1) := by decide +kernel
theorem dX4_coolsOf_26 : decode cX4_coolsOf 26 = .ok (.iaload, 1) := by decide +kernel
theorem dX4_coolsOf_27 : decode cX4_coolsOf 27 = .ok (.goto 4, 3) := by decide +kernel
theorem dX4_coolsOf_30 : decode cX4_coolsOf 30 = .ok (.iconst 0, 1) := by decide +kernel
theorem dX4_coolsOf_31 : decode cX4_coolsOf 31 = .ok (.ireturn, 1) := by decide +kernel
theorem dX4_takesOfAll_0 : decode cX4_takesOfAll 0 = .ok (.iconst 0, 1) := by decide +kernel
theorem dX4_takesOfAll_1 : decode cX4_takesOfAll 1 = .ok (.istore_n 1, 1) := by decide +kernel
theorem dX4_takesOfAll_2 : decode cX4_takesOfAll 2 = .ok (.iconst 0, 1) := by decide +kernel
theorem dX4_takesOfAll_3 : decode cX4_takesOfAll 3 = .ok (.istore_n 2, 1) := by decide +kernel
theorem dX4_takesOfAll_4 : decode cX4_takesOfAll 4 = .ok (.iload_n 2, 1) := by decide +kernel
theorem dX4_takesOfAll_5 : decode cX4_takesOfAll 5 = .ok (.aload_n 0, 1) := by decide +kernel
theorem dX4_takesOfAll_6 : decode cX4_takesOfAll 6 = .ok (.getfield 21, 3) := by decide +kernel
theorem dX4_takesOfAll_9 : decode cX4_takesOfAll 9 = .ok (.if_icmp .ge 17, 3) := by decide +kernel
theorem dX4_takesOfAll_12 : decode cX4_takesOfAll 12 = .ok (.iload_n 1, 1) := by decide +kernel
theorem dX4_takesOfAll_13 : decode cX4_takesOfAll 13 = .ok (.aload_n 0, 1) := by decide +kernel
theorem dX4_takesOfAll_14 : decode cX4_takesOfAll 14 = .ok (.iload_n 2, 1) := by decide +kernel
theorem dX4_takesOfAll_15 : decode cX4_takesOfAll 15 = .ok (.invokevirtual 48, 3) := by decide +kernel
theorem dX4_takesOfAll_18 : decode cX4_takesOfAll 18 = .ok (.iadd, 1) := by decide +kernel
theorem dX4_takesOfAll_19 : decode cX4_takesOfAll 19 = .ok (.istore_n 1, 1) := by decide +kernel
theorem dX4_takesOfAll_20 : decode cX4_takesOfAll 20 = .ok (.iinc 2 1, 3) := by decide +kernel
theorem dX4_takesOfAll_23 : decode cX4_takesOfAll 23 = .ok (.goto (-19), 3) := by decide +kernel
theorem dX4_takesOfAll_26 : decode cX4_takesOfAll 26 = .ok (.iload_n 1, 1) := by decide +kernel
theorem dX4_takesOfAll_27 : decode cX4_takesOfAll 27 = .ok (.ireturn, 1) := by decide +kernel
theorem dX4_changeCools_0 : decode cX4_changeCools 0 = .ok (.aload_n 0, 1) := by decide +kernel
theorem dX4_changeCools_1 : decode cX4_changeCools 1 = .ok (.iload_n 1, 1) := by decide +kernel
theorem dX4_changeCools_2 : decode cX4_changeCools 2 = .ok (.invokevirtual 49, 3) := by decide +kernel
theorem dX4_changeCools_5 : decode cX4_changeCools 5 = .ok (.istore_n 3, 1) := by decide +kernel
theorem dX4_changeCools_6 : decode cX4_changeCools 6 = .ok (.aload_n 0, 1) := by decide +kernel
theorem dX4_changeCools_7 : decode cX4_changeCools 7 = .ok (.iload_n 1, 1) := by decide +kernel
theorem dX4_changeCools_8 : decode cX4_changeCools 8 = .ok (.invokevirtual 38, 3) := by decide +kernel
theorem dX4_changeCools_11 : decode cX4_changeCools 11 = .ok (.ifCond .eq 10, 3) := by decide +kernel
theorem dX4_changeCools_14 : decode cX4_changeCools 14 = .ok (.aload_n 0, 1) := by decide +kernel
theorem dX4_changeCools_15 : decode cX4_changeCools 15 = .ok (.getfield 18, 3) := by decide +kernel
theorem dX4_changeCools_18 : decode cX4_changeCools 18 = .ok (.iload_n 1, 1) := by decide +kernel
theorem dX4_changeCools_19 : decode cX4_changeCools 19 = .ok (.iload_n 2, 1) := by decide +kernel
theorem dX4_changeCools_20 : decode cX4_changeCools 20 = .ok (.iastore, 1) := by decide +kernel
theorem dX4_changeCools_21 : decode cX4_changeCools 21 = .ok (.iload_n 3, 1) := by decide +kernel
theorem dX4_changeCools_22 : decode cX4_changeCools 22 = .ok (.ireturn, 1) := by decide +kernel
theorem dX4_changeComes_0 : decode cX4_changeComes 0 = .ok (.aload_n 0, 1) := by decide +kernel
theorem dX4_changeComes_1 : decode cX4_changeComes 1 = .ok (.iload_n 1, 1) := by decide +kernel
theorem dX4_changeComes_2 : decode cX4_changeComes 2 = .ok (.invokevirtual 43, 3) := by decide +kernel
theorem dX4_changeComes_5 : decode cX4_changeComes 5 = .ok (.istore_n 3, 1) := by decide +kernel
theorem dX4_changeComes_6 : decode cX4_changeComes 6 = .ok (.aload_n 0, 1) := by decide +kernel
theorem dX4_changeComes_7 : decode cX4_changeComes 7 = .ok (.iload_n 1, 1) := by decide +kernel
theorem dX4_changeComes_8 : decode cX4_changeComes 8 = .ok (.invokevirtual 38, 3) := by decide +kernel
theorem dX4_changeComes_11 : decode cX4_changeComes 11 = .ok (.ifCond .eq 10, 3) := by decide +kernel
theorem dX4_changeComes_14 : decode cX4_changeComes 14 = .ok (.aload_n 0, 1) := by decide +kernel
theorem dX4_changeComes_15 : decode cX4_changeComes 15 = .ok (.getfield 9, 3) := by decide +kernel
theorem dX4_changeComes_18 : decode cX4_changeComes 18 = .ok (.iload_n 1, 1) := by decide +kernel
theorem dX4_changeComes_19 : decode cX4_changeComes 19 = .ok (.iload_n 2, 1) := by decide +kernel
theorem dX4_changeComes_20 : decode cX4_changeComes 20 = .ok (.iastore, 1) := by decide +kernel
theorem dX4_changeComes_21 : decode cX4_changeComes 21 = .ok (.iload_n 3, 1) := by decide +kernel
theorem dX4_changeComes_22 : decode cX4_changeComes 22 = .ok (.ireturn, 1) := by decide +kernel
theorem dX4_nextToBegin_0 : decode cX4_nextToBegin 0 = .ok (.iconst (-1), 1) := by decide +kernel
theorem dX4_nextToBegin_1 : decode cX4_nextToBegin 1 = .ok (.istore_n 3, 1) := by decide +kernel
theorem dX4_nextToBegin_2 : decode cX4_nextToBegin 2 = .ok (.iconst 0, 1) := by decide +kernel
theorem dX4_nextToBegin_3 : decode cX4_nextToBegin 3 = .ok (.istore 4, 2) := by decide +kernel
theorem dX4_nextToBegin_5 : decode cX4_nextToBegin 5 = .ok (.iload 4, 2) := by decide +kernel
theorem dX4_nextToBegin_7 : decode cX4_nextToBegin 7 = .ok (.aload_n 0, 1) := by decide +kernel
theorem dX4_nextToBegin_8 : decode cX4_nextToBegin 8 = .ok (.getfield 21, 3) := by decide +kernel
theorem dX4_nextToBegin_11 : decode cX4_nextToBegin 11 = .ok (.if_icmp .ge 81, 3) := by decide +kernel
theorem dX4_nextToBegin_14 : decode cX4_nextToBegin 14 = .ok (.iload_n 1, 1) := by decide +kernel
theorem dX4_nextToBegin_15 : decode cX4_nextToBegin 15 = .ok (.iload 4, 2) := by decide +kernel
theorem dX4_nextToBegin_17 : decode cX4_nextToBegin 17 = .ok (.ishr, 1) := by decide +kernel
theorem dX4_nextToBegin_18 : decode cX4_nextToBegin 18 = .ok (.iconst 1, 1) := by decide +kernel
theorem dX4_nextToBegin_19 : decode cX4_nextToBegin 19 = .ok (.iand, 1) := by decide +kernel
theorem dX4_nextToBegin_20 : decode cX4_nextToBegin 20 = .ok (.ifCond .ne 66, 3) := by decide +kernel
theorem dX4_nextToBegin_23 : decode cX4_nextToBegin 23 = .ok (.aload_n 0, 1) := by decide +kernel
theorem dX4_nextToBegin_24 : decode cX4_nextToBegin 24 = .ok (.iload 4, 2) := by decide +kernel
theorem dX4_nextToBegin_26 : decode cX4_nextToBegin 26 = .ok (.invokevirtual 43, 3) := by decide +kernel
theorem dX4_nextToBegin_29 : decode cX4_nextToBegin 29 = .ok (.iload_n 2, 1) := by decide +kernel
theorem dX4_nextToBegin_30 : decode cX4_nextToBegin 30 = .ok (.if_icmp .le 6, 3) := by decide +kernel
theorem dX4_nextToBegin_33 : decode cX4_nextToBegin 33 = .ok (.goto 53, 3) := by decide +kernel
theorem dX4_nextToBegin_36 : decode cX4_nextToBegin 36 = .ok (.iload_n 3, 1) := by decide +kernel
theorem dX4_nextToBegin_37 : decode cX4_nextToBegin 37 = .ok (.iconst (-1), 1) := by decide +kernel
theorem dX4_nextToBegin_38 : decode cX4_nextToBegin 38 = .ok (.if_icmp .eq 45, 3) := by decide +kernel
theorem dX4_nextToBegin_41 : decode cX4_nextToBegin 41 = .ok (.aload_n 0, 1) := by decide +kernel
theorem dX4_nextToBegin_42 : decode cX4_nextToBegin 42 = .ok (.iload 4, 2) := by decide +kernel
theorem dX4_nextToBegin_44 : decode cX4_nextToBegin 44 = .ok (.invokevirtual 49, 3) := by decide +kernel
theorem dX4_nextToBegin_47 : decode cX4_nextToBegin 47 = .ok (.aload_n 0, 1) := by decide +kernel
theorem dX4_nextToBegin_48 : decode cX4_nextToBegin 48 = .ok (.iload_n 3, 1) := by decide +kernel
theorem dX4_nextToBegin_49 : decode cX4_nextToBegin 49 = .ok (.invokevirtual 49, 3) := by decide +kernel
theorem dX4_nextToBegin_52 : decode cX4_nextToBegin 52 = .ok (.if_icmp .gt 31, 3) := by decide +kernel
theorem dX4_nextToBegin_55 : decode cX4_nextToBegin 55 = .ok (.aload_n 0, 1) := by decide +kernel
theorem dX4_nextToBegin_56 : decode cX4_nextToBegin 56 = .ok (.iload 4, 2) := by decide +kernel
theorem dX4_nextToBegin_58 : decode cX4_nextToBegin 58 = .ok (.invokevirtual 49, 3) := by decide +kernel
theorem dX4_nextToBegin_61 : decode cX4_nextToBegin 61 = .ok (.aload_n 0, 1) := by decide +kernel
theorem dX4_nextToBegin_62 : decode cX4_nextToBegin 62 = .ok (.iload_n 3, 1) := by decide +kernel
theorem dX4_nextToBegin_63 : decode cX4_nextToBegin 63 = .ok (.invokevirtual 49, 3) := by decide +kernel
theorem dX4_nextToBegin_66 : decode cX4_nextToBegin 66 = .ok (.if_icmp .ne 20, 3) := by decide +kernel
theorem dX4_nextToBegin_69 : decode cX4_nextToBegin 69 = .ok (.aload_n 0, 1) := by decide +kernel
theorem dX4_nextToBegin_70 : decode cX4_nextToBegin 70 = .ok (.iload 4, 2) := by decide +kernel
theorem dX4_nextToBegin_72 : decode cX4_nextToBegin 72 = .ok (.invokevirtual 48, 3) := by decide +kernel
theorem dX4_nextToBegin_75 : decode cX4_nextToBegin 75 = .ok (.aload_n 0, 1) := by decide +kernel
theorem dX4_nextToBegin_76 : decode cX4_nextToBegin 76 = .ok (.iload_n 3, 1) := by decide +kernel
theorem dX4_nextToBegin_77 : decode cX4_nextToBegin 77 = .ok (.invokevirtual 48, 3) := by decide +kernel
theorem dX4_nextToBegin_80 : decode cX4_nextToBegin 80 = .ok (.if_icmp .le 6, 3) := by decide +kernel
theorem dX4_nextToBegin_83 : decode cX4_nextToBegin 83 = .ok (.iload 4, 2) := by decide +kernel
theorem dX4_nextToBegin_85 : decode cX4_nextToBegin 85 = .ok (.istore_n 3, 1) := by decide +kernel
theorem dX4_nextToBegin_86 : decode cX4_nextToBegin 86 = .ok (.iinc 4 1, 3) := by decide +kernel
theorem dX4_nextToBegin_89 : decode cX4_nextToBegin 89 = .ok (.goto (-84), 3) := by decide +kernel
theorem dX4_nextToBegin_92 : decode cX4_nextToBegin 92 = .ok (.iload_n 3, 1) := by decide +kernel
theorem dX4_nextToBegin_93 : decode cX4_nextToBegin 93 = .ok (.ireturn, 1) := by decide +kernel
theorem dX4_hourOfSome_0 : decode cX4_hourOfSome 0 = .ok (.iconst (-1), 1) := by decide +kernel
theorem dX4_hourOfSome_1 : decode cX4_hourOfSome 1 = .ok (.istore_n 3, 1) := by decide +kernel
theorem dX4_hourOfSome_2 : decode cX4_hourOfSome 2 = .ok (.iconst 0, 1) := by decide +kernel
theorem dX4_hourOfSome_3 : decode cX4_hourOfSome 3 = .ok (.istore 4, 2) := by decide +kernel
theorem dX4_hourOfSome_5 : decode cX4_hourOfSome 5 = .ok (.iload 4, 2) := by decide +kernel
theorem dX4_hourOfSome_7 : decode cX4_hourOfSome 7 = .ok (.aload_n 0, 1) := by decide +kernel
theorem dX4_hourOfSome_8 : decode cX4_hourOfSome 8 = .ok (.getfield 21, 3) := by decide +kernel
theorem dX4_hourOfSome_11 : decode cX4_hourOfSome 11 = .ok (.if_icmp .ge 40, 3) := by decide +kernel
theorem dX4_hourOfSome_14 : decode cX4_hourOfSome 14 = .ok (.iload_n 1, 1) := by decide +kernel
theorem dX4_hourOfSome_15 : decode cX4_hourOfSome 15 = .ok (.iload 4, 2) := by decide +kernel
theorem dX4_hourOfSome_17 : decode cX4_hourOfSome 17 = .ok (.ishr, 1) := by decide +kernel
theorem dX4_hourOfSome_18 : decode cX4_hourOfSome 18 = .ok (.iconst 1, 1) := by decide +kernel
theorem dX4_hourOfSome_19 : decode cX4_hourOfSome 19 = .ok (.iand, 1) := by decide +kernel
theorem dX4_hourOfSome_20 : decode cX4_hourOfSome 20 = .ok (.ifCond .ne 25, 3) := by decide +kernel
theorem dX4_hourOfSome_23 : decode cX4_hourOfSome 23 = .ok (.iload_n 3, 1) := by decide +kernel
theorem dX4_hourOfSome_24 : decode cX4_hourOfSome 24 = .ok (.iconst (-1), 1) := by decide +kernel
theorem dX4_hourOfSome_25 : decode cX4_hourOfSome 25 = .ok (.if_icmp .eq 13, 3) := by decide +kernel
theorem dX4_hourOfSome_28 : decode cX4_hourOfSome 28 = .ok (.aload_n 0, 1) := by decide +kernel
theorem dX4_hourOfSome_29 : decode cX4_hourOfSome 29 = .ok (.iload 4, 2) := by decide +kernel
theorem dX4_hourOfSome_31 : decode cX4_hourOfSome 31 = .ok (.invokevirtual 43, 3) := by decide +kernel
theorem dX4_hourOfSome_34 : decode cX4_hourOfSome 34 = .ok (.iload_n 3, 1) := by decide +kernel
theorem dX4_hourOfSome_35 : decode cX4_hourOfSome 35 = .ok (.if_icmp .ge 10, 3) := by decide +kernel
theorem dX4_hourOfSome_38 : decode cX4_hourOfSome 38 = .ok (.aload_n 0, 1) := by decide +kernel
theorem dX4_hourOfSome_39 : decode cX4_hourOfSome 39 = .ok (.iload 4, 2) := by decide +kernel
theorem dX4_hourOfSome_41 : decode cX4_hourOfSome 41 = .ok (.invokevirtual 43, 3) := by decide +kernel
theorem dX4_hourOfSome_44 : decode cX4_hourOfSome 44 = .ok (.istore_n 3, 1) := by decide +kernel
theorem dX4_hourOfSome_45 : decode cX4_hourOfSome 45 = .ok (.iinc 4 1, 3) := by decide +kernel
theorem dX4_hourOfSome_48 : decode cX4_hourOfSome 48 = .ok (.goto (-43), 3) := by decide +kernel
theorem dX4_hourOfSome_51 : decode cX4_hourOfSome 51 = .ok (.iload_n 3, 1) := by decide +kernel
theorem dX4_hourOfSome_52 : decode cX4_hourOfSome 52 = .ok (.iload_n 2, 1) := by decide +kernel
theorem dX4_hourOfSome_53 : decode cX4_hourOfSome 53 = .ok (.invokestatic 50, 3) := by decide +kernel
theorem dX4_hourOfSome_56 : decode cX4_hourOfSome 56 = .ok (.ireturn, 1) := by decide +kernel
theorem dX4_hourOfLonger_0 : decode cX4_hourOfLonger 0 = .ok (.iload_n 3, 1) := by decide +kernel
theorem dX4_hourOfLonger_1 : decode cX4_hourOfLonger 1 = .ok (.istore 4, 2) := by decide +kernel
theorem dX4_hourOfLonger_3 : decode cX4_hourOfLonger 3 = .ok (.iconst 0, 1) := by decide +kernel
theorem dX4_hourOfLonger_4 : decode cX4_hourOfLonger 4 = .ok (.istore 5, 2) := by decide +kernel
theorem dX4_hourOfLonger_6 : decode cX4_hourOfLonger 6 = .ok (.iload 5, 2) := by decide +kernel
theorem dX4_hourOfLonger_8 : decode cX4_hourOfLonger 8 = .ok (.aload_n 0, 1) := by decide +kernel
theorem dX4_hourOfLonger_9 : decode cX4_hourOfLonger 9 = .ok (.getfield 21, 3) := by decide +kernel
theorem dX4_hourOfLonger_12 : decode cX4_hourOfLonger 12 = .ok (.if_icmp .ge 52, 3) := by decide +kernel
theorem dX4_hourOfLonger_15 : decode cX4_hourOfLonger 15 = .ok (.aload_n 0, 1) := by decide +kernel
theorem dX4_hourOfLonger_16 : decode cX4_hourOfLonger 16 = .ok (.iload 5, 2) := by decide +kernel
theorem dX4_hourOfLonger_18 : decode cX4_hourOfLonger 18 = .ok (.invokevirtual 43, 3) := by decide +kernel
theorem dX4_hourOfLonger_21 : decode cX4_hourOfLonger 21 = .ok (.iload_n 2, 1) := by decide +kernel
theorem dX4_hourOfLonger_22 : decode cX4_hourOfLonger 22 = .ok (.if_icmp .le 36, 3) := by decide +kernel
theorem dX4_hourOfLonger_25 : decode cX4_hourOfLonger 25 = .ok (.aload_n 0, 1) := by decide +kernel
theorem dX4_hourOfLonger_26 : decode cX4_hourOfLonger 26 = .ok (.iload 5, 2) := by decide +kernel
theorem dX4_hourOfLonger_28 : decode cX4_hourOfLonger 28 = .ok (.invokevirtual 43, 3) := by decide +kernel
theorem dX4_hourOfLonger_31 : decode cX4_hourOfLonger 31 = .ok (.iload 4, 2) := by decide +kernel
theorem dX4_hourOfLonger_33 : decode cX4_hourOfLonger 33 = .ok (.if_icmp .ge 25, 3) := by decide +kernel
theorem dX4_hourOfLonger_36 : decode cX4_hourOfLonger 36 = .ok (.aload_n 0, 1) := by decide +kernel
theorem dX4_hourOfLonger_37 : decode cX4_hourOfLonger 37 = .ok (.iload 5, 2) := by decide +kernel
theorem dX4_hourOfLonger_39 : decode cX4_hourOfLonger 39 = .ok (.invokevirtual 49, 3) := by decide +kernel
theorem dX4_hourOfLonger_42 : decode cX4_hourOfLonger 42 = .ok (.aload_n 0, 1) := by decide +kernel
theorem dX4_hourOfLonger_43 : decode cX4_hourOfLonger 43 = .ok (.iload_n 1, 1) := by decide +kernel
theorem dX4_hourOfLonger_44 : decode cX4_hourOfLonger 44 = .ok (.invokevirtual 49, 3) := by decide +kernel
theorem dX4_hourOfLonger_47 : decode cX4_hourOfLonger 47 = .ok (.if_icmp .le 11, 3) := by decide +kernel
theorem dX4_hourOfLonger_50 : decode cX4_hourOfLonger 50 = .ok (.aload_n 0, 1) := by decide +kernel
theorem dX4_hourOfLonger_51 : decode cX4_hourOfLonger 51 = .ok (.iload 5, 2) := by decide +kernel
theorem dX4_hourOfLonger_53 : decode cX4_hourOfLonger 53 = .ok (.invokevirtual 43, 3) := by decide +kernel
theorem dX4_hourOfLonger_56 : decode cX4_hourOfLonger 56 = .ok (.istore 4, 2) := by decide +kernel
theorem dX4_hourOfLonger_58 : decode cX4_hourOfLonger 58 = .ok (.iinc 5 1, 3) := by decide +kernel
theorem dX4_hourOfLonger_61 : decode cX4_hourOfLonger 61 = .ok (.goto (-55), 3) := by decide +kernel
theorem dX4_hourOfLonger_64 : decode cX4_hourOfLonger 64 = .ok (.iload 4, 2) := by decide +kernel
theorem dX4_hourOfLonger_66 : decode cX4_hourOfLonger 66 = .ok (.ireturn, 1) := by decide +kernel
theorem dX4_boundOf_0 : decode cX4_boundOf 0 = .ok (.iconst (-1), 1) := by decide +kernel
theorem dX4_boundOf_1 : decode cX4_boundOf 1 = .ok (.istore_n 2, 1) := by decide +kernel
theorem dX4_boundOf_2 : decode cX4_boundOf 2 = .ok (.iconst 0, 1) := by decide +kernel
theorem dX4_boundOf_3 : decode cX4_boundOf 3 = .ok (.istore_n 3, 1) := by decide +kernel
theorem dX4_boundOf_4 : decode cX4_boundOf 4 = .ok (.iconst (-1), 1) := by decide +kernel
theorem dX4_boundOf_5 : decode cX4_boundOf 5 = .ok (.istore 4, 2) := by decide +kernel
theorem dX4_boundOf_7 : decode cX4_boundOf 7 = .ok (.iconst 0, 1) := by decide +kernel
theorem dX4_boundOf_8 : decode cX4_boundOf 8 = .ok (.istore 5, 2) := by decide +kernel
theorem dX4_boundOf_10 : decode cX4_boundOf 10 = .ok (.iload 5, 2) := by decide +kernel
theorem dX4_boundOf_12 : decode cX4_boundOf 12 = .ok (.aload_n 0, 1) := by decide +kernel
theorem dX4_boundOf_13 : decode cX4_boundOf 13 = .ok (.getfield 21, 3) := by decide +kernel
theorem dX4_boundOf_16 : decode cX4_boundOf 16 = .ok (.if_icmp .ge 80, 3) := by decide +kernel
theorem dX4_boundOf_19 : decode cX4_boundOf 19 = .ok (.iload_n 1, 1) := by decide +kernel
theorem dX4_boundOf_20 : decode cX4_boundOf 20 = .ok (.iload 5, 2) := by decide +kernel
theorem dX4_boundOf_22 : decode cX4_boundOf 22 = .ok (.ishr, 1) := by decide +kernel
theorem dX4_boundOf_23 : decode cX4_boundOf 23 = .ok (.iconst 1, 1) := by decide +kernel
theorem dX4_boundOf_24 : decode cX4_boundOf 24 = .ok (.iand, 1) := by decide +kernel
theorem dX4_boundOf_25 : decode cX4_boundOf 25 = .ok (.ifCond .eq 65, 3) := by decide +kernel
theorem dX4_boundOf_28 : decode cX4_boundOf 28 = .ok (.iload_n 2, 1) := by decide +kernel
theorem dX4_boundOf_29 : decode cX4_boundOf 29 = .ok (.iconst (-1), 1) := by decide +kernel
theorem dX4_boundOf_30 : decode cX4_boundOf 30 = .ok (.if_icmp .ne 12, 3) := by decide +kernel
theorem dX4_boundOf_33 : decode cX4_boundOf 33 = .ok (.aload_n 0, 1) := by decide +kernel
theorem dX4_boundOf_34 : decode cX4_boundOf 34 = .ok (.iload 5, 2) := by decide +kernel
theorem dX4_boundOf_36 : decode cX4_boundOf 36 = .ok (.invokevirtual 43, 3) := by decide +kernel
theorem dX4_boundOf_39 : decode cX4_boundOf 39 = .ok (.goto 13, 3) := by decide +kernel
theorem dX4_boundOf_42 : decode cX4_boundOf 42 = .ok (.iload_n 2, 1) := by decide +kernel
theorem dX4_boundOf_43 : decode cX4_boundOf 43 = .ok (.aload_n 0, 1) := by decide +kernel
theorem dX4_boundOf_44 : decode cX4_boundOf 44 = .ok (.iload 5, 2) := by decide +kernel
theorem dX4_boundOf_46 : decode cX4_boundOf 46 = .ok (.invokevirtual 43, 3) := by decide +kernel
theorem dX4_boundOf_49 : decode cX4_boundOf 49 = .ok (.invokestatic 55, 3) := by decide +kernel
theorem dX4_boundOf_52 : decode cX4_boundOf 52 = .ok (.istore_n 2, 1) := by decide +kernel
theorem dX4_boundOf_53 : decode cX4_boundOf 53 = .ok (.iload_n 3, 1) := by decide +kernel
theorem dX4_boundOf_54 : decode cX4_boundOf 54 = .ok (.aload_n 0, 1) := by decide +kernel
theorem dX4_boundOf_55 : decode cX4_boundOf 55 = .ok (.iload 5, 2) := by decide +kernel
theorem dX4_boundOf_57 : decode cX4_boundOf 57 = .ok (.invokevirtual 48, 3) := by decide +kernel
theorem dX4_boundOf_60 : decode cX4_boundOf 60 = .ok (.iadd, 1) := by decide +kernel
theorem dX4_boundOf_61 : decode cX4_boundOf 61 = .ok (.istore_n 3, 1) := by decide +kernel
theorem dX4_boundOf_62 : decode cX4_boundOf 62 = .ok (.iload 4, 2) := by decide +kernel
theorem dX4_boundOf_64 : decode cX4_boundOf 64 = .ok (.iconst (-1), 1) := by decide +kernel
theorem dX4_boundOf_65 : decode cX4_boundOf 65 = .ok (.if_icmp .ne 12, 3) := by decide +kernel
theorem dX4_boundOf_68 : decode cX4_boundOf 68 = .ok (.aload_n 0, 1) := by decide +kernel
theorem dX4_boundOf_69 : decode cX4_boundOf 69 = .ok (.iload 5, 2) := by decide +kernel
theorem dX4_boundOf_71 : decode cX4_boundOf 71 = .ok (.invokevirtual 49, 3) := by decide +kernel
theorem dX4_boundOf_74 : decode cX4_boundOf 74 = .ok (.goto 14, 3) := by decide +kernel
theorem dX4_boundOf_77 : decode cX4_boundOf 77 = .ok (.iload 4, 2) := by decide +kernel
theorem dX4_boundOf_79 : decode cX4_boundOf 79 = .ok (.aload_n 0, 1) := by decide +kernel
theorem dX4_boundOf_80 : decode cX4_boundOf 80 = .ok (.iload 5, 2) := by decide +kernel
theorem dX4_boundOf_82 : decode cX4_boundOf 82 = .ok (.invokevirtual 49, 3) := by decide +kernel
theorem dX4_boundOf_85 : decode cX4_boundOf 85 = .ok (.invokestatic 55, 3) := by decide +kernel
theorem dX4_boundOf_88 : decode cX4_boundOf 88 = .ok (.istore 4, 2) := by decide +kernel
theorem dX4_boundOf_90 : decode cX4_boundOf 90 = .ok (.iinc 5 1, 3) := by decide +kernel
theorem dX4_boundOf_93 : decode cX4_boundOf 93 = .ok (.goto (-83), 3) := by decide +kernel
theorem dX4_boundOf_96 : decode cX4_boundOf 96 = .ok (.iload_n 2, 1) := by decide +kernel
theorem dX4_boundOf_97 : decode cX4_boundOf 97 = .ok (.iload_n 3, 1) := by decide +kernel
theorem dX4_boundOf_98 : decode cX4_boundOf 98 = .ok (.iadd, 1) := by decide +kernel
theorem dX4_boundOf_99 : decode cX4_boundOf 99 = .ok (.iload 4, 2) := by decide +kernel
theorem dX4_boundOf_101 : decode cX4_boundOf 101 = .ok (.iadd, 1) := by decide +kernel
theorem dX4_boundOf_102 : decode cX4_boundOf 102 = .ok (.ireturn, 1) := by decide +kernel
theorem dX4_strongestSet_0 : decode cX4_strongestSet 0 = .ok (.iconst 1, 1) := by decide +kernel
theorem dX4_strongestSet_1 : decode cX4_strongestSet 1 = .ok (.istore_n 1, 1) := by decide +kernel
theorem dX4_strongestSet_2 : decode cX4_strongestSet 2 = .ok (.aload_n 0, 1) := by decide +kernel
theorem dX4_strongestSet_3 : decode cX4_strongestSet 3 = .ok (.iload_n 1, 1) := by decide +kernel
theorem dX4_strongestSet_4 : decode cX4_strongestSet 4 = .ok (.invokevirtual 58, 3) := by decide +kernel
theorem dX4_strongestSet_7 : decode cX4_strongestSet 7 = .ok (.istore_n 2, 1) := by decide +kernel
theorem dX4_strongestSet_8 : decode cX4_strongestSet 8 = .ok (.iconst 2, 1) := by decide +kernel
theorem dX4_strongestSet_9 : decode cX4_strongestSet 9 = .ok (.istore_n 3, 1) := by decide +kernel
theorem dX4_strongestSet_10 : decode cX4_strongestSet 10 = .ok (.iload_n 3, 1) := by decide +kernel
theorem dX4_strongestSet_11 : decode cX4_strongestSet 11 = .ok (.aload_n 0, 1) := by decide +kernel
theorem dX4_strongestSet_12 : decode cX4_strongestSet 12 = .ok (.invokevirtual 61, 3) := by decide +kernel
theorem dX4_strongestSet_15 : decode cX4_strongestSet 15 = .ok (.if_icmp .gt 44, 3) := by decide +kernel
theorem dX4_strongestSet_18 : decode cX4_strongestSet 18 = .ok (.aload_n 0, 1) := by decide +kernel
theorem dX4_strongestSet_19 : decode cX4_strongestSet 19 = .ok (.iload_n 3, 1) := by decide +kernel
theorem dX4_strongestSet_20 : decode cX4_strongestSet 20 = .ok (.invokevirtual 58, 3) := by decide +kernel
theorem dX4_strongestSet_23 : decode cX4_strongestSet 23 = .ok (.istore 4, 2) := by decide +kernel
theorem dX4_strongestSet_25 : decode cX4_strongestSet 25 = .ok (.iload 4, 2) := by decide +kernel
theorem dX4_strongestSet_27 : decode cX4_strongestSet 27 = .ok (.iload_n 2, 1) := by decide +kernel
theorem dX4_strongestSet_28 : decode cX4_strongestSet 28 = .ok (.if_icmp .gt 20, 3) := by decide +kernel
theorem dX4_strongestSet_31 : decode cX4_strongestSet 31 = .ok (.iload 4, 2) := by decide +kernel
theorem dX4_strongestSet_33 : decode cX4_strongestSet 33 = .ok (.iload_n 2, 1) := by decide +kernel
theorem dX4_strongestSet_34 : decode cX4_strongestSet 34 = .ok (.if_icmp .ne 19, 3) := by decide +kernel
theorem dX4_strongestSet_37 : decode cX4_strongestSet 37 = .ok (.iload_n 3, 1) := by decide +kernel
theorem dX4_strongestSet_38 : decode cX4_strongestSet 38 = .ok (.invokestatic 65, 3) := by decide +kernel
theorem dX4_strongestSet_41 : decode cX4_strongestSet 41 = .ok (.iload_n 1, 1) := by decide +kernel
theorem dX4_strongestSet_42 : decode cX4_strongestSet 42 = .ok (.invokestatic 65, 3) := by decide +kernel
theorem dX4_strongestSet_45 : decode cX4_strongestSet 45 = .ok (.if_icmp .ge 8, 3) := by decide +kernel
theorem dX4_strongestSet_48 : decode cX4_strongestSet 48 = .ok (.iload_n 3, 1) := by decide +kernel
theorem dX4_strongestSet_49 : decode cX4_strongestSet 49 = .ok (.istore_n 1, 1) := by decide +kernel
theorem dX4_strongestSet_50 : decode cX4_strongestSet 50 = .ok (.iload 4, 2) := by decide +kernel
theorem dX4_strongestSet_52 : decode cX4_strongestSet 52 = .ok (.istore_n 2, 1) := by decide +kernel
theorem dX4_strongestSet_53 : decode cX4_strongestSet 53 = .ok (.iinc 3 1, 3) := by decide +kernel
theorem dX4_strongestSet_56 : decode cX4_strongestSet 56 = .ok (.goto (-46), 3) := by decide +kernel
theorem dX4_strongestSet_59 : decode cX4_strongestSet 59 = .ok (.iload_n 1, 1) := by decide +kernel
theorem dX4_strongestSet_60 : decode cX4_strongestSet 60 = .ok (.ireturn, 1) := by decide +kernel
theorem dX5_init_0 : decode cX5_init 0 = .ok (.aload_n 0, 1) := by decide +kernel
theorem dX5_init_1 : decode cX5_init 1 = .ok (.invokespecial 3, 3) := by decide +kernel
theorem dX5_init_4 : decode cX5_init 4 = .ok (.aload_n 0, 1) := by decide +kernel
theorem dX5_init_5 : decode cX5_init 5 = .ok (.sipush 256, 3) := by decide +kernel
theorem dX5_init_8 : decode cX5_init 8 = .ok (.newarray .int, 2) := by decide +kernel
theorem dX5_init_10 : decode cX5_init 10 = .ok (.putfield 9, 3) := by decide +kernel
theorem dX5_init_13 : decode cX5_init 13 = .ok (.aload_n 0, 1) := by decide +kernel
theorem dX5_init_14 : decode cX5_init 14 = .ok (.sipush 256, 3) := by decide +kernel
theorem dX5_init_17 : decode cX5_init 17 = .ok (.newarray .int, 2) := by decide +kernel
theorem dX5_init_19 : decode cX5_init 19 = .ok (.putfield 15, 3) := by decide +kernel
theorem dX5_init_22 : decode cX5_init 22 = .ok (.aload_n 0, 1) := by decide +kernel
theorem dX5_init_23 : decode cX5_init 23 = .ok (.sipush 512, 3) := by decide +kernel
theorem dX5_init_26 : decode cX5_init 26 = .ok (.newarray .int, 2) := by decide +kernel
theorem dX5_init_28 : decode cX5_init 28 = .ok (.putfield 18, 3) := by decide +kernel
theorem dX5_init_31 : decode cX5_init 31 = .ok (.aload_n 0, 1) := by decide +kernel
theorem dX5_init_32 : decode cX5_init 32 = .ok (.sipush 512, 3) := by decide +kernel
theorem dX5_init_35 : decode cX5_init 35 = .ok (.newarray .int, 2) := by decide +kernel
theorem dX5_init_37 : decode cX5_init 37 = .ok (.putfield 21, 3) := by decide +kernel
theorem dX5_init_40 : decode cX5_init 40 = .ok (.return_, 1) := by decide +kernel
theorem dX5_weigh_0 : decode cX5_weigh 0 = .ok (.aload_n 0, 1) := by decide +kernel
theorem dX5_weigh_1 : decode cX5_weigh 1 = .ok (.aload_n 1, 1) := by decide +kernel
theorem dX5_weigh_2 : decode cX5_weigh 2 = .ok (.invokevirtual 24, 3) := by decide +kernel
theorem dX5_weigh_5 : decode cX5_weigh 5 = .ok (.putfield 30, 3) := by decide +kernel
theorem dX5_weigh_8 : decode cX5_weigh 8 = .ok (.aload_n 0, 1) := by decide +kernel
theorem dX5_weigh_9 : decode cX5_weigh 9 = .ok (.iload_n 2, 1) := by decide +kernel
theorem dX5_weigh_10 : decode cX5_weigh 10 = .ok (.putfield 33, 3) := by decide +kernel
theorem dX5_weigh_13 : decode cX5_weigh 13 = .ok (.aload_n 0, 1) := by decide +kernel
theorem dX5_weigh_14 : decode cX5_weigh 14 = .ok (.getfield 9, 3) := by decide +kernel
theorem dX5_weigh_17 : decode cX5_weigh 17 = .ok (.iconst 0, 1) := by decide +kernel
theorem dX5_weigh_18 : decode cX5_weigh 18 = .ok (.iconst 0, 1) := by decide +kernel
theorem dX5_weigh_19 : decode cX5_weigh 19 = .ok (.iastore, 1) := by decide +kernel
theorem dX5_weigh_20 : decode cX5_weigh 20 = .ok (.aload_n 0, 1) := by decide +kernel
theorem dX5_weigh_21 : decode cX5_weigh 21 = .ok (.getfield 15, 3) := by decide +kernel
theorem dX5_weigh_24 : decode cX5_weigh 24 = .ok (.iconst 0, 1) := by decide +kernel
theorem dX5_weigh_25 : decode cX5_weigh 25 = .ok (.ldc 36, 2) := by decide +kernel
theorem dX5_weigh_27 : decode cX5_weigh 27 = .ok (.iastore, 1) := by decide +kernel
theorem dX5_weigh_28 : decode cX5_weigh 28 = .ok (.iconst 1, 1) := by decide +kernel
theorem dX5_weigh_29 : decode cX5_weigh 29 = .ok (.istore_n 3, 1) := by decide +kernel
theorem dX5_weigh_30 : decode cX5_weigh 30 = .ok (.iload_n 3, 1) := by decide +kernel
theorem dX5_weigh_31 : decode cX5_weigh 31 = .ok (.aload_n 0, 1) := by decide +kernel
theorem dX5_weigh_32 : decode cX5_weigh 32 = .ok (.getfield 30, 3) := by decide +kernel
theorem dX5_weigh_35 : decode cX5_weigh 35 = .ok (.if_icmp .gt 40, 3) := by decide +kernel
theorem dX5_weigh_38 : decode cX5_weigh 38 = .ok (.iload_n 3, 1) := by decide +kernel
theorem dX5_weigh_39 : decode cX5_weigh 39 = .ok (.sipush 256, 3) := by decide +kernel
theorem dX5_weigh_42 : decode cX5_weigh 42 = .ok (.if_icmp .ge 33, 3) := by decide +kernel
theorem dX5_weigh_45 : decode cX5_weigh 45 = .ok (.aload_n 0, 1) := by decide +kernel
theorem dX5_weigh_46 : decode cX5_weigh 46 = .ok (.getfield 9, 3) := by decide +kernel
theorem dX5_weigh_49 : decode cX5_weigh 49 = .ok (.iload_n 3, 1) := by decide +kernel
theorem dX5_weigh_50 : decode cX5_weigh 50 = .ok (.aload_n 0, 1) := by decide +kernel
theorem dX5_weigh_51 : decode cX5_weigh 51 = .ok (.aload_n 1, 1) := by decide +kernel
theorem dX5_weigh_52 : decode cX5_weigh 52 = .ok (.iload_n 3, 1) := by decide +kernel
theorem dX5_weigh_53 : decode cX5_weigh 53 = .ok (.invokevirtual 37, 3) := by decide +kernel
theorem dX5_weigh_56 : decode cX5_weigh 56 = .ok (.iastore, 1) := by decide +kernel
theorem dX5_weigh_57 : decode cX5_weigh 57 = .ok (.aload_n 0, 1) := by decide +kernel
theorem dX5_weigh_58 : decode cX5_weigh 58 = .ok (.getfield 15, 3) := by decide +kernel
theorem dX5_weigh_61 : decode cX5_weigh 61 = .ok (.iload_n 3, 1) := by decide +kernel
theorem dX5_weigh_62 : decode cX5_weigh 62 = .ok (.aload_n 0, 1) := by decide +kernel
theorem dX5_weigh_63 : decode cX5_weigh 63 = .ok (.aload_n 1, 1) := by decide +kernel
theorem dX5_weigh_64 : decode cX5_weigh 64 = .ok (.iload_n 3, 1) := by decide +kernel
theorem dX5_weigh_65 : decode cX5_weigh 65 = .ok (.invokevirtual 41, 3) := by decide +kernel
theorem dX5_weigh_68 : decode cX5_weigh 68 = .ok (.iastore, 1) := by decide +kernel
theorem dX5_weigh_69 : decode cX5_weigh 69 = .ok (.iinc 3 1, 3) := by decide +kernel
theorem dX5_weigh_72 : decode cX5_weigh 72 = .ok (.goto (-42), 3) := by decide +kernel
theorem dX5_weigh_75 : decode cX5_weigh 75 = .ok (.return_, 1) := by decide +kernel
theorem dX5_soonestThrough_0 : decode cX5_soonestThrough 0 = .ok (.ldc 44, 2) := by decide +kernel
theorem dX5_soonestThrough_2 : decode cX5_soonestThrough 2 = .ok (.istore_n 3, 1) := by decide +kernel
theorem dX5_soonestThrough_3 : decode cX5_soonestThrough 3 = .ok (.iconst 0, 1) := by decide +kernel
theorem dX5_soonestThrough_4 : decode cX5_soonestThrough 4 = .ok (.istore 4, 2) := by decide +kernel
theorem dX5_soonestThrough_6 : decode cX5_soonestThrough 6 = .ok (.iload 4, 2) := by decide +kernel
theorem dX5_soonestThrough_8 : decode cX5_soonestThrough 8 = .ok (.aload_n 1, 1) := by decide +kernel
theorem dX5_soonestThrough_9 : decode cX5_soonestThrough 9 = .ok (.getfield 45, 3) := by decide +kernel
theorem dX5_soonestThrough_12 : decode cX5_soonestThrough 12 = .ok (.if_icmp .ge 71, 3) := by decide +kernel
theorem dX5_soonestThrough_15 : decode cX5_soonestThrough 15 = .ok (.iload_n 2, 1) := by decide +kernel
theorem dX5_soonestThrough_16 : decode cX5_soonestThrough 16 = .ok (.iload 4, 2) := by decide +kernel
theorem dX5_soonestThrough_18 : decode cX5_soonestThrough 18 = .ok (.ishr, 1) := by decide +kernel
theorem dX5_soonestThrough_19 : decode cX5_soonestThrough 19 = .ok (.iconst 1, 1) := by decide +kernel
theorem dX5_soonestThrough_20 : decode cX5_soonestThrough 20 = .ok (.iand, 1) := by decide +kernel
theorem dX5_soonestThrough_21 : decode cX5_soonestThrough 21 = .ok (.ifCond .eq 56, 3) := by decide +kernel
theorem dX5_soonestThrough_24 : decode cX5_soonestThrough 24 = .ok (.aload_n 0, 1) := by decide +kernel
theorem dX5_soonestThrough_25 : decode cX5_soonestThrough 25 = .ok (.iload_n 2, 1) := by decide +kernel
theorem dX5_soonestThrough_26 : decode cX5_soonestThrough 26 = .ok (.iconst 1, 1) := by decide +kernel
theorem dX5_soonestThrough_27 : decode cX5_soonestThrough 27 = .ok (.iload 4, 2) := by decide +kernel
theorem dX5_soonestThrough_29 : decode cX5_soonestThrough 29 = .ok (.ishl, 1) := by decide +kernel
theorem dX5_soonestThrough_30 : decode cX5_soonestThrough 30 = .ok (.iconst (-1), 1) := by decide +kernel
theorem dX5_soonestThrough_31 : decode cX5_soonestThrough 31 = .ok (.ixor, 1) := by decide +kernel
theorem dX5_soonestThrough_32 : decode cX5_soonestThrough 32 = .ok (.iand, 1) := by decide +kernel
theorem dX5_soonestThrough_33 : decode cX5_soonestThrough 33 = .ok (.invokevirtual 48, 3) := by decide +kernel
theorem dX5_soonestThrough_36 : decode cX5_soonestThrough 36 = .ok (.aload_n 1, 1) := by decide +kernel
theorem dX5_soonestThrough_37 : decode cX5_soonestThrough 37 = .ok (.iload 4, 2) := by decide +kernel
theorem dX5_soonestThrough_39 : decode cX5_soonestThrough 39 = .ok (.invokevirtual 52, 3) := by decide +kernel
theorem dX5_soonestThrough_42 : decode cX5_soonestThrough 42 = .ok (.invokestatic 55, 3) := by decide +kernel
theorem dX5_soonestThrough_45 : decode cX5_soonestThrough 45 = .ok (.aload_n 1, 1) := by decide +kernel
theorem dX5_soonestThrough_46 : decode cX5_soonestThrough 46 = .ok (.iload 4, 2) := by decide +kernel
theorem dX5_soonestThrough_48 : decode cX5_soonestThrough 48 = .ok (.invokevirtual 61, 3) := by decide +kernel
theorem dX5_soonestThrough_51 : decode cX5_soonestThrough 51 = .ok (.iadd, 1) := by decide +kernel
theorem dX5_soonestThrough_52 : decode cX5_soonestThrough 52 = .ok (.istore 5, 2) := by decide +kernel
theorem dX5_soonestThrough_54 : decode cX5_soonestThrough 54 = .ok (.iload 5, 2) := by decide +kernel
theorem dX5_soonestThrough_56 : decode cX5_soonestThrough 56 = .ok (.aload_n 1, 1) := by decide +kernel
theorem dX5_soonestThrough_57 : decode cX5_soonestThrough 57 = .ok (.iload 4, 2) := by decide +kernel
theorem dX5_soonestThrough_59 : decode cX5_soonestThrough 59 = .ok (.invokevirtual 64, 3) := by decide +kernel
theorem dX5_soonestThrough_62 : decode cX5_soonestThrough 62 = .ok (.iadd, 1) := by decide +kernel
theorem dX5_soonestThrough_63 : decode cX5_soonestThrough 63 = .ok (.aload_n 0, 1) := by decide +kernel
theorem dX5_soonestThrough_64 : decode cX5_soonestThrough 64 = .ok (.getfield 33, 3) := by decide +kernel
theorem dX5_soonestThrough_67 : decode cX5_soonestThrough 67 = .ok (.if_icmp .gt 10, 3) := by decide +kernel
theorem dX5_soonestThrough_70 : decode cX5_soonestThrough 70 = .ok (.iload_n 3, 1) := by decide +kernel
theorem dX5_soonestThrough_71 : decode cX5_soonestThrough 71 = .ok (.iload 5, 2) := by decide +kernel
theorem dX5_soonestThrough_73 : decode cX5_soonestThrough 73 = .ok (.invokestatic 67, 3) := by decide +kernel
theorem dX5_soonestThrough_76 : decode cX5_soonestThrough 76 = .ok (.istore_n 3, 1) := by decide +kernel
theorem dX5_soonestThrough_77 : decode cX5_soonestThrough 77 = .ok (.iinc 4 1, 3) := by decide +kernel
theorem dX5_soonestThrough_80 : decode cX5_soonestThrough 80 = .ok (.goto (-74), 3) := by decide +kernel
theorem dX5_soonestThrough_83 : decode cX5_soonestThrough 83 = .ok (.iload_n 3, 1) := by decide +kernel
theorem dX5_soonestThrough_84 : decode cX5_soonestThrough 84 = .ok (.ireturn, 1) := by decide +kernel
theorem dX5_latestTakenUp_0 : decode cX5_latestTakenUp 0 = .ok (.iconst (-1), 1) := by decide +kernel
theorem dX5_latestTakenUp_1 : decode cX5_latestTakenUp 1 = .ok (.istore_n 3, 1) := by decide +kernel
theorem dX5_latestTakenUp_2 : decode cX5_latestTakenUp 2 = .ok (.iconst 0, 1) := by decide +kernel
theorem dX5_latestTakenUp_3 : decode cX5_latestTakenUp 3 = .ok (.istore 4, 2) := by decide +kernel
theorem dX5_latestTakenUp_5 : decode cX5_latestTakenUp 5 = .ok (.iload 4, 2) := by decide +kernel
theorem dX5_latestTakenUp_7 : decode cX5_latestTakenUp 7 = .ok (.aload_n 1, 1) := by decide +kernel
theorem dX5_latestTakenUp_8 : decode cX5_latestTakenUp 8 = .ok (.getfield 45, 3) := by decide +kernel
theorem dX5_latestTakenUp_11 : decode cX5_latestTakenUp 11 = .ok (.if_icmp .ge 53, 3) := by decide +kernel
theorem dX5_latestTakenUp_14 : decode cX5_latestTakenUp 14 = .ok (.iload_n 2, 1) := by decide +kernel
theorem dX5_latestTakenUp_15 : decode cX5_latestTakenUp 15 = .ok (.iload 4, 2) := by decide +kernel
theorem dX5_latestTakenUp_17 : decode cX5_latestTakenUp 17 = .ok (.ishr, 1) := by decide +kernel
theorem dX5_latestTakenUp_18 : decode cX5_latestTakenUp 18 = .ok (.iconst 1, 1) := by decide +kernel
theorem dX5_latestTakenUp_19 : decode cX5_latestTakenUp 19 = .ok (.iand, 1) := by decide +kernel
theorem dX5_latestTakenUp_20 : decode cX5_latestTakenUp 20 = .ok (.ifCond .eq 38, 3) := by decide +kernel
theorem dX5_latestTakenUp_23 : decode cX5_latestTakenUp 23 = .ok (.aload_n 0, 1) := by decide +kernel
theorem dX5_latestTakenUp_24 : decode cX5_latestTakenUp 24 = .ok (.aload_n 1, 1) := by decide +kernel
theorem dX5_latestTakenUp_25 : decode cX5_latestTakenUp 25 = .ok (.iload 4, 2) := by decide +kernel
theorem dX5_latestTakenUp_27 : decode cX5_latestTakenUp 27 = .ok (.iload_n 2, 1) := by decide +kernel
theorem dX5_latestTakenUp_28 : decode cX5_latestTakenUp 28 = .ok (.iconst 1, 1) := by decide +kernel
theorem dX5_latestTakenUp_29 : decode cX5_latestTakenUp 29 = .ok (.iload 4, 2) := by decide +kernel
theorem dX5_latestTakenUp_31 : decode cX5_latestTakenUp 31 = .ok (.ishl, 1) := by decide +kernel
theorem dX5_latestTakenUp_32 : decode cX5_latestTakenUp 32 = .ok (.iconst (-1), 1) := by decide +kernel
theorem dX5_latestTakenUp_33 : decode cX5_latestTakenUp 33 = .ok (.ixor, 1) := by decide +kernel
theorem dX5_latestTakenUp_34 : decode cX5_latestTakenUp 34 = .ok (.iand, 1) := by decide +kernel
theorem dX5_latestTakenUp_35 : decode cX5_latestTakenUp 35 = .ok (.invokevirtual 70, 3) := by decide +kernel
theorem dX5_latestTakenUp_38 : decode cX5_latestTakenUp 38 = .ok (.istore 5, 2) := by decide +kernel
theorem dX5_latestTakenUp_40 : decode cX5_latestTakenUp 40 = .ok (.iload 5, 2) := by decide +kernel
theorem dX5_latestTakenUp_42 : decode cX5_latestTakenUp 42 = .ok (.aload_n 1, 1) := by decide +kernel
theorem dX5_latestTakenUp_43 : decode cX5_latestTakenUp 43 = .ok (.iload 4, 2) := by decide +kernel
theorem dX5_latestTakenUp_45 : decode cX5_latestTakenUp 45 = .ok (.invokevirtual 52, 3) := by decide +kernel
theorem dX5_latestTakenUp_48 : decode cX5_latestTakenUp 48 = .ok (.if_icmp .lt 10, 3) := by decide +kernel
theorem dX5_latestTakenUp_51 : decode cX5_latestTakenUp 51 = .ok (.iload_n 3, 1) := by decide +kernel
theorem dX5_latestTakenUp_52 : decode cX5_latestTakenUp 52 = .ok (.iload 5, 2) := by decide +kernel
theorem dX5_latestTakenUp_54 : decode cX5_latestTakenUp 54 = .ok (.invokestatic 55, 3) := by decide +kernel
theorem dX5_latestTakenUp_57 : decode cX5_latestTakenUp 57 = .ok (.istore_n 3, 1) := by decide +kernel
theorem dX5_latestTakenUp_58 : decode cX5_latestTakenUp 58 = .ok (.iinc 4 1, 3) := by decide +kernel
theorem dX5_latestTakenUp_61 : decode cX5_latestTakenUp 61 = .ok (.goto (-56), 3) := by decide +kernel
theorem dX5_latestTakenUp_64 : decode cX5_latestTakenUp 64 = .ok (.iload_n 3, 1) := by decide +kernel
theorem dX5_latestTakenUp_65 : decode cX5_latestTakenUp 65 = .ok (.ireturn, 1) := by decide +kernel
theorem dX5_latestBegin_0 : decode cX5_latestBegin 0 = .ok (.aload_n 0, 1) := by decide +kernel
theorem dX5_latestBegin_1 : decode cX5_latestBegin 1 = .ok (.getfield 33, 3) := by decide +kernel
theorem dX5_latestBegin_4 : decode cX5_latestBegin 4 = .ok (.aload_n 1, 1) := by decide +kernel
theorem dX5_latestBegin_5 : decode cX5_latestBegin 5 = .ok (.iload_n 2, 1) := by decide +kernel
theorem dX5_latestBegin_6 : decode cX5_latestBegin 6 = .ok (.invokevirtual 64, 3) := by decide +kernel
theorem dX5_latestBegin_9 : decode cX5_latestBegin 9 = .ok (.isub, 1) := by decide +kernel
theorem dX5_latestBegin_10 : decode cX5_latestBegin 10 = .ok (.aload_n 0, 1) := by decide +kernel
theorem dX5_latestBegin_11 : decode cX5_latestBegin 11 = .ok (.iload_n 3, 1) := by decide +kernel
theorem dX5_latestBegin_12 : decode cX5_latestBegin 12 = .ok (.invokevirtual 74, 3) := by decide +kernel
theorem dX5_latestBegin_15 : decode cX5_latestBegin 15 = .ok (.invokestatic 67, 3) := by decide +kernel
theorem dX5_latestBegin_18 : decode cX5_latestBegin 18 = .ok (.aload_n 1, 1) := by decide +kernel
theorem dX5_latestBegin_19 : decode cX5_latestBegin 19 = .ok (.iload_n 2, 1) := by decide +kernel
theorem dX5_latestBegin_20 : decode cX5_latestBegin 20 = .ok (.invokevirtual 61, 3) := by decide +kernel
theorem dX5_latestBegin_23 : decode cX5_latestBegin 23 = .ok (.isub, 1) := by decide +kernel
theorem dX5_latestBegin_24 : decode cX5_latestBegin 24 = .ok (.ireturn, 1) := by decide +kernel
theorem dX5_throughOf_0 : decode cX5_throughOf 0 = .ok (.iload_n 1, 1) := by decide +kernel
theorem dX5_throughOf_1 : decode cX5_throughOf 1 = .ok (.ifCond .lt 21, 3) := by decide +kernel
theorem dX5_throughOf_4 : decode cX5_throughOf 4 = .ok (.iload_n 1, 1) := by decide +kernel
theorem dX5_throughOf_5 : decode cX5_throughOf 5 = .ok (.aload_n 0, 1) := by decide +kernel
theorem dX5_throughOf_6 : decode cX5_throughOf 6 = .ok (.getfield 9, 3) := by decide +kernel
theorem dX5_throughOf_9 : decode cX5_throughOf 9 = .ok (.arraylength, 1) := by decide +kernel
theorem dX5_throughOf_10 : decode cX5_throughOf 10 = .ok (.if_icmp .ge 12, 3) := by decide +kernel
theorem dX5_throughOf_13 : decode cX5_throughOf 13 = .ok (.aload_n 0, 1) := by decide +kernel
theorem dX5_throughOf_14 : decode cX5_throughOf 14 = .ok (.getfield 9, 3) := by decide +kernel
theorem dX5_throughOf_17 : decode cX5_throughOf 17 = .ok (.iload_n 1, 1) := by decide +kernel
theorem dX5_throughOf_18 : decode cX5_throughOf 18 = .ok (.iaload, 1) := by decide +kernel
theorem dX5_throughOf_19 : decode cX5_throughOf 19 = .ok (.goto 5, 3) := by decide +kernel
theorem dX5_throughOf_22 : decode cX5_throughOf 22 = .ok (.ldc 44, 2) := by decide +kernel
theorem dX5_throughOf_24 : decode cX5_throughOf 24 = .ok (.ireturn, 1) := by decide +kernel
theorem dX5_takenUpOf_0 : decode cX5_takenUpOf 0 = .ok (.iload_n 1, 1) := by decide +kernel
theorem dX5_takenUpOf_1 : decode cX5_takenUpOf 1 = .ok (.ifCond .lt 21, 3) := by decide +kernel
theorem dX5_takenUpOf_4 : decode cX5_takenUpOf 4 = .ok (.iload_n 1, 1) := by decide +kernel
theorem dX5_takenUpOf_5 : decode cX5_takenUpOf 5 = .ok (.aload_n 0, 1) := by decide +kernel
theorem dX5_takenUpOf_6 : decode cX5_takenUpOf 6 = .ok (.getfield 15, 3) := by decide +kernel
theorem dX5_takenUpOf_9 : decode cX5_takenUpOf 9 = .ok (.arraylength, 1) := by decide +kernel
theorem dX5_takenUpOf_10 : decode cX5_takenUpOf 10 = .ok (.if_icmp .ge 12, 3) := by decide +kernel
theorem dX5_takenUpOf_13 : decode cX5_takenUpOf 13 = .ok (.aload_n 0, 1) := by decide +kernel
theorem dX5_takenUpOf_14 : decode cX5_takenUpOf 14 = .ok (.getfield 15, 3) := by decide +kernel
theorem dX5_takenUpOf_17 : decode cX5_takenUpOf 17 = .ok (.iload_n 1, 1) := by decide +kernel
theorem dX5_takenUpOf_18 : decode cX5_takenUpOf 18 = .ok (.iaload, 1) := by decide +kernel
theorem dX5_takenUpOf_19 : decode cX5_takenUpOf 19 = .ok (.goto 4, 3) := by decide +kernel
theorem dX5_takenUpOf_22 : decode cX5_takenUpOf 22 = .ok (.iconst (-1), 1) := by decide +kernel
theorem dX5_takenUpOf_23 : decode cX5_takenUpOf 23 = .ok (.ireturn, 1) := by decide +kernel
theorem dX5_canStandAhead_0 : decode cX5_canStandAhead 0 = .ok (.aload_n 0, 1) := by decide +kernel
theorem dX5_canStandAhead_1 : decode cX5_canStandAhead 1 = .ok (.iload_n 1, 1) := by decide +kernel
theorem dX5_canStandAhead_2 : decode cX5_canStandAhead 2 = .ok (.invokevirtual 48, 3) := by decide +kernel
theorem dX5_canStandAhead_5 : decode cX5_canStandAhead 5 = .ok (.aload_n 0, 1) := by decide +kernel
theorem dX5_canStandAhead_6 : decode cX5_canStandAhead 6 = .ok (.aload_n 0, 1) := by decide +kernel
theorem dX5_canStandAhead_7 : decode cX5_canStandAhead 7 = .ok (.getfield 30, 3) := by decide +kernel
theorem dX5_canStandAhead_10 : decode cX5_canStandAhead 10 = .ok (.iload_n 1, 1) := by decide +kernel
theorem dX5_canStandAhead_11 : decode cX5_canStandAhead 11 = .ok (.iconst (-1), 1) := by decide +kernel
theorem dX5_canStandAhead_12 : decode cX5_canStandAhead 12 = .ok (.ixor, 1) := by decide +kernel
theorem dX5_canStandAhead_13 : decode cX5_canStandAhead 13 = .ok (.iand, 1) := by decide +kernel
theorem dX5_canStandAhead_14 : decode cX5_canStandAhead 14 = .ok (.invokevirtual 74, 3) := by decide +kernel
theorem dX5_canStandAhead_17 : decode cX5_canStandAhead 17 = .ok (.if_icmp .gt 7, 3) := by decide +kernel
theorem dX5_canStandAhead_20 : decode cX5_canStandAhead 20 = .ok (.iconst 1, 1) := by decide +kernel
theorem dX5_canStandAhead_21 : decode cX5_canStandAhead 21 = .ok (.goto 4, 3) := by decide +kernel
theorem dX5_canStandAhead_24 : decode cX5_canStandAhead 24 = .ok (.iconst 0, 1) := by decide +kernel
theorem dX5_canStandAhead_25 : decode cX5_canStandAhead 25 = .ok (.ireturn, 1) := by decide +kernel
theorem dX5_aheadOf_0 : decode cX5_aheadOf 0 = .ok (.aload_n 0, 1) := by decide +kernel
theorem dX5_aheadOf_1 : decode cX5_aheadOf 1 = .ok (.getfield 30, 3) := by decide +kernel
theorem dX5_aheadOf_4 : decode cX5_aheadOf 4 = .ok (.istore_n 2, 1) := by decide +kernel
theorem dX5_aheadOf_5 : decode cX5_aheadOf 5 = .ok (.iconst 1, 1) := by decide +kernel
theorem dX5_aheadOf_6 : decode cX5_aheadOf 6 = .ok (.istore_n 3, 1) := by decide +kernel
theorem dX5_aheadOf_7 : decode cX5_aheadOf 7 = .ok (.iload_n 3, 1) := by decide +kernel
theorem dX5_aheadOf_8 : decode cX5_aheadOf 8 = .ok (.aload_n 0, 1) := by decide +kernel
theorem dX5_aheadOf_9 : decode cX5_aheadOf 9 = .ok (.getfield 30, 3) := by decide +kernel
theorem dX5_aheadOf_12 : decode cX5_aheadOf 12 = .ok (.if_icmp .gt 29, 3) := by decide +kernel
theorem dX5_aheadOf_15 : decode cX5_aheadOf 15 = .ok (.iload_n 3, 1) := by decide +kernel
theorem dX5_aheadOf_16 : decode cX5_aheadOf 16 = .ok (.iload_n 1, 1) := by decide +kernel
theorem dX5_aheadOf_17 : decode cX5_aheadOf 17 = .ok (.ishr, 1) := by decide +kernel
theorem dX5_aheadOf_18 : decode cX5_aheadOf 18 = .ok (.iconst 1, 1) := by decide +kernel
theorem dX5_aheadOf_19 : decode cX5_aheadOf 19 = .ok (.iand, 1) := by decide +kernel
theorem dX5_aheadOf_20 : decode cX5_aheadOf 20 = .ok (.ifCond .eq 15, 3) := by decide +kernel
theorem dX5_aheadOf_23 : decode cX5_aheadOf 23 = .ok (.aload_n 0, 1) := by decide +kernel
theorem dX5_aheadOf_24 : decode cX5_aheadOf 24 = .ok (.iload_n 3, 1) := by decide +kernel
theorem dX5_aheadOf_25 : decode cX5_aheadOf 25 = .ok (.invokevirtual 77, 3) := by decide +kernel
theorem dX5_aheadOf_28 : decode cX5_aheadOf 28 = .ok (.ifCond .eq 7, 3) := by decide +kernel
theorem dX5_aheadOf_31 : decode cX5_aheadOf 31 = .ok (.iload_n 2, 1) := by decide +kernel
theorem dX5_aheadOf_32 : decode cX5_aheadOf 32 = .ok (.iload_n 3, 1) := by decide +kernel
theorem dX5_aheadOf_33 : decode cX5_aheadOf 33 = .ok (.iand, 1) := by decide +kernel
theorem dX5_aheadOf_34 : decode cX5_aheadOf 34 = .ok (.istore_n 2, 1) := by decide +kernel
theorem dX5_aheadOf_35 : decode cX5_aheadOf 35 = .ok (.iinc 3 1, 3) := by decide +kernel
theorem dX5_aheadOf_38 : decode cX5_aheadOf 38 = .ok (.goto (-31), 3) := by decide +kernel
theorem dX5_aheadOf_41 : decode cX5_aheadOf 41 = .ok (.iload_n 2, 1) := by decide +kernel
theorem dX5_aheadOf_42 : decode cX5_aheadOf 42 = .ok (.iconst 1, 1) := by decide +kernel
theorem dX5_aheadOf_43 : decode cX5_aheadOf 43 = .ok (.iload_n 1, 1) := by decide +kernel
theorem dX5_aheadOf_44 : decode cX5_aheadOf 44 = .ok (.ishl, 1) := by decide +kernel
theorem dX5_aheadOf_45 : decode cX5_aheadOf 45 = .ok (.iconst (-1), 1) := by decide +kernel
theorem dX5_aheadOf_46 : decode cX5_aheadOf 46 = .ok (.ixor, 1) := by decide +kernel
theorem dX5_aheadOf_47 : decode cX5_aheadOf 47 = .ok (.iand, 1) := by decide +kernel
theorem dX5_aheadOf_48 : decode cX5_aheadOf 48 = .ok (.ireturn, 1) := by decide +kernel
theorem dX5_roomOf_0 : decode cX5_roomOf 0 = .ok (.iconst 0, 1) := by decide +kernel
theorem dX5_roomOf_1 : decode cX5_roomOf 1 = .ok (.istore_n 3, 1) := by decide +kernel
theorem dX5_roomOf_2 : decode cX5_roomOf 2 = .ok (.iconst 0, 1) := by decide +kernel
theorem dX5_roomOf_3 : decode cX5_roomOf 3 = .ok (.istore 4, 2) := by decide +kernel
theorem dX5_roomOf_5 : decode cX5_roomOf 5 = .ok (.iload 4, 2) := by decide +kernel
theorem dX5_roomOf_7 : decode cX5_roomOf 7 = .ok (.aload_n 0, 1) := by decide +kernel
theorem dX5_roomOf_8 : decode cX5_roomOf 8 = .ok (.getfield 30, 3) := by decide +kernel
theorem dX5_roomOf_11 : decode cX5_roomOf 11 = .ok (.if_icmp .gt 65, 3) := by decide +kernel
theorem dX5_roomOf_14 : decode cX5_roomOf 14 = .ok (.iload 4, 2) := by decide +kernel
theorem dX5_roomOf_16 : decode cX5_roomOf 16 = .ok (.iload_n 2, 1) := by decide +kernel
theorem dX5_roomOf_17 : decode cX5_roomOf 17 = .ok (.ishr, 1) := by decide +kernel
theorem dX5_roomOf_18 : decode cX5_roomOf 18 = .ok (.iconst 1, 1) := by decide +kernel
theorem dX5_roomOf_19 : decode cX5_roomOf 19 = .ok (.iand, 1) := by decide +kernel
theorem dX5_roomOf_20 : decode cX5_roomOf 20 = .ok (.ifCond .ne 50, 3) := by decide +kernel
theorem dX5_roomOf_23 : decode cX5_roomOf 23 = .ok (.aload_n 0, 1) := by decide +kernel
theorem dX5_roomOf_24 : decode cX5_roomOf 24 = .ok (.aload_n 1, 1) := by decide +kernel
theorem dX5_roomOf_25 : decode cX5_roomOf 25 = .ok (.iload_n 2, 1) := by decide +kernel
theorem dX5_roomOf_26 : decode cX5_roomOf 26 = .ok (.aload_n 0, 1) := by decide +kernel
theorem dX5_roomOf_27 : decode cX5_roomOf 27 = .ok (.getfield 30, 3) := by decide +kernel
theorem dX5_roomOf_30 : decode cX5_roomOf 30 = .ok (.iload 4, 2) := by decide +kernel
theorem dX5_roomOf_32 : decode cX5_roomOf 32 = .ok (.iconst (-1), 1) := by decide +kernel
theorem dX5_roomOf_33 : decode cX5_roomOf 33 = .ok (.ixor, 1) := by decide +kernel
theorem dX5_roomOf_34 : decode cX5_roomOf 34 = .ok (.iand, 1) := by decide +kernel
theorem dX5_roomOf_35 : decode cX5_roomOf 35 = .ok (.iconst 1, 1) := by decide +kernel
theorem dX5_roomOf_36 : decode cX5_roomOf 36 = .ok (.iload_n 2, 1) := by decide +kernel
theorem dX5_roomOf_37 : decode cX5_roomOf 37 = .ok (.ishl, 1) := by decide +kernel
theorem dX5_roomOf_38 : decode cX5_roomOf 38 = .ok (.iconst (-1), 1) := by decide +kernel
theorem dX5_roomOf_39 : decode cX5_roomOf 39 = .ok (.ixor, 1) := by decide +kernel
theorem dX5_roomOf_40 : decode cX5_roomOf 40 = .ok (.iand, 1) := by decide +kernel
theorem dX5_roomOf_41 : decode cX5_roomOf 41 = .ok (.invokevirtual 70, 3) := by decide +kernel
theorem dX5_roomOf_44 : decode cX5_roomOf 44 = .ok (.istore 5, 2) := by decide +kernel
theorem dX5_roomOf_46 : decode cX5_roomOf 46 = .ok (.iload 5, 2) := by decide +kernel
theorem dX5_roomOf_48 : decode cX5_roomOf 48 = .ok (.aload_n 0, 1) := by decide +kernel
theorem dX5_roomOf_49 : decode cX5_roomOf 49 = .ok (.iload 4, 2) := by decide +kernel
theorem dX5_roomOf_51 : decode cX5_roomOf 51 = .ok (.invokevirtual 48, 3) := by decide +kernel
theorem dX5_roomOf_54 : decode cX5_roomOf 54 = .ok (.if_icmp .lt 16, 3) := by decide +kernel
theorem dX5_roomOf_57 : decode cX5_roomOf 57 = .ok (.iload_n 3, 1) := by decide +kernel
theorem dX5_roomOf_58 : decode cX5_roomOf 58 = .ok (.iload 5, 2) := by decide +kernel
theorem dX5_roomOf_60 : decode cX5_roomOf 60 = .ok (.aload_n 1, 1) := by decide +kernel
theorem dX5_roomOf_61 : decode cX5_roomOf 61 = .ok (.iload_n 2, 1) := by decide +kernel
theorem dX5_roomOf_62 : decode cX5_roomOf 62 = .ok (.invokevirtual 52, 3) := by decide +kernel
theorem dX5_roomOf_65 : decode cX5_roomOf 65 = .ok (.isub, 1) := by decide +kernel
theorem dX5_roomOf_66 : decode cX5_roomOf 66 = .ok (.invokestatic 55, 3) := by decide +kernel
theorem dX5_roomOf_69 : decode cX5_roomOf 69 = .ok (.istore_n 3, 1) := by decide +kernel
theorem dX5_roomOf_70 : decode cX5_roomOf 70 = .ok (.iinc 4 1, 3) := by decide +kernel
theorem dX5_roomOf_73 : decode cX5_roomOf 73 = .ok (.goto (-68), 3) := by decide +kernel
theorem dX5_roomOf_76 : decode cX5_roomOf 76 = .ok (.iload_n 3, 1) := by decide +kernel
theorem dX5_roomOf_77 : decode cX5_roomOf 77 = .ok (.bipush 99, 2) := by decide +kernel
theorem dX5_roomOf_79 : decode cX5_roomOf 79 = .ok (.invokestatic 67, 3) := by decide +kernel
theorem dX5_roomOf_82 : decode cX5_roomOf 82 = .ok (.ireturn, 1) := by decide +kernel
theorem dX5_layFirst_0 : decode cX5_layFirst 0 = .ok (.aload_n 2, 1) := by decide +kernel
theorem dX5_layFirst_1 : decode cX5_layFirst 1 = .ok (.invokevirtual 81, 3) := by decide +kernel
theorem dX5_layFirst_4 : decode cX5_layFirst 4 = .ok (.iconst 0, 1) := by decide +kernel
theorem dX5_layFirst_5 : decode cX5_layFirst 5 = .ok (.istore_n 3, 1) := by decide +kernel
theorem dX5_layFirst_6 : decode cX5_layFirst 6 = .ok (.iload_n 3, 1) := by decide +kernel
theorem dX5_layFirst_7 : decode cX5_layFirst 7 = .ok (.aload_n 1, 1) := by decide +kernel
theorem dX5_layFirst_8 : decode cX5_layFirst 8 = .ok (.getfield 45, 3) := by decide +kernel
theorem dX5_layFirst_11 : decode cX5_layFirst 11 = .ok (.if_icmp .ge 20, 3) := by decide +kernel
theorem dX5_layFirst_14 : decode cX5_layFirst 14 = .ok (.aload_n 2, 1) := by decide +kernel
theorem dX5_layFirst_15 : decode cX5_layFirst 15 = .ok (.aload_n 1, 1) := by decide +kernel
theorem dX5_layFirst_16 : decode cX5_layFirst 16 = .ok (.aload_n 0, 1) := by decide +kernel
theorem dX5_layFirst_17 : decode cX5_layFirst 17 = .ok (.aload_n 1, 1) := by decide +kernel
theorem dX5_layFirst_18 : decode cX5_layFirst 18 = .ok (.aload_n 2, 1) := by decide +kernel
theorem dX5_layFirst_19 : decode cX5_layFirst 19 = .ok (.invokevirtual 86, 3) := by decide +kernel
theorem dX5_layFirst_22 : decode cX5_layFirst 22 = .ok (.invokevirtual 90, 3) := by decide +kernel
theorem dX5_layFirst_25 : decode cX5_layFirst 25 = .ok (.iinc 3 1, 3) := by decide +kernel
theorem dX5_layFirst_28 : decode cX5_layFirst 28 = .ok (.goto (-22), 3) := by decide +kernel
theorem dX5_layFirst_31 : decode cX5_layFirst 31 = .ok (.return_, 1) := by decide +kernel
theorem dX5_firstToGoOn_0 : decode cX5_firstToGoOn 0 = .ok (.aload_n 0, 1) := by decide +kernel
theorem dX5_firstToGoOn_1 : decode cX5_firstToGoOn 1 = .ok (.getfield 30, 3) := by decide +kernel
theorem dX5_firstToGoOn_4 : decode cX5_firstToGoOn 4 = .ok (.aload_n 2, 1) := by decide +kernel
theorem dX5_firstToGoOn_5 : decode cX5_firstToGoOn 5 = .ok (.getfield 94, 3) := by decide +kernel
theorem dX5_firstToGoOn_8 : decode cX5_firstToGoOn 8 = .ok (.iconst (-1), 1) := by decide +kernel
theorem dX5_firstToGoOn_9 : decode cX5_firstToGoOn 9 = .ok (.ixor, 1) := by decide +kernel
theorem dX5_firstToGoOn_10 : decode cX5_firstToGoOn 10 = .ok (.iand, 1) := by decide +kernel
theorem dX5_firstToGoOn_11 : decode cX5_firstToGoOn 11 = .ok (.istore_n 3, 1) := by decide +kernel
theorem dX5_firstToGoOn_12 : decode cX5_firstToGoOn 12 = .ok (.iconst 0, 1) := by decide +kernel
theorem dX5_firstToGoOn_13 : decode cX5_firstToGoOn 13 = .ok (.istore 4, 2) := by decide +kernel
theorem dX5_firstToGoOn_15 : decode cX5_firstToGoOn 15 = .ok (.iload 4, 2) := by decide +kernel
theorem dX5_firstToGoOn_17 : decode cX5_firstToGoOn 17 = .ok (.aload_n 1, 1) := by decide +kernel
theorem dX5_firstToGoOn_18 : decode cX5_firstToGoOn 18 = .ok (.getfield 45, 3) := by decide +kernel
theorem dX5_firstToGoOn_21 : decode cX5_firstToGoOn 21 = .ok (.if_icmp .ge 56, 3) := by decide +kernel
theorem dX5_firstToGoOn_24 : decode cX5_firstToGoOn 24 = .ok (.iload_n 3, 1) := by decide +kernel
theorem dX5_firstToGoOn_25 : decode cX5_firstToGoOn 25 = .ok (.iload 4, 2) := by decide +kernel
theorem dX5_firstToGoOn_27 : decode cX5_firstToGoOn 27 = .ok (.ishr, 1) := by decide +kernel
theorem dX5_firstToGoOn_28 : decode cX5_firstToGoOn 28 = .ok (.iconst 1, 1) := by decide +kernel
theorem dX5_firstToGoOn_29 : decode cX5_firstToGoOn 29 = .ok (.iand, 1) := by decide +kernel
theorem dX5_firstToGoOn_30 : decode cX5_firstToGoOn 30 = .ok (.ifCond .eq 41, 3) := by decide +kernel
theorem dX5_firstToGoOn_33 : decode cX5_firstToGoOn 33 = .ok (.aload_n 2, 1) := by decide +kernel
theorem dX5_firstToGoOn_34 : decode cX5_firstToGoOn 34 = .ok (.getfield 97, 3) := by decide +kernel
theorem dX5_firstToGoOn_37 : decode cX5_firstToGoOn 37 = .ok (.aload_n 1, 1) := by decide +kernel
theorem dX5_firstToGoOn_38 : decode cX5_firstToGoOn 38 = .ok (.iload 4, 2) := by decide +kernel
theorem dX5_firstToGoOn_40 : decode cX5_firstToGoOn 40 = .ok (.invokevirtual 52, 3) := by decide +kernel
theorem dX5_firstToGoOn_43 : decode cX5_firstToGoOn 43 = .ok (.invokestatic 55, 3) := by decide +kernel
theorem dX5_firstToGoOn_46 : decode cX5_firstToGoOn 46 = .ok (.istore 5, 2) := by decide +kernel
theorem dX5_firstToGoOn_48 : decode cX5_firstToGoOn 48 = .ok (.iload 5, 2) := by decide +kernel
theorem dX5_firstToGoOn_50 : decode cX5_firstToGoOn 50 = .ok (.aload_n 0, 1) := by decide +kernel
theorem dX5_firstToGoOn_51 : decode cX5_firstToGoOn 51 = .ok (.aload_n 1, 1) := by decide +kernel
theorem dX5_firstToGoOn_52 : decode cX5_firstToGoOn 52 = .ok (.iload 4, 2) := by decide +kernel
theorem dX5_firstToGoOn_54 : decode cX5_firstToGoOn 54 = .ok (.iload_n 3, 1) := by decide +kernel
theorem dX5_firstToGoOn_55 : decode cX5_firstToGoOn 55 = .ok (.iconst 1, 1) := by decide +kernel
theorem dX5_firstToGoOn_56 : decode cX5_firstToGoOn 56 = .ok (.iload 4, 2) := by decide +kernel
theorem dX5_firstToGoOn_58 : decode cX5_firstToGoOn 58 = .ok (.ishl, 1) := by decide +kernel
theorem dX5_firstToGoOn_59 : decode cX5_firstToGoOn 59 = .ok (.iconst (-1), 1) := by decide +kernel
theorem dX5_firstToGoOn_60 : decode cX5_firstToGoOn 60 = .ok (.ixor, 1) := by decide +kernel
theorem dX5_firstToGoOn_61 : decode cX5_firstToGoOn 61 = .ok (.iand, 1) := by decide +kernel
theorem dX5_firstToGoOn_62 : decode cX5_firstToGoOn 62 = .ok (.invokevirtual 70, 3) := by decide +kernel
theorem dX5_firstToGoOn_65 : decode cX5_firstToGoOn 65 = .ok (.if_icmp .gt 6, 3) := by decide +kernel
theorem dX5_firstToGoOn_68 : decode cX5_firstToGoOn 68 = .ok (.iload 4, 2) := by decide +kernel
theorem dX5_firstToGoOn_70 : decode cX5_firstToGoOn 70 = .ok (.ireturn, 1) := by decide +kernel
theorem dX5_firstToGoOn_71 : decode cX5_firstToGoOn 71 = .ok (.iinc 4 1, 3) := by decide +kernel
theorem dX5_firstToGoOn_74 : decode cX5_firstToGoOn 74 = .ok (.goto (-59), 3) := by decide +kernel
theorem dX5_firstToGoOn_77 : decode cX5_firstToGoOn 77 = .ok (.iconst (-1), 1) := by decide +kernel
theorem dX5_firstToGoOn_78 : decode cX5_firstToGoOn 78 = .ok (.ireturn, 1) := by decide +kernel
theorem dX5_ways_0 : decode cX5_ways 0 = .ok (.aload_n 0, 1) := by decide +kernel
theorem dX5_ways_1 : decode cX5_ways 1 = .ok (.getfield 18, 3) := by decide +kernel
theorem dX5_ways_4 : decode cX5_ways 4 = .ok (.iconst (-1), 1) := by decide +kernel
theorem dX5_ways_5 : decode cX5_ways 5 = .ok (.invokestatic 100, 3) := by decide +kernel
theorem dX5_ways_8 : decode cX5_ways 8 = .ok (.aload_n 0, 1) := by decide +kernel
theorem dX5_ways_9 : decode cX5_ways 9 = .ok (.aload_n 1, 1) := by decide +kernel
theorem dX5_ways_10 : decode cX5_ways 10 = .ok (.aload_n 0, 1) := by decide +kernel
theorem dX5_ways_11 : decode cX5_ways 11 = .ok (.getfield 30, 3) := by decide +kernel
theorem dX5_ways_14 : decode cX5_ways 14 = .ok (.iconst 0, 1) := by decide +kernel
theorem dX5_ways_15 : decode cX5_ways 15 = .ok (.iconst 0, 1) := by decide +kernel
theorem dX5_ways_16 : decode cX5_ways 16 = .ok (.invokestatic 106, 3) := by decide +kernel
theorem dX5_ways_19 : decode cX5_ways 19 = .ok (.ireturn, 1) := by decide +kernel
theorem dX5_waysFrom_0 : decode cX5_waysFrom 0 = .ok (.iload_n 2, 1) := by decide +kernel
theorem dX5_waysFrom_1 : decode cX5_waysFrom 1 = .ok (.ifCond .ne 5, 3) := by decide +kernel
theorem dX5_waysFrom_4 : decode cX5_waysFrom 4 = .ok (.iconst 1, 1) := by decide +kernel
theorem dX5_waysFrom_5 : decode cX5_waysFrom 5 = .ok (.ireturn, 1) := by decide +kernel
theorem dX5_waysFrom_6 : decode cX5_waysFrom 6 = .ok (.iload 4, 2) := by decide +kernel
theorem dX5_waysFrom_8 : decode cX5_waysFrom 8 = .ok (.bipush 8, 2) := by decide +kernel
theorem dX5_waysFrom_10 : decode cX5_waysFrom 10 = .ok (.if_icmp .ge 12, 3) := by decide +kernel
theorem dX5_waysFrom_13 : decode cX5_waysFrom 13 = .ok (.iload_n 3, 1) := by decide +kernel
theorem dX5_waysFrom_14 : decode cX5_waysFrom 14 = .ok (.aload_n 0, 1) := by decide +kernel
theorem dX5_waysFrom_15 : decode cX5_waysFrom 15 = .ok (.iload_n 2, 1) := by decide +kernel
theorem dX5_waysFrom_16 : decode cX5_waysFrom 16 = .ok (.invokevirtual 74, 3) := by decide +kernel
theorem dX5_waysFrom_19 : decode cX5_waysFrom 19 = .ok (.if_icmp .le 5, 3) := by decide +kernel
theorem dX5_waysFrom_22 : decode cX5_waysFrom 22 = .ok (.iconst 0, 1) := by decide +kernel
theorem dX5_waysFrom_23 : decode cX5_waysFrom 23 = .ok (.ireturn, 1) := by decide +kernel
theorem dX5_waysFrom_24 : decode cX5_waysFrom 24 = .ok (.iload_n 2, 1) := by decide +kernel
theorem dX5_waysFrom_25 : decode cX5_waysFrom 25 = .ok (.sipush 1024, 3) := by decide +kernel
theorem dX5_waysFrom_28 : decode cX5_waysFrom 28 = .ok (.imul, 1) := by decide +kernel
theorem dX5_waysFrom_29 : decode cX5_waysFrom 29 = .ok (.iload_n 3, 1) := by decide +kernel
theorem dX5_waysFrom_30 : decode cX5_waysFrom 30 = .ok (.iadd, 1) := by decide +kernel
theorem dX5_waysFrom_31 : decode cX5_waysFrom 31 = .ok (.istore 5, 2) := by decide +kernel
theorem dX5_waysFrom_33 : decode cX5_waysFrom 33 = .ok (.iload_n 2, 1) := by decide +kernel
theorem dX5_waysFrom_34 : decode cX5_waysFrom 34 = .ok (.bipush 37, 2) := by decide +kernel
theorem dX5_waysFrom_36 : decode cX5_waysFrom 36 = .ok (.imul, 1) := by decide +kernel
theorem dX5_waysFrom_37 : decode cX5_waysFrom 37 = .ok (.iload_n 3, 1) := by decide +kernel
theorem dX5_waysFrom_38 : decode cX5_waysFrom 38 = .ok (.iadd, 1) := by decide +kernel
theorem dX5_waysFrom_39 : decode cX5_waysFrom 39 = .ok (.sipush 511, 3) := by decide +kernel
theorem dX5_waysFrom_42 : decode cX5_waysFrom 42 = .ok (.iand, 1) := by decide +kernel
theorem dX5_waysFrom_43 : decode cX5_waysFrom 43 = .ok (.istore 6, 2) := by decide +kernel
theorem dX5_waysFrom_45 : decode cX5_waysFrom 45 = .ok (.aload_n 0, 1) := by decide +kernel
theorem dX5_waysFrom_46 : decode cX5_waysFrom 46 = .ok (.getfield 18, 3) := by decide +kernel
theorem dX5_waysFrom_49 : decode cX5_waysFrom 49 = .ok (.iload 6, 2) := by decide +kernel
theorem dX5_waysFrom_51 : decode cX5_waysFrom 51 = .ok (.iaload, 1) := by decide +kernel
theorem dX5_waysFrom_52 : decode cX5_waysFrom 52 = .ok (.iload 5, 2) := by decide +kernel
theorem dX5_waysFrom_54 : decode cX5_waysFrom 54 = .ok (.if_icmp .ne 11, 3) := by decide +kernel
theorem dX5_waysFrom_57 : decode cX5_waysFrom 57 = .ok (.aload_n 0, 1) := by decide +kernel
theorem dX5_waysFrom_58 : decode cX5_waysFrom 58 = .ok (.getfield 21, 3) := by decide +kernel
theorem dX5_waysFrom_61 : decode cX5_waysFrom 61 = .ok (.iload 6, 2) := by decide +kernel
theorem dX5_waysFrom_63 : decode cX5_waysFrom 63 = .ok (.iaload, 1) := by decide +kernel
theorem dX5_waysFrom_64 : decode cX5_waysFrom 64 = .ok (.ireturn, 1) := by decide +kernel
theorem dX5_waysFrom_65 : decode cX5_waysFrom 65 = .ok (.iconst 0, 1) := by decide +kernel
theorem dX5_waysFrom_66 : decode cX5_waysFrom 66 = .ok (.istore 7, 2) := by decide +kernel
theorem dX5_waysFrom_68 : decode cX5_waysFrom 68 = .ok (.iconst 0, 1) := by decide +kernel
theorem dX5_waysFrom_69 : decode cX5_waysFrom 69 = .ok (.istore 8, 2) := by decide +kernel
theorem dX5_waysFrom_71 : decode cX5_waysFrom 71 = .ok (.iload 8, 2) := by decide +kernel
theorem dX5_waysFrom_73 : decode cX5_waysFrom 73 = .ok (.aload_n 1, 1) := by decide +kernel
theorem dX5_waysFrom_74 : decode cX5_waysFrom 74 = .ok (.getfield 45, 3) := by decide +kernel
theorem dX5_waysFrom_77 : decode cX5_waysFrom 77 = .ok (.if_icmp .ge 79, 3) := by decide +kernel
theorem dX5_waysFrom_80 : decode cX5_waysFrom 80 = .ok (.iload_n 2, 1) := by decide +kernel
theorem dX5_waysFrom_81 : decode cX5_waysFrom 81 = .ok (.iload 8, 2) := by decide +kernel
theorem dX5_waysFrom_83 : decode cX5_waysFrom 83 = .ok (.ishr, 1) := by decide +kernel
theorem dX5_waysFrom_84 : decode cX5_waysFrom 84 = .ok (.iconst 1, 1) := by decide +kernel
theorem dX5_waysFrom_85 : decode cX5_waysFrom 85 = .ok (.iand, 1) := by decide +kernel
theorem dX5_waysFrom_86 : decode cX5_waysFrom 86 = .ok (.ifCond .eq 64, 3) := by decide +kernel
theorem dX5_waysFrom_89 : decode cX5_waysFrom 89 = .ok (.iload_n 2, 1) := by decide +kernel
theorem dX5_waysFrom_90 : decode cX5_waysFrom 90 = .ok (.iconst 1, 1) := by decide +kernel
theorem dX5_waysFrom_91 : decode cX5_waysFrom 91 = .ok (.iload 8, 2) := by decide +kernel
theorem dX5_waysFrom_93 : decode cX5_waysFrom 93 = .ok (.ishl, 1) := by decide +kernel
theorem dX5_waysFrom_94 : decode cX5_waysFrom 94 = .ok (.iconst (-1), 1) := by decide +kernel
theorem dX5_waysFrom_95 : decode cX5_waysFrom 95 = .ok (.ixor, 1) := by decide +kernel
theorem dX5_waysFrom_96 : decode cX5_waysFrom 96 = .ok (.iand, 1) := by decide +kernel
theorem dX5_waysFrom_97 : decode cX5_waysFrom 97 = .ok (.istore 9, 2) := by decide +kernel
theorem dX5_waysFrom_99 : decode cX5_waysFrom 99 = .ok (.iload_n 3, 1) := by decide +kernel
theorem dX5_waysFrom_100 : decode cX5_waysFrom 100 = .ok (.aload_n 1, 1) := by decide +kernel
theorem dX5_waysFrom_101 : decode cX5_waysFrom 101 = .ok (.iload 8, 2) := by decide +kernel
theorem dX5_waysFrom_103 : decode cX5_waysFrom 103 = .ok (.invokevirtual 52, 3) := by decide +kernel
theorem dX5_waysFrom_106 : decode cX5_waysFrom 106 = .ok (.invokestatic 55, 3) := by decide +kernel
theorem dX5_waysFrom_109 : decode cX5_waysFrom 109 = .ok (.istore 10, 2) := by decide +kernel
theorem dX5_waysFrom_111 : decode cX5_waysFrom 111 = .ok (.iload 10, 2) := by decide +kernel
theorem dX5_waysFrom_113 : decode cX5_waysFrom 113 = .ok (.aload_n 0, 1) := by decide +kernel
theorem dX5_waysFrom_114 : decode cX5_waysFrom 114 = .ok (.aload_n 1, 1) := by decide +kernel
theorem dX5_waysFrom_115 : decode cX5_waysFrom 115 = .ok (.iload 8, 2) := by decide +kernel
theorem dX5_waysFrom_117 : decode cX5_waysFrom 117 = .ok (.iload 9, 2) := by decide +kernel
theorem dX5_waysFrom_119 : decode cX5_waysFrom 119 = .ok (.invokevirtual 70, 3) := by decide +kernel
theorem dX5_waysFrom_122 : decode cX5_waysFrom 122 = .ok (.if_icmp .gt 28, 3) := by decide +kernel
theorem dX5_waysFrom_125 : decode cX5_waysFrom 125 = .ok (.iload 7, 2) := by decide +kernel
theorem dX5_waysFrom_127 : decode cX5_waysFrom 127 = .ok (.aload_n 0, 1) := by decide +kernel
theorem dX5_waysFrom_128 : decode cX5_waysFrom 128 = .ok (.aload_n 1, 1) := by decide +kernel
theorem dX5_waysFrom_129 : decode cX5_waysFrom 129 = .ok (.iload 9, 2) := by decide +kernel
theorem dX5_waysFrom_131 : decode cX5_waysFrom 131 = .ok (.iload 10, 2) := by decide +kernel
theorem dX5_waysFrom_133 : decode cX5_waysFrom 133 = .ok (.aload_n 1, 1) := by decide +kernel
theorem dX5_waysFrom_134 : decode cX5_waysFrom 134 = .ok (.iload 8, 2) := by decide +kernel
theorem dX5_waysFrom_136 : decode cX5_waysFrom 136 = .ok (.invokevirtual 61, 3) := by decide +kernel
theorem dX5_waysFrom_139 : decode cX5_waysFrom 139 = .ok (.iadd, 1) := by decide +kernel
theorem dX5_waysFrom_140 : decode cX5_waysFrom 140 = .ok (.iload 4, 2) := by decide +kernel
theorem dX5_waysFrom_142 : decode cX5_waysFrom 142 = .ok (.iconst 1, 1) := by decide +kernel
theorem dX5_waysFrom_143 : decode cX5_waysFrom 143 = .ok (.iadd, 1) := by decide +kernel
theorem dX5_waysFrom_144 : decode cX5_waysFrom 144 = .ok (.invokestatic 106, 3) := by decide +kernel
theorem dX5_waysFrom_147 : decode cX5_waysFrom 147 = .ok (.iadd, 1) := by decide +kernel
theorem dX5_waysFrom_148 : decode cX5_waysFrom 148 = .ok (.istore 7, 2) := by decide +kernel
theorem dX5_waysFrom_150 : decode cX5_waysFrom 150 = .ok (.iinc 8 1, 3) := by decide +kernel
theorem dX5_waysFrom_153 : decode cX5_waysFrom 153 = .ok (.goto (-82), 3) := by decide +kernel
theorem dX5_waysFrom_156 : decode cX5_waysFrom 156 = .ok (.aload_n 0, 1) := by decide +kernel
theorem dX5_waysFrom_157 : decode cX5_waysFrom 157 = .ok (.getfield 18, 3) := by decide +kernel
theorem dX5_waysFrom_160 : decode cX5_waysFrom 160 = .ok (.iload 6, 2) := by decide +kernel
theorem dX5_waysFrom_162 : decode cX5_waysFrom 162 = .ok (.iload 5, 2) := by decide +kernel
theorem dX5_waysFrom_164 : decode cX5_waysFrom 164 = .ok (.iastore, 1) := by decide +kernel
theorem dX5_waysFrom_165 : decode cX5_waysFrom 165 = .ok (.aload_n 0, 1) := by decide +kernel
theorem dX5_waysFrom_166 : decode cX5_waysFrom 166 = .ok (.getfield 21, 3) := by decide +kernel
theorem dX5_waysFrom_169 : decode cX5_waysFrom 169 = .ok (.iload 6, 2) := by decide +kernel
theorem dX5_waysFrom_171 : decode cX5_waysFrom 171 = .ok (.iload 7, 2) := by decide +kernel
theorem dX5_waysFrom_173 : decode cX5_waysFrom 173 = .ok (.iastore, 1) := by decide +kernel
theorem dX5_waysFrom_174 : decode cX5_waysFrom 174 = .ok (.iload 7, 2) := by decide +kernel
theorem dX5_waysFrom_176 : decode cX5_waysFrom 176 = .ok (.ireturn, 1) := by decide +kernel
theorem dX6_init_0 : decode cX6_init 0 = .ok (.aload_n 0, 1) := by decide +kernel
theorem dX6_init_1 : decode cX6_init 1 = .ok (.invokespecial 3, 3) := by decide +kernel
theorem dX6_init_4 : decode cX6_init 4 = .ok (.aload_n 0, 1) := by decide +kernel
theorem dX6_init_5 : decode cX6_init 5 = .ok (.new 9, 3) := by decide +kernel
theorem dX6_init_8 : decode cX6_init 8 = .ok (.dup, 1) := by decide +kernel
theorem dX6_init_9 : decode cX6_init 9 = .ok (.invokespecial 11, 3) := by decide +kernel
theorem dX6_init_12 : decode cX6_init 12 = .ok (.putfield 12, 3) := by decide +kernel
theorem dX6_init_15 : decode cX6_init 15 = .ok (.aload_n 0, 1) := by decide +kernel
theorem dX6_init_16 : decode cX6_init 16 = .ok (.new 18, 3) := by decide +kernel
theorem dX6_init_19 : decode cX6_init 19 = .ok (.dup, 1) := by decide +kernel
theorem dX6_init_20 : decode cX6_init 20 = .ok (.invokespecial 20, 3) := by decide +kernel
theorem dX6_init_23 : decode cX6_init 23 = .ok (.putfield 21, 3) := by decide +kernel
theorem dX6_init_26 : decode cX6_init 26 = .ok (.aload_n 0, 1) := by decide +kernel
theorem dX6_init_27 : decode cX6_init 27 = .ok (.new 25, 3) := by decide +kernel
theorem dX6_init_30 : decode cX6_init 30 = .ok (.dup, 1) := by decide +kernel
theorem dX6_init_31 : decode cX6_init 31 = .ok (.invokespecial 27, 3) := by decide +kernel
theorem dX6_init_34 : decode cX6_init 34 = .ok (.putfield 28, 3) := by decide +kernel
theorem dX6_init_37 : decode cX6_init 37 = .ok (.aload_n 0, 1) := by decide +kernel
theorem dX6_init_38 : decode cX6_init 38 = .ok (.sipush 1650, 3) := by decide +kernel
theorem dX6_init_41 : decode cX6_init 41 = .ok (.newarray .int, 2) := by decide +kernel
theorem dX6_init_43 : decode cX6_init 43 = .ok (.putfield 32, 3) := by decide +kernel
theorem dX6_init_46 : decode cX6_init 46 = .ok (.aload_n 0, 1) := by decide +kernel
theorem dX6_init_47 : decode cX6_init 47 = .ok (.sipush 1650, 3) := by decide +kernel
theorem dX6_init_50 : decode cX6_init 50 = .ok (.newarray .int, 2) := by decide +kernel
theorem dX6_init_52 : decode cX6_init 52 = .ok (.putfield 36, 3) := by decide +kernel
theorem dX6_init_55 : decode cX6_init 55 = .ok (.aload_n 0, 1) := by decide +kernel
theorem dX6_init_56 : decode cX6_init 56 = .ok (.sipush 1650, 3) := by decide +kernel
theorem dX6_init_59 : decode cX6_init 59 = .ok (.newarray .int, 2) := by decide +kernel
theorem dX6_init_61 : decode cX6_init 61 = .ok (.putfield 39, 3) := by decide +kernel
theorem dX6_init_64 : decode cX6_init 64 = .ok (.aload_n 0, 1) := by decide +kernel
theorem dX6_init_65 : decode cX6_init 65 = .ok (.sipush 1650, 3) := by decide +kernel
theorem dX6_init_68 : decode cX6_init 68 = .ok (.newarray .int, 2) := by decide +kernel
theorem dX6_init_70 : decode cX6_init 70 = .ok (.putfield 42, 3) := by decide +kernel
theorem dX6_init_73 : decode cX6_init 73 = .ok (.return_, 1) := by decide +kernel
theorem dX6_run_0 : decode cX6_run 0 = .ok (.aload_n 0, 1) := by decide +kernel
theorem dX6_run_1 : decode cX6_run 1 = .ok (.iconst 0, 1) := by decide +kernel
theorem dX6_run_2 : decode cX6_run 2 = .ok (.putfield 45, 3) := by decide +kernel
theorem dX6_run_5 : decode cX6_run 5 = .ok (.aload_n 0, 1) := by decide +kernel
theorem dX6_run_6 : decode cX6_run 6 = .ok (.iconst (-1), 1) := by decide +kernel
theorem dX6_run_7 : decode cX6_run 7 = .ok (.putfield 49, 3) := by decide +kernel
theorem dX6_run_10 : decode cX6_run 10 = .ok (.aload_n 0, 1) := by decide +kernel
theorem dX6_run_11 : decode cX6_run 11 = .ok (.iconst 0, 1) := by decide +kernel
theorem dX6_run_12 : decode cX6_run 12 = .ok (.putfield 52, 3) := by decide +kernel
theorem dX6_run_15 : decode cX6_run 15 = .ok (.aload_n 0, 1) := by decide +kernel
theorem dX6_run_16 : decode cX6_run 16 = .ok (.iconst 0, 1) := by decide +kernel
theorem dX6_run_17 : decode cX6_run 17 = .ok (.putfield 55, 3) := by decide +kernel
theorem dX6_run_20 : decode cX6_run 20 = .ok (.aload_n 0, 1) := by decide +kernel
theorem dX6_run_21 : decode cX6_run 21 = .ok (.aload_n 1, 1) := by decide +kernel
theorem dX6_run_22 : decode cX6_run 22 = .ok (.invokevirtual 58, 3) := by decide +kernel
theorem dX6_run_25 : decode cX6_run 25 = .ok (.iconst 0, 1) := by decide +kernel
theorem dX6_run_26 : decode cX6_run 26 = .ok (.istore_n 2, 1) := by decide +kernel
theorem dX6_run_27 : decode cX6_run 27 = .ok (.iload_n 2, 1) := by decide +kernel
theorem dX6_run_28 : decode cX6_run 28 = .ok (.ldc 62, 2) := by decide +kernel
theorem dX6_run_30 : decode cX6_run 30 = .ok (.if_icmp .ge 29, 3) := by decide +kernel
theorem dX6_run_33 : decode cX6_run 33 = .ok (.aload_n 0, 1) := by decide +kernel
theorem dX6_run_34 : decode cX6_run 34 = .ok (.getfield 45, 3) := by decide +kernel
theorem dX6_run_37 : decode cX6_run 37 = .ok (.ifCond .le 22, 3) := by decide +kernel
theorem dX6_run_40 : decode cX6_run 40 = .ok (.aload_n 0, 1) := by decide +kernel
theorem dX6_run_41 : decode cX6_run 41 = .ok (.aload_n 1, 1) := by decide +kernel
theorem dX6_run_42 : decode cX6_run 42 = .ok (.invokevirtual 63, 3) := by decide +kernel
theorem dX6_run_45 : decode cX6_run 45 = .ok (.ifCond .eq 8, 3) := by decide +kernel
theorem dX6_run_48 : decode cX6_run 48 = .ok (.aload_n 0, 1) := by decide +kernel
theorem dX6_run_49 : decode cX6_run 49 = .ok (.aload_n 1, 1) := by decide +kernel
theorem dX6_run_50 : decode cX6_run 50 = .ok (.invokevirtual 58, 3) := by decide +kernel
theorem dX6_run_53 : decode cX6_run 53 = .ok (.iinc 2 1, 3) := by decide +kernel
theorem dX6_run_56 : decode cX6_run 56 = .ok (.goto (-29), 3) := by decide +kernel
theorem dX6_run_59 : decode cX6_run 59 = .ok (.return_, 1) := by decide +kernel
theorem dX6_visitNode_0 : decode cX6_visitNode 0 = .ok (.aload_n 0, 1) := by decide +kernel
theorem dX6_visitNode_1 : decode cX6_visitNode 1 = .ok (.dup, 1) := by decide +kernel
theorem dX6_visitNode_2 : decode cX6_visitNode 2 = .ok (.getfield 52, 3) := by decide +kernel
theorem dX6_visitNode_5 : decode cX6_visitNode 5 = .ok (.iconst 1, 1) := by decide +kernel
theorem dX6_visitNode_6 : decode cX6_visitNode 6 = .ok (.iadd, 1) := by decide +kernel
theorem dX6_visitNode_7 : decode cX6_visitNode 7 = .ok (.putfield 52, 3) := by decide +kernel
theorem dX6_visitNode_10 : decode cX6_visitNode 10 = .ok (.aload_n 0, 1) := by decide +kernel
theorem dX6_visitNode_11 : decode cX6_visitNode 11 = .ok (.getfield 12, 3) := by decide +kernel
theorem dX6_visitNode_14 : decode cX6_visitNode 14 = .ok (.aload_n 1, 1) := by decide +kernel
theorem dX6_visitNode_15 : decode cX6_visitNode 15 = .ok (.invokevirtual 67, 3) := by decide +kernel
theorem dX6_visitNode_18 : decode cX6_visitNode 18 = .ok (.aload_n 0, 1) := by decide +kernel
theorem dX6_visitNode_19 : decode cX6_visitNode 19 = .ok (.getfield 49, 3) := by decide +kernel
theorem dX6_visitNode_22 : decode cX6_visitNode 22 = .ok (.iconst (-1), 1) := by decide +kernel
theorem dX6_visitNode_23 : decode cX6_visitNode 23 = .ok (.if_icmp .eq 17, 3) := by decide +kernel
theorem dX6_visitNode_26 : decode cX6_visitNode 26 = .ok (.aload_n 0, 1) := by decide +kernel
theorem dX6_visitNode_27 : decode cX6_visitNode 27 = .ok (.getfield 12, 3) := by decide +kernel
theorem dX6_visitNode_30 : decode cX6_visitNode 30 = .ok (.getfield 70, 3) := by decide +kernel
theorem dX6_visitNode_33 : decode cX6_visitNode 33 = .ok (.aload_n 0, 1) := by decide +kernel
theorem dX6_visitNode_34 : decode cX6_visitNode 34 = .ok (.getfield 49, 3) := by decide +kernel
theorem dX6_visitNode_37 : decode cX6_visitNode 37 = .ok (.if_icmp .ge 22, 3) := by decide +kernel
theorem dX6_visitNode_40 : decode cX6_visitNode 40 = .ok (.aload_n 0, 1) := by decide +kernel
theorem dX6_visitNode_41 : decode cX6_visitNode 41 = .ok (.aload_n 0, 1) := by decide +kernel
theorem dX6_visitNode_42 : decode cX6_visitNode 42 = .ok (.getfield 12, 3) := by decide +kernel
theorem dX6_visitNode_45 : decode cX6_visitNode 45 = .ok (.getfield 70, 3) := by decide +kernel
theorem dX6_visitNode_48 : decode cX6_visitNode 48 = .ok (.putfield 49, 3) := by decide +kernel
theorem dX6_visitNode_51 : decode cX6_visitNode 51 = .ok (.aload_n 0, 1) := by decide +kernel
theorem dX6_visitNode_52 : decode cX6_visitNode 52 = .ok (.aload_n 0, 1) := by decide +kernel
theorem dX6_visitNode_53 : decode cX6_visitNode 53 = .ok (.getfield 52, 3) := by decide +kernel
theorem dX6_visitNode_56 : decode cX6_visitNode 56 = .ok (.putfield 55, 3) := by decide +kernel
theorem dX6_visitNode_59 : decode cX6_visitNode 59 = .ok (.aload_n 0, 1) := by decide +kernel
theorem dX6_visitNode_60 : decode cX6_visitNode 60 = .ok (.getfield 21, 3) := by decide +kernel
theorem dX6_visitNode_63 : decode cX6_visitNode 63 = .ok (.aload_n 1, 1) := by decide +kernel
theorem dX6_visitNode_64 : decode cX6_visitNode 64 = .ok (.aload_n 0, 1) := by decide +kernel
theorem dX6_visitNode_65 : decode cX6_visitNode 65 = .ok (.getfield 12, 3) := by decide +kernel
theorem dX6_visitNode_68 : decode cX6_visitNode 68 = .ok (.invokevirtual 73, 3) := by decide +kernel
theorem dX6_visitNode_71 : decode cX6_visitNode 71 = .ok (.aload_n 0, 1) := by decide +kernel
theorem dX6_visitNode_72 : decode cX6_visitNode 72 = .ok (.getfield 21, 3) := by decide +kernel
theorem dX6_visitNode_75 : decode cX6_visitNode 75 = .ok (.getfield 77, 3) := by decide +kernel
theorem dX6_visitNode_78 : decode cX6_visitNode 78 = .ok (.iconst (-1), 1) := by decide +kernel
theorem dX6_visitNode_79 : decode cX6_visitNode 79 = .ok (.if_icmp .eq 88, 3) := by decide +kernel
theorem dX6_visitNode_82 : decode cX6_visitNode 82 = .ok (.aload_n 0, 1) := by decide +kernel
theorem dX6_visitNode_83 : decode cX6_visitNode 83 = .ok (.getfield 45, 3) := by decide +kernel
theorem dX6_visitNode_86 : decode cX6_visitNode 86 = .ok (.ifCond .lt 81, 3) := by decide +kernel
theorem dX6_visitNode_89 : decode cX6_visitNode 89 = .ok (.aload_n 0, 1) := by decide +kernel
theorem dX6_visitNode_90 : decode cX6_visitNode 90 = .ok (.getfield 45, 3) := by decide +kernel
theorem dX6_visitNode_93 : decode cX6_visitNode 93 = .ok (.sipush 1650, 3) := by decide +kernel
theorem dX6_visitNode_96 : decode cX6_visitNode 96 = .ok (.if_icmp .ge 71, 3) := by decide +kernel
theorem dX6_visitNode_99 : decode cX6_visitNode 99 = .ok (.aload_n 0, 1) := by decide +kernel
theorem dX6_visitNode_100 : decode cX6_visitNode 100 = .ok (.getfield 32, 3) := by decide +kernel
theorem dX6_visitNode_103 : decode cX6_visitNode 103 = .ok (.aload_n 0, 1) := by decide +kernel
theorem dX6_visitNode_104 : decode cX6_visitNode 104 = .ok (.getfield 45, 3) := by decide +kernel
theorem dX6_visitNode_107 : decode cX6_visitNode 107 = .ok (.aload_n 0, 1) := by decide +kernel
theorem dX6_visitNode_108 : decode cX6_visitNode 108 = .ok (.getfield 21, 3) := by decide +kernel
theorem dX6_visitNode_111 : decode cX6_visitNode 111 = .ok (.getfield 77, 3) := by decide +kernel
theorem dX6_visitNode_114 : decode cX6_visitNode 114 = .ok (.iastore, 1) := by decide +kernel
theorem dX6_visitNode_115 : decode cX6_visitNode 115 = .ok (.aload_n 0, 1) := by decide +kernel
theorem dX6_visitNode_116 : decode cX6_visitNode 116 = .ok (.getfield 36, 3) := by decide +kernel
theorem dX6_visitNode_119 : decode cX6_visitNode 119 = .ok (.aload_n 0, 1) := by decide +kernel
theorem dX6_visitNode_120 : decode cX6_visitNode 120 = .ok (.getfield 45, 3) := by decide +kernel
theorem dX6_visitNode_123 : decode cX6_visitNode 123 = .ok (.iconst 0, 1) := by decide +kernel
theorem dX6_visitNode_124 : decode cX6_visitNode 124 = .ok (.iastore, 1) := by decide +kernel
theorem dX6_visitNode_125 : decode cX6_visitNode 125 = .ok (.aload_n 0, 1) := by decide +kernel
theorem dX6_visitNode_126 : decode cX6_visitNode 126 = .ok (.getfield 39, 3) := by decide +kernel
theorem dX6_visitNode_129 : decode cX6_visitNode 129 = .ok (.aload_n 0, 1) := by decide +kernel
theorem dX6_visitNode_130 : decode cX6_visitNode 130 = .ok (.getfield 45, 3) := by decide +kernel
theorem dX6_visitNode_133 : decode cX6_visitNode 133 = .ok (.aload_n 0, 1) := by decide +kernel
theorem dX6_visitNode_134 : decode cX6_visitNode 134 = .ok (.getfield 21, 3) := by decide +kernel
theorem dX6_visitNode_137 : decode cX6_visitNode 137 = .ok (.getfield 80, 3) := by decide +kernel
theorem dX6_visitNode_140 : decode cX6_visitNode 140 = .ok (.iastore, 1) := by decide +kernel
theorem dX6_visitNode_141 : decode cX6_visitNode 141 = .ok (.aload_n 0, 1) := by decide +kernel
theorem dX6_visitNode_142 : decode cX6_visitNode 142 = .ok (.getfield 42, 3) := by decide +kernel
theorem dX6_visitNode_145 : decode cX6_visitNode 145 = .ok (.aload_n 0, 1) := by decide +kernel
theorem dX6_visitNode_146 : decode cX6_visitNode 146 = .ok (.getfield 45, 3) := by decide +kernel
theorem dX6_visitNode_149 : decode cX6_visitNode 149 = .ok (.aload_n 0, 1) := by decide +kernel
theorem dX6_visitNode_150 : decode cX6_visitNode 150 = .ok (.getfield 21, 3) := by decide +kernel
theorem dX6_visitNode_153 : decode cX6_visitNode 153 = .ok (.getfield 83, 3) := by decide +kernel
theorem dX6_visitNode_156 : decode cX6_visitNode 156 = .ok (.iastore, 1) := by decide +kernel
theorem dX6_visitNode_157 : decode cX6_visitNode 157 = .ok (.aload_n 0, 1) := by decide +kernel
theorem dX6_visitNode_158 : decode cX6_visitNode 158 = .ok (.dup, 1) := by decide +kernel
theorem dX6_visitNode_159 : decode cX6_visitNode 159 = .ok (.getfield 45, 3) := by decide +kernel
theorem dX6_visitNode_162 : decode cX6_visitNode 162 = .ok (.iconst 1, 1) := by decide +kernel
theorem dX6_visitNode_163 : decode cX6_visitNode 163 = .ok (.iadd, 1) := by decide +kernel
theorem dX6_visitNode_164 : decode cX6_visitNode 164 = .ok (.putfield 45, 3) := by decide +kernel
theorem dX6_visitNode_167 : decode cX6_visitNode 167 = .ok (.return_, 1) := by decide +kernel
theorem dX6_goOn_0 : decode cX6_goOn 0 = .ok (.aload_n 0, 1) := by decide +kernel
theorem dX6_goOn_1 : decode cX6_goOn 1 = .ok (.getfield 45, 3) := by decide +kernel
theorem dX6_goOn_4 : decode cX6_goOn 4 = .ok (.iconst 1, 1) := by decide +kernel
theorem dX6_goOn_5 : decode cX6_goOn 5 = .ok (.isub, 1) := by decide +kernel
theorem dX6_goOn_6 : decode cX6_goOn 6 = .ok (.istore_n 2, 1) := by decide +kernel
theorem dX6_goOn_7 : decode cX6_goOn 7 = .ok (.iload_n 2, 1) := by decide +kernel
theorem dX6_goOn_8 : decode cX6_goOn 8 = .ok (.ifCond .lt 10, 3) := by decide +kernel
theorem dX6_goOn_11 : decode cX6_goOn 11 = .ok (.iload_n 2, 1) := by decide +kernel
theorem dX6_goOn_12 : decode cX6_goOn 12 = .ok (.sipush 1650, 3) := by decide +kernel
theorem dX6_goOn_15 : decode cX6_goOn 15 = .ok (.if_icmp .lt 5, 3) := by decide +kernel
theorem dX6_goOn_18 : decode cX6_goOn 18 = .ok (.iconst 0, 1) := by decide +kernel
theorem dX6_goOn_19 : decode cX6_goOn 19 = .ok (.ireturn, 1) := by decide +kernel
theorem dX6_goOn_20 : decode cX6_goOn 20 = .ok (.aload_n 0, 1) := by decide +kernel
theorem dX6_goOn_21 : decode cX6_goOn 21 = .ok (.getfield 36, 3) := by decide +kernel
theorem dX6_goOn_24 : decode cX6_goOn 24 = .ok (.iload_n 2, 1) := by decide +kernel
theorem dX6_goOn_25 : decode cX6_goOn 25 = .ok (.iaload, 1) := by decide +kernel
theorem dX6_goOn_26 : decode cX6_goOn 26 = .ok (.istore_n 3, 1) := by decide +kernel
theorem dX6_goOn_27 : decode cX6_goOn 27 = .ok (.aload_n 0, 1) := by decide +kernel
theorem dX6_goOn_28 : decode cX6_goOn 28 = .ok (.getfield 36, 3) := by decide +kernel
theorem dX6_goOn_31 : decode cX6_goOn 31 = .ok (.iload_n 2, 1) := by decide +kernel
theorem dX6_goOn_32 : decode cX6_goOn 32 = .ok (.dup2, 1) := by decide +kernel
theorem dX6_goOn_33 : decode cX6_goOn 33 = .ok (.iaload, 1) := by decide +kernel
theorem dX6_goOn_34 : decode cX6_goOn 34 = .ok (.iconst 1, 1) := by decide +kernel
theorem dX6_goOn_35 : decode cX6_goOn 35 = .ok (.iadd, 1) := by decide +kernel
theorem dX6_goOn_36 : decode cX6_goOn 36 = .ok (.iastore, 1) := by decide +kernel
theorem dX6_goOn_37 : decode cX6_goOn 37 = .ok (.iload_n 3, 1) := by decide +kernel
theorem dX6_goOn_38 : decode cX6_goOn 38 = .ok (.iconst 2, 1) := by decide +kernel
theorem dX6_goOn_39 : decode cX6_goOn 39 = .ok (.if_icmp .ge 25, 3) := by decide +kernel
theorem dX6_goOn_42 : decode cX6_goOn 42 = .ok (.aload_n 0, 1) := by decide +kernel
theorem dX6_goOn_43 : decode cX6_goOn 43 = .ok (.getfield 39, 3) := by decide +kernel
theorem dX6_goOn_46 : decode cX6_goOn 46 = .ok (.iload_n 2, 1) := by decide +kernel
theorem dX6_goOn_47 : decode cX6_goOn 47 = .ok (.aload_n 1, 1) := by decide +kernel
theorem dX6_goOn_48 : decode cX6_goOn 48 = .ok (.aload_n 0, 1) := by decide +kernel
theorem dX6_goOn_49 : decode cX6_goOn 49 = .ok (.getfield 32, 3) := by decide +kernel
theorem dX6_goOn_52 : decode cX6_goOn 52 = .ok (.iload_n 2, 1) := by decide +kernel
theorem dX6_goOn_53 : decode cX6_goOn 53 = .ok (.iaload, 1) := by decide +kernel
theorem dX6_goOn_54 : decode cX6_goOn 54 = .ok (.aload_n 0, 1) := by decide +kernel
theorem dX6_goOn_55 : decode cX6_goOn 55 = .ok (.getfield 39, 3) := by decide +kernel
theorem dX6_goOn_58 : decode cX6_goOn 58 = .ok (.iload_n 2, 1) := by decide +kernel
theorem dX6_goOn_59 : decode cX6_goOn 59 = .ok (.iaload, 1) := by decide +kernel
theorem dX6_goOn_60 : decode cX6_goOn 60 = .ok (.invokevirtual 86, 3) := by decide +kernel
theorem dX6_goOn_63 : decode cX6_goOn 63 = .ok (.iastore, 1) := by decide +kernel
theorem dX6_goOn_64 : decode cX6_goOn 64 = .ok (.iload_n 3, 1) := by decide +kernel
theorem dX6_goOn_65 : decode cX6_goOn 65 = .ok (.ifCond .le 25, 3) := by decide +kernel
theorem dX6_goOn_68 : decode cX6_goOn 68 = .ok (.aload_n 0, 1) := by decide +kernel
theorem dX6_goOn_69 : decode cX6_goOn 69 = .ok (.getfield 42, 3) := by decide +kernel
theorem dX6_goOn_72 : decode cX6_goOn 72 = .ok (.iload_n 2, 1) := by decide +kernel
theorem dX6_goOn_73 : decode cX6_goOn 73 = .ok (.aload_n 1, 1) := by decide +kernel
theorem dX6_goOn_74 : decode cX6_goOn 74 = .ok (.aload_n 0, 1) := by decide +kernel
theorem dX6_goOn_75 : decode cX6_goOn 75 = .ok (.getfield 32, 3) := by decide +kernel
theorem dX6_goOn_78 : decode cX6_goOn 78 = .ok (.iload_n 2, 1) := by decide +kernel
theorem dX6_goOn_79 : decode cX6_goOn 79 = .ok (.iaload, 1) := by decide +kernel
theorem dX6_goOn_80 : decode cX6_goOn 80 = .ok (.aload_n 0, 1) := by decide +kernel
theorem dX6_goOn_81 : decode cX6_goOn 81 = .ok (.getfield 42, 3) := by decide +kernel
theorem dX6_goOn_84 : decode cX6_goOn 84 = .ok (.iload_n 2, 1) := by decide +kernel
theorem dX6_goOn_85 : decode cX6_goOn 85 = .ok (.iaload, 1) := by decide +kernel
theorem dX6_goOn_86 : decode cX6_goOn 86 = .ok (.invokevirtual 92, 3) := by decide +kernel
theorem dX6_goOn_89 : decode cX6_goOn 89 = .ok (.iastore, 1) := by decide +kernel
theorem dX6_goOn_90 : decode cX6_goOn 90 = .ok (.iload_n 3, 1) := by decide +kernel
theorem dX6_goOn_91 : decode cX6_goOn 91 = .ok (.iconst 1, 1) := by decide +kernel
theorem dX6_goOn_92 : decode cX6_goOn 92 = .ok (.if_icmp .le 15, 3) := by decide +kernel
theorem dX6_goOn_95 : decode cX6_goOn 95 = .ok (.aload_n 0, 1) := by decide +kernel
theorem dX6_goOn_96 : decode cX6_goOn 96 = .ok (.dup, 1) := by decide +kernel
theorem dX6_goOn_97 : decode cX6_goOn 97 = .ok (.getfield 45, 3) := by decide +kernel
theorem dX6_goOn_100 : decode cX6_goOn 100 = .ok (.iconst 1, 1) := by decide +kernel
theorem dX6_goOn_101 : decode cX6_goOn 101 = .ok (.isub, 1) := by decide +kernel
theorem dX6_goOn_102 : decode cX6_goOn 102 = .ok (.putfield 45, 3) := by decide +kernel
theorem dX6_goOn_105 : decode cX6_goOn 105 = .ok (.iconst 0, 1) := by decide +kernel
theorem dX6_goOn_106 : decode cX6_goOn 106 = .ok (.ireturn, 1) := by decide +kernel
theorem dX6_goOn_107 : decode cX6_goOn 107 = .ok (.aload_n 0, 1) := by decide +kernel
theorem dX6_goOn_108 : decode cX6_goOn 108 = .ok (.getfield 28, 3) := by decide +kernel
theorem dX6_goOn_111 : decode cX6_goOn 111 = .ok (.aload_n 1, 1) := by decide +kernel
theorem dX6_goOn_112 : decode cX6_goOn 112 = .ok (.invokevirtual 95, 3) := by decide +kernel
theorem dX6_goOn_115 : decode cX6_goOn 115 = .ok (.aload_n 0, 1) := by decide +kernel
theorem dX6_goOn_116 : decode cX6_goOn 116 = .ok (.getfield 28, 3) := by decide +kernel
theorem dX6_goOn_119 : decode cX6_goOn 119 = .ok (.getfield 98, 3) := by decide +kernel
theorem dX6_goOn_122 : decode cX6_goOn 122 = .ok (.aload_n 0, 1) := by decide +kernel
theorem dX6_goOn_123 : decode cX6_goOn 123 = .ok (.getfield 49, 3) := by decide +kernel
theorem dX6_goOn_126 : decode cX6_goOn 126 = .ok (.if_icmp .ge 7, 3) := by decide +kernel
theorem dX6_goOn_129 : decode cX6_goOn 129 = .ok (.iconst 1, 1) := by decide +kernel
theorem dX6_goOn_130 : decode cX6_goOn 130 = .ok (.goto 4, 3) := by decide +kernel
theorem dX6_goOn_133 : decode cX6_goOn 133 = .ok (.iconst 0, 1) := by decide +kernel
theorem dX6_goOn_134 : decode cX6_goOn 134 = .ok (.ireturn, 1) := by decide +kernel
theorem dX7_init_0 : decode cX7_init 0 = .ok (.aload_n 0, 1) := by decide +kernel
theorem dX7_init_1 : decode cX7_init 1 = .ok (.invokespecial 3, 3) := by decide +kernel
theorem dX7_init_4 : decode cX7_init 4 = .ok (.aload_n 0, 1) := by decide +kernel
theorem dX7_init_5 : decode cX7_init 5 = .ok (.bipush 40, 2) := by decide +kernel
theorem dX7_init_7 : decode cX7_init 7 = .ok (.newarray .long, 2) := by decide +kernel
theorem dX7_init_9 : decode cX7_init 9 = .ok (.putfield 9, 3) := by decide +kernel
theorem dX7_init_12 : decode cX7_init 12 = .ok (.aload_n 0, 1) := by decide +kernel
theorem dX7_init_13 : decode cX7_init 13 = .ok (.iconst (-1), 1) := by decide +kernel
theorem dX7_init_14 : decode cX7_init 14 = .ok (.putfield 15, 3) := by decide +kernel
theorem dX7_init_17 : decode cX7_init 17 = .ok (.return_, 1) := by decide +kernel
theorem dX7_isMissing_0 : decode cX7_isMissing 0 = .ok (.aload_n 0, 1) := by decide +kernel
theorem dX7_isMissing_1 : decode cX7_isMissing 1 = .ok (.getfield 15, 3) := by decide +kernel
theorem dX7_isMissing_4 : decode cX7_isMissing 4 = .ok (.iconst (-1), 1) := by decide +kernel
theorem dX7_isMissing_5 : decode cX7_isMissing 5 = .ok (.if_icmp .ne 7, 3) := by decide +kernel
theorem dX7_isMissing_8 : decode cX7_isMissing 8 = .ok (.iconst 1, 1) := by decide +kernel
theorem dX7_isMissing_9 : decode cX7_isMissing 9 = .ok (.goto 4, 3) := by decide +kernel
theorem dX7_isMissing_12 : decode cX7_isMissing 12 = .ok (.iconst 0, 1) := by decide +kernel
theorem dX7_isMissing_13 : decode cX7_isMissing 13 = .ok (.ireturn, 1) := by decide +kernel
theorem dX7_become_0 : decode cX7_become 0 = .ok (.aload_n 0, 1) := by decide +kernel
theorem dX7_become_1 : decode cX7_become 1 = .ok (.iload_n 1, 1) := by decide +kernel
theorem dX7_become_2 : decode cX7_become 2 = .ok (.putfield 15, 3) := by decide +kernel
theorem dX7_become_5 : decode cX7_become 5 = .ok (.aload_n 0, 1) := by decide +kernel
theorem dX7_become_6 : decode cX7_become 6 = .ok (.iconst 0, 1) := by decide +kernel
theorem dX7_become_7 : decode cX7_become 7 = .ok (.iload_n 2, 1) := by decide +kernel
theorem dX7_become_8 : decode cX7_become 8 = .ok (.aload_n 0, 1) := by decide +kernel
theorem dX7_become_9 : decode cX7_become 9 = .ok (.getfield 9, 3) := by decide +kernel
theorem dX7_become_12 : decode cX7_become 12 = .ok (.arraylength, 1) := by decide +kernel
theorem dX7_become_13 : decode cX7_become 13 = .ok (.invokestatic 19, 3) := by decide +kernel
theorem dX7_become_16 : decode cX7_become 16 = .ok (.invokestatic 25, 3) := by decide +kernel
theorem dX7_become_19 : decode cX7_become 19 = .ok (.putfield 28, 3) := by decide +kernel
theorem dX7_become_22 : decode cX7_become 22 = .ok (.aload_n 0, 1) := by decide +kernel
theorem dX7_become_23 : decode cX7_become 23 = .ok (.getfield 9, 3) := by decide +kernel
theorem dX7_become_26 : decode cX7_become 26 = .ok (.lconst 0, 1) := by decide +kernel
theorem dX7_become_27 : decode cX7_become 27 = .ok (.invokestatic 31, 3) := by decide +kernel
theorem dX7_become_30 : decode cX7_become 30 = .ok (.return_, 1) := by decide +kernel
theorem dX7_holds_0 : decode cX7_holds 0 = .ok (.iload_n 1, 1) := by decide +kernel
theorem dX7_holds_1 : decode cX7_holds 1 = .ok (.ifCond .lt 24, 3) := by decide +kernel
theorem dX7_holds_4 : decode cX7_holds 4 = .ok (.iload_n 1, 1) := by decide +kernel
theorem dX7_holds_5 : decode cX7_holds 5 = .ok (.aload_n 0, 1) := by decide +kernel
theorem dX7_holds_6 : decode cX7_holds 6 = .ok (.getfield 28, 3) := by decide +kernel
theorem dX7_holds_9 : decode cX7_holds 9 = .ok (.if_icmp .ge 16, 3) := by decide +kernel
theorem dX7_holds_12 : decode cX7_holds 12 = .ok (.iload_n 1, 1) := by decide +kernel
theorem dX7_holds_13 : decode cX7_holds 13 = .ok (.aload_n 0, 1) := by decide +kernel
theorem dX7_holds_14 : decode cX7_holds 14 = .ok (.getfield 9, 3) := by decide +kernel
theorem dX7_holds_17 : decode cX7_holds 17 = .ok (.arraylength, 1) := by decide +kernel
theorem dX7_holds_18 : decode cX7_holds 18 = .ok (.if_icmp .ge 7, 3) := by decide +kernel
theorem dX7_holds_21 : decode cX7_holds 21 = .ok (.iconst 1, 1) := by decide +kernel
theorem dX7_holds_22 : decode cX7_holds 22 = .ok (.goto 4, 3) := by decide +kernel
theorem dX7_holds_25 : decode cX7_holds 25 = .ok (.iconst 0, 1) := by decide +kernel
theorem dX7_holds_26 : decode cX7_holds 26 = .ok (.ireturn, 1) := by decide +kernel
theorem dX7_read_0 : decode cX7_read 0 = .ok (.aload_n 0, 1) := by decide +kernel
theorem dX7_read_1 : decode cX7_read 1 = .ok (.iload_n 1, 1) := by decide +kernel
theorem dX7_read_2 : decode cX7_read 2 = .ok (.invokevirtual 37, 3) := by decide +kernel
theorem dX7_read_5 : decode cX7_read 5 = .ok (.ifCond .eq 12, 3) := by decide +kernel
theorem dX7_read_8 : decode cX7_read 8 = .ok (.aload_n 0, 1) := by decide +kernel
theorem dX7_read_9 : decode cX7_read 9 = .ok (.getfield 9, 3) := by decide +kernel
theorem dX7_read_12 : decode cX7_read 12 = .ok (.iload_n 1, 1) := by decide +kernel
theorem dX7_read_13 : decode cX7_read 13 = .ok (.laload, 1) := by decide +kernel
theorem dX7_read_14 : decode cX7_read 14 = .ok (.goto 6, 3) := by decide +kernel
theorem dX7_read_17 : decode cX7_read 17 = .ok (.ldc2_w 41, 3) := by decide +kernel
theorem dX7_read_20 : decode cX7_read 20 = .ok (.lreturn, 1) := by decide +kernel
theorem dX7_write_0 : decode cX7_write 0 = .ok (.aload_n 0, 1) := by decide +kernel
theorem dX7_write_1 : decode cX7_write 1 = .ok (.iload_n 1, 1) := by decide +kernel
theorem dX7_write_2 : decode cX7_write 2 = .ok (.invokevirtual 37, 3) := by decide +kernel
theorem dX7_write_5 : decode cX7_write 5 = .ok (.ifCond .eq 24, 3) := by decide +kernel
theorem dX7_write_8 : decode cX7_write 8 = .ok (.aload_n 0, 1) := by decide +kernel
theorem dX7_write_9 : decode cX7_write 9 = .ok (.getfield 9, 3) := by decide +kernel
theorem dX7_write_12 : decode cX7_write 12 = .ok (.iload_n 1, 1) := by decide +kernel
theorem dX7_write_13 : decode cX7_write 13 = .ok (.aload_n 0, 1) := by decide +kernel
theorem dX7_write_14 : decode cX7_write 14 = .ok (.getfield 15, 3) := by decide +kernel
theorem dX7_write_17 : decode cX7_write 17 = .ok (.iconst 1, 1) := by decide +kernel
theorem dX7_write_18 : decode cX7_write 18 = .ok (.if_icmp .ne 9, 3) := by decide +kernel
theorem dX7_write_21 : decode cX7_write 21 = .ok (.lload_n 2, 1) := by decide +kernel
theorem dX7_write_22 : decode cX7_write 22 = .ok (.l2i, 1) := by decide +kernel
theorem dX7_write_23 : decode cX7_write 23 = .ok (.i2l, 1) := by decide +kernel
theorem dX7_write_24 : decode cX7_write 24 = .ok (.goto 4, 3) := by decide +kernel
theorem dX7_write_27 : decode cX7_write 27 = .ok (.lload_n 2, 1) := by decide +kernel
theorem dX7_write_28 : decode cX7_write 28 = .ok (.lastore, 1) := by decide +kernel
theorem dX7_write_29 : decode cX7_write 29 = .ok (.return_, 1) := by decide +kernel
theorem dX8_init_0 : decode cX8_init 0 = .ok (.aload_n 0, 1) := by decide +kernel
theorem dX8_init_1 : decode cX8_init 1 = .ok (.invokespecial 3, 3) := by decide +kernel
theorem dX8_init_4 : decode cX8_init 4 = .ok (.aload_n 0, 1) := by decide +kernel
theorem dX8_init_5 : decode cX8_init 5 = .ok (.bipush 60, 2) := by decide +kernel
theorem dX8_init_7 : decode cX8_init 7 = .ok (.newarray .int, 2) := by decide +kernel
theorem dX8_init_9 : decode cX8_init 9 = .ok (.putfield 9, 3) := by decide +kernel
theorem dX8_init_12 : decode cX8_init 12 = .ok (.return_, 1) := by decide +kernel
theorem dX8_hasRoom_0 : decode cX8_hasRoom 0 = .ok (.aload_n 0, 1) := by decide +kernel
theorem dX8_hasRoom_1 : decode cX8_hasRoom 1 = .ok (.getfield 15, 3) := by decide +kernel
theorem dX8_hasRoom_4 : decode cX8_hasRoom 4 = .ok (.iload_n 1, 1) := by decide +kernel
theorem dX8_hasRoom_5 : decode cX8_hasRoom 5 = .ok (.iadd, 1) := by decide +kernel
theorem dX8_hasRoom_6 : decode cX8_hasRoom 6 = .ok (.bipush 60, 2) := by decide +kernel
theorem dX8_hasRoom_8 : decode cX8_hasRoom 8 = .ok (.if_icmp .gt 7, 3) := by decide +kernel
theorem dX8_hasRoom_11 : decode cX8_hasRoom 11 = .ok (.iconst 1, 1) := by decide +kernel
theorem dX8_hasRoom_12 : decode cX8_hasRoom 12 = .ok (.goto 4, 3) := by decide +kernel
theorem dX8_hasRoom_15 : decode cX8_hasRoom 15 = .ok (.iconst 0, 1) := by decide +kernel
theorem dX8_hasRoom_16 : decode cX8_hasRoom 16 = .ok (.ireturn, 1) := by decide +kernel
theorem dX8_add_0 : decode cX8_add 0 = .ok (.aload_n 0, 1) := by decide +kernel
theorem dX8_add_1 : decode cX8_add 1 = .ok (.getfield 15, 3) := by decide +kernel
theorem dX8_add_4 : decode cX8_add 4 = .ok (.ifCond .lt 35, 3) := by decide +kernel
theorem dX8_add_7 : decode cX8_add 7 = .ok (.aload_n 0, 1) := by decide +kernel
theorem dX8_add_8 : decode cX8_add 8 = .ok (.getfield 15, 3) := by decide +kernel
theorem dX8_add_11 : decode cX8_add 11 = .ok (.aload_n 0, 1) := by decide +kernel
theorem dX8_add_12 : decode cX8_add 12 = .ok (.getfield 9, 3) := by decide +kernel
theorem dX8_add_15 : decode cX8_add 15 = .ok (.arraylength, 1) := by decide +kernel
theorem dX8_add_16 : decode cX8_add 16 = .ok (.if_icmp .ge 23, 3) := by decide +kernel
theorem dX8_add_19 : decode cX8_add 19 = .ok (.aload_n 0, 1) := by decide +kernel
theorem dX8_add_20 : decode cX8_add 20 = .ok (.getfield 9, 3) := by decide +kernel
theorem dX8_add_23 : decode cX8_add 23 = .ok (.aload_n 0, 1) := by decide +kernel
theorem dX8_add_24 : decode cX8_add 24 = .ok (.getfield 15, 3) := by decide +kernel
theorem dX8_add_27 : decode cX8_add 27 = .ok (.iload_n 1, 1) := by decide +kernel
theorem dX8_add_28 : decode cX8_add 28 = .ok (.iastore, 1) := by decide +kernel
theorem dX8_add_29 : decode cX8_add 29 = .ok (.aload_n 0, 1) := by decide +kernel
theorem dX8_add_30 : decode cX8_add 30 = .ok (.dup, 1) := by decide +kernel
theorem dX8_add_31 : decode cX8_add 31 = .ok (.getfield 15, 3) := by decide +kernel
theorem dX8_add_34 : decode cX8_add 34 = .ok (.iconst 1, 1) := by decide +kernel
theorem dX8_add_35 : decode cX8_add 35 = .ok (.iadd, 1) := by decide +kernel
theorem dX8_add_36 : decode cX8_add 36 = .ok (.putfield 15, 3) := by decide +kernel
theorem dX8_add_39 : decode cX8_add 39 = .ok (.return_, 1) := by decide +kernel
theorem dX8_clear_0 : decode cX8_clear 0 = .ok (.aload_n 0, 1) := by decide +kernel
theorem dX8_clear_1 : decode cX8_clear 1 = .ok (.iconst 0, 1) := by decide +kernel
theorem dX8_clear_2 : decode cX8_clear 2 = .ok (.putfield 15, 3) := by decide +kernel
theorem dX8_clear_5 : decode cX8_clear 5 = .ok (.return_, 1) := by decide +kernel
theorem dX8_readItems_0 : decode cX8_readItems 0 = .ok (.aload_n 1, 1) := by decide +kernel
theorem dX8_readItems_1 : decode cX8_readItems 1 = .ok (.invokevirtual 19, 3) := by decide +kernel
theorem dX8_readItems_4 : decode cX8_readItems 4 = .ok (.aload_n 0, 1) := by decide +kernel
theorem dX8_readItems_5 : decode cX8_readItems 5 = .ok (.iconst 0, 1) := by decide +kernel
theorem dX8_readItems_6 : decode cX8_readItems 6 = .ok (.putfield 24, 3) := by decide +kernel
theorem dX8_readItems_9 : decode cX8_readItems 9 = .ok (.iconst 0, 1) := by decide +kernel
theorem dX8_readItems_10 : decode cX8_readItems 10 = .ok (.istore_n 2, 1) := by decide +kernel
theorem dX8_readItems_11 : decode cX8_readItems 11 = .ok (.iload_n 2, 1) := by decide +kernel
theorem dX8_readItems_12 : decode cX8_readItems 12 = .ok (.bipush 60, 2) := by decide +kernel
theorem dX8_readItems_14 : decode cX8_readItems 14 = .ok (.if_icmp .gt 49, 3) := by decide +kernel
theorem dX8_readItems_17 : decode cX8_readItems 17 = .ok (.aload_n 0, 1) := by decide +kernel
theorem dX8_readItems_18 : decode cX8_readItems 18 = .ok (.aload_n 1, 1) := by decide +kernel
theorem dX8_readItems_19 : decode cX8_readItems 19 = .ok (.invokevirtual 27, 3) := by decide +kernel
theorem dX8_readItems_22 : decode cX8_readItems 22 = .ok (.ifCond .ne 8, 3) := by decide +kernel
theorem dX8_readItems_25 : decode cX8_readItems 25 = .ok (.aload_n 0, 1) := by decide +kernel
theorem dX8_readItems_26 : decode cX8_readItems 26 = .ok (.getfield 24, 3) := by decide +kernel
theorem dX8_readItems_29 : decode cX8_readItems 29 = .ok (.ireturn, 1) := by decide +kernel
theorem dX8_readItems_30 : decode cX8_readItems 30 = .ok (.aload_n 0, 1) := by decide +kernel
theorem dX8_readItems_31 : decode cX8_readItems 31 = .ok (.getfield 24, 3) := by decide +kernel
theorem dX8_readItems_34 : decode cX8_readItems 34 = .ok (.aload_n 0, 1) := by decide +kernel
theorem dX8_readItems_35 : decode cX8_readItems 35 = .ok (.getfield 15, 3) := by decide +kernel
theorem dX8_readItems_38 : decode cX8_readItems 38 = .ok (.if_icmp .ne 5, 3) := by decide +kernel
theorem dX8_readItems_41 : decode cX8_readItems 41 = .ok (.iconst (-1), 1) := by decide +kernel
theorem dX8_readItems_42 : decode cX8_readItems 42 = .ok (.ireturn, 1) := by decide +kernel
theorem dX8_readItems_43 : decode cX8_readItems 43 = .ok (.aload_n 0, 1) := by decide +kernel
theorem dX8_readItems_44 : decode cX8_readItems 44 = .ok (.bipush 59, 2) := by decide +kernel
theorem dX8_readItems_46 : decode cX8_readItems 46 = .ok (.invokevirtual 31, 3) := by decide +kernel
theorem dX8_readItems_49 : decode cX8_readItems 49 = .ok (.ifCond .ne 8, 3) := by decide +kernel
theorem dX8_readItems_52 : decode cX8_readItems 52 = .ok (.aload_n 0, 1) := by decide +kernel
theorem dX8_readItems_53 : decode cX8_readItems 53 = .ok (.getfield 24, 3) := by decide +kernel
theorem dX8_readItems_56 : decode cX8_readItems 56 = .ok (.ireturn, 1) := by decide +kernel
theorem dX8_readItems_57 : decode cX8_readItems 57 = .ok (.iinc 2 1, 3) := by decide +kernel
theorem dX8_readItems_60 : decode cX8_readItems 60 = .ok (.goto (-49), 3) := by decide +kernel
theorem dX8_readItems_63 : decode cX8_readItems 63 = .ok (.aload_n 0, 1) := by decide +kernel
theorem dX8_readItems_64 : decode cX8_readItems 64 = .ok (.getfield 24, 3) := by decide +kernel
theorem dX8_readItems_67 : decode cX8_readItems 67 = .ok (.ireturn, 1) := by decide +kernel
theorem dX8_readItem_0 : decode cX8_readItem 0 = .ok (.aload_n 0, 1) := by decide +kernel
theorem dX8_readItem_1 : decode cX8_readItem 1 = .ok (.invokevirtual 35, 3) := by decide +kernel
theorem dX8_readItem_4 : decode cX8_readItem 4 = .ok (.invokestatic 39, 3) := by decide +kernel
theorem dX8_readItem_7 : decode cX8_readItem 7 = .ok (.istore_n 2, 1) := by decide +kernel
theorem dX8_readItem_8 : decode cX8_readItem 8 = .ok (.iload_n 2, 1) := by decide +kernel
theorem dX8_readItem_9 : decode cX8_readItem 9 = .ok (.iconst (-1), 1) := by decide +kernel
theorem dX8_readItem_10 : decode cX8_readItem 10 = .ok (.if_icmp .ne 5, 3) := by decide +kernel
theorem dX8_readItem_13 : decode cX8_readItem 13 = .ok (.iconst 0, 1) := by decide +kernel
theorem dX8_readItem_14 : decode cX8_readItem 14 = .ok (.ireturn, 1) := by decide +kernel
theorem dX8_readItem_15 : decode cX8_readItem 15 = .ok (.aload_n 0, 1) := by decide +kernel
theorem dX8_readItem_16 : decode cX8_readItem 16 = .ok (.dup, 1) := by decide +kernel
theorem dX8_readItem_17 : decode cX8_readItem 17 = .ok (.getfield 24, 3) := by decide +kernel
theorem dX8_readItem_20 : decode cX8_readItem 20 = .ok (.iconst 1, 1) := by decide +kernel
theorem dX8_readItem_21 : decode cX8_readItem 21 = .ok (.iadd, 1) := by decide +kernel
theorem dX8_readItem_22 : decode cX8_readItem 22 = .ok (.putfield 24, 3) := by decide +kernel
theorem dX8_readItem_25 : decode cX8_readItem 25 = .ok (.aload_n 0, 1) := by decide +kernel
theorem dX8_readItem_26 : decode cX8_readItem 26 = .ok (.iconst 1, 1) := by decide +kernel
theorem dX8_readItem_27 : decode cX8_readItem 27 = .ok (.invokevirtual 43, 3) := by decide +kernel
theorem dX8_readItem_30 : decode cX8_readItem 30 = .ok (.istore_n 3, 1) := by decide +kernel
theorem dX8_readItem_31 : decode cX8_readItem 31 = .ok (.iload_n 3, 1) := by decide +kernel
theorem dX8_readItem_32 : decode cX8_readItem 32 = .ok (.iconst (-1), 1) := by decide +kernel
theorem dX8_readItem_33 : decode cX8_readItem 33 = .ok (.if_icmp .eq 12, 3) := by decide +kernel
theorem dX8_readItem_36 : decode cX8_readItem 36 = .ok (.aload_n 0, 1) := by decide +kernel
theorem dX8_readItem_37 : decode cX8_readItem 37 = .ok (.bipush 44, 2) := by decide +kernel
theorem dX8_readItem_39 : decode cX8_readItem 39 = .ok (.invokevirtual 31, 3) := by decide +kernel
theorem dX8_readItem_42 : decode cX8_readItem 42 = .ok (.ifCond .ne 5, 3) := by decide +kernel
theorem dX8_readItem_45 : decode cX8_readItem 45 = .ok (.iconst 0, 1) := by decide +kernel
theorem dX8_readItem_46 : decode cX8_readItem 46 = .ok (.ireturn, 1) := by decide +kernel
theorem dX8_readItem_47 : decode cX8_readItem 47 = .ok (.aload_n 0, 1) := by decide +kernel
theorem dX8_readItem_48 : decode cX8_readItem 48 = .ok (.iconst 2, 1) := by decide +kernel
theorem dX8_readItem_49 : decode cX8_readItem 49 = .ok (.invokevirtual 43, 3) := by decide +kernel
theorem dX8_readItem_52 : decode cX8_readItem 52 = .ok (.istore 4, 2) := by decide +kernel
theorem dX8_readItem_54 : decode cX8_readItem 54 = .ok (.iload 4, 2) := by decide +kernel
theorem dX8_readItem_56 : decode cX8_readItem 56 = .ok (.iconst (-1), 1) := by decide +kernel
theorem dX8_readItem_57 : decode cX8_readItem 57 = .ok (.if_icmp .eq 12, 3) := by decide +kernel
theorem dX8_readItem_60 : decode cX8_readItem 60 = .ok (.aload_n 0, 1) := by decide +kernel
theorem dX8_readItem_61 : decode cX8_readItem 61 = .ok (.bipush 44, 2) := by decide +kernel
theorem dX8_readItem_63 : decode cX8_readItem 63 = .ok (.invokevirtual 31, 3) := by decide +kernel
theorem dX8_readItem_66 : decode cX8_readItem 66 = .ok (.ifCond .ne 5, 3) := by decide +kernel
theorem dX8_readItem_69 : decode cX8_readItem 69 = .ok (.iconst 0, 1) := by decide +kernel
theorem dX8_readItem_70 : decode cX8_readItem 70 = .ok (.ireturn, 1) := by decide +kernel
theorem dX8_readItem_71 : decode cX8_readItem 71 = .ok (.aload_n 0, 1) := by decide +kernel
theorem dX8_readItem_72 : decode cX8_readItem 72 = .ok (.iconst 3, 1) := by decide +kernel
theorem dX8_readItem_73 : decode cX8_readItem 73 = .ok (.invokevirtual 43, 3) := by decide +kernel
theorem dX8_readItem_76 : decode cX8_readItem 76 = .ok (.istore 5, 2) := by decide +kernel
theorem dX8_readItem_78 : decode cX8_readItem 78 = .ok (.iload 5, 2) := by decide +kernel
theorem dX8_readItem_80 : decode cX8_readItem 80 = .ok (.iconst (-1), 1) := by decide +kernel
theorem dX8_readItem_81 : decode cX8_readItem 81 = .ok (.if_icmp .ne 5, 3) := by decide +kernel
theorem dX8_readItem_84 : decode cX8_readItem 84 = .ok (.iconst 0, 1) := by decide +kernel
theorem dX8_readItem_85 : decode cX8_readItem 85 = .ok (.ireturn, 1) := by decide +kernel
theorem dX8_readItem_86 : decode cX8_readItem 86 = .ok (.aload_n 1, 1) := by decide +kernel
theorem dX8_readItem_87 : decode cX8_readItem 87 = .ok (.iload_n 2, 1) := by decide +kernel
theorem dX8_readItem_88 : decode cX8_readItem 88 = .ok (.iload_n 3, 1) := by decide +kernel
theorem dX8_readItem_89 : decode cX8_readItem 89 = .ok (.iload 4, 2) := by decide +kernel
theorem dX8_readItem_91 : decode cX8_readItem 91 = .ok (.iload 5, 2) := by decide +kernel
theorem dX8_readItem_93 : decode cX8_readItem 93 = .ok (.invokevirtual 46, 3) := by decide +kernel
theorem dX8_readItem_96 : decode cX8_readItem 96 = .ok (.iconst 1, 1) := by decide +kernel
theorem dX8_readItem_97 : decode cX8_readItem 97 = .ok (.ireturn, 1) := by decide +kernel
theorem dX8_readSign_0 : decode cX8_readSign 0 = .ok (.aload_n 0, 1) := by decide +kernel
theorem dX8_readSign_1 : decode cX8_readSign 1 = .ok (.invokevirtual 35, 3) := by decide +kernel
theorem dX8_readSign_4 : decode cX8_readSign 4 = .ok (.iload_n 1, 1) := by decide +kernel
theorem dX8_readSign_5 : decode cX8_readSign 5 = .ok (.if_icmp .eq 5, 3) := by decide +kernel
theorem dX8_readSign_8 : decode cX8_readSign 8 = .ok (.iconst 0, 1) := by decide +kernel
theorem dX8_readSign_9 : decode cX8_readSign 9 = .ok (.ireturn, 1) := by decide +kernel
theorem dX8_readSign_10 : decode cX8_readSign 10 = .ok (.aload_n 0, 1) := by decide +kernel
theorem dX8_readSign_11 : decode cX8_readSign 11 = .ok (.dup, 1) := by decide +kernel
theorem dX8_readSign_12 : decode cX8_readSign 12 = .ok (.getfield 24, 3) := by decide +kernel
theorem dX8_readSign_15 : decode cX8_readSign 15 = .ok (.iconst 1, 1) := by decide +kernel
theorem dX8_readSign_16 : decode cX8_readSign 16 = .ok (.iadd, 1) := by decide +kernel
theorem dX8_readSign_17 : decode cX8_readSign 17 = .ok (.putfield 24, 3) := by decide +kernel
theorem dX8_readSign_20 : decode cX8_readSign 20 = .ok (.iconst 1, 1) := by decide +kernel
theorem dX8_readSign_21 : decode cX8_readSign 21 = .ok (.ireturn, 1) := by decide +kernel
theorem dX8_readNumber_0 : decode cX8_readNumber 0 = .ok (.aload_n 0, 1) := by decide +kernel
theorem dX8_readNumber_1 : decode cX8_readNumber 1 = .ok (.getfield 24, 3) := by decide +kernel
theorem dX8_readNumber_4 : decode cX8_readNumber 4 = .ok (.istore_n 2, 1) := by decide +kernel
theorem dX8_readNumber_5 : decode cX8_readNumber 5 = .ok (.aload_n 0, 1) := by decide +kernel
theorem dX8_readNumber_6 : decode cX8_readNumber 6 = .ok (.invokevirtual 50, 3) := by decide +kernel
theorem dX8_readNumber_9 : decode cX8_readNumber 9 = .ok (.istore_n 3, 1) := by decide +kernel
theorem dX8_readNumber_10 : decode cX8_readNumber 10 = .ok (.iload_n 3, 1) := by decide +kernel
theorem dX8_readNumber_11 : decode cX8_readNumber 11 = .ok (.iconst (-1), 1) := by decide +kernel
theorem dX8_readNumber_12 : decode cX8_readNumber 12 = .ok (.if_icmp .ne 5, 3) := by decide +kernel
theorem dX8_readNumber_15 : decode cX8_readNumber 15 = .ok (.iconst (-1), 1) := by decide +kernel
theorem dX8_readNumber_16 : decode cX8_readNumber 16 = .ok (.ireturn, 1) := by decide +kernel
theorem dX8_readNumber_17 : decode cX8_readNumber 17 = .ok (.aload_n 0, 1) := by decide +kernel
theorem dX8_readNumber_18 : decode cX8_readNumber 18 = .ok (.dup, 1) := by decide +kernel
theorem dX8_readNumber_19 : decode cX8_readNumber 19 = .ok (.getfield 24, 3) := by decide +kernel
theorem dX8_readNumber_22 : decode cX8_readNumber 22 = .ok (.iconst 1, 1) := by decide +kernel
theorem dX8_readNumber_23 : decode cX8_readNumber 23 = .ok (.iadd, 1) := by decide +kernel
theorem dX8_readNumber_24 : decode cX8_readNumber 24 = .ok (.putfield 24, 3) := by decide +kernel
theorem dX8_readNumber_27 : decode cX8_readNumber 27 = .ok (.aload_n 0, 1) := by decide +kernel
theorem dX8_readNumber_28 : decode cX8_readNumber 28 = .ok (.invokevirtual 50, 3) := by decide +kernel
theorem dX8_readNumber_31 : decode cX8_readNumber 31 = .ok (.istore 4, 2) := by decide +kernel
theorem dX8_readNumber_33 : decode cX8_readNumber 33 = .ok (.iload 4, 2) := by decide +kernel
theorem dX8_readNumber_35 : decode cX8_readNumber 35 = .ok (.iconst (-1), 1) := by decide +kernel
theorem dX8_readNumber_36 : decode cX8_readNumber 36 = .ok (.if_icmp .eq 21, 3) := by decide +kernel
theorem dX8_readNumber_39 : decode cX8_readNumber 39 = .ok (.iload_n 3, 1) := by decide +kernel
theorem dX8_readNumber_40 : decode cX8_readNumber 40 = .ok (.bipush 10, 2) := by decide +kernel
theorem dX8_readNumber_42 : decode cX8_readNumber 42 = .ok (.imul, 1) := by decide +kernel
theorem dX8_readNumber_43 : decode cX8_readNumber 43 = .ok (.iload 4, 2) := by decide +kernel
theorem dX8_readNumber_45 : decode cX8_readNumber 45 = .ok (.iadd, 1) := by decide +kernel
theorem dX8_readNumber_46 : decode cX8_readNumber 46 = .ok (.istore_n 3, 1) := by decide +kernel
theorem dX8_readNumber_47 : decode cX8_readNumber 47 = .ok (.aload_n 0, 1) := by decide +kernel
theorem dX8_readNumber_48 : decode cX8_readNumber 48 = .ok (.dup, 1) := by decide +kernel
theorem dX8_readNumber_49 : decode cX8_readNumber 49 = .ok (.getfield 24, 3) := by decide +kernel
theorem dX8_readNumber_52 : decode cX8_readNumber 52 = .ok (.iconst 1, 1) := by decide +kernel
theorem dX8_readNumber_53 : decode cX8_readNumber 53 = .ok (.iadd, 1) := by decide +kernel
theorem dX8_readNumber_54 : decode cX8_readNumber 54 = .ok (.putfield 24, 3) := by decide +kernel
theorem dX8_readNumber_57 : decode cX8_readNumber 57 = .ok (.iload_n 1, 1) := by decide +kernel
theorem dX8_readNumber_58 : decode cX8_readNumber 58 = .ok (.iload_n 3, 1) := by decide +kernel
theorem dX8_readNumber_59 : decode cX8_readNumber 59 = .ok (.invokestatic 53, 3) := by decide +kernel
theorem dX8_readNumber_62 : decode cX8_readNumber 62 = .ok (.ifCond .ne 10, 3) := by decide +kernel
theorem dX8_readNumber_65 : decode cX8_readNumber 65 = .ok (.aload_n 0, 1) := by decide +kernel
theorem dX8_readNumber_66 : decode cX8_readNumber 66 = .ok (.iload_n 2, 1) := by decide +kernel
theorem dX8_readNumber_67 : decode cX8_readNumber 67 = .ok (.putfield 24, 3) := by decide +kernel
theorem dX8_readNumber_70 : decode cX8_readNumber 70 = .ok (.iconst (-1), 1) := by decide +kernel
theorem dX8_readNumber_71 : decode cX8_readNumber 71 = .ok (.ireturn, 1) := by decide +kernel
theorem dX8_readNumber_72 : decode cX8_readNumber 72 = .ok (.iload_n 3, 1) := by decide +kernel
theorem dX8_readNumber_73 : decode cX8_readNumber 73 = .ok (.ireturn, 1) := by decide +kernel
theorem dX8_digitHere_0 : decode cX8_digitHere 0 = .ok (.aload_n 0, 1) := by decide +kernel
theorem dX8_digitHere_1 : decode cX8_digitHere 1 = .ok (.invokevirtual 35, 3) := by decide +kernel
theorem dX8_digitHere_4 : decode cX8_digitHere 4 = .ok (.istore_n 1, 1) := by decide +kernel
theorem dX8_digitHere_5 : decode cX8_digitHere 5 = .ok (.iload_n 1, 1) := by decide +kernel
theorem dX8_digitHere_6 : decode cX8_digitHere 6 = .ok (.bipush 48, 2) := by decide +kernel
theorem dX8_digitHere_8 : decode cX8_digitHere 8 = .ok (.if_icmp .lt 16, 3) := by decide +kernel
theorem dX8_digitHere_11 : decode cX8_digitHere 11 = .ok (.iload_n 1, 1) := by decide +kernel
theorem dX8_digitHere_12 : decode cX8_digitHere 12 = .ok (.bipush 57, 2) := by decide +kernel
theorem dX8_digitHere_14 : decode cX8_digitHere 14 = .ok (.if_icmp .gt 10, 3) := by decide +kernel
theorem dX8_digitHere_17 : decode cX8_digitHere 17 = .ok (.iload_n 1, 1) := by decide +kernel
theorem dX8_digitHere_18 : decode cX8_digitHere 18 = .ok (.bipush 48, 2) := by decide +kernel
theorem dX8_digitHere_20 : decode cX8_digitHere 20 = .ok (.isub, 1) := by decide +kernel
theorem dX8_digitHere_21 : decode cX8_digitHere 21 = .ok (.goto 4, 3) := by decide +kernel
theorem dX8_digitHere_24 : decode cX8_digitHere 24 = .ok (.iconst (-1), 1) := by decide +kernel
theorem dX8_digitHere_25 : decode cX8_digitHere 25 = .ok (.ireturn, 1) := by decide +kernel
theorem dX8_byteHere_0 : decode cX8_byteHere 0 = .ok (.aload_n 0, 1) := by decide +kernel
theorem dX8_byteHere_1 : decode cX8_byteHere 1 = .ok (.getfield 24, 3) := by decide +kernel
theorem dX8_byteHere_4 : decode cX8_byteHere 4 = .ok (.ifCond .lt 38, 3) := by decide +kernel
theorem dX8_byteHere_7 : decode cX8_byteHere 7 = .ok (.aload_n 0, 1) := by decide +kernel
theorem dX8_byteHere_8 : decode cX8_byteHere 8 = .ok (.getfield 24, 3) := by decide +kernel
theorem dX8_byteHere_11 : decode cX8_byteHere 11 = .ok (.aload_n 0, 1) := by decide +kernel
theorem dX8_byteHere_12 : decode cX8_byteHere 12 = .ok (.getfield 15, 3) := by decide +kernel
theorem dX8_byteHere_15 : decode cX8_byteHere 15 = .ok (.if_icmp .ge 27, 3) := by decide +kernel
theorem dX8_byteHere_18 : decode cX8_byteHere 18 = .ok (.aload_n 0, 1) := by decide +kernel
theorem dX8_byteHere_19 : decode cX8_byteHere 19 = .ok (.getfield 24, 3) := by decide +kernel
theorem dX8_byteHere_22 : decode cX8_byteHere 22 = .ok (.aload_n 0, 1) := by decide +kernel
theorem dX8_byteHere_23 : decode cX8_byteHere 23 = .ok (.getfield 9, 3) := by decide +kernel
theorem dX8_byteHere_26 : decode cX8_byteHere 26 = .ok (.arraylength, 1) := by decide +kernel
theorem dX8_byteHere_27 : decode cX8_byteHere 27 = .ok (.if_icmp .ge 15, 3) := by decide +kernel
theorem dX8_byteHere_30 : decode cX8_byteHere 30 = .ok (.aload_n 0, 1) := by decide +kernel
theorem dX8_byteHere_31 : decode cX8_byteHere 31 = .ok (.getfield 9, 3) := by decide +kernel
theorem dX8_byteHere_34 : decode cX8_byteHere 34 = .ok (.aload_n 0, 1) := by decide +kernel
theorem dX8_byteHere_35 : decode cX8_byteHere 35 = .ok (.getfield 24, 3) := by decide +kernel
theorem dX8_byteHere_38 : decode cX8_byteHere 38 = .ok (.iaload, 1) := by decide +kernel
theorem dX8_byteHere_39 : decode cX8_byteHere 39 = .ok (.goto 4, 3) := by decide +kernel
theorem dX8_byteHere_42 : decode cX8_byteHere 42 = .ok (.iconst (-1), 1) := by decide +kernel
theorem dX8_byteHere_43 : decode cX8_byteHere 43 = .ok (.ireturn, 1) := by decide +kernel
theorem dX8_kindOf_0 : decode cX8_kindOf 0 = .ok (.iload_n 0, 1) := by decide +kernel
theorem dX8_kindOf_1 : decode cX8_kindOf 1 = .ok (.tableswitch 91 100 115 #[85, 91, 91, 91, 83, 91, 91, 91, 91, 87, 91, 91, 79, 91, 81, 89], 79) := by decide +kernel
theorem dX8_kindOf_80 : decode cX8_kindOf 80 = .ok (.iconst 0, 1) := by decide +kernel
theorem dX8_kindOf_81 : decode cX8_kindOf 81 = .ok (.ireturn, 1) := by decide +kernel
theorem dX8_kindOf_82 : decode cX8_kindOf 82 = .ok (.iconst 1, 1) := by decide +kernel
theorem dX8_kindOf_83 : decode cX8_kindOf 83 = .ok (.ireturn, 1) := by decide +kernel
theorem dX8_kindOf_84 : decode cX8_kindOf 84 = .ok (.iconst 2, 1) := by decide +kernel
theorem dX8_kindOf_85 : decode cX8_kindOf 85 = .ok (.ireturn, 1) := by decide +kernel
theorem dX8_kindOf_86 : decode cX8_kindOf 86 = .ok (.iconst 3, 1) := by decide +kernel
theorem dX8_kindOf_87 : decode cX8_kindOf 87 = .ok (.ireturn, 1) := by decide +kernel
theorem dX8_kindOf_88 : decode cX8_kindOf 88 = .ok (.iconst 4, 1) := by decide +kernel
theorem dX8_kindOf_89 : decode cX8_kindOf 89 = .ok (.ireturn, 1) := by decide +kernel
theorem dX8_kindOf_90 : decode cX8_kindOf 90 = .ok (.iconst 5, 1) := by decide +kernel
theorem dX8_kindOf_91 : decode cX8_kindOf 91 = .ok (.ireturn, 1) := by decide +kernel
theorem dX8_kindOf_92 : decode cX8_kindOf 92 = .ok (.iconst (-1), 1) := by decide +kernel
theorem dX8_kindOf_93 : decode cX8_kindOf 93 = .ok (.ireturn, 1) := by decide +kernel
theorem dX9_init_0 : decode cX9_init 0 = .ok (.aload_n 0, 1) := by decide +kernel
theorem dX9_init_1 : decode cX9_init 1 = .ok (.invokespecial 3, 3) := by decide +kernel
theorem dX9_init_4 : decode cX9_init 4 = .ok (.aload_n 0, 1) := by decide +kernel
theorem dX9_init_5 : decode cX9_init 5 = .ok (.bipush 8, 2) := by decide +kernel
theorem dX9_init_7 : decode cX9_init 7 = .ok (.newarray .int, 2) := by decide +kernel
theorem dX9_init_9 : decode cX9_init 9 = .ok (.putfield 9, 3) := by decide +kernel
theorem dX9_init_12 : decode cX9_init 12 = .ok (.aload_n 0, 1) := by decide +kernel
theorem dX9_init_13 : decode cX9_init 13 = .ok (.iconst (-1), 1) := by decide +kernel
theorem dX9_init_14 : decode cX9_init 14 = .ok (.putfield 15, 3) := by decide +kernel
theorem dX9_init_17 : decode cX9_init 17 = .ok (.return_, 1) := by decide +kernel
theorem dX9_beginAnew_0 : decode cX9_beginAnew 0 = .ok (.aload_n 0, 1) := by decide +kernel
theorem dX9_beginAnew_1 : decode cX9_beginAnew 1 = .ok (.iconst 0, 1) := by decide +kernel
theorem dX9_beginAnew_2 : decode cX9_beginAnew 2 = .ok (.putfield 19, 3) := by decide +kernel
theorem dX9_beginAnew_5 : decode cX9_beginAnew 5 = .ok (.aload_n 0, 1) := by decide +kernel
theorem dX9_beginAnew_6 : decode cX9_beginAnew 6 = .ok (.iconst (-1), 1) := by decide +kernel
theorem dX9_beginAnew_7 : decode cX9_beginAnew 7 = .ok (.putfield 15, 3) := by decide +kernel
theorem dX9_beginAnew_10 : decode cX9_beginAnew 10 = .ok (.aload_n 0, 1) := by decide +kernel
theorem dX9_beginAnew_11 : decode cX9_beginAnew 11 = .ok (.iconst 0, 1) := by decide +kernel
theorem dX9_beginAnew_12 : decode cX9_beginAnew 12 = .ok (.putfield 22, 3) := by decide +kernel
theorem dX9_beginAnew_15 : decode cX9_beginAnew 15 = .ok (.aload_n 0, 1) := by decide +kernel
theorem dX9_beginAnew_16 : decode cX9_beginAnew 16 = .ok (.iconst 0, 1) := by decide +kernel
theorem dX9_beginAnew_17 : decode cX9_beginAnew 17 = .ok (.putfield 25, 3) := by decide +kernel
theorem dX9_beginAnew_20 : decode cX9_beginAnew 20 = .ok (.aload_n 0, 1) := by decide +kernel
theorem dX9_beginAnew_21 : decode cX9_beginAnew 21 = .ok (.iconst 0, 1) := by decide +kernel
theorem dX9_beginAnew_22 : decode cX9_beginAnew 22 = .ok (.putfield 28, 3) := by decide +kernel
theorem dX9_beginAnew_25 : decode cX9_beginAnew 25 = .ok (.aload_n 0, 1) := by decide +kernel
theorem dX9_beginAnew_26 : decode cX9_beginAnew 26 = .ok (.iconst 0, 1) := by decide +kernel
theorem dX9_beginAnew_27 : decode cX9_beginAnew 27 = .ok (.putfield 31, 3) := by decide +kernel
theorem dX9_beginAnew_30 : decode cX9_beginAnew 30 = .ok (.return_, 1) := by decide +kernel
theorem dX9_hourOf_0 : decode cX9_hourOf 0 = .ok (.iload_n 1, 1) := by decide +kernel
theorem dX9_hourOf_1 : decode cX9_hourOf 1 = .ok (.ifCond .lt 32, 3) := by decide +kernel
theorem dX9_hourOf_4 : decode cX9_hourOf 4 = .ok (.iload_n 1, 1) := by decide +kernel
theorem dX9_hourOf_5 : decode cX9_hourOf 5 = .ok (.aload_n 0, 1) := by decide +kernel
theorem dX9_hourOf_6 : decode cX9_hourOf 6 = .ok (.getfield 9, 3) := by decide +kernel
theorem dX9_hourOf_9 : decode cX9_hourOf 9 = .ok (.arraylength, 1) := by decide +kernel
theorem dX9_hourOf_10 : decode cX9_hourOf 10 = .ok (.if_icmp .ge 23, 3) := by decide +kernel
theorem dX9_hourOf_13 : decode cX9_hourOf 13 = .ok (.aload_n 0, 1) := by decide +kernel
theorem dX9_hourOf_14 : decode cX9_hourOf 14 = .ok (.getfield 25, 3) := by decide +kernel
theorem dX9_hourOf_17 : decode cX9_hourOf 17 = .ok (.iload_n 1, 1) := by decide +kernel
theorem dX9_hourOf_18 : decode cX9_hourOf 18 = .ok (.ishr, 1) := by decide +kernel
theorem dX9_hourOf_19 : decode cX9_hourOf 19 = .ok (.iconst 1, 1) := by decide +kernel
theorem dX9_hourOf_20 : decode cX9_hourOf 20 = .ok (.iand, 1) := by decide +kernel
theorem dX9_hourOf_21 : decode cX9_hourOf 21 = .ok (.ifCond .eq 12, 3) := by decide +kernel
theorem dX9_hourOf_24 : decode cX9_hourOf 24 = .ok (.aload_n 0, 1) := by decide +kernel
theorem dX9_hourOf_25 : decode cX9_hourOf 25 = .ok (.getfield 9, 3) := by decide +kernel
theorem dX9_hourOf_28 : decode cX9_hourOf 28 = .ok (.iload_n 1, 1) := by decide +kernel
theorem dX9_hourOf_29 : decode cX9_hourOf 29 = .ok (.iaload, 1) := by decide +kernel
theorem dX9_hourOf_30 : decode cX9_hourOf 30 = .ok (.goto 4, 3) := by decide +kernel
theorem dX9_hourOf_33 : decode cX9_hourOf 33 = .ok (.iconst (-1), 1) := by decide +kernel
theorem dX9_hourOf_34 : decode cX9_hourOf 34 = .ok (.ireturn, 1) := by decide +kernel
theorem dX9_passHour_0 : decode cX9_passHour 0 = .ok (.aload_n 0, 1) := by decide +kernel
theorem dX9_passHour_1 : decode cX9_passHour 1 = .ok (.getfield 15, 3) := by decide +kernel
theorem dX9_passHour_4 : decode cX9_passHour 4 = .ok (.iconst (-1), 1) := by decide +kernel
theorem dX9_passHour_5 : decode cX9_passHour 5 = .ok (.if_icmp .ne 20, 3) := by decide +kernel
theorem dX9_passHour_8 : decode cX9_passHour 8 = .ok (.aload_n 0, 1) := by decide +kernel
theorem dX9_passHour_9 : decode cX9_passHour 9 = .ok (.aload_n 1, 1) := by decide +kernel
theorem dX9_passHour_10 : decode cX9_passHour 10 = .ok (.aload_n 1, 1) := by decide +kernel
theorem dX9_passHour_11 : decode cX9_passHour 11 = .ok (.aload_n 0, 1) := by decide +kernel
theorem dX9_passHour_12 : decode cX9_passHour 12 = .ok (.getfield 25, 3) := by decide +kernel
theorem dX9_passHour_15 : decode cX9_passHour 15 = .ok (.aload_n 0, 1) := by decide +kernel
theorem dX9_passHour_16 : decode cX9_passHour 16 = .ok (.getfield 19, 3) := by decide +kernel
theorem dX9_passHour_19 : decode cX9_passHour 19 = .ok (.invokevirtual 34, 3) := by decide +kernel
theorem dX9_passHour_22 : decode cX9_passHour 22 = .ok (.invokevirtual 40, 3) := by decide +kernel
theorem dX9_passHour_25 : decode cX9_passHour 25 = .ok (.aload_n 0, 1) := by decide +kernel
theorem dX9_passHour_26 : decode cX9_passHour 26 = .ok (.dup, 1) := by decide +kernel
theorem dX9_passHour_27 : decode cX9_passHour 27 = .ok (.getfield 19, 3) := by decide +kernel
theorem dX9_passHour_30 : decode cX9_passHour 30 = .ok (.iconst 1, 1) := by decide +kernel
theorem dX9_passHour_31 : decode cX9_passHour 31 = .ok (.iadd, 1) := by decide +kernel
theorem dX9_passHour_32 : decode cX9_passHour 32 = .ok (.putfield 19, 3) := by decide +kernel
theorem dX9_passHour_35 : decode cX9_passHour 35 = .ok (.aload_n 0, 1) := by decide +kernel
theorem dX9_passHour_36 : decode cX9_passHour 36 = .ok (.getfield 15, 3) := by decide +kernel
theorem dX9_passHour_39 : decode cX9_passHour 39 = .ok (.iconst (-1), 1) := by decide +kernel
theorem dX9_passHour_40 : decode cX9_passHour 40 = .ok (.if_icmp .ne 14, 3) := by decide +kernel
theorem dX9_passHour_43 : decode cX9_passHour 43 = .ok (.aload_n 0, 1) := by decide +kernel
theorem dX9_passHour_44 : decode cX9_passHour 44 = .ok (.dup, 1) := by decide +kernel
theorem dX9_passHour_45 : decode cX9_passHour 45 = .ok (.getfield 31, 3) := by decide +kernel
theorem dX9_passHour_48 : decode cX9_passHour 48 = .ok (.iconst 1, 1) := by decide +kernel
theorem dX9_passHour_49 : decode cX9_passHour 49 = .ok (.iadd, 1) := by decide +kernel
theorem dX9_passHour_50 : decode cX9_passHour 50 = .ok (.putfield 31, 3) := by decide +kernel
theorem dX9_passHour_53 : decode cX9_passHour 53 = .ok (.return_, 1) := by decide +kernel
theorem dX9_passHour_54 : decode cX9_passHour 54 = .ok (.aload_n 0, 1) := by decide +kernel
theorem dX9_passHour_55 : decode cX9_passHour 55 = .ok (.dup, 1) := by decide +kernel
theorem dX9_passHour_56 : decode cX9_passHour 56 = .ok (.getfield 22, 3) := by decide +kernel
theorem dX9_passHour_59 : decode cX9_passHour 59 = .ok (.iconst 1, 1) := by decide +kernel
theorem dX9_passHour_60 : decode cX9_passHour 60 = .ok (.isub, 1) := by decide +kernel
theorem dX9_passHour_61 : decode cX9_passHour 61 = .ok (.putfield 22, 3) := by decide +kernel
theorem dX9_passHour_64 : decode cX9_passHour 64 = .ok (.aload_n 0, 1) := by decide +kernel
theorem dX9_passHour_65 : decode cX9_passHour 65 = .ok (.getfield 22, 3) := by decide +kernel
theorem dX9_passHour_68 : decode cX9_passHour 68 = .ok (.ifCond .gt 23, 3) := by decide +kernel
theorem dX9_passHour_71 : decode cX9_passHour 71 = .ok (.aload_n 0, 1) := by decide +kernel
theorem dX9_passHour_72 : decode cX9_passHour 72 = .ok (.dup, 1) := by decide +kernel
theorem dX9_passHour_73 : decode cX9_passHour 73 = .ok (.getfield 28, 3) := by decide +kernel
theorem dX9_passHour_76 : decode cX9_passHour 76 = .ok (.iconst 1, 1) := by decide +kernel
theorem dX9_passHour_77 : decode cX9_passHour 77 = .ok (.aload_n 0, 1) := by decide +kernel
theorem dX9_passHour_78 : decode cX9_passHour 78 = .ok (.getfield 15, 3) := by decide +kernel
theorem dX9_passHour_81 : decode cX9_passHour 81 = .ok (.ishl, 1) := by decide +kernel
theorem dX9_passHour_82 : decode cX9_passHour 82 = .ok (.ior, 1) := by decide +kernel
theorem dX9_passHour_83 : decode cX9_passHour 83 = .ok (.putfield 28, 3) := by decide +kernel
theorem dX9_passHour_86 : decode cX9_passHour 86 = .ok (.aload_n 0, 1) := by decide +kernel
theorem dX9_passHour_87 : decode cX9_passHour 87 = .ok (.iconst (-1), 1) := by decide +kernel
theorem dX9_passHour_88 : decode cX9_passHour 88 = .ok (.putfield 15, 3) := by decide +kernel
theorem dX9_passHour_91 : decode cX9_passHour 91 = .ok (.return_, 1) := by decide +kernel
theorem dX9_begin_0 : decode cX9_begin 0 = .ok (.iload_n 2, 1) := by decide +kernel
theorem dX9_begin_1 : decode cX9_begin 1 = .ok (.ifCond .lt 12, 3) := by decide +kernel
theorem dX9_begin_4 : decode cX9_begin 4 = .ok (.iload_n 2, 1) := by decide +kernel
theorem dX9_begin_5 : decode cX9_begin 5 = .ok (.aload_n 0, 1) := by decide +kernel
theorem dX9_begin_6 : decode cX9_begin 6 = .ok (.getfield 9, 3) := by decide +kernel
theorem dX9_begin_9 : decode cX9_begin 9 = .ok (.arraylength, 1) := by decide +kernel
theorem dX9_begin_10 : decode cX9_begin 10 = .ok (.if_icmp .lt 4, 3) := by decide +kernel
theorem dX9_begin_13 : decode cX9_begin 13 = .ok (.return_, 1) := by decide +kernel
theorem dX9_begin_14 : decode cX9_begin 14 = .ok (.aload_n 0, 1) := by decide +kernel
theorem dX9_begin_15 : decode cX9_begin 15 = .ok (.iload_n 2, 1) := by decide +kernel
theorem dX9_begin_16 : decode cX9_begin 16 = .ok (.putfield 15, 3) := by decide +kernel
theorem dX9_begin_19 : decode cX9_begin 19 = .ok (.aload_n 0, 1) := by decide +kernel
theorem dX9_begin_20 : decode cX9_begin 20 = .ok (.aload_n 1, 1) := by decide +kernel
theorem dX9_begin_21 : decode cX9_begin 21 = .ok (.iload_n 2, 1) := by decide +kernel
theorem dX9_begin_22 : decode cX9_begin 22 = .ok (.invokevirtual 44, 3) := by decide +kernel
theorem dX9_begin_25 : decode cX9_begin 25 = .ok (.putfield 22, 3) := by decide +kernel
theorem dX9_begin_28 : decode cX9_begin 28 = .ok (.aload_n 0, 1) := by decide +kernel
theorem dX9_begin_29 : decode cX9_begin 29 = .ok (.dup, 1) := by decide +kernel
theorem dX9_begin_30 : decode cX9_begin 30 = .ok (.getfield 25, 3) := by decide +kernel
theorem dX9_begin_33 : decode cX9_begin 33 = .ok (.iconst 1, 1) := by decide +kernel
theorem dX9_begin_34 : decode cX9_begin 34 = .ok (.iload_n 2, 1) := by decide +kernel
theorem dX9_begin_35 : decode cX9_begin 35 = .ok (.ishl, 1) := by decide +kernel
theorem dX9_begin_36 : decode cX9_begin 36 = .ok (.ior, 1) := by decide +kernel
theorem dX9_begin_37 : decode cX9_begin 37 = .ok (.putfield 25, 3) := by decide +kernel
theorem dX9_begin_40 : decode cX9_begin 40 = .ok (.aload_n 0, 1) := by decide +kernel
theorem dX9_begin_41 : decode cX9_begin 41 = .ok (.getfield 9, 3) := by decide +kernel
theorem dX9_begin_44 : decode cX9_begin 44 = .ok (.iload_n 2, 1) := by decide +kernel
theorem dX9_begin_45 : decode cX9_begin 45 = .ok (.aload_n 0, 1) := by decide +kernel
theorem dX9_begin_46 : decode cX9_begin 46 = .ok (.getfield 19, 3) := by decide +kernel
theorem dX9_begin_49 : decode cX9_begin 49 = .ok (.iastore, 1) := by decide +kernel
theorem dX9_begin_50 : decode cX9_begin 50 = .ok (.return_, 1) := by decide +kernel
theorem dJ6_bitCount_0f7a4_0 : decode cJ6_bitCount_0f7a4 0 = .ok (.iload_n 0, 1) := by decide +kernel
theorem dJ6_bitCount_0f7a4_1 : decode cJ6_bitCount_0f7a4 1 = .ok (.iload_n 0, 1) := by decide +kernel
theorem dJ6_bitCount_0f7a4_2 : decode cJ6_bitCount_0f7a4 2 = .ok (.iconst 1, 1) := by decide +kernel
theorem dJ6_bitCount_0f7a4_3 : decode cJ6_bitCount_0f7a4 3 = .ok (.iushr, 1) := by decide +kernel
theorem dJ6_bitCount_0f7a4_4 : decode cJ6_bitCount_0f7a4 4 = .ok (.ldc_w 265, 3) := by decide +kernel
theorem dJ6_bitCount_0f7a4_7 : decode cJ6_bitCount_0f7a4 7 = .ok (.iand, 1) := by decide +kernel
theorem dJ6_bitCount_0f7a4_8 : decode cJ6_bitCount_0f7a4 8 = .ok (.isub, 1) := by decide +kernel
theorem dJ6_bitCount_0f7a4_9 : decode cJ6_bitCount_0f7a4 9 = .ok (.istore_n 0, 1) := by decide +kernel
theorem dJ6_bitCount_0f7a4_10 : decode cJ6_bitCount_0f7a4 10 = .ok (.iload_n 0, 1) := by decide +kernel
theorem dJ6_bitCount_0f7a4_11 : decode cJ6_bitCount_0f7a4 11 = .ok (.ldc_w 266, 3) := by decide +kernel
theorem dJ6_bitCount_0f7a4_14 : decode cJ6_bitCount_0f7a4 14 = .ok (.iand, 1) := by decide +kernel
theorem dJ6_bitCount_0f7a4_15 : decode cJ6_bitCount_0f7a4 15 = .ok (.iload_n 0, 1) := by decide +kernel
theorem dJ6_bitCount_0f7a4_16 : decode cJ6_bitCount_0f7a4 16 = .ok (.iconst 2, 1) := by decide +kernel
theorem dJ6_bitCount_0f7a4_17 : decode cJ6_bitCount_0f7a4 17 = .ok (.iushr, 1) := by decide +kernel
theorem dJ6_bitCount_0f7a4_18 : decode cJ6_bitCount_0f7a4 18 = .ok (.ldc_w 266, 3) := by decide +kernel
theorem dJ6_bitCount_0f7a4_21 : decode cJ6_bitCount_0f7a4 21 = .ok (.iand, 1) := by decide +kernel
theorem dJ6_bitCount_0f7a4_22 : decode cJ6_bitCount_0f7a4 22 = .ok (.iadd, 1) := by decide +kernel
theorem dJ6_bitCount_0f7a4_23 : decode cJ6_bitCount_0f7a4 23 = .ok (.istore_n 0, 1) := by decide +kernel
theorem dJ6_bitCount_0f7a4_24 : decode cJ6_bitCount_0f7a4 24 = .ok (.iload_n 0, 1) := by decide +kernel
theorem dJ6_bitCount_0f7a4_25 : decode cJ6_bitCount_0f7a4 25 = .ok (.iload_n 0, 1) := by decide +kernel
theorem dJ6_bitCount_0f7a4_26 : decode cJ6_bitCount_0f7a4 26 = .ok (.iconst 4, 1) := by decide +kernel
theorem dJ6_bitCount_0f7a4_27 : decode cJ6_bitCount_0f7a4 27 = .ok (.iushr, 1) := by decide +kernel
theorem dJ6_bitCount_0f7a4_28 : decode cJ6_bitCount_0f7a4 28 = .ok (.iadd, 1) := by decide +kernel
theorem dJ6_bitCount_0f7a4_29 : decode cJ6_bitCount_0f7a4 29 = .ok (.ldc_w 267, 3) := by decide +kernel
theorem dJ6_bitCount_0f7a4_32 : decode cJ6_bitCount_0f7a4 32 = .ok (.iand, 1) := by decide +kernel
theorem dJ6_bitCount_0f7a4_33 : decode cJ6_bitCount_0f7a4 33 = .ok (.istore_n 0, 1) := by decide +kernel
theorem dJ6_bitCount_0f7a4_34 : decode cJ6_bitCount_0f7a4 34 = .ok (.iload_n 0, 1) := by decide +kernel
theorem dJ6_bitCount_0f7a4_35 : decode cJ6_bitCount_0f7a4 35 = .ok (.iload_n 0, 1) := by decide +kernel
theorem dJ6_bitCount_0f7a4_36 : decode cJ6_bitCount_0f7a4 36 = .ok (.bipush 8, 2) := by decide +kernel
theorem dJ6_bitCount_0f7a4_38 : decode cJ6_bitCount_0f7a4 38 = .ok (.iushr, 1) := by decide +kernel
theorem dJ6_bitCount_0f7a4_39 : decode cJ6_bitCount_0f7a4 39 = .ok (.iadd, 1) := by decide +kernel
theorem dJ6_bitCount_0f7a4_40 : decode cJ6_bitCount_0f7a4 40 = .ok (.istore_n 0, 1) := by decide +kernel
theorem dJ6_bitCount_0f7a4_41 : decode cJ6_bitCount_0f7a4 41 = .ok (.iload_n 0, 1) := by decide +kernel
theorem dJ6_bitCount_0f7a4_42 : decode cJ6_bitCount_0f7a4 42 = .ok (.iload_n 0, 1) := by decide +kernel
theorem dJ6_bitCount_0f7a4_43 : decode cJ6_bitCount_0f7a4 43 = .ok (.bipush 16, 2) := by decide +kernel
theorem dJ6_bitCount_0f7a4_45 : decode cJ6_bitCount_0f7a4 45 = .ok (.iushr, 1) := by decide +kernel
theorem dJ6_bitCount_0f7a4_46 : decode cJ6_bitCount_0f7a4 46 = .ok (.iadd, 1) := by decide +kernel
theorem dJ6_bitCount_0f7a4_47 : decode cJ6_bitCount_0f7a4 47 = .ok (.istore_n 0, 1) := by decide +kernel
theorem dJ6_bitCount_0f7a4_48 : decode cJ6_bitCount_0f7a4 48 = .ok (.iload_n 0, 1) := by decide +kernel
theorem dJ6_bitCount_0f7a4_49 : decode cJ6_bitCount_0f7a4 49 = .ok (.bipush 63, 2) := by decide +kernel
theorem dJ6_bitCount_0f7a4_51 : decode cJ6_bitCount_0f7a4 51 = .ok (.iand, 1) := by decide +kernel
theorem dJ6_bitCount_0f7a4_52 : decode cJ6_bitCount_0f7a4 52 = .ok (.ireturn, 1) := by decide +kernel
theorem dJ9_max_7cf53_0 : decode cJ9_max_7cf53 0 = .ok (.iload_n 0, 1) := by decide +kernel
theorem dJ9_max_7cf53_1 : decode cJ9_max_7cf53 1 = .ok (.iload_n 1, 1) := by decide +kernel
theorem dJ9_max_7cf53_2 : decode cJ9_max_7cf53 2 = .ok (.if_icmp .lt 7, 3) := by decide +kernel
theorem dJ9_max_7cf53_5 : decode cJ9_max_7cf53 5 = .ok (.iload_n 0, 1) := by decide +kernel
theorem dJ9_max_7cf53_6 : decode cJ9_max_7cf53 6 = .ok (.goto 4, 3) := by decide +kernel
theorem dJ9_max_7cf53_9 : decode cJ9_max_7cf53 9 = .ok (.iload_n 1, 1) := by decide +kernel
theorem dJ9_max_7cf53_10 : decode cJ9_max_7cf53 10 = .ok (.ireturn, 1) := by decide +kernel
theorem dJ9_min_7cf53_0 : decode cJ9_min_7cf53 0 = .ok (.iload_n 0, 1) := by decide +kernel
theorem dJ9_min_7cf53_1 : decode cJ9_min_7cf53 1 = .ok (.iload_n 1, 1) := by decide +kernel
theorem dJ9_min_7cf53_2 : decode cJ9_min_7cf53 2 = .ok (.if_icmp .gt 7, 3) := by decide +kernel
theorem dJ9_min_7cf53_5 : decode cJ9_min_7cf53 5 = .ok (.iload_n 0, 1) := by decide +kernel
theorem dJ9_min_7cf53_6 : decode cJ9_min_7cf53 6 = .ok (.goto 4, 3) := by decide +kernel
theorem dJ9_min_7cf53_9 : decode cJ9_min_7cf53 9 = .ok (.iload_n 1, 1) := by decide +kernel
theorem dJ9_min_7cf53_10 : decode cJ9_min_7cf53 10 = .ok (.ireturn, 1) := by decide +kernel
theorem dJ7_fill_d0a16_0 : decode cJ7_fill_d0a16 0 = .ok (.iconst 0, 1) := by decide +kernel
theorem dJ7_fill_d0a16_1 : decode cJ7_fill_d0a16 1 = .ok (.istore_n 3, 1) := by decide +kernel
theorem dJ7_fill_d0a16_2 : decode cJ7_fill_d0a16 2 = .ok (.aload_n 0, 1) := by decide +kernel
theorem dJ7_fill_d0a16_3 : decode cJ7_fill_d0a16 3 = .ok (.arraylength, 1) := by decide +kernel
theorem dJ7_fill_d0a16_4 : decode cJ7_fill_d0a16 4 = .ok (.istore 4, 2) := by decide +kernel
theorem dJ7_fill_d0a16_6 : decode cJ7_fill_d0a16 6 = .ok (.iload_n 3, 1) := by decide +kernel
theorem dJ7_fill_d0a16_7 : decode cJ7_fill_d0a16 7 = .ok (.iload 4, 2) := by decide +kernel
theorem dJ7_fill_d0a16_9 : decode cJ7_fill_d0a16 9 = .ok (.if_icmp .ge 13, 3) := by decide +kernel
theorem dJ7_fill_d0a16_12 : decode cJ7_fill_d0a16 12 = .ok (.aload_n 0, 1) := by decide +kernel
theorem dJ7_fill_d0a16_13 : decode cJ7_fill_d0a16 13 = .ok (.iload_n 3, 1) := by decide +kernel
theorem dJ7_fill_d0a16_14 : decode cJ7_fill_d0a16 14 = .ok (.lload_n 1, 1) := by decide +kernel
theorem dJ7_fill_d0a16_15 : decode cJ7_fill_d0a16 15 = .ok (.lastore, 1) := by decide +kernel
theorem dJ7_fill_d0a16_16 : decode cJ7_fill_d0a16 16 = .ok (.iinc 3 1, 3) := by decide +kernel
theorem dJ7_fill_d0a16_19 : decode cJ7_fill_d0a16 19 = .ok (.goto (-13), 3) := by decide +kernel
theorem dJ7_fill_d0a16_22 : decode cJ7_fill_d0a16 22 = .ok (.return_, 1) := by decide +kernel
theorem dJ7_fill_53178_0 : decode cJ7_fill_53178 0 = .ok (.iconst 0, 1) := by decide +kernel
theorem dJ7_fill_53178_1 : decode cJ7_fill_53178 1 = .ok (.istore_n 2, 1) := by decide +kernel
theorem dJ7_fill_53178_2 : decode cJ7_fill_53178 2 = .ok (.aload_n 0, 1) := by decide +kernel
theorem dJ7_fill_53178_3 : decode cJ7_fill_53178 3 = .ok (.arraylength, 1) := by decide +kernel
theorem dJ7_fill_53178_4 : decode cJ7_fill_53178 4 = .ok (.istore_n 3, 1) := by decide +kernel
theorem dJ7_fill_53178_5 : decode cJ7_fill_53178 5 = .ok (.iload_n 2, 1) := by decide +kernel
theorem dJ7_fill_53178_6 : decode cJ7_fill_53178 6 = .ok (.iload_n 3, 1) := by decide +kernel
theorem dJ7_fill_53178_7 : decode cJ7_fill_53178 7 = .ok (.if_icmp .ge 13, 3) := by decide +kernel
theorem dJ7_fill_53178_10 : decode cJ7_fill_53178 10 = .ok (.aload_n 0, 1) := by decide +kernel
theorem dJ7_fill_53178_11 : decode cJ7_fill_53178 11 = .ok (.iload_n 2, 1) := by decide +kernel
theorem dJ7_fill_53178_12 : decode cJ7_fill_53178 12 = .ok (.iload_n 1, 1) := by decide +kernel
theorem dJ7_fill_53178_13 : decode cJ7_fill_53178 13 = .ok (.iastore, 1) := by decide +kernel
theorem dJ7_fill_53178_14 : decode cJ7_fill_53178 14 = .ok (.iinc 2 1, 3) := by decide +kernel
theorem dJ7_fill_53178_17 : decode cJ7_fill_53178 17 = .ok (.goto (-12), 3) := by decide +kernel
theorem dJ7_fill_53178_20 : decode cJ7_fill_53178 20 = .ok (.return_, 1) := by decide +kernel
