theorem dX10_init_0 : decode cX10_init 0 = .ok (.aload_n 0, 1) := by decide +kernel
theorem dX10_init_1 : decode cX10_init 1 = .ok (.invokespecial 1, 3) := by decide +kernel
theorem dX10_init_4 : decode cX10_init 4 = .ok (.aload_n 0, 1) := by decide +kernel
theorem dX10_init_5 : decode cX10_init 5 = .ok (.new 7, 3) := by decide +kernel
theorem dX10_init_8 : decode cX10_init 8 = .ok (.dup, 1) := by decide +kernel
theorem dX10_init_9 : decode cX10_init 9 = .ok (.invokespecial 9, 3) := by decide +kernel
theorem dX10_init_12 : decode cX10_init 12 = .ok (.putfield 10, 3) := by decide +kernel
theorem dX10_init_15 : decode cX10_init 15 = .ok (.aload_n 0, 1) := by decide +kernel
theorem dX10_init_16 : decode cX10_init 16 = .ok (.new 7, 3) := by decide +kernel
theorem dX10_init_19 : decode cX10_init 19 = .ok (.dup, 1) := by decide +kernel
theorem dX10_init_20 : decode cX10_init 20 = .ok (.invokespecial 9, 3) := by decide +kernel
theorem dX10_init_23 : decode cX10_init 23 = .ok (.putfield 16, 3) := by decide +kernel
theorem dX10_init_26 : decode cX10_init 26 = .ok (.aload_n 0, 1) := by decide +kernel
theorem dX10_init_27 : decode cX10_init 27 = .ok (.new 7, 3) := by decide +kernel
theorem dX10_init_30 : decode cX10_init 30 = .ok (.dup, 1) := by decide +kernel
theorem dX10_init_31 : decode cX10_init 31 = .ok (.invokespecial 9, 3) := by decide +kernel
theorem dX10_init_34 : decode cX10_init 34 = .ok (.putfield 19, 3) := by decide +kernel
theorem dX10_init_37 : decode cX10_init 37 = .ok (.aload_n 0, 1) := by decide +kernel
theorem dX10_init_38 : decode cX10_init 38 = .ok (.new 22, 3) := by decide +kernel
theorem dX10_init_41 : decode cX10_init 41 = .ok (.dup, 1) := by decide +kernel
theorem dX10_init_42 : decode cX10_init 42 = .ok (.invokespecial 24, 3) := by decide +kernel
theorem dX10_init_45 : decode cX10_init 45 = .ok (.putfield 25, 3) := by decide +kernel
theorem dX10_init_48 : decode cX10_init 48 = .ok (.aload_n 0, 1) := by decide +kernel
theorem dX10_init_49 : decode cX10_init 49 = .ok (.new 29, 3) := by decide +kernel
theorem dX10_init_52 : decode cX10_init 52 = .ok (.dup, 1) := by decide +kernel
theorem dX10_init_53 : decode cX10_init 53 = .ok (.invokespecial 31, 3) := by decide +kernel
theorem dX10_init_56 : decode cX10_init 56 = .ok (.putfield 32, 3) := by decide +kernel
theorem dX10_init_59 : decode cX10_init 59 = .ok (.aload_n 0, 1) := by decide +kernel
theorem dX10_init_60 : decode cX10_init 60 = .ok (.new 29, 3) := by decide +kernel
theorem dX10_init_63 : decode cX10_init 63 = .ok (.dup, 1) := by decide +kernel
theorem dX10_init_64 : decode cX10_init 64 = .ok (.invokespecial 31, 3) := by decide +kernel
theorem dX10_init_67 : decode cX10_init 67 = .ok (.putfield 36, 3) := by decide +kernel
theorem dX10_init_70 : decode cX10_init 70 = .ok (.aload_n 0, 1) := by decide +kernel
theorem dX10_init_71 : decode cX10_init 71 = .ok (.new 39, 3) := by decide +kernel
theorem dX10_init_74 : decode cX10_init 74 = .ok (.dup, 1) := by decide +kernel
theorem dX10_init_75 : decode cX10_init 75 = .ok (.invokespecial 41, 3) := by decide +kernel
theorem dX10_init_78 : decode cX10_init 78 = .ok (.putfield 42, 3) := by decide +kernel
theorem dX10_init_81 : decode cX10_init 81 = .ok (.aload_n 0, 1) := by decide +kernel
theorem dX10_init_82 : decode cX10_init 82 = .ok (.new 39, 3) := by decide +kernel
theorem dX10_init_85 : decode cX10_init 85 = .ok (.dup, 1) := by decide +kernel
theorem dX10_init_86 : decode cX10_init 86 = .ok (.invokespecial 41, 3) := by decide +kernel
theorem dX10_init_89 : decode cX10_init 89 = .ok (.putfield 46, 3) := by decide +kernel
theorem dX10_init_92 : decode cX10_init 92 = .ok (.aload_n 0, 1) := by decide +kernel
theorem dX10_init_93 : decode cX10_init 93 = .ok (.new 49, 3) := by decide +kernel
theorem dX10_init_96 : decode cX10_init 96 = .ok (.dup, 1) := by decide +kernel
theorem dX10_init_97 : decode cX10_init 97 = .ok (.invokespecial 51, 3) := by decide +kernel
theorem dX10_init_100 : decode cX10_init 100 = .ok (.putfield 52, 3) := by decide +kernel
theorem dX10_init_103 : decode cX10_init 103 = .ok (.aload_n 0, 1) := by decide +kernel
theorem dX10_init_104 : decode cX10_init 104 = .ok (.new 56, 3) := by decide +kernel
theorem dX10_init_107 : decode cX10_init 107 = .ok (.dup, 1) := by decide +kernel
theorem dX10_init_108 : decode cX10_init 108 = .ok (.invokespecial 58, 3) := by decide +kernel
theorem dX10_init_111 : decode cX10_init 111 = .ok (.putfield 59, 3) := by decide +kernel
theorem dX10_init_114 : decode cX10_init 114 = .ok (.aload_n 0, 1) := by decide +kernel
theorem dX10_init_115 : decode cX10_init 115 = .ok (.new 63, 3) := by decide +kernel
theorem dX10_init_118 : decode cX10_init 118 = .ok (.dup, 1) := by decide +kernel
theorem dX10_init_119 : decode cX10_init 119 = .ok (.invokespecial 65, 3) := by decide +kernel
theorem dX10_init_122 : decode cX10_init 122 = .ok (.putfield 66, 3) := by decide +kernel
theorem dX10_init_125 : decode cX10_init 125 = .ok (.aload_n 0, 1) := by decide +kernel
theorem dX10_init_126 : decode cX10_init 126 = .ok (.new 70, 3) := by decide +kernel
theorem dX10_init_129 : decode cX10_init 129 = .ok (.dup, 1) := by decide +kernel
theorem dX10_init_130 : decode cX10_init 130 = .ok (.invokespecial 72, 3) := by decide +kernel
theorem dX10_init_133 : decode cX10_init 133 = .ok (.putfield 73, 3) := by decide +kernel
theorem dX10_init_136 : decode cX10_init 136 = .ok (.aload_n 0, 1) := by decide +kernel
theorem dX10_init_137 : decode cX10_init 137 = .ok (.new 77, 3) := by decide +kernel
theorem dX10_init_140 : decode cX10_init 140 = .ok (.dup, 1) := by decide +kernel
theorem dX10_init_141 : decode cX10_init 141 = .ok (.invokespecial 79, 3) := by decide +kernel
theorem dX10_init_144 : decode cX10_init 144 = .ok (.putfield 80, 3) := by decide +kernel
theorem dX10_init_147 : decode cX10_init 147 = .ok (.aload_n 0, 1) := by decide +kernel
theorem dX10_init_148 : decode cX10_init 148 = .ok (.iconst 4, 1) := by decide +kernel
theorem dX10_init_149 : decode cX10_init 149 = .ok (.anewarray 84, 3) := by decide +kernel
theorem dX10_init_152 : decode cX10_init 152 = .ok (.putfield 86, 3) := by decide +kernel
theorem dX10_init_155 : decode cX10_init 155 = .ok (.iconst 0, 1) := by decide +kernel
theorem dX10_init_156 : decode cX10_init 156 = .ok (.istore_n 1, 1) := by decide +kernel
theorem dX10_init_157 : decode cX10_init 157 = .ok (.iload_n 1, 1) := by decide +kernel
theorem dX10_init_158 : decode cX10_init 158 = .ok (.aload_n 0, 1) := by decide +kernel
theorem dX10_init_159 : decode cX10_init 159 = .ok (.getfield 86, 3) := by decide +kernel
theorem dX10_init_162 : decode cX10_init 162 = .ok (.arraylength, 1) := by decide +kernel
theorem dX10_init_163 : decode cX10_init 163 = .ok (.if_icmp .ge 22, 3) := by decide +kernel
theorem dX10_init_166 : decode cX10_init 166 = .ok (.aload_n 0, 1) := by decide +kernel
theorem dX10_init_167 : decode cX10_init 167 = .ok (.getfield 86, 3) := by decide +kernel
theorem dX10_init_170 : decode cX10_init 170 = .ok (.iload_n 1, 1) := by decide +kernel
theorem dX10_init_171 : decode cX10_init 171 = .ok (.new 84, 3) := by decide +kernel
theorem dX10_init_174 : decode cX10_init 174 = .ok (.dup, 1) := by decide +kernel
theorem dX10_init_175 : decode cX10_init 175 = .ok (.invokespecial 90, 3) := by decide +kernel
theorem dX10_init_178 : decode cX10_init 178 = .ok (.aastore, 1) := by decide +kernel
theorem dX10_init_179 : decode cX10_init 179 = .ok (.iinc 1 1, 3) := by decide +kernel
theorem dX10_init_182 : decode cX10_init 182 = .ok (.goto (-25), 3) := by decide +kernel
theorem dX10_init_185 : decode cX10_init 185 = .ok (.return_, 1) := by decide +kernel
theorem dX10_feed_0 : decode cX10_feed 0 = .ok (.iload_n 1, 1) := by decide +kernel
theorem dX10_feed_1 : decode cX10_feed 1 = .ok (.iconst 1, 1) := by decide +kernel
theorem dX10_feed_2 : decode cX10_feed 2 = .ok (.if_icmp .lt 46, 3) := by decide +kernel
theorem dX10_feed_5 : decode cX10_feed 5 = .ok (.iload_n 1, 1) := by decide +kernel
theorem dX10_feed_6 : decode cX10_feed 6 = .ok (.iconst 5, 1) := by decide +kernel
theorem dX10_feed_7 : decode cX10_feed 7 = .ok (.if_icmp .gt 41, 3) := by decide +kernel
theorem dX10_feed_10 : decode cX10_feed 10 = .ok (.iload_n 2, 1) := by decide +kernel
theorem dX10_feed_11 : decode cX10_feed 11 = .ok (.invokestatic 91, 3) := by decide +kernel
theorem dX10_feed_14 : decode cX10_feed 14 = .ok (.ifCond .eq 34, 3) := by decide +kernel
theorem dX10_feed_17 : decode cX10_feed 17 = .ok (.iload_n 3, 1) := by decide +kernel
theorem dX10_feed_18 : decode cX10_feed 18 = .ok (.invokestatic 91, 3) := by decide +kernel
theorem dX10_feed_21 : decode cX10_feed 21 = .ok (.ifCond .eq 27, 3) := by decide +kernel
theorem dX10_feed_24 : decode cX10_feed 24 = .ok (.iload 4, 2) := by decide +kernel
theorem dX10_feed_26 : decode cX10_feed 26 = .ok (.invokestatic 91, 3) := by decide +kernel
theorem dX10_feed_29 : decode cX10_feed 29 = .ok (.ifCond .eq 19, 3) := by decide +kernel
theorem dX10_feed_32 : decode cX10_feed 32 = .ok (.iload 5, 2) := by decide +kernel
theorem dX10_feed_34 : decode cX10_feed 34 = .ok (.invokestatic 91, 3) := by decide +kernel
theorem dX10_feed_37 : decode cX10_feed 37 = .ok (.ifCond .eq 11, 3) := by decide +kernel
theorem dX10_feed_40 : decode cX10_feed 40 = .ok (.iload 6, 2) := by decide +kernel
theorem dX10_feed_42 : decode cX10_feed 42 = .ok (.invokestatic 91, 3) := by decide +kernel
theorem dX10_feed_45 : decode cX10_feed 45 = .ok (.ifCond .ne 6, 3) := by decide +kernel
theorem dX10_feed_48 : decode cX10_feed 48 = .ok (.bipush (-2), 2) := by decide +kernel
theorem dX10_feed_50 : decode cX10_feed 50 = .ok (.ireturn, 1) := by decide +kernel
theorem dX10_feed_51 : decode cX10_feed 51 = .ok (.aload_n 0, 1) := by decide +kernel
theorem dX10_feed_52 : decode cX10_feed 52 = .ok (.getfield 25, 3) := by decide +kernel
theorem dX10_feed_55 : decode cX10_feed 55 = .ok (.iload_n 1, 1) := by decide +kernel
theorem dX10_feed_56 : decode cX10_feed 56 = .ok (.invokevirtual 95, 3) := by decide +kernel
theorem dX10_feed_59 : decode cX10_feed 59 = .ok (.ifCond .ne 6, 3) := by decide +kernel
theorem dX10_feed_62 : decode cX10_feed 62 = .ok (.bipush (-4), 2) := by decide +kernel
theorem dX10_feed_64 : decode cX10_feed 64 = .ok (.ireturn, 1) := by decide +kernel
theorem dX10_feed_65 : decode cX10_feed 65 = .ok (.aload_n 0, 1) := by decide +kernel
theorem dX10_feed_66 : decode cX10_feed 66 = .ok (.getfield 25, 3) := by decide +kernel
theorem dX10_feed_69 : decode cX10_feed 69 = .ok (.iload_n 2, 1) := by decide +kernel
theorem dX10_feed_70 : decode cX10_feed 70 = .ok (.invokevirtual 98, 3) := by decide +kernel
theorem dX10_feed_73 : decode cX10_feed 73 = .ok (.iload_n 1, 1) := by decide +kernel
theorem dX10_feed_74 : decode cX10_feed 74 = .ok (.iconst 1, 1) := by decide +kernel
theorem dX10_feed_75 : decode cX10_feed 75 = .ok (.if_icmp .le 11, 3) := by decide +kernel
theorem dX10_feed_78 : decode cX10_feed 78 = .ok (.aload_n 0, 1) := by decide +kernel
theorem dX10_feed_79 : decode cX10_feed 79 = .ok (.getfield 25, 3) := by decide +kernel
theorem dX10_feed_82 : decode cX10_feed 82 = .ok (.iload_n 3, 1) := by decide +kernel
theorem dX10_feed_83 : decode cX10_feed 83 = .ok (.invokevirtual 98, 3) := by decide +kernel
theorem dX10_feed_86 : decode cX10_feed 86 = .ok (.iload_n 1, 1) := by decide +kernel
theorem dX10_feed_87 : decode cX10_feed 87 = .ok (.iconst 2, 1) := by decide +kernel
theorem dX10_feed_88 : decode cX10_feed 88 = .ok (.if_icmp .le 12, 3) := by decide +kernel
theorem dX10_feed_91 : decode cX10_feed 91 = .ok (.aload_n 0, 1) := by decide +kernel
theorem dX10_feed_92 : decode cX10_feed 92 = .ok (.getfield 25, 3) := by decide +kernel
theorem dX10_feed_95 : decode cX10_feed 95 = .ok (.iload 4, 2) := by decide +kernel
theorem dX10_feed_97 : decode cX10_feed 97 = .ok (.invokevirtual 98, 3) := by decide +kernel
theorem dX10_feed_100 : decode cX10_feed 100 = .ok (.iload_n 1, 1) := by decide +kernel
theorem dX10_feed_101 : decode cX10_feed 101 = .ok (.iconst 3, 1) := by decide +kernel
theorem dX10_feed_102 : decode cX10_feed 102 = .ok (.if_icmp .le 12, 3) := by decide +kernel
theorem dX10_feed_105 : decode cX10_feed 105 = .ok (.aload_n 0, 1) := by decide +kernel
theorem dX10_feed_106 : decode cX10_feed 106 = .ok (.getfield 25, 3) := by decide +kernel
theorem dX10_feed_109 : decode cX10_feed 109 = .ok (.iload 5, 2) := by decide +kernel
theorem dX10_feed_111 : decode cX10_feed 111 = .ok (.invokevirtual 98, 3) := by decide +kernel
theorem dX10_feed_114 : decode cX10_feed 114 = .ok (.iload_n 1, 1) := by decide +kernel
theorem dX10_feed_115 : decode cX10_feed 115 = .ok (.iconst 4, 1) := by decide +kernel
theorem dX10_feed_116 : decode cX10_feed 116 = .ok (.if_icmp .le 12, 3) := by decide +kernel
theorem dX10_feed_119 : decode cX10_feed 119 = .ok (.aload_n 0, 1) := by decide +kernel
theorem dX10_feed_120 : decode cX10_feed 120 = .ok (.getfield 25, 3) := by decide +kernel
theorem dX10_feed_123 : decode cX10_feed 123 = .ok (.iload 6, 2) := by decide +kernel
theorem dX10_feed_125 : decode cX10_feed 125 = .ok (.invokevirtual 98, 3) := by decide +kernel
theorem dX10_feed_128 : decode cX10_feed 128 = .ok (.aload_n 0, 1) := by decide +kernel
theorem dX10_feed_129 : decode cX10_feed 129 = .ok (.getfield 25, 3) := by decide +kernel
theorem dX10_feed_132 : decode cX10_feed 132 = .ok (.getfield 102, 3) := by decide +kernel
theorem dX10_feed_135 : decode cX10_feed 135 = .ok (.ireturn, 1) := by decide +kernel
theorem dX10_text_0 : decode cX10_text 0 = .ok (.aload_n 0, 1) := by decide +kernel
theorem dX10_text_1 : decode cX10_text 1 = .ok (.getfield 25, 3) := by decide +kernel
theorem dX10_text_4 : decode cX10_text 4 = .ok (.aload_n 0, 1) := by decide +kernel
theorem dX10_text_5 : decode cX10_text 5 = .ok (.getfield 19, 3) := by decide +kernel
theorem dX10_text_8 : decode cX10_text 8 = .ok (.invokevirtual 106, 3) := by decide +kernel
theorem dX10_text_11 : decode cX10_text 11 = .ok (.istore_n 1, 1) := by decide +kernel
theorem dX10_text_12 : decode cX10_text 12 = .ok (.aload_n 0, 1) := by decide +kernel
theorem dX10_text_13 : decode cX10_text 13 = .ok (.getfield 25, 3) := by decide +kernel
theorem dX10_text_16 : decode cX10_text 16 = .ok (.invokevirtual 110, 3) := by decide +kernel
theorem dX10_text_19 : decode cX10_text 19 = .ok (.iload_n 1, 1) := by decide +kernel
theorem dX10_text_20 : decode cX10_text 20 = .ok (.iconst (-1), 1) := by decide +kernel
theorem dX10_text_21 : decode cX10_text 21 = .ok (.if_icmp .eq 8, 3) := by decide +kernel
theorem dX10_text_24 : decode cX10_text 24 = .ok (.bipush (-100), 2) := by decide +kernel
theorem dX10_text_26 : decode cX10_text 26 = .ok (.iload_n 1, 1) := by decide +kernel
theorem dX10_text_27 : decode cX10_text 27 = .ok (.isub, 1) := by decide +kernel
theorem dX10_text_28 : decode cX10_text 28 = .ok (.ireturn, 1) := by decide +kernel
theorem dX10_text_29 : decode cX10_text 29 = .ok (.aload_n 0, 1) := by decide +kernel
theorem dX10_text_30 : decode cX10_text 30 = .ok (.getfield 10, 3) := by decide +kernel
theorem dX10_text_33 : decode cX10_text 33 = .ok (.aload_n 0, 1) := by decide +kernel
theorem dX10_text_34 : decode cX10_text 34 = .ok (.getfield 19, 3) := by decide +kernel
theorem dX10_text_37 : decode cX10_text 37 = .ok (.getfield 113, 3) := by decide +kernel
theorem dX10_text_40 : decode cX10_text 40 = .ok (.invokevirtual 114, 3) := by decide +kernel
theorem dX10_text_43 : decode cX10_text 43 = .ok (.ifCond .ne 6, 3) := by decide +kernel
theorem dX10_text_46 : decode cX10_text 46 = .ok (.bipush (-4), 2) := by decide +kernel
theorem dX10_text_48 : decode cX10_text 48 = .ok (.ireturn, 1) := by decide +kernel
theorem dX10_text_49 : decode cX10_text 49 = .ok (.aload_n 0, 1) := by decide +kernel
theorem dX10_text_50 : decode cX10_text 50 = .ok (.getfield 10, 3) := by decide +kernel
theorem dX10_text_53 : decode cX10_text 53 = .ok (.aload_n 0, 1) := by decide +kernel
theorem dX10_text_54 : decode cX10_text 54 = .ok (.getfield 19, 3) := by decide +kernel
theorem dX10_text_57 : decode cX10_text 57 = .ok (.invokevirtual 115, 3) := by decide +kernel
theorem dX10_text_60 : decode cX10_text 60 = .ok (.aload_n 0, 1) := by decide +kernel
theorem dX10_text_61 : decode cX10_text 61 = .ok (.invokevirtual 119, 3) := by decide +kernel
theorem dX10_text_64 : decode cX10_text 64 = .ok (.aload_n 0, 1) := by decide +kernel
theorem dX10_text_65 : decode cX10_text 65 = .ok (.getfield 10, 3) := by decide +kernel
theorem dX10_text_68 : decode cX10_text 68 = .ok (.getfield 113, 3) := by decide +kernel
theorem dX10_text_71 : decode cX10_text 71 = .ok (.ireturn, 1) := by decide +kernel
theorem dX10_job_0 : decode cX10_job 0 = .ok (.iconst 0, 1) := by decide +kernel
theorem dX10_job_1 : decode cX10_job 1 = .ok (.iload_n 1, 1) := by decide +kernel
theorem dX10_job_2 : decode cX10_job 2 = .ok (.invokestatic 122, 3) := by decide +kernel
theorem dX10_job_5 : decode cX10_job 5 = .ok (.ifCond .eq 28, 3) := by decide +kernel
theorem dX10_job_8 : decode cX10_job 8 = .ok (.iconst 1, 1) := by decide +kernel
theorem dX10_job_9 : decode cX10_job 9 = .ok (.iload_n 2, 1) := by decide +kernel
theorem dX10_job_10 : decode cX10_job 10 = .ok (.invokestatic 122, 3) := by decide +kernel
theorem dX10_job_13 : decode cX10_job 13 = .ok (.ifCond .eq 20, 3) := by decide +kernel
theorem dX10_job_16 : decode cX10_job 16 = .ok (.iconst 2, 1) := by decide +kernel
theorem dX10_job_17 : decode cX10_job 17 = .ok (.iload_n 3, 1) := by decide +kernel
theorem dX10_job_18 : decode cX10_job 18 = .ok (.invokestatic 122, 3) := by decide +kernel
theorem dX10_job_21 : decode cX10_job 21 = .ok (.ifCond .eq 12, 3) := by decide +kernel
theorem dX10_job_24 : decode cX10_job 24 = .ok (.iconst 3, 1) := by decide +kernel
theorem dX10_job_25 : decode cX10_job 25 = .ok (.iload 4, 2) := by decide +kernel
theorem dX10_job_27 : decode cX10_job 27 = .ok (.invokestatic 122, 3) := by decide +kernel
theorem dX10_job_30 : decode cX10_job 30 = .ok (.ifCond .ne 6, 3) := by decide +kernel
theorem dX10_job_33 : decode cX10_job 33 = .ok (.bipush (-2), 2) := by decide +kernel
theorem dX10_job_35 : decode cX10_job 35 = .ok (.ireturn, 1) := by decide +kernel
theorem dX10_job_36 : decode cX10_job 36 = .ok (.aload_n 0, 1) := by decide +kernel
theorem dX10_job_37 : decode cX10_job 37 = .ok (.getfield 10, 3) := by decide +kernel
theorem dX10_job_40 : decode cX10_job 40 = .ok (.iconst 1, 1) := by decide +kernel
theorem dX10_job_41 : decode cX10_job 41 = .ok (.invokevirtual 114, 3) := by decide +kernel
theorem dX10_job_44 : decode cX10_job 44 = .ok (.ifCond .ne 6, 3) := by decide +kernel
theorem dX10_job_47 : decode cX10_job 47 = .ok (.bipush (-4), 2) := by decide +kernel
theorem dX10_job_49 : decode cX10_job 49 = .ok (.ireturn, 1) := by decide +kernel
theorem dX10_job_50 : decode cX10_job 50 = .ok (.aload_n 0, 1) := by decide +kernel
theorem dX10_job_51 : decode cX10_job 51 = .ok (.getfield 10, 3) := by decide +kernel
theorem dX10_job_54 : decode cX10_job 54 = .ok (.iload_n 1, 1) := by decide +kernel
theorem dX10_job_55 : decode cX10_job 55 = .ok (.iload_n 2, 1) := by decide +kernel
theorem dX10_job_56 : decode cX10_job 56 = .ok (.iload_n 3, 1) := by decide +kernel
theorem dX10_job_57 : decode cX10_job 57 = .ok (.iload 4, 2) := by decide +kernel
theorem dX10_job_59 : decode cX10_job 59 = .ok (.invokevirtual 126, 3) := by decide +kernel
theorem dX10_job_62 : decode cX10_job 62 = .ok (.aload_n 0, 1) := by decide +kernel
theorem dX10_job_63 : decode cX10_job 63 = .ok (.invokevirtual 119, 3) := by decide +kernel
theorem dX10_job_66 : decode cX10_job 66 = .ok (.aload_n 0, 1) := by decide +kernel
theorem dX10_job_67 : decode cX10_job 67 = .ok (.getfield 10, 3) := by decide +kernel
theorem dX10_job_70 : decode cX10_job 70 = .ok (.getfield 113, 3) := by decide +kernel
theorem dX10_job_73 : decode cX10_job 73 = .ok (.iconst 1, 1) := by decide +kernel
theorem dX10_job_74 : decode cX10_job 74 = .ok (.isub, 1) := by decide +kernel
theorem dX10_job_75 : decode cX10_job 75 = .ok (.ireturn, 1) := by decide +kernel
theorem dX10_set_0 : decode cX10_set 0 = .ok (.aload_n 0, 1) := by decide +kernel
theorem dX10_set_1 : decode cX10_set 1 = .ok (.getfield 10, 3) := by decide +kernel
theorem dX10_set_4 : decode cX10_set 4 = .ok (.iload_n 1, 1) := by decide +kernel
theorem dX10_set_5 : decode cX10_set 5 = .ok (.invokevirtual 129, 3) := by decide +kernel
theorem dX10_set_8 : decode cX10_set 8 = .ok (.ifCond .eq 11, 3) := by decide +kernel
theorem dX10_set_11 : decode cX10_set 11 = .ok (.iload_n 2, 1) := by decide +kernel
theorem dX10_set_12 : decode cX10_set 12 = .ok (.iload_n 3, 1) := by decide +kernel
theorem dX10_set_13 : decode cX10_set 13 = .ok (.invokestatic 122, 3) := by decide +kernel
theorem dX10_set_16 : decode cX10_set 16 = .ok (.ifCond .ne 6, 3) := by decide +kernel
theorem dX10_set_19 : decode cX10_set 19 = .ok (.bipush (-2), 2) := by decide +kernel
theorem dX10_set_21 : decode cX10_set 21 = .ok (.ireturn, 1) := by decide +kernel
theorem dX10_set_22 : decode cX10_set 22 = .ok (.aload_n 0, 1) := by decide +kernel
theorem dX10_set_23 : decode cX10_set 23 = .ok (.getfield 10, 3) := by decide +kernel
theorem dX10_set_26 : decode cX10_set 26 = .ok (.iload_n 2, 1) := by decide +kernel
theorem dX10_set_27 : decode cX10_set 27 = .ok (.iload_n 1, 1) := by decide +kernel
theorem dX10_set_28 : decode cX10_set 28 = .ok (.invokevirtual 132, 3) := by decide +kernel
theorem dX10_set_31 : decode cX10_set 31 = .ok (.istore 4, 2) := by decide +kernel
theorem dX10_set_33 : decode cX10_set 33 = .ok (.aload_n 0, 1) := by decide +kernel
theorem dX10_set_34 : decode cX10_set 34 = .ok (.getfield 10, 3) := by decide +kernel
theorem dX10_set_37 : decode cX10_set 37 = .ok (.iload_n 2, 1) := by decide +kernel
theorem dX10_set_38 : decode cX10_set 38 = .ok (.iload_n 1, 1) := by decide +kernel
theorem dX10_set_39 : decode cX10_set 39 = .ok (.iload_n 3, 1) := by decide +kernel
theorem dX10_set_40 : decode cX10_set 40 = .ok (.invokevirtual 136, 3) := by decide +kernel
theorem dX10_set_43 : decode cX10_set 43 = .ok (.aload_n 0, 1) := by decide +kernel
theorem dX10_set_44 : decode cX10_set 44 = .ok (.invokevirtual 119, 3) := by decide +kernel
theorem dX10_set_47 : decode cX10_set 47 = .ok (.iload 4, 2) := by decide +kernel
theorem dX10_set_49 : decode cX10_set 49 = .ok (.ireturn, 1) := by decide +kernel
theorem dX10_told_0 : decode cX10_told 0 = .ok (.aload_n 0, 1) := by decide +kernel
theorem dX10_told_1 : decode cX10_told 1 = .ok (.getfield 10, 3) := by decide +kernel
theorem dX10_told_4 : decode cX10_told 4 = .ok (.iload_n 1, 1) := by decide +kernel
theorem dX10_told_5 : decode cX10_told 5 = .ok (.invokevirtual 129, 3) := by decide +kernel
theorem dX10_told_8 : decode cX10_told 8 = .ok (.ifCond .eq 13, 3) := by decide +kernel
theorem dX10_told_11 : decode cX10_told 11 = .ok (.iload_n 2, 1) := by decide +kernel
theorem dX10_told_12 : decode cX10_told 12 = .ok (.ifCond .lt 9, 3) := by decide +kernel
theorem dX10_told_15 : decode cX10_told 15 = .ok (.iload_n 2, 1) := by decide +kernel
theorem dX10_told_16 : decode cX10_told 16 = .ok (.bipush 6, 2) := by decide +kernel
theorem dX10_told_18 : decode cX10_told 18 = .ok (.if_icmp .le 6, 3) := by decide +kernel
theorem dX10_told_21 : decode cX10_told 21 = .ok (.bipush (-2), 2) := by decide +kernel
theorem dX10_told_23 : decode cX10_told 23 = .ok (.ireturn, 1) := by decide +kernel
theorem dX10_told_24 : decode cX10_told 24 = .ok (.iload_n 2, 1) := by decide +kernel
theorem dX10_told_25 : decode cX10_told 25 = .ok (.tableswitch 54 4 6 #[27, 36, 45], 27) := by decide +kernel
theorem dX10_told_52 : decode cX10_told 52 = .ok (.aload_n 0, 1) := by decide +kernel
theorem dX10_told_53 : decode cX10_told 53 = .ok (.getfield 10, 3) := by decide +kernel
theorem dX10_told_56 : decode cX10_told 56 = .ok (.iload_n 1, 1) := by decide +kernel
theorem dX10_told_57 : decode cX10_told 57 = .ok (.invokevirtual 140, 3) := by decide +kernel
theorem dX10_told_60 : decode cX10_told 60 = .ok (.ireturn, 1) := by decide +kernel
theorem dX10_told_61 : decode cX10_told 61 = .ok (.aload_n 0, 1) := by decide +kernel
theorem dX10_told_62 : decode cX10_told 62 = .ok (.getfield 10, 3) := by decide +kernel
theorem dX10_told_65 : decode cX10_told 65 = .ok (.iload_n 1, 1) := by decide +kernel
theorem dX10_told_66 : decode cX10_told 66 = .ok (.invokevirtual 144, 3) := by decide +kernel
theorem dX10_told_69 : decode cX10_told 69 = .ok (.ireturn, 1) := by decide +kernel
theorem dX10_told_70 : decode cX10_told 70 = .ok (.aload_n 0, 1) := by decide +kernel
theorem dX10_told_71 : decode cX10_told 71 = .ok (.getfield 10, 3) := by decide +kernel
theorem dX10_told_74 : decode cX10_told 74 = .ok (.iload_n 1, 1) := by decide +kernel
theorem dX10_told_75 : decode cX10_told 75 = .ok (.invokevirtual 147, 3) := by decide +kernel
theorem dX10_told_78 : decode cX10_told 78 = .ok (.ireturn, 1) := by decide +kernel
theorem dX10_told_79 : decode cX10_told 79 = .ok (.aload_n 0, 1) := by decide +kernel
theorem dX10_told_80 : decode cX10_told 80 = .ok (.getfield 10, 3) := by decide +kernel
theorem dX10_told_83 : decode cX10_told 83 = .ok (.iload_n 2, 1) := by decide +kernel
theorem dX10_told_84 : decode cX10_told 84 = .ok (.iload_n 1, 1) := by decide +kernel
theorem dX10_told_85 : decode cX10_told 85 = .ok (.invokevirtual 132, 3) := by decide +kernel
theorem dX10_told_88 : decode cX10_told 88 = .ok (.ireturn, 1) := by decide +kernel
theorem dX10_drop_0 : decode cX10_drop 0 = .ok (.aload_n 0, 1) := by decide +kernel
theorem dX10_drop_1 : decode cX10_drop 1 = .ok (.getfield 10, 3) := by decide +kernel
theorem dX10_drop_4 : decode cX10_drop 4 = .ok (.iload_n 1, 1) := by decide +kernel
theorem dX10_drop_5 : decode cX10_drop 5 = .ok (.invokevirtual 129, 3) := by decide +kernel
theorem dX10_drop_8 : decode cX10_drop 8 = .ok (.ifCond .ne 6, 3) := by decide +kernel
theorem dX10_drop_11 : decode cX10_drop 11 = .ok (.bipush (-2), 2) := by decide +kernel
theorem dX10_drop_13 : decode cX10_drop 13 = .ok (.ireturn, 1) := by decide +kernel
theorem dX10_drop_14 : decode cX10_drop 14 = .ok (.aload_n 0, 1) := by decide +kernel
theorem dX10_drop_15 : decode cX10_drop 15 = .ok (.getfield 10, 3) := by decide +kernel
theorem dX10_drop_18 : decode cX10_drop 18 = .ok (.iload_n 1, 1) := by decide +kernel
theorem dX10_drop_19 : decode cX10_drop 19 = .ok (.invokevirtual 150, 3) := by decide +kernel
theorem dX10_drop_22 : decode cX10_drop 22 = .ok (.aload_n 0, 1) := by decide +kernel
theorem dX10_drop_23 : decode cX10_drop 23 = .ok (.invokevirtual 119, 3) := by decide +kernel
theorem dX10_drop_26 : decode cX10_drop 26 = .ok (.aload_n 0, 1) := by decide +kernel
theorem dX10_drop_27 : decode cX10_drop 27 = .ok (.getfield 10, 3) := by decide +kernel
theorem dX10_drop_30 : decode cX10_drop 30 = .ok (.getfield 113, 3) := by decide +kernel
theorem dX10_drop_33 : decode cX10_drop 33 = .ok (.ireturn, 1) := by decide +kernel
theorem dX10_taken_0 : decode cX10_taken 0 = .ok (.aload_n 0, 1) := by decide +kernel
theorem dX10_taken_1 : decode cX10_taken 1 = .ok (.getfield 10, 3) := by decide +kernel
theorem dX10_taken_4 : decode cX10_taken 4 = .ok (.iload_n 1, 1) := by decide +kernel
theorem dX10_taken_5 : decode cX10_taken 5 = .ok (.invokevirtual 129, 3) := by decide +kernel
theorem dX10_taken_8 : decode cX10_taken 8 = .ok (.ifCond .eq 11, 3) := by decide +kernel
theorem dX10_taken_11 : decode cX10_taken 11 = .ok (.iconst 0, 1) := by decide +kernel
theorem dX10_taken_12 : decode cX10_taken 12 = .ok (.iload_n 2, 1) := by decide +kernel
theorem dX10_taken_13 : decode cX10_taken 13 = .ok (.invokestatic 122, 3) := by decide +kernel
theorem dX10_taken_16 : decode cX10_taken 16 = .ok (.ifCond .ne 6, 3) := by decide +kernel
theorem dX10_taken_19 : decode cX10_taken 19 = .ok (.bipush (-2), 2) := by decide +kernel
theorem dX10_taken_21 : decode cX10_taken 21 = .ok (.ireturn, 1) := by decide +kernel
theorem dX10_taken_22 : decode cX10_taken 22 = .ok (.aload_n 0, 1) := by decide +kernel
theorem dX10_taken_23 : decode cX10_taken 23 = .ok (.getfield 10, 3) := by decide +kernel
theorem dX10_taken_26 : decode cX10_taken 26 = .ok (.iload_n 1, 1) := by decide +kernel
theorem dX10_taken_27 : decode cX10_taken 27 = .ok (.iload_n 2, 1) := by decide +kernel
theorem dX10_taken_28 : decode cX10_taken 28 = .ok (.invokevirtual 153, 3) := by decide +kernel
theorem dX10_taken_31 : decode cX10_taken 31 = .ok (.ifCond .ne 6, 3) := by decide +kernel
theorem dX10_taken_34 : decode cX10_taken 34 = .ok (.bipush (-13), 2) := by decide +kernel
theorem dX10_taken_36 : decode cX10_taken 36 = .ok (.ireturn, 1) := by decide +kernel
theorem dX10_taken_37 : decode cX10_taken 37 = .ok (.aload_n 0, 1) := by decide +kernel
theorem dX10_taken_38 : decode cX10_taken 38 = .ok (.getfield 10, 3) := by decide +kernel
theorem dX10_taken_41 : decode cX10_taken 41 = .ok (.iload_n 1, 1) := by decide +kernel
theorem dX10_taken_42 : decode cX10_taken 42 = .ok (.invokevirtual 144, 3) := by decide +kernel
theorem dX10_taken_45 : decode cX10_taken 45 = .ok (.aload_n 0, 1) := by decide +kernel
theorem dX10_taken_46 : decode cX10_taken 46 = .ok (.getfield 10, 3) := by decide +kernel
theorem dX10_taken_49 : decode cX10_taken 49 = .ok (.iload_n 1, 1) := by decide +kernel
theorem dX10_taken_50 : decode cX10_taken 50 = .ok (.invokevirtual 147, 3) := by decide +kernel
theorem dX10_taken_53 : decode cX10_taken 53 = .ok (.iadd, 1) := by decide +kernel
theorem dX10_taken_54 : decode cX10_taken 54 = .ok (.ireturn, 1) := by decide +kernel
theorem dX10_greedy_0 : decode cX10_greedy 0 = .ok (.iload_n 2, 1) := by decide +kernel
theorem dX10_greedy_1 : decode cX10_greedy 1 = .ok (.ifCond .lt 8, 3) := by decide +kernel
theorem dX10_greedy_4 : decode cX10_greedy 4 = .ok (.iload_n 2, 1) := by decide +kernel
theorem dX10_greedy_5 : decode cX10_greedy 5 = .ok (.iconst 1, 1) := by decide +kernel
theorem dX10_greedy_6 : decode cX10_greedy 6 = .ok (.if_icmp .le 6, 3) := by decide +kernel
theorem dX10_greedy_9 : decode cX10_greedy 9 = .ok (.bipush (-2), 2) := by decide +kernel
theorem dX10_greedy_11 : decode cX10_greedy 11 = .ok (.ireturn, 1) := by decide +kernel
theorem dX10_greedy_12 : decode cX10_greedy 12 = .ok (.iload_n 1, 1) := by decide +kernel
theorem dX10_greedy_13 : decode cX10_greedy 13 = .ok (.iconst (-1), 1) := by decide +kernel
theorem dX10_greedy_14 : decode cX10_greedy 14 = .ok (.if_icmp .lt 14, 3) := by decide +kernel
theorem dX10_greedy_17 : decode cX10_greedy 17 = .ok (.iload_n 1, 1) := by decide +kernel
theorem dX10_greedy_18 : decode cX10_greedy 18 = .ok (.aload_n 0, 1) := by decide +kernel
theorem dX10_greedy_19 : decode cX10_greedy 19 = .ok (.getfield 10, 3) := by decide +kernel
theorem dX10_greedy_22 : decode cX10_greedy 22 = .ok (.getfield 113, 3) := by decide +kernel
theorem dX10_greedy_25 : decode cX10_greedy 25 = .ok (.if_icmp .lt 6, 3) := by decide +kernel
theorem dX10_greedy_28 : decode cX10_greedy 28 = .ok (.bipush (-12), 2) := by decide +kernel
theorem dX10_greedy_30 : decode cX10_greedy 30 = .ok (.ireturn, 1) := by decide +kernel
theorem dX10_greedy_31 : decode cX10_greedy 31 = .ok (.aload_n 0, 1) := by decide +kernel
theorem dX10_greedy_32 : decode cX10_greedy 32 = .ok (.getfield 42, 3) := by decide +kernel
theorem dX10_greedy_35 : decode cX10_greedy 35 = .ok (.aload_n 0, 1) := by decide +kernel
theorem dX10_greedy_36 : decode cX10_greedy 36 = .ok (.getfield 32, 3) := by decide +kernel
theorem dX10_greedy_39 : decode cX10_greedy 39 = .ok (.invokevirtual 156, 3) := by decide +kernel
theorem dX10_greedy_42 : decode cX10_greedy 42 = .ok (.iload_n 1, 1) := by decide +kernel
theorem dX10_greedy_43 : decode cX10_greedy 43 = .ok (.iconst (-1), 1) := by decide +kernel
theorem dX10_greedy_44 : decode cX10_greedy 44 = .ok (.if_icmp .ne 25, 3) := by decide +kernel
theorem dX10_greedy_47 : decode cX10_greedy 47 = .ok (.iload_n 2, 1) := by decide +kernel
theorem dX10_greedy_48 : decode cX10_greedy 48 = .ok (.ifCond .ne 13, 3) := by decide +kernel
theorem dX10_greedy_51 : decode cX10_greedy 51 = .ok (.aload_n 0, 1) := by decide +kernel
theorem dX10_greedy_52 : decode cX10_greedy 52 = .ok (.getfield 42, 3) := by decide +kernel
theorem dX10_greedy_55 : decode cX10_greedy 55 = .ok (.getfield 160, 3) := by decide +kernel
theorem dX10_greedy_58 : decode cX10_greedy 58 = .ok (.goto 10, 3) := by decide +kernel
theorem dX10_greedy_61 : decode cX10_greedy 61 = .ok (.aload_n 0, 1) := by decide +kernel
theorem dX10_greedy_62 : decode cX10_greedy 62 = .ok (.getfield 42, 3) := by decide +kernel
theorem dX10_greedy_65 : decode cX10_greedy 65 = .ok (.getfield 163, 3) := by decide +kernel
theorem dX10_greedy_68 : decode cX10_greedy 68 = .ok (.ireturn, 1) := by decide +kernel
theorem dX10_greedy_69 : decode cX10_greedy 69 = .ok (.aload_n 0, 1) := by decide +kernel
theorem dX10_greedy_70 : decode cX10_greedy 70 = .ok (.getfield 42, 3) := by decide +kernel
theorem dX10_greedy_73 : decode cX10_greedy 73 = .ok (.iload_n 1, 1) := by decide +kernel
theorem dX10_greedy_74 : decode cX10_greedy 74 = .ok (.invokevirtual 166, 3) := by decide +kernel
theorem dX10_greedy_77 : decode cX10_greedy 77 = .ok (.istore_n 3, 1) := by decide +kernel
theorem dX10_greedy_78 : decode cX10_greedy 78 = .ok (.iload_n 2, 1) := by decide +kernel
theorem dX10_greedy_79 : decode cX10_greedy 79 = .ok (.ifCond .ne 7, 3) := by decide +kernel
theorem dX10_greedy_82 : decode cX10_greedy 82 = .ok (.iload_n 3, 1) := by decide +kernel
theorem dX10_greedy_83 : decode cX10_greedy 83 = .ok (.goto 11, 3) := by decide +kernel
theorem dX10_greedy_86 : decode cX10_greedy 86 = .ok (.aload_n 0, 1) := by decide +kernel
theorem dX10_greedy_87 : decode cX10_greedy 87 = .ok (.getfield 42, 3) := by decide +kernel
theorem dX10_greedy_90 : decode cX10_greedy 90 = .ok (.iload_n 3, 1) := by decide +kernel
theorem dX10_greedy_91 : decode cX10_greedy 91 = .ok (.invokevirtual 169, 3) := by decide +kernel
theorem dX10_greedy_94 : decode cX10_greedy 94 = .ok (.ireturn, 1) := by decide +kernel
theorem dX10_breaking_0 : decode cX10_breaking 0 = .ok (.iload_n 1, 1) := by decide +kernel
theorem dX10_breaking_1 : decode cX10_breaking 1 = .ok (.ifCond .lt 8, 3) := by decide +kernel
theorem dX10_breaking_4 : decode cX10_breaking 4 = .ok (.iload_n 1, 1) := by decide +kernel
theorem dX10_breaking_5 : decode cX10_breaking 5 = .ok (.iconst 1, 1) := by decide +kernel
theorem dX10_breaking_6 : decode cX10_breaking 6 = .ok (.if_icmp .le 6, 3) := by decide +kernel
theorem dX10_breaking_9 : decode cX10_breaking 9 = .ok (.bipush (-2), 2) := by decide +kernel
theorem dX10_breaking_11 : decode cX10_breaking 11 = .ok (.ireturn, 1) := by decide +kernel
theorem dX10_breaking_12 : decode cX10_breaking 12 = .ok (.aload_n 0, 1) := by decide +kernel
theorem dX10_breaking_13 : decode cX10_breaking 13 = .ok (.getfield 59, 3) := by decide +kernel
theorem dX10_breaking_16 : decode cX10_breaking 16 = .ok (.aload_n 0, 1) := by decide +kernel
theorem dX10_breaking_17 : decode cX10_breaking 17 = .ok (.getfield 32, 3) := by decide +kernel
theorem dX10_breaking_20 : decode cX10_breaking 20 = .ok (.invokevirtual 172, 3) := by decide +kernel
theorem dX10_breaking_23 : decode cX10_breaking 23 = .ok (.iload_n 1, 1) := by decide +kernel
theorem dX10_breaking_24 : decode cX10_breaking 24 = .ok (.ifCond .ne 13, 3) := by decide +kernel
theorem dX10_breaking_27 : decode cX10_breaking 27 = .ok (.aload_n 0, 1) := by decide +kernel
theorem dX10_breaking_28 : decode cX10_breaking 28 = .ok (.getfield 59, 3) := by decide +kernel
theorem dX10_breaking_31 : decode cX10_breaking 31 = .ok (.getfield 175, 3) := by decide +kernel
theorem dX10_breaking_34 : decode cX10_breaking 34 = .ok (.goto 10, 3) := by decide +kernel
theorem dX10_breaking_37 : decode cX10_breaking 37 = .ok (.aload_n 0, 1) := by decide +kernel
theorem dX10_breaking_38 : decode cX10_breaking 38 = .ok (.getfield 59, 3) := by decide +kernel
theorem dX10_breaking_41 : decode cX10_breaking 41 = .ok (.getfield 176, 3) := by decide +kernel
theorem dX10_breaking_44 : decode cX10_breaking 44 = .ok (.ireturn, 1) := by decide +kernel
theorem dX10_strongest_0 : decode cX10_strongest 0 = .ok (.iload_n 1, 1) := by decide +kernel
theorem dX10_strongest_1 : decode cX10_strongest 1 = .ok (.ifCond .lt 8, 3) := by decide +kernel
theorem dX10_strongest_4 : decode cX10_strongest 4 = .ok (.iload_n 1, 1) := by decide +kernel
theorem dX10_strongest_5 : decode cX10_strongest 5 = .ok (.iconst 1, 1) := by decide +kernel
theorem dX10_strongest_6 : decode cX10_strongest 6 = .ok (.if_icmp .le 6, 3) := by decide +kernel
theorem dX10_strongest_9 : decode cX10_strongest 9 = .ok (.bipush (-2), 2) := by decide +kernel
theorem dX10_strongest_11 : decode cX10_strongest 11 = .ok (.ireturn, 1) := by decide +kernel
theorem dX10_strongest_12 : decode cX10_strongest 12 = .ok (.aload_n 0, 1) := by decide +kernel
theorem dX10_strongest_13 : decode cX10_strongest 13 = .ok (.getfield 10, 3) := by decide +kernel
theorem dX10_strongest_16 : decode cX10_strongest 16 = .ok (.getfield 113, 3) := by decide +kernel
theorem dX10_strongest_19 : decode cX10_strongest 19 = .ok (.ifCond .ne 6, 3) := by decide +kernel
theorem dX10_strongest_22 : decode cX10_strongest 22 = .ok (.bipush (-3), 2) := by decide +kernel
theorem dX10_strongest_24 : decode cX10_strongest 24 = .ok (.ireturn, 1) := by decide +kernel
theorem dX10_strongest_25 : decode cX10_strongest 25 = .ok (.aload_n 0, 1) := by decide +kernel
theorem dX10_strongest_26 : decode cX10_strongest 26 = .ok (.getfield 32, 3) := by decide +kernel
theorem dX10_strongest_29 : decode cX10_strongest 29 = .ok (.invokevirtual 217, 3) := by decide +kernel
theorem dX10_strongest_32 : decode cX10_strongest 32 = .ok (.istore_n 2, 1) := by decide +kernel
theorem dX10_strongest_33 : decode cX10_strongest 33 = .ok (.iload_n 1, 1) := by decide +kernel
theorem dX10_strongest_34 : decode cX10_strongest 34 = .ok (.ifCond .ne 7, 3) := by decide +kernel
theorem dX10_strongest_37 : decode cX10_strongest 37 = .ok (.iload_n 2, 1) := by decide +kernel
theorem dX10_strongest_38 : decode cX10_strongest 38 = .ok (.goto 11, 3) := by decide +kernel
theorem dX10_strongest_41 : decode cX10_strongest 41 = .ok (.aload_n 0, 1) := by decide +kernel
theorem dX10_strongest_42 : decode cX10_strongest 42 = .ok (.getfield 32, 3) := by decide +kernel
theorem dX10_strongest_45 : decode cX10_strongest 45 = .ok (.iload_n 2, 1) := by decide +kernel
theorem dX10_strongest_46 : decode cX10_strongest 46 = .ok (.invokevirtual 214, 3) := by decide +kernel
theorem dX10_strongest_49 : decode cX10_strongest 49 = .ok (.ireturn, 1) := by decide +kernel
theorem dX10_least_0 : decode cX10_least 0 = .ok (.iload_n 1, 1) := by decide +kernel
theorem dX10_least_1 : decode cX10_least 1 = .ok (.ifCond .lt 8, 3) := by decide +kernel
theorem dX10_least_4 : decode cX10_least 4 = .ok (.iload_n 1, 1) := by decide +kernel
theorem dX10_least_5 : decode cX10_least 5 = .ok (.iconst 2, 1) := by decide +kernel
theorem dX10_least_6 : decode cX10_least 6 = .ok (.if_icmp .le 6, 3) := by decide +kernel
theorem dX10_least_9 : decode cX10_least 9 = .ok (.bipush (-2), 2) := by decide +kernel
theorem dX10_least_11 : decode cX10_least 11 = .ok (.ireturn, 1) := by decide +kernel
theorem dX10_least_12 : decode cX10_least 12 = .ok (.aload_n 0, 1) := by decide +kernel
theorem dX10_least_13 : decode cX10_least 13 = .ok (.invokevirtual 220, 3) := by decide +kernel
theorem dX10_least_16 : decode cX10_least 16 = .ok (.iload_n 1, 1) := by decide +kernel
theorem dX10_least_17 : decode cX10_least 17 = .ok (.ifCond .ne 8, 3) := by decide +kernel
theorem dX10_least_20 : decode cX10_least 20 = .ok (.aload_n 0, 1) := by decide +kernel
theorem dX10_least_21 : decode cX10_least 21 = .ok (.getfield 223, 3) := by decide +kernel
theorem dX10_least_24 : decode cX10_least 24 = .ok (.ireturn, 1) := by decide +kernel
theorem dX10_least_25 : decode cX10_least 25 = .ok (.iload_n 1, 1) := by decide +kernel
theorem dX10_least_26 : decode cX10_least 26 = .ok (.iconst 1, 1) := by decide +kernel
theorem dX10_least_27 : decode cX10_least 27 = .ok (.if_icmp .ne 10, 3) := by decide +kernel
theorem dX10_least_30 : decode cX10_least 30 = .ok (.aload_n 0, 1) := by decide +kernel
theorem dX10_least_31 : decode cX10_least 31 = .ok (.getfield 226, 3) := by decide +kernel
theorem dX10_least_34 : decode cX10_least 34 = .ok (.goto 7, 3) := by decide +kernel
theorem dX10_least_37 : decode cX10_least 37 = .ok (.aload_n 0, 1) := by decide +kernel
theorem dX10_least_38 : decode cX10_least 38 = .ok (.getfield 229, 3) := by decide +kernel
theorem dX10_least_41 : decode cX10_least 41 = .ok (.ireturn, 1) := by decide +kernel
theorem dX10_many_0 : decode cX10_many 0 = .ok (.aload_n 0, 1) := by decide +kernel
theorem dX10_many_1 : decode cX10_many 1 = .ok (.invokevirtual 220, 3) := by decide +kernel
theorem dX10_many_4 : decode cX10_many 4 = .ok (.aload_n 0, 1) := by decide +kernel
theorem dX10_many_5 : decode cX10_many 5 = .ok (.getfield 73, 3) := by decide +kernel
theorem dX10_many_8 : decode cX10_many 8 = .ok (.aload_n 0, 1) := by decide +kernel
theorem dX10_many_9 : decode cX10_many 9 = .ok (.getfield 32, 3) := by decide +kernel
theorem dX10_many_12 : decode cX10_many 12 = .ok (.invokevirtual 232, 3) := by decide +kernel
theorem dX10_many_15 : decode cX10_many 15 = .ok (.ireturn, 1) := by decide +kernel
theorem dX10_must_0 : decode cX10_must 0 = .ok (.aload_n 0, 1) := by decide +kernel
theorem dX10_must_1 : decode cX10_must 1 = .ok (.getfield 10, 3) := by decide +kernel
theorem dX10_must_4 : decode cX10_must 4 = .ok (.iload_n 1, 1) := by decide +kernel
theorem dX10_must_5 : decode cX10_must 5 = .ok (.invokevirtual 129, 3) := by decide +kernel
theorem dX10_must_8 : decode cX10_must 8 = .ok (.ifCond .ne 6, 3) := by decide +kernel
theorem dX10_must_11 : decode cX10_must 11 = .ok (.bipush (-2), 2) := by decide +kernel
theorem dX10_must_13 : decode cX10_must 13 = .ok (.ireturn, 1) := by decide +kernel
theorem dX10_must_14 : decode cX10_must 14 = .ok (.aload_n 0, 1) := by decide +kernel
theorem dX10_must_15 : decode cX10_must 15 = .ok (.invokevirtual 220, 3) := by decide +kernel
theorem dX10_must_18 : decode cX10_must 18 = .ok (.aload_n 0, 1) := by decide +kernel
theorem dX10_must_19 : decode cX10_must 19 = .ok (.getfield 73, 3) := by decide +kernel
theorem dX10_must_22 : decode cX10_must 22 = .ok (.iload_n 1, 1) := by decide +kernel
theorem dX10_must_23 : decode cX10_must 23 = .ok (.invokevirtual 240, 3) := by decide +kernel
theorem dX10_must_26 : decode cX10_must 26 = .ok (.ireturn, 1) := by decide +kernel
theorem dX10_room_0 : decode cX10_room 0 = .ok (.aload_n 0, 1) := by decide +kernel
theorem dX10_room_1 : decode cX10_room 1 = .ok (.getfield 10, 3) := by decide +kernel
theorem dX10_room_4 : decode cX10_room 4 = .ok (.iload_n 1, 1) := by decide +kernel
theorem dX10_room_5 : decode cX10_room 5 = .ok (.invokevirtual 129, 3) := by decide +kernel
theorem dX10_room_8 : decode cX10_room 8 = .ok (.ifCond .ne 6, 3) := by decide +kernel
theorem dX10_room_11 : decode cX10_room 11 = .ok (.bipush (-2), 2) := by decide +kernel
theorem dX10_room_13 : decode cX10_room 13 = .ok (.ireturn, 1) := by decide +kernel
theorem dX10_room_14 : decode cX10_room 14 = .ok (.aload_n 0, 1) := by decide +kernel
theorem dX10_room_15 : decode cX10_room 15 = .ok (.invokevirtual 220, 3) := by decide +kernel
theorem dX10_room_18 : decode cX10_room 18 = .ok (.aload_n 0, 1) := by decide +kernel
theorem dX10_room_19 : decode cX10_room 19 = .ok (.getfield 73, 3) := by decide +kernel
theorem dX10_room_22 : decode cX10_room 22 = .ok (.aload_n 0, 1) := by decide +kernel
theorem dX10_room_23 : decode cX10_room 23 = .ok (.getfield 32, 3) := by decide +kernel
theorem dX10_room_26 : decode cX10_room 26 = .ok (.iload_n 1, 1) := by decide +kernel
theorem dX10_room_27 : decode cX10_room 27 = .ok (.invokevirtual 243, 3) := by decide +kernel
theorem dX10_room_30 : decode cX10_room 30 = .ok (.ireturn, 1) := by decide +kernel
theorem dX10_gain_0 : decode cX10_gain 0 = .ok (.aload_n 0, 1) := by decide +kernel
theorem dX10_gain_1 : decode cX10_gain 1 = .ok (.getfield 10, 3) := by decide +kernel
theorem dX10_gain_4 : decode cX10_gain 4 = .ok (.iload_n 1, 1) := by decide +kernel
theorem dX10_gain_5 : decode cX10_gain 5 = .ok (.invokevirtual 129, 3) := by decide +kernel
theorem dX10_gain_8 : decode cX10_gain 8 = .ok (.ifCond .ne 6, 3) := by decide +kernel
theorem dX10_gain_11 : decode cX10_gain 11 = .ok (.bipush (-2), 2) := by decide +kernel
theorem dX10_gain_13 : decode cX10_gain 13 = .ok (.ireturn, 1) := by decide +kernel
theorem dX10_gain_14 : decode cX10_gain 14 = .ok (.aload_n 0, 1) := by decide +kernel
theorem dX10_gain_15 : decode cX10_gain 15 = .ok (.invokevirtual 220, 3) := by decide +kernel
theorem dX10_gain_18 : decode cX10_gain 18 = .ok (.aload_n 0, 1) := by decide +kernel
theorem dX10_gain_19 : decode cX10_gain 19 = .ok (.getfield 36, 3) := by decide +kernel
theorem dX10_gain_22 : decode cX10_gain 22 = .ok (.aload_n 0, 1) := by decide +kernel
theorem dX10_gain_23 : decode cX10_gain 23 = .ok (.getfield 32, 3) := by decide +kernel
theorem dX10_gain_26 : decode cX10_gain 26 = .ok (.invokevirtual 201, 3) := by decide +kernel
theorem dX10_gain_29 : decode cX10_gain 29 = .ok (.aload_n 0, 1) := by decide +kernel
theorem dX10_gain_30 : decode cX10_gain 30 = .ok (.getfield 36, 3) := by decide +kernel
theorem dX10_gain_33 : decode cX10_gain 33 = .ok (.iload_n 1, 1) := by decide +kernel
theorem dX10_gain_34 : decode cX10_gain 34 = .ok (.invokevirtual 247, 3) := by decide +kernel
theorem dX10_gain_37 : decode cX10_gain 37 = .ok (.aload_n 0, 1) := by decide +kernel
theorem dX10_gain_38 : decode cX10_gain 38 = .ok (.getfield 66, 3) := by decide +kernel
theorem dX10_gain_41 : decode cX10_gain 41 = .ok (.aload_n 0, 1) := by decide +kernel
theorem dX10_gain_42 : decode cX10_gain 42 = .ok (.getfield 36, 3) := by decide +kernel
theorem dX10_gain_45 : decode cX10_gain 45 = .ok (.invokevirtual 250, 3) := by decide +kernel
theorem dX10_gain_48 : decode cX10_gain 48 = .ok (.aload_n 0, 1) := by decide +kernel
theorem dX10_gain_49 : decode cX10_gain 49 = .ok (.getfield 223, 3) := by decide +kernel
theorem dX10_gain_52 : decode cX10_gain 52 = .ok (.aload_n 0, 1) := by decide +kernel
theorem dX10_gain_53 : decode cX10_gain 53 = .ok (.getfield 66, 3) := by decide +kernel
theorem dX10_gain_56 : decode cX10_gain 56 = .ok (.getfield 251, 3) := by decide +kernel
theorem dX10_gain_59 : decode cX10_gain 59 = .ok (.isub, 1) := by decide +kernel
theorem dX10_gain_60 : decode cX10_gain 60 = .ok (.ireturn, 1) := by decide +kernel
theorem dX10_judge_0 : decode cX10_judge 0 = .ok (.aload_n 0, 1) := by decide +kernel
theorem dX10_judge_1 : decode cX10_judge 1 = .ok (.iload_n 1, 1) := by decide +kernel
theorem dX10_judge_2 : decode cX10_judge 2 = .ok (.invokevirtual 254, 3) := by decide +kernel
theorem dX10_judge_5 : decode cX10_judge 5 = .ok (.ifCond .eq 12, 3) := by decide +kernel
theorem dX10_judge_8 : decode cX10_judge 8 = .ok (.iload_n 2, 1) := by decide +kernel
theorem dX10_judge_9 : decode cX10_judge 9 = .ok (.ifCond .lt 8, 3) := by decide +kernel
theorem dX10_judge_12 : decode cX10_judge 12 = .ok (.iload_n 2, 1) := by decide +kernel
theorem dX10_judge_13 : decode cX10_judge 13 = .ok (.iconst 3, 1) := by decide +kernel
theorem dX10_judge_14 : decode cX10_judge 14 = .ok (.if_icmp .le 7, 3) := by decide +kernel
theorem dX10_judge_17 : decode cX10_judge 17 = .ok (.ldc2_w 257, 3) := by decide +kernel
theorem dX10_judge_20 : decode cX10_judge 20 = .ok (.lreturn, 1) := by decide +kernel
theorem dX10_judge_21 : decode cX10_judge 21 = .ok (.aload_n 0, 1) := by decide +kernel
theorem dX10_judge_22 : decode cX10_judge 22 = .ok (.getfield 86, 3) := by decide +kernel
theorem dX10_judge_25 : decode cX10_judge 25 = .ok (.iload_n 1, 1) := by decide +kernel
theorem dX10_judge_26 : decode cX10_judge 26 = .ok (.aaload, 1) := by decide +kernel
theorem dX10_judge_27 : decode cX10_judge 27 = .ok (.invokevirtual 259, 3) := by decide +kernel
theorem dX10_judge_30 : decode cX10_judge 30 = .ok (.ifCond .eq 7, 3) := by decide +kernel
theorem dX10_judge_33 : decode cX10_judge 33 = .ok (.ldc2_w 263, 3) := by decide +kernel
theorem dX10_judge_36 : decode cX10_judge 36 = .ok (.lreturn, 1) := by decide +kernel
theorem dX10_judge_37 : decode cX10_judge 37 = .ok (.aload_n 0, 1) := by decide +kernel
theorem dX10_judge_38 : decode cX10_judge 38 = .ok (.aload_n 0, 1) := by decide +kernel
theorem dX10_judge_39 : decode cX10_judge 39 = .ok (.getfield 86, 3) := by decide +kernel
theorem dX10_judge_42 : decode cX10_judge 42 = .ok (.iload_n 1, 1) := by decide +kernel
theorem dX10_judge_43 : decode cX10_judge 43 = .ok (.aaload, 1) := by decide +kernel
theorem dX10_judge_44 : decode cX10_judge 44 = .ok (.invokevirtual 265, 3) := by decide +kernel
theorem dX10_judge_47 : decode cX10_judge 47 = .ok (.ifCond .ne 7, 3) := by decide +kernel
theorem dX10_judge_50 : decode cX10_judge 50 = .ok (.ldc2_w 269, 3) := by decide +kernel
theorem dX10_judge_53 : decode cX10_judge 53 = .ok (.lreturn, 1) := by decide +kernel
theorem dX10_judge_54 : decode cX10_judge 54 = .ok (.iload_n 2, 1) := by decide +kernel
theorem dX10_judge_55 : decode cX10_judge 55 = .ok (.tableswitch 67 0 2 #[25, 34, 43], 25) := by decide +kernel
theorem dX10_judge_80 : decode cX10_judge 80 = .ok (.aload_n 0, 1) := by decide +kernel
theorem dX10_judge_81 : decode cX10_judge 81 = .ok (.getfield 46, 3) := by decide +kernel
theorem dX10_judge_84 : decode cX10_judge 84 = .ok (.getfield 160, 3) := by decide +kernel
theorem dX10_judge_87 : decode cX10_judge 87 = .ok (.i2l, 1) := by decide +kernel
theorem dX10_judge_88 : decode cX10_judge 88 = .ok (.lreturn, 1) := by decide +kernel
theorem dX10_judge_89 : decode cX10_judge 89 = .ok (.aload_n 0, 1) := by decide +kernel
theorem dX10_judge_90 : decode cX10_judge 90 = .ok (.getfield 46, 3) := by decide +kernel
theorem dX10_judge_93 : decode cX10_judge 93 = .ok (.getfield 163, 3) := by decide +kernel
theorem dX10_judge_96 : decode cX10_judge 96 = .ok (.i2l, 1) := by decide +kernel
theorem dX10_judge_97 : decode cX10_judge 97 = .ok (.lreturn, 1) := by decide +kernel
theorem dX10_judge_98 : decode cX10_judge 98 = .ok (.aload_n 0, 1) := by decide +kernel
theorem dX10_judge_99 : decode cX10_judge 99 = .ok (.getfield 42, 3) := by decide +kernel
theorem dX10_judge_102 : decode cX10_judge 102 = .ok (.aload_n 0, 1) := by decide +kernel
theorem dX10_judge_103 : decode cX10_judge 103 = .ok (.getfield 32, 3) := by decide +kernel
theorem dX10_judge_106 : decode cX10_judge 106 = .ok (.invokevirtual 156, 3) := by decide +kernel
theorem dX10_judge_109 : decode cX10_judge 109 = .ok (.aload_n 0, 1) := by decide +kernel
theorem dX10_judge_110 : decode cX10_judge 110 = .ok (.getfield 46, 3) := by decide +kernel
theorem dX10_judge_113 : decode cX10_judge 113 = .ok (.aload_n 0, 1) := by decide +kernel
theorem dX10_judge_114 : decode cX10_judge 114 = .ok (.getfield 42, 3) := by decide +kernel
theorem dX10_judge_117 : decode cX10_judge 117 = .ok (.invokevirtual 271, 3) := by decide +kernel
theorem dX10_judge_120 : decode cX10_judge 120 = .ok (.i2l, 1) := by decide +kernel
theorem dX10_judge_121 : decode cX10_judge 121 = .ok (.lreturn, 1) := by decide +kernel
theorem dX10_judge_122 : decode cX10_judge 122 = .ok (.aload_n 0, 1) := by decide +kernel
theorem dX10_judge_123 : decode cX10_judge 123 = .ok (.getfield 46, 3) := by decide +kernel
theorem dX10_judge_126 : decode cX10_judge 126 = .ok (.aload_n 0, 1) := by decide +kernel
theorem dX10_judge_127 : decode cX10_judge 127 = .ok (.getfield 32, 3) := by decide +kernel
theorem dX10_judge_130 : decode cX10_judge 130 = .ok (.invokevirtual 275, 3) := by decide +kernel
theorem dX10_judge_133 : decode cX10_judge 133 = .ok (.i2l, 1) := by decide +kernel
theorem dX10_judge_134 : decode cX10_judge 134 = .ok (.lreturn, 1) := by decide +kernel
theorem dX10_film_0 : decode cX10_film 0 = .ok (.aload_n 0, 1) := by decide +kernel
theorem dX10_film_1 : decode cX10_film 1 = .ok (.iload_n 1, 1) := by decide +kernel
theorem dX10_film_2 : decode cX10_film 2 = .ok (.invokevirtual 254, 3) := by decide +kernel
theorem dX10_film_5 : decode cX10_film 5 = .ok (.ifCond .ne 6, 3) := by decide +kernel
theorem dX10_film_8 : decode cX10_film 8 = .ok (.bipush (-2), 2) := by decide +kernel
theorem dX10_film_10 : decode cX10_film 10 = .ok (.ireturn, 1) := by decide +kernel
theorem dX10_film_11 : decode cX10_film 11 = .ok (.aload_n 0, 1) := by decide +kernel
theorem dX10_film_12 : decode cX10_film 12 = .ok (.invokevirtual 220, 3) := by decide +kernel
theorem dX10_film_15 : decode cX10_film 15 = .ok (.aload_n 0, 1) := by decide +kernel
theorem dX10_film_16 : decode cX10_film 16 = .ok (.getfield 73, 3) := by decide +kernel
theorem dX10_film_19 : decode cX10_film 19 = .ok (.aload_n 0, 1) := by decide +kernel
theorem dX10_film_20 : decode cX10_film 20 = .ok (.getfield 32, 3) := by decide +kernel
theorem dX10_film_23 : decode cX10_film 23 = .ok (.aload_n 0, 1) := by decide +kernel
theorem dX10_film_24 : decode cX10_film 24 = .ok (.getfield 46, 3) := by decide +kernel
theorem dX10_film_27 : decode cX10_film 27 = .ok (.invokevirtual 236, 3) := by decide +kernel
theorem dX10_film_30 : decode cX10_film 30 = .ok (.aload_n 0, 1) := by decide +kernel
theorem dX10_film_31 : decode cX10_film 31 = .ok (.getfield 86, 3) := by decide +kernel
theorem dX10_film_34 : decode cX10_film 34 = .ok (.iload_n 1, 1) := by decide +kernel
theorem dX10_film_35 : decode cX10_film 35 = .ok (.aaload, 1) := by decide +kernel
theorem dX10_film_36 : decode cX10_film 36 = .ok (.astore_n 2, 1) := by decide +kernel
theorem dX10_film_37 : decode cX10_film 37 = .ok (.aload_n 2, 1) := by decide +kernel
theorem dX10_film_38 : decode cX10_film 38 = .ok (.iconst 0, 1) := by decide +kernel
theorem dX10_film_39 : decode cX10_film 39 = .ok (.aload_n 0, 1) := by decide +kernel
theorem dX10_film_40 : decode cX10_film 40 = .ok (.getfield 10, 3) := by decide +kernel
theorem dX10_film_43 : decode cX10_film 43 = .ok (.getfield 113, 3) := by decide +kernel
theorem dX10_film_46 : decode cX10_film 46 = .ok (.invokevirtual 278, 3) := by decide +kernel
theorem dX10_film_49 : decode cX10_film 49 = .ok (.iconst 0, 1) := by decide +kernel
theorem dX10_film_50 : decode cX10_film 50 = .ok (.istore_n 3, 1) := by decide +kernel
theorem dX10_film_51 : decode cX10_film 51 = .ok (.iload_n 3, 1) := by decide +kernel
theorem dX10_film_52 : decode cX10_film 52 = .ok (.aload_n 0, 1) := by decide +kernel
theorem dX10_film_53 : decode cX10_film 53 = .ok (.getfield 10, 3) := by decide +kernel
theorem dX10_film_56 : decode cX10_film 56 = .ok (.getfield 113, 3) := by decide +kernel
theorem dX10_film_59 : decode cX10_film 59 = .ok (.if_icmp .ge 23, 3) := by decide +kernel
theorem dX10_film_62 : decode cX10_film 62 = .ok (.aload_n 2, 1) := by decide +kernel
theorem dX10_film_63 : decode cX10_film 63 = .ok (.iload_n 3, 1) := by decide +kernel
theorem dX10_film_64 : decode cX10_film 64 = .ok (.aload_n 0, 1) := by decide +kernel
theorem dX10_film_65 : decode cX10_film 65 = .ok (.getfield 46, 3) := by decide +kernel
theorem dX10_film_68 : decode cX10_film 68 = .ok (.iload_n 3, 1) := by decide +kernel
theorem dX10_film_69 : decode cX10_film 69 = .ok (.invokevirtual 169, 3) := by decide +kernel
theorem dX10_film_72 : decode cX10_film 72 = .ok (.i2l, 1) := by decide +kernel
theorem dX10_film_73 : decode cX10_film 73 = .ok (.invokevirtual 282, 3) := by decide +kernel
theorem dX10_film_76 : decode cX10_film 76 = .ok (.iinc 3 1, 3) := by decide +kernel
theorem dX10_film_79 : decode cX10_film 79 = .ok (.goto (-28), 3) := by decide +kernel
theorem dX10_film_82 : decode cX10_film 82 = .ok (.aload_n 0, 1) := by decide +kernel
theorem dX10_film_83 : decode cX10_film 83 = .ok (.getfield 10, 3) := by decide +kernel
theorem dX10_film_86 : decode cX10_film 86 = .ok (.getfield 113, 3) := by decide +kernel
theorem dX10_film_89 : decode cX10_film 89 = .ok (.ireturn, 1) := by decide +kernel
theorem dX10_drawn_0 : decode cX10_drawn 0 = .ok (.iload_n 2, 1) := by decide +kernel
theorem dX10_drawn_1 : decode cX10_drawn 1 = .ok (.ifCond .lt 9, 3) := by decide +kernel
theorem dX10_drawn_4 : decode cX10_drawn 4 = .ok (.iload_n 2, 1) := by decide +kernel
theorem dX10_drawn_5 : decode cX10_drawn 5 = .ok (.bipush 30, 2) := by decide +kernel
theorem dX10_drawn_7 : decode cX10_drawn 7 = .ok (.if_icmp .le 6, 3) := by decide +kernel
theorem dX10_drawn_10 : decode cX10_drawn 10 = .ok (.bipush (-2), 2) := by decide +kernel
theorem dX10_drawn_12 : decode cX10_drawn 12 = .ok (.ireturn, 1) := by decide +kernel
theorem dX10_drawn_13 : decode cX10_drawn 13 = .ok (.aload_n 0, 1) := by decide +kernel
theorem dX10_drawn_14 : decode cX10_drawn 14 = .ok (.getfield 36, 3) := by decide +kernel
theorem dX10_drawn_17 : decode cX10_drawn 17 = .ok (.aload_n 0, 1) := by decide +kernel
theorem dX10_drawn_18 : decode cX10_drawn 18 = .ok (.getfield 32, 3) := by decide +kernel
theorem dX10_drawn_21 : decode cX10_drawn 21 = .ok (.invokevirtual 201, 3) := by decide +kernel
theorem dX10_drawn_24 : decode cX10_drawn 24 = .ok (.aload_n 0, 1) := by decide +kernel
theorem dX10_drawn_25 : decode cX10_drawn 25 = .ok (.getfield 36, 3) := by decide +kernel
theorem dX10_drawn_28 : decode cX10_drawn 28 = .ok (.iload_n 1, 1) := by decide +kernel
theorem dX10_drawn_29 : decode cX10_drawn 29 = .ok (.iload_n 2, 1) := by decide +kernel
theorem dX10_drawn_30 : decode cX10_drawn 30 = .ok (.invokevirtual 286, 3) := by decide +kernel
theorem dX10_drawn_33 : decode cX10_drawn 33 = .ok (.aload_n 0, 1) := by decide +kernel
theorem dX10_drawn_34 : decode cX10_drawn 34 = .ok (.getfield 66, 3) := by decide +kernel
theorem dX10_drawn_37 : decode cX10_drawn 37 = .ok (.aload_n 0, 1) := by decide +kernel
theorem dX10_drawn_38 : decode cX10_drawn 38 = .ok (.getfield 36, 3) := by decide +kernel
theorem dX10_drawn_41 : decode cX10_drawn 41 = .ok (.invokevirtual 250, 3) := by decide +kernel
theorem dX10_drawn_44 : decode cX10_drawn 44 = .ok (.aload_n 0, 1) := by decide +kernel
theorem dX10_drawn_45 : decode cX10_drawn 45 = .ok (.getfield 66, 3) := by decide +kernel
theorem dX10_drawn_48 : decode cX10_drawn 48 = .ok (.getfield 251, 3) := by decide +kernel
theorem dX10_drawn_51 : decode cX10_drawn 51 = .ok (.ireturn, 1) := by decide +kernel
theorem dX10_go_0 : decode cX10_go 0 = .ok (.iload_n 1, 1) := by decide +kernel
theorem dX10_go_1 : decode cX10_go 1 = .ok (.iconst 1, 1) := by decide +kernel
theorem dX10_go_2 : decode cX10_go 2 = .ok (.if_icmp .lt 9, 3) := by decide +kernel
theorem dX10_go_5 : decode cX10_go 5 = .ok (.iload_n 1, 1) := by decide +kernel
theorem dX10_go_6 : decode cX10_go 6 = .ok (.bipush 60, 2) := by decide +kernel
theorem dX10_go_8 : decode cX10_go 8 = .ok (.if_icmp .le 6, 3) := by decide +kernel
theorem dX10_go_11 : decode cX10_go 11 = .ok (.bipush (-2), 2) := by decide +kernel
theorem dX10_go_13 : decode cX10_go 13 = .ok (.ireturn, 1) := by decide +kernel
theorem dX10_go_14 : decode cX10_go 14 = .ok (.aload_n 0, 1) := by decide +kernel
theorem dX10_go_15 : decode cX10_go 15 = .ok (.getfield 80, 3) := by decide +kernel
theorem dX10_go_18 : decode cX10_go 18 = .ok (.getfield 289, 3) := by decide +kernel
theorem dX10_go_21 : decode cX10_go 21 = .ok (.iload_n 1, 1) := by decide +kernel
theorem dX10_go_22 : decode cX10_go 22 = .ok (.iadd, 1) := by decide +kernel
theorem dX10_go_23 : decode cX10_go 23 = .ok (.sipush 999, 3) := by decide +kernel
theorem dX10_go_26 : decode cX10_go 26 = .ok (.if_icmp .le 6, 3) := by decide +kernel
theorem dX10_go_29 : decode cX10_go 29 = .ok (.bipush (-4), 2) := by decide +kernel
theorem dX10_go_31 : decode cX10_go 31 = .ok (.ireturn, 1) := by decide +kernel
theorem dX10_go_32 : decode cX10_go 32 = .ok (.iconst 0, 1) := by decide +kernel
theorem dX10_go_33 : decode cX10_go 33 = .ok (.istore_n 2, 1) := by decide +kernel
theorem dX10_go_34 : decode cX10_go 34 = .ok (.iload_n 2, 1) := by decide +kernel
theorem dX10_go_35 : decode cX10_go 35 = .ok (.iload_n 1, 1) := by decide +kernel
theorem dX10_go_36 : decode cX10_go 36 = .ok (.if_icmp .ge 20, 3) := by decide +kernel
theorem dX10_go_39 : decode cX10_go 39 = .ok (.aload_n 0, 1) := by decide +kernel
theorem dX10_go_40 : decode cX10_go 40 = .ok (.getfield 80, 3) := by decide +kernel
theorem dX10_go_43 : decode cX10_go 43 = .ok (.aload_n 0, 1) := by decide +kernel
theorem dX10_go_44 : decode cX10_go 44 = .ok (.getfield 32, 3) := by decide +kernel
theorem dX10_go_47 : decode cX10_go 47 = .ok (.invokevirtual 292, 3) := by decide +kernel
theorem dX10_go_50 : decode cX10_go 50 = .ok (.iinc 2 1, 3) := by decide +kernel
theorem dX10_go_53 : decode cX10_go 53 = .ok (.goto (-19), 3) := by decide +kernel
theorem dX10_go_56 : decode cX10_go 56 = .ok (.aload_n 0, 1) := by decide +kernel
theorem dX10_go_57 : decode cX10_go 57 = .ok (.getfield 80, 3) := by decide +kernel
theorem dX10_go_60 : decode cX10_go 60 = .ok (.getfield 289, 3) := by decide +kernel
theorem dX10_go_63 : decode cX10_go 63 = .ok (.ireturn, 1) := by decide +kernel
theorem dX10_bench_0 : decode cX10_bench 0 = .ok (.iload_n 1, 1) := by decide +kernel
theorem dX10_bench_1 : decode cX10_bench 1 = .ok (.tableswitch 63 0 3 #[31, 39, 47, 55], 31) := by decide +kernel
theorem dX10_bench_32 : decode cX10_bench 32 = .ok (.aload_n 0, 1) := by decide +kernel
theorem dX10_bench_33 : decode cX10_bench 33 = .ok (.getfield 80, 3) := by decide +kernel
theorem dX10_bench_36 : decode cX10_bench 36 = .ok (.getfield 289, 3) := by decide +kernel
theorem dX10_bench_39 : decode cX10_bench 39 = .ok (.ireturn, 1) := by decide +kernel
theorem dX10_bench_40 : decode cX10_bench 40 = .ok (.aload_n 0, 1) := by decide +kernel
theorem dX10_bench_41 : decode cX10_bench 41 = .ok (.getfield 80, 3) := by decide +kernel
theorem dX10_bench_44 : decode cX10_bench 44 = .ok (.getfield 295, 3) := by decide +kernel
theorem dX10_bench_47 : decode cX10_bench 47 = .ok (.ireturn, 1) := by decide +kernel
theorem dX10_bench_48 : decode cX10_bench 48 = .ok (.aload_n 0, 1) := by decide +kernel
theorem dX10_bench_49 : decode cX10_bench 49 = .ok (.getfield 80, 3) := by decide +kernel
theorem dX10_bench_52 : decode cX10_bench 52 = .ok (.getfield 298, 3) := by decide +kernel
theorem dX10_bench_55 : decode cX10_bench 55 = .ok (.ireturn, 1) := by decide +kernel
theorem dX10_bench_56 : decode cX10_bench 56 = .ok (.aload_n 0, 1) := by decide +kernel
theorem dX10_bench_57 : decode cX10_bench 57 = .ok (.getfield 80, 3) := by decide +kernel
theorem dX10_bench_60 : decode cX10_bench 60 = .ok (.getfield 301, 3) := by decide +kernel
theorem dX10_bench_63 : decode cX10_bench 63 = .ok (.ireturn, 1) := by decide +kernel
theorem dX10_bench_64 : decode cX10_bench 64 = .ok (.bipush (-2), 2) := by decide +kernel
theorem dX10_bench_66 : decode cX10_bench 66 = .ok (.ireturn, 1) := by decide +kernel
theorem dX10_began_0 : decode cX10_began 0 = .ok (.aload_n 0, 1) := by decide +kernel
theorem dX10_began_1 : decode cX10_began 1 = .ok (.getfield 10, 3) := by decide +kernel
theorem dX10_began_4 : decode cX10_began 4 = .ok (.iload_n 1, 1) := by decide +kernel
theorem dX10_began_5 : decode cX10_began 5 = .ok (.invokevirtual 129, 3) := by decide +kernel
theorem dX10_began_8 : decode cX10_began 8 = .ok (.ifCond .ne 6, 3) := by decide +kernel
theorem dX10_began_11 : decode cX10_began 11 = .ok (.bipush (-2), 2) := by decide +kernel
theorem dX10_began_13 : decode cX10_began 13 = .ok (.ireturn, 1) := by decide +kernel
theorem dX10_began_14 : decode cX10_began 14 = .ok (.aload_n 0, 1) := by decide +kernel
theorem dX10_began_15 : decode cX10_began 15 = .ok (.getfield 80, 3) := by decide +kernel
theorem dX10_began_18 : decode cX10_began 18 = .ok (.iload_n 1, 1) := by decide +kernel
theorem dX10_began_19 : decode cX10_began 19 = .ok (.invokevirtual 302, 3) := by decide +kernel
theorem dX10_began_22 : decode cX10_began 22 = .ok (.ireturn, 1) := by decide +kernel
theorem dX10_image_0 : decode cX10_image 0 = .ok (.aload_n 0, 1) := by decide +kernel
theorem dX10_image_1 : decode cX10_image 1 = .ok (.getfield 16, 3) := by decide +kernel
theorem dX10_image_4 : decode cX10_image 4 = .ok (.aload_n 0, 1) := by decide +kernel
theorem dX10_image_5 : decode cX10_image 5 = .ok (.getfield 10, 3) := by decide +kernel
theorem dX10_image_8 : decode cX10_image 8 = .ok (.invokevirtual 305, 3) := by decide +kernel
theorem dX10_image_11 : decode cX10_image 11 = .ok (.aload_n 0, 1) := by decide +kernel
theorem dX10_image_12 : decode cX10_image 12 = .ok (.iconst 1, 1) := by decide +kernel
theorem dX10_image_13 : decode cX10_image 13 = .ok (.putfield 307, 3) := by decide +kernel
theorem dX10_image_16 : decode cX10_image 16 = .ok (.aload_n 0, 1) := by decide +kernel
theorem dX10_image_17 : decode cX10_image 17 = .ok (.getfield 16, 3) := by decide +kernel
theorem dX10_image_20 : decode cX10_image 20 = .ok (.getfield 113, 3) := by decide +kernel
theorem dX10_image_23 : decode cX10_image 23 = .ok (.ireturn, 1) := by decide +kernel
theorem dX10_back_0 : decode cX10_back 0 = .ok (.aload_n 0, 1) := by decide +kernel
theorem dX10_back_1 : decode cX10_back 1 = .ok (.getfield 307, 3) := by decide +kernel
theorem dX10_back_4 : decode cX10_back 4 = .ok (.ifCond .ne 6, 3) := by decide +kernel
theorem dX10_back_7 : decode cX10_back 7 = .ok (.bipush (-3), 2) := by decide +kernel
theorem dX10_back_9 : decode cX10_back 9 = .ok (.ireturn, 1) := by decide +kernel
theorem dX10_back_10 : decode cX10_back 10 = .ok (.aload_n 0, 1) := by decide +kernel
theorem dX10_back_11 : decode cX10_back 11 = .ok (.getfield 10, 3) := by decide +kernel
theorem dX10_back_14 : decode cX10_back 14 = .ok (.aload_n 0, 1) := by decide +kernel
theorem dX10_back_15 : decode cX10_back 15 = .ok (.getfield 16, 3) := by decide +kernel
theorem dX10_back_18 : decode cX10_back 18 = .ok (.invokevirtual 305, 3) := by decide +kernel
theorem dX10_back_21 : decode cX10_back 21 = .ok (.aload_n 0, 1) := by decide +kernel
theorem dX10_back_22 : decode cX10_back 22 = .ok (.invokevirtual 119, 3) := by decide +kernel
theorem dX10_back_25 : decode cX10_back 25 = .ok (.aload_n 0, 1) := by decide +kernel
theorem dX10_back_26 : decode cX10_back 26 = .ok (.getfield 10, 3) := by decide +kernel
theorem dX10_back_29 : decode cX10_back 29 = .ok (.getfield 113, 3) := by decide +kernel
theorem dX10_back_32 : decode cX10_back 32 = .ok (.ireturn, 1) := by decide +kernel
theorem dX10_count_0 : decode cX10_count 0 = .ok (.iload_n 1, 1) := by decide +kernel
theorem dX10_count_1 : decode cX10_count 1 = .ok (.tableswitch 51 0 2 #[27, 35, 43], 27) := by decide +kernel
theorem dX10_count_28 : decode cX10_count 28 = .ok (.aload_n 0, 1) := by decide +kernel
theorem dX10_count_29 : decode cX10_count 29 = .ok (.getfield 10, 3) := by decide +kernel
theorem dX10_count_32 : decode cX10_count 32 = .ok (.getfield 113, 3) := by decide +kernel
theorem dX10_count_35 : decode cX10_count 35 = .ok (.ireturn, 1) := by decide +kernel
theorem dX10_count_36 : decode cX10_count 36 = .ok (.aload_n 0, 1) := by decide +kernel
theorem dX10_count_37 : decode cX10_count 37 = .ok (.getfield 32, 3) := by decide +kernel
theorem dX10_count_40 : decode cX10_count 40 = .ok (.invokevirtual 311, 3) := by decide +kernel
theorem dX10_count_43 : decode cX10_count 43 = .ok (.ireturn, 1) := by decide +kernel
theorem dX10_count_44 : decode cX10_count 44 = .ok (.aload_n 0, 1) := by decide +kernel
theorem dX10_count_45 : decode cX10_count 45 = .ok (.getfield 25, 3) := by decide +kernel
theorem dX10_count_48 : decode cX10_count 48 = .ok (.getfield 102, 3) := by decide +kernel
theorem dX10_count_51 : decode cX10_count 51 = .ok (.ireturn, 1) := by decide +kernel
theorem dX10_count_52 : decode cX10_count 52 = .ok (.bipush (-2), 2) := by decide +kernel
theorem dX10_count_54 : decode cX10_count 54 = .ok (.ireturn, 1) := by decide +kernel
theorem dX10_isByte_0 : decode cX10_isByte 0 = .ok (.iload_n 0, 1) := by decide +kernel
theorem dX10_isByte_1 : decode cX10_isByte 1 = .ok (.ifCond .lt 14, 3) := by decide +kernel
theorem dX10_isByte_4 : decode cX10_isByte 4 = .ok (.iload_n 0, 1) := by decide +kernel
theorem dX10_isByte_5 : decode cX10_isByte 5 = .ok (.sipush 255, 3) := by decide +kernel
theorem dX10_isByte_8 : decode cX10_isByte 8 = .ok (.if_icmp .gt 7, 3) := by decide +kernel
theorem dX10_isByte_11 : decode cX10_isByte 11 = .ok (.iconst 1, 1) := by decide +kernel
theorem dX10_isByte_12 : decode cX10_isByte 12 = .ok (.goto 4, 3) := by decide +kernel
theorem dX10_isByte_15 : decode cX10_isByte 15 = .ok (.iconst 0, 1) := by decide +kernel
theorem dX10_isByte_16 : decode cX10_isByte 16 = .ok (.ireturn, 1) := by decide +kernel
theorem dX10_isSheet_0 : decode cX10_isSheet 0 = .ok (.iload_n 1, 1) := by decide +kernel
theorem dX10_isSheet_1 : decode cX10_isSheet 1 = .ok (.ifCond .lt 25, 3) := by decide +kernel
theorem dX10_isSheet_4 : decode cX10_isSheet 4 = .ok (.iload_n 1, 1) := by decide +kernel
theorem dX10_isSheet_5 : decode cX10_isSheet 5 = .ok (.aload_n 0, 1) := by decide +kernel
theorem dX10_isSheet_6 : decode cX10_isSheet 6 = .ok (.getfield 86, 3) := by decide +kernel
theorem dX10_isSheet_9 : decode cX10_isSheet 9 = .ok (.arraylength, 1) := by decide +kernel
theorem dX10_isSheet_10 : decode cX10_isSheet 10 = .ok (.if_icmp .ge 16, 3) := by decide +kernel
theorem dX10_isSheet_13 : decode cX10_isSheet 13 = .ok (.aload_n 0, 1) := by decide +kernel
theorem dX10_isSheet_14 : decode cX10_isSheet 14 = .ok (.getfield 86, 3) := by decide +kernel
theorem dX10_isSheet_17 : decode cX10_isSheet 17 = .ok (.iload_n 1, 1) := by decide +kernel
theorem dX10_isSheet_18 : decode cX10_isSheet 18 = .ok (.aaload, 1) := by decide +kernel
theorem dX10_isSheet_19 : decode cX10_isSheet 19 = .ok (.ifnull 7, 3) := by decide +kernel
theorem dX10_isSheet_22 : decode cX10_isSheet 22 = .ok (.iconst 1, 1) := by decide +kernel
theorem dX10_isSheet_23 : decode cX10_isSheet 23 = .ok (.goto 4, 3) := by decide +kernel
theorem dX10_isSheet_26 : decode cX10_isSheet 26 = .ok (.iconst 0, 1) := by decide +kernel
theorem dX10_isSheet_27 : decode cX10_isSheet 27 = .ok (.ireturn, 1) := by decide +kernel
theorem dX10_tellAnew_0 : decode cX10_tellAnew 0 = .ok (.aload_n 0, 1) := by decide +kernel
theorem dX10_tellAnew_1 : decode cX10_tellAnew 1 = .ok (.getfield 32, 3) := by decide +kernel
theorem dX10_tellAnew_4 : decode cX10_tellAnew 4 = .ok (.aload_n 0, 1) := by decide +kernel
theorem dX10_tellAnew_5 : decode cX10_tellAnew 5 = .ok (.getfield 10, 3) := by decide +kernel
theorem dX10_tellAnew_8 : decode cX10_tellAnew 8 = .ok (.invokevirtual 331, 3) := by decide +kernel
theorem dX10_tellAnew_11 : decode cX10_tellAnew 11 = .ok (.aload_n 0, 1) := by decide +kernel
theorem dX10_tellAnew_12 : decode cX10_tellAnew 12 = .ok (.getfield 80, 3) := by decide +kernel
theorem dX10_tellAnew_15 : decode cX10_tellAnew 15 = .ok (.invokevirtual 334, 3) := by decide +kernel
theorem dX10_tellAnew_18 : decode cX10_tellAnew 18 = .ok (.aload_n 0, 1) := by decide +kernel
theorem dX10_tellAnew_19 : decode cX10_tellAnew 19 = .ok (.iconst 0, 1) := by decide +kernel
theorem dX10_tellAnew_20 : decode cX10_tellAnew 20 = .ok (.putfield 337, 3) := by decide +kernel
theorem dX10_tellAnew_23 : decode cX10_tellAnew 23 = .ok (.return_, 1) := by decide +kernel
theorem dX10_knowLeast_0 : decode cX10_knowLeast 0 = .ok (.aload_n 0, 1) := by decide +kernel
theorem dX10_knowLeast_1 : decode cX10_knowLeast 1 = .ok (.getfield 337, 3) := by decide +kernel
theorem dX10_knowLeast_4 : decode cX10_knowLeast 4 = .ok (.ifCond .eq 4, 3) := by decide +kernel
theorem dX10_knowLeast_7 : decode cX10_knowLeast 7 = .ok (.return_, 1) := by decide +kernel
theorem dX10_knowLeast_8 : decode cX10_knowLeast 8 = .ok (.aload_n 0, 1) := by decide +kernel
theorem dX10_knowLeast_9 : decode cX10_knowLeast 9 = .ok (.getfield 36, 3) := by decide +kernel
theorem dX10_knowLeast_12 : decode cX10_knowLeast 12 = .ok (.aload_n 0, 1) := by decide +kernel
theorem dX10_knowLeast_13 : decode cX10_knowLeast 13 = .ok (.getfield 32, 3) := by decide +kernel
theorem dX10_knowLeast_16 : decode cX10_knowLeast 16 = .ok (.invokevirtual 201, 3) := by decide +kernel
theorem dX10_knowLeast_19 : decode cX10_knowLeast 19 = .ok (.aload_n 0, 1) := by decide +kernel
theorem dX10_knowLeast_20 : decode cX10_knowLeast 20 = .ok (.getfield 66, 3) := by decide +kernel
theorem dX10_knowLeast_23 : decode cX10_knowLeast 23 = .ok (.aload_n 0, 1) := by decide +kernel
theorem dX10_knowLeast_24 : decode cX10_knowLeast 24 = .ok (.getfield 36, 3) := by decide +kernel
theorem dX10_knowLeast_27 : decode cX10_knowLeast 27 = .ok (.invokevirtual 250, 3) := by decide +kernel
theorem dX10_knowLeast_30 : decode cX10_knowLeast 30 = .ok (.aload_n 0, 1) := by decide +kernel
theorem dX10_knowLeast_31 : decode cX10_knowLeast 31 = .ok (.aload_n 0, 1) := by decide +kernel
theorem dX10_knowLeast_32 : decode cX10_knowLeast 32 = .ok (.getfield 66, 3) := by decide +kernel
theorem dX10_knowLeast_35 : decode cX10_knowLeast 35 = .ok (.getfield 251, 3) := by decide +kernel
theorem dX10_knowLeast_38 : decode cX10_knowLeast 38 = .ok (.putfield 223, 3) := by decide +kernel
theorem dX10_knowLeast_41 : decode cX10_knowLeast 41 = .ok (.aload_n 0, 1) := by decide +kernel
theorem dX10_knowLeast_42 : decode cX10_knowLeast 42 = .ok (.aload_n 0, 1) := by decide +kernel
theorem dX10_knowLeast_43 : decode cX10_knowLeast 43 = .ok (.getfield 66, 3) := by decide +kernel
theorem dX10_knowLeast_46 : decode cX10_knowLeast 46 = .ok (.getfield 343, 3) := by decide +kernel
theorem dX10_knowLeast_49 : decode cX10_knowLeast 49 = .ok (.putfield 226, 3) := by decide +kernel
theorem dX10_knowLeast_52 : decode cX10_knowLeast 52 = .ok (.aload_n 0, 1) := by decide +kernel
theorem dX10_knowLeast_53 : decode cX10_knowLeast 53 = .ok (.aload_n 0, 1) := by decide +kernel
theorem dX10_knowLeast_54 : decode cX10_knowLeast 54 = .ok (.getfield 66, 3) := by decide +kernel
theorem dX10_knowLeast_57 : decode cX10_knowLeast 57 = .ok (.getfield 346, 3) := by decide +kernel
theorem dX10_knowLeast_60 : decode cX10_knowLeast 60 = .ok (.putfield 229, 3) := by decide +kernel
theorem dX10_knowLeast_63 : decode cX10_knowLeast 63 = .ok (.aload_n 0, 1) := by decide +kernel
theorem dX10_knowLeast_64 : decode cX10_knowLeast 64 = .ok (.getfield 73, 3) := by decide +kernel
theorem dX10_knowLeast_67 : decode cX10_knowLeast 67 = .ok (.aload_n 0, 1) := by decide +kernel
theorem dX10_knowLeast_68 : decode cX10_knowLeast 68 = .ok (.getfield 32, 3) := by decide +kernel
theorem dX10_knowLeast_71 : decode cX10_knowLeast 71 = .ok (.aload_n 0, 1) := by decide +kernel
theorem dX10_knowLeast_72 : decode cX10_knowLeast 72 = .ok (.getfield 223, 3) := by decide +kernel
theorem dX10_knowLeast_75 : decode cX10_knowLeast 75 = .ok (.invokevirtual 349, 3) := by decide +kernel
theorem dX10_knowLeast_78 : decode cX10_knowLeast 78 = .ok (.aload_n 0, 1) := by decide +kernel
theorem dX10_knowLeast_79 : decode cX10_knowLeast 79 = .ok (.iconst 1, 1) := by decide +kernel
theorem dX10_knowLeast_80 : decode cX10_knowLeast 80 = .ok (.putfield 337, 3) := by decide +kernel
theorem dX10_knowLeast_83 : decode cX10_knowLeast 83 = .ok (.return_, 1) := by decide +kernel
theorem dX10_layTold_0 : decode cX10_layTold 0 = .ok (.aload_n 1, 1) := by decide +kernel
theorem dX10_layTold_1 : decode cX10_layTold 1 = .ok (.getfield 353, 3) := by decide +kernel
theorem dX10_layTold_4 : decode cX10_layTold 4 = .ok (.aload_n 0, 1) := by decide +kernel
theorem dX10_layTold_5 : decode cX10_layTold 5 = .ok (.getfield 10, 3) := by decide +kernel
theorem dX10_layTold_8 : decode cX10_layTold 8 = .ok (.getfield 113, 3) := by decide +kernel
theorem dX10_layTold_11 : decode cX10_layTold 11 = .ok (.if_icmp .eq 5, 3) := by decide +kernel
theorem dX10_layTold_14 : decode cX10_layTold 14 = .ok (.iconst 0, 1) := by decide +kernel
theorem dX10_layTold_15 : decode cX10_layTold 15 = .ok (.ireturn, 1) := by decide +kernel
theorem dX10_layTold_16 : decode cX10_layTold 16 = .ok (.aload_n 0, 1) := by decide +kernel
theorem dX10_layTold_17 : decode cX10_layTold 17 = .ok (.getfield 46, 3) := by decide +kernel
theorem dX10_layTold_20 : decode cX10_layTold 20 = .ok (.invokevirtual 354, 3) := by decide +kernel
theorem dX10_layTold_23 : decode cX10_layTold 23 = .ok (.iconst 0, 1) := by decide +kernel
theorem dX10_layTold_24 : decode cX10_layTold 24 = .ok (.istore_n 2, 1) := by decide +kernel
theorem dX10_layTold_25 : decode cX10_layTold 25 = .ok (.iload_n 2, 1) := by decide +kernel
theorem dX10_layTold_26 : decode cX10_layTold 26 = .ok (.aload_n 1, 1) := by decide +kernel
theorem dX10_layTold_27 : decode cX10_layTold 27 = .ok (.getfield 353, 3) := by decide +kernel
theorem dX10_layTold_30 : decode cX10_layTold 30 = .ok (.if_icmp .ge 61, 3) := by decide +kernel
theorem dX10_layTold_33 : decode cX10_layTold 33 = .ok (.aload_n 1, 1) := by decide +kernel
theorem dX10_layTold_34 : decode cX10_layTold 34 = .ok (.iload_n 2, 1) := by decide +kernel
theorem dX10_layTold_35 : decode cX10_layTold 35 = .ok (.invokevirtual 317, 3) := by decide +kernel
theorem dX10_layTold_38 : decode cX10_layTold 38 = .ok (.lstore_n 3, 1) := by decide +kernel
theorem dX10_layTold_39 : decode cX10_layTold 39 = .ok (.lload_n 3, 1) := by decide +kernel
theorem dX10_layTold_40 : decode cX10_layTold 40 = .ok (.lconst 0, 1) := by decide +kernel
theorem dX10_layTold_41 : decode cX10_layTold 41 = .ok (.lcmp, 1) := by decide +kernel
theorem dX10_layTold_42 : decode cX10_layTold 42 = .ok (.ifCond .lt 28, 3) := by decide +kernel
theorem dX10_layTold_45 : decode cX10_layTold 45 = .ok (.lload_n 3, 1) := by decide +kernel
theorem dX10_layTold_46 : decode cX10_layTold 46 = .ok (.aload_n 0, 1) := by decide +kernel
theorem dX10_layTold_47 : decode cX10_layTold 47 = .ok (.getfield 10, 3) := by decide +kernel
theorem dX10_layTold_50 : decode cX10_layTold 50 = .ok (.getfield 113, 3) := by decide +kernel
theorem dX10_layTold_53 : decode cX10_layTold 53 = .ok (.i2l, 1) := by decide +kernel
theorem dX10_layTold_54 : decode cX10_layTold 54 = .ok (.lcmp, 1) := by decide +kernel
theorem dX10_layTold_55 : decode cX10_layTold 55 = .ok (.ifCond .ge 15, 3) := by decide +kernel
theorem dX10_layTold_58 : decode cX10_layTold 58 = .ok (.aload_n 0, 1) := by decide +kernel
theorem dX10_layTold_59 : decode cX10_layTold 59 = .ok (.getfield 46, 3) := by decide +kernel
theorem dX10_layTold_62 : decode cX10_layTold 62 = .ok (.lload_n 3, 1) := by decide +kernel
theorem dX10_layTold_63 : decode cX10_layTold 63 = .ok (.l2i, 1) := by decide +kernel
theorem dX10_layTold_64 : decode cX10_layTold 64 = .ok (.invokevirtual 355, 3) := by decide +kernel
theorem dX10_layTold_67 : decode cX10_layTold 67 = .ok (.ifCond .eq 5, 3) := by decide +kernel
theorem dX10_layTold_70 : decode cX10_layTold 70 = .ok (.iconst 0, 1) := by decide +kernel
theorem dX10_layTold_71 : decode cX10_layTold 71 = .ok (.ireturn, 1) := by decide +kernel
theorem dX10_layTold_72 : decode cX10_layTold 72 = .ok (.aload_n 0, 1) := by decide +kernel
theorem dX10_layTold_73 : decode cX10_layTold 73 = .ok (.getfield 46, 3) := by decide +kernel
theorem dX10_layTold_76 : decode cX10_layTold 76 = .ok (.aload_n 0, 1) := by decide +kernel
theorem dX10_layTold_77 : decode cX10_layTold 77 = .ok (.getfield 32, 3) := by decide +kernel
theorem dX10_layTold_80 : decode cX10_layTold 80 = .ok (.lload_n 3, 1) := by decide +kernel
theorem dX10_layTold_81 : decode cX10_layTold 81 = .ok (.l2i, 1) := by decide +kernel
theorem dX10_layTold_82 : decode cX10_layTold 82 = .ok (.invokevirtual 358, 3) := by decide +kernel
theorem dX10_layTold_85 : decode cX10_layTold 85 = .ok (.iinc 2 1, 3) := by decide +kernel
theorem dX10_layTold_88 : decode cX10_layTold 88 = .ok (.goto (-63), 3) := by decide +kernel
theorem dX10_layTold_91 : decode cX10_layTold 91 = .ok (.iconst 1, 1) := by decide +kernel
theorem dX10_layTold_92 : decode cX10_layTold 92 = .ok (.ireturn, 1) := by decide +kernel
