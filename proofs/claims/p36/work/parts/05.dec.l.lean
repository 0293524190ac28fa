theorem dL_at_0 : decode cL_at 0 = .ok (.iload_n 1, 1) := by decide +kernel
theorem dL_at_1 : decode cL_at 1 = .ok (.aload_n 0, 1) := by decide +kernel
theorem dL_at_2 : decode cL_at 2 = .ok (.arraylength, 1) := by decide +kernel
theorem dL_at_3 : decode cL_at 3 = .ok (.if_icmp .ge 9, 3) := by decide +kernel
theorem dL_at_6 : decode cL_at 6 = .ok (.aload_n 0, 1) := by decide +kernel
theorem dL_at_7 : decode cL_at 7 = .ok (.iload_n 1, 1) := by decide +kernel
theorem dL_at_8 : decode cL_at 8 = .ok (.iaload, 1) := by decide +kernel
theorem dL_at_9 : decode cL_at 9 = .ok (.goto 4, 3) := by decide +kernel
theorem dL_at_12 : decode cL_at 12 = .ok (.iconst 0, 1) := by decide +kernel
theorem dL_at_13 : decode cL_at 13 = .ok (.ireturn, 1) := by decide +kernel
theorem dL_some_0 : decode cL_some 0 = .ok (.iload_n 0, 1) := by decide +kernel
theorem dL_some_1 : decode cL_some 1 = .ok (.iload_n 1, 1) := by decide +kernel
theorem dL_some_2 : decode cL_some 2 = .ok (.irem, 1) := by decide +kernel
theorem dL_some_3 : decode cL_some 3 = .ok (.istore_n 2, 1) := by decide +kernel
theorem dL_some_4 : decode cL_some 4 = .ok (.iload_n 2, 1) := by decide +kernel
theorem dL_some_5 : decode cL_some 5 = .ok (.ifCond .ge 9, 3) := by decide +kernel
theorem dL_some_8 : decode cL_some 8 = .ok (.iload_n 2, 1) := by decide +kernel
theorem dL_some_9 : decode cL_some 9 = .ok (.iload_n 1, 1) := by decide +kernel
theorem dL_some_10 : decode cL_some 10 = .ok (.iadd, 1) := by decide +kernel
theorem dL_some_11 : decode cL_some 11 = .ok (.goto 4, 3) := by decide +kernel
theorem dL_some_14 : decode cL_some 14 = .ok (.iload_n 2, 1) := by decide +kernel
theorem dL_some_15 : decode cL_some 15 = .ok (.ireturn, 1) := by decide +kernel
theorem dL_bench_0 : decode cL_bench 0 = .ok (.new 7, 3) := by decide +kernel
theorem dL_bench_3 : decode cL_bench 3 = .ok (.dup, 1) := by decide +kernel
theorem dL_bench_4 : decode cL_bench 4 = .ok (.invokespecial 9, 3) := by decide +kernel
theorem dL_bench_7 : decode cL_bench 7 = .ok (.astore_n 1, 1) := by decide +kernel
theorem dL_bench_8 : decode cL_bench 8 = .ok (.aload_n 0, 1) := by decide +kernel
theorem dL_bench_9 : decode cL_bench 9 = .ok (.iconst 0, 1) := by decide +kernel
theorem dL_bench_10 : decode cL_bench 10 = .ok (.invokestatic 10, 3) := by decide +kernel
theorem dL_bench_13 : decode cL_bench 13 = .ok (.bipush 31, 2) := by decide +kernel
theorem dL_bench_15 : decode cL_bench 15 = .ok (.imul, 1) := by decide +kernel
theorem dL_bench_16 : decode cL_bench 16 = .ok (.aload_n 0, 1) := by decide +kernel
theorem dL_bench_17 : decode cL_bench 17 = .ok (.iconst 1, 1) := by decide +kernel
theorem dL_bench_18 : decode cL_bench 18 = .ok (.invokestatic 10, 3) := by decide +kernel
theorem dL_bench_21 : decode cL_bench 21 = .ok (.iadd, 1) := by decide +kernel
theorem dL_bench_22 : decode cL_bench 22 = .ok (.istore_n 2, 1) := by decide +kernel
theorem dL_bench_23 : decode cL_bench 23 = .ok (.aload_n 0, 1) := by decide +kernel
theorem dL_bench_24 : decode cL_bench 24 = .ok (.iconst 2, 1) := by decide +kernel
theorem dL_bench_25 : decode cL_bench 25 = .ok (.invokestatic 10, 3) := by decide +kernel
theorem dL_bench_28 : decode cL_bench 28 = .ok (.bipush 9, 2) := by decide +kernel
theorem dL_bench_30 : decode cL_bench 30 = .ok (.invokestatic 16, 3) := by decide +kernel
theorem dL_bench_33 : decode cL_bench 33 = .ok (.istore_n 3, 1) := by decide +kernel
theorem dL_bench_34 : decode cL_bench 34 = .ok (.iconst 2, 1) := by decide +kernel
theorem dL_bench_35 : decode cL_bench 35 = .ok (.aload_n 0, 1) := by decide +kernel
theorem dL_bench_36 : decode cL_bench 36 = .ok (.iconst 2, 1) := by decide +kernel
theorem dL_bench_37 : decode cL_bench 37 = .ok (.invokestatic 10, 3) := by decide +kernel
theorem dL_bench_40 : decode cL_bench 40 = .ok (.iconst 5, 1) := by decide +kernel
theorem dL_bench_41 : decode cL_bench 41 = .ok (.ishr, 1) := by decide +kernel
theorem dL_bench_42 : decode cL_bench 42 = .ok (.bipush 30, 2) := by decide +kernel
theorem dL_bench_44 : decode cL_bench 44 = .ok (.invokestatic 16, 3) := by decide +kernel
theorem dL_bench_47 : decode cL_bench 47 = .ok (.iadd, 1) := by decide +kernel
theorem dL_bench_48 : decode cL_bench 48 = .ok (.istore 4, 2) := by decide +kernel
theorem dL_bench_50 : decode cL_bench 50 = .ok (.iconst 0, 1) := by decide +kernel
theorem dL_bench_51 : decode cL_bench 51 = .ok (.istore 5, 2) := by decide +kernel
theorem dL_bench_53 : decode cL_bench 53 = .ok (.iload 5, 2) := by decide +kernel
theorem dL_bench_55 : decode cL_bench 55 = .ok (.iload_n 3, 1) := by decide +kernel
theorem dL_bench_56 : decode cL_bench 56 = .ok (.if_icmp .ge 61, 3) := by decide +kernel
theorem dL_bench_59 : decode cL_bench 59 = .ok (.iload_n 2, 1) := by decide +kernel
theorem dL_bench_60 : decode cL_bench 60 = .ok (.ldc 20, 2) := by decide +kernel
theorem dL_bench_62 : decode cL_bench 62 = .ok (.imul, 1) := by decide +kernel
theorem dL_bench_63 : decode cL_bench 63 = .ok (.sipush 12345, 3) := by decide +kernel
theorem dL_bench_66 : decode cL_bench 66 = .ok (.iadd, 1) := by decide +kernel
theorem dL_bench_67 : decode cL_bench 67 = .ok (.istore_n 2, 1) := by decide +kernel
theorem dL_bench_68 : decode cL_bench 68 = .ok (.aload_n 1, 1) := by decide +kernel
theorem dL_bench_69 : decode cL_bench 69 = .ok (.iload_n 2, 1) := by decide +kernel
theorem dL_bench_70 : decode cL_bench 70 = .ok (.bipush 7, 2) := by decide +kernel
theorem dL_bench_72 : decode cL_bench 72 = .ok (.ishr, 1) := by decide +kernel
theorem dL_bench_73 : decode cL_bench 73 = .ok (.bipush 6, 2) := by decide +kernel
theorem dL_bench_75 : decode cL_bench 75 = .ok (.invokestatic 16, 3) := by decide +kernel
theorem dL_bench_78 : decode cL_bench 78 = .ok (.iload_n 2, 1) := by decide +kernel
theorem dL_bench_79 : decode cL_bench 79 = .ok (.bipush 10, 2) := by decide +kernel
theorem dL_bench_81 : decode cL_bench 81 = .ok (.ishr, 1) := by decide +kernel
theorem dL_bench_82 : decode cL_bench 82 = .ok (.iload 4, 2) := by decide +kernel
theorem dL_bench_84 : decode cL_bench 84 = .ok (.invokestatic 16, 3) := by decide +kernel
theorem dL_bench_87 : decode cL_bench 87 = .ok (.iconst 1, 1) := by decide +kernel
theorem dL_bench_88 : decode cL_bench 88 = .ok (.iload_n 2, 1) := by decide +kernel
theorem dL_bench_89 : decode cL_bench 89 = .ok (.bipush 15, 2) := by decide +kernel
theorem dL_bench_91 : decode cL_bench 91 = .ok (.ishr, 1) := by decide +kernel
theorem dL_bench_92 : decode cL_bench 92 = .ok (.bipush 12, 2) := by decide +kernel
theorem dL_bench_94 : decode cL_bench 94 = .ok (.invokestatic 16, 3) := by decide +kernel
theorem dL_bench_97 : decode cL_bench 97 = .ok (.iadd, 1) := by decide +kernel
theorem dL_bench_98 : decode cL_bench 98 = .ok (.iload_n 2, 1) := by decide +kernel
theorem dL_bench_99 : decode cL_bench 99 = .ok (.bipush 19, 2) := by decide +kernel
theorem dL_bench_101 : decode cL_bench 101 = .ok (.ishr, 1) := by decide +kernel
theorem dL_bench_102 : decode cL_bench 102 = .ok (.bipush 25, 2) := by decide +kernel
theorem dL_bench_104 : decode cL_bench 104 = .ok (.invokestatic 16, 3) := by decide +kernel
theorem dL_bench_107 : decode cL_bench 107 = .ok (.invokevirtual 21, 3) := by decide +kernel
theorem dL_bench_110 : decode cL_bench 110 = .ok (.pop, 1) := by decide +kernel
theorem dL_bench_111 : decode cL_bench 111 = .ok (.iinc 5 1, 3) := by decide +kernel
theorem dL_bench_114 : decode cL_bench 114 = .ok (.goto (-61), 3) := by decide +kernel
theorem dL_bench_117 : decode cL_bench 117 = .ok (.aload_n 1, 1) := by decide +kernel
theorem dL_bench_118 : decode cL_bench 118 = .ok (.areturn, 1) := by decide +kernel
theorem dL_state_0 : decode cL_state 0 = .ok (.ldc2_w 25, 3) := by decide +kernel
theorem dL_state_3 : decode cL_state 3 = .ok (.lstore_n 1, 1) := by decide +kernel
theorem dL_state_4 : decode cL_state 4 = .ok (.iconst 0, 1) := by decide +kernel
theorem dL_state_5 : decode cL_state 5 = .ok (.istore_n 3, 1) := by decide +kernel
theorem dL_state_6 : decode cL_state 6 = .ok (.iload_n 3, 1) := by decide +kernel
theorem dL_state_7 : decode cL_state 7 = .ok (.aload_n 0, 1) := by decide +kernel
theorem dL_state_8 : decode cL_state 8 = .ok (.iconst 0, 1) := by decide +kernel
theorem dL_state_9 : decode cL_state 9 = .ok (.invokevirtual 27, 3) := by decide +kernel
theorem dL_state_12 : decode cL_state 12 = .ok (.if_icmp .ge 53, 3) := by decide +kernel
theorem dL_state_15 : decode cL_state 15 = .ok (.iconst 0, 1) := by decide +kernel
theorem dL_state_16 : decode cL_state 16 = .ok (.istore 4, 2) := by decide +kernel
theorem dL_state_18 : decode cL_state 18 = .ok (.iload 4, 2) := by decide +kernel
theorem dL_state_20 : decode cL_state 20 = .ok (.bipush 7, 2) := by decide +kernel
theorem dL_state_22 : decode cL_state 22 = .ok (.if_icmp .ge 24, 3) := by decide +kernel
theorem dL_state_25 : decode cL_state 25 = .ok (.ldc2_w 31, 3) := by decide +kernel
theorem dL_state_28 : decode cL_state 28 = .ok (.lload_n 1, 1) := by decide +kernel
theorem dL_state_29 : decode cL_state 29 = .ok (.lmul, 1) := by decide +kernel
theorem dL_state_30 : decode cL_state 30 = .ok (.aload_n 0, 1) := by decide +kernel
theorem dL_state_31 : decode cL_state 31 = .ok (.iload_n 3, 1) := by decide +kernel
theorem dL_state_32 : decode cL_state 32 = .ok (.iload 4, 2) := by decide +kernel
theorem dL_state_34 : decode cL_state 34 = .ok (.invokevirtual 33, 3) := by decide +kernel
theorem dL_state_37 : decode cL_state 37 = .ok (.i2l, 1) := by decide +kernel
theorem dL_state_38 : decode cL_state 38 = .ok (.ladd, 1) := by decide +kernel
theorem dL_state_39 : decode cL_state 39 = .ok (.lstore_n 1, 1) := by decide +kernel
theorem dL_state_40 : decode cL_state 40 = .ok (.iinc 4 1, 3) := by decide +kernel
theorem dL_state_43 : decode cL_state 43 = .ok (.goto (-25), 3) := by decide +kernel
theorem dL_state_46 : decode cL_state 46 = .ok (.ldc2_w 31, 3) := by decide +kernel
theorem dL_state_49 : decode cL_state 49 = .ok (.lload_n 1, 1) := by decide +kernel
theorem dL_state_50 : decode cL_state 50 = .ok (.lmul, 1) := by decide +kernel
theorem dL_state_51 : decode cL_state 51 = .ok (.aload_n 0, 1) := by decide +kernel
theorem dL_state_52 : decode cL_state 52 = .ok (.iload_n 3, 1) := by decide +kernel
theorem dL_state_53 : decode cL_state 53 = .ok (.invokevirtual 36, 3) := by decide +kernel
theorem dL_state_56 : decode cL_state 56 = .ok (.i2l, 1) := by decide +kernel
theorem dL_state_57 : decode cL_state 57 = .ok (.ladd, 1) := by decide +kernel
theorem dL_state_58 : decode cL_state 58 = .ok (.lstore_n 1, 1) := by decide +kernel
theorem dL_state_59 : decode cL_state 59 = .ok (.iinc 3 1, 3) := by decide +kernel
theorem dL_state_62 : decode cL_state 62 = .ok (.goto (-56), 3) := by decide +kernel
theorem dL_state_65 : decode cL_state 65 = .ok (.iconst 0, 1) := by decide +kernel
theorem dL_state_66 : decode cL_state 66 = .ok (.istore_n 3, 1) := by decide +kernel
theorem dL_state_67 : decode cL_state 67 = .ok (.iload_n 3, 1) := by decide +kernel
theorem dL_state_68 : decode cL_state 68 = .ok (.iconst 4, 1) := by decide +kernel
theorem dL_state_69 : decode cL_state 69 = .ok (.if_icmp .ge 22, 3) := by decide +kernel
theorem dL_state_72 : decode cL_state 72 = .ok (.ldc2_w 31, 3) := by decide +kernel
theorem dL_state_75 : decode cL_state 75 = .ok (.lload_n 1, 1) := by decide +kernel
theorem dL_state_76 : decode cL_state 76 = .ok (.lmul, 1) := by decide +kernel
theorem dL_state_77 : decode cL_state 77 = .ok (.aload_n 0, 1) := by decide +kernel
theorem dL_state_78 : decode cL_state 78 = .ok (.iload_n 3, 1) := by decide +kernel
theorem dL_state_79 : decode cL_state 79 = .ok (.invokevirtual 39, 3) := by decide +kernel
theorem dL_state_82 : decode cL_state 82 = .ok (.i2l, 1) := by decide +kernel
theorem dL_state_83 : decode cL_state 83 = .ok (.ladd, 1) := by decide +kernel
theorem dL_state_84 : decode cL_state 84 = .ok (.lstore_n 1, 1) := by decide +kernel
theorem dL_state_85 : decode cL_state 85 = .ok (.iinc 3 1, 3) := by decide +kernel
theorem dL_state_88 : decode cL_state 88 = .ok (.goto (-21), 3) := by decide +kernel
theorem dL_state_91 : decode cL_state 91 = .ok (.ldc2_w 31, 3) := by decide +kernel
theorem dL_state_94 : decode cL_state 94 = .ok (.lload_n 1, 1) := by decide +kernel
theorem dL_state_95 : decode cL_state 95 = .ok (.lmul, 1) := by decide +kernel
theorem dL_state_96 : decode cL_state 96 = .ok (.aload_n 0, 1) := by decide +kernel
theorem dL_state_97 : decode cL_state 97 = .ok (.iconst 2, 1) := by decide +kernel
theorem dL_state_98 : decode cL_state 98 = .ok (.invokevirtual 27, 3) := by decide +kernel
theorem dL_state_101 : decode cL_state 101 = .ok (.i2l, 1) := by decide +kernel
theorem dL_state_102 : decode cL_state 102 = .ok (.ladd, 1) := by decide +kernel
theorem dL_state_103 : decode cL_state 103 = .ok (.lreturn, 1) := by decide +kernel
theorem dL_law_0 : decode cL_law 0 = .ok (.new 7, 3) := by decide +kernel
theorem dL_law_3 : decode cL_law 3 = .ok (.dup, 1) := by decide +kernel
theorem dL_law_4 : decode cL_law 4 = .ok (.invokespecial 9, 3) := by decide +kernel
theorem dL_law_7 : decode cL_law 7 = .ok (.invokevirtual 42, 3) := by decide +kernel
theorem dL_law_10 : decode cL_law 10 = .ok (.bipush (-3), 2) := by decide +kernel
theorem dL_law_12 : decode cL_law 12 = .ok (.if_icmp .eq 5, 3) := by decide +kernel
theorem dL_law_15 : decode cL_law 15 = .ok (.iconst 0, 1) := by decide +kernel
theorem dL_law_16 : decode cL_law 16 = .ok (.ireturn, 1) := by decide +kernel
theorem dL_law_17 : decode cL_law 17 = .ok (.aload_n 0, 1) := by decide +kernel
theorem dL_law_18 : decode cL_law 18 = .ok (.invokestatic 46, 3) := by decide +kernel
theorem dL_law_21 : decode cL_law 21 = .ok (.astore_n 1, 1) := by decide +kernel
theorem dL_law_22 : decode cL_law 22 = .ok (.aload_n 1, 1) := by decide +kernel
theorem dL_law_23 : decode cL_law 23 = .ok (.iconst 0, 1) := by decide +kernel
theorem dL_law_24 : decode cL_law 24 = .ok (.invokevirtual 27, 3) := by decide +kernel
theorem dL_law_27 : decode cL_law 27 = .ok (.istore_n 2, 1) := by decide +kernel
theorem dL_law_28 : decode cL_law 28 = .ok (.aload_n 1, 1) := by decide +kernel
theorem dL_law_29 : decode cL_law 29 = .ok (.invokevirtual 49, 3) := by decide +kernel
theorem dL_law_32 : decode cL_law 32 = .ok (.iload_n 2, 1) := by decide +kernel
theorem dL_law_33 : decode cL_law 33 = .ok (.if_icmp .eq 5, 3) := by decide +kernel
theorem dL_law_36 : decode cL_law 36 = .ok (.iconst 0, 1) := by decide +kernel
theorem dL_law_37 : decode cL_law 37 = .ok (.ireturn, 1) := by decide +kernel
theorem dL_law_38 : decode cL_law 38 = .ok (.aload_n 1, 1) := by decide +kernel
theorem dL_law_39 : decode cL_law 39 = .ok (.invokestatic 52, 3) := by decide +kernel
theorem dL_law_42 : decode cL_law 42 = .ok (.lstore_n 3, 1) := by decide +kernel
theorem dL_law_43 : decode cL_law 43 = .ok (.iconst 1, 1) := by decide +kernel
theorem dL_law_44 : decode cL_law 44 = .ok (.aload_n 0, 1) := by decide +kernel
theorem dL_law_45 : decode cL_law 45 = .ok (.iconst 3, 1) := by decide +kernel
theorem dL_law_46 : decode cL_law 46 = .ok (.invokestatic 10, 3) := by decide +kernel
theorem dL_law_49 : decode cL_law 49 = .ok (.bipush 60, 2) := by decide +kernel
theorem dL_law_51 : decode cL_law 51 = .ok (.invokestatic 16, 3) := by decide +kernel
theorem dL_law_54 : decode cL_law 54 = .ok (.iadd, 1) := by decide +kernel
theorem dL_law_55 : decode cL_law 55 = .ok (.istore 5, 2) := by decide +kernel
theorem dL_law_57 : decode cL_law 57 = .ok (.aload_n 1, 1) := by decide +kernel
theorem dL_law_58 : decode cL_law 58 = .ok (.iload 5, 2) := by decide +kernel
theorem dL_law_60 : decode cL_law 60 = .ok (.invokevirtual 56, 3) := by decide +kernel
theorem dL_law_63 : decode cL_law 63 = .ok (.iload 5, 2) := by decide +kernel
theorem dL_law_65 : decode cL_law 65 = .ok (.if_icmp .ne 13, 3) := by decide +kernel
theorem dL_law_68 : decode cL_law 68 = .ok (.aload_n 1, 1) := by decide +kernel
theorem dL_law_69 : decode cL_law 69 = .ok (.iconst 0, 1) := by decide +kernel
theorem dL_law_70 : decode cL_law 70 = .ok (.invokevirtual 39, 3) := by decide +kernel
theorem dL_law_73 : decode cL_law 73 = .ok (.iload 5, 2) := by decide +kernel
theorem dL_law_75 : decode cL_law 75 = .ok (.if_icmp .eq 5, 3) := by decide +kernel
theorem dL_law_78 : decode cL_law 78 = .ok (.iconst 0, 1) := by decide +kernel
theorem dL_law_79 : decode cL_law 79 = .ok (.ireturn, 1) := by decide +kernel
theorem dL_law_80 : decode cL_law 80 = .ok (.aload_n 1, 1) := by decide +kernel
theorem dL_law_81 : decode cL_law 81 = .ok (.invokestatic 52, 3) := by decide +kernel
theorem dL_law_84 : decode cL_law 84 = .ok (.lstore 6, 2) := by decide +kernel
theorem dL_law_86 : decode cL_law 86 = .ok (.iconst 0, 1) := by decide +kernel
theorem dL_law_87 : decode cL_law 87 = .ok (.istore 8, 2) := by decide +kernel
theorem dL_law_89 : decode cL_law 89 = .ok (.iconst 0, 1) := by decide +kernel
theorem dL_law_90 : decode cL_law 90 = .ok (.istore 9, 2) := by decide +kernel
theorem dL_law_92 : decode cL_law 92 = .ok (.iload 9, 2) := by decide +kernel
theorem dL_law_94 : decode cL_law 94 = .ok (.iload_n 2, 1) := by decide +kernel
theorem dL_law_95 : decode cL_law 95 = .ok (.if_icmp .ge 160, 3) := by decide +kernel
theorem dL_law_98 : decode cL_law 98 = .ok (.aload_n 1, 1) := by decide +kernel
theorem dL_law_99 : decode cL_law 99 = .ok (.iload 9, 2) := by decide +kernel
theorem dL_law_101 : decode cL_law 101 = .ok (.iconst 0, 1) := by decide +kernel
theorem dL_law_102 : decode cL_law 102 = .ok (.invokevirtual 59, 3) := by decide +kernel
theorem dL_law_105 : decode cL_law 105 = .ok (.istore 10, 2) := by decide +kernel
theorem dL_law_107 : decode cL_law 107 = .ok (.aload_n 1, 1) := by decide +kernel
theorem dL_law_108 : decode cL_law 108 = .ok (.iload 9, 2) := by decide +kernel
theorem dL_law_110 : decode cL_law 110 = .ok (.iconst 1, 1) := by decide +kernel
theorem dL_law_111 : decode cL_law 111 = .ok (.invokevirtual 59, 3) := by decide +kernel
theorem dL_law_114 : decode cL_law 114 = .ok (.istore 11, 2) := by decide +kernel
theorem dL_law_116 : decode cL_law 116 = .ok (.iload 11, 2) := by decide +kernel
theorem dL_law_118 : decode cL_law 118 = .ok (.aload_n 1, 1) := by decide +kernel
theorem dL_law_119 : decode cL_law 119 = .ok (.iload 10, 2) := by decide +kernel
theorem dL_law_121 : decode cL_law 121 = .ok (.iconst 5, 1) := by decide +kernel
theorem dL_law_122 : decode cL_law 122 = .ok (.invokevirtual 33, 3) := by decide +kernel
theorem dL_law_125 : decode cL_law 125 = .ok (.iadd, 1) := by decide +kernel
theorem dL_law_126 : decode cL_law 126 = .ok (.istore 12, 2) := by decide +kernel
theorem dL_law_128 : decode cL_law 128 = .ok (.aload_n 1, 1) := by decide +kernel
theorem dL_law_129 : decode cL_law 129 = .ok (.iload 10, 2) := by decide +kernel
theorem dL_law_131 : decode cL_law 131 = .ok (.invokevirtual 36, 3) := by decide +kernel
theorem dL_law_134 : decode cL_law 134 = .ok (.iload 11, 2) := by decide +kernel
theorem dL_law_136 : decode cL_law 136 = .ok (.iload 5, 2) := by decide +kernel
theorem dL_law_138 : decode cL_law 138 = .ok (.if_icmp .ge 8, 3) := by decide +kernel
theorem dL_law_141 : decode cL_law 141 = .ok (.iload 11, 2) := by decide +kernel
theorem dL_law_143 : decode cL_law 143 = .ok (.goto 4, 3) := by decide +kernel
theorem dL_law_146 : decode cL_law 146 = .ok (.iconst (-1), 1) := by decide +kernel
theorem dL_law_147 : decode cL_law 147 = .ok (.if_icmp .eq 5, 3) := by decide +kernel
theorem dL_law_150 : decode cL_law 150 = .ok (.iconst 0, 1) := by decide +kernel
theorem dL_law_151 : decode cL_law 151 = .ok (.ireturn, 1) := by decide +kernel
theorem dL_law_152 : decode cL_law 152 = .ok (.aload_n 1, 1) := by decide +kernel
theorem dL_law_153 : decode cL_law 153 = .ok (.iconst 2, 1) := by decide +kernel
theorem dL_law_154 : decode cL_law 154 = .ok (.invokevirtual 39, 3) := by decide +kernel
theorem dL_law_157 : decode cL_law 157 = .ok (.iload 10, 2) := by decide +kernel
theorem dL_law_159 : decode cL_law 159 = .ok (.ishr, 1) := by decide +kernel
theorem dL_law_160 : decode cL_law 160 = .ok (.iconst 1, 1) := by decide +kernel
theorem dL_law_161 : decode cL_law 161 = .ok (.iand, 1) := by decide +kernel
theorem dL_law_162 : decode cL_law 162 = .ok (.iconst 1, 1) := by decide +kernel
theorem dL_law_163 : decode cL_law 163 = .ok (.if_icmp .ne 7, 3) := by decide +kernel
theorem dL_law_166 : decode cL_law 166 = .ok (.iconst 1, 1) := by decide +kernel
theorem dL_law_167 : decode cL_law 167 = .ok (.goto 4, 3) := by decide +kernel
theorem dL_law_170 : decode cL_law 170 = .ok (.iconst 0, 1) := by decide +kernel
theorem dL_law_171 : decode cL_law 171 = .ok (.iload 12, 2) := by decide +kernel
theorem dL_law_173 : decode cL_law 173 = .ok (.iload 5, 2) := by decide +kernel
theorem dL_law_175 : decode cL_law 175 = .ok (.if_icmp .gt 7, 3) := by decide +kernel
theorem dL_law_178 : decode cL_law 178 = .ok (.iconst 1, 1) := by decide +kernel
theorem dL_law_179 : decode cL_law 179 = .ok (.goto 4, 3) := by decide +kernel
theorem dL_law_182 : decode cL_law 182 = .ok (.iconst 0, 1) := by decide +kernel
theorem dL_law_183 : decode cL_law 183 = .ok (.if_icmp .ne 40, 3) := by decide +kernel
theorem dL_law_186 : decode cL_law 186 = .ok (.aload_n 1, 1) := by decide +kernel
theorem dL_law_187 : decode cL_law 187 = .ok (.iconst 1, 1) := by decide +kernel
theorem dL_law_188 : decode cL_law 188 = .ok (.invokevirtual 39, 3) := by decide +kernel
theorem dL_law_191 : decode cL_law 191 = .ok (.iload 10, 2) := by decide +kernel
theorem dL_law_193 : decode cL_law 193 = .ok (.if_icmp .ne 7, 3) := by decide +kernel
theorem dL_law_196 : decode cL_law 196 = .ok (.iconst 1, 1) := by decide +kernel
theorem dL_law_197 : decode cL_law 197 = .ok (.goto 4, 3) := by decide +kernel
theorem dL_law_200 : decode cL_law 200 = .ok (.iconst 0, 1) := by decide +kernel
theorem dL_law_201 : decode cL_law 201 = .ok (.iload 11, 2) := by decide +kernel
theorem dL_law_203 : decode cL_law 203 = .ok (.iload 5, 2) := by decide +kernel
theorem dL_law_205 : decode cL_law 205 = .ok (.if_icmp .ge 14, 3) := by decide +kernel
theorem dL_law_208 : decode cL_law 208 = .ok (.iload 12, 2) := by decide +kernel
theorem dL_law_210 : decode cL_law 210 = .ok (.iload 5, 2) := by decide +kernel
theorem dL_law_212 : decode cL_law 212 = .ok (.if_icmp .le 7, 3) := by decide +kernel
theorem dL_law_215 : decode cL_law 215 = .ok (.iconst 1, 1) := by decide +kernel
theorem dL_law_216 : decode cL_law 216 = .ok (.goto 4, 3) := by decide +kernel
theorem dL_law_219 : decode cL_law 219 = .ok (.iconst 0, 1) := by decide +kernel
theorem dL_law_220 : decode cL_law 220 = .ok (.if_icmp .eq 5, 3) := by decide +kernel
theorem dL_law_223 : decode cL_law 223 = .ok (.iconst 0, 1) := by decide +kernel
theorem dL_law_224 : decode cL_law 224 = .ok (.ireturn, 1) := by decide +kernel
theorem dL_law_225 : decode cL_law 225 = .ok (.iload 8, 2) := by decide +kernel
theorem dL_law_227 : decode cL_law 227 = .ok (.iconst 0, 1) := by decide +kernel
theorem dL_law_228 : decode cL_law 228 = .ok (.iload 5, 2) := by decide +kernel
theorem dL_law_230 : decode cL_law 230 = .ok (.iload 12, 2) := by decide +kernel
theorem dL_law_232 : decode cL_law 232 = .ok (.invokestatic 62, 3) := by decide +kernel
theorem dL_law_235 : decode cL_law 235 = .ok (.iload 5, 2) := by decide +kernel
theorem dL_law_237 : decode cL_law 237 = .ok (.iload 11, 2) := by decide +kernel
theorem dL_law_239 : decode cL_law 239 = .ok (.invokestatic 62, 3) := by decide +kernel
theorem dL_law_242 : decode cL_law 242 = .ok (.isub, 1) := by decide +kernel
theorem dL_law_243 : decode cL_law 243 = .ok (.invokestatic 67, 3) := by decide +kernel
theorem dL_law_246 : decode cL_law 246 = .ok (.iadd, 1) := by decide +kernel
theorem dL_law_247 : decode cL_law 247 = .ok (.istore 8, 2) := by decide +kernel
theorem dL_law_249 : decode cL_law 249 = .ok (.iinc 9 1, 3) := by decide +kernel
theorem dL_law_252 : decode cL_law 252 = .ok (.goto (-160), 3) := by decide +kernel
theorem dL_law_255 : decode cL_law 255 = .ok (.aload_n 1, 1) := by decide +kernel
theorem dL_law_256 : decode cL_law 256 = .ok (.iconst 3, 1) := by decide +kernel
theorem dL_law_257 : decode cL_law 257 = .ok (.invokevirtual 39, 3) := by decide +kernel
theorem dL_law_260 : decode cL_law 260 = .ok (.iload 5, 2) := by decide +kernel
theorem dL_law_262 : decode cL_law 262 = .ok (.iload 8, 2) := by decide +kernel
theorem dL_law_264 : decode cL_law 264 = .ok (.isub, 1) := by decide +kernel
theorem dL_law_265 : decode cL_law 265 = .ok (.if_icmp .ne 20, 3) := by decide +kernel
theorem dL_law_268 : decode cL_law 268 = .ok (.aload_n 1, 1) := by decide +kernel
theorem dL_law_269 : decode cL_law 269 = .ok (.invokevirtual 42, 3) := by decide +kernel
theorem dL_law_272 : decode cL_law 272 = .ok (.iload_n 2, 1) := by decide +kernel
theorem dL_law_273 : decode cL_law 273 = .ok (.if_icmp .ne 12, 3) := by decide +kernel
theorem dL_law_276 : decode cL_law 276 = .ok (.aload_n 1, 1) := by decide +kernel
theorem dL_law_277 : decode cL_law 277 = .ok (.invokestatic 52, 3) := by decide +kernel
theorem dL_law_280 : decode cL_law 280 = .ok (.lload_n 3, 1) := by decide +kernel
theorem dL_law_281 : decode cL_law 281 = .ok (.lcmp, 1) := by decide +kernel
theorem dL_law_282 : decode cL_law 282 = .ok (.ifCond .eq 5, 3) := by decide +kernel
theorem dL_law_285 : decode cL_law 285 = .ok (.iconst 0, 1) := by decide +kernel
theorem dL_law_286 : decode cL_law 286 = .ok (.ireturn, 1) := by decide +kernel
theorem dL_law_287 : decode cL_law 287 = .ok (.iconst 0, 1) := by decide +kernel
theorem dL_law_288 : decode cL_law 288 = .ok (.istore 9, 2) := by decide +kernel
theorem dL_law_290 : decode cL_law 290 = .ok (.iload 9, 2) := by decide +kernel
theorem dL_law_292 : decode cL_law 292 = .ok (.iload 5, 2) := by decide +kernel
theorem dL_law_294 : decode cL_law 294 = .ok (.if_icmp .ge 23, 3) := by decide +kernel
theorem dL_law_297 : decode cL_law 297 = .ok (.aload_n 1, 1) := by decide +kernel
theorem dL_law_298 : decode cL_law 298 = .ok (.iconst 1, 1) := by decide +kernel
theorem dL_law_299 : decode cL_law 299 = .ok (.invokevirtual 56, 3) := by decide +kernel
theorem dL_law_302 : decode cL_law 302 = .ok (.iload 9, 2) := by decide +kernel
theorem dL_law_304 : decode cL_law 304 = .ok (.iconst 1, 1) := by decide +kernel
theorem dL_law_305 : decode cL_law 305 = .ok (.iadd, 1) := by decide +kernel
theorem dL_law_306 : decode cL_law 306 = .ok (.if_icmp .eq 5, 3) := by decide +kernel
theorem dL_law_309 : decode cL_law 309 = .ok (.iconst 0, 1) := by decide +kernel
theorem dL_law_310 : decode cL_law 310 = .ok (.ireturn, 1) := by decide +kernel
theorem dL_law_311 : decode cL_law 311 = .ok (.iinc 9 1, 3) := by decide +kernel
theorem dL_law_314 : decode cL_law 314 = .ok (.goto (-24), 3) := by decide +kernel
theorem dL_law_317 : decode cL_law 317 = .ok (.aload_n 1, 1) := by decide +kernel
theorem dL_law_318 : decode cL_law 318 = .ok (.invokestatic 52, 3) := by decide +kernel
theorem dL_law_321 : decode cL_law 321 = .ok (.lload 6, 2) := by decide +kernel
theorem dL_law_323 : decode cL_law 323 = .ok (.lcmp, 1) := by decide +kernel
theorem dL_law_324 : decode cL_law 324 = .ok (.ifCond .eq 5, 3) := by decide +kernel
theorem dL_law_327 : decode cL_law 327 = .ok (.iconst 0, 1) := by decide +kernel
theorem dL_law_328 : decode cL_law 328 = .ok (.ireturn, 1) := by decide +kernel
theorem dL_law_329 : decode cL_law 329 = .ok (.aload_n 1, 1) := by decide +kernel
theorem dL_law_330 : decode cL_law 330 = .ok (.iconst 0, 1) := by decide +kernel
theorem dL_law_331 : decode cL_law 331 = .ok (.invokevirtual 56, 3) := by decide +kernel
theorem dL_law_334 : decode cL_law 334 = .ok (.bipush (-2), 2) := by decide +kernel
theorem dL_law_336 : decode cL_law 336 = .ok (.if_icmp .ne 267, 3) := by decide +kernel
theorem dL_law_339 : decode cL_law 339 = .ok (.aload_n 1, 1) := by decide +kernel
theorem dL_law_340 : decode cL_law 340 = .ok (.bipush 61, 2) := by decide +kernel
theorem dL_law_342 : decode cL_law 342 = .ok (.invokevirtual 56, 3) := by decide +kernel
theorem dL_law_345 : decode cL_law 345 = .ok (.bipush (-2), 2) := by decide +kernel
theorem dL_law_347 : decode cL_law 347 = .ok (.if_icmp .ne 256, 3) := by decide +kernel
theorem dL_law_350 : decode cL_law 350 = .ok (.aload_n 1, 1) := by decide +kernel
theorem dL_law_351 : decode cL_law 351 = .ok (.bipush 6, 2) := by decide +kernel
theorem dL_law_353 : decode cL_law 353 = .ok (.iconst 0, 1) := by decide +kernel
theorem dL_law_354 : decode cL_law 354 = .ok (.iconst 1, 1) := by decide +kernel
theorem dL_law_355 : decode cL_law 355 = .ok (.iconst 0, 1) := by decide +kernel
theorem dL_law_356 : decode cL_law 356 = .ok (.invokevirtual 21, 3) := by decide +kernel
theorem dL_law_359 : decode cL_law 359 = .ok (.bipush (-2), 2) := by decide +kernel
theorem dL_law_361 : decode cL_law 361 = .ok (.if_icmp .ne 242, 3) := by decide +kernel
theorem dL_law_364 : decode cL_law 364 = .ok (.aload_n 1, 1) := by decide +kernel
theorem dL_law_365 : decode cL_law 365 = .ok (.iconst 0, 1) := by decide +kernel
theorem dL_law_366 : decode cL_law 366 = .ok (.bipush 61, 2) := by decide +kernel
theorem dL_law_368 : decode cL_law 368 = .ok (.iconst 1, 1) := by decide +kernel
theorem dL_law_369 : decode cL_law 369 = .ok (.iconst 0, 1) := by decide +kernel
theorem dL_law_370 : decode cL_law 370 = .ok (.invokevirtual 21, 3) := by decide +kernel
theorem dL_law_373 : decode cL_law 373 = .ok (.bipush (-2), 2) := by decide +kernel
theorem dL_law_375 : decode cL_law 375 = .ok (.if_icmp .ne 228, 3) := by decide +kernel
theorem dL_law_378 : decode cL_law 378 = .ok (.aload_n 1, 1) := by decide +kernel
theorem dL_law_379 : decode cL_law 379 = .ok (.iconst 0, 1) := by decide +kernel
theorem dL_law_380 : decode cL_law 380 = .ok (.iconst 0, 1) := by decide +kernel
theorem dL_law_381 : decode cL_law 381 = .ok (.bipush 21, 2) := by decide +kernel
theorem dL_law_383 : decode cL_law 383 = .ok (.iconst 0, 1) := by decide +kernel
theorem dL_law_384 : decode cL_law 384 = .ok (.invokevirtual 21, 3) := by decide +kernel
theorem dL_law_387 : decode cL_law 387 = .ok (.bipush (-2), 2) := by decide +kernel
theorem dL_law_389 : decode cL_law 389 = .ok (.if_icmp .ne 214, 3) := by decide +kernel
theorem dL_law_392 : decode cL_law 392 = .ok (.aload_n 1, 1) := by decide +kernel
theorem dL_law_393 : decode cL_law 393 = .ok (.iconst 0, 1) := by decide +kernel
theorem dL_law_394 : decode cL_law 394 = .ok (.iconst 0, 1) := by decide +kernel
theorem dL_law_395 : decode cL_law 395 = .ok (.iconst 0, 1) := by decide +kernel
theorem dL_law_396 : decode cL_law 396 = .ok (.iconst 0, 1) := by decide +kernel
theorem dL_law_397 : decode cL_law 397 = .ok (.invokevirtual 21, 3) := by decide +kernel
theorem dL_law_400 : decode cL_law 400 = .ok (.bipush (-2), 2) := by decide +kernel
theorem dL_law_402 : decode cL_law 402 = .ok (.if_icmp .ne 201, 3) := by decide +kernel
theorem dL_law_405 : decode cL_law 405 = .ok (.aload_n 1, 1) := by decide +kernel
theorem dL_law_406 : decode cL_law 406 = .ok (.iconst 0, 1) := by decide +kernel
theorem dL_law_407 : decode cL_law 407 = .ok (.iconst 0, 1) := by decide +kernel
theorem dL_law_408 : decode cL_law 408 = .ok (.iconst 1, 1) := by decide +kernel
theorem dL_law_409 : decode cL_law 409 = .ok (.iconst (-1), 1) := by decide +kernel
theorem dL_law_410 : decode cL_law 410 = .ok (.invokevirtual 21, 3) := by decide +kernel
theorem dL_law_413 : decode cL_law 413 = .ok (.bipush (-2), 2) := by decide +kernel
theorem dL_law_415 : decode cL_law 415 = .ok (.if_icmp .ne 188, 3) := by decide +kernel
theorem dL_law_418 : decode cL_law 418 = .ok (.aload_n 1, 1) := by decide +kernel
theorem dL_law_419 : decode cL_law 419 = .ok (.iload_n 2, 1) := by decide +kernel
theorem dL_law_420 : decode cL_law 420 = .ok (.iconst 0, 1) := by decide +kernel
theorem dL_law_421 : decode cL_law 421 = .ok (.iconst 0, 1) := by decide +kernel
theorem dL_law_422 : decode cL_law 422 = .ok (.invokevirtual 70, 3) := by decide +kernel
theorem dL_law_425 : decode cL_law 425 = .ok (.bipush (-2), 2) := by decide +kernel
theorem dL_law_427 : decode cL_law 427 = .ok (.if_icmp .ne 176, 3) := by decide +kernel
theorem dL_law_430 : decode cL_law 430 = .ok (.aload_n 1, 1) := by decide +kernel
theorem dL_law_431 : decode cL_law 431 = .ok (.iconst (-1), 1) := by decide +kernel
theorem dL_law_432 : decode cL_law 432 = .ok (.invokevirtual 74, 3) := by decide +kernel
theorem dL_law_435 : decode cL_law 435 = .ok (.bipush (-2), 2) := by decide +kernel
theorem dL_law_437 : decode cL_law 437 = .ok (.if_icmp .ne 166, 3) := by decide +kernel
theorem dL_law_440 : decode cL_law 440 = .ok (.aload_n 1, 1) := by decide +kernel
theorem dL_law_441 : decode cL_law 441 = .ok (.iload_n 2, 1) := by decide +kernel
theorem dL_law_442 : decode cL_law 442 = .ok (.invokevirtual 74, 3) := by decide +kernel
theorem dL_law_445 : decode cL_law 445 = .ok (.bipush (-2), 2) := by decide +kernel
theorem dL_law_447 : decode cL_law 447 = .ok (.if_icmp .ne 156, 3) := by decide +kernel
theorem dL_law_450 : decode cL_law 450 = .ok (.aload_n 1, 1) := by decide +kernel
theorem dL_law_451 : decode cL_law 451 = .ok (.iload_n 2, 1) := by decide +kernel
theorem dL_law_452 : decode cL_law 452 = .ok (.iconst 0, 1) := by decide +kernel
theorem dL_law_453 : decode cL_law 453 = .ok (.invokevirtual 33, 3) := by decide +kernel
theorem dL_law_456 : decode cL_law 456 = .ok (.bipush (-2), 2) := by decide +kernel
theorem dL_law_458 : decode cL_law 458 = .ok (.if_icmp .ne 145, 3) := by decide +kernel
theorem dL_law_461 : decode cL_law 461 = .ok (.aload_n 1, 1) := by decide +kernel
theorem dL_law_462 : decode cL_law 462 = .ok (.iload_n 2, 1) := by decide +kernel
theorem dL_law_463 : decode cL_law 463 = .ok (.iconst 0, 1) := by decide +kernel
theorem dL_law_464 : decode cL_law 464 = .ok (.invokevirtual 77, 3) := by decide +kernel
theorem dL_law_467 : decode cL_law 467 = .ok (.bipush (-2), 2) := by decide +kernel
theorem dL_law_469 : decode cL_law 469 = .ok (.if_icmp .ne 134, 3) := by decide +kernel
theorem dL_law_472 : decode cL_law 472 = .ok (.aload_n 1, 1) := by decide +kernel
theorem dL_law_473 : decode cL_law 473 = .ok (.iload_n 2, 1) := by decide +kernel
theorem dL_law_474 : decode cL_law 474 = .ok (.invokevirtual 80, 3) := by decide +kernel
theorem dL_law_477 : decode cL_law 477 = .ok (.bipush (-2), 2) := by decide +kernel
theorem dL_law_479 : decode cL_law 479 = .ok (.if_icmp .ne 124, 3) := by decide +kernel
theorem dL_law_482 : decode cL_law 482 = .ok (.aload_n 1, 1) := by decide +kernel
theorem dL_law_483 : decode cL_law 483 = .ok (.iconst (-1), 1) := by decide +kernel
theorem dL_law_484 : decode cL_law 484 = .ok (.invokevirtual 83, 3) := by decide +kernel
theorem dL_law_487 : decode cL_law 487 = .ok (.bipush (-2), 2) := by decide +kernel
theorem dL_law_489 : decode cL_law 489 = .ok (.if_icmp .ne 114, 3) := by decide +kernel
theorem dL_law_492 : decode cL_law 492 = .ok (.aload_n 1, 1) := by decide +kernel
theorem dL_law_493 : decode cL_law 493 = .ok (.iload_n 2, 1) := by decide +kernel
theorem dL_law_494 : decode cL_law 494 = .ok (.invokevirtual 86, 3) := by decide +kernel
theorem dL_law_497 : decode cL_law 497 = .ok (.bipush (-2), 2) := by decide +kernel
theorem dL_law_499 : decode cL_law 499 = .ok (.if_icmp .ne 104, 3) := by decide +kernel
theorem dL_law_502 : decode cL_law 502 = .ok (.aload_n 1, 1) := by decide +kernel
theorem dL_law_503 : decode cL_law 503 = .ok (.iconst 4, 1) := by decide +kernel
theorem dL_law_504 : decode cL_law 504 = .ok (.invokevirtual 39, 3) := by decide +kernel
theorem dL_law_507 : decode cL_law 507 = .ok (.bipush (-2), 2) := by decide +kernel
theorem dL_law_509 : decode cL_law 509 = .ok (.if_icmp .ne 94, 3) := by decide +kernel
theorem dL_law_512 : decode cL_law 512 = .ok (.aload_n 1, 1) := by decide +kernel
theorem dL_law_513 : decode cL_law 513 = .ok (.iload_n 2, 1) := by decide +kernel
theorem dL_law_514 : decode cL_law 514 = .ok (.invokevirtual 36, 3) := by decide +kernel
theorem dL_law_517 : decode cL_law 517 = .ok (.bipush (-2), 2) := by decide +kernel
theorem dL_law_519 : decode cL_law 519 = .ok (.if_icmp .ne 84, 3) := by decide +kernel
theorem dL_law_522 : decode cL_law 522 = .ok (.aload_n 1, 1) := by decide +kernel
theorem dL_law_523 : decode cL_law 523 = .ok (.iconst 3, 1) := by decide +kernel
theorem dL_law_524 : decode cL_law 524 = .ok (.invokevirtual 27, 3) := by decide +kernel
theorem dL_law_527 : decode cL_law 527 = .ok (.bipush (-2), 2) := by decide +kernel
theorem dL_law_529 : decode cL_law 529 = .ok (.if_icmp .ne 74, 3) := by decide +kernel
theorem dL_law_532 : decode cL_law 532 = .ok (.aload_n 1, 1) := by decide +kernel
theorem dL_law_533 : decode cL_law 533 = .ok (.iconst 0, 1) := by decide +kernel
theorem dL_law_534 : decode cL_law 534 = .ok (.iconst 1, 1) := by decide +kernel
theorem dL_law_535 : decode cL_law 535 = .ok (.iconst 1, 1) := by decide +kernel
theorem dL_law_536 : decode cL_law 536 = .ok (.iconst 1, 1) := by decide +kernel
theorem dL_law_537 : decode cL_law 537 = .ok (.iconst 1, 1) := by decide +kernel
theorem dL_law_538 : decode cL_law 538 = .ok (.iconst 1, 1) := by decide +kernel
theorem dL_law_539 : decode cL_law 539 = .ok (.invokevirtual 89, 3) := by decide +kernel
theorem dL_law_542 : decode cL_law 542 = .ok (.bipush (-2), 2) := by decide +kernel
theorem dL_law_544 : decode cL_law 544 = .ok (.if_icmp .ne 59, 3) := by decide +kernel
theorem dL_law_547 : decode cL_law 547 = .ok (.aload_n 1, 1) := by decide +kernel
theorem dL_law_548 : decode cL_law 548 = .ok (.bipush 6, 2) := by decide +kernel
theorem dL_law_550 : decode cL_law 550 = .ok (.iconst 1, 1) := by decide +kernel
theorem dL_law_551 : decode cL_law 551 = .ok (.iconst 1, 1) := by decide +kernel
theorem dL_law_552 : decode cL_law 552 = .ok (.iconst 1, 1) := by decide +kernel
theorem dL_law_553 : decode cL_law 553 = .ok (.iconst 1, 1) := by decide +kernel
theorem dL_law_554 : decode cL_law 554 = .ok (.iconst 1, 1) := by decide +kernel
theorem dL_law_555 : decode cL_law 555 = .ok (.invokevirtual 89, 3) := by decide +kernel
theorem dL_law_558 : decode cL_law 558 = .ok (.bipush (-2), 2) := by decide +kernel
theorem dL_law_560 : decode cL_law 560 = .ok (.if_icmp .ne 43, 3) := by decide +kernel
theorem dL_law_563 : decode cL_law 563 = .ok (.aload_n 1, 1) := by decide +kernel
theorem dL_law_564 : decode cL_law 564 = .ok (.iconst 1, 1) := by decide +kernel
theorem dL_law_565 : decode cL_law 565 = .ok (.iconst 1, 1) := by decide +kernel
theorem dL_law_566 : decode cL_law 566 = .ok (.iconst 1, 1) := by decide +kernel
theorem dL_law_567 : decode cL_law 567 = .ok (.sipush 256, 3) := by decide +kernel
theorem dL_law_570 : decode cL_law 570 = .ok (.iconst 1, 1) := by decide +kernel
theorem dL_law_571 : decode cL_law 571 = .ok (.iconst 1, 1) := by decide +kernel
theorem dL_law_572 : decode cL_law 572 = .ok (.invokevirtual 89, 3) := by decide +kernel
theorem dL_law_575 : decode cL_law 575 = .ok (.bipush (-2), 2) := by decide +kernel
theorem dL_law_577 : decode cL_law 577 = .ok (.if_icmp .ne 26, 3) := by decide +kernel
theorem dL_law_580 : decode cL_law 580 = .ok (.aload_n 1, 1) := by decide +kernel
theorem dL_law_581 : decode cL_law 581 = .ok (.iconst 4, 1) := by decide +kernel
theorem dL_law_582 : decode cL_law 582 = .ok (.iconst 0, 1) := by decide +kernel
theorem dL_law_583 : decode cL_law 583 = .ok (.invokevirtual 93, 3) := by decide +kernel
theorem dL_law_586 : decode cL_law 586 = .ok (.ldc2_w 97, 3) := by decide +kernel
theorem dL_law_589 : decode cL_law 589 = .ok (.lcmp, 1) := by decide +kernel
theorem dL_law_590 : decode cL_law 590 = .ok (.ifCond .ne 13, 3) := by decide +kernel
theorem dL_law_593 : decode cL_law 593 = .ok (.aload_n 1, 1) := by decide +kernel
theorem dL_law_594 : decode cL_law 594 = .ok (.iconst (-1), 1) := by decide +kernel
theorem dL_law_595 : decode cL_law 595 = .ok (.invokevirtual 99, 3) := by decide +kernel
theorem dL_law_598 : decode cL_law 598 = .ok (.bipush (-2), 2) := by decide +kernel
theorem dL_law_600 : decode cL_law 600 = .ok (.if_icmp .eq 5, 3) := by decide +kernel
theorem dL_law_603 : decode cL_law 603 = .ok (.iconst 0, 1) := by decide +kernel
theorem dL_law_604 : decode cL_law 604 = .ok (.ireturn, 1) := by decide +kernel
theorem dL_law_605 : decode cL_law 605 = .ok (.iload_n 2, 1) := by decide +kernel
theorem dL_law_606 : decode cL_law 606 = .ok (.bipush 8, 2) := by decide +kernel
theorem dL_law_608 : decode cL_law 608 = .ok (.if_icmp .ne 18, 3) := by decide +kernel
theorem dL_law_611 : decode cL_law 611 = .ok (.aload_n 1, 1) := by decide +kernel
theorem dL_law_612 : decode cL_law 612 = .ok (.iconst 0, 1) := by decide +kernel
theorem dL_law_613 : decode cL_law 613 = .ok (.iconst 0, 1) := by decide +kernel
theorem dL_law_614 : decode cL_law 614 = .ok (.iconst 1, 1) := by decide +kernel
theorem dL_law_615 : decode cL_law 615 = .ok (.iconst 0, 1) := by decide +kernel
theorem dL_law_616 : decode cL_law 616 = .ok (.invokevirtual 21, 3) := by decide +kernel
theorem dL_law_619 : decode cL_law 619 = .ok (.bipush (-4), 2) := by decide +kernel
theorem dL_law_621 : decode cL_law 621 = .ok (.if_icmp .eq 5, 3) := by decide +kernel
theorem dL_law_624 : decode cL_law 624 = .ok (.iconst 0, 1) := by decide +kernel
theorem dL_law_625 : decode cL_law 625 = .ok (.ireturn, 1) := by decide +kernel
theorem dL_law_626 : decode cL_law 626 = .ok (.aload_n 1, 1) := by decide +kernel
theorem dL_law_627 : decode cL_law 627 = .ok (.iconst (-1), 1) := by decide +kernel
theorem dL_law_628 : decode cL_law 628 = .ok (.iconst 0, 1) := by decide +kernel
theorem dL_law_629 : decode cL_law 629 = .ok (.invokevirtual 59, 3) := by decide +kernel
theorem dL_law_632 : decode cL_law 632 = .ok (.aload_n 1, 1) := by decide +kernel
theorem dL_law_633 : decode cL_law 633 = .ok (.iconst 0, 1) := by decide +kernel
theorem dL_law_634 : decode cL_law 634 = .ok (.invokevirtual 102, 3) := by decide +kernel
theorem dL_law_637 : decode cL_law 637 = .ok (.iadd, 1) := by decide +kernel
theorem dL_law_638 : decode cL_law 638 = .ok (.aload_n 1, 1) := by decide +kernel
theorem dL_law_639 : decode cL_law 639 = .ok (.iconst 1, 1) := by decide +kernel
theorem dL_law_640 : decode cL_law 640 = .ok (.invokevirtual 105, 3) := by decide +kernel
theorem dL_law_643 : decode cL_law 643 = .ok (.iadd, 1) := by decide +kernel
theorem dL_law_644 : decode cL_law 644 = .ok (.aload_n 1, 1) := by decide +kernel
theorem dL_law_645 : decode cL_law 645 = .ok (.invokevirtual 108, 3) := by decide +kernel
theorem dL_law_648 : decode cL_law 648 = .ok (.iadd, 1) := by decide +kernel
theorem dL_law_649 : decode cL_law 649 = .ok (.aload_n 1, 1) := by decide +kernel
theorem dL_law_650 : decode cL_law 650 = .ok (.aload_n 0, 1) := by decide +kernel
theorem dL_law_651 : decode cL_law 651 = .ok (.iconst 4, 1) := by decide +kernel
theorem dL_law_652 : decode cL_law 652 = .ok (.invokestatic 10, 3) := by decide +kernel
theorem dL_law_655 : decode cL_law 655 = .ok (.aload_n 0, 1) := by decide +kernel
theorem dL_law_656 : decode cL_law 656 = .ok (.iconst 4, 1) := by decide +kernel
theorem dL_law_657 : decode cL_law 657 = .ok (.invokestatic 10, 3) := by decide +kernel
theorem dL_law_660 : decode cL_law 660 = .ok (.bipush 31, 2) := by decide +kernel
theorem dL_law_662 : decode cL_law 662 = .ok (.invokestatic 16, 3) := by decide +kernel
theorem dL_law_665 : decode cL_law 665 = .ok (.invokevirtual 111, 3) := by decide +kernel
theorem dL_law_668 : decode cL_law 668 = .ok (.iadd, 1) := by decide +kernel
theorem dL_law_669 : decode cL_law 669 = .ok (.aload_n 1, 1) := by decide +kernel
theorem dL_law_670 : decode cL_law 670 = .ok (.iconst 1, 1) := by decide +kernel
theorem dL_law_671 : decode cL_law 671 = .ok (.invokevirtual 114, 3) := by decide +kernel
theorem dL_law_674 : decode cL_law 674 = .ok (.iadd, 1) := by decide +kernel
theorem dL_law_675 : decode cL_law 675 = .ok (.i2l, 1) := by decide +kernel
theorem dL_law_676 : decode cL_law 676 = .ok (.lstore 9, 2) := by decide +kernel
theorem dL_law_678 : decode cL_law 678 = .ok (.lload 9, 2) := by decide +kernel
theorem dL_law_680 : decode cL_law 680 = .ok (.ldc2_w 117, 3) := by decide +kernel
theorem dL_law_683 : decode cL_law 683 = .ok (.lcmp, 1) := by decide +kernel
theorem dL_law_684 : decode cL_law 684 = .ok (.ifCond .eq 13, 3) := by decide +kernel
theorem dL_law_687 : decode cL_law 687 = .ok (.aload_n 1, 1) := by decide +kernel
theorem dL_law_688 : decode cL_law 688 = .ok (.invokestatic 52, 3) := by decide +kernel
theorem dL_law_691 : decode cL_law 691 = .ok (.lload 6, 2) := by decide +kernel
theorem dL_law_693 : decode cL_law 693 = .ok (.lcmp, 1) := by decide +kernel
theorem dL_law_694 : decode cL_law 694 = .ok (.ifCond .eq 5, 3) := by decide +kernel
theorem dL_law_697 : decode cL_law 697 = .ok (.iconst 0, 1) := by decide +kernel
theorem dL_law_698 : decode cL_law 698 = .ok (.ireturn, 1) := by decide +kernel
theorem dL_law_699 : decode cL_law 699 = .ok (.iload_n 2, 1) := by decide +kernel
theorem dL_law_700 : decode cL_law 700 = .ok (.ifCond .le 142, 3) := by decide +kernel
theorem dL_law_703 : decode cL_law 703 = .ok (.aload_n 0, 1) := by decide +kernel
theorem dL_law_704 : decode cL_law 704 = .ok (.iconst 5, 1) := by decide +kernel
theorem dL_law_705 : decode cL_law 705 = .ok (.invokestatic 10, 3) := by decide +kernel
theorem dL_law_708 : decode cL_law 708 = .ok (.iload_n 2, 1) := by decide +kernel
theorem dL_law_709 : decode cL_law 709 = .ok (.invokestatic 16, 3) := by decide +kernel
theorem dL_law_712 : decode cL_law 712 = .ok (.istore 11, 2) := by decide +kernel
theorem dL_law_714 : decode cL_law 714 = .ok (.aload_n 1, 1) := by decide +kernel
theorem dL_law_715 : decode cL_law 715 = .ok (.iload 11, 2) := by decide +kernel
theorem dL_law_717 : decode cL_law 717 = .ok (.iconst 2, 1) := by decide +kernel
theorem dL_law_718 : decode cL_law 718 = .ok (.aload_n 1, 1) := by decide +kernel
theorem dL_law_719 : decode cL_law 719 = .ok (.iload 11, 2) := by decide +kernel
theorem dL_law_721 : decode cL_law 721 = .ok (.iconst 2, 1) := by decide +kernel
theorem dL_law_722 : decode cL_law 722 = .ok (.invokevirtual 33, 3) := by decide +kernel
theorem dL_law_725 : decode cL_law 725 = .ok (.invokevirtual 70, 3) := by decide +kernel
theorem dL_law_728 : decode cL_law 728 = .ok (.aload_n 1, 1) := by decide +kernel
theorem dL_law_729 : decode cL_law 729 = .ok (.iload 11, 2) := by decide +kernel
theorem dL_law_731 : decode cL_law 731 = .ok (.iconst 2, 1) := by decide +kernel
theorem dL_law_732 : decode cL_law 732 = .ok (.invokevirtual 33, 3) := by decide +kernel
theorem dL_law_735 : decode cL_law 735 = .ok (.if_icmp .ne 12, 3) := by decide +kernel
theorem dL_law_738 : decode cL_law 738 = .ok (.aload_n 1, 1) := by decide +kernel
theorem dL_law_739 : decode cL_law 739 = .ok (.invokestatic 52, 3) := by decide +kernel
theorem dL_law_742 : decode cL_law 742 = .ok (.lload_n 3, 1) := by decide +kernel
theorem dL_law_743 : decode cL_law 743 = .ok (.lcmp, 1) := by decide +kernel
theorem dL_law_744 : decode cL_law 744 = .ok (.ifCond .eq 5, 3) := by decide +kernel
theorem dL_law_747 : decode cL_law 747 = .ok (.iconst 0, 1) := by decide +kernel
theorem dL_law_748 : decode cL_law 748 = .ok (.ireturn, 1) := by decide +kernel
theorem dL_law_749 : decode cL_law 749 = .ok (.aload_n 1, 1) := by decide +kernel
theorem dL_law_750 : decode cL_law 750 = .ok (.iload 11, 2) := by decide +kernel
theorem dL_law_752 : decode cL_law 752 = .ok (.iconst 0, 1) := by decide +kernel
theorem dL_law_753 : decode cL_law 753 = .ok (.invokevirtual 33, 3) := by decide +kernel
theorem dL_law_756 : decode cL_law 756 = .ok (.istore 12, 2) := by decide +kernel
theorem dL_law_758 : decode cL_law 758 = .ok (.aload_n 1, 1) := by decide +kernel
theorem dL_law_759 : decode cL_law 759 = .ok (.iload 11, 2) := by decide +kernel
theorem dL_law_761 : decode cL_law 761 = .ok (.iconst 0, 1) := by decide +kernel
theorem dL_law_762 : decode cL_law 762 = .ok (.invokevirtual 77, 3) := by decide +kernel
theorem dL_law_765 : decode cL_law 765 = .ok (.aload_n 1, 1) := by decide +kernel
theorem dL_law_766 : decode cL_law 766 = .ok (.iload 11, 2) := by decide +kernel
theorem dL_law_768 : decode cL_law 768 = .ok (.iconst 5, 1) := by decide +kernel
theorem dL_law_769 : decode cL_law 769 = .ok (.invokevirtual 33, 3) := by decide +kernel
theorem dL_law_772 : decode cL_law 772 = .ok (.aload_n 1, 1) := by decide +kernel
theorem dL_law_773 : decode cL_law 773 = .ok (.iload 11, 2) := by decide +kernel
theorem dL_law_775 : decode cL_law 775 = .ok (.bipush 6, 2) := by decide +kernel
theorem dL_law_777 : decode cL_law 777 = .ok (.invokevirtual 33, 3) := by decide +kernel
theorem dL_law_780 : decode cL_law 780 = .ok (.iadd, 1) := by decide +kernel
theorem dL_law_781 : decode cL_law 781 = .ok (.if_icmp .ne 59, 3) := by decide +kernel
theorem dL_law_784 : decode cL_law 784 = .ok (.aload_n 1, 1) := by decide +kernel
theorem dL_law_785 : decode cL_law 785 = .ok (.iload 11, 2) := by decide +kernel
theorem dL_law_787 : decode cL_law 787 = .ok (.iload 12, 2) := by decide +kernel
theorem dL_law_789 : decode cL_law 789 = .ok (.invokevirtual 77, 3) := by decide +kernel
theorem dL_law_792 : decode cL_law 792 = .ok (.aload_n 1, 1) := by decide +kernel
theorem dL_law_793 : decode cL_law 793 = .ok (.iload 11, 2) := by decide +kernel
theorem dL_law_795 : decode cL_law 795 = .ok (.iconst 0, 1) := by decide +kernel
theorem dL_law_796 : decode cL_law 796 = .ok (.invokevirtual 77, 3) := by decide +kernel
theorem dL_law_799 : decode cL_law 799 = .ok (.if_icmp .ne 41, 3) := by decide +kernel
theorem dL_law_802 : decode cL_law 802 = .ok (.aload_n 1, 1) := by decide +kernel
theorem dL_law_803 : decode cL_law 803 = .ok (.iload 11, 2) := by decide +kernel
theorem dL_law_805 : decode cL_law 805 = .ok (.iload 12, 2) := by decide +kernel
theorem dL_law_807 : decode cL_law 807 = .ok (.iconst 1, 1) := by decide +kernel
theorem dL_law_808 : decode cL_law 808 = .ok (.if_icmp .ne 7, 3) := by decide +kernel
theorem dL_law_811 : decode cL_law 811 = .ok (.iconst 2, 1) := by decide +kernel
theorem dL_law_812 : decode cL_law 812 = .ok (.goto 4, 3) := by decide +kernel
theorem dL_law_815 : decode cL_law 815 = .ok (.iconst 1, 1) := by decide +kernel
theorem dL_law_816 : decode cL_law 816 = .ok (.invokevirtual 77, 3) := by decide +kernel
theorem dL_law_819 : decode cL_law 819 = .ok (.iload 12, 2) := by decide +kernel
theorem dL_law_821 : decode cL_law 821 = .ok (.iconst 3, 1) := by decide +kernel
theorem dL_law_822 : decode cL_law 822 = .ok (.if_icmp .ne 13, 3) := by decide +kernel
theorem dL_law_825 : decode cL_law 825 = .ok (.aload_n 1, 1) := by decide +kernel
theorem dL_law_826 : decode cL_law 826 = .ok (.iload 11, 2) := by decide +kernel
theorem dL_law_828 : decode cL_law 828 = .ok (.iconst 0, 1) := by decide +kernel
theorem dL_law_829 : decode cL_law 829 = .ok (.invokevirtual 77, 3) := by decide +kernel
theorem dL_law_832 : decode cL_law 832 = .ok (.goto 5, 3) := by decide +kernel
theorem dL_law_835 : decode cL_law 835 = .ok (.bipush (-13), 2) := by decide +kernel
theorem dL_law_837 : decode cL_law 837 = .ok (.if_icmp .eq 5, 3) := by decide +kernel
theorem dL_law_840 : decode cL_law 840 = .ok (.iconst 0, 1) := by decide +kernel
theorem dL_law_841 : decode cL_law 841 = .ok (.ireturn, 1) := by decide +kernel
theorem dL_law_842 : decode cL_law 842 = .ok (.aload_n 0, 1) := by decide +kernel
theorem dL_law_843 : decode cL_law 843 = .ok (.bipush 6, 2) := by decide +kernel
theorem dL_law_845 : decode cL_law 845 = .ok (.invokestatic 10, 3) := by decide +kernel
theorem dL_law_848 : decode cL_law 848 = .ok (.bipush 6, 2) := by decide +kernel
theorem dL_law_850 : decode cL_law 850 = .ok (.invokestatic 16, 3) := by decide +kernel
theorem dL_law_853 : decode cL_law 853 = .ok (.istore 11, 2) := by decide +kernel
theorem dL_law_855 : decode cL_law 855 = .ok (.aload_n 0, 1) := by decide +kernel
theorem dL_law_856 : decode cL_law 856 = .ok (.bipush 7, 2) := by decide +kernel
theorem dL_law_858 : decode cL_law 858 = .ok (.invokestatic 10, 3) := by decide +kernel
theorem dL_law_861 : decode cL_law 861 = .ok (.bipush 61, 2) := by decide +kernel
theorem dL_law_863 : decode cL_law 863 = .ok (.invokestatic 16, 3) := by decide +kernel
theorem dL_law_866 : decode cL_law 866 = .ok (.istore 12, 2) := by decide +kernel
theorem dL_law_868 : decode cL_law 868 = .ok (.iconst 1, 1) := by decide +kernel
theorem dL_law_869 : decode cL_law 869 = .ok (.aload_n 0, 1) := by decide +kernel
theorem dL_law_870 : decode cL_law 870 = .ok (.bipush 8, 2) := by decide +kernel
theorem dL_law_872 : decode cL_law 872 = .ok (.invokestatic 10, 3) := by decide +kernel
theorem dL_law_875 : decode cL_law 875 = .ok (.bipush 20, 2) := by decide +kernel
theorem dL_law_877 : decode cL_law 877 = .ok (.invokestatic 16, 3) := by decide +kernel
theorem dL_law_880 : decode cL_law 880 = .ok (.iadd, 1) := by decide +kernel
theorem dL_law_881 : decode cL_law 881 = .ok (.istore 13, 2) := by decide +kernel
theorem dL_law_883 : decode cL_law 883 = .ok (.aload_n 0, 1) := by decide +kernel
theorem dL_law_884 : decode cL_law 884 = .ok (.bipush 9, 2) := by decide +kernel
theorem dL_law_886 : decode cL_law 886 = .ok (.invokestatic 10, 3) := by decide +kernel
theorem dL_law_889 : decode cL_law 889 = .ok (.bipush 61, 2) := by decide +kernel
theorem dL_law_891 : decode cL_law 891 = .ok (.invokestatic 16, 3) := by decide +kernel
theorem dL_law_894 : decode cL_law 894 = .ok (.istore 14, 2) := by decide +kernel
theorem dL_law_896 : decode cL_law 896 = .ok (.iload 11, 2) := by decide +kernel
theorem dL_law_898 : decode cL_law 898 = .ok (.ifCond .ne 8, 3) := by decide +kernel
theorem dL_law_901 : decode cL_law 901 = .ok (.bipush 112, 2) := by decide +kernel
theorem dL_law_903 : decode cL_law 903 = .ok (.goto 49, 3) := by decide +kernel
theorem dL_law_906 : decode cL_law 906 = .ok (.iload 11, 2) := by decide +kernel
theorem dL_law_908 : decode cL_law 908 = .ok (.iconst 1, 1) := by decide +kernel
theorem dL_law_909 : decode cL_law 909 = .ok (.if_icmp .ne 8, 3) := by decide +kernel
theorem dL_law_912 : decode cL_law 912 = .ok (.bipush 114, 2) := by decide +kernel
theorem dL_law_914 : decode cL_law 914 = .ok (.goto 38, 3) := by decide +kernel
theorem dL_law_917 : decode cL_law 917 = .ok (.iload 11, 2) := by decide +kernel
theorem dL_law_919 : decode cL_law 919 = .ok (.iconst 2, 1) := by decide +kernel
theorem dL_law_920 : decode cL_law 920 = .ok (.if_icmp .ne 8, 3) := by decide +kernel
theorem dL_law_923 : decode cL_law 923 = .ok (.bipush 104, 2) := by decide +kernel
theorem dL_law_925 : decode cL_law 925 = .ok (.goto 27, 3) := by decide +kernel
theorem dL_law_928 : decode cL_law 928 = .ok (.iload 11, 2) := by decide +kernel
theorem dL_law_930 : decode cL_law 930 = .ok (.iconst 3, 1) := by decide +kernel
theorem dL_law_931 : decode cL_law 931 = .ok (.if_icmp .ne 8, 3) := by decide +kernel
theorem dL_law_934 : decode cL_law 934 = .ok (.bipush 100, 2) := by decide +kernel
theorem dL_law_936 : decode cL_law 936 = .ok (.goto 16, 3) := by decide +kernel
theorem dL_law_939 : decode cL_law 939 = .ok (.iload 11, 2) := by decide +kernel
theorem dL_law_941 : decode cL_law 941 = .ok (.iconst 4, 1) := by decide +kernel
theorem dL_law_942 : decode cL_law 942 = .ok (.if_icmp .ne 8, 3) := by decide +kernel
theorem dL_law_945 : decode cL_law 945 = .ok (.bipush 109, 2) := by decide +kernel
theorem dL_law_947 : decode cL_law 947 = .ok (.goto 5, 3) := by decide +kernel
theorem dL_law_950 : decode cL_law 950 = .ok (.bipush 115, 2) := by decide +kernel
theorem dL_law_952 : decode cL_law 952 = .ok (.istore 15, 2) := by decide +kernel
theorem dL_law_954 : decode cL_law 954 = .ok (.aload_n 1, 1) := by decide +kernel
theorem dL_law_955 : decode cL_law 955 = .ok (.iconst 4, 1) := by decide +kernel
theorem dL_law_956 : decode cL_law 956 = .ok (.iload 15, 2) := by decide +kernel
theorem dL_law_958 : decode cL_law 958 = .ok (.bipush 48, 2) := by decide +kernel
theorem dL_law_960 : decode cL_law 960 = .ok (.iload 12, 2) := by decide +kernel
theorem dL_law_962 : decode cL_law 962 = .ok (.bipush 10, 2) := by decide +kernel
theorem dL_law_964 : decode cL_law 964 = .ok (.idiv, 1) := by decide +kernel
theorem dL_law_965 : decode cL_law 965 = .ok (.iadd, 1) := by decide +kernel
theorem dL_law_966 : decode cL_law 966 = .ok (.bipush 48, 2) := by decide +kernel
theorem dL_law_968 : decode cL_law 968 = .ok (.iload 12, 2) := by decide +kernel
theorem dL_law_970 : decode cL_law 970 = .ok (.bipush 10, 2) := by decide +kernel
theorem dL_law_972 : decode cL_law 972 = .ok (.irem, 1) := by decide +kernel
theorem dL_law_973 : decode cL_law 973 = .ok (.iadd, 1) := by decide +kernel
theorem dL_law_974 : decode cL_law 974 = .ok (.bipush 44, 2) := by decide +kernel
theorem dL_law_976 : decode cL_law 976 = .ok (.iconst 0, 1) := by decide +kernel
theorem dL_law_977 : decode cL_law 977 = .ok (.invokevirtual 89, 3) := by decide +kernel
theorem dL_law_980 : decode cL_law 980 = .ok (.pop, 1) := by decide +kernel
theorem dL_law_981 : decode cL_law 981 = .ok (.aload_n 1, 1) := by decide +kernel
theorem dL_law_982 : decode cL_law 982 = .ok (.iconst 5, 1) := by decide +kernel
theorem dL_law_983 : decode cL_law 983 = .ok (.bipush 48, 2) := by decide +kernel
theorem dL_law_985 : decode cL_law 985 = .ok (.iload 13, 2) := by decide +kernel
theorem dL_law_987 : decode cL_law 987 = .ok (.bipush 10, 2) := by decide +kernel
theorem dL_law_989 : decode cL_law 989 = .ok (.idiv, 1) := by decide +kernel
theorem dL_law_990 : decode cL_law 990 = .ok (.iadd, 1) := by decide +kernel
theorem dL_law_991 : decode cL_law 991 = .ok (.bipush 48, 2) := by decide +kernel
theorem dL_law_993 : decode cL_law 993 = .ok (.iload 13, 2) := by decide +kernel
theorem dL_law_995 : decode cL_law 995 = .ok (.bipush 10, 2) := by decide +kernel
theorem dL_law_997 : decode cL_law 997 = .ok (.irem, 1) := by decide +kernel
theorem dL_law_998 : decode cL_law 998 = .ok (.iadd, 1) := by decide +kernel
theorem dL_law_999 : decode cL_law 999 = .ok (.bipush 44, 2) := by decide +kernel
theorem dL_law_1001 : decode cL_law 1001 = .ok (.bipush 48, 2) := by decide +kernel
theorem dL_law_1003 : decode cL_law 1003 = .ok (.iload 14, 2) := by decide +kernel
theorem dL_law_1005 : decode cL_law 1005 = .ok (.bipush 10, 2) := by decide +kernel
theorem dL_law_1007 : decode cL_law 1007 = .ok (.idiv, 1) := by decide +kernel
theorem dL_law_1008 : decode cL_law 1008 = .ok (.iadd, 1) := by decide +kernel
theorem dL_law_1009 : decode cL_law 1009 = .ok (.bipush 48, 2) := by decide +kernel
theorem dL_law_1011 : decode cL_law 1011 = .ok (.iload 14, 2) := by decide +kernel
theorem dL_law_1013 : decode cL_law 1013 = .ok (.bipush 10, 2) := by decide +kernel
theorem dL_law_1015 : decode cL_law 1015 = .ok (.irem, 1) := by decide +kernel
theorem dL_law_1016 : decode cL_law 1016 = .ok (.iadd, 1) := by decide +kernel
theorem dL_law_1017 : decode cL_law 1017 = .ok (.invokevirtual 89, 3) := by decide +kernel
theorem dL_law_1020 : decode cL_law 1020 = .ok (.pop, 1) := by decide +kernel
theorem dL_law_1021 : decode cL_law 1021 = .ok (.aload_n 1, 1) := by decide +kernel
theorem dL_law_1022 : decode cL_law 1022 = .ok (.iconst 2, 1) := by decide +kernel
theorem dL_law_1023 : decode cL_law 1023 = .ok (.invokevirtual 27, 3) := by decide +kernel
theorem dL_law_1026 : decode cL_law 1026 = .ok (.bipush 9, 2) := by decide +kernel
theorem dL_law_1028 : decode cL_law 1028 = .ok (.if_icmp .eq 5, 3) := by decide +kernel
theorem dL_law_1031 : decode cL_law 1031 = .ok (.iconst 0, 1) := by decide +kernel
theorem dL_law_1032 : decode cL_law 1032 = .ok (.ireturn, 1) := by decide +kernel
theorem dL_law_1033 : decode cL_law 1033 = .ok (.iload_n 2, 1) := by decide +kernel
theorem dL_law_1034 : decode cL_law 1034 = .ok (.bipush 8, 2) := by decide +kernel
theorem dL_law_1036 : decode cL_law 1036 = .ok (.if_icmp .ne 35, 3) := by decide +kernel
theorem dL_law_1039 : decode cL_law 1039 = .ok (.aload_n 1, 1) := by decide +kernel
theorem dL_law_1040 : decode cL_law 1040 = .ok (.invokevirtual 119, 3) := by decide +kernel
theorem dL_law_1043 : decode cL_law 1043 = .ok (.bipush (-4), 2) := by decide +kernel
theorem dL_law_1045 : decode cL_law 1045 = .ok (.if_icmp .ne 24, 3) := by decide +kernel
theorem dL_law_1048 : decode cL_law 1048 = .ok (.aload_n 1, 1) := by decide +kernel
theorem dL_law_1049 : decode cL_law 1049 = .ok (.iconst 2, 1) := by decide +kernel
theorem dL_law_1050 : decode cL_law 1050 = .ok (.invokevirtual 27, 3) := by decide +kernel
theorem dL_law_1053 : decode cL_law 1053 = .ok (.ifCond .ne 16, 3) := by decide +kernel
theorem dL_law_1056 : decode cL_law 1056 = .ok (.aload_n 1, 1) := by decide +kernel
theorem dL_law_1057 : decode cL_law 1057 = .ok (.invokestatic 52, 3) := by decide +kernel
theorem dL_law_1060 : decode cL_law 1060 = .ok (.lload_n 3, 1) := by decide +kernel
theorem dL_law_1061 : decode cL_law 1061 = .ok (.lcmp, 1) := by decide +kernel
theorem dL_law_1062 : decode cL_law 1062 = .ok (.ifCond .ne 7, 3) := by decide +kernel
theorem dL_law_1065 : decode cL_law 1065 = .ok (.iconst 1, 1) := by decide +kernel
theorem dL_law_1066 : decode cL_law 1066 = .ok (.goto 4, 3) := by decide +kernel
theorem dL_law_1069 : decode cL_law 1069 = .ok (.iconst 0, 1) := by decide +kernel
theorem dL_law_1070 : decode cL_law 1070 = .ok (.ireturn, 1) := by decide +kernel
theorem dL_law_1071 : decode cL_law 1071 = .ok (.aload_n 1, 1) := by decide +kernel
theorem dL_law_1072 : decode cL_law 1072 = .ok (.invokevirtual 119, 3) := by decide +kernel
theorem dL_law_1075 : decode cL_law 1075 = .ok (.iload_n 2, 1) := by decide +kernel
theorem dL_law_1076 : decode cL_law 1076 = .ok (.iconst 1, 1) := by decide +kernel
theorem dL_law_1077 : decode cL_law 1077 = .ok (.iadd, 1) := by decide +kernel
theorem dL_law_1078 : decode cL_law 1078 = .ok (.if_icmp .ne 55, 3) := by decide +kernel
theorem dL_law_1081 : decode cL_law 1081 = .ok (.aload_n 1, 1) := by decide +kernel
theorem dL_law_1082 : decode cL_law 1082 = .ok (.iload_n 2, 1) := by decide +kernel
theorem dL_law_1083 : decode cL_law 1083 = .ok (.iconst 0, 1) := by decide +kernel
theorem dL_law_1084 : decode cL_law 1084 = .ok (.invokevirtual 33, 3) := by decide +kernel
theorem dL_law_1087 : decode cL_law 1087 = .ok (.iload 11, 2) := by decide +kernel
theorem dL_law_1089 : decode cL_law 1089 = .ok (.if_icmp .ne 44, 3) := by decide +kernel
theorem dL_law_1092 : decode cL_law 1092 = .ok (.aload_n 1, 1) := by decide +kernel
theorem dL_law_1093 : decode cL_law 1093 = .ok (.iload_n 2, 1) := by decide +kernel
theorem dL_law_1094 : decode cL_law 1094 = .ok (.iconst 1, 1) := by decide +kernel
theorem dL_law_1095 : decode cL_law 1095 = .ok (.invokevirtual 33, 3) := by decide +kernel
theorem dL_law_1098 : decode cL_law 1098 = .ok (.iload 12, 2) := by decide +kernel
theorem dL_law_1100 : decode cL_law 1100 = .ok (.if_icmp .ne 33, 3) := by decide +kernel
theorem dL_law_1103 : decode cL_law 1103 = .ok (.aload_n 1, 1) := by decide +kernel
theorem dL_law_1104 : decode cL_law 1104 = .ok (.iload_n 2, 1) := by decide +kernel
theorem dL_law_1105 : decode cL_law 1105 = .ok (.iconst 2, 1) := by decide +kernel
theorem dL_law_1106 : decode cL_law 1106 = .ok (.invokevirtual 33, 3) := by decide +kernel
theorem dL_law_1109 : decode cL_law 1109 = .ok (.iload 13, 2) := by decide +kernel
theorem dL_law_1111 : decode cL_law 1111 = .ok (.if_icmp .ne 22, 3) := by decide +kernel
theorem dL_law_1114 : decode cL_law 1114 = .ok (.aload_n 1, 1) := by decide +kernel
theorem dL_law_1115 : decode cL_law 1115 = .ok (.iload_n 2, 1) := by decide +kernel
theorem dL_law_1116 : decode cL_law 1116 = .ok (.iconst 3, 1) := by decide +kernel
theorem dL_law_1117 : decode cL_law 1117 = .ok (.invokevirtual 33, 3) := by decide +kernel
theorem dL_law_1120 : decode cL_law 1120 = .ok (.iload 14, 2) := by decide +kernel
theorem dL_law_1122 : decode cL_law 1122 = .ok (.if_icmp .ne 11, 3) := by decide +kernel
theorem dL_law_1125 : decode cL_law 1125 = .ok (.aload_n 1, 1) := by decide +kernel
theorem dL_law_1126 : decode cL_law 1126 = .ok (.iconst 2, 1) := by decide +kernel
theorem dL_law_1127 : decode cL_law 1127 = .ok (.invokevirtual 27, 3) := by decide +kernel
theorem dL_law_1130 : decode cL_law 1130 = .ok (.ifCond .eq 5, 3) := by decide +kernel
theorem dL_law_1133 : decode cL_law 1133 = .ok (.iconst 0, 1) := by decide +kernel
theorem dL_law_1134 : decode cL_law 1134 = .ok (.ireturn, 1) := by decide +kernel
theorem dL_law_1135 : decode cL_law 1135 = .ok (.aload_n 1, 1) := by decide +kernel
theorem dL_law_1136 : decode cL_law 1136 = .ok (.iconst 5, 1) := by decide +kernel
theorem dL_law_1137 : decode cL_law 1137 = .ok (.iload 15, 2) := by decide +kernel
theorem dL_law_1139 : decode cL_law 1139 = .ok (.bipush 57, 2) := by decide +kernel
theorem dL_law_1141 : decode cL_law 1141 = .ok (.bipush 57, 2) := by decide +kernel
theorem dL_law_1143 : decode cL_law 1143 = .ok (.bipush 44, 2) := by decide +kernel
theorem dL_law_1145 : decode cL_law 1145 = .ok (.bipush 49, 2) := by decide +kernel
theorem dL_law_1147 : decode cL_law 1147 = .ok (.invokevirtual 89, 3) := by decide +kernel
theorem dL_law_1150 : decode cL_law 1150 = .ok (.pop, 1) := by decide +kernel
theorem dL_law_1151 : decode cL_law 1151 = .ok (.aload_n 1, 1) := by decide +kernel
theorem dL_law_1152 : decode cL_law 1152 = .ok (.invokevirtual 119, 3) := by decide +kernel
theorem dL_law_1155 : decode cL_law 1155 = .ok (.bipush (-101), 2) := by decide +kernel
theorem dL_law_1157 : decode cL_law 1157 = .ok (.if_icmp .ne 14, 3) := by decide +kernel
theorem dL_law_1160 : decode cL_law 1160 = .ok (.aload_n 1, 1) := by decide +kernel
theorem dL_law_1161 : decode cL_law 1161 = .ok (.iconst 0, 1) := by decide +kernel
theorem dL_law_1162 : decode cL_law 1162 = .ok (.invokevirtual 27, 3) := by decide +kernel
theorem dL_law_1165 : decode cL_law 1165 = .ok (.iload_n 2, 1) := by decide +kernel
theorem dL_law_1166 : decode cL_law 1166 = .ok (.iconst 1, 1) := by decide +kernel
theorem dL_law_1167 : decode cL_law 1167 = .ok (.iadd, 1) := by decide +kernel
theorem dL_law_1168 : decode cL_law 1168 = .ok (.if_icmp .eq 5, 3) := by decide +kernel
theorem dL_law_1171 : decode cL_law 1171 = .ok (.iconst 0, 1) := by decide +kernel
theorem dL_law_1172 : decode cL_law 1172 = .ok (.ireturn, 1) := by decide +kernel
theorem dL_law_1173 : decode cL_law 1173 = .ok (.aload_n 1, 1) := by decide +kernel
theorem dL_law_1174 : decode cL_law 1174 = .ok (.iconst 4, 1) := by decide +kernel
theorem dL_law_1175 : decode cL_law 1175 = .ok (.iload 15, 2) := by decide +kernel
theorem dL_law_1177 : decode cL_law 1177 = .ok (.bipush 53, 2) := by decide +kernel
theorem dL_law_1179 : decode cL_law 1179 = .ok (.bipush 44, 2) := by decide +kernel
theorem dL_law_1181 : decode cL_law 1181 = .ok (.bipush 48, 2) := by decide +kernel
theorem dL_law_1183 : decode cL_law 1183 = .ok (.iconst 0, 1) := by decide +kernel
theorem dL_law_1184 : decode cL_law 1184 = .ok (.invokevirtual 89, 3) := by decide +kernel
theorem dL_law_1187 : decode cL_law 1187 = .ok (.pop, 1) := by decide +kernel
theorem dL_law_1188 : decode cL_law 1188 = .ok (.aload_n 1, 1) := by decide +kernel
theorem dL_law_1189 : decode cL_law 1189 = .ok (.invokevirtual 119, 3) := by decide +kernel
theorem dL_law_1192 : decode cL_law 1192 = .ok (.bipush (-103), 2) := by decide +kernel
theorem dL_law_1194 : decode cL_law 1194 = .ok (.if_icmp .ne 12, 3) := by decide +kernel
theorem dL_law_1197 : decode cL_law 1197 = .ok (.aload_n 1, 1) := by decide +kernel
theorem dL_law_1198 : decode cL_law 1198 = .ok (.invokevirtual 119, 3) := by decide +kernel
theorem dL_law_1201 : decode cL_law 1201 = .ok (.bipush (-100), 2) := by decide +kernel
theorem dL_law_1203 : decode cL_law 1203 = .ok (.if_icmp .eq 5, 3) := by decide +kernel
theorem dL_law_1206 : decode cL_law 1206 = .ok (.iconst 0, 1) := by decide +kernel
theorem dL_law_1207 : decode cL_law 1207 = .ok (.ireturn, 1) := by decide +kernel
theorem dL_law_1208 : decode cL_law 1208 = .ok (.aload_n 1, 1) := by decide +kernel
theorem dL_law_1209 : decode cL_law 1209 = .ok (.invokevirtual 42, 3) := by decide +kernel
theorem dL_law_1212 : decode cL_law 1212 = .ok (.iload_n 2, 1) := by decide +kernel
theorem dL_law_1213 : decode cL_law 1213 = .ok (.if_icmp .ne 16, 3) := by decide +kernel
theorem dL_law_1216 : decode cL_law 1216 = .ok (.aload_n 1, 1) := by decide +kernel
theorem dL_law_1217 : decode cL_law 1217 = .ok (.invokestatic 52, 3) := by decide +kernel
theorem dL_law_1220 : decode cL_law 1220 = .ok (.lload_n 3, 1) := by decide +kernel
theorem dL_law_1221 : decode cL_law 1221 = .ok (.lcmp, 1) := by decide +kernel
theorem dL_law_1222 : decode cL_law 1222 = .ok (.ifCond .ne 7, 3) := by decide +kernel
theorem dL_law_1225 : decode cL_law 1225 = .ok (.iconst 1, 1) := by decide +kernel
theorem dL_law_1226 : decode cL_law 1226 = .ok (.goto 4, 3) := by decide +kernel
theorem dL_law_1229 : decode cL_law 1229 = .ok (.iconst 0, 1) := by decide +kernel
theorem dL_law_1230 : decode cL_law 1230 = .ok (.ireturn, 1) := by decide +kernel
