theorem dX11_init_0 : decode cX11_init 0 = .ok (.aload_n 0, 1) := by decide +kernel
theorem dX11_init_1 : decode cX11_init 1 = .ok (.invokespecial 1, 3) := by decide +kernel
theorem dX11_init_4 : decode cX11_init 4 = .ok (.aload_n 0, 1) := by decide +kernel
theorem dX11_init_5 : decode cX11_init 5 = .ok (.bipush 8, 2) := by decide +kernel
theorem dX11_init_7 : decode cX11_init 7 = .ok (.newarray .int, 2) := by decide +kernel
theorem dX11_init_9 : decode cX11_init 9 = .ok (.putfield 9, 3) := by decide +kernel
theorem dX11_init_12 : decode cX11_init 12 = .ok (.aload_n 0, 1) := by decide +kernel
theorem dX11_init_13 : decode cX11_init 13 = .ok (.bipush 8, 2) := by decide +kernel
theorem dX11_init_15 : decode cX11_init 15 = .ok (.newarray .int, 2) := by decide +kernel
theorem dX11_init_17 : decode cX11_init 17 = .ok (.putfield 13, 3) := by decide +kernel
theorem dX11_init_20 : decode cX11_init 20 = .ok (.aload_n 0, 1) := by decide +kernel
theorem dX11_init_21 : decode cX11_init 21 = .ok (.bipush 8, 2) := by decide +kernel
theorem dX11_init_23 : decode cX11_init 23 = .ok (.newarray .int, 2) := by decide +kernel
theorem dX11_init_25 : decode cX11_init 25 = .ok (.putfield 16, 3) := by decide +kernel
theorem dX11_init_28 : decode cX11_init 28 = .ok (.aload_n 0, 1) := by decide +kernel
theorem dX11_init_29 : decode cX11_init 29 = .ok (.bipush 8, 2) := by decide +kernel
theorem dX11_init_31 : decode cX11_init 31 = .ok (.newarray .int, 2) := by decide +kernel
theorem dX11_init_33 : decode cX11_init 33 = .ok (.putfield 19, 3) := by decide +kernel
theorem dX11_init_36 : decode cX11_init 36 = .ok (.aload_n 0, 1) := by decide +kernel
theorem dX11_init_37 : decode cX11_init 37 = .ok (.bipush 60, 2) := by decide +kernel
theorem dX11_init_39 : decode cX11_init 39 = .ok (.newarray .int, 2) := by decide +kernel
theorem dX11_init_41 : decode cX11_init 41 = .ok (.putfield 22, 3) := by decide +kernel
theorem dX11_init_44 : decode cX11_init 44 = .ok (.aload_n 0, 1) := by decide +kernel
theorem dX11_init_45 : decode cX11_init 45 = .ok (.bipush 120, 2) := by decide +kernel
theorem dX11_init_47 : decode cX11_init 47 = .ok (.newarray .int, 2) := by decide +kernel
theorem dX11_init_49 : decode cX11_init 49 = .ok (.putfield 25, 3) := by decide +kernel
theorem dX11_init_52 : decode cX11_init 52 = .ok (.aload_n 0, 1) := by decide +kernel
theorem dX11_init_53 : decode cX11_init 53 = .ok (.bipush 8, 2) := by decide +kernel
theorem dX11_init_55 : decode cX11_init 55 = .ok (.newarray .int, 2) := by decide +kernel
theorem dX11_init_57 : decode cX11_init 57 = .ok (.putfield 28, 3) := by decide +kernel
theorem dX11_init_60 : decode cX11_init 60 = .ok (.aload_n 0, 1) := by decide +kernel
theorem dX11_init_61 : decode cX11_init 61 = .ok (.bipush 8, 2) := by decide +kernel
theorem dX11_init_63 : decode cX11_init 63 = .ok (.newarray .int, 2) := by decide +kernel
theorem dX11_init_65 : decode cX11_init 65 = .ok (.putfield 31, 3) := by decide +kernel
theorem dX11_init_68 : decode cX11_init 68 = .ok (.aload_n 0, 1) := by decide +kernel
theorem dX11_init_69 : decode cX11_init 69 = .ok (.bipush 8, 2) := by decide +kernel
theorem dX11_init_71 : decode cX11_init 71 = .ok (.newarray .int, 2) := by decide +kernel
theorem dX11_init_73 : decode cX11_init 73 = .ok (.putfield 34, 3) := by decide +kernel
theorem dX11_init_76 : decode cX11_init 76 = .ok (.aload_n 0, 1) := by decide +kernel
theorem dX11_init_77 : decode cX11_init 77 = .ok (.bipush 8, 2) := by decide +kernel
theorem dX11_init_79 : decode cX11_init 79 = .ok (.newarray .int, 2) := by decide +kernel
theorem dX11_init_81 : decode cX11_init 81 = .ok (.putfield 37, 3) := by decide +kernel
theorem dX11_init_84 : decode cX11_init 84 = .ok (.aload_n 0, 1) := by decide +kernel
theorem dX11_init_85 : decode cX11_init 85 = .ok (.bipush 8, 2) := by decide +kernel
theorem dX11_init_87 : decode cX11_init 87 = .ok (.newarray .int, 2) := by decide +kernel
theorem dX11_init_89 : decode cX11_init 89 = .ok (.putfield 40, 3) := by decide +kernel
theorem dX11_init_92 : decode cX11_init 92 = .ok (.aload_n 0, 1) := by decide +kernel
theorem dX11_init_93 : decode cX11_init 93 = .ok (.bipush 8, 2) := by decide +kernel
theorem dX11_init_95 : decode cX11_init 95 = .ok (.newarray .int, 2) := by decide +kernel
theorem dX11_init_97 : decode cX11_init 97 = .ok (.putfield 43, 3) := by decide +kernel
theorem dX11_init_100 : decode cX11_init 100 = .ok (.aload_n 0, 1) := by decide +kernel
theorem dX11_init_101 : decode cX11_init 101 = .ok (.bipush 8, 2) := by decide +kernel
theorem dX11_init_103 : decode cX11_init 103 = .ok (.newarray .int, 2) := by decide +kernel
theorem dX11_init_105 : decode cX11_init 105 = .ok (.putfield 46, 3) := by decide +kernel
theorem dX11_init_108 : decode cX11_init 108 = .ok (.aload_n 0, 1) := by decide +kernel
theorem dX11_init_109 : decode cX11_init 109 = .ok (.sipush 400, 3) := by decide +kernel
theorem dX11_init_112 : decode cX11_init 112 = .ok (.newarray .int, 2) := by decide +kernel
theorem dX11_init_114 : decode cX11_init 114 = .ok (.putfield 49, 3) := by decide +kernel
theorem dX11_init_117 : decode cX11_init 117 = .ok (.aload_n 0, 1) := by decide +kernel
theorem dX11_init_118 : decode cX11_init 118 = .ok (.sipush 400, 3) := by decide +kernel
theorem dX11_init_121 : decode cX11_init 121 = .ok (.newarray .int, 2) := by decide +kernel
theorem dX11_init_123 : decode cX11_init 123 = .ok (.putfield 52, 3) := by decide +kernel
theorem dX11_init_126 : decode cX11_init 126 = .ok (.aload_n 0, 1) := by decide +kernel
theorem dX11_init_127 : decode cX11_init 127 = .ok (.sipush 400, 3) := by decide +kernel
theorem dX11_init_130 : decode cX11_init 130 = .ok (.newarray .int, 2) := by decide +kernel
theorem dX11_init_132 : decode cX11_init 132 = .ok (.putfield 55, 3) := by decide +kernel
theorem dX11_init_135 : decode cX11_init 135 = .ok (.aload_n 0, 1) := by decide +kernel
theorem dX11_init_136 : decode cX11_init 136 = .ok (.sipush 400, 3) := by decide +kernel
theorem dX11_init_139 : decode cX11_init 139 = .ok (.newarray .int, 2) := by decide +kernel
theorem dX11_init_141 : decode cX11_init 141 = .ok (.putfield 58, 3) := by decide +kernel
theorem dX11_init_144 : decode cX11_init 144 = .ok (.aload_n 0, 1) := by decide +kernel
theorem dX11_init_145 : decode cX11_init 145 = .ok (.sipush 400, 3) := by decide +kernel
theorem dX11_init_148 : decode cX11_init 148 = .ok (.newarray .int, 2) := by decide +kernel
theorem dX11_init_150 : decode cX11_init 150 = .ok (.putfield 61, 3) := by decide +kernel
theorem dX11_init_153 : decode cX11_init 153 = .ok (.aload_n 0, 1) := by decide +kernel
theorem dX11_init_154 : decode cX11_init 154 = .ok (.sipush 400, 3) := by decide +kernel
theorem dX11_init_157 : decode cX11_init 157 = .ok (.newarray .int, 2) := by decide +kernel
theorem dX11_init_159 : decode cX11_init 159 = .ok (.putfield 64, 3) := by decide +kernel
theorem dX11_init_162 : decode cX11_init 162 = .ok (.aload_n 0, 1) := by decide +kernel
theorem dX11_init_163 : decode cX11_init 163 = .ok (.sipush 256, 3) := by decide +kernel
theorem dX11_init_166 : decode cX11_init 166 = .ok (.newarray .int, 2) := by decide +kernel
theorem dX11_init_168 : decode cX11_init 168 = .ok (.putfield 67, 3) := by decide +kernel
theorem dX11_init_171 : decode cX11_init 171 = .ok (.aload_n 0, 1) := by decide +kernel
theorem dX11_init_172 : decode cX11_init 172 = .ok (.sipush 256, 3) := by decide +kernel
theorem dX11_init_175 : decode cX11_init 175 = .ok (.newarray .int, 2) := by decide +kernel
theorem dX11_init_177 : decode cX11_init 177 = .ok (.putfield 70, 3) := by decide +kernel
theorem dX11_init_180 : decode cX11_init 180 = .ok (.aload_n 0, 1) := by decide +kernel
theorem dX11_init_181 : decode cX11_init 181 = .ok (.sipush 256, 3) := by decide +kernel
theorem dX11_init_184 : decode cX11_init 184 = .ok (.newarray .int, 2) := by decide +kernel
theorem dX11_init_186 : decode cX11_init 186 = .ok (.putfield 73, 3) := by decide +kernel
theorem dX11_init_189 : decode cX11_init 189 = .ok (.aload_n 0, 1) := by decide +kernel
theorem dX11_init_190 : decode cX11_init 190 = .ok (.sipush 16384, 3) := by decide +kernel
theorem dX11_init_193 : decode cX11_init 193 = .ok (.newarray .int, 2) := by decide +kernel
theorem dX11_init_195 : decode cX11_init 195 = .ok (.putfield 76, 3) := by decide +kernel
theorem dX11_init_198 : decode cX11_init 198 = .ok (.aload_n 0, 1) := by decide +kernel
theorem dX11_init_199 : decode cX11_init 199 = .ok (.bipush 8, 2) := by decide +kernel
theorem dX11_init_201 : decode cX11_init 201 = .ok (.newarray .int, 2) := by decide +kernel
theorem dX11_init_203 : decode cX11_init 203 = .ok (.putfield 79, 3) := by decide +kernel
theorem dX11_init_206 : decode cX11_init 206 = .ok (.aload_n 0, 1) := by decide +kernel
theorem dX11_init_207 : decode cX11_init 207 = .ok (.bipush 8, 2) := by decide +kernel
theorem dX11_init_209 : decode cX11_init 209 = .ok (.newarray .int, 2) := by decide +kernel
theorem dX11_init_211 : decode cX11_init 211 = .ok (.putfield 82, 3) := by decide +kernel
theorem dX11_init_214 : decode cX11_init 214 = .ok (.aload_n 0, 1) := by decide +kernel
theorem dX11_init_215 : decode cX11_init 215 = .ok (.bipush 8, 2) := by decide +kernel
theorem dX11_init_217 : decode cX11_init 217 = .ok (.newarray .int, 2) := by decide +kernel
theorem dX11_init_219 : decode cX11_init 219 = .ok (.putfield 85, 3) := by decide +kernel
theorem dX11_init_222 : decode cX11_init 222 = .ok (.aload_n 0, 1) := by decide +kernel
theorem dX11_init_223 : decode cX11_init 223 = .ok (.bipush 32, 2) := by decide +kernel
theorem dX11_init_225 : decode cX11_init 225 = .ok (.newarray .int, 2) := by decide +kernel
theorem dX11_init_227 : decode cX11_init 227 = .ok (.putfield 88, 3) := by decide +kernel
theorem dX11_init_230 : decode cX11_init 230 = .ok (.aload_n 0, 1) := by decide +kernel
theorem dX11_init_231 : decode cX11_init 231 = .ok (.iconst (-1), 1) := by decide +kernel
theorem dX11_init_232 : decode cX11_init 232 = .ok (.putfield 91, 3) := by decide +kernel
theorem dX11_init_235 : decode cX11_init 235 = .ok (.aload_n 0, 1) := by decide +kernel
theorem dX11_init_236 : decode cX11_init 236 = .ok (.iconst 4, 1) := by decide +kernel
theorem dX11_init_237 : decode cX11_init 237 = .ok (.newarray .int, 2) := by decide +kernel
theorem dX11_init_239 : decode cX11_init 239 = .ok (.putfield 95, 3) := by decide +kernel
theorem dX11_init_242 : decode cX11_init 242 = .ok (.aload_n 0, 1) := by decide +kernel
theorem dX11_init_243 : decode cX11_init 243 = .ok (.iconst 4, 1) := by decide +kernel
theorem dX11_init_244 : decode cX11_init 244 = .ok (.newarray .int, 2) := by decide +kernel
theorem dX11_init_246 : decode cX11_init 246 = .ok (.putfield 98, 3) := by decide +kernel
theorem dX11_init_249 : decode cX11_init 249 = .ok (.aload_n 0, 1) := by decide +kernel
theorem dX11_init_250 : decode cX11_init 250 = .ok (.sipush 160, 3) := by decide +kernel
theorem dX11_init_253 : decode cX11_init 253 = .ok (.newarray .long, 2) := by decide +kernel
theorem dX11_init_255 : decode cX11_init 255 = .ok (.putfield 101, 3) := by decide +kernel
theorem dX11_init_258 : decode cX11_init 258 = .ok (.iconst 0, 1) := by decide +kernel
theorem dX11_init_259 : decode cX11_init 259 = .ok (.istore_n 1, 1) := by decide +kernel
theorem dX11_init_260 : decode cX11_init 260 = .ok (.iload_n 1, 1) := by decide +kernel
theorem dX11_init_261 : decode cX11_init 261 = .ok (.iconst 4, 1) := by decide +kernel
theorem dX11_init_262 : decode cX11_init 262 = .ok (.if_icmp .ge 16, 3) := by decide +kernel
theorem dX11_init_265 : decode cX11_init 265 = .ok (.aload_n 0, 1) := by decide +kernel
theorem dX11_init_266 : decode cX11_init 266 = .ok (.getfield 95, 3) := by decide +kernel
theorem dX11_init_269 : decode cX11_init 269 = .ok (.iload_n 1, 1) := by decide +kernel
theorem dX11_init_270 : decode cX11_init 270 = .ok (.iconst (-1), 1) := by decide +kernel
theorem dX11_init_271 : decode cX11_init 271 = .ok (.iastore, 1) := by decide +kernel
theorem dX11_init_272 : decode cX11_init 272 = .ok (.iinc 1 1, 3) := by decide +kernel
theorem dX11_init_275 : decode cX11_init 275 = .ok (.goto (-15), 3) := by decide +kernel
theorem dX11_init_278 : decode cX11_init 278 = .ok (.aload_n 0, 1) := by decide +kernel
theorem dX11_init_279 : decode cX11_init 279 = .ok (.invokevirtual 105, 3) := by decide +kernel
theorem dX11_init_282 : decode cX11_init 282 = .ok (.return_, 1) := by decide +kernel
theorem dX11_in_0 : decode cX11_in 0 = .ok (.iload_n 0, 1) := by decide +kernel
theorem dX11_in_1 : decode cX11_in 1 = .ok (.iload_n 1, 1) := by decide +kernel
theorem dX11_in_2 : decode cX11_in 2 = .ok (.if_icmp .lt 12, 3) := by decide +kernel
theorem dX11_in_5 : decode cX11_in 5 = .ok (.iload_n 0, 1) := by decide +kernel
theorem dX11_in_6 : decode cX11_in 6 = .ok (.iload_n 2, 1) := by decide +kernel
theorem dX11_in_7 : decode cX11_in 7 = .ok (.if_icmp .gt 7, 3) := by decide +kernel
theorem dX11_in_10 : decode cX11_in 10 = .ok (.iconst 1, 1) := by decide +kernel
theorem dX11_in_11 : decode cX11_in 11 = .ok (.goto 4, 3) := by decide +kernel
theorem dX11_in_14 : decode cX11_in 14 = .ok (.iconst 0, 1) := by decide +kernel
theorem dX11_in_15 : decode cX11_in 15 = .ok (.ireturn, 1) := by decide +kernel
theorem dX11_isJob_0 : decode cX11_isJob 0 = .ok (.iload_n 1, 1) := by decide +kernel
theorem dX11_isJob_1 : decode cX11_isJob 1 = .ok (.iconst 0, 1) := by decide +kernel
theorem dX11_isJob_2 : decode cX11_isJob 2 = .ok (.aload_n 0, 1) := by decide +kernel
theorem dX11_isJob_3 : decode cX11_isJob 3 = .ok (.getfield 111, 3) := by decide +kernel
theorem dX11_isJob_6 : decode cX11_isJob 6 = .ok (.iconst 1, 1) := by decide +kernel
theorem dX11_isJob_7 : decode cX11_isJob 7 = .ok (.isub, 1) := by decide +kernel
theorem dX11_isJob_8 : decode cX11_isJob 8 = .ok (.invokestatic 114, 3) := by decide +kernel
theorem dX11_isJob_11 : decode cX11_isJob 11 = .ok (.ireturn, 1) := by decide +kernel
theorem dX11_mayBe_0 : decode cX11_mayBe 0 = .ok (.iload_n 0, 1) := by decide +kernel
theorem dX11_mayBe_1 : decode cX11_mayBe 1 = .ok (.ifCond .ne 12, 3) := by decide +kernel
theorem dX11_mayBe_4 : decode cX11_mayBe 4 = .ok (.iload_n 1, 1) := by decide +kernel
theorem dX11_mayBe_5 : decode cX11_mayBe 5 = .ok (.iconst 0, 1) := by decide +kernel
theorem dX11_mayBe_6 : decode cX11_mayBe 6 = .ok (.iconst 5, 1) := by decide +kernel
theorem dX11_mayBe_7 : decode cX11_mayBe 7 = .ok (.invokestatic 114, 3) := by decide +kernel
theorem dX11_mayBe_10 : decode cX11_mayBe 10 = .ok (.goto 25, 3) := by decide +kernel
theorem dX11_mayBe_13 : decode cX11_mayBe 13 = .ok (.iload_n 0, 1) := by decide +kernel
theorem dX11_mayBe_14 : decode cX11_mayBe 14 = .ok (.iconst 2, 1) := by decide +kernel
theorem dX11_mayBe_15 : decode cX11_mayBe 15 = .ok (.if_icmp .ne 13, 3) := by decide +kernel
theorem dX11_mayBe_18 : decode cX11_mayBe 18 = .ok (.iload_n 1, 1) := by decide +kernel
theorem dX11_mayBe_19 : decode cX11_mayBe 19 = .ok (.iconst 1, 1) := by decide +kernel
theorem dX11_mayBe_20 : decode cX11_mayBe 20 = .ok (.bipush 20, 2) := by decide +kernel
theorem dX11_mayBe_22 : decode cX11_mayBe 22 = .ok (.invokestatic 114, 3) := by decide +kernel
theorem dX11_mayBe_25 : decode cX11_mayBe 25 = .ok (.goto 10, 3) := by decide +kernel
theorem dX11_mayBe_28 : decode cX11_mayBe 28 = .ok (.iload_n 1, 1) := by decide +kernel
theorem dX11_mayBe_29 : decode cX11_mayBe 29 = .ok (.iconst 0, 1) := by decide +kernel
theorem dX11_mayBe_30 : decode cX11_mayBe 30 = .ok (.bipush 60, 2) := by decide +kernel
theorem dX11_mayBe_32 : decode cX11_mayBe 32 = .ok (.invokestatic 114, 3) := by decide +kernel
theorem dX11_mayBe_35 : decode cX11_mayBe 35 = .ok (.ireturn, 1) := by decide +kernel
theorem dX11_over_0 : decode cX11_over 0 = .ok (.iload_n 0, 1) := by decide +kernel
theorem dX11_over_1 : decode cX11_over 1 = .ok (.ifCond .ne 7, 3) := by decide +kernel
theorem dX11_over_4 : decode cX11_over 4 = .ok (.iconst (-1), 1) := by decide +kernel
theorem dX11_over_5 : decode cX11_over 5 = .ok (.goto 31, 3) := by decide +kernel
theorem dX11_over_8 : decode cX11_over 8 = .ok (.iload_n 0, 1) := by decide +kernel
theorem dX11_over_9 : decode cX11_over 9 = .ok (.iconst 3, 1) := by decide +kernel
theorem dX11_over_10 : decode cX11_over 10 = .ok (.if_icmp .ne 7, 3) := by decide +kernel
theorem dX11_over_13 : decode cX11_over 13 = .ok (.iconst 1, 1) := by decide +kernel
theorem dX11_over_14 : decode cX11_over 14 = .ok (.goto 22, 3) := by decide +kernel
theorem dX11_over_17 : decode cX11_over 17 = .ok (.iload_n 0, 1) := by decide +kernel
theorem dX11_over_18 : decode cX11_over 18 = .ok (.iconst 4, 1) := by decide +kernel
theorem dX11_over_19 : decode cX11_over 19 = .ok (.if_icmp .ne 7, 3) := by decide +kernel
theorem dX11_over_22 : decode cX11_over 22 = .ok (.iconst 2, 1) := by decide +kernel
theorem dX11_over_23 : decode cX11_over 23 = .ok (.goto 13, 3) := by decide +kernel
theorem dX11_over_26 : decode cX11_over 26 = .ok (.iload_n 0, 1) := by decide +kernel
theorem dX11_over_27 : decode cX11_over 27 = .ok (.iconst 5, 1) := by decide +kernel
theorem dX11_over_28 : decode cX11_over 28 = .ok (.if_icmp .ne 7, 3) := by decide +kernel
theorem dX11_over_31 : decode cX11_over 31 = .ok (.iconst 4, 1) := by decide +kernel
theorem dX11_over_32 : decode cX11_over 32 = .ok (.goto 4, 3) := by decide +kernel
theorem dX11_over_35 : decode cX11_over 35 = .ok (.iconst 0, 1) := by decide +kernel
theorem dX11_over_36 : decode cX11_over 36 = .ok (.ireturn, 1) := by decide +kernel
theorem dX11_isUnder_0 : decode cX11_isUnder 0 = .ok (.iload_n 0, 1) := by decide +kernel
theorem dX11_isUnder_1 : decode cX11_isUnder 1 = .ok (.istore_n 2, 1) := by decide +kernel
theorem dX11_isUnder_2 : decode cX11_isUnder 2 = .ok (.iload_n 2, 1) := by decide +kernel
theorem dX11_isUnder_3 : decode cX11_isUnder 3 = .ok (.iconst (-1), 1) := by decide +kernel
theorem dX11_isUnder_4 : decode cX11_isUnder 4 = .ok (.if_icmp .eq 16, 3) := by decide +kernel
theorem dX11_isUnder_7 : decode cX11_isUnder 7 = .ok (.iload_n 2, 1) := by decide +kernel
theorem dX11_isUnder_8 : decode cX11_isUnder 8 = .ok (.iload_n 1, 1) := by decide +kernel
theorem dX11_isUnder_9 : decode cX11_isUnder 9 = .ok (.if_icmp .eq 11, 3) := by decide +kernel
theorem dX11_isUnder_12 : decode cX11_isUnder 12 = .ok (.iload_n 2, 1) := by decide +kernel
theorem dX11_isUnder_13 : decode cX11_isUnder 13 = .ok (.invokestatic 118, 3) := by decide +kernel
theorem dX11_isUnder_16 : decode cX11_isUnder 16 = .ok (.istore_n 2, 1) := by decide +kernel
theorem dX11_isUnder_17 : decode cX11_isUnder 17 = .ok (.goto (-15), 3) := by decide +kernel
theorem dX11_isUnder_20 : decode cX11_isUnder 20 = .ok (.iload_n 2, 1) := by decide +kernel
theorem dX11_isUnder_21 : decode cX11_isUnder 21 = .ok (.iload_n 1, 1) := by decide +kernel
theorem dX11_isUnder_22 : decode cX11_isUnder 22 = .ok (.if_icmp .ne 7, 3) := by decide +kernel
theorem dX11_isUnder_25 : decode cX11_isUnder 25 = .ok (.iconst 1, 1) := by decide +kernel
theorem dX11_isUnder_26 : decode cX11_isUnder 26 = .ok (.goto 4, 3) := by decide +kernel
theorem dX11_isUnder_29 : decode cX11_isUnder 29 = .ok (.iconst 0, 1) := by decide +kernel
theorem dX11_isUnder_30 : decode cX11_isUnder 30 = .ok (.ireturn, 1) := by decide +kernel
theorem dX11_comesOf_0 : decode cX11_comesOf 0 = .ok (.aload_n 0, 1) := by decide +kernel
theorem dX11_comesOf_1 : decode cX11_comesOf 1 = .ok (.getfield 9, 3) := by decide +kernel
theorem dX11_comesOf_4 : decode cX11_comesOf 4 = .ok (.iload_n 1, 1) := by decide +kernel
theorem dX11_comesOf_5 : decode cX11_comesOf 5 = .ok (.iaload, 1) := by decide +kernel
theorem dX11_comesOf_6 : decode cX11_comesOf 6 = .ok (.iconst 3, 1) := by decide +kernel
theorem dX11_comesOf_7 : decode cX11_comesOf 7 = .ok (.if_icmp .ne 12, 3) := by decide +kernel
theorem dX11_comesOf_10 : decode cX11_comesOf 10 = .ok (.aload_n 0, 1) := by decide +kernel
theorem dX11_comesOf_11 : decode cX11_comesOf 11 = .ok (.getfield 13, 3) := by decide +kernel
theorem dX11_comesOf_14 : decode cX11_comesOf 14 = .ok (.iload_n 1, 1) := by decide +kernel
theorem dX11_comesOf_15 : decode cX11_comesOf 15 = .ok (.iaload, 1) := by decide +kernel
theorem dX11_comesOf_16 : decode cX11_comesOf 16 = .ok (.iconst 2, 1) := by decide +kernel
theorem dX11_comesOf_17 : decode cX11_comesOf 17 = .ok (.idiv, 1) := by decide +kernel
theorem dX11_comesOf_18 : decode cX11_comesOf 18 = .ok (.ireturn, 1) := by decide +kernel
theorem dX11_comesOf_19 : decode cX11_comesOf 19 = .ok (.aload_n 0, 1) := by decide +kernel
theorem dX11_comesOf_20 : decode cX11_comesOf 20 = .ok (.getfield 9, 3) := by decide +kernel
theorem dX11_comesOf_23 : decode cX11_comesOf 23 = .ok (.iload_n 1, 1) := by decide +kernel
theorem dX11_comesOf_24 : decode cX11_comesOf 24 = .ok (.iaload, 1) := by decide +kernel
theorem dX11_comesOf_25 : decode cX11_comesOf 25 = .ok (.iconst 4, 1) := by decide +kernel
theorem dX11_comesOf_26 : decode cX11_comesOf 26 = .ok (.invokestatic 122, 3) := by decide +kernel
theorem dX11_comesOf_29 : decode cX11_comesOf 29 = .ok (.ifCond .eq 14, 3) := by decide +kernel
theorem dX11_comesOf_32 : decode cX11_comesOf 32 = .ok (.aload_n 0, 1) := by decide +kernel
theorem dX11_comesOf_33 : decode cX11_comesOf 33 = .ok (.getfield 13, 3) := by decide +kernel
theorem dX11_comesOf_36 : decode cX11_comesOf 36 = .ok (.iload_n 1, 1) := by decide +kernel
theorem dX11_comesOf_37 : decode cX11_comesOf 37 = .ok (.iaload, 1) := by decide +kernel
theorem dX11_comesOf_38 : decode cX11_comesOf 38 = .ok (.iconst 3, 1) := by decide +kernel
theorem dX11_comesOf_39 : decode cX11_comesOf 39 = .ok (.iadd, 1) := by decide +kernel
theorem dX11_comesOf_40 : decode cX11_comesOf 40 = .ok (.goto 9, 3) := by decide +kernel
theorem dX11_comesOf_43 : decode cX11_comesOf 43 = .ok (.aload_n 0, 1) := by decide +kernel
theorem dX11_comesOf_44 : decode cX11_comesOf 44 = .ok (.getfield 13, 3) := by decide +kernel
theorem dX11_comesOf_47 : decode cX11_comesOf 47 = .ok (.iload_n 1, 1) := by decide +kernel
theorem dX11_comesOf_48 : decode cX11_comesOf 48 = .ok (.iaload, 1) := by decide +kernel
theorem dX11_comesOf_49 : decode cX11_comesOf 49 = .ok (.ireturn, 1) := by decide +kernel
theorem dX11_takesOf_0 : decode cX11_takesOf 0 = .ok (.aload_n 0, 1) := by decide +kernel
theorem dX11_takesOf_1 : decode cX11_takesOf 1 = .ok (.getfield 9, 3) := by decide +kernel
theorem dX11_takesOf_4 : decode cX11_takesOf 4 = .ok (.iload_n 1, 1) := by decide +kernel
theorem dX11_takesOf_5 : decode cX11_takesOf 5 = .ok (.iaload, 1) := by decide +kernel
theorem dX11_takesOf_6 : decode cX11_takesOf 6 = .ok (.iconst 2, 1) := by decide +kernel
theorem dX11_takesOf_7 : decode cX11_takesOf 7 = .ok (.invokestatic 122, 3) := by decide +kernel
theorem dX11_takesOf_10 : decode cX11_takesOf 10 = .ok (.ifCond .eq 21, 3) := by decide +kernel
theorem dX11_takesOf_13 : decode cX11_takesOf 13 = .ok (.aload_n 0, 1) := by decide +kernel
theorem dX11_takesOf_14 : decode cX11_takesOf 14 = .ok (.getfield 16, 3) := by decide +kernel
theorem dX11_takesOf_17 : decode cX11_takesOf 17 = .ok (.iload_n 1, 1) := by decide +kernel
theorem dX11_takesOf_18 : decode cX11_takesOf 18 = .ok (.iaload, 1) := by decide +kernel
theorem dX11_takesOf_19 : decode cX11_takesOf 19 = .ok (.aload_n 0, 1) := by decide +kernel
theorem dX11_takesOf_20 : decode cX11_takesOf 20 = .ok (.getfield 16, 3) := by decide +kernel
theorem dX11_takesOf_23 : decode cX11_takesOf 23 = .ok (.iload_n 1, 1) := by decide +kernel
theorem dX11_takesOf_24 : decode cX11_takesOf 24 = .ok (.iaload, 1) := by decide +kernel
theorem dX11_takesOf_25 : decode cX11_takesOf 25 = .ok (.iconst 4, 1) := by decide +kernel
theorem dX11_takesOf_26 : decode cX11_takesOf 26 = .ok (.idiv, 1) := by decide +kernel
theorem dX11_takesOf_27 : decode cX11_takesOf 27 = .ok (.iadd, 1) := by decide +kernel
theorem dX11_takesOf_28 : decode cX11_takesOf 28 = .ok (.goto 9, 3) := by decide +kernel
theorem dX11_takesOf_31 : decode cX11_takesOf 31 = .ok (.aload_n 0, 1) := by decide +kernel
theorem dX11_takesOf_32 : decode cX11_takesOf 32 = .ok (.getfield 16, 3) := by decide +kernel
theorem dX11_takesOf_35 : decode cX11_takesOf 35 = .ok (.iload_n 1, 1) := by decide +kernel
theorem dX11_takesOf_36 : decode cX11_takesOf 36 = .ok (.iaload, 1) := by decide +kernel
theorem dX11_takesOf_37 : decode cX11_takesOf 37 = .ok (.istore_n 2, 1) := by decide +kernel
theorem dX11_takesOf_38 : decode cX11_takesOf 38 = .ok (.aload_n 0, 1) := by decide +kernel
theorem dX11_takesOf_39 : decode cX11_takesOf 39 = .ok (.getfield 9, 3) := by decide +kernel
theorem dX11_takesOf_42 : decode cX11_takesOf 42 = .ok (.iload_n 1, 1) := by decide +kernel
theorem dX11_takesOf_43 : decode cX11_takesOf 43 = .ok (.iaload, 1) := by decide +kernel
theorem dX11_takesOf_44 : decode cX11_takesOf 44 = .ok (.iconst 5, 1) := by decide +kernel
theorem dX11_takesOf_45 : decode cX11_takesOf 45 = .ok (.if_icmp .ne 13, 3) := by decide +kernel
theorem dX11_takesOf_48 : decode cX11_takesOf 48 = .ok (.iconst 1, 1) := by decide +kernel
theorem dX11_takesOf_49 : decode cX11_takesOf 49 = .ok (.iload_n 2, 1) := by decide +kernel
theorem dX11_takesOf_50 : decode cX11_takesOf 50 = .ok (.iconst 1, 1) := by decide +kernel
theorem dX11_takesOf_51 : decode cX11_takesOf 51 = .ok (.isub, 1) := by decide +kernel
theorem dX11_takesOf_52 : decode cX11_takesOf 52 = .ok (.invokestatic 126, 3) := by decide +kernel
theorem dX11_takesOf_55 : decode cX11_takesOf 55 = .ok (.goto 4, 3) := by decide +kernel
theorem dX11_takesOf_58 : decode cX11_takesOf 58 = .ok (.iload_n 2, 1) := by decide +kernel
theorem dX11_takesOf_59 : decode cX11_takesOf 59 = .ok (.ireturn, 1) := by decide +kernel
theorem dX11_coolsOf_0 : decode cX11_coolsOf 0 = .ok (.aload_n 0, 1) := by decide +kernel
theorem dX11_coolsOf_1 : decode cX11_coolsOf 1 = .ok (.getfield 9, 3) := by decide +kernel
theorem dX11_coolsOf_4 : decode cX11_coolsOf 4 = .ok (.iload_n 1, 1) := by decide +kernel
theorem dX11_coolsOf_5 : decode cX11_coolsOf 5 = .ok (.iaload, 1) := by decide +kernel
theorem dX11_coolsOf_6 : decode cX11_coolsOf 6 = .ok (.iconst 1, 1) := by decide +kernel
theorem dX11_coolsOf_7 : decode cX11_coolsOf 7 = .ok (.invokestatic 122, 3) := by decide +kernel
theorem dX11_coolsOf_10 : decode cX11_coolsOf 10 = .ok (.ifCond .eq 14, 3) := by decide +kernel
theorem dX11_coolsOf_13 : decode cX11_coolsOf 13 = .ok (.aload_n 0, 1) := by decide +kernel
theorem dX11_coolsOf_14 : decode cX11_coolsOf 14 = .ok (.getfield 19, 3) := by decide +kernel
theorem dX11_coolsOf_17 : decode cX11_coolsOf 17 = .ok (.iload_n 1, 1) := by decide +kernel
theorem dX11_coolsOf_18 : decode cX11_coolsOf 18 = .ok (.iaload, 1) := by decide +kernel
theorem dX11_coolsOf_19 : decode cX11_coolsOf 19 = .ok (.iconst 5, 1) := by decide +kernel
theorem dX11_coolsOf_20 : decode cX11_coolsOf 20 = .ok (.iadd, 1) := by decide +kernel
theorem dX11_coolsOf_21 : decode cX11_coolsOf 21 = .ok (.goto 9, 3) := by decide +kernel
theorem dX11_coolsOf_24 : decode cX11_coolsOf 24 = .ok (.aload_n 0, 1) := by decide +kernel
theorem dX11_coolsOf_25 : decode cX11_coolsOf 25 = .ok (.getfield 19, 3) := by decide +kernel
theorem dX11_coolsOf_28 : decode cX11_coolsOf 28 = .ok (.iload_n 1, 1) := by decide +kernel
theorem dX11_coolsOf_29 : decode cX11_coolsOf 29 = .ok (.iaload, 1) := by decide +kernel
theorem dX11_coolsOf_30 : decode cX11_coolsOf 30 = .ok (.istore_n 2, 1) := by decide +kernel
theorem dX11_coolsOf_31 : decode cX11_coolsOf 31 = .ok (.aload_n 0, 1) := by decide +kernel
theorem dX11_coolsOf_32 : decode cX11_coolsOf 32 = .ok (.getfield 9, 3) := by decide +kernel
theorem dX11_coolsOf_35 : decode cX11_coolsOf 35 = .ok (.iload_n 1, 1) := by decide +kernel
theorem dX11_coolsOf_36 : decode cX11_coolsOf 36 = .ok (.iaload, 1) := by decide +kernel
theorem dX11_coolsOf_37 : decode cX11_coolsOf 37 = .ok (.iconst 4, 1) := by decide +kernel
theorem dX11_coolsOf_38 : decode cX11_coolsOf 38 = .ok (.invokestatic 122, 3) := by decide +kernel
theorem dX11_coolsOf_41 : decode cX11_coolsOf 41 = .ok (.ifCond .eq 9, 3) := by decide +kernel
theorem dX11_coolsOf_44 : decode cX11_coolsOf 44 = .ok (.iconst 2, 1) := by decide +kernel
theorem dX11_coolsOf_45 : decode cX11_coolsOf 45 = .ok (.iload_n 2, 1) := by decide +kernel
theorem dX11_coolsOf_46 : decode cX11_coolsOf 46 = .ok (.imul, 1) := by decide +kernel
theorem dX11_coolsOf_47 : decode cX11_coolsOf 47 = .ok (.goto 4, 3) := by decide +kernel
theorem dX11_coolsOf_50 : decode cX11_coolsOf 50 = .ok (.iload_n 2, 1) := by decide +kernel
theorem dX11_coolsOf_51 : decode cX11_coolsOf 51 = .ok (.ireturn, 1) := by decide +kernel
theorem dX11_adds_0 : decode cX11_adds 0 = .ok (.aload_n 0, 1) := by decide +kernel
theorem dX11_adds_1 : decode cX11_adds 1 = .ok (.getfield 9, 3) := by decide +kernel
theorem dX11_adds_4 : decode cX11_adds 4 = .ok (.aload_n 0, 1) := by decide +kernel
theorem dX11_adds_5 : decode cX11_adds 5 = .ok (.getfield 111, 3) := by decide +kernel
theorem dX11_adds_8 : decode cX11_adds 8 = .ok (.iload_n 1, 1) := by decide +kernel
theorem dX11_adds_9 : decode cX11_adds 9 = .ok (.iastore, 1) := by decide +kernel
theorem dX11_adds_10 : decode cX11_adds 10 = .ok (.aload_n 0, 1) := by decide +kernel
theorem dX11_adds_11 : decode cX11_adds 11 = .ok (.getfield 13, 3) := by decide +kernel
theorem dX11_adds_14 : decode cX11_adds 14 = .ok (.aload_n 0, 1) := by decide +kernel
theorem dX11_adds_15 : decode cX11_adds 15 = .ok (.getfield 111, 3) := by decide +kernel
theorem dX11_adds_18 : decode cX11_adds 18 = .ok (.iload_n 2, 1) := by decide +kernel
theorem dX11_adds_19 : decode cX11_adds 19 = .ok (.iastore, 1) := by decide +kernel
theorem dX11_adds_20 : decode cX11_adds 20 = .ok (.aload_n 0, 1) := by decide +kernel
theorem dX11_adds_21 : decode cX11_adds 21 = .ok (.getfield 16, 3) := by decide +kernel
theorem dX11_adds_24 : decode cX11_adds 24 = .ok (.aload_n 0, 1) := by decide +kernel
theorem dX11_adds_25 : decode cX11_adds 25 = .ok (.getfield 111, 3) := by decide +kernel
theorem dX11_adds_28 : decode cX11_adds 28 = .ok (.iload_n 3, 1) := by decide +kernel
theorem dX11_adds_29 : decode cX11_adds 29 = .ok (.iastore, 1) := by decide +kernel
theorem dX11_adds_30 : decode cX11_adds 30 = .ok (.aload_n 0, 1) := by decide +kernel
theorem dX11_adds_31 : decode cX11_adds 31 = .ok (.getfield 19, 3) := by decide +kernel
theorem dX11_adds_34 : decode cX11_adds 34 = .ok (.aload_n 0, 1) := by decide +kernel
theorem dX11_adds_35 : decode cX11_adds 35 = .ok (.getfield 111, 3) := by decide +kernel
theorem dX11_adds_38 : decode cX11_adds 38 = .ok (.iload 4, 2) := by decide +kernel
theorem dX11_adds_40 : decode cX11_adds 40 = .ok (.iastore, 1) := by decide +kernel
theorem dX11_adds_41 : decode cX11_adds 41 = .ok (.aload_n 0, 1) := by decide +kernel
theorem dX11_adds_42 : decode cX11_adds 42 = .ok (.dup, 1) := by decide +kernel
theorem dX11_adds_43 : decode cX11_adds 43 = .ok (.getfield 111, 3) := by decide +kernel
theorem dX11_adds_46 : decode cX11_adds 46 = .ok (.iconst 1, 1) := by decide +kernel
theorem dX11_adds_47 : decode cX11_adds 47 = .ok (.iadd, 1) := by decide +kernel
theorem dX11_adds_48 : decode cX11_adds 48 = .ok (.putfield 111, 3) := by decide +kernel
theorem dX11_adds_51 : decode cX11_adds 51 = .ok (.return_, 1) := by decide +kernel
theorem dX11_job_0 : decode cX11_job 0 = .ok (.iconst 0, 1) := by decide +kernel
theorem dX11_job_1 : decode cX11_job 1 = .ok (.iload_n 1, 1) := by decide +kernel
theorem dX11_job_2 : decode cX11_job 2 = .ok (.invokestatic 132, 3) := by decide +kernel
theorem dX11_job_5 : decode cX11_job 5 = .ok (.ifCond .eq 28, 3) := by decide +kernel
theorem dX11_job_8 : decode cX11_job 8 = .ok (.iconst 1, 1) := by decide +kernel
theorem dX11_job_9 : decode cX11_job 9 = .ok (.iload_n 2, 1) := by decide +kernel
theorem dX11_job_10 : decode cX11_job 10 = .ok (.invokestatic 132, 3) := by decide +kernel
theorem dX11_job_13 : decode cX11_job 13 = .ok (.ifCond .eq 20, 3) := by decide +kernel
theorem dX11_job_16 : decode cX11_job 16 = .ok (.iconst 2, 1) := by decide +kernel
theorem dX11_job_17 : decode cX11_job 17 = .ok (.iload_n 3, 1) := by decide +kernel
theorem dX11_job_18 : decode cX11_job 18 = .ok (.invokestatic 132, 3) := by decide +kernel
theorem dX11_job_21 : decode cX11_job 21 = .ok (.ifCond .eq 12, 3) := by decide +kernel
theorem dX11_job_24 : decode cX11_job 24 = .ok (.iconst 3, 1) := by decide +kernel
theorem dX11_job_25 : decode cX11_job 25 = .ok (.iload 4, 2) := by decide +kernel
theorem dX11_job_27 : decode cX11_job 27 = .ok (.invokestatic 132, 3) := by decide +kernel
theorem dX11_job_30 : decode cX11_job 30 = .ok (.ifCond .ne 6, 3) := by decide +kernel
theorem dX11_job_33 : decode cX11_job 33 = .ok (.bipush (-2), 2) := by decide +kernel
theorem dX11_job_35 : decode cX11_job 35 = .ok (.ireturn, 1) := by decide +kernel
theorem dX11_job_36 : decode cX11_job 36 = .ok (.aload_n 0, 1) := by decide +kernel
theorem dX11_job_37 : decode cX11_job 37 = .ok (.getfield 111, 3) := by decide +kernel
theorem dX11_job_40 : decode cX11_job 40 = .ok (.bipush 8, 2) := by decide +kernel
theorem dX11_job_42 : decode cX11_job 42 = .ok (.if_icmp .ne 6, 3) := by decide +kernel
theorem dX11_job_45 : decode cX11_job 45 = .ok (.bipush (-4), 2) := by decide +kernel
theorem dX11_job_47 : decode cX11_job 47 = .ok (.ireturn, 1) := by decide +kernel
theorem dX11_job_48 : decode cX11_job 48 = .ok (.aload_n 0, 1) := by decide +kernel
theorem dX11_job_49 : decode cX11_job 49 = .ok (.iload_n 1, 1) := by decide +kernel
theorem dX11_job_50 : decode cX11_job 50 = .ok (.iload_n 2, 1) := by decide +kernel
theorem dX11_job_51 : decode cX11_job 51 = .ok (.iload_n 3, 1) := by decide +kernel
theorem dX11_job_52 : decode cX11_job 52 = .ok (.iload 4, 2) := by decide +kernel
theorem dX11_job_54 : decode cX11_job 54 = .ok (.invokevirtual 135, 3) := by decide +kernel
theorem dX11_job_57 : decode cX11_job 57 = .ok (.aload_n 0, 1) := by decide +kernel
theorem dX11_job_58 : decode cX11_job 58 = .ok (.invokevirtual 105, 3) := by decide +kernel
theorem dX11_job_61 : decode cX11_job 61 = .ok (.aload_n 0, 1) := by decide +kernel
theorem dX11_job_62 : decode cX11_job 62 = .ok (.getfield 111, 3) := by decide +kernel
theorem dX11_job_65 : decode cX11_job 65 = .ok (.iconst 1, 1) := by decide +kernel
theorem dX11_job_66 : decode cX11_job 66 = .ok (.isub, 1) := by decide +kernel
theorem dX11_job_67 : decode cX11_job 67 = .ok (.ireturn, 1) := by decide +kernel
theorem dX11_its_0 : decode cX11_its 0 = .ok (.iload_n 2, 1) := by decide +kernel
theorem dX11_its_1 : decode cX11_its 1 = .ok (.tableswitch 79 0 5 #[39, 46, 53, 60, 67, 73], 39) := by decide +kernel
theorem dX11_its_40 : decode cX11_its 40 = .ok (.aload_n 0, 1) := by decide +kernel
theorem dX11_its_41 : decode cX11_its 41 = .ok (.getfield 9, 3) := by decide +kernel
theorem dX11_its_44 : decode cX11_its 44 = .ok (.iload_n 1, 1) := by decide +kernel
theorem dX11_its_45 : decode cX11_its 45 = .ok (.iaload, 1) := by decide +kernel
theorem dX11_its_46 : decode cX11_its 46 = .ok (.ireturn, 1) := by decide +kernel
theorem dX11_its_47 : decode cX11_its 47 = .ok (.aload_n 0, 1) := by decide +kernel
theorem dX11_its_48 : decode cX11_its 48 = .ok (.getfield 13, 3) := by decide +kernel
theorem dX11_its_51 : decode cX11_its 51 = .ok (.iload_n 1, 1) := by decide +kernel
theorem dX11_its_52 : decode cX11_its 52 = .ok (.iaload, 1) := by decide +kernel
theorem dX11_its_53 : decode cX11_its 53 = .ok (.ireturn, 1) := by decide +kernel
theorem dX11_its_54 : decode cX11_its 54 = .ok (.aload_n 0, 1) := by decide +kernel
theorem dX11_its_55 : decode cX11_its 55 = .ok (.getfield 16, 3) := by decide +kernel
theorem dX11_its_58 : decode cX11_its 58 = .ok (.iload_n 1, 1) := by decide +kernel
theorem dX11_its_59 : decode cX11_its 59 = .ok (.iaload, 1) := by decide +kernel
theorem dX11_its_60 : decode cX11_its 60 = .ok (.ireturn, 1) := by decide +kernel
theorem dX11_its_61 : decode cX11_its 61 = .ok (.aload_n 0, 1) := by decide +kernel
theorem dX11_its_62 : decode cX11_its 62 = .ok (.getfield 19, 3) := by decide +kernel
theorem dX11_its_65 : decode cX11_its 65 = .ok (.iload_n 1, 1) := by decide +kernel
theorem dX11_its_66 : decode cX11_its 66 = .ok (.iaload, 1) := by decide +kernel
theorem dX11_its_67 : decode cX11_its 67 = .ok (.ireturn, 1) := by decide +kernel
theorem dX11_its_68 : decode cX11_its 68 = .ok (.aload_n 0, 1) := by decide +kernel
theorem dX11_its_69 : decode cX11_its 69 = .ok (.iload_n 1, 1) := by decide +kernel
theorem dX11_its_70 : decode cX11_its 70 = .ok (.invokevirtual 139, 3) := by decide +kernel
theorem dX11_its_73 : decode cX11_its 73 = .ok (.ireturn, 1) := by decide +kernel
theorem dX11_its_74 : decode cX11_its 74 = .ok (.aload_n 0, 1) := by decide +kernel
theorem dX11_its_75 : decode cX11_its 75 = .ok (.iload_n 1, 1) := by decide +kernel
theorem dX11_its_76 : decode cX11_its 76 = .ok (.invokevirtual 142, 3) := by decide +kernel
theorem dX11_its_79 : decode cX11_its 79 = .ok (.ireturn, 1) := by decide +kernel
theorem dX11_its_80 : decode cX11_its 80 = .ok (.aload_n 0, 1) := by decide +kernel
theorem dX11_its_81 : decode cX11_its 81 = .ok (.iload_n 1, 1) := by decide +kernel
theorem dX11_its_82 : decode cX11_its 82 = .ok (.invokevirtual 145, 3) := by decide +kernel
theorem dX11_its_85 : decode cX11_its 85 = .ok (.ireturn, 1) := by decide +kernel
theorem dX11_set_0 : decode cX11_set 0 = .ok (.aload_n 0, 1) := by decide +kernel
theorem dX11_set_1 : decode cX11_set 1 = .ok (.iload_n 1, 1) := by decide +kernel
theorem dX11_set_2 : decode cX11_set 2 = .ok (.invokevirtual 148, 3) := by decide +kernel
theorem dX11_set_5 : decode cX11_set 5 = .ok (.ifCond .eq 20, 3) := by decide +kernel
theorem dX11_set_8 : decode cX11_set 8 = .ok (.iload_n 2, 1) := by decide +kernel
theorem dX11_set_9 : decode cX11_set 9 = .ok (.iconst 0, 1) := by decide +kernel
theorem dX11_set_10 : decode cX11_set 10 = .ok (.iconst 3, 1) := by decide +kernel
theorem dX11_set_11 : decode cX11_set 11 = .ok (.invokestatic 114, 3) := by decide +kernel
theorem dX11_set_14 : decode cX11_set 14 = .ok (.ifCond .eq 11, 3) := by decide +kernel
theorem dX11_set_17 : decode cX11_set 17 = .ok (.iload_n 2, 1) := by decide +kernel
theorem dX11_set_18 : decode cX11_set 18 = .ok (.iload_n 3, 1) := by decide +kernel
theorem dX11_set_19 : decode cX11_set 19 = .ok (.invokestatic 132, 3) := by decide +kernel
theorem dX11_set_22 : decode cX11_set 22 = .ok (.ifCond .ne 6, 3) := by decide +kernel
theorem dX11_set_25 : decode cX11_set 25 = .ok (.bipush (-2), 2) := by decide +kernel
theorem dX11_set_27 : decode cX11_set 27 = .ok (.ireturn, 1) := by decide +kernel
theorem dX11_set_28 : decode cX11_set 28 = .ok (.aload_n 0, 1) := by decide +kernel
theorem dX11_set_29 : decode cX11_set 29 = .ok (.iload_n 1, 1) := by decide +kernel
theorem dX11_set_30 : decode cX11_set 30 = .ok (.iload_n 2, 1) := by decide +kernel
theorem dX11_set_31 : decode cX11_set 31 = .ok (.invokevirtual 152, 3) := by decide +kernel
theorem dX11_set_34 : decode cX11_set 34 = .ok (.istore 4, 2) := by decide +kernel
theorem dX11_set_36 : decode cX11_set 36 = .ok (.iload_n 2, 1) := by decide +kernel
theorem dX11_set_37 : decode cX11_set 37 = .ok (.ifCond .ne 13, 3) := by decide +kernel
theorem dX11_set_40 : decode cX11_set 40 = .ok (.aload_n 0, 1) := by decide +kernel
theorem dX11_set_41 : decode cX11_set 41 = .ok (.getfield 9, 3) := by decide +kernel
theorem dX11_set_44 : decode cX11_set 44 = .ok (.iload_n 1, 1) := by decide +kernel
theorem dX11_set_45 : decode cX11_set 45 = .ok (.iload_n 3, 1) := by decide +kernel
theorem dX11_set_46 : decode cX11_set 46 = .ok (.iastore, 1) := by decide +kernel
theorem dX11_set_47 : decode cX11_set 47 = .ok (.goto 40, 3) := by decide +kernel
theorem dX11_set_50 : decode cX11_set 50 = .ok (.iload_n 2, 1) := by decide +kernel
theorem dX11_set_51 : decode cX11_set 51 = .ok (.iconst 1, 1) := by decide +kernel
theorem dX11_set_52 : decode cX11_set 52 = .ok (.if_icmp .ne 13, 3) := by decide +kernel
theorem dX11_set_55 : decode cX11_set 55 = .ok (.aload_n 0, 1) := by decide +kernel
theorem dX11_set_56 : decode cX11_set 56 = .ok (.getfield 13, 3) := by decide +kernel
theorem dX11_set_59 : decode cX11_set 59 = .ok (.iload_n 1, 1) := by decide +kernel
theorem dX11_set_60 : decode cX11_set 60 = .ok (.iload_n 3, 1) := by decide +kernel
theorem dX11_set_61 : decode cX11_set 61 = .ok (.iastore, 1) := by decide +kernel
theorem dX11_set_62 : decode cX11_set 62 = .ok (.goto 25, 3) := by decide +kernel
theorem dX11_set_65 : decode cX11_set 65 = .ok (.iload_n 2, 1) := by decide +kernel
theorem dX11_set_66 : decode cX11_set 66 = .ok (.iconst 2, 1) := by decide +kernel
theorem dX11_set_67 : decode cX11_set 67 = .ok (.if_icmp .ne 13, 3) := by decide +kernel
theorem dX11_set_70 : decode cX11_set 70 = .ok (.aload_n 0, 1) := by decide +kernel
theorem dX11_set_71 : decode cX11_set 71 = .ok (.getfield 16, 3) := by decide +kernel
theorem dX11_set_74 : decode cX11_set 74 = .ok (.iload_n 1, 1) := by decide +kernel
theorem dX11_set_75 : decode cX11_set 75 = .ok (.iload_n 3, 1) := by decide +kernel
theorem dX11_set_76 : decode cX11_set 76 = .ok (.iastore, 1) := by decide +kernel
theorem dX11_set_77 : decode cX11_set 77 = .ok (.goto 10, 3) := by decide +kernel
theorem dX11_set_80 : decode cX11_set 80 = .ok (.aload_n 0, 1) := by decide +kernel
theorem dX11_set_81 : decode cX11_set 81 = .ok (.getfield 19, 3) := by decide +kernel
theorem dX11_set_84 : decode cX11_set 84 = .ok (.iload_n 1, 1) := by decide +kernel
theorem dX11_set_85 : decode cX11_set 85 = .ok (.iload_n 3, 1) := by decide +kernel
theorem dX11_set_86 : decode cX11_set 86 = .ok (.iastore, 1) := by decide +kernel
theorem dX11_set_87 : decode cX11_set 87 = .ok (.aload_n 0, 1) := by decide +kernel
theorem dX11_set_88 : decode cX11_set 88 = .ok (.invokevirtual 105, 3) := by decide +kernel
theorem dX11_set_91 : decode cX11_set 91 = .ok (.iload 4, 2) := by decide +kernel
theorem dX11_set_93 : decode cX11_set 93 = .ok (.ireturn, 1) := by decide +kernel
theorem dX11_told_0 : decode cX11_told 0 = .ok (.aload_n 0, 1) := by decide +kernel
theorem dX11_told_1 : decode cX11_told 1 = .ok (.iload_n 1, 1) := by decide +kernel
theorem dX11_told_2 : decode cX11_told 2 = .ok (.invokevirtual 148, 3) := by decide +kernel
theorem dX11_told_5 : decode cX11_told 5 = .ok (.ifCond .eq 22, 3) := by decide +kernel
theorem dX11_told_8 : decode cX11_told 8 = .ok (.iload_n 2, 1) := by decide +kernel
theorem dX11_told_9 : decode cX11_told 9 = .ok (.iconst 0, 1) := by decide +kernel
theorem dX11_told_10 : decode cX11_told 10 = .ok (.bipush 6, 2) := by decide +kernel
theorem dX11_told_12 : decode cX11_told 12 = .ok (.invokestatic 114, 3) := by decide +kernel
theorem dX11_told_15 : decode cX11_told 15 = .ok (.ifCond .eq 12, 3) := by decide +kernel
theorem dX11_told_18 : decode cX11_told 18 = .ok (.aload_n 0, 1) := by decide +kernel
theorem dX11_told_19 : decode cX11_told 19 = .ok (.iload_n 1, 1) := by decide +kernel
theorem dX11_told_20 : decode cX11_told 20 = .ok (.iload_n 2, 1) := by decide +kernel
theorem dX11_told_21 : decode cX11_told 21 = .ok (.invokevirtual 152, 3) := by decide +kernel
theorem dX11_told_24 : decode cX11_told 24 = .ok (.goto 5, 3) := by decide +kernel
theorem dX11_told_27 : decode cX11_told 27 = .ok (.bipush (-2), 2) := by decide +kernel
theorem dX11_told_29 : decode cX11_told 29 = .ok (.ireturn, 1) := by decide +kernel
theorem dX11_drop_0 : decode cX11_drop 0 = .ok (.aload_n 0, 1) := by decide +kernel
theorem dX11_drop_1 : decode cX11_drop 1 = .ok (.iload_n 1, 1) := by decide +kernel
theorem dX11_drop_2 : decode cX11_drop 2 = .ok (.invokevirtual 148, 3) := by decide +kernel
theorem dX11_drop_5 : decode cX11_drop 5 = .ok (.ifCond .ne 6, 3) := by decide +kernel
theorem dX11_drop_8 : decode cX11_drop 8 = .ok (.bipush (-2), 2) := by decide +kernel
theorem dX11_drop_10 : decode cX11_drop 10 = .ok (.ireturn, 1) := by decide +kernel
theorem dX11_drop_11 : decode cX11_drop 11 = .ok (.iload_n 1, 1) := by decide +kernel
theorem dX11_drop_12 : decode cX11_drop 12 = .ok (.iconst 1, 1) := by decide +kernel
theorem dX11_drop_13 : decode cX11_drop 13 = .ok (.iadd, 1) := by decide +kernel
theorem dX11_drop_14 : decode cX11_drop 14 = .ok (.istore_n 2, 1) := by decide +kernel
theorem dX11_drop_15 : decode cX11_drop 15 = .ok (.iload_n 2, 1) := by decide +kernel
theorem dX11_drop_16 : decode cX11_drop 16 = .ok (.aload_n 0, 1) := by decide +kernel
theorem dX11_drop_17 : decode cX11_drop 17 = .ok (.getfield 111, 3) := by decide +kernel
theorem dX11_drop_20 : decode cX11_drop 20 = .ok (.if_icmp .ge 65, 3) := by decide +kernel
theorem dX11_drop_23 : decode cX11_drop 23 = .ok (.aload_n 0, 1) := by decide +kernel
theorem dX11_drop_24 : decode cX11_drop 24 = .ok (.getfield 9, 3) := by decide +kernel
theorem dX11_drop_27 : decode cX11_drop 27 = .ok (.iload_n 2, 1) := by decide +kernel
theorem dX11_drop_28 : decode cX11_drop 28 = .ok (.iconst 1, 1) := by decide +kernel
theorem dX11_drop_29 : decode cX11_drop 29 = .ok (.isub, 1) := by decide +kernel
theorem dX11_drop_30 : decode cX11_drop 30 = .ok (.aload_n 0, 1) := by decide +kernel
theorem dX11_drop_31 : decode cX11_drop 31 = .ok (.getfield 9, 3) := by decide +kernel
theorem dX11_drop_34 : decode cX11_drop 34 = .ok (.iload_n 2, 1) := by decide +kernel
theorem dX11_drop_35 : decode cX11_drop 35 = .ok (.iaload, 1) := by decide +kernel
theorem dX11_drop_36 : decode cX11_drop 36 = .ok (.iastore, 1) := by decide +kernel
theorem dX11_drop_37 : decode cX11_drop 37 = .ok (.aload_n 0, 1) := by decide +kernel
theorem dX11_drop_38 : decode cX11_drop 38 = .ok (.getfield 13, 3) := by decide +kernel
theorem dX11_drop_41 : decode cX11_drop 41 = .ok (.iload_n 2, 1) := by decide +kernel
theorem dX11_drop_42 : decode cX11_drop 42 = .ok (.iconst 1, 1) := by decide +kernel
theorem dX11_drop_43 : decode cX11_drop 43 = .ok (.isub, 1) := by decide +kernel
theorem dX11_drop_44 : decode cX11_drop 44 = .ok (.aload_n 0, 1) := by decide +kernel
theorem dX11_drop_45 : decode cX11_drop 45 = .ok (.getfield 13, 3) := by decide +kernel
theorem dX11_drop_48 : decode cX11_drop 48 = .ok (.iload_n 2, 1) := by decide +kernel
theorem dX11_drop_49 : decode cX11_drop 49 = .ok (.iaload, 1) := by decide +kernel
theorem dX11_drop_50 : decode cX11_drop 50 = .ok (.iastore, 1) := by decide +kernel
theorem dX11_drop_51 : decode cX11_drop 51 = .ok (.aload_n 0, 1) := by decide +kernel
theorem dX11_drop_52 : decode cX11_drop 52 = .ok (.getfield 16, 3) := by decide +kernel
theorem dX11_drop_55 : decode cX11_drop 55 = .ok (.iload_n 2, 1) := by decide +kernel
theorem dX11_drop_56 : decode cX11_drop 56 = .ok (.iconst 1, 1) := by decide +kernel
theorem dX11_drop_57 : decode cX11_drop 57 = .ok (.isub, 1) := by decide +kernel
theorem dX11_drop_58 : decode cX11_drop 58 = .ok (.aload_n 0, 1) := by decide +kernel
theorem dX11_drop_59 : decode cX11_drop 59 = .ok (.getfield 16, 3) := by decide +kernel
theorem dX11_drop_62 : decode cX11_drop 62 = .ok (.iload_n 2, 1) := by decide +kernel
theorem dX11_drop_63 : decode cX11_drop 63 = .ok (.iaload, 1) := by decide +kernel
theorem dX11_drop_64 : decode cX11_drop 64 = .ok (.iastore, 1) := by decide +kernel
theorem dX11_drop_65 : decode cX11_drop 65 = .ok (.aload_n 0, 1) := by decide +kernel
theorem dX11_drop_66 : decode cX11_drop 66 = .ok (.getfield 19, 3) := by decide +kernel
theorem dX11_drop_69 : decode cX11_drop 69 = .ok (.iload_n 2, 1) := by decide +kernel
theorem dX11_drop_70 : decode cX11_drop 70 = .ok (.iconst 1, 1) := by decide +kernel
theorem dX11_drop_71 : decode cX11_drop 71 = .ok (.isub, 1) := by decide +kernel
theorem dX11_drop_72 : decode cX11_drop 72 = .ok (.aload_n 0, 1) := by decide +kernel
theorem dX11_drop_73 : decode cX11_drop 73 = .ok (.getfield 19, 3) := by decide +kernel
theorem dX11_drop_76 : decode cX11_drop 76 = .ok (.iload_n 2, 1) := by decide +kernel
theorem dX11_drop_77 : decode cX11_drop 77 = .ok (.iaload, 1) := by decide +kernel
theorem dX11_drop_78 : decode cX11_drop 78 = .ok (.iastore, 1) := by decide +kernel
theorem dX11_drop_79 : decode cX11_drop 79 = .ok (.iinc 2 1, 3) := by decide +kernel
theorem dX11_drop_82 : decode cX11_drop 82 = .ok (.goto (-67), 3) := by decide +kernel
theorem dX11_drop_85 : decode cX11_drop 85 = .ok (.aload_n 0, 1) := by decide +kernel
theorem dX11_drop_86 : decode cX11_drop 86 = .ok (.dup, 1) := by decide +kernel
theorem dX11_drop_87 : decode cX11_drop 87 = .ok (.getfield 111, 3) := by decide +kernel
theorem dX11_drop_90 : decode cX11_drop 90 = .ok (.iconst 1, 1) := by decide +kernel
theorem dX11_drop_91 : decode cX11_drop 91 = .ok (.isub, 1) := by decide +kernel
theorem dX11_drop_92 : decode cX11_drop 92 = .ok (.putfield 111, 3) := by decide +kernel
theorem dX11_drop_95 : decode cX11_drop 95 = .ok (.aload_n 0, 1) := by decide +kernel
theorem dX11_drop_96 : decode cX11_drop 96 = .ok (.invokevirtual 105, 3) := by decide +kernel
theorem dX11_drop_99 : decode cX11_drop 99 = .ok (.aload_n 0, 1) := by decide +kernel
theorem dX11_drop_100 : decode cX11_drop 100 = .ok (.getfield 111, 3) := by decide +kernel
theorem dX11_drop_103 : decode cX11_drop 103 = .ok (.ireturn, 1) := by decide +kernel
theorem dX11_taken_0 : decode cX11_taken 0 = .ok (.aload_n 0, 1) := by decide +kernel
theorem dX11_taken_1 : decode cX11_taken 1 = .ok (.iload_n 1, 1) := by decide +kernel
theorem dX11_taken_2 : decode cX11_taken 2 = .ok (.invokevirtual 148, 3) := by decide +kernel
theorem dX11_taken_5 : decode cX11_taken 5 = .ok (.ifCond .eq 12, 3) := by decide +kernel
theorem dX11_taken_8 : decode cX11_taken 8 = .ok (.iload_n 2, 1) := by decide +kernel
theorem dX11_taken_9 : decode cX11_taken 9 = .ok (.iconst 0, 1) := by decide +kernel
theorem dX11_taken_10 : decode cX11_taken 10 = .ok (.iconst 5, 1) := by decide +kernel
theorem dX11_taken_11 : decode cX11_taken 11 = .ok (.invokestatic 114, 3) := by decide +kernel
theorem dX11_taken_14 : decode cX11_taken 14 = .ok (.ifCond .ne 6, 3) := by decide +kernel
theorem dX11_taken_17 : decode cX11_taken 17 = .ok (.bipush (-2), 2) := by decide +kernel
theorem dX11_taken_19 : decode cX11_taken 19 = .ok (.ireturn, 1) := by decide +kernel
theorem dX11_taken_20 : decode cX11_taken 20 = .ok (.aload_n 0, 1) := by decide +kernel
theorem dX11_taken_21 : decode cX11_taken 21 = .ok (.getfield 9, 3) := by decide +kernel
theorem dX11_taken_24 : decode cX11_taken 24 = .ok (.iload_n 1, 1) := by decide +kernel
theorem dX11_taken_25 : decode cX11_taken 25 = .ok (.iaload, 1) := by decide +kernel
theorem dX11_taken_26 : decode cX11_taken 26 = .ok (.iload_n 2, 1) := by decide +kernel
theorem dX11_taken_27 : decode cX11_taken 27 = .ok (.invokestatic 122, 3) := by decide +kernel
theorem dX11_taken_30 : decode cX11_taken 30 = .ok (.ifCond .eq 17, 3) := by decide +kernel
theorem dX11_taken_33 : decode cX11_taken 33 = .ok (.aload_n 0, 1) := by decide +kernel
theorem dX11_taken_34 : decode cX11_taken 34 = .ok (.iload_n 1, 1) := by decide +kernel
theorem dX11_taken_35 : decode cX11_taken 35 = .ok (.invokevirtual 142, 3) := by decide +kernel
theorem dX11_taken_38 : decode cX11_taken 38 = .ok (.aload_n 0, 1) := by decide +kernel
theorem dX11_taken_39 : decode cX11_taken 39 = .ok (.iload_n 1, 1) := by decide +kernel
theorem dX11_taken_40 : decode cX11_taken 40 = .ok (.invokevirtual 145, 3) := by decide +kernel
theorem dX11_taken_43 : decode cX11_taken 43 = .ok (.iadd, 1) := by decide +kernel
theorem dX11_taken_44 : decode cX11_taken 44 = .ok (.goto 5, 3) := by decide +kernel
theorem dX11_taken_47 : decode cX11_taken 47 = .ok (.bipush (-13), 2) := by decide +kernel
theorem dX11_taken_49 : decode cX11_taken 49 = .ok (.ireturn, 1) := by decide +kernel
theorem dX11_feed_0 : decode cX11_feed 0 = .ok (.iload_n 1, 1) := by decide +kernel
theorem dX11_feed_1 : decode cX11_feed 1 = .ok (.iconst 1, 1) := by decide +kernel
theorem dX11_feed_2 : decode cX11_feed 2 = .ok (.iconst 5, 1) := by decide +kernel
theorem dX11_feed_3 : decode cX11_feed 3 = .ok (.invokestatic 114, 3) := by decide +kernel
theorem dX11_feed_6 : decode cX11_feed 6 = .ok (.ifCond .eq 61, 3) := by decide +kernel
theorem dX11_feed_9 : decode cX11_feed 9 = .ok (.iload_n 2, 1) := by decide +kernel
theorem dX11_feed_10 : decode cX11_feed 10 = .ok (.iconst 0, 1) := by decide +kernel
theorem dX11_feed_11 : decode cX11_feed 11 = .ok (.sipush 255, 3) := by decide +kernel
theorem dX11_feed_14 : decode cX11_feed 14 = .ok (.invokestatic 114, 3) := by decide +kernel
theorem dX11_feed_17 : decode cX11_feed 17 = .ok (.ifCond .eq 50, 3) := by decide +kernel
theorem dX11_feed_20 : decode cX11_feed 20 = .ok (.iload_n 3, 1) := by decide +kernel
theorem dX11_feed_21 : decode cX11_feed 21 = .ok (.iconst 0, 1) := by decide +kernel
theorem dX11_feed_22 : decode cX11_feed 22 = .ok (.sipush 255, 3) := by decide +kernel
theorem dX11_feed_25 : decode cX11_feed 25 = .ok (.invokestatic 114, 3) := by decide +kernel
theorem dX11_feed_28 : decode cX11_feed 28 = .ok (.ifCond .eq 39, 3) := by decide +kernel
theorem dX11_feed_31 : decode cX11_feed 31 = .ok (.iload 4, 2) := by decide +kernel
theorem dX11_feed_33 : decode cX11_feed 33 = .ok (.iconst 0, 1) := by decide +kernel
theorem dX11_feed_34 : decode cX11_feed 34 = .ok (.sipush 255, 3) := by decide +kernel
theorem dX11_feed_37 : decode cX11_feed 37 = .ok (.invokestatic 114, 3) := by decide +kernel
theorem dX11_feed_40 : decode cX11_feed 40 = .ok (.ifCond .eq 27, 3) := by decide +kernel
theorem dX11_feed_43 : decode cX11_feed 43 = .ok (.iload 5, 2) := by decide +kernel
theorem dX11_feed_45 : decode cX11_feed 45 = .ok (.iconst 0, 1) := by decide +kernel
theorem dX11_feed_46 : decode cX11_feed 46 = .ok (.sipush 255, 3) := by decide +kernel
theorem dX11_feed_49 : decode cX11_feed 49 = .ok (.invokestatic 114, 3) := by decide +kernel
theorem dX11_feed_52 : decode cX11_feed 52 = .ok (.ifCond .eq 15, 3) := by decide +kernel
theorem dX11_feed_55 : decode cX11_feed 55 = .ok (.iload 6, 2) := by decide +kernel
theorem dX11_feed_57 : decode cX11_feed 57 = .ok (.iconst 0, 1) := by decide +kernel
theorem dX11_feed_58 : decode cX11_feed 58 = .ok (.sipush 255, 3) := by decide +kernel
theorem dX11_feed_61 : decode cX11_feed 61 = .ok (.invokestatic 114, 3) := by decide +kernel
theorem dX11_feed_64 : decode cX11_feed 64 = .ok (.ifCond .ne 6, 3) := by decide +kernel
theorem dX11_feed_67 : decode cX11_feed 67 = .ok (.bipush (-2), 2) := by decide +kernel
theorem dX11_feed_69 : decode cX11_feed 69 = .ok (.ireturn, 1) := by decide +kernel
theorem dX11_feed_70 : decode cX11_feed 70 = .ok (.aload_n 0, 1) := by decide +kernel
theorem dX11_feed_71 : decode cX11_feed 71 = .ok (.getfield 155, 3) := by decide +kernel
theorem dX11_feed_74 : decode cX11_feed 74 = .ok (.iload_n 1, 1) := by decide +kernel
theorem dX11_feed_75 : decode cX11_feed 75 = .ok (.iadd, 1) := by decide +kernel
theorem dX11_feed_76 : decode cX11_feed 76 = .ok (.bipush 60, 2) := by decide +kernel
theorem dX11_feed_78 : decode cX11_feed 78 = .ok (.if_icmp .le 6, 3) := by decide +kernel
theorem dX11_feed_81 : decode cX11_feed 81 = .ok (.bipush (-4), 2) := by decide +kernel
theorem dX11_feed_83 : decode cX11_feed 83 = .ok (.ireturn, 1) := by decide +kernel
theorem dX11_feed_84 : decode cX11_feed 84 = .ok (.iconst 0, 1) := by decide +kernel
theorem dX11_feed_85 : decode cX11_feed 85 = .ok (.istore 7, 2) := by decide +kernel
theorem dX11_feed_87 : decode cX11_feed 87 = .ok (.iload 7, 2) := by decide +kernel
theorem dX11_feed_89 : decode cX11_feed 89 = .ok (.iload_n 1, 1) := by decide +kernel
theorem dX11_feed_90 : decode cX11_feed 90 = .ok (.if_icmp .ge 71, 3) := by decide +kernel
theorem dX11_feed_93 : decode cX11_feed 93 = .ok (.aload_n 0, 1) := by decide +kernel
theorem dX11_feed_94 : decode cX11_feed 94 = .ok (.getfield 22, 3) := by decide +kernel
theorem dX11_feed_97 : decode cX11_feed 97 = .ok (.aload_n 0, 1) := by decide +kernel
theorem dX11_feed_98 : decode cX11_feed 98 = .ok (.getfield 155, 3) := by decide +kernel
theorem dX11_feed_101 : decode cX11_feed 101 = .ok (.iload 7, 2) := by decide +kernel
theorem dX11_feed_103 : decode cX11_feed 103 = .ok (.ifCond .ne 7, 3) := by decide +kernel
theorem dX11_feed_106 : decode cX11_feed 106 = .ok (.iload_n 2, 1) := by decide +kernel
theorem dX11_feed_107 : decode cX11_feed 107 = .ok (.goto 37, 3) := by decide +kernel
theorem dX11_feed_110 : decode cX11_feed 110 = .ok (.iload 7, 2) := by decide +kernel
theorem dX11_feed_112 : decode cX11_feed 112 = .ok (.iconst 1, 1) := by decide +kernel
theorem dX11_feed_113 : decode cX11_feed 113 = .ok (.if_icmp .ne 7, 3) := by decide +kernel
theorem dX11_feed_116 : decode cX11_feed 116 = .ok (.iload_n 3, 1) := by decide +kernel
theorem dX11_feed_117 : decode cX11_feed 117 = .ok (.goto 27, 3) := by decide +kernel
theorem dX11_feed_120 : decode cX11_feed 120 = .ok (.iload 7, 2) := by decide +kernel
theorem dX11_feed_122 : decode cX11_feed 122 = .ok (.iconst 2, 1) := by decide +kernel
theorem dX11_feed_123 : decode cX11_feed 123 = .ok (.if_icmp .ne 8, 3) := by decide +kernel
theorem dX11_feed_126 : decode cX11_feed 126 = .ok (.iload 4, 2) := by decide +kernel
theorem dX11_feed_128 : decode cX11_feed 128 = .ok (.goto 16, 3) := by decide +kernel
theorem dX11_feed_131 : decode cX11_feed 131 = .ok (.iload 7, 2) := by decide +kernel
theorem dX11_feed_133 : decode cX11_feed 133 = .ok (.iconst 3, 1) := by decide +kernel
theorem dX11_feed_134 : decode cX11_feed 134 = .ok (.if_icmp .ne 8, 3) := by decide +kernel
theorem dX11_feed_137 : decode cX11_feed 137 = .ok (.iload 5, 2) := by decide +kernel
theorem dX11_feed_139 : decode cX11_feed 139 = .ok (.goto 5, 3) := by decide +kernel
theorem dX11_feed_142 : decode cX11_feed 142 = .ok (.iload 6, 2) := by decide +kernel
theorem dX11_feed_144 : decode cX11_feed 144 = .ok (.iastore, 1) := by decide +kernel
theorem dX11_feed_145 : decode cX11_feed 145 = .ok (.aload_n 0, 1) := by decide +kernel
theorem dX11_feed_146 : decode cX11_feed 146 = .ok (.dup, 1) := by decide +kernel
theorem dX11_feed_147 : decode cX11_feed 147 = .ok (.getfield 155, 3) := by decide +kernel
theorem dX11_feed_150 : decode cX11_feed 150 = .ok (.iconst 1, 1) := by decide +kernel
theorem dX11_feed_151 : decode cX11_feed 151 = .ok (.iadd, 1) := by decide +kernel
theorem dX11_feed_152 : decode cX11_feed 152 = .ok (.putfield 155, 3) := by decide +kernel
theorem dX11_feed_155 : decode cX11_feed 155 = .ok (.iinc 7 1, 3) := by decide +kernel
theorem dX11_feed_158 : decode cX11_feed 158 = .ok (.goto (-71), 3) := by decide +kernel
theorem dX11_feed_161 : decode cX11_feed 161 = .ok (.aload_n 0, 1) := by decide +kernel
theorem dX11_feed_162 : decode cX11_feed 162 = .ok (.getfield 155, 3) := by decide +kernel
theorem dX11_feed_165 : decode cX11_feed 165 = .ok (.ireturn, 1) := by decide +kernel
theorem dX11_here_0 : decode cX11_here 0 = .ok (.aload_n 0, 1) := by decide +kernel
theorem dX11_here_1 : decode cX11_here 1 = .ok (.getfield 158, 3) := by decide +kernel
theorem dX11_here_4 : decode cX11_here 4 = .ok (.aload_n 0, 1) := by decide +kernel
theorem dX11_here_5 : decode cX11_here 5 = .ok (.getfield 161, 3) := by decide +kernel
theorem dX11_here_8 : decode cX11_here 8 = .ok (.if_icmp .ge 15, 3) := by decide +kernel
theorem dX11_here_11 : decode cX11_here 11 = .ok (.aload_n 0, 1) := by decide +kernel
theorem dX11_here_12 : decode cX11_here 12 = .ok (.getfield 22, 3) := by decide +kernel
theorem dX11_here_15 : decode cX11_here 15 = .ok (.aload_n 0, 1) := by decide +kernel
theorem dX11_here_16 : decode cX11_here 16 = .ok (.getfield 158, 3) := by decide +kernel
theorem dX11_here_19 : decode cX11_here 19 = .ok (.iaload, 1) := by decide +kernel
theorem dX11_here_20 : decode cX11_here 20 = .ok (.goto 4, 3) := by decide +kernel
theorem dX11_here_23 : decode cX11_here 23 = .ok (.iconst (-1), 1) := by decide +kernel
theorem dX11_here_24 : decode cX11_here 24 = .ok (.ireturn, 1) := by decide +kernel
theorem dX11_fails_0 : decode cX11_fails 0 = .ok (.aload_n 0, 1) := by decide +kernel
theorem dX11_fails_1 : decode cX11_fails 1 = .ok (.getfield 164, 3) := by decide +kernel
theorem dX11_fails_4 : decode cX11_fails 4 = .ok (.ifCond .ge 8, 3) := by decide +kernel
theorem dX11_fails_7 : decode cX11_fails 7 = .ok (.aload_n 0, 1) := by decide +kernel
theorem dX11_fails_8 : decode cX11_fails 8 = .ok (.iload_n 1, 1) := by decide +kernel
theorem dX11_fails_9 : decode cX11_fails 9 = .ok (.putfield 164, 3) := by decide +kernel
theorem dX11_fails_12 : decode cX11_fails 12 = .ok (.return_, 1) := by decide +kernel
theorem dX11_kindOf_0 : decode cX11_kindOf 0 = .ok (.iload_n 0, 1) := by decide +kernel
theorem dX11_kindOf_1 : decode cX11_kindOf 1 = .ok (.tableswitch 85 100 114 #[81, 85, 85, 85, 79, 85, 85, 85, 85, 83, 85, 85, 75, 85, 77], 75) := by decide +kernel
theorem dX11_kindOf_76 : decode cX11_kindOf 76 = .ok (.iconst 0, 1) := by decide +kernel
theorem dX11_kindOf_77 : decode cX11_kindOf 77 = .ok (.ireturn, 1) := by decide +kernel
theorem dX11_kindOf_78 : decode cX11_kindOf 78 = .ok (.iconst 1, 1) := by decide +kernel
theorem dX11_kindOf_79 : decode cX11_kindOf 79 = .ok (.ireturn, 1) := by decide +kernel
theorem dX11_kindOf_80 : decode cX11_kindOf 80 = .ok (.iconst 2, 1) := by decide +kernel
theorem dX11_kindOf_81 : decode cX11_kindOf 81 = .ok (.ireturn, 1) := by decide +kernel
theorem dX11_kindOf_82 : decode cX11_kindOf 82 = .ok (.iconst 3, 1) := by decide +kernel
theorem dX11_kindOf_83 : decode cX11_kindOf 83 = .ok (.ireturn, 1) := by decide +kernel
theorem dX11_kindOf_84 : decode cX11_kindOf 84 = .ok (.iconst 4, 1) := by decide +kernel
theorem dX11_kindOf_85 : decode cX11_kindOf 85 = .ok (.ireturn, 1) := by decide +kernel
theorem dX11_kindOf_86 : decode cX11_kindOf 86 = .ok (.iload_n 0, 1) := by decide +kernel
theorem dX11_kindOf_87 : decode cX11_kindOf 87 = .ok (.bipush 115, 2) := by decide +kernel
theorem dX11_kindOf_89 : decode cX11_kindOf 89 = .ok (.if_icmp .ne 7, 3) := by decide +kernel
theorem dX11_kindOf_92 : decode cX11_kindOf 92 = .ok (.iconst 5, 1) := by decide +kernel
theorem dX11_kindOf_93 : decode cX11_kindOf 93 = .ok (.goto 4, 3) := by decide +kernel
theorem dX11_kindOf_96 : decode cX11_kindOf 96 = .ok (.iconst (-1), 1) := by decide +kernel
theorem dX11_kindOf_97 : decode cX11_kindOf 97 = .ok (.ireturn, 1) := by decide +kernel
theorem dX11_takes_0 : decode cX11_takes 0 = .ok (.aload_n 0, 1) := by decide +kernel
theorem dX11_takes_1 : decode cX11_takes 1 = .ok (.invokevirtual 167, 3) := by decide +kernel
theorem dX11_takes_4 : decode cX11_takes 4 = .ok (.iload_n 1, 1) := by decide +kernel
theorem dX11_takes_5 : decode cX11_takes 5 = .ok (.if_icmp .ne 16, 3) := by decide +kernel
theorem dX11_takes_8 : decode cX11_takes 8 = .ok (.aload_n 0, 1) := by decide +kernel
theorem dX11_takes_9 : decode cX11_takes 9 = .ok (.dup, 1) := by decide +kernel
theorem dX11_takes_10 : decode cX11_takes 10 = .ok (.getfield 158, 3) := by decide +kernel
theorem dX11_takes_13 : decode cX11_takes 13 = .ok (.iconst 1, 1) := by decide +kernel
theorem dX11_takes_14 : decode cX11_takes 14 = .ok (.iadd, 1) := by decide +kernel
theorem dX11_takes_15 : decode cX11_takes 15 = .ok (.putfield 158, 3) := by decide +kernel
theorem dX11_takes_18 : decode cX11_takes 18 = .ok (.goto 11, 3) := by decide +kernel
theorem dX11_takes_21 : decode cX11_takes 21 = .ok (.aload_n 0, 1) := by decide +kernel
theorem dX11_takes_22 : decode cX11_takes 22 = .ok (.aload_n 0, 1) := by decide +kernel
theorem dX11_takes_23 : decode cX11_takes 23 = .ok (.getfield 158, 3) := by decide +kernel
theorem dX11_takes_26 : decode cX11_takes 26 = .ok (.invokevirtual 171, 3) := by decide +kernel
theorem dX11_takes_29 : decode cX11_takes 29 = .ok (.return_, 1) := by decide +kernel
theorem dX11_number_0 : decode cX11_number 0 = .ok (.aload_n 0, 1) := by decide +kernel
theorem dX11_number_1 : decode cX11_number 1 = .ok (.getfield 158, 3) := by decide +kernel
theorem dX11_number_4 : decode cX11_number 4 = .ok (.istore_n 2, 1) := by decide +kernel
theorem dX11_number_5 : decode cX11_number 5 = .ok (.iconst 0, 1) := by decide +kernel
theorem dX11_number_6 : decode cX11_number 6 = .ok (.istore_n 3, 1) := by decide +kernel
theorem dX11_number_7 : decode cX11_number 7 = .ok (.aload_n 0, 1) := by decide +kernel
theorem dX11_number_8 : decode cX11_number 8 = .ok (.getfield 158, 3) := by decide +kernel
theorem dX11_number_11 : decode cX11_number 11 = .ok (.iload_n 2, 1) := by decide +kernel
theorem dX11_number_12 : decode cX11_number 12 = .ok (.iconst 2, 1) := by decide +kernel
theorem dX11_number_13 : decode cX11_number 13 = .ok (.iadd, 1) := by decide +kernel
theorem dX11_number_14 : decode cX11_number 14 = .ok (.if_icmp .ge 43, 3) := by decide +kernel
theorem dX11_number_17 : decode cX11_number 17 = .ok (.aload_n 0, 1) := by decide +kernel
theorem dX11_number_18 : decode cX11_number 18 = .ok (.invokevirtual 167, 3) := by decide +kernel
theorem dX11_number_21 : decode cX11_number 21 = .ok (.bipush 48, 2) := by decide +kernel
theorem dX11_number_23 : decode cX11_number 23 = .ok (.bipush 57, 2) := by decide +kernel
theorem dX11_number_25 : decode cX11_number 25 = .ok (.invokestatic 114, 3) := by decide +kernel
theorem dX11_number_28 : decode cX11_number 28 = .ok (.ifCond .eq 29, 3) := by decide +kernel
theorem dX11_number_31 : decode cX11_number 31 = .ok (.bipush 10, 2) := by decide +kernel
theorem dX11_number_33 : decode cX11_number 33 = .ok (.iload_n 3, 1) := by decide +kernel
theorem dX11_number_34 : decode cX11_number 34 = .ok (.imul, 1) := by decide +kernel
theorem dX11_number_35 : decode cX11_number 35 = .ok (.aload_n 0, 1) := by decide +kernel
theorem dX11_number_36 : decode cX11_number 36 = .ok (.invokevirtual 167, 3) := by decide +kernel
theorem dX11_number_39 : decode cX11_number 39 = .ok (.iadd, 1) := by decide +kernel
theorem dX11_number_40 : decode cX11_number 40 = .ok (.bipush 48, 2) := by decide +kernel
theorem dX11_number_42 : decode cX11_number 42 = .ok (.isub, 1) := by decide +kernel
theorem dX11_number_43 : decode cX11_number 43 = .ok (.istore_n 3, 1) := by decide +kernel
theorem dX11_number_44 : decode cX11_number 44 = .ok (.aload_n 0, 1) := by decide +kernel
theorem dX11_number_45 : decode cX11_number 45 = .ok (.dup, 1) := by decide +kernel
theorem dX11_number_46 : decode cX11_number 46 = .ok (.getfield 158, 3) := by decide +kernel
theorem dX11_number_49 : decode cX11_number 49 = .ok (.iconst 1, 1) := by decide +kernel
theorem dX11_number_50 : decode cX11_number 50 = .ok (.iadd, 1) := by decide +kernel
theorem dX11_number_51 : decode cX11_number 51 = .ok (.putfield 158, 3) := by decide +kernel
theorem dX11_number_54 : decode cX11_number 54 = .ok (.goto (-47), 3) := by decide +kernel
theorem dX11_number_57 : decode cX11_number 57 = .ok (.aload_n 0, 1) := by decide +kernel
theorem dX11_number_58 : decode cX11_number 58 = .ok (.getfield 158, 3) := by decide +kernel
theorem dX11_number_61 : decode cX11_number 61 = .ok (.iload_n 2, 1) := by decide +kernel
theorem dX11_number_62 : decode cX11_number 62 = .ok (.if_icmp .eq 11, 3) := by decide +kernel
theorem dX11_number_65 : decode cX11_number 65 = .ok (.iload_n 1, 1) := by decide +kernel
theorem dX11_number_66 : decode cX11_number 66 = .ok (.iload_n 3, 1) := by decide +kernel
theorem dX11_number_67 : decode cX11_number 67 = .ok (.invokestatic 132, 3) := by decide +kernel
theorem dX11_number_70 : decode cX11_number 70 = .ok (.ifCond .ne 8, 3) := by decide +kernel
theorem dX11_number_73 : decode cX11_number 73 = .ok (.aload_n 0, 1) := by decide +kernel
theorem dX11_number_74 : decode cX11_number 74 = .ok (.iload_n 2, 1) := by decide +kernel
theorem dX11_number_75 : decode cX11_number 75 = .ok (.invokevirtual 171, 3) := by decide +kernel
theorem dX11_number_78 : decode cX11_number 78 = .ok (.iload_n 3, 1) := by decide +kernel
theorem dX11_number_79 : decode cX11_number 79 = .ok (.ireturn, 1) := by decide +kernel
theorem dX11_item_0 : decode cX11_item 0 = .ok (.aload_n 0, 1) := by decide +kernel
theorem dX11_item_1 : decode cX11_item 1 = .ok (.invokevirtual 167, 3) := by decide +kernel
theorem dX11_item_4 : decode cX11_item 4 = .ok (.invokestatic 175, 3) := by decide +kernel
theorem dX11_item_7 : decode cX11_item 7 = .ok (.istore_n 1, 1) := by decide +kernel
theorem dX11_item_8 : decode cX11_item 8 = .ok (.iload_n 1, 1) := by decide +kernel
theorem dX11_item_9 : decode cX11_item 9 = .ok (.ifCond .ge 12, 3) := by decide +kernel
theorem dX11_item_12 : decode cX11_item 12 = .ok (.aload_n 0, 1) := by decide +kernel
theorem dX11_item_13 : decode cX11_item 13 = .ok (.aload_n 0, 1) := by decide +kernel
theorem dX11_item_14 : decode cX11_item 14 = .ok (.getfield 158, 3) := by decide +kernel
theorem dX11_item_17 : decode cX11_item 17 = .ok (.invokevirtual 171, 3) := by decide +kernel
theorem dX11_item_20 : decode cX11_item 20 = .ok (.return_, 1) := by decide +kernel
theorem dX11_item_21 : decode cX11_item 21 = .ok (.aload_n 0, 1) := by decide +kernel
theorem dX11_item_22 : decode cX11_item 22 = .ok (.dup, 1) := by decide +kernel
theorem dX11_item_23 : decode cX11_item 23 = .ok (.getfield 158, 3) := by decide +kernel
theorem dX11_item_26 : decode cX11_item 26 = .ok (.iconst 1, 1) := by decide +kernel
theorem dX11_item_27 : decode cX11_item 27 = .ok (.iadd, 1) := by decide +kernel
theorem dX11_item_28 : decode cX11_item 28 = .ok (.putfield 158, 3) := by decide +kernel
theorem dX11_item_31 : decode cX11_item 31 = .ok (.aload_n 0, 1) := by decide +kernel
theorem dX11_item_32 : decode cX11_item 32 = .ok (.getfield 25, 3) := by decide +kernel
theorem dX11_item_35 : decode cX11_item 35 = .ok (.iconst 4, 1) := by decide +kernel
theorem dX11_item_36 : decode cX11_item 36 = .ok (.aload_n 0, 1) := by decide +kernel
theorem dX11_item_37 : decode cX11_item 37 = .ok (.getfield 178, 3) := by decide +kernel
theorem dX11_item_40 : decode cX11_item 40 = .ok (.imul, 1) := by decide +kernel
theorem dX11_item_41 : decode cX11_item 41 = .ok (.iload_n 1, 1) := by decide +kernel
theorem dX11_item_42 : decode cX11_item 42 = .ok (.iastore, 1) := by decide +kernel
theorem dX11_item_43 : decode cX11_item 43 = .ok (.iconst 1, 1) := by decide +kernel
theorem dX11_item_44 : decode cX11_item 44 = .ok (.istore_n 2, 1) := by decide +kernel
theorem dX11_item_45 : decode cX11_item 45 = .ok (.iload_n 2, 1) := by decide +kernel
theorem dX11_item_46 : decode cX11_item 46 = .ok (.iconst 4, 1) := by decide +kernel
theorem dX11_item_47 : decode cX11_item 47 = .ok (.if_icmp .ge 52, 3) := by decide +kernel
theorem dX11_item_50 : decode cX11_item 50 = .ok (.aload_n 0, 1) := by decide +kernel
theorem dX11_item_51 : decode cX11_item 51 = .ok (.getfield 164, 3) := by decide +kernel
theorem dX11_item_54 : decode cX11_item 54 = .ok (.ifCond .ge 45, 3) := by decide +kernel
theorem dX11_item_57 : decode cX11_item 57 = .ok (.iload_n 2, 1) := by decide +kernel
theorem dX11_item_58 : decode cX11_item 58 = .ok (.iconst 1, 1) := by decide +kernel
theorem dX11_item_59 : decode cX11_item 59 = .ok (.if_icmp .le 9, 3) := by decide +kernel
theorem dX11_item_62 : decode cX11_item 62 = .ok (.aload_n 0, 1) := by decide +kernel
theorem dX11_item_63 : decode cX11_item 63 = .ok (.bipush 44, 2) := by decide +kernel
theorem dX11_item_65 : decode cX11_item 65 = .ok (.invokevirtual 181, 3) := by decide +kernel
theorem dX11_item_68 : decode cX11_item 68 = .ok (.aload_n 0, 1) := by decide +kernel
theorem dX11_item_69 : decode cX11_item 69 = .ok (.getfield 164, 3) := by decide +kernel
theorem dX11_item_72 : decode cX11_item 72 = .ok (.ifCond .ge 21, 3) := by decide +kernel
theorem dX11_item_75 : decode cX11_item 75 = .ok (.aload_n 0, 1) := by decide +kernel
theorem dX11_item_76 : decode cX11_item 76 = .ok (.getfield 25, 3) := by decide +kernel
theorem dX11_item_79 : decode cX11_item 79 = .ok (.iconst 4, 1) := by decide +kernel
theorem dX11_item_80 : decode cX11_item 80 = .ok (.aload_n 0, 1) := by decide +kernel
theorem dX11_item_81 : decode cX11_item 81 = .ok (.getfield 178, 3) := by decide +kernel
theorem dX11_item_84 : decode cX11_item 84 = .ok (.imul, 1) := by decide +kernel
theorem dX11_item_85 : decode cX11_item 85 = .ok (.iload_n 2, 1) := by decide +kernel
theorem dX11_item_86 : decode cX11_item 86 = .ok (.iadd, 1) := by decide +kernel
theorem dX11_item_87 : decode cX11_item 87 = .ok (.aload_n 0, 1) := by decide +kernel
theorem dX11_item_88 : decode cX11_item 88 = .ok (.iload_n 2, 1) := by decide +kernel
theorem dX11_item_89 : decode cX11_item 89 = .ok (.invokevirtual 184, 3) := by decide +kernel
theorem dX11_item_92 : decode cX11_item 92 = .ok (.iastore, 1) := by decide +kernel
theorem dX11_item_93 : decode cX11_item 93 = .ok (.iinc 2 1, 3) := by decide +kernel
theorem dX11_item_96 : decode cX11_item 96 = .ok (.goto (-51), 3) := by decide +kernel
theorem dX11_item_99 : decode cX11_item 99 = .ok (.aload_n 0, 1) := by decide +kernel
theorem dX11_item_100 : decode cX11_item 100 = .ok (.dup, 1) := by decide +kernel
theorem dX11_item_101 : decode cX11_item 101 = .ok (.getfield 178, 3) := by decide +kernel
theorem dX11_item_104 : decode cX11_item 104 = .ok (.iconst 1, 1) := by decide +kernel
theorem dX11_item_105 : decode cX11_item 105 = .ok (.iadd, 1) := by decide +kernel
theorem dX11_item_106 : decode cX11_item 106 = .ok (.putfield 178, 3) := by decide +kernel
theorem dX11_item_109 : decode cX11_item 109 = .ok (.return_, 1) := by decide +kernel
theorem dX11_text_0 : decode cX11_text 0 = .ok (.aload_n 0, 1) := by decide +kernel
theorem dX11_text_1 : decode cX11_text 1 = .ok (.aload_n 0, 1) := by decide +kernel
theorem dX11_text_2 : decode cX11_text 2 = .ok (.getfield 155, 3) := by decide +kernel
theorem dX11_text_5 : decode cX11_text 5 = .ok (.putfield 161, 3) := by decide +kernel
theorem dX11_text_8 : decode cX11_text 8 = .ok (.aload_n 0, 1) := by decide +kernel
theorem dX11_text_9 : decode cX11_text 9 = .ok (.iconst 0, 1) := by decide +kernel
theorem dX11_text_10 : decode cX11_text 10 = .ok (.putfield 155, 3) := by decide +kernel
theorem dX11_text_13 : decode cX11_text 13 = .ok (.aload_n 0, 1) := by decide +kernel
theorem dX11_text_14 : decode cX11_text 14 = .ok (.iconst 0, 1) := by decide +kernel
theorem dX11_text_15 : decode cX11_text 15 = .ok (.putfield 158, 3) := by decide +kernel
theorem dX11_text_18 : decode cX11_text 18 = .ok (.aload_n 0, 1) := by decide +kernel
theorem dX11_text_19 : decode cX11_text 19 = .ok (.iconst (-1), 1) := by decide +kernel
theorem dX11_text_20 : decode cX11_text 20 = .ok (.putfield 164, 3) := by decide +kernel
theorem dX11_text_23 : decode cX11_text 23 = .ok (.aload_n 0, 1) := by decide +kernel
theorem dX11_text_24 : decode cX11_text 24 = .ok (.iconst 0, 1) := by decide +kernel
theorem dX11_text_25 : decode cX11_text 25 = .ok (.putfield 178, 3) := by decide +kernel
theorem dX11_text_28 : decode cX11_text 28 = .ok (.aload_n 0, 1) := by decide +kernel
theorem dX11_text_29 : decode cX11_text 29 = .ok (.invokevirtual 187, 3) := by decide +kernel
theorem dX11_text_32 : decode cX11_text 32 = .ok (.aload_n 0, 1) := by decide +kernel
theorem dX11_text_33 : decode cX11_text 33 = .ok (.getfield 164, 3) := by decide +kernel
theorem dX11_text_36 : decode cX11_text 36 = .ok (.ifCond .ge 34, 3) := by decide +kernel
theorem dX11_text_39 : decode cX11_text 39 = .ok (.aload_n 0, 1) := by decide +kernel
theorem dX11_text_40 : decode cX11_text 40 = .ok (.getfield 158, 3) := by decide +kernel
theorem dX11_text_43 : decode cX11_text 43 = .ok (.aload_n 0, 1) := by decide +kernel
theorem dX11_text_44 : decode cX11_text 44 = .ok (.getfield 161, 3) := by decide +kernel
theorem dX11_text_47 : decode cX11_text 47 = .ok (.if_icmp .ge 23, 3) := by decide +kernel
theorem dX11_text_50 : decode cX11_text 50 = .ok (.aload_n 0, 1) := by decide +kernel
theorem dX11_text_51 : decode cX11_text 51 = .ok (.bipush 59, 2) := by decide +kernel
theorem dX11_text_53 : decode cX11_text 53 = .ok (.invokevirtual 181, 3) := by decide +kernel
theorem dX11_text_56 : decode cX11_text 56 = .ok (.aload_n 0, 1) := by decide +kernel
theorem dX11_text_57 : decode cX11_text 57 = .ok (.getfield 164, 3) := by decide +kernel
theorem dX11_text_60 : decode cX11_text 60 = .ok (.ifCond .ge (-28), 3) := by decide +kernel
theorem dX11_text_63 : decode cX11_text 63 = .ok (.aload_n 0, 1) := by decide +kernel
theorem dX11_text_64 : decode cX11_text 64 = .ok (.invokevirtual 187, 3) := by decide +kernel
theorem dX11_text_67 : decode cX11_text 67 = .ok (.goto (-35), 3) := by decide +kernel
theorem dX11_text_70 : decode cX11_text 70 = .ok (.aload_n 0, 1) := by decide +kernel
theorem dX11_text_71 : decode cX11_text 71 = .ok (.getfield 164, 3) := by decide +kernel
theorem dX11_text_74 : decode cX11_text 74 = .ok (.ifCond .lt 11, 3) := by decide +kernel
theorem dX11_text_77 : decode cX11_text 77 = .ok (.bipush (-100), 2) := by decide +kernel
theorem dX11_text_79 : decode cX11_text 79 = .ok (.aload_n 0, 1) := by decide +kernel
theorem dX11_text_80 : decode cX11_text 80 = .ok (.getfield 164, 3) := by decide +kernel
theorem dX11_text_83 : decode cX11_text 83 = .ok (.isub, 1) := by decide +kernel
theorem dX11_text_84 : decode cX11_text 84 = .ok (.ireturn, 1) := by decide +kernel
theorem dX11_text_85 : decode cX11_text 85 = .ok (.aload_n 0, 1) := by decide +kernel
theorem dX11_text_86 : decode cX11_text 86 = .ok (.getfield 111, 3) := by decide +kernel
theorem dX11_text_89 : decode cX11_text 89 = .ok (.aload_n 0, 1) := by decide +kernel
theorem dX11_text_90 : decode cX11_text 90 = .ok (.getfield 178, 3) := by decide +kernel
theorem dX11_text_93 : decode cX11_text 93 = .ok (.iadd, 1) := by decide +kernel
theorem dX11_text_94 : decode cX11_text 94 = .ok (.bipush 8, 2) := by decide +kernel
theorem dX11_text_96 : decode cX11_text 96 = .ok (.if_icmp .le 6, 3) := by decide +kernel
theorem dX11_text_99 : decode cX11_text 99 = .ok (.bipush (-4), 2) := by decide +kernel
theorem dX11_text_101 : decode cX11_text 101 = .ok (.ireturn, 1) := by decide +kernel
theorem dX11_text_102 : decode cX11_text 102 = .ok (.iconst 0, 1) := by decide +kernel
theorem dX11_text_103 : decode cX11_text 103 = .ok (.istore_n 1, 1) := by decide +kernel
theorem dX11_text_104 : decode cX11_text 104 = .ok (.iload_n 1, 1) := by decide +kernel
theorem dX11_text_105 : decode cX11_text 105 = .ok (.aload_n 0, 1) := by decide +kernel
theorem dX11_text_106 : decode cX11_text 106 = .ok (.getfield 178, 3) := by decide +kernel
theorem dX11_text_109 : decode cX11_text 109 = .ok (.if_icmp .ge 51, 3) := by decide +kernel
theorem dX11_text_112 : decode cX11_text 112 = .ok (.aload_n 0, 1) := by decide +kernel
theorem dX11_text_113 : decode cX11_text 113 = .ok (.aload_n 0, 1) := by decide +kernel
theorem dX11_text_114 : decode cX11_text 114 = .ok (.getfield 25, 3) := by decide +kernel
theorem dX11_text_117 : decode cX11_text 117 = .ok (.iconst 4, 1) := by decide +kernel
theorem dX11_text_118 : decode cX11_text 118 = .ok (.iload_n 1, 1) := by decide +kernel
theorem dX11_text_119 : decode cX11_text 119 = .ok (.imul, 1) := by decide +kernel
theorem dX11_text_120 : decode cX11_text 120 = .ok (.iaload, 1) := by decide +kernel
theorem dX11_text_121 : decode cX11_text 121 = .ok (.aload_n 0, 1) := by decide +kernel
theorem dX11_text_122 : decode cX11_text 122 = .ok (.getfield 25, 3) := by decide +kernel
theorem dX11_text_125 : decode cX11_text 125 = .ok (.iconst 4, 1) := by decide +kernel
theorem dX11_text_126 : decode cX11_text 126 = .ok (.iload_n 1, 1) := by decide +kernel
theorem dX11_text_127 : decode cX11_text 127 = .ok (.imul, 1) := by decide +kernel
theorem dX11_text_128 : decode cX11_text 128 = .ok (.iconst 1, 1) := by decide +kernel
theorem dX11_text_129 : decode cX11_text 129 = .ok (.iadd, 1) := by decide +kernel
theorem dX11_text_130 : decode cX11_text 130 = .ok (.iaload, 1) := by decide +kernel
theorem dX11_text_131 : decode cX11_text 131 = .ok (.aload_n 0, 1) := by decide +kernel
theorem dX11_text_132 : decode cX11_text 132 = .ok (.getfield 25, 3) := by decide +kernel
theorem dX11_text_135 : decode cX11_text 135 = .ok (.iconst 4, 1) := by decide +kernel
theorem dX11_text_136 : decode cX11_text 136 = .ok (.iload_n 1, 1) := by decide +kernel
theorem dX11_text_137 : decode cX11_text 137 = .ok (.imul, 1) := by decide +kernel
theorem dX11_text_138 : decode cX11_text 138 = .ok (.iconst 2, 1) := by decide +kernel
theorem dX11_text_139 : decode cX11_text 139 = .ok (.iadd, 1) := by decide +kernel
theorem dX11_text_140 : decode cX11_text 140 = .ok (.iaload, 1) := by decide +kernel
theorem dX11_text_141 : decode cX11_text 141 = .ok (.aload_n 0, 1) := by decide +kernel
theorem dX11_text_142 : decode cX11_text 142 = .ok (.getfield 25, 3) := by decide +kernel
theorem dX11_text_145 : decode cX11_text 145 = .ok (.iconst 4, 1) := by decide +kernel
theorem dX11_text_146 : decode cX11_text 146 = .ok (.iload_n 1, 1) := by decide +kernel
theorem dX11_text_147 : decode cX11_text 147 = .ok (.imul, 1) := by decide +kernel
theorem dX11_text_148 : decode cX11_text 148 = .ok (.iconst 3, 1) := by decide +kernel
theorem dX11_text_149 : decode cX11_text 149 = .ok (.iadd, 1) := by decide +kernel
theorem dX11_text_150 : decode cX11_text 150 = .ok (.iaload, 1) := by decide +kernel
theorem dX11_text_151 : decode cX11_text 151 = .ok (.invokevirtual 135, 3) := by decide +kernel
theorem dX11_text_154 : decode cX11_text 154 = .ok (.iinc 1 1, 3) := by decide +kernel
theorem dX11_text_157 : decode cX11_text 157 = .ok (.goto (-53), 3) := by decide +kernel
theorem dX11_text_160 : decode cX11_text 160 = .ok (.aload_n 0, 1) := by decide +kernel
theorem dX11_text_161 : decode cX11_text 161 = .ok (.invokevirtual 105, 3) := by decide +kernel
theorem dX11_text_164 : decode cX11_text 164 = .ok (.aload_n 0, 1) := by decide +kernel
theorem dX11_text_165 : decode cX11_text 165 = .ok (.getfield 111, 3) := by decide +kernel
theorem dX11_text_168 : decode cX11_text 168 = .ok (.ireturn, 1) := by decide +kernel
theorem dX11_thinks_0 : decode cX11_thinks 0 = .ok (.iconst 0, 1) := by decide +kernel
theorem dX11_thinks_1 : decode cX11_thinks 1 = .ok (.istore_n 1, 1) := by decide +kernel
theorem dX11_thinks_2 : decode cX11_thinks 2 = .ok (.iload_n 1, 1) := by decide +kernel
theorem dX11_thinks_3 : decode cX11_thinks 3 = .ok (.aload_n 0, 1) := by decide +kernel
theorem dX11_thinks_4 : decode cX11_thinks 4 = .ok (.getfield 111, 3) := by decide +kernel
theorem dX11_thinks_7 : decode cX11_thinks 7 = .ok (.if_icmp .ge 42, 3) := by decide +kernel
theorem dX11_thinks_10 : decode cX11_thinks 10 = .ok (.aload_n 0, 1) := by decide +kernel
theorem dX11_thinks_11 : decode cX11_thinks 11 = .ok (.getfield 28, 3) := by decide +kernel
theorem dX11_thinks_14 : decode cX11_thinks 14 = .ok (.iload_n 1, 1) := by decide +kernel
theorem dX11_thinks_15 : decode cX11_thinks 15 = .ok (.aload_n 0, 1) := by decide +kernel
theorem dX11_thinks_16 : decode cX11_thinks 16 = .ok (.iload_n 1, 1) := by decide +kernel
theorem dX11_thinks_17 : decode cX11_thinks 17 = .ok (.invokevirtual 139, 3) := by decide +kernel
theorem dX11_thinks_20 : decode cX11_thinks 20 = .ok (.iastore, 1) := by decide +kernel
theorem dX11_thinks_21 : decode cX11_thinks 21 = .ok (.aload_n 0, 1) := by decide +kernel
theorem dX11_thinks_22 : decode cX11_thinks 22 = .ok (.getfield 31, 3) := by decide +kernel
theorem dX11_thinks_25 : decode cX11_thinks 25 = .ok (.iload_n 1, 1) := by decide +kernel
theorem dX11_thinks_26 : decode cX11_thinks 26 = .ok (.aload_n 0, 1) := by decide +kernel
theorem dX11_thinks_27 : decode cX11_thinks 27 = .ok (.iload_n 1, 1) := by decide +kernel
theorem dX11_thinks_28 : decode cX11_thinks 28 = .ok (.invokevirtual 142, 3) := by decide +kernel
theorem dX11_thinks_31 : decode cX11_thinks 31 = .ok (.iastore, 1) := by decide +kernel
theorem dX11_thinks_32 : decode cX11_thinks 32 = .ok (.aload_n 0, 1) := by decide +kernel
theorem dX11_thinks_33 : decode cX11_thinks 33 = .ok (.getfield 34, 3) := by decide +kernel
theorem dX11_thinks_36 : decode cX11_thinks 36 = .ok (.iload_n 1, 1) := by decide +kernel
theorem dX11_thinks_37 : decode cX11_thinks 37 = .ok (.aload_n 0, 1) := by decide +kernel
theorem dX11_thinks_38 : decode cX11_thinks 38 = .ok (.iload_n 1, 1) := by decide +kernel
theorem dX11_thinks_39 : decode cX11_thinks 39 = .ok (.invokevirtual 145, 3) := by decide +kernel
theorem dX11_thinks_42 : decode cX11_thinks 42 = .ok (.iastore, 1) := by decide +kernel
theorem dX11_thinks_43 : decode cX11_thinks 43 = .ok (.iinc 1 1, 3) := by decide +kernel
theorem dX11_thinks_46 : decode cX11_thinks 46 = .ok (.goto (-44), 3) := by decide +kernel
theorem dX11_thinks_49 : decode cX11_thinks 49 = .ok (.return_, 1) := by decide +kernel
theorem dX11_isAhead_0 : decode cX11_isAhead 0 = .ok (.aload_n 0, 1) := by decide +kernel
theorem dX11_isAhead_1 : decode cX11_isAhead 1 = .ok (.getfield 34, 3) := by decide +kernel
theorem dX11_isAhead_4 : decode cX11_isAhead 4 = .ok (.iload_n 1, 1) := by decide +kernel
theorem dX11_isAhead_5 : decode cX11_isAhead 5 = .ok (.iaload, 1) := by decide +kernel
theorem dX11_isAhead_6 : decode cX11_isAhead 6 = .ok (.aload_n 0, 1) := by decide +kernel
theorem dX11_isAhead_7 : decode cX11_isAhead 7 = .ok (.getfield 34, 3) := by decide +kernel
theorem dX11_isAhead_10 : decode cX11_isAhead 10 = .ok (.iload_n 2, 1) := by decide +kernel
theorem dX11_isAhead_11 : decode cX11_isAhead 11 = .ok (.iaload, 1) := by decide +kernel
theorem dX11_isAhead_12 : decode cX11_isAhead 12 = .ok (.if_icmp .eq 24, 3) := by decide +kernel
theorem dX11_isAhead_15 : decode cX11_isAhead 15 = .ok (.aload_n 0, 1) := by decide +kernel
theorem dX11_isAhead_16 : decode cX11_isAhead 16 = .ok (.getfield 34, 3) := by decide +kernel
theorem dX11_isAhead_19 : decode cX11_isAhead 19 = .ok (.iload_n 1, 1) := by decide +kernel
theorem dX11_isAhead_20 : decode cX11_isAhead 20 = .ok (.iaload, 1) := by decide +kernel
theorem dX11_isAhead_21 : decode cX11_isAhead 21 = .ok (.aload_n 0, 1) := by decide +kernel
theorem dX11_isAhead_22 : decode cX11_isAhead 22 = .ok (.getfield 34, 3) := by decide +kernel
theorem dX11_isAhead_25 : decode cX11_isAhead 25 = .ok (.iload_n 2, 1) := by decide +kernel
theorem dX11_isAhead_26 : decode cX11_isAhead 26 = .ok (.iaload, 1) := by decide +kernel
theorem dX11_isAhead_27 : decode cX11_isAhead 27 = .ok (.if_icmp .le 7, 3) := by decide +kernel
theorem dX11_isAhead_30 : decode cX11_isAhead 30 = .ok (.iconst 1, 1) := by decide +kernel
theorem dX11_isAhead_31 : decode cX11_isAhead 31 = .ok (.goto 4, 3) := by decide +kernel
theorem dX11_isAhead_34 : decode cX11_isAhead 34 = .ok (.iconst 0, 1) := by decide +kernel
theorem dX11_isAhead_35 : decode cX11_isAhead 35 = .ok (.ireturn, 1) := by decide +kernel
theorem dX11_isAhead_36 : decode cX11_isAhead 36 = .ok (.aload_n 0, 1) := by decide +kernel
theorem dX11_isAhead_37 : decode cX11_isAhead 37 = .ok (.getfield 31, 3) := by decide +kernel
theorem dX11_isAhead_40 : decode cX11_isAhead 40 = .ok (.iload_n 1, 1) := by decide +kernel
theorem dX11_isAhead_41 : decode cX11_isAhead 41 = .ok (.iaload, 1) := by decide +kernel
theorem dX11_isAhead_42 : decode cX11_isAhead 42 = .ok (.aload_n 0, 1) := by decide +kernel
theorem dX11_isAhead_43 : decode cX11_isAhead 43 = .ok (.getfield 31, 3) := by decide +kernel
theorem dX11_isAhead_46 : decode cX11_isAhead 46 = .ok (.iload_n 2, 1) := by decide +kernel
theorem dX11_isAhead_47 : decode cX11_isAhead 47 = .ok (.iaload, 1) := by decide +kernel
theorem dX11_isAhead_48 : decode cX11_isAhead 48 = .ok (.if_icmp .eq 26, 3) := by decide +kernel
theorem dX11_isAhead_51 : decode cX11_isAhead 51 = .ok (.aload_n 0, 1) := by decide +kernel
theorem dX11_isAhead_52 : decode cX11_isAhead 52 = .ok (.getfield 31, 3) := by decide +kernel
theorem dX11_isAhead_55 : decode cX11_isAhead 55 = .ok (.iload_n 1, 1) := by decide +kernel
theorem dX11_isAhead_56 : decode cX11_isAhead 56 = .ok (.iaload, 1) := by decide +kernel
theorem dX11_isAhead_57 : decode cX11_isAhead 57 = .ok (.aload_n 0, 1) := by decide +kernel
theorem dX11_isAhead_58 : decode cX11_isAhead 58 = .ok (.getfield 31, 3) := by decide +kernel
theorem dX11_isAhead_61 : decode cX11_isAhead 61 = .ok (.iload_n 2, 1) := by decide +kernel
theorem dX11_isAhead_62 : decode cX11_isAhead 62 = .ok (.iaload, 1) := by decide +kernel
theorem dX11_isAhead_63 : decode cX11_isAhead 63 = .ok (.if_icmp .le 7, 3) := by decide +kernel
theorem dX11_isAhead_66 : decode cX11_isAhead 66 = .ok (.iconst 1, 1) := by decide +kernel
theorem dX11_isAhead_67 : decode cX11_isAhead 67 = .ok (.goto 17, 3) := by decide +kernel
theorem dX11_isAhead_70 : decode cX11_isAhead 70 = .ok (.iconst 0, 1) := by decide +kernel
theorem dX11_isAhead_71 : decode cX11_isAhead 71 = .ok (.goto 13, 3) := by decide +kernel
theorem dX11_isAhead_74 : decode cX11_isAhead 74 = .ok (.iload_n 1, 1) := by decide +kernel
theorem dX11_isAhead_75 : decode cX11_isAhead 75 = .ok (.iload_n 2, 1) := by decide +kernel
theorem dX11_isAhead_76 : decode cX11_isAhead 76 = .ok (.if_icmp .ge 7, 3) := by decide +kernel
theorem dX11_isAhead_79 : decode cX11_isAhead 79 = .ok (.iconst 1, 1) := by decide +kernel
theorem dX11_isAhead_80 : decode cX11_isAhead 80 = .ok (.goto 4, 3) := by decide +kernel
theorem dX11_isAhead_83 : decode cX11_isAhead 83 = .ok (.iconst 0, 1) := by decide +kernel
theorem dX11_isAhead_84 : decode cX11_isAhead 84 = .ok (.ireturn, 1) := by decide +kernel
theorem dX11_chosen_0 : decode cX11_chosen 0 = .ok (.iconst (-1), 1) := by decide +kernel
theorem dX11_chosen_1 : decode cX11_chosen 1 = .ok (.istore_n 3, 1) := by decide +kernel
theorem dX11_chosen_2 : decode cX11_chosen 2 = .ok (.iconst 0, 1) := by decide +kernel
theorem dX11_chosen_3 : decode cX11_chosen 3 = .ok (.istore 4, 2) := by decide +kernel
theorem dX11_chosen_5 : decode cX11_chosen 5 = .ok (.iload 4, 2) := by decide +kernel
theorem dX11_chosen_7 : decode cX11_chosen 7 = .ok (.aload_n 0, 1) := by decide +kernel
theorem dX11_chosen_8 : decode cX11_chosen 8 = .ok (.getfield 111, 3) := by decide +kernel
theorem dX11_chosen_11 : decode cX11_chosen 11 = .ok (.if_icmp .ge 46, 3) := by decide +kernel
theorem dX11_chosen_14 : decode cX11_chosen 14 = .ok (.iload_n 2, 1) := by decide +kernel
theorem dX11_chosen_15 : decode cX11_chosen 15 = .ok (.iload 4, 2) := by decide +kernel
theorem dX11_chosen_17 : decode cX11_chosen 17 = .ok (.ishr, 1) := by decide +kernel
theorem dX11_chosen_18 : decode cX11_chosen 18 = .ok (.iconst 1, 1) := by decide +kernel
theorem dX11_chosen_19 : decode cX11_chosen 19 = .ok (.iand, 1) := by decide +kernel
theorem dX11_chosen_20 : decode cX11_chosen 20 = .ok (.ifCond .ne 31, 3) := by decide +kernel
theorem dX11_chosen_23 : decode cX11_chosen 23 = .ok (.aload_n 0, 1) := by decide +kernel
theorem dX11_chosen_24 : decode cX11_chosen 24 = .ok (.getfield 28, 3) := by decide +kernel
theorem dX11_chosen_27 : decode cX11_chosen 27 = .ok (.iload 4, 2) := by decide +kernel
theorem dX11_chosen_29 : decode cX11_chosen 29 = .ok (.iaload, 1) := by decide +kernel
theorem dX11_chosen_30 : decode cX11_chosen 30 = .ok (.iload_n 1, 1) := by decide +kernel
theorem dX11_chosen_31 : decode cX11_chosen 31 = .ok (.if_icmp .gt 20, 3) := by decide +kernel
theorem dX11_chosen_34 : decode cX11_chosen 34 = .ok (.iload_n 3, 1) := by decide +kernel
theorem dX11_chosen_35 : decode cX11_chosen 35 = .ok (.ifCond .lt 13, 3) := by decide +kernel
theorem dX11_chosen_38 : decode cX11_chosen 38 = .ok (.aload_n 0, 1) := by decide +kernel
theorem dX11_chosen_39 : decode cX11_chosen 39 = .ok (.iload 4, 2) := by decide +kernel
theorem dX11_chosen_41 : decode cX11_chosen 41 = .ok (.iload_n 3, 1) := by decide +kernel
theorem dX11_chosen_42 : decode cX11_chosen 42 = .ok (.invokevirtual 190, 3) := by decide +kernel
theorem dX11_chosen_45 : decode cX11_chosen 45 = .ok (.ifCond .eq 6, 3) := by decide +kernel
theorem dX11_chosen_48 : decode cX11_chosen 48 = .ok (.iload 4, 2) := by decide +kernel
theorem dX11_chosen_50 : decode cX11_chosen 50 = .ok (.istore_n 3, 1) := by decide +kernel
theorem dX11_chosen_51 : decode cX11_chosen 51 = .ok (.iinc 4 1, 3) := by decide +kernel
theorem dX11_chosen_54 : decode cX11_chosen 54 = .ok (.goto (-49), 3) := by decide +kernel
theorem dX11_chosen_57 : decode cX11_chosen 57 = .ok (.iload_n 3, 1) := by decide +kernel
theorem dX11_chosen_58 : decode cX11_chosen 58 = .ok (.ireturn, 1) := by decide +kernel
theorem dX11_nextCome_0 : decode cX11_nextCome 0 = .ok (.sipush 999, 3) := by decide +kernel
theorem dX11_nextCome_3 : decode cX11_nextCome 3 = .ok (.istore_n 2, 1) := by decide +kernel
theorem dX11_nextCome_4 : decode cX11_nextCome 4 = .ok (.iconst 0, 1) := by decide +kernel
theorem dX11_nextCome_5 : decode cX11_nextCome 5 = .ok (.istore_n 3, 1) := by decide +kernel
theorem dX11_nextCome_6 : decode cX11_nextCome 6 = .ok (.iload_n 3, 1) := by decide +kernel
theorem dX11_nextCome_7 : decode cX11_nextCome 7 = .ok (.aload_n 0, 1) := by decide +kernel
theorem dX11_nextCome_8 : decode cX11_nextCome 8 = .ok (.getfield 111, 3) := by decide +kernel
theorem dX11_nextCome_11 : decode cX11_nextCome 11 = .ok (.if_icmp .ge 28, 3) := by decide +kernel
theorem dX11_nextCome_14 : decode cX11_nextCome 14 = .ok (.iload_n 1, 1) := by decide +kernel
theorem dX11_nextCome_15 : decode cX11_nextCome 15 = .ok (.iload_n 3, 1) := by decide +kernel
theorem dX11_nextCome_16 : decode cX11_nextCome 16 = .ok (.ishr, 1) := by decide +kernel
theorem dX11_nextCome_17 : decode cX11_nextCome 17 = .ok (.iconst 1, 1) := by decide +kernel
theorem dX11_nextCome_18 : decode cX11_nextCome 18 = .ok (.iand, 1) := by decide +kernel
theorem dX11_nextCome_19 : decode cX11_nextCome 19 = .ok (.ifCond .ne 14, 3) := by decide +kernel
theorem dX11_nextCome_22 : decode cX11_nextCome 22 = .ok (.iload_n 2, 1) := by decide +kernel
theorem dX11_nextCome_23 : decode cX11_nextCome 23 = .ok (.aload_n 0, 1) := by decide +kernel
theorem dX11_nextCome_24 : decode cX11_nextCome 24 = .ok (.getfield 28, 3) := by decide +kernel
theorem dX11_nextCome_27 : decode cX11_nextCome 27 = .ok (.iload_n 3, 1) := by decide +kernel
theorem dX11_nextCome_28 : decode cX11_nextCome 28 = .ok (.iaload, 1) := by decide +kernel
theorem dX11_nextCome_29 : decode cX11_nextCome 29 = .ok (.invokestatic 193, 3) := by decide +kernel
theorem dX11_nextCome_32 : decode cX11_nextCome 32 = .ok (.istore_n 2, 1) := by decide +kernel
theorem dX11_nextCome_33 : decode cX11_nextCome 33 = .ok (.iinc 3 1, 3) := by decide +kernel
theorem dX11_nextCome_36 : decode cX11_nextCome 36 = .ok (.goto (-30), 3) := by decide +kernel
theorem dX11_nextCome_39 : decode cX11_nextCome 39 = .ok (.iload_n 2, 1) := by decide +kernel
theorem dX11_nextCome_40 : decode cX11_nextCome 40 = .ok (.ireturn, 1) := by decide +kernel
theorem dX11_greedily_0 : decode cX11_greedily 0 = .ok (.iconst 0, 1) := by decide +kernel
theorem dX11_greedily_1 : decode cX11_greedily 1 = .ok (.istore_n 1, 1) := by decide +kernel
theorem dX11_greedily_2 : decode cX11_greedily 2 = .ok (.iconst 0, 1) := by decide +kernel
theorem dX11_greedily_3 : decode cX11_greedily 3 = .ok (.istore_n 2, 1) := by decide +kernel
theorem dX11_greedily_4 : decode cX11_greedily 4 = .ok (.iconst 0, 1) := by decide +kernel
theorem dX11_greedily_5 : decode cX11_greedily 5 = .ok (.istore_n 3, 1) := by decide +kernel
theorem dX11_greedily_6 : decode cX11_greedily 6 = .ok (.iconst 0, 1) := by decide +kernel
theorem dX11_greedily_7 : decode cX11_greedily 7 = .ok (.istore 4, 2) := by decide +kernel
theorem dX11_greedily_9 : decode cX11_greedily 9 = .ok (.iload 4, 2) := by decide +kernel
theorem dX11_greedily_11 : decode cX11_greedily 11 = .ok (.aload_n 0, 1) := by decide +kernel
theorem dX11_greedily_12 : decode cX11_greedily 12 = .ok (.getfield 111, 3) := by decide +kernel
theorem dX11_greedily_15 : decode cX11_greedily 15 = .ok (.if_icmp .ge 92, 3) := by decide +kernel
theorem dX11_greedily_18 : decode cX11_greedily 18 = .ok (.aload_n 0, 1) := by decide +kernel
theorem dX11_greedily_19 : decode cX11_greedily 19 = .ok (.iload_n 1, 1) := by decide +kernel
theorem dX11_greedily_20 : decode cX11_greedily 20 = .ok (.iload_n 2, 1) := by decide +kernel
theorem dX11_greedily_21 : decode cX11_greedily 21 = .ok (.invokevirtual 196, 3) := by decide +kernel
theorem dX11_greedily_24 : decode cX11_greedily 24 = .ok (.istore 5, 2) := by decide +kernel
theorem dX11_greedily_26 : decode cX11_greedily 26 = .ok (.iload 5, 2) := by decide +kernel
theorem dX11_greedily_28 : decode cX11_greedily 28 = .ok (.ifCond .ge 17, 3) := by decide +kernel
theorem dX11_greedily_31 : decode cX11_greedily 31 = .ok (.aload_n 0, 1) := by decide +kernel
theorem dX11_greedily_32 : decode cX11_greedily 32 = .ok (.iload_n 2, 1) := by decide +kernel
theorem dX11_greedily_33 : decode cX11_greedily 33 = .ok (.invokevirtual 199, 3) := by decide +kernel
theorem dX11_greedily_36 : decode cX11_greedily 36 = .ok (.istore_n 1, 1) := by decide +kernel
theorem dX11_greedily_37 : decode cX11_greedily 37 = .ok (.aload_n 0, 1) := by decide +kernel
theorem dX11_greedily_38 : decode cX11_greedily 38 = .ok (.iload_n 1, 1) := by decide +kernel
theorem dX11_greedily_39 : decode cX11_greedily 39 = .ok (.iload_n 2, 1) := by decide +kernel
theorem dX11_greedily_40 : decode cX11_greedily 40 = .ok (.invokevirtual 196, 3) := by decide +kernel
theorem dX11_greedily_43 : decode cX11_greedily 43 = .ok (.istore 5, 2) := by decide +kernel
theorem dX11_greedily_45 : decode cX11_greedily 45 = .ok (.aload_n 0, 1) := by decide +kernel
theorem dX11_greedily_46 : decode cX11_greedily 46 = .ok (.getfield 37, 3) := by decide +kernel
theorem dX11_greedily_49 : decode cX11_greedily 49 = .ok (.iload 4, 2) := by decide +kernel
theorem dX11_greedily_51 : decode cX11_greedily 51 = .ok (.iload 5, 2) := by decide +kernel
theorem dX11_greedily_53 : decode cX11_greedily 53 = .ok (.iastore, 1) := by decide +kernel
theorem dX11_greedily_54 : decode cX11_greedily 54 = .ok (.aload_n 0, 1) := by decide +kernel
theorem dX11_greedily_55 : decode cX11_greedily 55 = .ok (.getfield 40, 3) := by decide +kernel
theorem dX11_greedily_58 : decode cX11_greedily 58 = .ok (.iload 5, 2) := by decide +kernel
theorem dX11_greedily_60 : decode cX11_greedily 60 = .ok (.iload_n 1, 1) := by decide +kernel
theorem dX11_greedily_61 : decode cX11_greedily 61 = .ok (.iastore, 1) := by decide +kernel
theorem dX11_greedily_62 : decode cX11_greedily 62 = .ok (.iload_n 1, 1) := by decide +kernel
theorem dX11_greedily_63 : decode cX11_greedily 63 = .ok (.aload_n 0, 1) := by decide +kernel
theorem dX11_greedily_64 : decode cX11_greedily 64 = .ok (.getfield 31, 3) := by decide +kernel
theorem dX11_greedily_67 : decode cX11_greedily 67 = .ok (.iload 5, 2) := by decide +kernel
theorem dX11_greedily_69 : decode cX11_greedily 69 = .ok (.iaload, 1) := by decide +kernel
theorem dX11_greedily_70 : decode cX11_greedily 70 = .ok (.iadd, 1) := by decide +kernel
theorem dX11_greedily_71 : decode cX11_greedily 71 = .ok (.istore_n 1, 1) := by decide +kernel
theorem dX11_greedily_72 : decode cX11_greedily 72 = .ok (.aload_n 0, 1) := by decide +kernel
theorem dX11_greedily_73 : decode cX11_greedily 73 = .ok (.getfield 43, 3) := by decide +kernel
theorem dX11_greedily_76 : decode cX11_greedily 76 = .ok (.iload 5, 2) := by decide +kernel
theorem dX11_greedily_78 : decode cX11_greedily 78 = .ok (.iload_n 1, 1) := by decide +kernel
theorem dX11_greedily_79 : decode cX11_greedily 79 = .ok (.iastore, 1) := by decide +kernel
theorem dX11_greedily_80 : decode cX11_greedily 80 = .ok (.iload_n 2, 1) := by decide +kernel
theorem dX11_greedily_81 : decode cX11_greedily 81 = .ok (.iconst 1, 1) := by decide +kernel
theorem dX11_greedily_82 : decode cX11_greedily 82 = .ok (.iload 5, 2) := by decide +kernel
theorem dX11_greedily_84 : decode cX11_greedily 84 = .ok (.ishl, 1) := by decide +kernel
theorem dX11_greedily_85 : decode cX11_greedily 85 = .ok (.ior, 1) := by decide +kernel
theorem dX11_greedily_86 : decode cX11_greedily 86 = .ok (.istore_n 2, 1) := by decide +kernel
theorem dX11_greedily_87 : decode cX11_greedily 87 = .ok (.iload_n 3, 1) := by decide +kernel
theorem dX11_greedily_88 : decode cX11_greedily 88 = .ok (.iload_n 1, 1) := by decide +kernel
theorem dX11_greedily_89 : decode cX11_greedily 89 = .ok (.aload_n 0, 1) := by decide +kernel
theorem dX11_greedily_90 : decode cX11_greedily 90 = .ok (.getfield 34, 3) := by decide +kernel
theorem dX11_greedily_93 : decode cX11_greedily 93 = .ok (.iload 5, 2) := by decide +kernel
theorem dX11_greedily_95 : decode cX11_greedily 95 = .ok (.iaload, 1) := by decide +kernel
theorem dX11_greedily_96 : decode cX11_greedily 96 = .ok (.iadd, 1) := by decide +kernel
theorem dX11_greedily_97 : decode cX11_greedily 97 = .ok (.invokestatic 126, 3) := by decide +kernel
theorem dX11_greedily_100 : decode cX11_greedily 100 = .ok (.istore_n 3, 1) := by decide +kernel
theorem dX11_greedily_101 : decode cX11_greedily 101 = .ok (.iinc 4 1, 3) := by decide +kernel
theorem dX11_greedily_104 : decode cX11_greedily 104 = .ok (.goto (-95), 3) := by decide +kernel
theorem dX11_greedily_107 : decode cX11_greedily 107 = .ok (.aload_n 0, 1) := by decide +kernel
theorem dX11_greedily_108 : decode cX11_greedily 108 = .ok (.iload_n 1, 1) := by decide +kernel
theorem dX11_greedily_109 : decode cX11_greedily 109 = .ok (.putfield 202, 3) := by decide +kernel
theorem dX11_greedily_112 : decode cX11_greedily 112 = .ok (.iload_n 3, 1) := by decide +kernel
theorem dX11_greedily_113 : decode cX11_greedily 113 = .ok (.ireturn, 1) := by decide +kernel
theorem dX11_allTake_0 : decode cX11_allTake 0 = .ok (.iconst 0, 1) := by decide +kernel
theorem dX11_allTake_1 : decode cX11_allTake 1 = .ok (.istore_n 1, 1) := by decide +kernel
theorem dX11_allTake_2 : decode cX11_allTake 2 = .ok (.iconst 0, 1) := by decide +kernel
theorem dX11_allTake_3 : decode cX11_allTake 3 = .ok (.istore_n 2, 1) := by decide +kernel
theorem dX11_allTake_4 : decode cX11_allTake 4 = .ok (.iload_n 2, 1) := by decide +kernel
theorem dX11_allTake_5 : decode cX11_allTake 5 = .ok (.aload_n 0, 1) := by decide +kernel
theorem dX11_allTake_6 : decode cX11_allTake 6 = .ok (.getfield 111, 3) := by decide +kernel
theorem dX11_allTake_9 : decode cX11_allTake 9 = .ok (.if_icmp .ge 18, 3) := by decide +kernel
theorem dX11_allTake_12 : decode cX11_allTake 12 = .ok (.iload_n 1, 1) := by decide +kernel
theorem dX11_allTake_13 : decode cX11_allTake 13 = .ok (.aload_n 0, 1) := by decide +kernel
theorem dX11_allTake_14 : decode cX11_allTake 14 = .ok (.getfield 31, 3) := by decide +kernel
theorem dX11_allTake_17 : decode cX11_allTake 17 = .ok (.iload_n 2, 1) := by decide +kernel
theorem dX11_allTake_18 : decode cX11_allTake 18 = .ok (.iaload, 1) := by decide +kernel
theorem dX11_allTake_19 : decode cX11_allTake 19 = .ok (.iadd, 1) := by decide +kernel
theorem dX11_allTake_20 : decode cX11_allTake 20 = .ok (.istore_n 1, 1) := by decide +kernel
theorem dX11_allTake_21 : decode cX11_allTake 21 = .ok (.iinc 2 1, 3) := by decide +kernel
theorem dX11_allTake_24 : decode cX11_allTake 24 = .ok (.goto (-20), 3) := by decide +kernel
theorem dX11_allTake_27 : decode cX11_allTake 27 = .ok (.iload_n 1, 1) := by decide +kernel
theorem dX11_allTake_28 : decode cX11_allTake 28 = .ok (.ireturn, 1) := by decide +kernel
theorem dX11_greedy_0 : decode cX11_greedy 0 = .ok (.iload_n 2, 1) := by decide +kernel
theorem dX11_greedy_1 : decode cX11_greedy 1 = .ok (.iconst 0, 1) := by decide +kernel
theorem dX11_greedy_2 : decode cX11_greedy 2 = .ok (.iconst 1, 1) := by decide +kernel
theorem dX11_greedy_3 : decode cX11_greedy 3 = .ok (.invokestatic 114, 3) := by decide +kernel
theorem dX11_greedy_6 : decode cX11_greedy 6 = .ok (.ifCond .ne 6, 3) := by decide +kernel
theorem dX11_greedy_9 : decode cX11_greedy 9 = .ok (.bipush (-2), 2) := by decide +kernel
theorem dX11_greedy_11 : decode cX11_greedy 11 = .ok (.ireturn, 1) := by decide +kernel
theorem dX11_greedy_12 : decode cX11_greedy 12 = .ok (.iload_n 1, 1) := by decide +kernel
theorem dX11_greedy_13 : decode cX11_greedy 13 = .ok (.iconst (-1), 1) := by decide +kernel
theorem dX11_greedy_14 : decode cX11_greedy 14 = .ok (.aload_n 0, 1) := by decide +kernel
theorem dX11_greedy_15 : decode cX11_greedy 15 = .ok (.getfield 111, 3) := by decide +kernel
theorem dX11_greedy_18 : decode cX11_greedy 18 = .ok (.iconst 1, 1) := by decide +kernel
theorem dX11_greedy_19 : decode cX11_greedy 19 = .ok (.isub, 1) := by decide +kernel
theorem dX11_greedy_20 : decode cX11_greedy 20 = .ok (.invokestatic 114, 3) := by decide +kernel
theorem dX11_greedy_23 : decode cX11_greedy 23 = .ok (.ifCond .ne 6, 3) := by decide +kernel
theorem dX11_greedy_26 : decode cX11_greedy 26 = .ok (.bipush (-12), 2) := by decide +kernel
theorem dX11_greedy_28 : decode cX11_greedy 28 = .ok (.ireturn, 1) := by decide +kernel
theorem dX11_greedy_29 : decode cX11_greedy 29 = .ok (.aload_n 0, 1) := by decide +kernel
theorem dX11_greedy_30 : decode cX11_greedy 30 = .ok (.invokevirtual 205, 3) := by decide +kernel
theorem dX11_greedy_33 : decode cX11_greedy 33 = .ok (.aload_n 0, 1) := by decide +kernel
theorem dX11_greedy_34 : decode cX11_greedy 34 = .ok (.invokevirtual 208, 3) := by decide +kernel
theorem dX11_greedy_37 : decode cX11_greedy 37 = .ok (.istore_n 3, 1) := by decide +kernel
theorem dX11_greedy_38 : decode cX11_greedy 38 = .ok (.iload_n 1, 1) := by decide +kernel
theorem dX11_greedy_39 : decode cX11_greedy 39 = .ok (.ifCond .ge 21, 3) := by decide +kernel
theorem dX11_greedy_42 : decode cX11_greedy 42 = .ok (.iload_n 2, 1) := by decide +kernel
theorem dX11_greedy_43 : decode cX11_greedy 43 = .ok (.ifCond .ne 7, 3) := by decide +kernel
theorem dX11_greedy_46 : decode cX11_greedy 46 = .ok (.iload_n 3, 1) := by decide +kernel
theorem dX11_greedy_47 : decode cX11_greedy 47 = .ok (.goto 12, 3) := by decide +kernel
theorem dX11_greedy_50 : decode cX11_greedy 50 = .ok (.aload_n 0, 1) := by decide +kernel
theorem dX11_greedy_51 : decode cX11_greedy 51 = .ok (.getfield 202, 3) := by decide +kernel
theorem dX11_greedy_54 : decode cX11_greedy 54 = .ok (.aload_n 0, 1) := by decide +kernel
theorem dX11_greedy_55 : decode cX11_greedy 55 = .ok (.invokevirtual 211, 3) := by decide +kernel
theorem dX11_greedy_58 : decode cX11_greedy 58 = .ok (.isub, 1) := by decide +kernel
theorem dX11_greedy_59 : decode cX11_greedy 59 = .ok (.ireturn, 1) := by decide +kernel
theorem dX11_greedy_60 : decode cX11_greedy 60 = .ok (.iload_n 2, 1) := by decide +kernel
theorem dX11_greedy_61 : decode cX11_greedy 61 = .ok (.ifCond .ne 12, 3) := by decide +kernel
theorem dX11_greedy_64 : decode cX11_greedy 64 = .ok (.aload_n 0, 1) := by decide +kernel
theorem dX11_greedy_65 : decode cX11_greedy 65 = .ok (.getfield 37, 3) := by decide +kernel
theorem dX11_greedy_68 : decode cX11_greedy 68 = .ok (.iload_n 1, 1) := by decide +kernel
theorem dX11_greedy_69 : decode cX11_greedy 69 = .ok (.iaload, 1) := by decide +kernel
theorem dX11_greedy_70 : decode cX11_greedy 70 = .ok (.goto 14, 3) := by decide +kernel
theorem dX11_greedy_73 : decode cX11_greedy 73 = .ok (.aload_n 0, 1) := by decide +kernel
theorem dX11_greedy_74 : decode cX11_greedy 74 = .ok (.getfield 40, 3) := by decide +kernel
theorem dX11_greedy_77 : decode cX11_greedy 77 = .ok (.aload_n 0, 1) := by decide +kernel
theorem dX11_greedy_78 : decode cX11_greedy 78 = .ok (.getfield 37, 3) := by decide +kernel
theorem dX11_greedy_81 : decode cX11_greedy 81 = .ok (.iload_n 1, 1) := by decide +kernel
theorem dX11_greedy_82 : decode cX11_greedy 82 = .ok (.iaload, 1) := by decide +kernel
theorem dX11_greedy_83 : decode cX11_greedy 83 = .ok (.iaload, 1) := by decide +kernel
theorem dX11_greedy_84 : decode cX11_greedy 84 = .ok (.ireturn, 1) := by decide +kernel
theorem dX11_bestOpen_0 : decode cX11_bestOpen 0 = .ok (.iconst (-1), 1) := by decide +kernel
theorem dX11_bestOpen_1 : decode cX11_bestOpen 1 = .ok (.istore_n 2, 1) := by decide +kernel
theorem dX11_bestOpen_2 : decode cX11_bestOpen 2 = .ok (.iconst 0, 1) := by decide +kernel
theorem dX11_bestOpen_3 : decode cX11_bestOpen 3 = .ok (.istore_n 3, 1) := by decide +kernel
theorem dX11_bestOpen_4 : decode cX11_bestOpen 4 = .ok (.iload_n 3, 1) := by decide +kernel
theorem dX11_bestOpen_5 : decode cX11_bestOpen 5 = .ok (.aload_n 0, 1) := by decide +kernel
theorem dX11_bestOpen_6 : decode cX11_bestOpen 6 = .ok (.getfield 111, 3) := by decide +kernel
theorem dX11_bestOpen_9 : decode cX11_bestOpen 9 = .ok (.if_icmp .ge 43, 3) := by decide +kernel
theorem dX11_bestOpen_12 : decode cX11_bestOpen 12 = .ok (.aload_n 0, 1) := by decide +kernel
theorem dX11_bestOpen_13 : decode cX11_bestOpen 13 = .ok (.getfield 46, 3) := by decide +kernel
theorem dX11_bestOpen_16 : decode cX11_bestOpen 16 = .ok (.iload_n 3, 1) := by decide +kernel
theorem dX11_bestOpen_17 : decode cX11_bestOpen 17 = .ok (.iaload, 1) := by decide +kernel
theorem dX11_bestOpen_18 : decode cX11_bestOpen 18 = .ok (.ifCond .le 28, 3) := by decide +kernel
theorem dX11_bestOpen_21 : decode cX11_bestOpen 21 = .ok (.aload_n 0, 1) := by decide +kernel
theorem dX11_bestOpen_22 : decode cX11_bestOpen 22 = .ok (.getfield 28, 3) := by decide +kernel
theorem dX11_bestOpen_25 : decode cX11_bestOpen 25 = .ok (.iload_n 3, 1) := by decide +kernel
theorem dX11_bestOpen_26 : decode cX11_bestOpen 26 = .ok (.iaload, 1) := by decide +kernel
theorem dX11_bestOpen_27 : decode cX11_bestOpen 27 = .ok (.iload_n 1, 1) := by decide +kernel
theorem dX11_bestOpen_28 : decode cX11_bestOpen 28 = .ok (.if_icmp .gt 18, 3) := by decide +kernel
theorem dX11_bestOpen_31 : decode cX11_bestOpen 31 = .ok (.iload_n 2, 1) := by decide +kernel
theorem dX11_bestOpen_32 : decode cX11_bestOpen 32 = .ok (.ifCond .lt 12, 3) := by decide +kernel
theorem dX11_bestOpen_35 : decode cX11_bestOpen 35 = .ok (.aload_n 0, 1) := by decide +kernel
theorem dX11_bestOpen_36 : decode cX11_bestOpen 36 = .ok (.iload_n 3, 1) := by decide +kernel
theorem dX11_bestOpen_37 : decode cX11_bestOpen 37 = .ok (.iload_n 2, 1) := by decide +kernel
theorem dX11_bestOpen_38 : decode cX11_bestOpen 38 = .ok (.invokevirtual 190, 3) := by decide +kernel
theorem dX11_bestOpen_41 : decode cX11_bestOpen 41 = .ok (.ifCond .eq 5, 3) := by decide +kernel
theorem dX11_bestOpen_44 : decode cX11_bestOpen 44 = .ok (.iload_n 3, 1) := by decide +kernel
theorem dX11_bestOpen_45 : decode cX11_bestOpen 45 = .ok (.istore_n 2, 1) := by decide +kernel
theorem dX11_bestOpen_46 : decode cX11_bestOpen 46 = .ok (.iinc 3 1, 3) := by decide +kernel
theorem dX11_bestOpen_49 : decode cX11_bestOpen 49 = .ok (.goto (-45), 3) := by decide +kernel
theorem dX11_bestOpen_52 : decode cX11_bestOpen 52 = .ok (.iload_n 2, 1) := by decide +kernel
theorem dX11_bestOpen_53 : decode cX11_bestOpen 53 = .ok (.ireturn, 1) := by decide +kernel
theorem dX11_breakingly_0 : decode cX11_breakingly 0 = .ok (.iconst 0, 1) := by decide +kernel
theorem dX11_breakingly_1 : decode cX11_breakingly 1 = .ok (.istore_n 1, 1) := by decide +kernel
theorem dX11_breakingly_2 : decode cX11_breakingly 2 = .ok (.iconst 0, 1) := by decide +kernel
theorem dX11_breakingly_3 : decode cX11_breakingly 3 = .ok (.istore_n 2, 1) := by decide +kernel
theorem dX11_breakingly_4 : decode cX11_breakingly 4 = .ok (.iload_n 2, 1) := by decide +kernel
theorem dX11_breakingly_5 : decode cX11_breakingly 5 = .ok (.aload_n 0, 1) := by decide +kernel
theorem dX11_breakingly_6 : decode cX11_breakingly 6 = .ok (.getfield 111, 3) := by decide +kernel
theorem dX11_breakingly_9 : decode cX11_breakingly 9 = .ok (.if_icmp .ge 30, 3) := by decide +kernel
theorem dX11_breakingly_12 : decode cX11_breakingly 12 = .ok (.aload_n 0, 1) := by decide +kernel
theorem dX11_breakingly_13 : decode cX11_breakingly 13 = .ok (.getfield 46, 3) := by decide +kernel
theorem dX11_breakingly_16 : decode cX11_breakingly 16 = .ok (.iload_n 2, 1) := by decide +kernel
theorem dX11_breakingly_17 : decode cX11_breakingly 17 = .ok (.aload_n 0, 1) := by decide +kernel
theorem dX11_breakingly_18 : decode cX11_breakingly 18 = .ok (.getfield 31, 3) := by decide +kernel
theorem dX11_breakingly_21 : decode cX11_breakingly 21 = .ok (.iload_n 2, 1) := by decide +kernel
theorem dX11_breakingly_22 : decode cX11_breakingly 22 = .ok (.iaload, 1) := by decide +kernel
theorem dX11_breakingly_23 : decode cX11_breakingly 23 = .ok (.iastore, 1) := by decide +kernel
theorem dX11_breakingly_24 : decode cX11_breakingly 24 = .ok (.iload_n 1, 1) := by decide +kernel
theorem dX11_breakingly_25 : decode cX11_breakingly 25 = .ok (.aload_n 0, 1) := by decide +kernel
theorem dX11_breakingly_26 : decode cX11_breakingly 26 = .ok (.getfield 31, 3) := by decide +kernel
theorem dX11_breakingly_29 : decode cX11_breakingly 29 = .ok (.iload_n 2, 1) := by decide +kernel
theorem dX11_breakingly_30 : decode cX11_breakingly 30 = .ok (.iaload, 1) := by decide +kernel
theorem dX11_breakingly_31 : decode cX11_breakingly 31 = .ok (.iadd, 1) := by decide +kernel
theorem dX11_breakingly_32 : decode cX11_breakingly 32 = .ok (.istore_n 1, 1) := by decide +kernel
theorem dX11_breakingly_33 : decode cX11_breakingly 33 = .ok (.iinc 2 1, 3) := by decide +kernel
theorem dX11_breakingly_36 : decode cX11_breakingly 36 = .ok (.goto (-32), 3) := by decide +kernel
theorem dX11_breakingly_39 : decode cX11_breakingly 39 = .ok (.aload_n 0, 1) := by decide +kernel
theorem dX11_breakingly_40 : decode cX11_breakingly 40 = .ok (.iconst 0, 1) := by decide +kernel
theorem dX11_breakingly_41 : decode cX11_breakingly 41 = .ok (.putfield 214, 3) := by decide +kernel
theorem dX11_breakingly_44 : decode cX11_breakingly 44 = .ok (.iconst 0, 1) := by decide +kernel
theorem dX11_breakingly_45 : decode cX11_breakingly 45 = .ok (.istore_n 2, 1) := by decide +kernel
theorem dX11_breakingly_46 : decode cX11_breakingly 46 = .ok (.iconst (-1), 1) := by decide +kernel
theorem dX11_breakingly_47 : decode cX11_breakingly 47 = .ok (.istore_n 3, 1) := by decide +kernel
theorem dX11_breakingly_48 : decode cX11_breakingly 48 = .ok (.iconst 0, 1) := by decide +kernel
theorem dX11_breakingly_49 : decode cX11_breakingly 49 = .ok (.istore 4, 2) := by decide +kernel
theorem dX11_breakingly_51 : decode cX11_breakingly 51 = .ok (.iload_n 1, 1) := by decide +kernel
theorem dX11_breakingly_52 : decode cX11_breakingly 52 = .ok (.ifCond .le 103, 3) := by decide +kernel
theorem dX11_breakingly_55 : decode cX11_breakingly 55 = .ok (.aload_n 0, 1) := by decide +kernel
theorem dX11_breakingly_56 : decode cX11_breakingly 56 = .ok (.iload 4, 2) := by decide +kernel
theorem dX11_breakingly_58 : decode cX11_breakingly 58 = .ok (.invokevirtual 217, 3) := by decide +kernel
theorem dX11_breakingly_61 : decode cX11_breakingly 61 = .ok (.istore 5, 2) := by decide +kernel
theorem dX11_breakingly_63 : decode cX11_breakingly 63 = .ok (.iload_n 3, 1) := by decide +kernel
theorem dX11_breakingly_64 : decode cX11_breakingly 64 = .ok (.ifCond .ge 9, 3) := by decide +kernel
theorem dX11_breakingly_67 : decode cX11_breakingly 67 = .ok (.iload 5, 2) := by decide +kernel
theorem dX11_breakingly_69 : decode cX11_breakingly 69 = .ok (.istore_n 3, 1) := by decide +kernel
theorem dX11_breakingly_70 : decode cX11_breakingly 70 = .ok (.goto 32, 3) := by decide +kernel
theorem dX11_breakingly_73 : decode cX11_breakingly 73 = .ok (.aload_n 0, 1) := by decide +kernel
theorem dX11_breakingly_74 : decode cX11_breakingly 74 = .ok (.getfield 34, 3) := by decide +kernel
theorem dX11_breakingly_77 : decode cX11_breakingly 77 = .ok (.iload 5, 2) := by decide +kernel
theorem dX11_breakingly_79 : decode cX11_breakingly 79 = .ok (.iaload, 1) := by decide +kernel
theorem dX11_breakingly_80 : decode cX11_breakingly 80 = .ok (.aload_n 0, 1) := by decide +kernel
theorem dX11_breakingly_81 : decode cX11_breakingly 81 = .ok (.getfield 34, 3) := by decide +kernel
theorem dX11_breakingly_84 : decode cX11_breakingly 84 = .ok (.iload_n 3, 1) := by decide +kernel
theorem dX11_breakingly_85 : decode cX11_breakingly 85 = .ok (.iaload, 1) := by decide +kernel
theorem dX11_breakingly_86 : decode cX11_breakingly 86 = .ok (.if_icmp .le 16, 3) := by decide +kernel
theorem dX11_breakingly_89 : decode cX11_breakingly 89 = .ok (.aload_n 0, 1) := by decide +kernel
theorem dX11_breakingly_90 : decode cX11_breakingly 90 = .ok (.dup, 1) := by decide +kernel
theorem dX11_breakingly_91 : decode cX11_breakingly 91 = .ok (.getfield 214, 3) := by decide +kernel
theorem dX11_breakingly_94 : decode cX11_breakingly 94 = .ok (.iconst 1, 1) := by decide +kernel
theorem dX11_breakingly_95 : decode cX11_breakingly 95 = .ok (.iadd, 1) := by decide +kernel
theorem dX11_breakingly_96 : decode cX11_breakingly 96 = .ok (.putfield 214, 3) := by decide +kernel
theorem dX11_breakingly_99 : decode cX11_breakingly 99 = .ok (.iload 5, 2) := by decide +kernel
theorem dX11_breakingly_101 : decode cX11_breakingly 101 = .ok (.istore_n 3, 1) := by decide +kernel
theorem dX11_breakingly_102 : decode cX11_breakingly 102 = .ok (.iload_n 3, 1) := by decide +kernel
theorem dX11_breakingly_103 : decode cX11_breakingly 103 = .ok (.ifCond .ge 6, 3) := by decide +kernel
theorem dX11_breakingly_106 : decode cX11_breakingly 106 = .ok (.goto 43, 3) := by decide +kernel
theorem dX11_breakingly_109 : decode cX11_breakingly 109 = .ok (.aload_n 0, 1) := by decide +kernel
theorem dX11_breakingly_110 : decode cX11_breakingly 110 = .ok (.getfield 46, 3) := by decide +kernel
theorem dX11_breakingly_113 : decode cX11_breakingly 113 = .ok (.iload_n 3, 1) := by decide +kernel
theorem dX11_breakingly_114 : decode cX11_breakingly 114 = .ok (.dup2, 1) := by decide +kernel
theorem dX11_breakingly_115 : decode cX11_breakingly 115 = .ok (.iaload, 1) := by decide +kernel
theorem dX11_breakingly_116 : decode cX11_breakingly 116 = .ok (.iconst 1, 1) := by decide +kernel
theorem dX11_breakingly_117 : decode cX11_breakingly 117 = .ok (.isub, 1) := by decide +kernel
theorem dX11_breakingly_118 : decode cX11_breakingly 118 = .ok (.iastore, 1) := by decide +kernel
theorem dX11_breakingly_119 : decode cX11_breakingly 119 = .ok (.iinc 1 (-1), 3) := by decide +kernel
theorem dX11_breakingly_122 : decode cX11_breakingly 122 = .ok (.aload_n 0, 1) := by decide +kernel
theorem dX11_breakingly_123 : decode cX11_breakingly 123 = .ok (.getfield 46, 3) := by decide +kernel
theorem dX11_breakingly_126 : decode cX11_breakingly 126 = .ok (.iload_n 3, 1) := by decide +kernel
theorem dX11_breakingly_127 : decode cX11_breakingly 127 = .ok (.iaload, 1) := by decide +kernel
theorem dX11_breakingly_128 : decode cX11_breakingly 128 = .ok (.ifCond .ne 21, 3) := by decide +kernel
theorem dX11_breakingly_131 : decode cX11_breakingly 131 = .ok (.iload_n 2, 1) := by decide +kernel
theorem dX11_breakingly_132 : decode cX11_breakingly 132 = .ok (.iload 4, 2) := by decide +kernel
theorem dX11_breakingly_134 : decode cX11_breakingly 134 = .ok (.iconst 1, 1) := by decide +kernel
theorem dX11_breakingly_135 : decode cX11_breakingly 135 = .ok (.iadd, 1) := by decide +kernel
theorem dX11_breakingly_136 : decode cX11_breakingly 136 = .ok (.aload_n 0, 1) := by decide +kernel
theorem dX11_breakingly_137 : decode cX11_breakingly 137 = .ok (.getfield 34, 3) := by decide +kernel
theorem dX11_breakingly_140 : decode cX11_breakingly 140 = .ok (.iload_n 3, 1) := by decide +kernel
theorem dX11_breakingly_141 : decode cX11_breakingly 141 = .ok (.iaload, 1) := by decide +kernel
theorem dX11_breakingly_142 : decode cX11_breakingly 142 = .ok (.iadd, 1) := by decide +kernel
theorem dX11_breakingly_143 : decode cX11_breakingly 143 = .ok (.invokestatic 126, 3) := by decide +kernel
theorem dX11_breakingly_146 : decode cX11_breakingly 146 = .ok (.istore_n 2, 1) := by decide +kernel
theorem dX11_breakingly_147 : decode cX11_breakingly 147 = .ok (.iconst (-1), 1) := by decide +kernel
theorem dX11_breakingly_148 : decode cX11_breakingly 148 = .ok (.istore_n 3, 1) := by decide +kernel
theorem dX11_breakingly_149 : decode cX11_breakingly 149 = .ok (.iinc 4 1, 3) := by decide +kernel
theorem dX11_breakingly_152 : decode cX11_breakingly 152 = .ok (.goto (-101), 3) := by decide +kernel
theorem dX11_breakingly_155 : decode cX11_breakingly 155 = .ok (.iload_n 2, 1) := by decide +kernel
theorem dX11_breakingly_156 : decode cX11_breakingly 156 = .ok (.ireturn, 1) := by decide +kernel
theorem dX11_breaking_0 : decode cX11_breaking 0 = .ok (.iload_n 1, 1) := by decide +kernel
theorem dX11_breaking_1 : decode cX11_breaking 1 = .ok (.iconst 0, 1) := by decide +kernel
theorem dX11_breaking_2 : decode cX11_breaking 2 = .ok (.iconst 1, 1) := by decide +kernel
theorem dX11_breaking_3 : decode cX11_breaking 3 = .ok (.invokestatic 114, 3) := by decide +kernel
theorem dX11_breaking_6 : decode cX11_breaking 6 = .ok (.ifCond .ne 6, 3) := by decide +kernel
theorem dX11_breaking_9 : decode cX11_breaking 9 = .ok (.bipush (-2), 2) := by decide +kernel
theorem dX11_breaking_11 : decode cX11_breaking 11 = .ok (.ireturn, 1) := by decide +kernel
theorem dX11_breaking_12 : decode cX11_breaking 12 = .ok (.aload_n 0, 1) := by decide +kernel
theorem dX11_breaking_13 : decode cX11_breaking 13 = .ok (.invokevirtual 205, 3) := by decide +kernel
theorem dX11_breaking_16 : decode cX11_breaking 16 = .ok (.aload_n 0, 1) := by decide +kernel
theorem dX11_breaking_17 : decode cX11_breaking 17 = .ok (.invokevirtual 220, 3) := by decide +kernel
theorem dX11_breaking_20 : decode cX11_breaking 20 = .ok (.istore_n 2, 1) := by decide +kernel
theorem dX11_breaking_21 : decode cX11_breaking 21 = .ok (.iload_n 1, 1) := by decide +kernel
theorem dX11_breaking_22 : decode cX11_breaking 22 = .ok (.ifCond .ne 7, 3) := by decide +kernel
theorem dX11_breaking_25 : decode cX11_breaking 25 = .ok (.iload_n 2, 1) := by decide +kernel
theorem dX11_breaking_26 : decode cX11_breaking 26 = .ok (.goto 7, 3) := by decide +kernel
theorem dX11_breaking_29 : decode cX11_breaking 29 = .ok (.aload_n 0, 1) := by decide +kernel
theorem dX11_breaking_30 : decode cX11_breaking 30 = .ok (.getfield 214, 3) := by decide +kernel
theorem dX11_breaking_33 : decode cX11_breaking 33 = .ok (.ireturn, 1) := by decide +kernel
theorem dX11_looks_0 : decode cX11_looks 0 = .ok (.iconst 0, 1) := by decide +kernel
theorem dX11_looks_1 : decode cX11_looks 1 = .ok (.istore_n 2, 1) := by decide +kernel
theorem dX11_looks_2 : decode cX11_looks 2 = .ok (.iconst 0, 1) := by decide +kernel
theorem dX11_looks_3 : decode cX11_looks 3 = .ok (.istore_n 3, 1) := by decide +kernel
theorem dX11_looks_4 : decode cX11_looks 4 = .ok (.iload_n 3, 1) := by decide +kernel
theorem dX11_looks_5 : decode cX11_looks 5 = .ok (.aload_n 0, 1) := by decide +kernel
theorem dX11_looks_6 : decode cX11_looks 6 = .ok (.getfield 111, 3) := by decide +kernel
theorem dX11_looks_9 : decode cX11_looks 9 = .ok (.if_icmp .ge 38, 3) := by decide +kernel
theorem dX11_looks_12 : decode cX11_looks 12 = .ok (.aload_n 0, 1) := by decide +kernel
theorem dX11_looks_13 : decode cX11_looks 13 = .ok (.getfield 43, 3) := by decide +kernel
theorem dX11_looks_16 : decode cX11_looks 16 = .ok (.aload_n 0, 1) := by decide +kernel
theorem dX11_looks_17 : decode cX11_looks 17 = .ok (.getfield 37, 3) := by decide +kernel
theorem dX11_looks_20 : decode cX11_looks 20 = .ok (.iload_n 3, 1) := by decide +kernel
theorem dX11_looks_21 : decode cX11_looks 21 = .ok (.iaload, 1) := by decide +kernel
theorem dX11_looks_22 : decode cX11_looks 22 = .ok (.iaload, 1) := by decide +kernel
theorem dX11_looks_23 : decode cX11_looks 23 = .ok (.aload_n 0, 1) := by decide +kernel
theorem dX11_looks_24 : decode cX11_looks 24 = .ok (.getfield 34, 3) := by decide +kernel
theorem dX11_looks_27 : decode cX11_looks 27 = .ok (.aload_n 0, 1) := by decide +kernel
theorem dX11_looks_28 : decode cX11_looks 28 = .ok (.getfield 37, 3) := by decide +kernel
theorem dX11_looks_31 : decode cX11_looks 31 = .ok (.iload_n 3, 1) := by decide +kernel
theorem dX11_looks_32 : decode cX11_looks 32 = .ok (.iaload, 1) := by decide +kernel
theorem dX11_looks_33 : decode cX11_looks 33 = .ok (.iaload, 1) := by decide +kernel
theorem dX11_looks_34 : decode cX11_looks 34 = .ok (.iadd, 1) := by decide +kernel
theorem dX11_looks_35 : decode cX11_looks 35 = .ok (.iload_n 1, 1) := by decide +kernel
theorem dX11_looks_36 : decode cX11_looks 36 = .ok (.if_icmp .ne 5, 3) := by decide +kernel
theorem dX11_looks_39 : decode cX11_looks 39 = .ok (.iload_n 3, 1) := by decide +kernel
theorem dX11_looks_40 : decode cX11_looks 40 = .ok (.istore_n 2, 1) := by decide +kernel
theorem dX11_looks_41 : decode cX11_looks 41 = .ok (.iinc 3 1, 3) := by decide +kernel
theorem dX11_looks_44 : decode cX11_looks 44 = .ok (.goto (-40), 3) := by decide +kernel
theorem dX11_looks_47 : decode cX11_looks 47 = .ok (.iload_n 2, 1) := by decide +kernel
theorem dX11_looks_48 : decode cX11_looks 48 = .ok (.istore_n 3, 1) := by decide +kernel
theorem dX11_looks_49 : decode cX11_looks 49 = .ok (.iload_n 3, 1) := by decide +kernel
theorem dX11_looks_50 : decode cX11_looks 50 = .ok (.ifCond .le 36, 3) := by decide +kernel
theorem dX11_looks_53 : decode cX11_looks 53 = .ok (.aload_n 0, 1) := by decide +kernel
theorem dX11_looks_54 : decode cX11_looks 54 = .ok (.getfield 43, 3) := by decide +kernel
theorem dX11_looks_57 : decode cX11_looks 57 = .ok (.aload_n 0, 1) := by decide +kernel
theorem dX11_looks_58 : decode cX11_looks 58 = .ok (.getfield 37, 3) := by decide +kernel
theorem dX11_looks_61 : decode cX11_looks 61 = .ok (.iload_n 3, 1) := by decide +kernel
theorem dX11_looks_62 : decode cX11_looks 62 = .ok (.iconst 1, 1) := by decide +kernel
theorem dX11_looks_63 : decode cX11_looks 63 = .ok (.isub, 1) := by decide +kernel
theorem dX11_looks_64 : decode cX11_looks 64 = .ok (.iaload, 1) := by decide +kernel
theorem dX11_looks_65 : decode cX11_looks 65 = .ok (.iaload, 1) := by decide +kernel
theorem dX11_looks_66 : decode cX11_looks 66 = .ok (.aload_n 0, 1) := by decide +kernel
theorem dX11_looks_67 : decode cX11_looks 67 = .ok (.getfield 40, 3) := by decide +kernel
theorem dX11_looks_70 : decode cX11_looks 70 = .ok (.aload_n 0, 1) := by decide +kernel
theorem dX11_looks_71 : decode cX11_looks 71 = .ok (.getfield 37, 3) := by decide +kernel
theorem dX11_looks_74 : decode cX11_looks 74 = .ok (.iload_n 3, 1) := by decide +kernel
theorem dX11_looks_75 : decode cX11_looks 75 = .ok (.iaload, 1) := by decide +kernel
theorem dX11_looks_76 : decode cX11_looks 76 = .ok (.iaload, 1) := by decide +kernel
theorem dX11_looks_77 : decode cX11_looks 77 = .ok (.if_icmp .ne 9, 3) := by decide +kernel
theorem dX11_looks_80 : decode cX11_looks 80 = .ok (.iinc 3 (-1), 3) := by decide +kernel
theorem dX11_looks_83 : decode cX11_looks 83 = .ok (.goto (-34), 3) := by decide +kernel
theorem dX11_looks_86 : decode cX11_looks 86 = .ok (.aload_n 0, 1) := by decide +kernel
theorem dX11_looks_87 : decode cX11_looks 87 = .ok (.aload_n 0, 1) := by decide +kernel
theorem dX11_looks_88 : decode cX11_looks 88 = .ok (.getfield 37, 3) := by decide +kernel
theorem dX11_looks_91 : decode cX11_looks 91 = .ok (.iload_n 2, 1) := by decide +kernel
theorem dX11_looks_92 : decode cX11_looks 92 = .ok (.iaload, 1) := by decide +kernel
theorem dX11_looks_93 : decode cX11_looks 93 = .ok (.putfield 223, 3) := by decide +kernel
theorem dX11_looks_96 : decode cX11_looks 96 = .ok (.aload_n 0, 1) := by decide +kernel
theorem dX11_looks_97 : decode cX11_looks 97 = .ok (.aload_n 0, 1) := by decide +kernel
theorem dX11_looks_98 : decode cX11_looks 98 = .ok (.getfield 37, 3) := by decide +kernel
theorem dX11_looks_101 : decode cX11_looks 101 = .ok (.iload_n 3, 1) := by decide +kernel
theorem dX11_looks_102 : decode cX11_looks 102 = .ok (.iaload, 1) := by decide +kernel
theorem dX11_looks_103 : decode cX11_looks 103 = .ok (.putfield 226, 3) := by decide +kernel
theorem dX11_looks_106 : decode cX11_looks 106 = .ok (.aload_n 0, 1) := by decide +kernel
theorem dX11_looks_107 : decode cX11_looks 107 = .ok (.iload_n 2, 1) := by decide +kernel
theorem dX11_looks_108 : decode cX11_looks 108 = .ok (.iload_n 3, 1) := by decide +kernel
theorem dX11_looks_109 : decode cX11_looks 109 = .ok (.isub, 1) := by decide +kernel
theorem dX11_looks_110 : decode cX11_looks 110 = .ok (.iconst 1, 1) := by decide +kernel
theorem dX11_looks_111 : decode cX11_looks 111 = .ok (.iadd, 1) := by decide +kernel
theorem dX11_looks_112 : decode cX11_looks 112 = .ok (.putfield 229, 3) := by decide +kernel
theorem dX11_looks_115 : decode cX11_looks 115 = .ok (.aload_n 0, 1) := by decide +kernel
theorem dX11_looks_116 : decode cX11_looks 116 = .ok (.iconst (-1), 1) := by decide +kernel
theorem dX11_looks_117 : decode cX11_looks 117 = .ok (.putfield 232, 3) := by decide +kernel
theorem dX11_looks_120 : decode cX11_looks 120 = .ok (.aload_n 0, 1) := by decide +kernel
theorem dX11_looks_121 : decode cX11_looks 121 = .ok (.iconst 0, 1) := by decide +kernel
theorem dX11_looks_122 : decode cX11_looks 122 = .ok (.putfield 235, 3) := by decide +kernel
theorem dX11_looks_125 : decode cX11_looks 125 = .ok (.iload_n 2, 1) := by decide +kernel
theorem dX11_looks_126 : decode cX11_looks 126 = .ok (.istore 4, 2) := by decide +kernel
theorem dX11_looks_128 : decode cX11_looks 128 = .ok (.iload 4, 2) := by decide +kernel
theorem dX11_looks_130 : decode cX11_looks 130 = .ok (.iload_n 3, 1) := by decide +kernel
theorem dX11_looks_131 : decode cX11_looks 131 = .ok (.if_icmp .lt 33, 3) := by decide +kernel
theorem dX11_looks_134 : decode cX11_looks 134 = .ok (.aload_n 0, 1) := by decide +kernel
theorem dX11_looks_135 : decode cX11_looks 135 = .ok (.getfield 34, 3) := by decide +kernel
theorem dX11_looks_138 : decode cX11_looks 138 = .ok (.aload_n 0, 1) := by decide +kernel
theorem dX11_looks_139 : decode cX11_looks 139 = .ok (.getfield 37, 3) := by decide +kernel
theorem dX11_looks_142 : decode cX11_looks 142 = .ok (.iload 4, 2) := by decide +kernel
theorem dX11_looks_144 : decode cX11_looks 144 = .ok (.iaload, 1) := by decide +kernel
theorem dX11_looks_145 : decode cX11_looks 145 = .ok (.iaload, 1) := by decide +kernel
theorem dX11_looks_146 : decode cX11_looks 146 = .ok (.aload_n 0, 1) := by decide +kernel
theorem dX11_looks_147 : decode cX11_looks 147 = .ok (.getfield 34, 3) := by decide +kernel
theorem dX11_looks_150 : decode cX11_looks 150 = .ok (.aload_n 0, 1) := by decide +kernel
theorem dX11_looks_151 : decode cX11_looks 151 = .ok (.getfield 223, 3) := by decide +kernel
theorem dX11_looks_154 : decode cX11_looks 154 = .ok (.iaload, 1) := by decide +kernel
theorem dX11_looks_155 : decode cX11_looks 155 = .ok (.if_icmp .lt 9, 3) := by decide +kernel
theorem dX11_looks_158 : decode cX11_looks 158 = .ok (.iinc 4 (-1), 3) := by decide +kernel
theorem dX11_looks_161 : decode cX11_looks 161 = .ok (.goto (-33), 3) := by decide +kernel
theorem dX11_looks_164 : decode cX11_looks 164 = .ok (.iload 4, 2) := by decide +kernel
theorem dX11_looks_166 : decode cX11_looks 166 = .ok (.iload_n 3, 1) := by decide +kernel
theorem dX11_looks_167 : decode cX11_looks 167 = .ok (.if_icmp .ge 4, 3) := by decide +kernel
theorem dX11_looks_170 : decode cX11_looks 170 = .ok (.return_, 1) := by decide +kernel
theorem dX11_looks_171 : decode cX11_looks 171 = .ok (.aload_n 0, 1) := by decide +kernel
theorem dX11_looks_172 : decode cX11_looks 172 = .ok (.aload_n 0, 1) := by decide +kernel
theorem dX11_looks_173 : decode cX11_looks 173 = .ok (.getfield 37, 3) := by decide +kernel
theorem dX11_looks_176 : decode cX11_looks 176 = .ok (.iload 4, 2) := by decide +kernel
theorem dX11_looks_178 : decode cX11_looks 178 = .ok (.iaload, 1) := by decide +kernel
theorem dX11_looks_179 : decode cX11_looks 179 = .ok (.putfield 232, 3) := by decide +kernel
theorem dX11_looks_182 : decode cX11_looks 182 = .ok (.iload 4, 2) := by decide +kernel
theorem dX11_looks_184 : decode cX11_looks 184 = .ok (.iconst 1, 1) := by decide +kernel
theorem dX11_looks_185 : decode cX11_looks 185 = .ok (.iadd, 1) := by decide +kernel
theorem dX11_looks_186 : decode cX11_looks 186 = .ok (.istore 5, 2) := by decide +kernel
theorem dX11_looks_188 : decode cX11_looks 188 = .ok (.iload 5, 2) := by decide +kernel
theorem dX11_looks_190 : decode cX11_looks 190 = .ok (.iload_n 2, 1) := by decide +kernel
theorem dX11_looks_191 : decode cX11_looks 191 = .ok (.if_icmp .gt 27, 3) := by decide +kernel
theorem dX11_looks_194 : decode cX11_looks 194 = .ok (.aload_n 0, 1) := by decide +kernel
theorem dX11_looks_195 : decode cX11_looks 195 = .ok (.dup, 1) := by decide +kernel
theorem dX11_looks_196 : decode cX11_looks 196 = .ok (.getfield 235, 3) := by decide +kernel
theorem dX11_looks_199 : decode cX11_looks 199 = .ok (.iconst 1, 1) := by decide +kernel
theorem dX11_looks_200 : decode cX11_looks 200 = .ok (.aload_n 0, 1) := by decide +kernel
theorem dX11_looks_201 : decode cX11_looks 201 = .ok (.getfield 37, 3) := by decide +kernel
theorem dX11_looks_204 : decode cX11_looks 204 = .ok (.iload 5, 2) := by decide +kernel
theorem dX11_looks_206 : decode cX11_looks 206 = .ok (.iaload, 1) := by decide +kernel
theorem dX11_looks_207 : decode cX11_looks 207 = .ok (.ishl, 1) := by decide +kernel
theorem dX11_looks_208 : decode cX11_looks 208 = .ok (.ior, 1) := by decide +kernel
theorem dX11_looks_209 : decode cX11_looks 209 = .ok (.putfield 235, 3) := by decide +kernel
theorem dX11_looks_212 : decode cX11_looks 212 = .ok (.iinc 5 1, 3) := by decide +kernel
theorem dX11_looks_215 : decode cX11_looks 215 = .ok (.goto (-27), 3) := by decide +kernel
theorem dX11_looks_218 : decode cX11_looks 218 = .ok (.return_, 1) := by decide +kernel
theorem dX11_critical_0 : decode cX11_critical 0 = .ok (.iload_n 1, 1) := by decide +kernel
theorem dX11_critical_1 : decode cX11_critical 1 = .ok (.iconst 0, 1) := by decide +kernel
theorem dX11_critical_2 : decode cX11_critical 2 = .ok (.iconst 4, 1) := by decide +kernel
theorem dX11_critical_3 : decode cX11_critical 3 = .ok (.invokestatic 114, 3) := by decide +kernel
theorem dX11_critical_6 : decode cX11_critical 6 = .ok (.ifCond .ne 6, 3) := by decide +kernel
theorem dX11_critical_9 : decode cX11_critical 9 = .ok (.bipush (-2), 2) := by decide +kernel
theorem dX11_critical_11 : decode cX11_critical 11 = .ok (.ireturn, 1) := by decide +kernel
theorem dX11_critical_12 : decode cX11_critical 12 = .ok (.aload_n 0, 1) := by decide +kernel
theorem dX11_critical_13 : decode cX11_critical 13 = .ok (.getfield 111, 3) := by decide +kernel
theorem dX11_critical_16 : decode cX11_critical 16 = .ok (.ifCond .ne 6, 3) := by decide +kernel
theorem dX11_critical_19 : decode cX11_critical 19 = .ok (.bipush (-3), 2) := by decide +kernel
theorem dX11_critical_21 : decode cX11_critical 21 = .ok (.ireturn, 1) := by decide +kernel
theorem dX11_critical_22 : decode cX11_critical 22 = .ok (.aload_n 0, 1) := by decide +kernel
theorem dX11_critical_23 : decode cX11_critical 23 = .ok (.invokevirtual 205, 3) := by decide +kernel
theorem dX11_critical_26 : decode cX11_critical 26 = .ok (.aload_n 0, 1) := by decide +kernel
theorem dX11_critical_27 : decode cX11_critical 27 = .ok (.aload_n 0, 1) := by decide +kernel
theorem dX11_critical_28 : decode cX11_critical 28 = .ok (.invokevirtual 208, 3) := by decide +kernel
theorem dX11_critical_31 : decode cX11_critical 31 = .ok (.invokevirtual 238, 3) := by decide +kernel
theorem dX11_critical_34 : decode cX11_critical 34 = .ok (.iload_n 1, 1) := by decide +kernel
theorem dX11_critical_35 : decode cX11_critical 35 = .ok (.tableswitch 49 0 3 #[29, 34, 39, 44], 29) := by decide +kernel
theorem dX11_critical_64 : decode cX11_critical 64 = .ok (.aload_n 0, 1) := by decide +kernel
theorem dX11_critical_65 : decode cX11_critical 65 = .ok (.getfield 223, 3) := by decide +kernel
theorem dX11_critical_68 : decode cX11_critical 68 = .ok (.ireturn, 1) := by decide +kernel
theorem dX11_critical_69 : decode cX11_critical 69 = .ok (.aload_n 0, 1) := by decide +kernel
theorem dX11_critical_70 : decode cX11_critical 70 = .ok (.getfield 226, 3) := by decide +kernel
theorem dX11_critical_73 : decode cX11_critical 73 = .ok (.ireturn, 1) := by decide +kernel
theorem dX11_critical_74 : decode cX11_critical 74 = .ok (.aload_n 0, 1) := by decide +kernel
theorem dX11_critical_75 : decode cX11_critical 75 = .ok (.getfield 232, 3) := by decide +kernel
theorem dX11_critical_78 : decode cX11_critical 78 = .ok (.ireturn, 1) := by decide +kernel
theorem dX11_critical_79 : decode cX11_critical 79 = .ok (.aload_n 0, 1) := by decide +kernel
theorem dX11_critical_80 : decode cX11_critical 80 = .ok (.getfield 235, 3) := by decide +kernel
theorem dX11_critical_83 : decode cX11_critical 83 = .ok (.ireturn, 1) := by decide +kernel
theorem dX11_critical_84 : decode cX11_critical 84 = .ok (.aload_n 0, 1) := by decide +kernel
theorem dX11_critical_85 : decode cX11_critical 85 = .ok (.getfield 229, 3) := by decide +kernel
theorem dX11_critical_88 : decode cX11_critical 88 = .ok (.ireturn, 1) := by decide +kernel
theorem dX11_behindTakes_0 : decode cX11_behindTakes 0 = .ok (.iconst 0, 1) := by decide +kernel
theorem dX11_behindTakes_1 : decode cX11_behindTakes 1 = .ok (.istore_n 1, 1) := by decide +kernel
theorem dX11_behindTakes_2 : decode cX11_behindTakes 2 = .ok (.iconst 0, 1) := by decide +kernel
theorem dX11_behindTakes_3 : decode cX11_behindTakes 3 = .ok (.istore_n 2, 1) := by decide +kernel
theorem dX11_behindTakes_4 : decode cX11_behindTakes 4 = .ok (.iload_n 2, 1) := by decide +kernel
theorem dX11_behindTakes_5 : decode cX11_behindTakes 5 = .ok (.aload_n 0, 1) := by decide +kernel
theorem dX11_behindTakes_6 : decode cX11_behindTakes 6 = .ok (.getfield 111, 3) := by decide +kernel
theorem dX11_behindTakes_9 : decode cX11_behindTakes 9 = .ok (.if_icmp .ge 34, 3) := by decide +kernel
theorem dX11_behindTakes_12 : decode cX11_behindTakes 12 = .ok (.iload_n 1, 1) := by decide +kernel
theorem dX11_behindTakes_13 : decode cX11_behindTakes 13 = .ok (.aload_n 0, 1) := by decide +kernel
theorem dX11_behindTakes_14 : decode cX11_behindTakes 14 = .ok (.getfield 235, 3) := by decide +kernel
theorem dX11_behindTakes_17 : decode cX11_behindTakes 17 = .ok (.iload_n 2, 1) := by decide +kernel
theorem dX11_behindTakes_18 : decode cX11_behindTakes 18 = .ok (.ishr, 1) := by decide +kernel
theorem dX11_behindTakes_19 : decode cX11_behindTakes 19 = .ok (.iconst 1, 1) := by decide +kernel
theorem dX11_behindTakes_20 : decode cX11_behindTakes 20 = .ok (.iand, 1) := by decide +kernel
theorem dX11_behindTakes_21 : decode cX11_behindTakes 21 = .ok (.iconst 1, 1) := by decide +kernel
theorem dX11_behindTakes_22 : decode cX11_behindTakes 22 = .ok (.if_icmp .ne 12, 3) := by decide +kernel
theorem dX11_behindTakes_25 : decode cX11_behindTakes 25 = .ok (.aload_n 0, 1) := by decide +kernel
theorem dX11_behindTakes_26 : decode cX11_behindTakes 26 = .ok (.getfield 31, 3) := by decide +kernel
theorem dX11_behindTakes_29 : decode cX11_behindTakes 29 = .ok (.iload_n 2, 1) := by decide +kernel
theorem dX11_behindTakes_30 : decode cX11_behindTakes 30 = .ok (.iaload, 1) := by decide +kernel
theorem dX11_behindTakes_31 : decode cX11_behindTakes 31 = .ok (.goto 4, 3) := by decide +kernel
theorem dX11_behindTakes_34 : decode cX11_behindTakes 34 = .ok (.iconst 0, 1) := by decide +kernel
theorem dX11_behindTakes_35 : decode cX11_behindTakes 35 = .ok (.iadd, 1) := by decide +kernel
theorem dX11_behindTakes_36 : decode cX11_behindTakes 36 = .ok (.istore_n 1, 1) := by decide +kernel
theorem dX11_behindTakes_37 : decode cX11_behindTakes 37 = .ok (.iinc 2 1, 3) := by decide +kernel
theorem dX11_behindTakes_40 : decode cX11_behindTakes 40 = .ok (.goto (-36), 3) := by decide +kernel
theorem dX11_behindTakes_43 : decode cX11_behindTakes 43 = .ok (.iload_n 1, 1) := by decide +kernel
theorem dX11_behindTakes_44 : decode cX11_behindTakes 44 = .ok (.ireturn, 1) := by decide +kernel
theorem dX11_behindComes_0 : decode cX11_behindComes 0 = .ok (.sipush 999, 3) := by decide +kernel
theorem dX11_behindComes_3 : decode cX11_behindComes 3 = .ok (.istore_n 1, 1) := by decide +kernel
theorem dX11_behindComes_4 : decode cX11_behindComes 4 = .ok (.iconst 0, 1) := by decide +kernel
theorem dX11_behindComes_5 : decode cX11_behindComes 5 = .ok (.istore_n 2, 1) := by decide +kernel
theorem dX11_behindComes_6 : decode cX11_behindComes 6 = .ok (.iload_n 2, 1) := by decide +kernel
theorem dX11_behindComes_7 : decode cX11_behindComes 7 = .ok (.aload_n 0, 1) := by decide +kernel
theorem dX11_behindComes_8 : decode cX11_behindComes 8 = .ok (.getfield 111, 3) := by decide +kernel
theorem dX11_behindComes_11 : decode cX11_behindComes 11 = .ok (.if_icmp .ge 36, 3) := by decide +kernel
theorem dX11_behindComes_14 : decode cX11_behindComes 14 = .ok (.aload_n 0, 1) := by decide +kernel
theorem dX11_behindComes_15 : decode cX11_behindComes 15 = .ok (.getfield 235, 3) := by decide +kernel
theorem dX11_behindComes_18 : decode cX11_behindComes 18 = .ok (.iload_n 2, 1) := by decide +kernel
theorem dX11_behindComes_19 : decode cX11_behindComes 19 = .ok (.ishr, 1) := by decide +kernel
theorem dX11_behindComes_20 : decode cX11_behindComes 20 = .ok (.iconst 1, 1) := by decide +kernel
theorem dX11_behindComes_21 : decode cX11_behindComes 21 = .ok (.iand, 1) := by decide +kernel
theorem dX11_behindComes_22 : decode cX11_behindComes 22 = .ok (.iconst 1, 1) := by decide +kernel
theorem dX11_behindComes_23 : decode cX11_behindComes 23 = .ok (.if_icmp .ne 16, 3) := by decide +kernel
theorem dX11_behindComes_26 : decode cX11_behindComes 26 = .ok (.iload_n 1, 1) := by decide +kernel
theorem dX11_behindComes_27 : decode cX11_behindComes 27 = .ok (.aload_n 0, 1) := by decide +kernel
theorem dX11_behindComes_28 : decode cX11_behindComes 28 = .ok (.getfield 28, 3) := by decide +kernel
theorem dX11_behindComes_31 : decode cX11_behindComes 31 = .ok (.iload_n 2, 1) := by decide +kernel
theorem dX11_behindComes_32 : decode cX11_behindComes 32 = .ok (.iaload, 1) := by decide +kernel
theorem dX11_behindComes_33 : decode cX11_behindComes 33 = .ok (.invokestatic 193, 3) := by decide +kernel
theorem dX11_behindComes_36 : decode cX11_behindComes 36 = .ok (.goto 4, 3) := by decide +kernel
theorem dX11_behindComes_39 : decode cX11_behindComes 39 = .ok (.iload_n 1, 1) := by decide +kernel
theorem dX11_behindComes_40 : decode cX11_behindComes 40 = .ok (.istore_n 1, 1) := by decide +kernel
theorem dX11_behindComes_41 : decode cX11_behindComes 41 = .ok (.iinc 2 1, 3) := by decide +kernel
theorem dX11_behindComes_44 : decode cX11_behindComes 44 = .ok (.goto (-38), 3) := by decide +kernel
theorem dX11_behindComes_47 : decode cX11_behindComes 47 = .ok (.iload_n 1, 1) := by decide +kernel
theorem dX11_behindComes_48 : decode cX11_behindComes 48 = .ok (.ireturn, 1) := by decide +kernel
theorem dX11_branched_0 : decode cX11_branched 0 = .ok (.iload_n 1, 1) := by decide +kernel
theorem dX11_branched_1 : decode cX11_branched 1 = .ok (.ifCond .ne 32, 3) := by decide +kernel
theorem dX11_branched_4 : decode cX11_branched 4 = .ok (.aload_n 0, 1) := by decide +kernel
theorem dX11_branched_5 : decode cX11_branched 5 = .ok (.getfield 34, 3) := by decide +kernel
theorem dX11_branched_8 : decode cX11_branched 8 = .ok (.aload_n 0, 1) := by decide +kernel
theorem dX11_branched_9 : decode cX11_branched 9 = .ok (.getfield 232, 3) := by decide +kernel
theorem dX11_branched_12 : decode cX11_branched 12 = .ok (.iaload, 1) := by decide +kernel
theorem dX11_branched_13 : decode cX11_branched 13 = .ok (.aload_n 0, 1) := by decide +kernel
theorem dX11_branched_14 : decode cX11_branched 14 = .ok (.invokevirtual 241, 3) := by decide +kernel
theorem dX11_branched_17 : decode cX11_branched 17 = .ok (.aload_n 0, 1) := by decide +kernel
theorem dX11_branched_18 : decode cX11_branched 18 = .ok (.getfield 34, 3) := by decide +kernel
theorem dX11_branched_21 : decode cX11_branched 21 = .ok (.aload_n 0, 1) := by decide +kernel
theorem dX11_branched_22 : decode cX11_branched 22 = .ok (.getfield 223, 3) := by decide +kernel
theorem dX11_branched_25 : decode cX11_branched 25 = .ok (.iaload, 1) := by decide +kernel
theorem dX11_branched_26 : decode cX11_branched 26 = .ok (.iadd, 1) := by decide +kernel
theorem dX11_branched_27 : decode cX11_branched 27 = .ok (.invokestatic 126, 3) := by decide +kernel
theorem dX11_branched_30 : decode cX11_branched 30 = .ok (.goto 24, 3) := by decide +kernel
theorem dX11_branched_33 : decode cX11_branched 33 = .ok (.aload_n 0, 1) := by decide +kernel
theorem dX11_branched_34 : decode cX11_branched 34 = .ok (.getfield 28, 3) := by decide +kernel
theorem dX11_branched_37 : decode cX11_branched 37 = .ok (.aload_n 0, 1) := by decide +kernel
theorem dX11_branched_38 : decode cX11_branched 38 = .ok (.getfield 232, 3) := by decide +kernel
theorem dX11_branched_41 : decode cX11_branched 41 = .ok (.iaload, 1) := by decide +kernel
theorem dX11_branched_42 : decode cX11_branched 42 = .ok (.aload_n 0, 1) := by decide +kernel
theorem dX11_branched_43 : decode cX11_branched 43 = .ok (.invokevirtual 244, 3) := by decide +kernel
theorem dX11_branched_46 : decode cX11_branched 46 = .ok (.aload_n 0, 1) := by decide +kernel
theorem dX11_branched_47 : decode cX11_branched 47 = .ok (.invokevirtual 241, 3) := by decide +kernel
theorem dX11_branched_50 : decode cX11_branched 50 = .ok (.iadd, 1) := by decide +kernel
theorem dX11_branched_51 : decode cX11_branched 51 = .ok (.invokestatic 126, 3) := by decide +kernel
theorem dX11_branched_54 : decode cX11_branched 54 = .ok (.ireturn, 1) := by decide +kernel
theorem dX11_branch_0 : decode cX11_branch 0 = .ok (.iload_n 1, 1) := by decide +kernel
theorem dX11_branch_1 : decode cX11_branch 1 = .ok (.iconst 0, 1) := by decide +kernel
theorem dX11_branch_2 : decode cX11_branch 2 = .ok (.iconst 1, 1) := by decide +kernel
theorem dX11_branch_3 : decode cX11_branch 3 = .ok (.invokestatic 114, 3) := by decide +kernel
theorem dX11_branch_6 : decode cX11_branch 6 = .ok (.ifCond .eq 12, 3) := by decide +kernel
theorem dX11_branch_9 : decode cX11_branch 9 = .ok (.iload_n 2, 1) := by decide +kernel
theorem dX11_branch_10 : decode cX11_branch 10 = .ok (.iconst 0, 1) := by decide +kernel
theorem dX11_branch_11 : decode cX11_branch 11 = .ok (.iconst 2, 1) := by decide +kernel
theorem dX11_branch_12 : decode cX11_branch 12 = .ok (.invokestatic 114, 3) := by decide +kernel
theorem dX11_branch_15 : decode cX11_branch 15 = .ok (.ifCond .ne 6, 3) := by decide +kernel
theorem dX11_branch_18 : decode cX11_branch 18 = .ok (.bipush (-2), 2) := by decide +kernel
theorem dX11_branch_20 : decode cX11_branch 20 = .ok (.ireturn, 1) := by decide +kernel
theorem dX11_branch_21 : decode cX11_branch 21 = .ok (.aload_n 0, 1) := by decide +kernel
theorem dX11_branch_22 : decode cX11_branch 22 = .ok (.getfield 111, 3) := by decide +kernel
theorem dX11_branch_25 : decode cX11_branch 25 = .ok (.ifCond .ne 6, 3) := by decide +kernel
theorem dX11_branch_28 : decode cX11_branch 28 = .ok (.bipush (-3), 2) := by decide +kernel
theorem dX11_branch_30 : decode cX11_branch 30 = .ok (.ireturn, 1) := by decide +kernel
theorem dX11_branch_31 : decode cX11_branch 31 = .ok (.aload_n 0, 1) := by decide +kernel
theorem dX11_branch_32 : decode cX11_branch 32 = .ok (.invokevirtual 205, 3) := by decide +kernel
theorem dX11_branch_35 : decode cX11_branch 35 = .ok (.aload_n 0, 1) := by decide +kernel
theorem dX11_branch_36 : decode cX11_branch 36 = .ok (.aload_n 0, 1) := by decide +kernel
theorem dX11_branch_37 : decode cX11_branch 37 = .ok (.invokevirtual 208, 3) := by decide +kernel
theorem dX11_branch_40 : decode cX11_branch 40 = .ok (.invokevirtual 238, 3) := by decide +kernel
theorem dX11_branch_43 : decode cX11_branch 43 = .ok (.aload_n 0, 1) := by decide +kernel
theorem dX11_branch_44 : decode cX11_branch 44 = .ok (.getfield 232, 3) := by decide +kernel
theorem dX11_branch_47 : decode cX11_branch 47 = .ok (.ifCond .ge 6, 3) := by decide +kernel
theorem dX11_branch_50 : decode cX11_branch 50 = .ok (.bipush (-3), 2) := by decide +kernel
theorem dX11_branch_52 : decode cX11_branch 52 = .ok (.ireturn, 1) := by decide +kernel
theorem dX11_branch_53 : decode cX11_branch 53 = .ok (.aload_n 0, 1) := by decide +kernel
theorem dX11_branch_54 : decode cX11_branch 54 = .ok (.iload_n 1, 1) := by decide +kernel
theorem dX11_branch_55 : decode cX11_branch 55 = .ok (.invokevirtual 247, 3) := by decide +kernel
theorem dX11_branch_58 : decode cX11_branch 58 = .ok (.istore_n 3, 1) := by decide +kernel
theorem dX11_branch_59 : decode cX11_branch 59 = .ok (.iload_n 1, 1) := by decide +kernel
theorem dX11_branch_60 : decode cX11_branch 60 = .ok (.ifCond .ne 16, 3) := by decide +kernel
theorem dX11_branch_63 : decode cX11_branch 63 = .ok (.aload_n 0, 1) := by decide +kernel
theorem dX11_branch_64 : decode cX11_branch 64 = .ok (.getfield 34, 3) := by decide +kernel
theorem dX11_branch_67 : decode cX11_branch 67 = .ok (.aload_n 0, 1) := by decide +kernel
theorem dX11_branch_68 : decode cX11_branch 68 = .ok (.getfield 232, 3) := by decide +kernel
theorem dX11_branch_71 : decode cX11_branch 71 = .ok (.iload_n 3, 1) := by decide +kernel
theorem dX11_branch_72 : decode cX11_branch 72 = .ok (.iastore, 1) := by decide +kernel
theorem dX11_branch_73 : decode cX11_branch 73 = .ok (.goto 13, 3) := by decide +kernel
theorem dX11_branch_76 : decode cX11_branch 76 = .ok (.aload_n 0, 1) := by decide +kernel
theorem dX11_branch_77 : decode cX11_branch 77 = .ok (.getfield 28, 3) := by decide +kernel
theorem dX11_branch_80 : decode cX11_branch 80 = .ok (.aload_n 0, 1) := by decide +kernel
theorem dX11_branch_81 : decode cX11_branch 81 = .ok (.getfield 232, 3) := by decide +kernel
theorem dX11_branch_84 : decode cX11_branch 84 = .ok (.iload_n 3, 1) := by decide +kernel
theorem dX11_branch_85 : decode cX11_branch 85 = .ok (.iastore, 1) := by decide +kernel
theorem dX11_branch_86 : decode cX11_branch 86 = .ok (.iload_n 2, 1) := by decide +kernel
theorem dX11_branch_87 : decode cX11_branch 87 = .ok (.iconst 2, 1) := by decide +kernel
theorem dX11_branch_88 : decode cX11_branch 88 = .ok (.if_icmp .ne 7, 3) := by decide +kernel
theorem dX11_branch_91 : decode cX11_branch 91 = .ok (.iload_n 3, 1) := by decide +kernel
theorem dX11_branch_92 : decode cX11_branch 92 = .ok (.goto 18, 3) := by decide +kernel
theorem dX11_branch_95 : decode cX11_branch 95 = .ok (.iload_n 2, 1) := by decide +kernel
theorem dX11_branch_96 : decode cX11_branch 96 = .ok (.ifCond .ne 10, 3) := by decide +kernel
theorem dX11_branch_99 : decode cX11_branch 99 = .ok (.aload_n 0, 1) := by decide +kernel
theorem dX11_branch_100 : decode cX11_branch 100 = .ok (.invokevirtual 208, 3) := by decide +kernel
theorem dX11_branch_103 : decode cX11_branch 103 = .ok (.goto 7, 3) := by decide +kernel
theorem dX11_branch_106 : decode cX11_branch 106 = .ok (.aload_n 0, 1) := by decide +kernel
theorem dX11_branch_107 : decode cX11_branch 107 = .ok (.invokevirtual 220, 3) := by decide +kernel
theorem dX11_branch_110 : decode cX11_branch 110 = .ok (.ireturn, 1) := by decide +kernel
theorem dX11_boundOf_0 : decode cX11_boundOf 0 = .ok (.sipush 999, 3) := by decide +kernel
theorem dX11_boundOf_3 : decode cX11_boundOf 3 = .ok (.istore_n 2, 1) := by decide +kernel
theorem dX11_boundOf_4 : decode cX11_boundOf 4 = .ok (.iconst 0, 1) := by decide +kernel
theorem dX11_boundOf_5 : decode cX11_boundOf 5 = .ok (.istore_n 3, 1) := by decide +kernel
theorem dX11_boundOf_6 : decode cX11_boundOf 6 = .ok (.sipush 999, 3) := by decide +kernel
theorem dX11_boundOf_9 : decode cX11_boundOf 9 = .ok (.istore 4, 2) := by decide +kernel
theorem dX11_boundOf_11 : decode cX11_boundOf 11 = .ok (.iconst 0, 1) := by decide +kernel
theorem dX11_boundOf_12 : decode cX11_boundOf 12 = .ok (.istore 5, 2) := by decide +kernel
theorem dX11_boundOf_14 : decode cX11_boundOf 14 = .ok (.iload 5, 2) := by decide +kernel
theorem dX11_boundOf_16 : decode cX11_boundOf 16 = .ok (.aload_n 0, 1) := by decide +kernel
theorem dX11_boundOf_17 : decode cX11_boundOf 17 = .ok (.getfield 111, 3) := by decide +kernel
theorem dX11_boundOf_20 : decode cX11_boundOf 20 = .ok (.if_icmp .ge 57, 3) := by decide +kernel
theorem dX11_boundOf_23 : decode cX11_boundOf 23 = .ok (.iload_n 1, 1) := by decide +kernel
theorem dX11_boundOf_24 : decode cX11_boundOf 24 = .ok (.iload 5, 2) := by decide +kernel
theorem dX11_boundOf_26 : decode cX11_boundOf 26 = .ok (.ishr, 1) := by decide +kernel
theorem dX11_boundOf_27 : decode cX11_boundOf 27 = .ok (.iconst 1, 1) := by decide +kernel
theorem dX11_boundOf_28 : decode cX11_boundOf 28 = .ok (.iand, 1) := by decide +kernel
theorem dX11_boundOf_29 : decode cX11_boundOf 29 = .ok (.ifCond .ne 6, 3) := by decide +kernel
theorem dX11_boundOf_32 : decode cX11_boundOf 32 = .ok (.goto 39, 3) := by decide +kernel
theorem dX11_boundOf_35 : decode cX11_boundOf 35 = .ok (.iload_n 2, 1) := by decide +kernel
theorem dX11_boundOf_36 : decode cX11_boundOf 36 = .ok (.aload_n 0, 1) := by decide +kernel
theorem dX11_boundOf_37 : decode cX11_boundOf 37 = .ok (.getfield 28, 3) := by decide +kernel
theorem dX11_boundOf_40 : decode cX11_boundOf 40 = .ok (.iload 5, 2) := by decide +kernel
theorem dX11_boundOf_42 : decode cX11_boundOf 42 = .ok (.iaload, 1) := by decide +kernel
theorem dX11_boundOf_43 : decode cX11_boundOf 43 = .ok (.invokestatic 193, 3) := by decide +kernel
theorem dX11_boundOf_46 : decode cX11_boundOf 46 = .ok (.istore_n 2, 1) := by decide +kernel
theorem dX11_boundOf_47 : decode cX11_boundOf 47 = .ok (.iload_n 3, 1) := by decide +kernel
theorem dX11_boundOf_48 : decode cX11_boundOf 48 = .ok (.aload_n 0, 1) := by decide +kernel
theorem dX11_boundOf_49 : decode cX11_boundOf 49 = .ok (.getfield 31, 3) := by decide +kernel
theorem dX11_boundOf_52 : decode cX11_boundOf 52 = .ok (.iload 5, 2) := by decide +kernel
theorem dX11_boundOf_54 : decode cX11_boundOf 54 = .ok (.iaload, 1) := by decide +kernel
theorem dX11_boundOf_55 : decode cX11_boundOf 55 = .ok (.iadd, 1) := by decide +kernel
theorem dX11_boundOf_56 : decode cX11_boundOf 56 = .ok (.istore_n 3, 1) := by decide +kernel
theorem dX11_boundOf_57 : decode cX11_boundOf 57 = .ok (.iload 4, 2) := by decide +kernel
theorem dX11_boundOf_59 : decode cX11_boundOf 59 = .ok (.aload_n 0, 1) := by decide +kernel
theorem dX11_boundOf_60 : decode cX11_boundOf 60 = .ok (.getfield 34, 3) := by decide +kernel
theorem dX11_boundOf_63 : decode cX11_boundOf 63 = .ok (.iload 5, 2) := by decide +kernel
theorem dX11_boundOf_65 : decode cX11_boundOf 65 = .ok (.iaload, 1) := by decide +kernel
theorem dX11_boundOf_66 : decode cX11_boundOf 66 = .ok (.invokestatic 193, 3) := by decide +kernel
theorem dX11_boundOf_69 : decode cX11_boundOf 69 = .ok (.istore 4, 2) := by decide +kernel
theorem dX11_boundOf_71 : decode cX11_boundOf 71 = .ok (.iinc 5 1, 3) := by decide +kernel
theorem dX11_boundOf_74 : decode cX11_boundOf 74 = .ok (.goto (-60), 3) := by decide +kernel
theorem dX11_boundOf_77 : decode cX11_boundOf 77 = .ok (.iload_n 2, 1) := by decide +kernel
theorem dX11_boundOf_78 : decode cX11_boundOf 78 = .ok (.iload_n 3, 1) := by decide +kernel
theorem dX11_boundOf_79 : decode cX11_boundOf 79 = .ok (.iadd, 1) := by decide +kernel
theorem dX11_boundOf_80 : decode cX11_boundOf 80 = .ok (.iload 4, 2) := by decide +kernel
theorem dX11_boundOf_82 : decode cX11_boundOf 82 = .ok (.iadd, 1) := by decide +kernel
theorem dX11_boundOf_83 : decode cX11_boundOf 83 = .ok (.ireturn, 1) := by decide +kernel
theorem dX11_bound_0 : decode cX11_bound 0 = .ok (.iload_n 1, 1) := by decide +kernel
theorem dX11_bound_1 : decode cX11_bound 1 = .ok (.iconst 1, 1) := by decide +kernel
theorem dX11_bound_2 : decode cX11_bound 2 = .ok (.iconst 1, 1) := by decide +kernel
theorem dX11_bound_3 : decode cX11_bound 3 = .ok (.aload_n 0, 1) := by decide +kernel
theorem dX11_bound_4 : decode cX11_bound 4 = .ok (.getfield 111, 3) := by decide +kernel
theorem dX11_bound_7 : decode cX11_bound 7 = .ok (.ishl, 1) := by decide +kernel
theorem dX11_bound_8 : decode cX11_bound 8 = .ok (.iconst 1, 1) := by decide +kernel
theorem dX11_bound_9 : decode cX11_bound 9 = .ok (.isub, 1) := by decide +kernel
theorem dX11_bound_10 : decode cX11_bound 10 = .ok (.invokestatic 114, 3) := by decide +kernel
theorem dX11_bound_13 : decode cX11_bound 13 = .ok (.ifCond .ne 6, 3) := by decide +kernel
theorem dX11_bound_16 : decode cX11_bound 16 = .ok (.bipush (-2), 2) := by decide +kernel
theorem dX11_bound_18 : decode cX11_bound 18 = .ok (.ireturn, 1) := by decide +kernel
theorem dX11_bound_19 : decode cX11_bound 19 = .ok (.aload_n 0, 1) := by decide +kernel
theorem dX11_bound_20 : decode cX11_bound 20 = .ok (.invokevirtual 205, 3) := by decide +kernel
theorem dX11_bound_23 : decode cX11_bound 23 = .ok (.aload_n 0, 1) := by decide +kernel
theorem dX11_bound_24 : decode cX11_bound 24 = .ok (.iload_n 1, 1) := by decide +kernel
theorem dX11_bound_25 : decode cX11_bound 25 = .ok (.invokevirtual 250, 3) := by decide +kernel
theorem dX11_bound_28 : decode cX11_bound 28 = .ok (.ireturn, 1) := by decide +kernel
theorem dX11_many_0 : decode cX11_many 0 = .ok (.iconst 0, 1) := by decide +kernel
theorem dX11_many_1 : decode cX11_many 1 = .ok (.istore_n 1, 1) := by decide +kernel
theorem dX11_many_2 : decode cX11_many 2 = .ok (.iload_n 0, 1) := by decide +kernel
theorem dX11_many_3 : decode cX11_many 3 = .ok (.istore_n 2, 1) := by decide +kernel
theorem dX11_many_4 : decode cX11_many 4 = .ok (.iload_n 2, 1) := by decide +kernel
theorem dX11_many_5 : decode cX11_many 5 = .ok (.ifCond .eq 15, 3) := by decide +kernel
theorem dX11_many_8 : decode cX11_many 8 = .ok (.iinc 1 1, 3) := by decide +kernel
theorem dX11_many_11 : decode cX11_many 11 = .ok (.iload_n 2, 1) := by decide +kernel
theorem dX11_many_12 : decode cX11_many 12 = .ok (.iload_n 2, 1) := by decide +kernel
theorem dX11_many_13 : decode cX11_many 13 = .ok (.iconst 1, 1) := by decide +kernel
theorem dX11_many_14 : decode cX11_many 14 = .ok (.isub, 1) := by decide +kernel
theorem dX11_many_15 : decode cX11_many 15 = .ok (.iand, 1) := by decide +kernel
theorem dX11_many_16 : decode cX11_many 16 = .ok (.istore_n 2, 1) := by decide +kernel
theorem dX11_many_17 : decode cX11_many 17 = .ok (.goto (-13), 3) := by decide +kernel
theorem dX11_many_20 : decode cX11_many 20 = .ok (.iload_n 1, 1) := by decide +kernel
theorem dX11_many_21 : decode cX11_many 21 = .ok (.ireturn, 1) := by decide +kernel
theorem dX11_strongest_0 : decode cX11_strongest 0 = .ok (.iload_n 1, 1) := by decide +kernel
theorem dX11_strongest_1 : decode cX11_strongest 1 = .ok (.iconst 0, 1) := by decide +kernel
theorem dX11_strongest_2 : decode cX11_strongest 2 = .ok (.iconst 1, 1) := by decide +kernel
theorem dX11_strongest_3 : decode cX11_strongest 3 = .ok (.invokestatic 114, 3) := by decide +kernel
theorem dX11_strongest_6 : decode cX11_strongest 6 = .ok (.ifCond .ne 6, 3) := by decide +kernel
theorem dX11_strongest_9 : decode cX11_strongest 9 = .ok (.bipush (-2), 2) := by decide +kernel
theorem dX11_strongest_11 : decode cX11_strongest 11 = .ok (.ireturn, 1) := by decide +kernel
theorem dX11_strongest_12 : decode cX11_strongest 12 = .ok (.aload_n 0, 1) := by decide +kernel
theorem dX11_strongest_13 : decode cX11_strongest 13 = .ok (.getfield 111, 3) := by decide +kernel
theorem dX11_strongest_16 : decode cX11_strongest 16 = .ok (.ifCond .ne 6, 3) := by decide +kernel
theorem dX11_strongest_19 : decode cX11_strongest 19 = .ok (.bipush (-3), 2) := by decide +kernel
theorem dX11_strongest_21 : decode cX11_strongest 21 = .ok (.ireturn, 1) := by decide +kernel
theorem dX11_strongest_22 : decode cX11_strongest 22 = .ok (.aload_n 0, 1) := by decide +kernel
theorem dX11_strongest_23 : decode cX11_strongest 23 = .ok (.invokevirtual 205, 3) := by decide +kernel
theorem dX11_strongest_26 : decode cX11_strongest 26 = .ok (.iconst 1, 1) := by decide +kernel
theorem dX11_strongest_27 : decode cX11_strongest 27 = .ok (.istore_n 2, 1) := by decide +kernel
theorem dX11_strongest_28 : decode cX11_strongest 28 = .ok (.aload_n 0, 1) := by decide +kernel
theorem dX11_strongest_29 : decode cX11_strongest 29 = .ok (.iconst 1, 1) := by decide +kernel
theorem dX11_strongest_30 : decode cX11_strongest 30 = .ok (.invokevirtual 250, 3) := by decide +kernel
theorem dX11_strongest_33 : decode cX11_strongest 33 = .ok (.istore_n 3, 1) := by decide +kernel
theorem dX11_strongest_34 : decode cX11_strongest 34 = .ok (.iconst 2, 1) := by decide +kernel
theorem dX11_strongest_35 : decode cX11_strongest 35 = .ok (.istore 4, 2) := by decide +kernel
theorem dX11_strongest_37 : decode cX11_strongest 37 = .ok (.iload 4, 2) := by decide +kernel
theorem dX11_strongest_39 : decode cX11_strongest 39 = .ok (.iconst 1, 1) := by decide +kernel
theorem dX11_strongest_40 : decode cX11_strongest 40 = .ok (.aload_n 0, 1) := by decide +kernel
theorem dX11_strongest_41 : decode cX11_strongest 41 = .ok (.getfield 111, 3) := by decide +kernel
theorem dX11_strongest_44 : decode cX11_strongest 44 = .ok (.ishl, 1) := by decide +kernel
theorem dX11_strongest_45 : decode cX11_strongest 45 = .ok (.if_icmp .ge 47, 3) := by decide +kernel
theorem dX11_strongest_48 : decode cX11_strongest 48 = .ok (.aload_n 0, 1) := by decide +kernel
theorem dX11_strongest_49 : decode cX11_strongest 49 = .ok (.iload 4, 2) := by decide +kernel
theorem dX11_strongest_51 : decode cX11_strongest 51 = .ok (.invokevirtual 250, 3) := by decide +kernel
theorem dX11_strongest_54 : decode cX11_strongest 54 = .ok (.istore 5, 2) := by decide +kernel
theorem dX11_strongest_56 : decode cX11_strongest 56 = .ok (.iload 5, 2) := by decide +kernel
theorem dX11_strongest_58 : decode cX11_strongest 58 = .ok (.iload_n 3, 1) := by decide +kernel
theorem dX11_strongest_59 : decode cX11_strongest 59 = .ok (.if_icmp .gt 21, 3) := by decide +kernel
theorem dX11_strongest_62 : decode cX11_strongest 62 = .ok (.iload 5, 2) := by decide +kernel
theorem dX11_strongest_64 : decode cX11_strongest 64 = .ok (.iload_n 3, 1) := by decide +kernel
theorem dX11_strongest_65 : decode cX11_strongest 65 = .ok (.if_icmp .ne 21, 3) := by decide +kernel
theorem dX11_strongest_68 : decode cX11_strongest 68 = .ok (.iload 4, 2) := by decide +kernel
theorem dX11_strongest_70 : decode cX11_strongest 70 = .ok (.invokestatic 253, 3) := by decide +kernel
theorem dX11_strongest_73 : decode cX11_strongest 73 = .ok (.iload_n 2, 1) := by decide +kernel
theorem dX11_strongest_74 : decode cX11_strongest 74 = .ok (.invokestatic 253, 3) := by decide +kernel
theorem dX11_strongest_77 : decode cX11_strongest 77 = .ok (.if_icmp .ge 9, 3) := by decide +kernel
theorem dX11_strongest_80 : decode cX11_strongest 80 = .ok (.iload 4, 2) := by decide +kernel
theorem dX11_strongest_82 : decode cX11_strongest 82 = .ok (.istore_n 2, 1) := by decide +kernel
theorem dX11_strongest_83 : decode cX11_strongest 83 = .ok (.iload 5, 2) := by decide +kernel
theorem dX11_strongest_85 : decode cX11_strongest 85 = .ok (.istore_n 3, 1) := by decide +kernel
theorem dX11_strongest_86 : decode cX11_strongest 86 = .ok (.iinc 4 1, 3) := by decide +kernel
theorem dX11_strongest_89 : decode cX11_strongest 89 = .ok (.goto (-52), 3) := by decide +kernel
theorem dX11_strongest_92 : decode cX11_strongest 92 = .ok (.iload_n 1, 1) := by decide +kernel
theorem dX11_strongest_93 : decode cX11_strongest 93 = .ok (.ifCond .ne 7, 3) := by decide +kernel
theorem dX11_strongest_96 : decode cX11_strongest 96 = .ok (.iload_n 2, 1) := by decide +kernel
theorem dX11_strongest_97 : decode cX11_strongest 97 = .ok (.goto 4, 3) := by decide +kernel
theorem dX11_strongest_100 : decode cX11_strongest 100 = .ok (.iload_n 3, 1) := by decide +kernel
theorem dX11_strongest_101 : decode cX11_strongest 101 = .ok (.ireturn, 1) := by decide +kernel
theorem dX11_visits_0 : decode cX11_visits 0 = .ok (.aload_n 0, 1) := by decide +kernel
theorem dX11_visits_1 : decode cX11_visits 1 = .ok (.dup, 1) := by decide +kernel
theorem dX11_visits_2 : decode cX11_visits 2 = .ok (.getfield 256, 3) := by decide +kernel
theorem dX11_visits_5 : decode cX11_visits 5 = .ok (.iconst 1, 1) := by decide +kernel
theorem dX11_visits_6 : decode cX11_visits 6 = .ok (.iadd, 1) := by decide +kernel
theorem dX11_visits_7 : decode cX11_visits 7 = .ok (.putfield 256, 3) := by decide +kernel
theorem dX11_visits_10 : decode cX11_visits 10 = .ok (.aload_n 0, 1) := by decide +kernel
theorem dX11_visits_11 : decode cX11_visits 11 = .ok (.invokevirtual 208, 3) := by decide +kernel
theorem dX11_visits_14 : decode cX11_visits 14 = .ok (.istore_n 1, 1) := by decide +kernel
theorem dX11_visits_15 : decode cX11_visits 15 = .ok (.aload_n 0, 1) := by decide +kernel
theorem dX11_visits_16 : decode cX11_visits 16 = .ok (.getfield 259, 3) := by decide +kernel
theorem dX11_visits_19 : decode cX11_visits 19 = .ok (.ifCond .lt 11, 3) := by decide +kernel
theorem dX11_visits_22 : decode cX11_visits 22 = .ok (.iload_n 1, 1) := by decide +kernel
theorem dX11_visits_23 : decode cX11_visits 23 = .ok (.aload_n 0, 1) := by decide +kernel
theorem dX11_visits_24 : decode cX11_visits 24 = .ok (.getfield 259, 3) := by decide +kernel
theorem dX11_visits_27 : decode cX11_visits 27 = .ok (.if_icmp .ge 16, 3) := by decide +kernel
theorem dX11_visits_30 : decode cX11_visits 30 = .ok (.aload_n 0, 1) := by decide +kernel
theorem dX11_visits_31 : decode cX11_visits 31 = .ok (.iload_n 1, 1) := by decide +kernel
theorem dX11_visits_32 : decode cX11_visits 32 = .ok (.putfield 259, 3) := by decide +kernel
theorem dX11_visits_35 : decode cX11_visits 35 = .ok (.aload_n 0, 1) := by decide +kernel
theorem dX11_visits_36 : decode cX11_visits 36 = .ok (.aload_n 0, 1) := by decide +kernel
theorem dX11_visits_37 : decode cX11_visits 37 = .ok (.getfield 256, 3) := by decide +kernel
theorem dX11_visits_40 : decode cX11_visits 40 = .ok (.putfield 262, 3) := by decide +kernel
theorem dX11_visits_43 : decode cX11_visits 43 = .ok (.aload_n 0, 1) := by decide +kernel
theorem dX11_visits_44 : decode cX11_visits 44 = .ok (.iconst (-1), 1) := by decide +kernel
theorem dX11_visits_45 : decode cX11_visits 45 = .ok (.putfield 232, 3) := by decide +kernel
theorem dX11_visits_48 : decode cX11_visits 48 = .ok (.aload_n 0, 1) := by decide +kernel
theorem dX11_visits_49 : decode cX11_visits 49 = .ok (.getfield 111, 3) := by decide +kernel
theorem dX11_visits_52 : decode cX11_visits 52 = .ok (.ifCond .le 8, 3) := by decide +kernel
theorem dX11_visits_55 : decode cX11_visits 55 = .ok (.aload_n 0, 1) := by decide +kernel
theorem dX11_visits_56 : decode cX11_visits 56 = .ok (.iload_n 1, 1) := by decide +kernel
theorem dX11_visits_57 : decode cX11_visits 57 = .ok (.invokevirtual 238, 3) := by decide +kernel
theorem dX11_visits_60 : decode cX11_visits 60 = .ok (.aload_n 0, 1) := by decide +kernel
theorem dX11_visits_61 : decode cX11_visits 61 = .ok (.getfield 49, 3) := by decide +kernel
theorem dX11_visits_64 : decode cX11_visits 64 = .ok (.aload_n 0, 1) := by decide +kernel
theorem dX11_visits_65 : decode cX11_visits 65 = .ok (.getfield 265, 3) := by decide +kernel
theorem dX11_visits_68 : decode cX11_visits 68 = .ok (.aload_n 0, 1) := by decide +kernel
theorem dX11_visits_69 : decode cX11_visits 69 = .ok (.getfield 232, 3) := by decide +kernel
theorem dX11_visits_72 : decode cX11_visits 72 = .ok (.iastore, 1) := by decide +kernel
theorem dX11_visits_73 : decode cX11_visits 73 = .ok (.aload_n 0, 1) := by decide +kernel
theorem dX11_visits_74 : decode cX11_visits 74 = .ok (.getfield 52, 3) := by decide +kernel
theorem dX11_visits_77 : decode cX11_visits 77 = .ok (.aload_n 0, 1) := by decide +kernel
theorem dX11_visits_78 : decode cX11_visits 78 = .ok (.getfield 265, 3) := by decide +kernel
theorem dX11_visits_81 : decode cX11_visits 81 = .ok (.iconst 0, 1) := by decide +kernel
theorem dX11_visits_82 : decode cX11_visits 82 = .ok (.iastore, 1) := by decide +kernel
theorem dX11_visits_83 : decode cX11_visits 83 = .ok (.aload_n 0, 1) := by decide +kernel
theorem dX11_visits_84 : decode cX11_visits 84 = .ok (.getfield 232, 3) := by decide +kernel
theorem dX11_visits_87 : decode cX11_visits 87 = .ok (.ifCond .lt 67, 3) := by decide +kernel
theorem dX11_visits_90 : decode cX11_visits 90 = .ok (.aload_n 0, 1) := by decide +kernel
theorem dX11_visits_91 : decode cX11_visits 91 = .ok (.getfield 55, 3) := by decide +kernel
theorem dX11_visits_94 : decode cX11_visits 94 = .ok (.aload_n 0, 1) := by decide +kernel
theorem dX11_visits_95 : decode cX11_visits 95 = .ok (.getfield 265, 3) := by decide +kernel
theorem dX11_visits_98 : decode cX11_visits 98 = .ok (.aload_n 0, 1) := by decide +kernel
theorem dX11_visits_99 : decode cX11_visits 99 = .ok (.getfield 34, 3) := by decide +kernel
theorem dX11_visits_102 : decode cX11_visits 102 = .ok (.aload_n 0, 1) := by decide +kernel
theorem dX11_visits_103 : decode cX11_visits 103 = .ok (.getfield 232, 3) := by decide +kernel
theorem dX11_visits_106 : decode cX11_visits 106 = .ok (.iaload, 1) := by decide +kernel
theorem dX11_visits_107 : decode cX11_visits 107 = .ok (.iastore, 1) := by decide +kernel
theorem dX11_visits_108 : decode cX11_visits 108 = .ok (.aload_n 0, 1) := by decide +kernel
theorem dX11_visits_109 : decode cX11_visits 109 = .ok (.getfield 58, 3) := by decide +kernel
theorem dX11_visits_112 : decode cX11_visits 112 = .ok (.aload_n 0, 1) := by decide +kernel
theorem dX11_visits_113 : decode cX11_visits 113 = .ok (.getfield 265, 3) := by decide +kernel
theorem dX11_visits_116 : decode cX11_visits 116 = .ok (.aload_n 0, 1) := by decide +kernel
theorem dX11_visits_117 : decode cX11_visits 117 = .ok (.getfield 28, 3) := by decide +kernel
theorem dX11_visits_120 : decode cX11_visits 120 = .ok (.aload_n 0, 1) := by decide +kernel
theorem dX11_visits_121 : decode cX11_visits 121 = .ok (.getfield 232, 3) := by decide +kernel
theorem dX11_visits_124 : decode cX11_visits 124 = .ok (.iaload, 1) := by decide +kernel
theorem dX11_visits_125 : decode cX11_visits 125 = .ok (.iastore, 1) := by decide +kernel
theorem dX11_visits_126 : decode cX11_visits 126 = .ok (.aload_n 0, 1) := by decide +kernel
theorem dX11_visits_127 : decode cX11_visits 127 = .ok (.getfield 61, 3) := by decide +kernel
theorem dX11_visits_130 : decode cX11_visits 130 = .ok (.aload_n 0, 1) := by decide +kernel
theorem dX11_visits_131 : decode cX11_visits 131 = .ok (.getfield 265, 3) := by decide +kernel
theorem dX11_visits_134 : decode cX11_visits 134 = .ok (.aload_n 0, 1) := by decide +kernel
theorem dX11_visits_135 : decode cX11_visits 135 = .ok (.iconst 0, 1) := by decide +kernel
theorem dX11_visits_136 : decode cX11_visits 136 = .ok (.invokevirtual 247, 3) := by decide +kernel
theorem dX11_visits_139 : decode cX11_visits 139 = .ok (.iastore, 1) := by decide +kernel
theorem dX11_visits_140 : decode cX11_visits 140 = .ok (.aload_n 0, 1) := by decide +kernel
theorem dX11_visits_141 : decode cX11_visits 141 = .ok (.getfield 64, 3) := by decide +kernel
theorem dX11_visits_144 : decode cX11_visits 144 = .ok (.aload_n 0, 1) := by decide +kernel
theorem dX11_visits_145 : decode cX11_visits 145 = .ok (.getfield 265, 3) := by decide +kernel
theorem dX11_visits_148 : decode cX11_visits 148 = .ok (.aload_n 0, 1) := by decide +kernel
theorem dX11_visits_149 : decode cX11_visits 149 = .ok (.iconst 1, 1) := by decide +kernel
theorem dX11_visits_150 : decode cX11_visits 150 = .ok (.invokevirtual 247, 3) := by decide +kernel
theorem dX11_visits_153 : decode cX11_visits 153 = .ok (.iastore, 1) := by decide +kernel
theorem dX11_visits_154 : decode cX11_visits 154 = .ok (.return_, 1) := by decide +kernel
theorem dX11_follows_0 : decode cX11_follows 0 = .ok (.aload_n 0, 1) := by decide +kernel
theorem dX11_follows_1 : decode cX11_follows 1 = .ok (.invokevirtual 220, 3) := by decide +kernel
theorem dX11_follows_4 : decode cX11_follows 4 = .ok (.aload_n 0, 1) := by decide +kernel
theorem dX11_follows_5 : decode cX11_follows 5 = .ok (.getfield 259, 3) := by decide +kernel
theorem dX11_follows_8 : decode cX11_follows 8 = .ok (.if_icmp .ge 17, 3) := by decide +kernel
theorem dX11_follows_11 : decode cX11_follows 11 = .ok (.aload_n 0, 1) := by decide +kernel
theorem dX11_follows_12 : decode cX11_follows 12 = .ok (.dup, 1) := by decide +kernel
theorem dX11_follows_13 : decode cX11_follows 13 = .ok (.getfield 265, 3) := by decide +kernel
theorem dX11_follows_16 : decode cX11_follows 16 = .ok (.iconst 1, 1) := by decide +kernel
theorem dX11_follows_17 : decode cX11_follows 17 = .ok (.iadd, 1) := by decide +kernel
theorem dX11_follows_18 : decode cX11_follows 18 = .ok (.putfield 265, 3) := by decide +kernel
theorem dX11_follows_21 : decode cX11_follows 21 = .ok (.aload_n 0, 1) := by decide +kernel
theorem dX11_follows_22 : decode cX11_follows 22 = .ok (.invokevirtual 268, 3) := by decide +kernel
theorem dX11_follows_25 : decode cX11_follows 25 = .ok (.return_, 1) := by decide +kernel
theorem dX11_search_0 : decode cX11_search 0 = .ok (.aload_n 0, 1) := by decide +kernel
theorem dX11_search_1 : decode cX11_search 1 = .ok (.invokevirtual 205, 3) := by decide +kernel
theorem dX11_search_4 : decode cX11_search 4 = .ok (.aload_n 0, 1) := by decide +kernel
theorem dX11_search_5 : decode cX11_search 5 = .ok (.iconst (-1), 1) := by decide +kernel
theorem dX11_search_6 : decode cX11_search 6 = .ok (.putfield 259, 3) := by decide +kernel
theorem dX11_search_9 : decode cX11_search 9 = .ok (.aload_n 0, 1) := by decide +kernel
theorem dX11_search_10 : decode cX11_search 10 = .ok (.iconst 0, 1) := by decide +kernel
theorem dX11_search_11 : decode cX11_search 11 = .ok (.putfield 256, 3) := by decide +kernel
theorem dX11_search_14 : decode cX11_search 14 = .ok (.aload_n 0, 1) := by decide +kernel
theorem dX11_search_15 : decode cX11_search 15 = .ok (.iconst 0, 1) := by decide +kernel
theorem dX11_search_16 : decode cX11_search 16 = .ok (.putfield 265, 3) := by decide +kernel
theorem dX11_search_19 : decode cX11_search 19 = .ok (.aload_n 0, 1) := by decide +kernel
theorem dX11_search_20 : decode cX11_search 20 = .ok (.invokevirtual 268, 3) := by decide +kernel
theorem dX11_search_23 : decode cX11_search 23 = .ok (.aload_n 0, 1) := by decide +kernel
theorem dX11_search_24 : decode cX11_search 24 = .ok (.getfield 265, 3) := by decide +kernel
theorem dX11_search_27 : decode cX11_search 27 = .ok (.ifCond .lt 140, 3) := by decide +kernel
theorem dX11_search_30 : decode cX11_search 30 = .ok (.aload_n 0, 1) := by decide +kernel
theorem dX11_search_31 : decode cX11_search 31 = .ok (.getfield 265, 3) := by decide +kernel
theorem dX11_search_34 : decode cX11_search 34 = .ok (.istore_n 1, 1) := by decide +kernel
theorem dX11_search_35 : decode cX11_search 35 = .ok (.aload_n 0, 1) := by decide +kernel
theorem dX11_search_36 : decode cX11_search 36 = .ok (.getfield 49, 3) := by decide +kernel
theorem dX11_search_39 : decode cX11_search 39 = .ok (.iload_n 1, 1) := by decide +kernel
theorem dX11_search_40 : decode cX11_search 40 = .ok (.iaload, 1) := by decide +kernel
theorem dX11_search_41 : decode cX11_search 41 = .ok (.istore_n 2, 1) := by decide +kernel
theorem dX11_search_42 : decode cX11_search 42 = .ok (.iload_n 2, 1) := by decide +kernel
theorem dX11_search_43 : decode cX11_search 43 = .ok (.ifCond .ge 16, 3) := by decide +kernel
theorem dX11_search_46 : decode cX11_search 46 = .ok (.aload_n 0, 1) := by decide +kernel
theorem dX11_search_47 : decode cX11_search 47 = .ok (.dup, 1) := by decide +kernel
theorem dX11_search_48 : decode cX11_search 48 = .ok (.getfield 265, 3) := by decide +kernel
theorem dX11_search_51 : decode cX11_search 51 = .ok (.iconst 1, 1) := by decide +kernel
theorem dX11_search_52 : decode cX11_search 52 = .ok (.isub, 1) := by decide +kernel
theorem dX11_search_53 : decode cX11_search 53 = .ok (.putfield 265, 3) := by decide +kernel
theorem dX11_search_56 : decode cX11_search 56 = .ok (.goto 108, 3) := by decide +kernel
theorem dX11_search_59 : decode cX11_search 59 = .ok (.aload_n 0, 1) := by decide +kernel
theorem dX11_search_60 : decode cX11_search 60 = .ok (.getfield 52, 3) := by decide +kernel
theorem dX11_search_63 : decode cX11_search 63 = .ok (.iload_n 1, 1) := by decide +kernel
theorem dX11_search_64 : decode cX11_search 64 = .ok (.iaload, 1) := by decide +kernel
theorem dX11_search_65 : decode cX11_search 65 = .ok (.ifCond .ne 29, 3) := by decide +kernel
theorem dX11_search_68 : decode cX11_search 68 = .ok (.aload_n 0, 1) := by decide +kernel
theorem dX11_search_69 : decode cX11_search 69 = .ok (.getfield 52, 3) := by decide +kernel
theorem dX11_search_72 : decode cX11_search 72 = .ok (.iload_n 1, 1) := by decide +kernel
theorem dX11_search_73 : decode cX11_search 73 = .ok (.iconst 1, 1) := by decide +kernel
theorem dX11_search_74 : decode cX11_search 74 = .ok (.iastore, 1) := by decide +kernel
theorem dX11_search_75 : decode cX11_search 75 = .ok (.aload_n 0, 1) := by decide +kernel
theorem dX11_search_76 : decode cX11_search 76 = .ok (.getfield 34, 3) := by decide +kernel
theorem dX11_search_79 : decode cX11_search 79 = .ok (.iload_n 2, 1) := by decide +kernel
theorem dX11_search_80 : decode cX11_search 80 = .ok (.aload_n 0, 1) := by decide +kernel
theorem dX11_search_81 : decode cX11_search 81 = .ok (.getfield 61, 3) := by decide +kernel
theorem dX11_search_84 : decode cX11_search 84 = .ok (.iload_n 1, 1) := by decide +kernel
theorem dX11_search_85 : decode cX11_search 85 = .ok (.iaload, 1) := by decide +kernel
theorem dX11_search_86 : decode cX11_search 86 = .ok (.iastore, 1) := by decide +kernel
theorem dX11_search_87 : decode cX11_search 87 = .ok (.aload_n 0, 1) := by decide +kernel
theorem dX11_search_88 : decode cX11_search 88 = .ok (.invokevirtual 271, 3) := by decide +kernel
theorem dX11_search_91 : decode cX11_search 91 = .ok (.goto 73, 3) := by decide +kernel
theorem dX11_search_94 : decode cX11_search 94 = .ok (.aload_n 0, 1) := by decide +kernel
theorem dX11_search_95 : decode cX11_search 95 = .ok (.getfield 52, 3) := by decide +kernel
theorem dX11_search_98 : decode cX11_search 98 = .ok (.iload_n 1, 1) := by decide +kernel
theorem dX11_search_99 : decode cX11_search 99 = .ok (.iaload, 1) := by decide +kernel
theorem dX11_search_100 : decode cX11_search 100 = .ok (.iconst 1, 1) := by decide +kernel
theorem dX11_search_101 : decode cX11_search 101 = .ok (.if_icmp .ne 41, 3) := by decide +kernel
theorem dX11_search_104 : decode cX11_search 104 = .ok (.aload_n 0, 1) := by decide +kernel
theorem dX11_search_105 : decode cX11_search 105 = .ok (.getfield 52, 3) := by decide +kernel
theorem dX11_search_108 : decode cX11_search 108 = .ok (.iload_n 1, 1) := by decide +kernel
theorem dX11_search_109 : decode cX11_search 109 = .ok (.iconst 2, 1) := by decide +kernel
theorem dX11_search_110 : decode cX11_search 110 = .ok (.iastore, 1) := by decide +kernel
theorem dX11_search_111 : decode cX11_search 111 = .ok (.aload_n 0, 1) := by decide +kernel
theorem dX11_search_112 : decode cX11_search 112 = .ok (.getfield 34, 3) := by decide +kernel
theorem dX11_search_115 : decode cX11_search 115 = .ok (.iload_n 2, 1) := by decide +kernel
theorem dX11_search_116 : decode cX11_search 116 = .ok (.aload_n 0, 1) := by decide +kernel
theorem dX11_search_117 : decode cX11_search 117 = .ok (.getfield 55, 3) := by decide +kernel
theorem dX11_search_120 : decode cX11_search 120 = .ok (.iload_n 1, 1) := by decide +kernel
theorem dX11_search_121 : decode cX11_search 121 = .ok (.iaload, 1) := by decide +kernel
theorem dX11_search_122 : decode cX11_search 122 = .ok (.iastore, 1) := by decide +kernel
theorem dX11_search_123 : decode cX11_search 123 = .ok (.aload_n 0, 1) := by decide +kernel
theorem dX11_search_124 : decode cX11_search 124 = .ok (.getfield 28, 3) := by decide +kernel
theorem dX11_search_127 : decode cX11_search 127 = .ok (.iload_n 2, 1) := by decide +kernel
theorem dX11_search_128 : decode cX11_search 128 = .ok (.aload_n 0, 1) := by decide +kernel
theorem dX11_search_129 : decode cX11_search 129 = .ok (.getfield 64, 3) := by decide +kernel
theorem dX11_search_132 : decode cX11_search 132 = .ok (.iload_n 1, 1) := by decide +kernel
theorem dX11_search_133 : decode cX11_search 133 = .ok (.iaload, 1) := by decide +kernel
theorem dX11_search_134 : decode cX11_search 134 = .ok (.iastore, 1) := by decide +kernel
theorem dX11_search_135 : decode cX11_search 135 = .ok (.aload_n 0, 1) := by decide +kernel
theorem dX11_search_136 : decode cX11_search 136 = .ok (.invokevirtual 271, 3) := by decide +kernel
theorem dX11_search_139 : decode cX11_search 139 = .ok (.goto 25, 3) := by decide +kernel
theorem dX11_search_142 : decode cX11_search 142 = .ok (.aload_n 0, 1) := by decide +kernel
theorem dX11_search_143 : decode cX11_search 143 = .ok (.getfield 28, 3) := by decide +kernel
theorem dX11_search_146 : decode cX11_search 146 = .ok (.iload_n 2, 1) := by decide +kernel
theorem dX11_search_147 : decode cX11_search 147 = .ok (.aload_n 0, 1) := by decide +kernel
theorem dX11_search_148 : decode cX11_search 148 = .ok (.getfield 58, 3) := by decide +kernel
theorem dX11_search_151 : decode cX11_search 151 = .ok (.iload_n 1, 1) := by decide +kernel
theorem dX11_search_152 : decode cX11_search 152 = .ok (.iaload, 1) := by decide +kernel
theorem dX11_search_153 : decode cX11_search 153 = .ok (.iastore, 1) := by decide +kernel
theorem dX11_search_154 : decode cX11_search 154 = .ok (.aload_n 0, 1) := by decide +kernel
theorem dX11_search_155 : decode cX11_search 155 = .ok (.dup, 1) := by decide +kernel
theorem dX11_search_156 : decode cX11_search 156 = .ok (.getfield 265, 3) := by decide +kernel
theorem dX11_search_159 : decode cX11_search 159 = .ok (.iconst 1, 1) := by decide +kernel
theorem dX11_search_160 : decode cX11_search 160 = .ok (.isub, 1) := by decide +kernel
theorem dX11_search_161 : decode cX11_search 161 = .ok (.putfield 265, 3) := by decide +kernel
theorem dX11_search_164 : decode cX11_search 164 = .ok (.goto (-141), 3) := by decide +kernel
theorem dX11_search_167 : decode cX11_search 167 = .ok (.return_, 1) := by decide +kernel
theorem dX11_least_0 : decode cX11_least 0 = .ok (.iload_n 1, 1) := by decide +kernel
theorem dX11_least_1 : decode cX11_least 1 = .ok (.iconst 0, 1) := by decide +kernel
theorem dX11_least_2 : decode cX11_least 2 = .ok (.iconst 2, 1) := by decide +kernel
theorem dX11_least_3 : decode cX11_least 3 = .ok (.invokestatic 114, 3) := by decide +kernel
theorem dX11_least_6 : decode cX11_least 6 = .ok (.ifCond .ne 6, 3) := by decide +kernel
theorem dX11_least_9 : decode cX11_least 9 = .ok (.bipush (-2), 2) := by decide +kernel
theorem dX11_least_11 : decode cX11_least 11 = .ok (.ireturn, 1) := by decide +kernel
theorem dX11_least_12 : decode cX11_least 12 = .ok (.aload_n 0, 1) := by decide +kernel
theorem dX11_least_13 : decode cX11_least 13 = .ok (.invokevirtual 274, 3) := by decide +kernel
theorem dX11_least_16 : decode cX11_least 16 = .ok (.iload_n 1, 1) := by decide +kernel
theorem dX11_least_17 : decode cX11_least 17 = .ok (.ifCond .ne 10, 3) := by decide +kernel
theorem dX11_least_20 : decode cX11_least 20 = .ok (.aload_n 0, 1) := by decide +kernel
theorem dX11_least_21 : decode cX11_least 21 = .ok (.getfield 259, 3) := by decide +kernel
theorem dX11_least_24 : decode cX11_least 24 = .ok (.goto 19, 3) := by decide +kernel
theorem dX11_least_27 : decode cX11_least 27 = .ok (.iload_n 1, 1) := by decide +kernel
theorem dX11_least_28 : decode cX11_least 28 = .ok (.iconst 1, 1) := by decide +kernel
theorem dX11_least_29 : decode cX11_least 29 = .ok (.if_icmp .ne 10, 3) := by decide +kernel
theorem dX11_least_32 : decode cX11_least 32 = .ok (.aload_n 0, 1) := by decide +kernel
theorem dX11_least_33 : decode cX11_least 33 = .ok (.getfield 256, 3) := by decide +kernel
theorem dX11_least_36 : decode cX11_least 36 = .ok (.goto 7, 3) := by decide +kernel
theorem dX11_least_39 : decode cX11_least 39 = .ok (.aload_n 0, 1) := by decide +kernel
theorem dX11_least_40 : decode cX11_least 40 = .ok (.getfield 262, 3) := by decide +kernel
theorem dX11_least_43 : decode cX11_least 43 = .ok (.ireturn, 1) := by decide +kernel
theorem dX11_lates_0 : decode cX11_lates 0 = .ok (.aload_n 0, 1) := by decide +kernel
theorem dX11_lates_1 : decode cX11_lates 1 = .ok (.getfield 67, 3) := by decide +kernel
theorem dX11_lates_4 : decode cX11_lates 4 = .ok (.iconst 0, 1) := by decide +kernel
theorem dX11_lates_5 : decode cX11_lates 5 = .ok (.sipush 999, 3) := by decide +kernel
theorem dX11_lates_8 : decode cX11_lates 8 = .ok (.iastore, 1) := by decide +kernel
theorem dX11_lates_9 : decode cX11_lates 9 = .ok (.iconst 1, 1) := by decide +kernel
theorem dX11_lates_10 : decode cX11_lates 10 = .ok (.istore_n 2, 1) := by decide +kernel
theorem dX11_lates_11 : decode cX11_lates 11 = .ok (.iload_n 2, 1) := by decide +kernel
theorem dX11_lates_12 : decode cX11_lates 12 = .ok (.iconst 1, 1) := by decide +kernel
theorem dX11_lates_13 : decode cX11_lates 13 = .ok (.aload_n 0, 1) := by decide +kernel
theorem dX11_lates_14 : decode cX11_lates 14 = .ok (.getfield 111, 3) := by decide +kernel
theorem dX11_lates_17 : decode cX11_lates 17 = .ok (.ishl, 1) := by decide +kernel
theorem dX11_lates_18 : decode cX11_lates 18 = .ok (.if_icmp .ge 104, 3) := by decide +kernel
theorem dX11_lates_21 : decode cX11_lates 21 = .ok (.iconst (-1), 1) := by decide +kernel
theorem dX11_lates_22 : decode cX11_lates 22 = .ok (.istore_n 3, 1) := by decide +kernel
theorem dX11_lates_23 : decode cX11_lates 23 = .ok (.iconst 0, 1) := by decide +kernel
theorem dX11_lates_24 : decode cX11_lates 24 = .ok (.istore 4, 2) := by decide +kernel
theorem dX11_lates_26 : decode cX11_lates 26 = .ok (.iload 4, 2) := by decide +kernel
theorem dX11_lates_28 : decode cX11_lates 28 = .ok (.aload_n 0, 1) := by decide +kernel
theorem dX11_lates_29 : decode cX11_lates 29 = .ok (.getfield 111, 3) := by decide +kernel
theorem dX11_lates_32 : decode cX11_lates 32 = .ok (.if_icmp .ge 77, 3) := by decide +kernel
theorem dX11_lates_35 : decode cX11_lates 35 = .ok (.iload_n 2, 1) := by decide +kernel
theorem dX11_lates_36 : decode cX11_lates 36 = .ok (.iload 4, 2) := by decide +kernel
theorem dX11_lates_38 : decode cX11_lates 38 = .ok (.ishr, 1) := by decide +kernel
theorem dX11_lates_39 : decode cX11_lates 39 = .ok (.iconst 1, 1) := by decide +kernel
theorem dX11_lates_40 : decode cX11_lates 40 = .ok (.iand, 1) := by decide +kernel
theorem dX11_lates_41 : decode cX11_lates 41 = .ok (.ifCond .ne 6, 3) := by decide +kernel
theorem dX11_lates_44 : decode cX11_lates 44 = .ok (.goto 59, 3) := by decide +kernel
theorem dX11_lates_47 : decode cX11_lates 47 = .ok (.iload_n 1, 1) := by decide +kernel
theorem dX11_lates_48 : decode cX11_lates 48 = .ok (.aload_n 0, 1) := by decide +kernel
theorem dX11_lates_49 : decode cX11_lates 49 = .ok (.getfield 34, 3) := by decide +kernel
theorem dX11_lates_52 : decode cX11_lates 52 = .ok (.iload 4, 2) := by decide +kernel
theorem dX11_lates_54 : decode cX11_lates 54 = .ok (.iaload, 1) := by decide +kernel
theorem dX11_lates_55 : decode cX11_lates 55 = .ok (.isub, 1) := by decide +kernel
theorem dX11_lates_56 : decode cX11_lates 56 = .ok (.aload_n 0, 1) := by decide +kernel
theorem dX11_lates_57 : decode cX11_lates 57 = .ok (.getfield 67, 3) := by decide +kernel
theorem dX11_lates_60 : decode cX11_lates 60 = .ok (.iload_n 2, 1) := by decide +kernel
theorem dX11_lates_61 : decode cX11_lates 61 = .ok (.iconst 1, 1) := by decide +kernel
theorem dX11_lates_62 : decode cX11_lates 62 = .ok (.iload 4, 2) := by decide +kernel
theorem dX11_lates_64 : decode cX11_lates 64 = .ok (.ishl, 1) := by decide +kernel
theorem dX11_lates_65 : decode cX11_lates 65 = .ok (.ixor, 1) := by decide +kernel
theorem dX11_lates_66 : decode cX11_lates 66 = .ok (.iaload, 1) := by decide +kernel
theorem dX11_lates_67 : decode cX11_lates 67 = .ok (.invokestatic 193, 3) := by decide +kernel
theorem dX11_lates_70 : decode cX11_lates 70 = .ok (.aload_n 0, 1) := by decide +kernel
theorem dX11_lates_71 : decode cX11_lates 71 = .ok (.getfield 31, 3) := by decide +kernel
theorem dX11_lates_74 : decode cX11_lates 74 = .ok (.iload 4, 2) := by decide +kernel
theorem dX11_lates_76 : decode cX11_lates 76 = .ok (.iaload, 1) := by decide +kernel
theorem dX11_lates_77 : decode cX11_lates 77 = .ok (.isub, 1) := by decide +kernel
theorem dX11_lates_78 : decode cX11_lates 78 = .ok (.istore 5, 2) := by decide +kernel
theorem dX11_lates_80 : decode cX11_lates 80 = .ok (.iload 5, 2) := by decide +kernel
theorem dX11_lates_82 : decode cX11_lates 82 = .ok (.aload_n 0, 1) := by decide +kernel
theorem dX11_lates_83 : decode cX11_lates 83 = .ok (.getfield 28, 3) := by decide +kernel
theorem dX11_lates_86 : decode cX11_lates 86 = .ok (.iload 4, 2) := by decide +kernel
theorem dX11_lates_88 : decode cX11_lates 88 = .ok (.iaload, 1) := by decide +kernel
theorem dX11_lates_89 : decode cX11_lates 89 = .ok (.if_icmp .lt 12, 3) := by decide +kernel
theorem dX11_lates_92 : decode cX11_lates 92 = .ok (.iload_n 3, 1) := by decide +kernel
theorem dX11_lates_93 : decode cX11_lates 93 = .ok (.iload 5, 2) := by decide +kernel
theorem dX11_lates_95 : decode cX11_lates 95 = .ok (.invokestatic 126, 3) := by decide +kernel
theorem dX11_lates_98 : decode cX11_lates 98 = .ok (.goto 4, 3) := by decide +kernel
theorem dX11_lates_101 : decode cX11_lates 101 = .ok (.iload_n 3, 1) := by decide +kernel
theorem dX11_lates_102 : decode cX11_lates 102 = .ok (.istore_n 3, 1) := by decide +kernel
theorem dX11_lates_103 : decode cX11_lates 103 = .ok (.iinc 4 1, 3) := by decide +kernel
theorem dX11_lates_106 : decode cX11_lates 106 = .ok (.goto (-80), 3) := by decide +kernel
theorem dX11_lates_109 : decode cX11_lates 109 = .ok (.aload_n 0, 1) := by decide +kernel
theorem dX11_lates_110 : decode cX11_lates 110 = .ok (.getfield 67, 3) := by decide +kernel
theorem dX11_lates_113 : decode cX11_lates 113 = .ok (.iload_n 2, 1) := by decide +kernel
theorem dX11_lates_114 : decode cX11_lates 114 = .ok (.iload_n 3, 1) := by decide +kernel
theorem dX11_lates_115 : decode cX11_lates 115 = .ok (.iastore, 1) := by decide +kernel
theorem dX11_lates_116 : decode cX11_lates 116 = .ok (.iinc 2 1, 3) := by decide +kernel
theorem dX11_lates_119 : decode cX11_lates 119 = .ok (.goto (-108), 3) := by decide +kernel
theorem dX11_lates_122 : decode cX11_lates 122 = .ok (.return_, 1) := by decide +kernel
theorem dX11_fits_0 : decode cX11_fits 0 = .ok (.aload_n 0, 1) := by decide +kernel
theorem dX11_fits_1 : decode cX11_fits 1 = .ok (.iload_n 2, 1) := by decide +kernel
theorem dX11_fits_2 : decode cX11_fits 2 = .ok (.invokevirtual 277, 3) := by decide +kernel
theorem dX11_fits_5 : decode cX11_fits 5 = .ok (.aload_n 0, 1) := by decide +kernel
theorem dX11_fits_6 : decode cX11_fits 6 = .ok (.getfield 67, 3) := by decide +kernel
theorem dX11_fits_9 : decode cX11_fits 9 = .ok (.iload_n 1, 1) := by decide +kernel
theorem dX11_fits_10 : decode cX11_fits 10 = .ok (.iaload, 1) := by decide +kernel
theorem dX11_fits_11 : decode cX11_fits 11 = .ok (.ifCond .lt 7, 3) := by decide +kernel
theorem dX11_fits_14 : decode cX11_fits 14 = .ok (.iconst 1, 1) := by decide +kernel
theorem dX11_fits_15 : decode cX11_fits 15 = .ok (.goto 4, 3) := by decide +kernel
theorem dX11_fits_18 : decode cX11_fits 18 = .ok (.iconst 0, 1) := by decide +kernel
theorem dX11_fits_19 : decode cX11_fits 19 = .ok (.ireturn, 1) := by decide +kernel
theorem dX11_leastOf_0 : decode cX11_leastOf 0 = .ok (.iconst (-1), 1) := by decide +kernel
theorem dX11_leastOf_1 : decode cX11_leastOf 1 = .ok (.istore_n 3, 1) := by decide +kernel
theorem dX11_leastOf_2 : decode cX11_leastOf 2 = .ok (.iload_n 2, 1) := by decide +kernel
theorem dX11_leastOf_3 : decode cX11_leastOf 3 = .ok (.istore 4, 2) := by decide +kernel
theorem dX11_leastOf_5 : decode cX11_leastOf 5 = .ok (.iload_n 3, 1) := by decide +kernel
theorem dX11_leastOf_6 : decode cX11_leastOf 6 = .ok (.iconst 1, 1) := by decide +kernel
theorem dX11_leastOf_7 : decode cX11_leastOf 7 = .ok (.iadd, 1) := by decide +kernel
theorem dX11_leastOf_8 : decode cX11_leastOf 8 = .ok (.iload 4, 2) := by decide +kernel
theorem dX11_leastOf_10 : decode cX11_leastOf 10 = .ok (.if_icmp .ge 34, 3) := by decide +kernel
theorem dX11_leastOf_13 : decode cX11_leastOf 13 = .ok (.iload_n 3, 1) := by decide +kernel
theorem dX11_leastOf_14 : decode cX11_leastOf 14 = .ok (.iload 4, 2) := by decide +kernel
theorem dX11_leastOf_16 : decode cX11_leastOf 16 = .ok (.iadd, 1) := by decide +kernel
theorem dX11_leastOf_17 : decode cX11_leastOf 17 = .ok (.iconst 2, 1) := by decide +kernel
theorem dX11_leastOf_18 : decode cX11_leastOf 18 = .ok (.idiv, 1) := by decide +kernel
theorem dX11_leastOf_19 : decode cX11_leastOf 19 = .ok (.istore 5, 2) := by decide +kernel
theorem dX11_leastOf_21 : decode cX11_leastOf 21 = .ok (.aload_n 0, 1) := by decide +kernel
theorem dX11_leastOf_22 : decode cX11_leastOf 22 = .ok (.iload_n 1, 1) := by decide +kernel
theorem dX11_leastOf_23 : decode cX11_leastOf 23 = .ok (.iload 5, 2) := by decide +kernel
theorem dX11_leastOf_25 : decode cX11_leastOf 25 = .ok (.invokevirtual 280, 3) := by decide +kernel
theorem dX11_leastOf_28 : decode cX11_leastOf 28 = .ok (.ifCond .eq 10, 3) := by decide +kernel
theorem dX11_leastOf_31 : decode cX11_leastOf 31 = .ok (.iload 5, 2) := by decide +kernel
theorem dX11_leastOf_33 : decode cX11_leastOf 33 = .ok (.istore 4, 2) := by decide +kernel
theorem dX11_leastOf_35 : decode cX11_leastOf 35 = .ok (.goto 6, 3) := by decide +kernel
theorem dX11_leastOf_38 : decode cX11_leastOf 38 = .ok (.iload 5, 2) := by decide +kernel
theorem dX11_leastOf_40 : decode cX11_leastOf 40 = .ok (.istore_n 3, 1) := by decide +kernel
theorem dX11_leastOf_41 : decode cX11_leastOf 41 = .ok (.goto (-36), 3) := by decide +kernel
theorem dX11_leastOf_44 : decode cX11_leastOf 44 = .ok (.iload_n 1, 1) := by decide +kernel
theorem dX11_leastOf_45 : decode cX11_leastOf 45 = .ok (.ifCond .ne 7, 3) := by decide +kernel
theorem dX11_leastOf_48 : decode cX11_leastOf 48 = .ok (.iconst 0, 1) := by decide +kernel
theorem dX11_leastOf_49 : decode cX11_leastOf 49 = .ok (.goto 5, 3) := by decide +kernel
theorem dX11_leastOf_52 : decode cX11_leastOf 52 = .ok (.iload 4, 2) := by decide +kernel
theorem dX11_leastOf_54 : decode cX11_leastOf 54 = .ok (.ireturn, 1) := by decide +kernel
theorem dX11_all_0 : decode cX11_all 0 = .ok (.iconst 1, 1) := by decide +kernel
theorem dX11_all_1 : decode cX11_all 1 = .ok (.aload_n 0, 1) := by decide +kernel
theorem dX11_all_2 : decode cX11_all 2 = .ok (.getfield 111, 3) := by decide +kernel
theorem dX11_all_5 : decode cX11_all 5 = .ok (.ishl, 1) := by decide +kernel
theorem dX11_all_6 : decode cX11_all 6 = .ok (.iconst 1, 1) := by decide +kernel
theorem dX11_all_7 : decode cX11_all 7 = .ok (.isub, 1) := by decide +kernel
theorem dX11_all_8 : decode cX11_all 8 = .ok (.ireturn, 1) := by decide +kernel
theorem dX11_leastNow_0 : decode cX11_leastNow 0 = .ok (.aload_n 0, 1) := by decide +kernel
theorem dX11_leastNow_1 : decode cX11_leastNow 1 = .ok (.aload_n 0, 1) := by decide +kernel
theorem dX11_leastNow_2 : decode cX11_leastNow 2 = .ok (.invokevirtual 283, 3) := by decide +kernel
theorem dX11_leastNow_5 : decode cX11_leastNow 5 = .ok (.aload_n 0, 1) := by decide +kernel
theorem dX11_leastNow_6 : decode cX11_leastNow 6 = .ok (.invokevirtual 208, 3) := by decide +kernel
theorem dX11_leastNow_9 : decode cX11_leastNow 9 = .ok (.invokevirtual 286, 3) := by decide +kernel
theorem dX11_leastNow_12 : decode cX11_leastNow 12 = .ok (.ireturn, 1) := by decide +kernel
theorem dX11_many__0 : decode cX11_many_ 0 = .ok (.aload_n 0, 1) := by decide +kernel
theorem dX11_many__1 : decode cX11_many_ 1 = .ok (.invokevirtual 205, 3) := by decide +kernel
theorem dX11_many__4 : decode cX11_many_ 4 = .ok (.aload_n 0, 1) := by decide +kernel
theorem dX11_many__5 : decode cX11_many_ 5 = .ok (.invokevirtual 289, 3) := by decide +kernel
theorem dX11_many__8 : decode cX11_many_ 8 = .ok (.istore_n 1, 1) := by decide +kernel
theorem dX11_many__9 : decode cX11_many_ 9 = .ok (.iconst 0, 1) := by decide +kernel
theorem dX11_many__10 : decode cX11_many_ 10 = .ok (.istore_n 2, 1) := by decide +kernel
theorem dX11_many__11 : decode cX11_many_ 11 = .ok (.iload_n 2, 1) := by decide +kernel
theorem dX11_many__12 : decode cX11_many_ 12 = .ok (.aload_n 0, 1) := by decide +kernel
theorem dX11_many__13 : decode cX11_many_ 13 = .ok (.invokevirtual 283, 3) := by decide +kernel
theorem dX11_many__16 : decode cX11_many_ 16 = .ok (.if_icmp .gt 86, 3) := by decide +kernel
theorem dX11_many__19 : decode cX11_many_ 19 = .ok (.aload_n 0, 1) := by decide +kernel
theorem dX11_many__20 : decode cX11_many_ 20 = .ok (.getfield 73, 3) := by decide +kernel
theorem dX11_many__23 : decode cX11_many_ 23 = .ok (.iload_n 2, 1) := by decide +kernel
theorem dX11_many__24 : decode cX11_many_ 24 = .ok (.iconst 0, 1) := by decide +kernel
theorem dX11_many__25 : decode cX11_many_ 25 = .ok (.iastore, 1) := by decide +kernel
theorem dX11_many__26 : decode cX11_many_ 26 = .ok (.iconst 0, 1) := by decide +kernel
theorem dX11_many__27 : decode cX11_many_ 27 = .ok (.istore_n 3, 1) := by decide +kernel
theorem dX11_many__28 : decode cX11_many_ 28 = .ok (.iload_n 3, 1) := by decide +kernel
theorem dX11_many__29 : decode cX11_many_ 29 = .ok (.aload_n 0, 1) := by decide +kernel
theorem dX11_many__30 : decode cX11_many_ 30 = .ok (.getfield 111, 3) := by decide +kernel
theorem dX11_many__33 : decode cX11_many_ 33 = .ok (.if_icmp .ge 37, 3) := by decide +kernel
theorem dX11_many__36 : decode cX11_many_ 36 = .ok (.aload_n 0, 1) := by decide +kernel
theorem dX11_many__37 : decode cX11_many_ 37 = .ok (.getfield 73, 3) := by decide +kernel
theorem dX11_many__40 : decode cX11_many_ 40 = .ok (.iload_n 2, 1) := by decide +kernel
theorem dX11_many__41 : decode cX11_many_ 41 = .ok (.dup2, 1) := by decide +kernel
theorem dX11_many__42 : decode cX11_many_ 42 = .ok (.iaload, 1) := by decide +kernel
theorem dX11_many__43 : decode cX11_many_ 43 = .ok (.iload_n 2, 1) := by decide +kernel
theorem dX11_many__44 : decode cX11_many_ 44 = .ok (.iload_n 3, 1) := by decide +kernel
theorem dX11_many__45 : decode cX11_many_ 45 = .ok (.ishr, 1) := by decide +kernel
theorem dX11_many__46 : decode cX11_many_ 46 = .ok (.iconst 1, 1) := by decide +kernel
theorem dX11_many__47 : decode cX11_many_ 47 = .ok (.iand, 1) := by decide +kernel
theorem dX11_many__48 : decode cX11_many_ 48 = .ok (.iconst 1, 1) := by decide +kernel
theorem dX11_many__49 : decode cX11_many_ 49 = .ok (.if_icmp .ne 12, 3) := by decide +kernel
theorem dX11_many__52 : decode cX11_many_ 52 = .ok (.aload_n 0, 1) := by decide +kernel
theorem dX11_many__53 : decode cX11_many_ 53 = .ok (.getfield 31, 3) := by decide +kernel
theorem dX11_many__56 : decode cX11_many_ 56 = .ok (.iload_n 3, 1) := by decide +kernel
theorem dX11_many__57 : decode cX11_many_ 57 = .ok (.iaload, 1) := by decide +kernel
theorem dX11_many__58 : decode cX11_many_ 58 = .ok (.goto 4, 3) := by decide +kernel
theorem dX11_many__61 : decode cX11_many_ 61 = .ok (.iconst 0, 1) := by decide +kernel
theorem dX11_many__62 : decode cX11_many_ 62 = .ok (.iadd, 1) := by decide +kernel
theorem dX11_many__63 : decode cX11_many_ 63 = .ok (.iastore, 1) := by decide +kernel
theorem dX11_many__64 : decode cX11_many_ 64 = .ok (.iinc 3 1, 3) := by decide +kernel
theorem dX11_many__67 : decode cX11_many_ 67 = .ok (.goto (-39), 3) := by decide +kernel
theorem dX11_many__70 : decode cX11_many_ 70 = .ok (.iconst 0, 1) := by decide +kernel
theorem dX11_many__71 : decode cX11_many_ 71 = .ok (.istore_n 3, 1) := by decide +kernel
theorem dX11_many__72 : decode cX11_many_ 72 = .ok (.iload_n 3, 1) := by decide +kernel
theorem dX11_many__73 : decode cX11_many_ 73 = .ok (.bipush 64, 2) := by decide +kernel
theorem dX11_many__75 : decode cX11_many_ 75 = .ok (.if_icmp .ge 21, 3) := by decide +kernel
theorem dX11_many__78 : decode cX11_many_ 78 = .ok (.aload_n 0, 1) := by decide +kernel
theorem dX11_many__79 : decode cX11_many_ 79 = .ok (.getfield 76, 3) := by decide +kernel
theorem dX11_many__82 : decode cX11_many_ 82 = .ok (.bipush 64, 2) := by decide +kernel
theorem dX11_many__84 : decode cX11_many_ 84 = .ok (.iload_n 2, 1) := by decide +kernel
theorem dX11_many__85 : decode cX11_many_ 85 = .ok (.imul, 1) := by decide +kernel
theorem dX11_many__86 : decode cX11_many_ 86 = .ok (.iload_n 3, 1) := by decide +kernel
theorem dX11_many__87 : decode cX11_many_ 87 = .ok (.iadd, 1) := by decide +kernel
theorem dX11_many__88 : decode cX11_many_ 88 = .ok (.iconst 0, 1) := by decide +kernel
theorem dX11_many__89 : decode cX11_many_ 89 = .ok (.iastore, 1) := by decide +kernel
theorem dX11_many__90 : decode cX11_many_ 90 = .ok (.iinc 3 1, 3) := by decide +kernel
theorem dX11_many__93 : decode cX11_many_ 93 = .ok (.goto (-21), 3) := by decide +kernel
theorem dX11_many__96 : decode cX11_many_ 96 = .ok (.iinc 2 1, 3) := by decide +kernel
theorem dX11_many__99 : decode cX11_many_ 99 = .ok (.goto (-88), 3) := by decide +kernel
theorem dX11_many__102 : decode cX11_many_ 102 = .ok (.aload_n 0, 1) := by decide +kernel
theorem dX11_many__103 : decode cX11_many_ 103 = .ok (.getfield 76, 3) := by decide +kernel
theorem dX11_many__106 : decode cX11_many_ 106 = .ok (.iconst 0, 1) := by decide +kernel
theorem dX11_many__107 : decode cX11_many_ 107 = .ok (.iconst 1, 1) := by decide +kernel
theorem dX11_many__108 : decode cX11_many_ 108 = .ok (.iastore, 1) := by decide +kernel
theorem dX11_many__109 : decode cX11_many_ 109 = .ok (.iconst 0, 1) := by decide +kernel
theorem dX11_many__110 : decode cX11_many_ 110 = .ok (.istore_n 2, 1) := by decide +kernel
theorem dX11_many__111 : decode cX11_many_ 111 = .ok (.iload_n 2, 1) := by decide +kernel
theorem dX11_many__112 : decode cX11_many_ 112 = .ok (.aload_n 0, 1) := by decide +kernel
theorem dX11_many__113 : decode cX11_many_ 113 = .ok (.invokevirtual 283, 3) := by decide +kernel
theorem dX11_many__116 : decode cX11_many_ 116 = .ok (.if_icmp .ge 44, 3) := by decide +kernel
theorem dX11_many__119 : decode cX11_many_ 119 = .ok (.iconst 0, 1) := by decide +kernel
theorem dX11_many__120 : decode cX11_many_ 120 = .ok (.istore_n 3, 1) := by decide +kernel
theorem dX11_many__121 : decode cX11_many_ 121 = .ok (.iload_n 3, 1) := by decide +kernel
theorem dX11_many__122 : decode cX11_many_ 122 = .ok (.bipush 64, 2) := by decide +kernel
theorem dX11_many__124 : decode cX11_many_ 124 = .ok (.if_icmp .ge 30, 3) := by decide +kernel
theorem dX11_many__127 : decode cX11_many_ 127 = .ok (.aload_n 0, 1) := by decide +kernel
theorem dX11_many__128 : decode cX11_many_ 128 = .ok (.getfield 76, 3) := by decide +kernel
theorem dX11_many__131 : decode cX11_many_ 131 = .ok (.bipush 64, 2) := by decide +kernel
theorem dX11_many__133 : decode cX11_many_ 133 = .ok (.iload_n 2, 1) := by decide +kernel
theorem dX11_many__134 : decode cX11_many_ 134 = .ok (.imul, 1) := by decide +kernel
theorem dX11_many__135 : decode cX11_many_ 135 = .ok (.iload_n 3, 1) := by decide +kernel
theorem dX11_many__136 : decode cX11_many_ 136 = .ok (.iadd, 1) := by decide +kernel
theorem dX11_many__137 : decode cX11_many_ 137 = .ok (.iaload, 1) := by decide +kernel
theorem dX11_many__138 : decode cX11_many_ 138 = .ok (.ifCond .le 10, 3) := by decide +kernel
theorem dX11_many__141 : decode cX11_many_ 141 = .ok (.aload_n 0, 1) := by decide +kernel
theorem dX11_many__142 : decode cX11_many_ 142 = .ok (.iload_n 2, 1) := by decide +kernel
theorem dX11_many__143 : decode cX11_many_ 143 = .ok (.iload_n 3, 1) := by decide +kernel
theorem dX11_many__144 : decode cX11_many_ 144 = .ok (.iload_n 1, 1) := by decide +kernel
theorem dX11_many__145 : decode cX11_many_ 145 = .ok (.invokevirtual 292, 3) := by decide +kernel
theorem dX11_many__148 : decode cX11_many_ 148 = .ok (.iinc 3 1, 3) := by decide +kernel
theorem dX11_many__151 : decode cX11_many_ 151 = .ok (.goto (-30), 3) := by decide +kernel
theorem dX11_many__154 : decode cX11_many_ 154 = .ok (.iinc 2 1, 3) := by decide +kernel
theorem dX11_many__157 : decode cX11_many_ 157 = .ok (.goto (-46), 3) := by decide +kernel
theorem dX11_many__160 : decode cX11_many_ 160 = .ok (.iconst 0, 1) := by decide +kernel
theorem dX11_many__161 : decode cX11_many_ 161 = .ok (.istore_n 2, 1) := by decide +kernel
theorem dX11_many__162 : decode cX11_many_ 162 = .ok (.iconst 0, 1) := by decide +kernel
theorem dX11_many__163 : decode cX11_many_ 163 = .ok (.istore_n 3, 1) := by decide +kernel
theorem dX11_many__164 : decode cX11_many_ 164 = .ok (.iload_n 3, 1) := by decide +kernel
theorem dX11_many__165 : decode cX11_many_ 165 = .ok (.bipush 64, 2) := by decide +kernel
theorem dX11_many__167 : decode cX11_many_ 167 = .ok (.if_icmp .ge 26, 3) := by decide +kernel
theorem dX11_many__170 : decode cX11_many_ 170 = .ok (.iload_n 2, 1) := by decide +kernel
theorem dX11_many__171 : decode cX11_many_ 171 = .ok (.aload_n 0, 1) := by decide +kernel
theorem dX11_many__172 : decode cX11_many_ 172 = .ok (.getfield 76, 3) := by decide +kernel
theorem dX11_many__175 : decode cX11_many_ 175 = .ok (.bipush 64, 2) := by decide +kernel
theorem dX11_many__177 : decode cX11_many_ 177 = .ok (.aload_n 0, 1) := by decide +kernel
theorem dX11_many__178 : decode cX11_many_ 178 = .ok (.invokevirtual 283, 3) := by decide +kernel
theorem dX11_many__181 : decode cX11_many_ 181 = .ok (.imul, 1) := by decide +kernel
theorem dX11_many__182 : decode cX11_many_ 182 = .ok (.iload_n 3, 1) := by decide +kernel
theorem dX11_many__183 : decode cX11_many_ 183 = .ok (.iadd, 1) := by decide +kernel
theorem dX11_many__184 : decode cX11_many_ 184 = .ok (.iaload, 1) := by decide +kernel
theorem dX11_many__185 : decode cX11_many_ 185 = .ok (.iadd, 1) := by decide +kernel
theorem dX11_many__186 : decode cX11_many_ 186 = .ok (.istore_n 2, 1) := by decide +kernel
theorem dX11_many__187 : decode cX11_many_ 187 = .ok (.iinc 3 1, 3) := by decide +kernel
theorem dX11_many__190 : decode cX11_many_ 190 = .ok (.goto (-26), 3) := by decide +kernel
theorem dX11_many__193 : decode cX11_many_ 193 = .ok (.iload_n 2, 1) := by decide +kernel
theorem dX11_many__194 : decode cX11_many_ 194 = .ok (.ireturn, 1) := by decide +kernel
theorem dX11_spreads_0 : decode cX11_spreads 0 = .ok (.iconst 0, 1) := by decide +kernel
theorem dX11_spreads_1 : decode cX11_spreads 1 = .ok (.istore 4, 2) := by decide +kernel
theorem dX11_spreads_3 : decode cX11_spreads 3 = .ok (.iload 4, 2) := by decide +kernel
theorem dX11_spreads_5 : decode cX11_spreads 5 = .ok (.aload_n 0, 1) := by decide +kernel
theorem dX11_spreads_6 : decode cX11_spreads 6 = .ok (.getfield 111, 3) := by decide +kernel
theorem dX11_spreads_9 : decode cX11_spreads 9 = .ok (.if_icmp .ge 107, 3) := by decide +kernel
theorem dX11_spreads_12 : decode cX11_spreads 12 = .ok (.iload_n 1, 1) := by decide +kernel
theorem dX11_spreads_13 : decode cX11_spreads 13 = .ok (.iload 4, 2) := by decide +kernel
theorem dX11_spreads_15 : decode cX11_spreads 15 = .ok (.ishr, 1) := by decide +kernel
theorem dX11_spreads_16 : decode cX11_spreads 16 = .ok (.iconst 1, 1) := by decide +kernel
theorem dX11_spreads_17 : decode cX11_spreads 17 = .ok (.iand, 1) := by decide +kernel
theorem dX11_spreads_18 : decode cX11_spreads 18 = .ok (.iconst 1, 1) := by decide +kernel
theorem dX11_spreads_19 : decode cX11_spreads 19 = .ok (.if_icmp .ne 6, 3) := by decide +kernel
theorem dX11_spreads_22 : decode cX11_spreads 22 = .ok (.goto 88, 3) := by decide +kernel
theorem dX11_spreads_25 : decode cX11_spreads 25 = .ok (.aload_n 0, 1) := by decide +kernel
theorem dX11_spreads_26 : decode cX11_spreads 26 = .ok (.getfield 73, 3) := by decide +kernel
theorem dX11_spreads_29 : decode cX11_spreads 29 = .ok (.iload_n 1, 1) := by decide +kernel
theorem dX11_spreads_30 : decode cX11_spreads 30 = .ok (.iaload, 1) := by decide +kernel
theorem dX11_spreads_31 : decode cX11_spreads 31 = .ok (.iload_n 2, 1) := by decide +kernel
theorem dX11_spreads_32 : decode cX11_spreads 32 = .ok (.iadd, 1) := by decide +kernel
theorem dX11_spreads_33 : decode cX11_spreads 33 = .ok (.aload_n 0, 1) := by decide +kernel
theorem dX11_spreads_34 : decode cX11_spreads 34 = .ok (.getfield 28, 3) := by decide +kernel
theorem dX11_spreads_37 : decode cX11_spreads 37 = .ok (.iload 4, 2) := by decide +kernel
theorem dX11_spreads_39 : decode cX11_spreads 39 = .ok (.iaload, 1) := by decide +kernel
theorem dX11_spreads_40 : decode cX11_spreads 40 = .ok (.invokestatic 126, 3) := by decide +kernel
theorem dX11_spreads_43 : decode cX11_spreads 43 = .ok (.aload_n 0, 1) := by decide +kernel
theorem dX11_spreads_44 : decode cX11_spreads 44 = .ok (.getfield 31, 3) := by decide +kernel
theorem dX11_spreads_47 : decode cX11_spreads 47 = .ok (.iload 4, 2) := by decide +kernel
theorem dX11_spreads_49 : decode cX11_spreads 49 = .ok (.iaload, 1) := by decide +kernel
theorem dX11_spreads_50 : decode cX11_spreads 50 = .ok (.iadd, 1) := by decide +kernel
theorem dX11_spreads_51 : decode cX11_spreads 51 = .ok (.istore 5, 2) := by decide +kernel
theorem dX11_spreads_53 : decode cX11_spreads 53 = .ok (.iload_n 1, 1) := by decide +kernel
theorem dX11_spreads_54 : decode cX11_spreads 54 = .ok (.iconst 1, 1) := by decide +kernel
theorem dX11_spreads_55 : decode cX11_spreads 55 = .ok (.iload 4, 2) := by decide +kernel
theorem dX11_spreads_57 : decode cX11_spreads 57 = .ok (.ishl, 1) := by decide +kernel
theorem dX11_spreads_58 : decode cX11_spreads 58 = .ok (.ior, 1) := by decide +kernel
theorem dX11_spreads_59 : decode cX11_spreads 59 = .ok (.istore 6, 2) := by decide +kernel
theorem dX11_spreads_61 : decode cX11_spreads 61 = .ok (.iload 5, 2) := by decide +kernel
theorem dX11_spreads_63 : decode cX11_spreads 63 = .ok (.aload_n 0, 1) := by decide +kernel
theorem dX11_spreads_64 : decode cX11_spreads 64 = .ok (.getfield 34, 3) := by decide +kernel
theorem dX11_spreads_67 : decode cX11_spreads 67 = .ok (.iload 4, 2) := by decide +kernel
theorem dX11_spreads_69 : decode cX11_spreads 69 = .ok (.iaload, 1) := by decide +kernel
theorem dX11_spreads_70 : decode cX11_spreads 70 = .ok (.iadd, 1) := by decide +kernel
theorem dX11_spreads_71 : decode cX11_spreads 71 = .ok (.iload_n 3, 1) := by decide +kernel
theorem dX11_spreads_72 : decode cX11_spreads 72 = .ok (.if_icmp .gt 38, 3) := by decide +kernel
theorem dX11_spreads_75 : decode cX11_spreads 75 = .ok (.aload_n 0, 1) := by decide +kernel
theorem dX11_spreads_76 : decode cX11_spreads 76 = .ok (.getfield 76, 3) := by decide +kernel
theorem dX11_spreads_79 : decode cX11_spreads 79 = .ok (.bipush 64, 2) := by decide +kernel
theorem dX11_spreads_81 : decode cX11_spreads 81 = .ok (.iload 6, 2) := by decide +kernel
theorem dX11_spreads_83 : decode cX11_spreads 83 = .ok (.imul, 1) := by decide +kernel
theorem dX11_spreads_84 : decode cX11_spreads 84 = .ok (.iload 5, 2) := by decide +kernel
theorem dX11_spreads_86 : decode cX11_spreads 86 = .ok (.iadd, 1) := by decide +kernel
theorem dX11_spreads_87 : decode cX11_spreads 87 = .ok (.aload_n 0, 1) := by decide +kernel
theorem dX11_spreads_88 : decode cX11_spreads 88 = .ok (.getfield 73, 3) := by decide +kernel
theorem dX11_spreads_91 : decode cX11_spreads 91 = .ok (.iload 6, 2) := by decide +kernel
theorem dX11_spreads_93 : decode cX11_spreads 93 = .ok (.iaload, 1) := by decide +kernel
theorem dX11_spreads_94 : decode cX11_spreads 94 = .ok (.isub, 1) := by decide +kernel
theorem dX11_spreads_95 : decode cX11_spreads 95 = .ok (.dup2, 1) := by decide +kernel
theorem dX11_spreads_96 : decode cX11_spreads 96 = .ok (.iaload, 1) := by decide +kernel
theorem dX11_spreads_97 : decode cX11_spreads 97 = .ok (.aload_n 0, 1) := by decide +kernel
theorem dX11_spreads_98 : decode cX11_spreads 98 = .ok (.getfield 76, 3) := by decide +kernel
theorem dX11_spreads_101 : decode cX11_spreads 101 = .ok (.bipush 64, 2) := by decide +kernel
theorem dX11_spreads_103 : decode cX11_spreads 103 = .ok (.iload_n 1, 1) := by decide +kernel
theorem dX11_spreads_104 : decode cX11_spreads 104 = .ok (.imul, 1) := by decide +kernel
theorem dX11_spreads_105 : decode cX11_spreads 105 = .ok (.iload_n 2, 1) := by decide +kernel
theorem dX11_spreads_106 : decode cX11_spreads 106 = .ok (.iadd, 1) := by decide +kernel
theorem dX11_spreads_107 : decode cX11_spreads 107 = .ok (.iaload, 1) := by decide +kernel
theorem dX11_spreads_108 : decode cX11_spreads 108 = .ok (.iadd, 1) := by decide +kernel
theorem dX11_spreads_109 : decode cX11_spreads 109 = .ok (.iastore, 1) := by decide +kernel
theorem dX11_spreads_110 : decode cX11_spreads 110 = .ok (.iinc 4 1, 3) := by decide +kernel
theorem dX11_spreads_113 : decode cX11_spreads 113 = .ok (.goto (-110), 3) := by decide +kernel
theorem dX11_spreads_116 : decode cX11_spreads 116 = .ok (.return_, 1) := by decide +kernel
theorem dX11_firstOrder_0 : decode cX11_firstOrder 0 = .ok (.aload_n 0, 1) := by decide +kernel
theorem dX11_firstOrder_1 : decode cX11_firstOrder 1 = .ok (.invokevirtual 205, 3) := by decide +kernel
theorem dX11_firstOrder_4 : decode cX11_firstOrder 4 = .ok (.aload_n 0, 1) := by decide +kernel
theorem dX11_firstOrder_5 : decode cX11_firstOrder 5 = .ok (.invokevirtual 289, 3) := by decide +kernel
theorem dX11_firstOrder_8 : decode cX11_firstOrder 8 = .ok (.istore_n 1, 1) := by decide +kernel
theorem dX11_firstOrder_9 : decode cX11_firstOrder 9 = .ok (.aload_n 0, 1) := by decide +kernel
theorem dX11_firstOrder_10 : decode cX11_firstOrder 10 = .ok (.iload_n 1, 1) := by decide +kernel
theorem dX11_firstOrder_11 : decode cX11_firstOrder 11 = .ok (.invokevirtual 277, 3) := by decide +kernel
theorem dX11_firstOrder_14 : decode cX11_firstOrder 14 = .ok (.iconst 0, 1) := by decide +kernel
theorem dX11_firstOrder_15 : decode cX11_firstOrder 15 = .ok (.istore_n 2, 1) := by decide +kernel
theorem dX11_firstOrder_16 : decode cX11_firstOrder 16 = .ok (.aload_n 0, 1) := by decide +kernel
theorem dX11_firstOrder_17 : decode cX11_firstOrder 17 = .ok (.invokevirtual 283, 3) := by decide +kernel
theorem dX11_firstOrder_20 : decode cX11_firstOrder 20 = .ok (.istore_n 3, 1) := by decide +kernel
theorem dX11_firstOrder_21 : decode cX11_firstOrder 21 = .ok (.iconst 0, 1) := by decide +kernel
theorem dX11_firstOrder_22 : decode cX11_firstOrder 22 = .ok (.istore 4, 2) := by decide +kernel
theorem dX11_firstOrder_24 : decode cX11_firstOrder 24 = .ok (.iload 4, 2) := by decide +kernel
theorem dX11_firstOrder_26 : decode cX11_firstOrder 26 = .ok (.aload_n 0, 1) := by decide +kernel
theorem dX11_firstOrder_27 : decode cX11_firstOrder 27 = .ok (.getfield 111, 3) := by decide +kernel
theorem dX11_firstOrder_30 : decode cX11_firstOrder 30 = .ok (.if_icmp .ge 150, 3) := by decide +kernel
theorem dX11_firstOrder_33 : decode cX11_firstOrder 33 = .ok (.iconst (-1), 1) := by decide +kernel
theorem dX11_firstOrder_34 : decode cX11_firstOrder 34 = .ok (.istore 5, 2) := by decide +kernel
theorem dX11_firstOrder_36 : decode cX11_firstOrder 36 = .ok (.iconst 0, 1) := by decide +kernel
theorem dX11_firstOrder_37 : decode cX11_firstOrder 37 = .ok (.istore 6, 2) := by decide +kernel
theorem dX11_firstOrder_39 : decode cX11_firstOrder 39 = .ok (.iload 6, 2) := by decide +kernel
theorem dX11_firstOrder_41 : decode cX11_firstOrder 41 = .ok (.aload_n 0, 1) := by decide +kernel
theorem dX11_firstOrder_42 : decode cX11_firstOrder 42 = .ok (.getfield 111, 3) := by decide +kernel
theorem dX11_firstOrder_45 : decode cX11_firstOrder 45 = .ok (.if_icmp .ge 79, 3) := by decide +kernel
theorem dX11_firstOrder_48 : decode cX11_firstOrder 48 = .ok (.iload 5, 2) := by decide +kernel
theorem dX11_firstOrder_50 : decode cX11_firstOrder 50 = .ok (.ifCond .ge 74, 3) := by decide +kernel
theorem dX11_firstOrder_53 : decode cX11_firstOrder 53 = .ok (.iload_n 2, 1) := by decide +kernel
theorem dX11_firstOrder_54 : decode cX11_firstOrder 54 = .ok (.aload_n 0, 1) := by decide +kernel
theorem dX11_firstOrder_55 : decode cX11_firstOrder 55 = .ok (.getfield 28, 3) := by decide +kernel
theorem dX11_firstOrder_58 : decode cX11_firstOrder 58 = .ok (.iload 6, 2) := by decide +kernel
theorem dX11_firstOrder_60 : decode cX11_firstOrder 60 = .ok (.iaload, 1) := by decide +kernel
theorem dX11_firstOrder_61 : decode cX11_firstOrder 61 = .ok (.invokestatic 126, 3) := by decide +kernel
theorem dX11_firstOrder_64 : decode cX11_firstOrder 64 = .ok (.aload_n 0, 1) := by decide +kernel
theorem dX11_firstOrder_65 : decode cX11_firstOrder 65 = .ok (.getfield 31, 3) := by decide +kernel
theorem dX11_firstOrder_68 : decode cX11_firstOrder 68 = .ok (.iload 6, 2) := by decide +kernel
theorem dX11_firstOrder_70 : decode cX11_firstOrder 70 = .ok (.iaload, 1) := by decide +kernel
theorem dX11_firstOrder_71 : decode cX11_firstOrder 71 = .ok (.iadd, 1) := by decide +kernel
theorem dX11_firstOrder_72 : decode cX11_firstOrder 72 = .ok (.istore 7, 2) := by decide +kernel
theorem dX11_firstOrder_74 : decode cX11_firstOrder 74 = .ok (.iload_n 3, 1) := by decide +kernel
theorem dX11_firstOrder_75 : decode cX11_firstOrder 75 = .ok (.iload 6, 2) := by decide +kernel
theorem dX11_firstOrder_77 : decode cX11_firstOrder 77 = .ok (.ishr, 1) := by decide +kernel
theorem dX11_firstOrder_78 : decode cX11_firstOrder 78 = .ok (.iconst 1, 1) := by decide +kernel
theorem dX11_firstOrder_79 : decode cX11_firstOrder 79 = .ok (.iand, 1) := by decide +kernel
theorem dX11_firstOrder_80 : decode cX11_firstOrder 80 = .ok (.iconst 1, 1) := by decide +kernel
theorem dX11_firstOrder_81 : decode cX11_firstOrder 81 = .ok (.if_icmp .ne 37, 3) := by decide +kernel
theorem dX11_firstOrder_84 : decode cX11_firstOrder 84 = .ok (.iload 7, 2) := by decide +kernel
theorem dX11_firstOrder_86 : decode cX11_firstOrder 86 = .ok (.aload_n 0, 1) := by decide +kernel
theorem dX11_firstOrder_87 : decode cX11_firstOrder 87 = .ok (.getfield 34, 3) := by decide +kernel
theorem dX11_firstOrder_90 : decode cX11_firstOrder 90 = .ok (.iload 6, 2) := by decide +kernel
theorem dX11_firstOrder_92 : decode cX11_firstOrder 92 = .ok (.iaload, 1) := by decide +kernel
theorem dX11_firstOrder_93 : decode cX11_firstOrder 93 = .ok (.iadd, 1) := by decide +kernel
theorem dX11_firstOrder_94 : decode cX11_firstOrder 94 = .ok (.iload_n 1, 1) := by decide +kernel
theorem dX11_firstOrder_95 : decode cX11_firstOrder 95 = .ok (.if_icmp .gt 23, 3) := by decide +kernel
theorem dX11_firstOrder_98 : decode cX11_firstOrder 98 = .ok (.iload 7, 2) := by decide +kernel
theorem dX11_firstOrder_100 : decode cX11_firstOrder 100 = .ok (.aload_n 0, 1) := by decide +kernel
theorem dX11_firstOrder_101 : decode cX11_firstOrder 101 = .ok (.getfield 67, 3) := by decide +kernel
theorem dX11_firstOrder_104 : decode cX11_firstOrder 104 = .ok (.iload_n 3, 1) := by decide +kernel
theorem dX11_firstOrder_105 : decode cX11_firstOrder 105 = .ok (.iconst 1, 1) := by decide +kernel
theorem dX11_firstOrder_106 : decode cX11_firstOrder 106 = .ok (.iload 6, 2) := by decide +kernel
theorem dX11_firstOrder_108 : decode cX11_firstOrder 108 = .ok (.ishl, 1) := by decide +kernel
theorem dX11_firstOrder_109 : decode cX11_firstOrder 109 = .ok (.ixor, 1) := by decide +kernel
theorem dX11_firstOrder_110 : decode cX11_firstOrder 110 = .ok (.iaload, 1) := by decide +kernel
theorem dX11_firstOrder_111 : decode cX11_firstOrder 111 = .ok (.if_icmp .gt 7, 3) := by decide +kernel
theorem dX11_firstOrder_114 : decode cX11_firstOrder 114 = .ok (.iload 6, 2) := by decide +kernel
theorem dX11_firstOrder_116 : decode cX11_firstOrder 116 = .ok (.istore 5, 2) := by decide +kernel
theorem dX11_firstOrder_118 : decode cX11_firstOrder 118 = .ok (.iinc 6 1, 3) := by decide +kernel
theorem dX11_firstOrder_121 : decode cX11_firstOrder 121 = .ok (.goto (-82), 3) := by decide +kernel
theorem dX11_firstOrder_124 : decode cX11_firstOrder 124 = .ok (.aload_n 0, 1) := by decide +kernel
theorem dX11_firstOrder_125 : decode cX11_firstOrder 125 = .ok (.getfield 79, 3) := by decide +kernel
theorem dX11_firstOrder_128 : decode cX11_firstOrder 128 = .ok (.iload 4, 2) := by decide +kernel
theorem dX11_firstOrder_130 : decode cX11_firstOrder 130 = .ok (.iload 5, 2) := by decide +kernel
theorem dX11_firstOrder_132 : decode cX11_firstOrder 132 = .ok (.iastore, 1) := by decide +kernel
theorem dX11_firstOrder_133 : decode cX11_firstOrder 133 = .ok (.aload_n 0, 1) := by decide +kernel
theorem dX11_firstOrder_134 : decode cX11_firstOrder 134 = .ok (.getfield 82, 3) := by decide +kernel
theorem dX11_firstOrder_137 : decode cX11_firstOrder 137 = .ok (.iload 5, 2) := by decide +kernel
theorem dX11_firstOrder_139 : decode cX11_firstOrder 139 = .ok (.iload_n 2, 1) := by decide +kernel
theorem dX11_firstOrder_140 : decode cX11_firstOrder 140 = .ok (.aload_n 0, 1) := by decide +kernel
theorem dX11_firstOrder_141 : decode cX11_firstOrder 141 = .ok (.getfield 28, 3) := by decide +kernel
theorem dX11_firstOrder_144 : decode cX11_firstOrder 144 = .ok (.iload 5, 2) := by decide +kernel
theorem dX11_firstOrder_146 : decode cX11_firstOrder 146 = .ok (.iaload, 1) := by decide +kernel
theorem dX11_firstOrder_147 : decode cX11_firstOrder 147 = .ok (.invokestatic 126, 3) := by decide +kernel
theorem dX11_firstOrder_150 : decode cX11_firstOrder 150 = .ok (.iastore, 1) := by decide +kernel
theorem dX11_firstOrder_151 : decode cX11_firstOrder 151 = .ok (.aload_n 0, 1) := by decide +kernel
theorem dX11_firstOrder_152 : decode cX11_firstOrder 152 = .ok (.getfield 82, 3) := by decide +kernel
theorem dX11_firstOrder_155 : decode cX11_firstOrder 155 = .ok (.iload 5, 2) := by decide +kernel
theorem dX11_firstOrder_157 : decode cX11_firstOrder 157 = .ok (.iaload, 1) := by decide +kernel
theorem dX11_firstOrder_158 : decode cX11_firstOrder 158 = .ok (.aload_n 0, 1) := by decide +kernel
theorem dX11_firstOrder_159 : decode cX11_firstOrder 159 = .ok (.getfield 31, 3) := by decide +kernel
theorem dX11_firstOrder_162 : decode cX11_firstOrder 162 = .ok (.iload 5, 2) := by decide +kernel
theorem dX11_firstOrder_164 : decode cX11_firstOrder 164 = .ok (.iaload, 1) := by decide +kernel
theorem dX11_firstOrder_165 : decode cX11_firstOrder 165 = .ok (.iadd, 1) := by decide +kernel
theorem dX11_firstOrder_166 : decode cX11_firstOrder 166 = .ok (.istore_n 2, 1) := by decide +kernel
theorem dX11_firstOrder_167 : decode cX11_firstOrder 167 = .ok (.iload_n 3, 1) := by decide +kernel
theorem dX11_firstOrder_168 : decode cX11_firstOrder 168 = .ok (.iconst 1, 1) := by decide +kernel
theorem dX11_firstOrder_169 : decode cX11_firstOrder 169 = .ok (.iload 5, 2) := by decide +kernel
theorem dX11_firstOrder_171 : decode cX11_firstOrder 171 = .ok (.ishl, 1) := by decide +kernel
theorem dX11_firstOrder_172 : decode cX11_firstOrder 172 = .ok (.ixor, 1) := by decide +kernel
theorem dX11_firstOrder_173 : decode cX11_firstOrder 173 = .ok (.istore_n 3, 1) := by decide +kernel
theorem dX11_firstOrder_174 : decode cX11_firstOrder 174 = .ok (.iinc 4 1, 3) := by decide +kernel
theorem dX11_firstOrder_177 : decode cX11_firstOrder 177 = .ok (.goto (-153), 3) := by decide +kernel
theorem dX11_firstOrder_180 : decode cX11_firstOrder 180 = .ok (.return_, 1) := by decide +kernel
theorem dX11_order_0 : decode cX11_order 0 = .ok (.iload_n 1, 1) := by decide +kernel
theorem dX11_order_1 : decode cX11_order 1 = .ok (.iconst 0, 1) := by decide +kernel
theorem dX11_order_2 : decode cX11_order 2 = .ok (.aload_n 0, 1) := by decide +kernel
theorem dX11_order_3 : decode cX11_order 3 = .ok (.getfield 111, 3) := by decide +kernel
theorem dX11_order_6 : decode cX11_order 6 = .ok (.iconst 1, 1) := by decide +kernel
theorem dX11_order_7 : decode cX11_order 7 = .ok (.isub, 1) := by decide +kernel
theorem dX11_order_8 : decode cX11_order 8 = .ok (.invokestatic 114, 3) := by decide +kernel
theorem dX11_order_11 : decode cX11_order 11 = .ok (.ifCond .ne 6, 3) := by decide +kernel
theorem dX11_order_14 : decode cX11_order 14 = .ok (.bipush (-12), 2) := by decide +kernel
theorem dX11_order_16 : decode cX11_order 16 = .ok (.ireturn, 1) := by decide +kernel
theorem dX11_order_17 : decode cX11_order 17 = .ok (.aload_n 0, 1) := by decide +kernel
theorem dX11_order_18 : decode cX11_order 18 = .ok (.invokevirtual 296, 3) := by decide +kernel
theorem dX11_order_21 : decode cX11_order 21 = .ok (.aload_n 0, 1) := by decide +kernel
theorem dX11_order_22 : decode cX11_order 22 = .ok (.getfield 79, 3) := by decide +kernel
theorem dX11_order_25 : decode cX11_order 25 = .ok (.iload_n 1, 1) := by decide +kernel
theorem dX11_order_26 : decode cX11_order 26 = .ok (.iaload, 1) := by decide +kernel
theorem dX11_order_27 : decode cX11_order 27 = .ok (.ireturn, 1) := by decide +kernel
theorem dX11_mayBeAhead_0 : decode cX11_mayBeAhead 0 = .ok (.aload_n 0, 1) := by decide +kernel
theorem dX11_mayBeAhead_1 : decode cX11_mayBeAhead 1 = .ok (.getfield 70, 3) := by decide +kernel
theorem dX11_mayBeAhead_4 : decode cX11_mayBeAhead 4 = .ok (.iconst 0, 1) := by decide +kernel
theorem dX11_mayBeAhead_5 : decode cX11_mayBeAhead 5 = .ok (.iconst 0, 1) := by decide +kernel
theorem dX11_mayBeAhead_6 : decode cX11_mayBeAhead 6 = .ok (.iastore, 1) := by decide +kernel
theorem dX11_mayBeAhead_7 : decode cX11_mayBeAhead 7 = .ok (.iconst 1, 1) := by decide +kernel
theorem dX11_mayBeAhead_8 : decode cX11_mayBeAhead 8 = .ok (.istore 4, 2) := by decide +kernel
theorem dX11_mayBeAhead_10 : decode cX11_mayBeAhead 10 = .ok (.iload 4, 2) := by decide +kernel
theorem dX11_mayBeAhead_12 : decode cX11_mayBeAhead 12 = .ok (.aload_n 0, 1) := by decide +kernel
theorem dX11_mayBeAhead_13 : decode cX11_mayBeAhead 13 = .ok (.invokevirtual 283, 3) := by decide +kernel
theorem dX11_mayBeAhead_16 : decode cX11_mayBeAhead 16 = .ok (.if_icmp .gt 146, 3) := by decide +kernel
theorem dX11_mayBeAhead_19 : decode cX11_mayBeAhead 19 = .ok (.sipush 999, 3) := by decide +kernel
theorem dX11_mayBeAhead_22 : decode cX11_mayBeAhead 22 = .ok (.istore 5, 2) := by decide +kernel
theorem dX11_mayBeAhead_24 : decode cX11_mayBeAhead 24 = .ok (.iconst 0, 1) := by decide +kernel
theorem dX11_mayBeAhead_25 : decode cX11_mayBeAhead 25 = .ok (.istore 6, 2) := by decide +kernel
theorem dX11_mayBeAhead_27 : decode cX11_mayBeAhead 27 = .ok (.iload 6, 2) := by decide +kernel
theorem dX11_mayBeAhead_29 : decode cX11_mayBeAhead 29 = .ok (.aload_n 0, 1) := by decide +kernel
theorem dX11_mayBeAhead_30 : decode cX11_mayBeAhead 30 = .ok (.getfield 111, 3) := by decide +kernel
theorem dX11_mayBeAhead_33 : decode cX11_mayBeAhead 33 = .ok (.if_icmp .ge 114, 3) := by decide +kernel
theorem dX11_mayBeAhead_36 : decode cX11_mayBeAhead 36 = .ok (.iload 4, 2) := by decide +kernel
theorem dX11_mayBeAhead_38 : decode cX11_mayBeAhead 38 = .ok (.iconst 1, 1) := by decide +kernel
theorem dX11_mayBeAhead_39 : decode cX11_mayBeAhead 39 = .ok (.iload 6, 2) := by decide +kernel
theorem dX11_mayBeAhead_41 : decode cX11_mayBeAhead 41 = .ok (.ishl, 1) := by decide +kernel
theorem dX11_mayBeAhead_42 : decode cX11_mayBeAhead 42 = .ok (.ixor, 1) := by decide +kernel
theorem dX11_mayBeAhead_43 : decode cX11_mayBeAhead 43 = .ok (.istore 7, 2) := by decide +kernel
theorem dX11_mayBeAhead_45 : decode cX11_mayBeAhead 45 = .ok (.iload 4, 2) := by decide +kernel
theorem dX11_mayBeAhead_47 : decode cX11_mayBeAhead 47 = .ok (.iload 6, 2) := by decide +kernel
theorem dX11_mayBeAhead_49 : decode cX11_mayBeAhead 49 = .ok (.ishr, 1) := by decide +kernel
theorem dX11_mayBeAhead_50 : decode cX11_mayBeAhead 50 = .ok (.iconst 1, 1) := by decide +kernel
theorem dX11_mayBeAhead_51 : decode cX11_mayBeAhead 51 = .ok (.iand, 1) := by decide +kernel
theorem dX11_mayBeAhead_52 : decode cX11_mayBeAhead 52 = .ok (.ifCond .eq 89, 3) := by decide +kernel
theorem dX11_mayBeAhead_55 : decode cX11_mayBeAhead 55 = .ok (.aload_n 0, 1) := by decide +kernel
theorem dX11_mayBeAhead_56 : decode cX11_mayBeAhead 56 = .ok (.getfield 70, 3) := by decide +kernel
theorem dX11_mayBeAhead_59 : decode cX11_mayBeAhead 59 = .ok (.iload 7, 2) := by decide +kernel
theorem dX11_mayBeAhead_61 : decode cX11_mayBeAhead 61 = .ok (.iaload, 1) := by decide +kernel
theorem dX11_mayBeAhead_62 : decode cX11_mayBeAhead 62 = .ok (.sipush 999, 3) := by decide +kernel
theorem dX11_mayBeAhead_65 : decode cX11_mayBeAhead 65 = .ok (.if_icmp .eq 76, 3) := by decide +kernel
theorem dX11_mayBeAhead_68 : decode cX11_mayBeAhead 68 = .ok (.iload 6, 2) := by decide +kernel
theorem dX11_mayBeAhead_70 : decode cX11_mayBeAhead 70 = .ok (.iload_n 2, 1) := by decide +kernel
theorem dX11_mayBeAhead_71 : decode cX11_mayBeAhead 71 = .ok (.if_icmp .ne 15, 3) := by decide +kernel
theorem dX11_mayBeAhead_74 : decode cX11_mayBeAhead 74 = .ok (.iload 7, 2) := by decide +kernel
theorem dX11_mayBeAhead_76 : decode cX11_mayBeAhead 76 = .ok (.iload_n 1, 1) := by decide +kernel
theorem dX11_mayBeAhead_77 : decode cX11_mayBeAhead 77 = .ok (.ishr, 1) := by decide +kernel
theorem dX11_mayBeAhead_78 : decode cX11_mayBeAhead 78 = .ok (.iconst 1, 1) := by decide +kernel
theorem dX11_mayBeAhead_79 : decode cX11_mayBeAhead 79 = .ok (.iand, 1) := by decide +kernel
theorem dX11_mayBeAhead_80 : decode cX11_mayBeAhead 80 = .ok (.ifCond .ne 6, 3) := by decide +kernel
theorem dX11_mayBeAhead_83 : decode cX11_mayBeAhead 83 = .ok (.goto 58, 3) := by decide +kernel
theorem dX11_mayBeAhead_86 : decode cX11_mayBeAhead 86 = .ok (.aload_n 0, 1) := by decide +kernel
theorem dX11_mayBeAhead_87 : decode cX11_mayBeAhead 87 = .ok (.getfield 70, 3) := by decide +kernel
theorem dX11_mayBeAhead_90 : decode cX11_mayBeAhead 90 = .ok (.iload 7, 2) := by decide +kernel
theorem dX11_mayBeAhead_92 : decode cX11_mayBeAhead 92 = .ok (.iaload, 1) := by decide +kernel
theorem dX11_mayBeAhead_93 : decode cX11_mayBeAhead 93 = .ok (.aload_n 0, 1) := by decide +kernel
theorem dX11_mayBeAhead_94 : decode cX11_mayBeAhead 94 = .ok (.getfield 28, 3) := by decide +kernel
theorem dX11_mayBeAhead_97 : decode cX11_mayBeAhead 97 = .ok (.iload 6, 2) := by decide +kernel
theorem dX11_mayBeAhead_99 : decode cX11_mayBeAhead 99 = .ok (.iaload, 1) := by decide +kernel
theorem dX11_mayBeAhead_100 : decode cX11_mayBeAhead 100 = .ok (.invokestatic 126, 3) := by decide +kernel
theorem dX11_mayBeAhead_103 : decode cX11_mayBeAhead 103 = .ok (.aload_n 0, 1) := by decide +kernel
theorem dX11_mayBeAhead_104 : decode cX11_mayBeAhead 104 = .ok (.getfield 31, 3) := by decide +kernel
theorem dX11_mayBeAhead_107 : decode cX11_mayBeAhead 107 = .ok (.iload 6, 2) := by decide +kernel
theorem dX11_mayBeAhead_109 : decode cX11_mayBeAhead 109 = .ok (.iaload, 1) := by decide +kernel
theorem dX11_mayBeAhead_110 : decode cX11_mayBeAhead 110 = .ok (.iadd, 1) := by decide +kernel
theorem dX11_mayBeAhead_111 : decode cX11_mayBeAhead 111 = .ok (.istore 8, 2) := by decide +kernel
theorem dX11_mayBeAhead_113 : decode cX11_mayBeAhead 113 = .ok (.iload 8, 2) := by decide +kernel
theorem dX11_mayBeAhead_115 : decode cX11_mayBeAhead 115 = .ok (.aload_n 0, 1) := by decide +kernel
theorem dX11_mayBeAhead_116 : decode cX11_mayBeAhead 116 = .ok (.getfield 34, 3) := by decide +kernel
theorem dX11_mayBeAhead_119 : decode cX11_mayBeAhead 119 = .ok (.iload 6, 2) := by decide +kernel
theorem dX11_mayBeAhead_121 : decode cX11_mayBeAhead 121 = .ok (.iaload, 1) := by decide +kernel
theorem dX11_mayBeAhead_122 : decode cX11_mayBeAhead 122 = .ok (.iadd, 1) := by decide +kernel
theorem dX11_mayBeAhead_123 : decode cX11_mayBeAhead 123 = .ok (.iload_n 3, 1) := by decide +kernel
theorem dX11_mayBeAhead_124 : decode cX11_mayBeAhead 124 = .ok (.if_icmp .gt 13, 3) := by decide +kernel
theorem dX11_mayBeAhead_127 : decode cX11_mayBeAhead 127 = .ok (.iload 5, 2) := by decide +kernel
theorem dX11_mayBeAhead_129 : decode cX11_mayBeAhead 129 = .ok (.iload 8, 2) := by decide +kernel
theorem dX11_mayBeAhead_131 : decode cX11_mayBeAhead 131 = .ok (.invokestatic 193, 3) := by decide +kernel
theorem dX11_mayBeAhead_134 : decode cX11_mayBeAhead 134 = .ok (.goto 5, 3) := by decide +kernel
theorem dX11_mayBeAhead_137 : decode cX11_mayBeAhead 137 = .ok (.iload 5, 2) := by decide +kernel
theorem dX11_mayBeAhead_139 : decode cX11_mayBeAhead 139 = .ok (.istore 5, 2) := by decide +kernel
theorem dX11_mayBeAhead_141 : decode cX11_mayBeAhead 141 = .ok (.iinc 6 1, 3) := by decide +kernel
theorem dX11_mayBeAhead_144 : decode cX11_mayBeAhead 144 = .ok (.goto (-117), 3) := by decide +kernel
theorem dX11_mayBeAhead_147 : decode cX11_mayBeAhead 147 = .ok (.aload_n 0, 1) := by decide +kernel
theorem dX11_mayBeAhead_148 : decode cX11_mayBeAhead 148 = .ok (.getfield 70, 3) := by decide +kernel
theorem dX11_mayBeAhead_151 : decode cX11_mayBeAhead 151 = .ok (.iload 4, 2) := by decide +kernel
theorem dX11_mayBeAhead_153 : decode cX11_mayBeAhead 153 = .ok (.iload 5, 2) := by decide +kernel
theorem dX11_mayBeAhead_155 : decode cX11_mayBeAhead 155 = .ok (.iastore, 1) := by decide +kernel
theorem dX11_mayBeAhead_156 : decode cX11_mayBeAhead 156 = .ok (.iinc 4 1, 3) := by decide +kernel
theorem dX11_mayBeAhead_159 : decode cX11_mayBeAhead 159 = .ok (.goto (-149), 3) := by decide +kernel
theorem dX11_mayBeAhead_162 : decode cX11_mayBeAhead 162 = .ok (.aload_n 0, 1) := by decide +kernel
theorem dX11_mayBeAhead_163 : decode cX11_mayBeAhead 163 = .ok (.getfield 70, 3) := by decide +kernel
theorem dX11_mayBeAhead_166 : decode cX11_mayBeAhead 166 = .ok (.aload_n 0, 1) := by decide +kernel
theorem dX11_mayBeAhead_167 : decode cX11_mayBeAhead 167 = .ok (.invokevirtual 283, 3) := by decide +kernel
theorem dX11_mayBeAhead_170 : decode cX11_mayBeAhead 170 = .ok (.iaload, 1) := by decide +kernel
theorem dX11_mayBeAhead_171 : decode cX11_mayBeAhead 171 = .ok (.sipush 999, 3) := by decide +kernel
theorem dX11_mayBeAhead_174 : decode cX11_mayBeAhead 174 = .ok (.if_icmp .ge 7, 3) := by decide +kernel
theorem dX11_mayBeAhead_177 : decode cX11_mayBeAhead 177 = .ok (.iconst 1, 1) := by decide +kernel
theorem dX11_mayBeAhead_178 : decode cX11_mayBeAhead 178 = .ok (.goto 4, 3) := by decide +kernel
theorem dX11_mayBeAhead_181 : decode cX11_mayBeAhead 181 = .ok (.iconst 0, 1) := by decide +kernel
theorem dX11_mayBeAhead_182 : decode cX11_mayBeAhead 182 = .ok (.ireturn, 1) := by decide +kernel
theorem dX11_must_0 : decode cX11_must 0 = .ok (.aload_n 0, 1) := by decide +kernel
theorem dX11_must_1 : decode cX11_must 1 = .ok (.iload_n 1, 1) := by decide +kernel
theorem dX11_must_2 : decode cX11_must 2 = .ok (.invokevirtual 148, 3) := by decide +kernel
theorem dX11_must_5 : decode cX11_must 5 = .ok (.ifCond .ne 6, 3) := by decide +kernel
theorem dX11_must_8 : decode cX11_must 8 = .ok (.bipush (-2), 2) := by decide +kernel
theorem dX11_must_10 : decode cX11_must 10 = .ok (.ireturn, 1) := by decide +kernel
theorem dX11_must_11 : decode cX11_must 11 = .ok (.aload_n 0, 1) := by decide +kernel
theorem dX11_must_12 : decode cX11_must 12 = .ok (.invokevirtual 205, 3) := by decide +kernel
theorem dX11_must_15 : decode cX11_must 15 = .ok (.aload_n 0, 1) := by decide +kernel
theorem dX11_must_16 : decode cX11_must 16 = .ok (.invokevirtual 289, 3) := by decide +kernel
theorem dX11_must_19 : decode cX11_must 19 = .ok (.istore_n 2, 1) := by decide +kernel
theorem dX11_must_20 : decode cX11_must 20 = .ok (.iconst 0, 1) := by decide +kernel
theorem dX11_must_21 : decode cX11_must 21 = .ok (.istore_n 3, 1) := by decide +kernel
theorem dX11_must_22 : decode cX11_must 22 = .ok (.iconst 0, 1) := by decide +kernel
theorem dX11_must_23 : decode cX11_must 23 = .ok (.istore 4, 2) := by decide +kernel
theorem dX11_must_25 : decode cX11_must 25 = .ok (.iload 4, 2) := by decide +kernel
theorem dX11_must_27 : decode cX11_must 27 = .ok (.aload_n 0, 1) := by decide +kernel
theorem dX11_must_28 : decode cX11_must 28 = .ok (.getfield 111, 3) := by decide +kernel
theorem dX11_must_31 : decode cX11_must 31 = .ok (.if_icmp .ge 37, 3) := by decide +kernel
theorem dX11_must_34 : decode cX11_must 34 = .ok (.iload_n 3, 1) := by decide +kernel
theorem dX11_must_35 : decode cX11_must 35 = .ok (.iload 4, 2) := by decide +kernel
theorem dX11_must_37 : decode cX11_must 37 = .ok (.iload_n 1, 1) := by decide +kernel
theorem dX11_must_38 : decode cX11_must 38 = .ok (.if_icmp .eq 21, 3) := by decide +kernel
theorem dX11_must_41 : decode cX11_must 41 = .ok (.aload_n 0, 1) := by decide +kernel
theorem dX11_must_42 : decode cX11_must 42 = .ok (.iload_n 1, 1) := by decide +kernel
theorem dX11_must_43 : decode cX11_must 43 = .ok (.iload 4, 2) := by decide +kernel
theorem dX11_must_45 : decode cX11_must 45 = .ok (.iload_n 2, 1) := by decide +kernel
theorem dX11_must_46 : decode cX11_must 46 = .ok (.invokevirtual 299, 3) := by decide +kernel
theorem dX11_must_49 : decode cX11_must 49 = .ok (.ifCond .ne 10, 3) := by decide +kernel
theorem dX11_must_52 : decode cX11_must 52 = .ok (.iconst 1, 1) := by decide +kernel
theorem dX11_must_53 : decode cX11_must 53 = .ok (.iload 4, 2) := by decide +kernel
theorem dX11_must_55 : decode cX11_must 55 = .ok (.ishl, 1) := by decide +kernel
theorem dX11_must_56 : decode cX11_must 56 = .ok (.goto 4, 3) := by decide +kernel
theorem dX11_must_59 : decode cX11_must 59 = .ok (.iconst 0, 1) := by decide +kernel
theorem dX11_must_60 : decode cX11_must 60 = .ok (.ior, 1) := by decide +kernel
theorem dX11_must_61 : decode cX11_must 61 = .ok (.istore_n 3, 1) := by decide +kernel
theorem dX11_must_62 : decode cX11_must 62 = .ok (.iinc 4 1, 3) := by decide +kernel
theorem dX11_must_65 : decode cX11_must 65 = .ok (.goto (-40), 3) := by decide +kernel
theorem dX11_must_68 : decode cX11_must 68 = .ok (.iload_n 3, 1) := by decide +kernel
theorem dX11_must_69 : decode cX11_must 69 = .ok (.ireturn, 1) := by decide +kernel
theorem dX11_room_0 : decode cX11_room 0 = .ok (.aload_n 0, 1) := by decide +kernel
theorem dX11_room_1 : decode cX11_room 1 = .ok (.iload_n 1, 1) := by decide +kernel
theorem dX11_room_2 : decode cX11_room 2 = .ok (.invokevirtual 148, 3) := by decide +kernel
theorem dX11_room_5 : decode cX11_room 5 = .ok (.ifCond .ne 6, 3) := by decide +kernel
theorem dX11_room_8 : decode cX11_room 8 = .ok (.bipush (-2), 2) := by decide +kernel
theorem dX11_room_10 : decode cX11_room 10 = .ok (.ireturn, 1) := by decide +kernel
theorem dX11_room_11 : decode cX11_room 11 = .ok (.aload_n 0, 1) := by decide +kernel
theorem dX11_room_12 : decode cX11_room 12 = .ok (.invokevirtual 205, 3) := by decide +kernel
theorem dX11_room_15 : decode cX11_room 15 = .ok (.aload_n 0, 1) := by decide +kernel
theorem dX11_room_16 : decode cX11_room 16 = .ok (.invokevirtual 289, 3) := by decide +kernel
theorem dX11_room_19 : decode cX11_room 19 = .ok (.istore_n 2, 1) := by decide +kernel
theorem dX11_room_20 : decode cX11_room 20 = .ok (.aload_n 0, 1) := by decide +kernel
theorem dX11_room_21 : decode cX11_room 21 = .ok (.getfield 28, 3) := by decide +kernel
theorem dX11_room_24 : decode cX11_room 24 = .ok (.iload_n 1, 1) := by decide +kernel
theorem dX11_room_25 : decode cX11_room 25 = .ok (.iaload, 1) := by decide +kernel
theorem dX11_room_26 : decode cX11_room 26 = .ok (.istore_n 3, 1) := by decide +kernel
theorem dX11_room_27 : decode cX11_room 27 = .ok (.iconst 0, 1) := by decide +kernel
theorem dX11_room_28 : decode cX11_room 28 = .ok (.istore 4, 2) := by decide +kernel
theorem dX11_room_30 : decode cX11_room 30 = .ok (.bipush 100, 2) := by decide +kernel
theorem dX11_room_32 : decode cX11_room 32 = .ok (.istore 5, 2) := by decide +kernel
theorem dX11_room_34 : decode cX11_room 34 = .ok (.iload 4, 2) := by decide +kernel
theorem dX11_room_36 : decode cX11_room 36 = .ok (.iconst 1, 1) := by decide +kernel
theorem dX11_room_37 : decode cX11_room 37 = .ok (.iadd, 1) := by decide +kernel
theorem dX11_room_38 : decode cX11_room 38 = .ok (.iload 5, 2) := by decide +kernel
theorem dX11_room_40 : decode cX11_room 40 = .ok (.if_icmp .ge 48, 3) := by decide +kernel
theorem dX11_room_43 : decode cX11_room 43 = .ok (.iload 4, 2) := by decide +kernel
theorem dX11_room_45 : decode cX11_room 45 = .ok (.iload 5, 2) := by decide +kernel
theorem dX11_room_47 : decode cX11_room 47 = .ok (.iadd, 1) := by decide +kernel
theorem dX11_room_48 : decode cX11_room 48 = .ok (.iconst 2, 1) := by decide +kernel
theorem dX11_room_49 : decode cX11_room 49 = .ok (.idiv, 1) := by decide +kernel
theorem dX11_room_50 : decode cX11_room 50 = .ok (.istore 6, 2) := by decide +kernel
theorem dX11_room_52 : decode cX11_room 52 = .ok (.aload_n 0, 1) := by decide +kernel
theorem dX11_room_53 : decode cX11_room 53 = .ok (.getfield 28, 3) := by decide +kernel
theorem dX11_room_56 : decode cX11_room 56 = .ok (.iload_n 1, 1) := by decide +kernel
theorem dX11_room_57 : decode cX11_room 57 = .ok (.iload_n 3, 1) := by decide +kernel
theorem dX11_room_58 : decode cX11_room 58 = .ok (.iload 6, 2) := by decide +kernel
theorem dX11_room_60 : decode cX11_room 60 = .ok (.iadd, 1) := by decide +kernel
theorem dX11_room_61 : decode cX11_room 61 = .ok (.iastore, 1) := by decide +kernel
theorem dX11_room_62 : decode cX11_room 62 = .ok (.aload_n 0, 1) := by decide +kernel
theorem dX11_room_63 : decode cX11_room 63 = .ok (.aload_n 0, 1) := by decide +kernel
theorem dX11_room_64 : decode cX11_room 64 = .ok (.invokevirtual 283, 3) := by decide +kernel
theorem dX11_room_67 : decode cX11_room 67 = .ok (.iload_n 2, 1) := by decide +kernel
theorem dX11_room_68 : decode cX11_room 68 = .ok (.invokevirtual 280, 3) := by decide +kernel
theorem dX11_room_71 : decode cX11_room 71 = .ok (.ifCond .eq 10, 3) := by decide +kernel
theorem dX11_room_74 : decode cX11_room 74 = .ok (.iload 6, 2) := by decide +kernel
theorem dX11_room_76 : decode cX11_room 76 = .ok (.istore 4, 2) := by decide +kernel
theorem dX11_room_78 : decode cX11_room 78 = .ok (.goto 7, 3) := by decide +kernel
theorem dX11_room_81 : decode cX11_room 81 = .ok (.iload 6, 2) := by decide +kernel
theorem dX11_room_83 : decode cX11_room 83 = .ok (.istore 5, 2) := by decide +kernel
theorem dX11_room_85 : decode cX11_room 85 = .ok (.goto (-51), 3) := by decide +kernel
theorem dX11_room_88 : decode cX11_room 88 = .ok (.iload 4, 2) := by decide +kernel
theorem dX11_room_90 : decode cX11_room 90 = .ok (.ireturn, 1) := by decide +kernel
theorem dX11_gain_0 : decode cX11_gain 0 = .ok (.aload_n 0, 1) := by decide +kernel
theorem dX11_gain_1 : decode cX11_gain 1 = .ok (.iload_n 1, 1) := by decide +kernel
theorem dX11_gain_2 : decode cX11_gain 2 = .ok (.invokevirtual 148, 3) := by decide +kernel
theorem dX11_gain_5 : decode cX11_gain 5 = .ok (.ifCond .ne 6, 3) := by decide +kernel
theorem dX11_gain_8 : decode cX11_gain 8 = .ok (.bipush (-2), 2) := by decide +kernel
theorem dX11_gain_10 : decode cX11_gain 10 = .ok (.ireturn, 1) := by decide +kernel
theorem dX11_gain_11 : decode cX11_gain 11 = .ok (.aload_n 0, 1) := by decide +kernel
theorem dX11_gain_12 : decode cX11_gain 12 = .ok (.invokevirtual 205, 3) := by decide +kernel
theorem dX11_gain_15 : decode cX11_gain 15 = .ok (.aload_n 0, 1) := by decide +kernel
theorem dX11_gain_16 : decode cX11_gain 16 = .ok (.invokevirtual 289, 3) := by decide +kernel
theorem dX11_gain_19 : decode cX11_gain 19 = .ok (.istore_n 2, 1) := by decide +kernel
theorem dX11_gain_20 : decode cX11_gain 20 = .ok (.iload_n 2, 1) := by decide +kernel
theorem dX11_gain_21 : decode cX11_gain 21 = .ok (.aload_n 0, 1) := by decide +kernel
theorem dX11_gain_22 : decode cX11_gain 22 = .ok (.aload_n 0, 1) := by decide +kernel
theorem dX11_gain_23 : decode cX11_gain 23 = .ok (.invokevirtual 283, 3) := by decide +kernel
theorem dX11_gain_26 : decode cX11_gain 26 = .ok (.iconst 1, 1) := by decide +kernel
theorem dX11_gain_27 : decode cX11_gain 27 = .ok (.iload_n 1, 1) := by decide +kernel
theorem dX11_gain_28 : decode cX11_gain 28 = .ok (.ishl, 1) := by decide +kernel
theorem dX11_gain_29 : decode cX11_gain 29 = .ok (.ixor, 1) := by decide +kernel
theorem dX11_gain_30 : decode cX11_gain 30 = .ok (.iload_n 2, 1) := by decide +kernel
theorem dX11_gain_31 : decode cX11_gain 31 = .ok (.invokevirtual 286, 3) := by decide +kernel
theorem dX11_gain_34 : decode cX11_gain 34 = .ok (.isub, 1) := by decide +kernel
theorem dX11_gain_35 : decode cX11_gain 35 = .ok (.ireturn, 1) := by decide +kernel
theorem dX11_isOrder_0 : decode cX11_isOrder 0 = .ok (.aload_n 0, 1) := by decide +kernel
theorem dX11_isOrder_1 : decode cX11_isOrder 1 = .ok (.getfield 98, 3) := by decide +kernel
theorem dX11_isOrder_4 : decode cX11_isOrder 4 = .ok (.iload_n 1, 1) := by decide +kernel
theorem dX11_isOrder_5 : decode cX11_isOrder 5 = .ok (.iaload, 1) := by decide +kernel
theorem dX11_isOrder_6 : decode cX11_isOrder 6 = .ok (.aload_n 0, 1) := by decide +kernel
theorem dX11_isOrder_7 : decode cX11_isOrder 7 = .ok (.getfield 111, 3) := by decide +kernel
theorem dX11_isOrder_10 : decode cX11_isOrder 10 = .ok (.if_icmp .eq 5, 3) := by decide +kernel
theorem dX11_isOrder_13 : decode cX11_isOrder 13 = .ok (.iconst 0, 1) := by decide +kernel
theorem dX11_isOrder_14 : decode cX11_isOrder 14 = .ok (.ireturn, 1) := by decide +kernel
theorem dX11_isOrder_15 : decode cX11_isOrder 15 = .ok (.iconst 0, 1) := by decide +kernel
theorem dX11_isOrder_16 : decode cX11_isOrder 16 = .ok (.istore_n 2, 1) := by decide +kernel
theorem dX11_isOrder_17 : decode cX11_isOrder 17 = .ok (.iconst 0, 1) := by decide +kernel
theorem dX11_isOrder_18 : decode cX11_isOrder 18 = .ok (.istore_n 3, 1) := by decide +kernel
theorem dX11_isOrder_19 : decode cX11_isOrder 19 = .ok (.iload_n 3, 1) := by decide +kernel
theorem dX11_isOrder_20 : decode cX11_isOrder 20 = .ok (.aload_n 0, 1) := by decide +kernel
theorem dX11_isOrder_21 : decode cX11_isOrder 21 = .ok (.getfield 111, 3) := by decide +kernel
theorem dX11_isOrder_24 : decode cX11_isOrder 24 = .ok (.if_icmp .ge 50, 3) := by decide +kernel
theorem dX11_isOrder_27 : decode cX11_isOrder 27 = .ok (.aload_n 0, 1) := by decide +kernel
theorem dX11_isOrder_28 : decode cX11_isOrder 28 = .ok (.getfield 101, 3) := by decide +kernel
theorem dX11_isOrder_31 : decode cX11_isOrder 31 = .ok (.bipush 40, 2) := by decide +kernel
theorem dX11_isOrder_33 : decode cX11_isOrder 33 = .ok (.iload_n 1, 1) := by decide +kernel
theorem dX11_isOrder_34 : decode cX11_isOrder 34 = .ok (.imul, 1) := by decide +kernel
theorem dX11_isOrder_35 : decode cX11_isOrder 35 = .ok (.iload_n 3, 1) := by decide +kernel
theorem dX11_isOrder_36 : decode cX11_isOrder 36 = .ok (.iadd, 1) := by decide +kernel
theorem dX11_isOrder_37 : decode cX11_isOrder 37 = .ok (.laload, 1) := by decide +kernel
theorem dX11_isOrder_38 : decode cX11_isOrder 38 = .ok (.lstore 4, 2) := by decide +kernel
theorem dX11_isOrder_40 : decode cX11_isOrder 40 = .ok (.lload 4, 2) := by decide +kernel
theorem dX11_isOrder_42 : decode cX11_isOrder 42 = .ok (.lconst 0, 1) := by decide +kernel
theorem dX11_isOrder_43 : decode cX11_isOrder 43 = .ok (.lcmp, 1) := by decide +kernel
theorem dX11_isOrder_44 : decode cX11_isOrder 44 = .ok (.ifCond .lt 14, 3) := by decide +kernel
theorem dX11_isOrder_47 : decode cX11_isOrder 47 = .ok (.lload 4, 2) := by decide +kernel
theorem dX11_isOrder_49 : decode cX11_isOrder 49 = .ok (.aload_n 0, 1) := by decide +kernel
theorem dX11_isOrder_50 : decode cX11_isOrder 50 = .ok (.getfield 111, 3) := by decide +kernel
theorem dX11_isOrder_53 : decode cX11_isOrder 53 = .ok (.i2l, 1) := by decide +kernel
theorem dX11_isOrder_54 : decode cX11_isOrder 54 = .ok (.lcmp, 1) := by decide +kernel
theorem dX11_isOrder_55 : decode cX11_isOrder 55 = .ok (.ifCond .lt 5, 3) := by decide +kernel
theorem dX11_isOrder_58 : decode cX11_isOrder 58 = .ok (.iconst 0, 1) := by decide +kernel
theorem dX11_isOrder_59 : decode cX11_isOrder 59 = .ok (.ireturn, 1) := by decide +kernel
theorem dX11_isOrder_60 : decode cX11_isOrder 60 = .ok (.iload_n 2, 1) := by decide +kernel
theorem dX11_isOrder_61 : decode cX11_isOrder 61 = .ok (.iconst 1, 1) := by decide +kernel
theorem dX11_isOrder_62 : decode cX11_isOrder 62 = .ok (.lload 4, 2) := by decide +kernel
theorem dX11_isOrder_64 : decode cX11_isOrder 64 = .ok (.l2i, 1) := by decide +kernel
theorem dX11_isOrder_65 : decode cX11_isOrder 65 = .ok (.ishl, 1) := by decide +kernel
theorem dX11_isOrder_66 : decode cX11_isOrder 66 = .ok (.ior, 1) := by decide +kernel
theorem dX11_isOrder_67 : decode cX11_isOrder 67 = .ok (.istore_n 2, 1) := by decide +kernel
theorem dX11_isOrder_68 : decode cX11_isOrder 68 = .ok (.iinc 3 1, 3) := by decide +kernel
theorem dX11_isOrder_71 : decode cX11_isOrder 71 = .ok (.goto (-52), 3) := by decide +kernel
theorem dX11_isOrder_74 : decode cX11_isOrder 74 = .ok (.iload_n 2, 1) := by decide +kernel
theorem dX11_isOrder_75 : decode cX11_isOrder 75 = .ok (.aload_n 0, 1) := by decide +kernel
theorem dX11_isOrder_76 : decode cX11_isOrder 76 = .ok (.invokevirtual 283, 3) := by decide +kernel
theorem dX11_isOrder_79 : decode cX11_isOrder 79 = .ok (.if_icmp .ne 7, 3) := by decide +kernel
theorem dX11_isOrder_82 : decode cX11_isOrder 82 = .ok (.iconst 1, 1) := by decide +kernel
theorem dX11_isOrder_83 : decode cX11_isOrder 83 = .ok (.goto 4, 3) := by decide +kernel
theorem dX11_isOrder_86 : decode cX11_isOrder 86 = .ok (.iconst 0, 1) := by decide +kernel
theorem dX11_isOrder_87 : decode cX11_isOrder 87 = .ok (.ireturn, 1) := by decide +kernel
theorem dX11_judge_0 : decode cX11_judge 0 = .ok (.iload_n 1, 1) := by decide +kernel
theorem dX11_judge_1 : decode cX11_judge 1 = .ok (.invokestatic 302, 3) := by decide +kernel
theorem dX11_judge_4 : decode cX11_judge 4 = .ok (.ifCond .eq 12, 3) := by decide +kernel
theorem dX11_judge_7 : decode cX11_judge 7 = .ok (.iload_n 2, 1) := by decide +kernel
theorem dX11_judge_8 : decode cX11_judge 8 = .ok (.iconst 0, 1) := by decide +kernel
theorem dX11_judge_9 : decode cX11_judge 9 = .ok (.iconst 3, 1) := by decide +kernel
theorem dX11_judge_10 : decode cX11_judge 10 = .ok (.invokestatic 114, 3) := by decide +kernel
theorem dX11_judge_13 : decode cX11_judge 13 = .ok (.ifCond .ne 7, 3) := by decide +kernel
theorem dX11_judge_16 : decode cX11_judge 16 = .ok (.ldc2_w 305, 3) := by decide +kernel
theorem dX11_judge_19 : decode cX11_judge 19 = .ok (.lreturn, 1) := by decide +kernel
theorem dX11_judge_20 : decode cX11_judge 20 = .ok (.aload_n 0, 1) := by decide +kernel
theorem dX11_judge_21 : decode cX11_judge 21 = .ok (.getfield 95, 3) := by decide +kernel
theorem dX11_judge_24 : decode cX11_judge 24 = .ok (.iload_n 1, 1) := by decide +kernel
theorem dX11_judge_25 : decode cX11_judge 25 = .ok (.iaload, 1) := by decide +kernel
theorem dX11_judge_26 : decode cX11_judge 26 = .ok (.ifCond .ge 7, 3) := by decide +kernel
theorem dX11_judge_29 : decode cX11_judge 29 = .ok (.ldc2_w 307, 3) := by decide +kernel
theorem dX11_judge_32 : decode cX11_judge 32 = .ok (.lreturn, 1) := by decide +kernel
theorem dX11_judge_33 : decode cX11_judge 33 = .ok (.aload_n 0, 1) := by decide +kernel
theorem dX11_judge_34 : decode cX11_judge 34 = .ok (.iload_n 1, 1) := by decide +kernel
theorem dX11_judge_35 : decode cX11_judge 35 = .ok (.invokevirtual 309, 3) := by decide +kernel
theorem dX11_judge_38 : decode cX11_judge 38 = .ok (.ifCond .ne 7, 3) := by decide +kernel
theorem dX11_judge_41 : decode cX11_judge 41 = .ok (.ldc2_w 312, 3) := by decide +kernel
theorem dX11_judge_44 : decode cX11_judge 44 = .ok (.lreturn, 1) := by decide +kernel
theorem dX11_judge_45 : decode cX11_judge 45 = .ok (.aload_n 0, 1) := by decide +kernel
theorem dX11_judge_46 : decode cX11_judge 46 = .ok (.invokevirtual 205, 3) := by decide +kernel
theorem dX11_judge_49 : decode cX11_judge 49 = .ok (.aload_n 0, 1) := by decide +kernel
theorem dX11_judge_50 : decode cX11_judge 50 = .ok (.invokevirtual 208, 3) := by decide +kernel
theorem dX11_judge_53 : decode cX11_judge 53 = .ok (.istore_n 3, 1) := by decide +kernel
theorem dX11_judge_54 : decode cX11_judge 54 = .ok (.iconst 0, 1) := by decide +kernel
theorem dX11_judge_55 : decode cX11_judge 55 = .ok (.istore 4, 2) := by decide +kernel
theorem dX11_judge_57 : decode cX11_judge 57 = .ok (.iconst 0, 1) := by decide +kernel
theorem dX11_judge_58 : decode cX11_judge 58 = .ok (.istore 5, 2) := by decide +kernel
theorem dX11_judge_60 : decode cX11_judge 60 = .ok (.aload_n 0, 1) := by decide +kernel
theorem dX11_judge_61 : decode cX11_judge 61 = .ok (.iconst 0, 1) := by decide +kernel
theorem dX11_judge_62 : decode cX11_judge 62 = .ok (.putfield 314, 3) := by decide +kernel
theorem dX11_judge_65 : decode cX11_judge 65 = .ok (.aload_n 0, 1) := by decide +kernel
theorem dX11_judge_66 : decode cX11_judge 66 = .ok (.iconst 0, 1) := by decide +kernel
theorem dX11_judge_67 : decode cX11_judge 67 = .ok (.putfield 317, 3) := by decide +kernel
theorem dX11_judge_70 : decode cX11_judge 70 = .ok (.iconst 0, 1) := by decide +kernel
theorem dX11_judge_71 : decode cX11_judge 71 = .ok (.istore 6, 2) := by decide +kernel
theorem dX11_judge_73 : decode cX11_judge 73 = .ok (.iload 6, 2) := by decide +kernel
theorem dX11_judge_75 : decode cX11_judge 75 = .ok (.aload_n 0, 1) := by decide +kernel
theorem dX11_judge_76 : decode cX11_judge 76 = .ok (.getfield 111, 3) := by decide +kernel
theorem dX11_judge_79 : decode cX11_judge 79 = .ok (.if_icmp .ge 114, 3) := by decide +kernel
theorem dX11_judge_82 : decode cX11_judge 82 = .ok (.aload_n 0, 1) := by decide +kernel
theorem dX11_judge_83 : decode cX11_judge 83 = .ok (.getfield 101, 3) := by decide +kernel
theorem dX11_judge_86 : decode cX11_judge 86 = .ok (.bipush 40, 2) := by decide +kernel
theorem dX11_judge_88 : decode cX11_judge 88 = .ok (.iload_n 1, 1) := by decide +kernel
theorem dX11_judge_89 : decode cX11_judge 89 = .ok (.imul, 1) := by decide +kernel
theorem dX11_judge_90 : decode cX11_judge 90 = .ok (.iload 6, 2) := by decide +kernel
theorem dX11_judge_92 : decode cX11_judge 92 = .ok (.iadd, 1) := by decide +kernel
theorem dX11_judge_93 : decode cX11_judge 93 = .ok (.laload, 1) := by decide +kernel
theorem dX11_judge_94 : decode cX11_judge 94 = .ok (.l2i, 1) := by decide +kernel
theorem dX11_judge_95 : decode cX11_judge 95 = .ok (.istore 7, 2) := by decide +kernel
theorem dX11_judge_97 : decode cX11_judge 97 = .ok (.iload 5, 2) := by decide +kernel
theorem dX11_judge_99 : decode cX11_judge 99 = .ok (.aload_n 0, 1) := by decide +kernel
theorem dX11_judge_100 : decode cX11_judge 100 = .ok (.getfield 28, 3) := by decide +kernel
theorem dX11_judge_103 : decode cX11_judge 103 = .ok (.iload 7, 2) := by decide +kernel
theorem dX11_judge_105 : decode cX11_judge 105 = .ok (.iaload, 1) := by decide +kernel
theorem dX11_judge_106 : decode cX11_judge 106 = .ok (.invokestatic 126, 3) := by decide +kernel
theorem dX11_judge_109 : decode cX11_judge 109 = .ok (.istore 8, 2) := by decide +kernel
theorem dX11_judge_111 : decode cX11_judge 111 = .ok (.aload_n 0, 1) := by decide +kernel
theorem dX11_judge_112 : decode cX11_judge 112 = .ok (.aload_n 0, 1) := by decide +kernel
theorem dX11_judge_113 : decode cX11_judge 113 = .ok (.getfield 314, 3) := by decide +kernel
theorem dX11_judge_116 : decode cX11_judge 116 = .ok (.iload 8, 2) := by decide +kernel
theorem dX11_judge_118 : decode cX11_judge 118 = .ok (.aload_n 0, 1) := by decide +kernel
theorem dX11_judge_119 : decode cX11_judge 119 = .ok (.getfield 28, 3) := by decide +kernel
theorem dX11_judge_122 : decode cX11_judge 122 = .ok (.iload 7, 2) := by decide +kernel
theorem dX11_judge_124 : decode cX11_judge 124 = .ok (.iaload, 1) := by decide +kernel
theorem dX11_judge_125 : decode cX11_judge 125 = .ok (.isub, 1) := by decide +kernel
theorem dX11_judge_126 : decode cX11_judge 126 = .ok (.invokestatic 126, 3) := by decide +kernel
theorem dX11_judge_129 : decode cX11_judge 129 = .ok (.putfield 314, 3) := by decide +kernel
theorem dX11_judge_132 : decode cX11_judge 132 = .ok (.aload_n 0, 1) := by decide +kernel
theorem dX11_judge_133 : decode cX11_judge 133 = .ok (.dup, 1) := by decide +kernel
theorem dX11_judge_134 : decode cX11_judge 134 = .ok (.getfield 317, 3) := by decide +kernel
theorem dX11_judge_137 : decode cX11_judge 137 = .ok (.iload 8, 2) := by decide +kernel
theorem dX11_judge_139 : decode cX11_judge 139 = .ok (.aload_n 0, 1) := by decide +kernel
theorem dX11_judge_140 : decode cX11_judge 140 = .ok (.getfield 40, 3) := by decide +kernel
theorem dX11_judge_143 : decode cX11_judge 143 = .ok (.iload 7, 2) := by decide +kernel
theorem dX11_judge_145 : decode cX11_judge 145 = .ok (.iaload, 1) := by decide +kernel
theorem dX11_judge_146 : decode cX11_judge 146 = .ok (.if_icmp .le 7, 3) := by decide +kernel
theorem dX11_judge_149 : decode cX11_judge 149 = .ok (.iconst 1, 1) := by decide +kernel
theorem dX11_judge_150 : decode cX11_judge 150 = .ok (.goto 4, 3) := by decide +kernel
theorem dX11_judge_153 : decode cX11_judge 153 = .ok (.iconst 0, 1) := by decide +kernel
theorem dX11_judge_154 : decode cX11_judge 154 = .ok (.iadd, 1) := by decide +kernel
theorem dX11_judge_155 : decode cX11_judge 155 = .ok (.putfield 317, 3) := by decide +kernel
theorem dX11_judge_158 : decode cX11_judge 158 = .ok (.iload 8, 2) := by decide +kernel
theorem dX11_judge_160 : decode cX11_judge 160 = .ok (.aload_n 0, 1) := by decide +kernel
theorem dX11_judge_161 : decode cX11_judge 161 = .ok (.getfield 31, 3) := by decide +kernel
theorem dX11_judge_164 : decode cX11_judge 164 = .ok (.iload 7, 2) := by decide +kernel
theorem dX11_judge_166 : decode cX11_judge 166 = .ok (.iaload, 1) := by decide +kernel
theorem dX11_judge_167 : decode cX11_judge 167 = .ok (.iadd, 1) := by decide +kernel
theorem dX11_judge_168 : decode cX11_judge 168 = .ok (.istore 5, 2) := by decide +kernel
theorem dX11_judge_170 : decode cX11_judge 170 = .ok (.iload 4, 2) := by decide +kernel
theorem dX11_judge_172 : decode cX11_judge 172 = .ok (.iload 5, 2) := by decide +kernel
theorem dX11_judge_174 : decode cX11_judge 174 = .ok (.aload_n 0, 1) := by decide +kernel
theorem dX11_judge_175 : decode cX11_judge 175 = .ok (.getfield 34, 3) := by decide +kernel
theorem dX11_judge_178 : decode cX11_judge 178 = .ok (.iload 7, 2) := by decide +kernel
theorem dX11_judge_180 : decode cX11_judge 180 = .ok (.iaload, 1) := by decide +kernel
theorem dX11_judge_181 : decode cX11_judge 181 = .ok (.iadd, 1) := by decide +kernel
theorem dX11_judge_182 : decode cX11_judge 182 = .ok (.invokestatic 126, 3) := by decide +kernel
theorem dX11_judge_185 : decode cX11_judge 185 = .ok (.istore 4, 2) := by decide +kernel
theorem dX11_judge_187 : decode cX11_judge 187 = .ok (.iinc 6 1, 3) := by decide +kernel
theorem dX11_judge_190 : decode cX11_judge 190 = .ok (.goto (-117), 3) := by decide +kernel
theorem dX11_judge_193 : decode cX11_judge 193 = .ok (.iload_n 2, 1) := by decide +kernel
theorem dX11_judge_194 : decode cX11_judge 194 = .ok (.ifCond .ne 9, 3) := by decide +kernel
theorem dX11_judge_197 : decode cX11_judge 197 = .ok (.iload 4, 2) := by decide +kernel
theorem dX11_judge_199 : decode cX11_judge 199 = .ok (.i2l, 1) := by decide +kernel
theorem dX11_judge_200 : decode cX11_judge 200 = .ok (.goto 37, 3) := by decide +kernel
theorem dX11_judge_203 : decode cX11_judge 203 = .ok (.iload_n 2, 1) := by decide +kernel
theorem dX11_judge_204 : decode cX11_judge 204 = .ok (.iconst 1, 1) := by decide +kernel
theorem dX11_judge_205 : decode cX11_judge 205 = .ok (.if_icmp .ne 14, 3) := by decide +kernel
theorem dX11_judge_208 : decode cX11_judge 208 = .ok (.iload 5, 2) := by decide +kernel
theorem dX11_judge_210 : decode cX11_judge 210 = .ok (.aload_n 0, 1) := by decide +kernel
theorem dX11_judge_211 : decode cX11_judge 211 = .ok (.invokevirtual 211, 3) := by decide +kernel
theorem dX11_judge_214 : decode cX11_judge 214 = .ok (.isub, 1) := by decide +kernel
theorem dX11_judge_215 : decode cX11_judge 215 = .ok (.i2l, 1) := by decide +kernel
theorem dX11_judge_216 : decode cX11_judge 216 = .ok (.goto 21, 3) := by decide +kernel
theorem dX11_judge_219 : decode cX11_judge 219 = .ok (.iload_n 2, 1) := by decide +kernel
theorem dX11_judge_220 : decode cX11_judge 220 = .ok (.iconst 2, 1) := by decide +kernel
theorem dX11_judge_221 : decode cX11_judge 221 = .ok (.if_icmp .ne 11, 3) := by decide +kernel
theorem dX11_judge_224 : decode cX11_judge 224 = .ok (.aload_n 0, 1) := by decide +kernel
theorem dX11_judge_225 : decode cX11_judge 225 = .ok (.getfield 317, 3) := by decide +kernel
theorem dX11_judge_228 : decode cX11_judge 228 = .ok (.i2l, 1) := by decide +kernel
theorem dX11_judge_229 : decode cX11_judge 229 = .ok (.goto 8, 3) := by decide +kernel
theorem dX11_judge_232 : decode cX11_judge 232 = .ok (.aload_n 0, 1) := by decide +kernel
theorem dX11_judge_233 : decode cX11_judge 233 = .ok (.getfield 314, 3) := by decide +kernel
theorem dX11_judge_236 : decode cX11_judge 236 = .ok (.i2l, 1) := by decide +kernel
theorem dX11_judge_237 : decode cX11_judge 237 = .ok (.lreturn, 1) := by decide +kernel
theorem dX11_film_0 : decode cX11_film 0 = .ok (.iload_n 1, 1) := by decide +kernel
theorem dX11_film_1 : decode cX11_film 1 = .ok (.invokestatic 302, 3) := by decide +kernel
theorem dX11_film_4 : decode cX11_film 4 = .ok (.ifCond .ne 6, 3) := by decide +kernel
theorem dX11_film_7 : decode cX11_film 7 = .ok (.bipush (-2), 2) := by decide +kernel
theorem dX11_film_9 : decode cX11_film 9 = .ok (.ireturn, 1) := by decide +kernel
theorem dX11_film_10 : decode cX11_film 10 = .ok (.aload_n 0, 1) := by decide +kernel
theorem dX11_film_11 : decode cX11_film 11 = .ok (.iload_n 1, 1) := by decide +kernel
theorem dX11_film_12 : decode cX11_film 12 = .ok (.iconst 0, 1) := by decide +kernel
theorem dX11_film_13 : decode cX11_film 13 = .ok (.aload_n 0, 1) := by decide +kernel
theorem dX11_film_14 : decode cX11_film 14 = .ok (.getfield 111, 3) := by decide +kernel
theorem dX11_film_17 : decode cX11_film 17 = .ok (.invokevirtual 320, 3) := by decide +kernel
theorem dX11_film_20 : decode cX11_film 20 = .ok (.pop, 1) := by decide +kernel
theorem dX11_film_21 : decode cX11_film 21 = .ok (.aload_n 0, 1) := by decide +kernel
theorem dX11_film_22 : decode cX11_film 22 = .ok (.invokevirtual 296, 3) := by decide +kernel
theorem dX11_film_25 : decode cX11_film 25 = .ok (.iconst 0, 1) := by decide +kernel
theorem dX11_film_26 : decode cX11_film 26 = .ok (.istore_n 2, 1) := by decide +kernel
theorem dX11_film_27 : decode cX11_film 27 = .ok (.iload_n 2, 1) := by decide +kernel
theorem dX11_film_28 : decode cX11_film 28 = .ok (.aload_n 0, 1) := by decide +kernel
theorem dX11_film_29 : decode cX11_film 29 = .ok (.getfield 111, 3) := by decide +kernel
theorem dX11_film_32 : decode cX11_film 32 = .ok (.if_icmp .ge 27, 3) := by decide +kernel
theorem dX11_film_35 : decode cX11_film 35 = .ok (.aload_n 0, 1) := by decide +kernel
theorem dX11_film_36 : decode cX11_film 36 = .ok (.getfield 101, 3) := by decide +kernel
theorem dX11_film_39 : decode cX11_film 39 = .ok (.bipush 40, 2) := by decide +kernel
theorem dX11_film_41 : decode cX11_film 41 = .ok (.iload_n 1, 1) := by decide +kernel
theorem dX11_film_42 : decode cX11_film 42 = .ok (.imul, 1) := by decide +kernel
theorem dX11_film_43 : decode cX11_film 43 = .ok (.iload_n 2, 1) := by decide +kernel
theorem dX11_film_44 : decode cX11_film 44 = .ok (.iadd, 1) := by decide +kernel
theorem dX11_film_45 : decode cX11_film 45 = .ok (.aload_n 0, 1) := by decide +kernel
theorem dX11_film_46 : decode cX11_film 46 = .ok (.getfield 82, 3) := by decide +kernel
theorem dX11_film_49 : decode cX11_film 49 = .ok (.iload_n 2, 1) := by decide +kernel
theorem dX11_film_50 : decode cX11_film 50 = .ok (.iaload, 1) := by decide +kernel
theorem dX11_film_51 : decode cX11_film 51 = .ok (.i2l, 1) := by decide +kernel
theorem dX11_film_52 : decode cX11_film 52 = .ok (.lastore, 1) := by decide +kernel
theorem dX11_film_53 : decode cX11_film 53 = .ok (.iinc 2 1, 3) := by decide +kernel
theorem dX11_film_56 : decode cX11_film 56 = .ok (.goto (-29), 3) := by decide +kernel
theorem dX11_film_59 : decode cX11_film 59 = .ok (.aload_n 0, 1) := by decide +kernel
theorem dX11_film_60 : decode cX11_film 60 = .ok (.getfield 111, 3) := by decide +kernel
theorem dX11_film_63 : decode cX11_film 63 = .ok (.ireturn, 1) := by decide +kernel
theorem dX11_draws_0 : decode cX11_draws 0 = .ok (.aload_n 0, 1) := by decide +kernel
theorem dX11_draws_1 : decode cX11_draws 1 = .ok (.invokevirtual 205, 3) := by decide +kernel
theorem dX11_draws_4 : decode cX11_draws 4 = .ok (.iload_n 1, 1) := by decide +kernel
theorem dX11_draws_5 : decode cX11_draws 5 = .ok (.istore_n 3, 1) := by decide +kernel
theorem dX11_draws_6 : decode cX11_draws 6 = .ok (.iconst 0, 1) := by decide +kernel
theorem dX11_draws_7 : decode cX11_draws 7 = .ok (.istore 4, 2) := by decide +kernel
theorem dX11_draws_9 : decode cX11_draws 9 = .ok (.iload 4, 2) := by decide +kernel
theorem dX11_draws_11 : decode cX11_draws 11 = .ok (.aload_n 0, 1) := by decide +kernel
theorem dX11_draws_12 : decode cX11_draws 12 = .ok (.getfield 111, 3) := by decide +kernel
theorem dX11_draws_15 : decode cX11_draws 15 = .ok (.if_icmp .ge 37, 3) := by decide +kernel
theorem dX11_draws_18 : decode cX11_draws 18 = .ok (.iload_n 3, 1) := by decide +kernel
theorem dX11_draws_19 : decode cX11_draws 19 = .ok (.ldc_w 324, 3) := by decide +kernel
theorem dX11_draws_22 : decode cX11_draws 22 = .ok (.imul, 1) := by decide +kernel
theorem dX11_draws_23 : decode cX11_draws 23 = .ok (.sipush 12345, 3) := by decide +kernel
theorem dX11_draws_26 : decode cX11_draws 26 = .ok (.iadd, 1) := by decide +kernel
theorem dX11_draws_27 : decode cX11_draws 27 = .ok (.istore_n 3, 1) := by decide +kernel
theorem dX11_draws_28 : decode cX11_draws 28 = .ok (.aload_n 0, 1) := by decide +kernel
theorem dX11_draws_29 : decode cX11_draws 29 = .ok (.getfield 28, 3) := by decide +kernel
theorem dX11_draws_32 : decode cX11_draws 32 = .ok (.iload 4, 2) := by decide +kernel
theorem dX11_draws_34 : decode cX11_draws 34 = .ok (.dup2, 1) := by decide +kernel
theorem dX11_draws_35 : decode cX11_draws 35 = .ok (.iaload, 1) := by decide +kernel
theorem dX11_draws_36 : decode cX11_draws 36 = .ok (.iload_n 3, 1) := by decide +kernel
theorem dX11_draws_37 : decode cX11_draws 37 = .ok (.bipush 9, 2) := by decide +kernel
theorem dX11_draws_39 : decode cX11_draws 39 = .ok (.iushr, 1) := by decide +kernel
theorem dX11_draws_40 : decode cX11_draws 40 = .ok (.iload_n 2, 1) := by decide +kernel
theorem dX11_draws_41 : decode cX11_draws 41 = .ok (.iconst 1, 1) := by decide +kernel
theorem dX11_draws_42 : decode cX11_draws 42 = .ok (.iadd, 1) := by decide +kernel
theorem dX11_draws_43 : decode cX11_draws 43 = .ok (.irem, 1) := by decide +kernel
theorem dX11_draws_44 : decode cX11_draws 44 = .ok (.iadd, 1) := by decide +kernel
theorem dX11_draws_45 : decode cX11_draws 45 = .ok (.iastore, 1) := by decide +kernel
theorem dX11_draws_46 : decode cX11_draws 46 = .ok (.iinc 4 1, 3) := by decide +kernel
theorem dX11_draws_49 : decode cX11_draws 49 = .ok (.goto (-40), 3) := by decide +kernel
theorem dX11_draws_52 : decode cX11_draws 52 = .ok (.return_, 1) := by decide +kernel
theorem dX11_drawn_0 : decode cX11_drawn 0 = .ok (.iload_n 2, 1) := by decide +kernel
theorem dX11_drawn_1 : decode cX11_drawn 1 = .ok (.iconst 0, 1) := by decide +kernel
theorem dX11_drawn_2 : decode cX11_drawn 2 = .ok (.bipush 30, 2) := by decide +kernel
theorem dX11_drawn_4 : decode cX11_drawn 4 = .ok (.invokestatic 114, 3) := by decide +kernel
theorem dX11_drawn_7 : decode cX11_drawn 7 = .ok (.ifCond .ne 6, 3) := by decide +kernel
theorem dX11_drawn_10 : decode cX11_drawn 10 = .ok (.bipush (-2), 2) := by decide +kernel
theorem dX11_drawn_12 : decode cX11_drawn 12 = .ok (.ireturn, 1) := by decide +kernel
theorem dX11_drawn_13 : decode cX11_drawn 13 = .ok (.aload_n 0, 1) := by decide +kernel
theorem dX11_drawn_14 : decode cX11_drawn 14 = .ok (.iload_n 1, 1) := by decide +kernel
theorem dX11_drawn_15 : decode cX11_drawn 15 = .ok (.iload_n 2, 1) := by decide +kernel
theorem dX11_drawn_16 : decode cX11_drawn 16 = .ok (.invokevirtual 325, 3) := by decide +kernel
theorem dX11_drawn_19 : decode cX11_drawn 19 = .ok (.aload_n 0, 1) := by decide +kernel
theorem dX11_drawn_20 : decode cX11_drawn 20 = .ok (.invokevirtual 289, 3) := by decide +kernel
theorem dX11_drawn_23 : decode cX11_drawn 23 = .ok (.ireturn, 1) := by decide +kernel
theorem dX11_divisor_0 : decode cX11_divisor 0 = .ok (.iload_n 0, 1) := by decide +kernel
theorem dX11_divisor_1 : decode cX11_divisor 1 = .ok (.istore_n 2, 1) := by decide +kernel
theorem dX11_divisor_2 : decode cX11_divisor 2 = .ok (.iload_n 1, 1) := by decide +kernel
theorem dX11_divisor_3 : decode cX11_divisor 3 = .ok (.istore_n 3, 1) := by decide +kernel
theorem dX11_divisor_4 : decode cX11_divisor 4 = .ok (.iload_n 3, 1) := by decide +kernel
theorem dX11_divisor_5 : decode cX11_divisor 5 = .ok (.ifCond .eq 16, 3) := by decide +kernel
theorem dX11_divisor_8 : decode cX11_divisor 8 = .ok (.iload_n 2, 1) := by decide +kernel
theorem dX11_divisor_9 : decode cX11_divisor 9 = .ok (.iload_n 3, 1) := by decide +kernel
theorem dX11_divisor_10 : decode cX11_divisor 10 = .ok (.irem, 1) := by decide +kernel
theorem dX11_divisor_11 : decode cX11_divisor 11 = .ok (.istore 4, 2) := by decide +kernel
theorem dX11_divisor_13 : decode cX11_divisor 13 = .ok (.iload_n 3, 1) := by decide +kernel
theorem dX11_divisor_14 : decode cX11_divisor 14 = .ok (.istore_n 2, 1) := by decide +kernel
theorem dX11_divisor_15 : decode cX11_divisor 15 = .ok (.iload 4, 2) := by decide +kernel
theorem dX11_divisor_17 : decode cX11_divisor 17 = .ok (.istore_n 3, 1) := by decide +kernel
theorem dX11_divisor_18 : decode cX11_divisor 18 = .ok (.goto (-14), 3) := by decide +kernel
theorem dX11_divisor_21 : decode cX11_divisor 21 = .ok (.iload_n 2, 1) := by decide +kernel
theorem dX11_divisor_22 : decode cX11_divisor 22 = .ok (.ireturn, 1) := by decide +kernel
theorem dX11_chance_0 : decode cX11_chance 0 = .ok (.iload_n 2, 1) := by decide +kernel
theorem dX11_chance_1 : decode cX11_chance 1 = .ok (.iconst 1, 1) := by decide +kernel
theorem dX11_chance_2 : decode cX11_chance 2 = .ok (.bipush 8, 2) := by decide +kernel
theorem dX11_chance_4 : decode cX11_chance 4 = .ok (.invokestatic 114, 3) := by decide +kernel
theorem dX11_chance_7 : decode cX11_chance 7 = .ok (.ifCond .eq 35, 3) := by decide +kernel
theorem dX11_chance_10 : decode cX11_chance 10 = .ok (.iload_n 3, 1) := by decide +kernel
theorem dX11_chance_11 : decode cX11_chance 11 = .ok (.iconst 0, 1) := by decide +kernel
theorem dX11_chance_12 : decode cX11_chance 12 = .ok (.bipush 30, 2) := by decide +kernel
theorem dX11_chance_14 : decode cX11_chance 14 = .ok (.invokestatic 114, 3) := by decide +kernel
theorem dX11_chance_17 : decode cX11_chance 17 = .ok (.ifCond .eq 25, 3) := by decide +kernel
theorem dX11_chance_20 : decode cX11_chance 20 = .ok (.iload 4, 2) := by decide +kernel
theorem dX11_chance_22 : decode cX11_chance 22 = .ok (.iconst 0, 1) := by decide +kernel
theorem dX11_chance_23 : decode cX11_chance 23 = .ok (.sipush 999, 3) := by decide +kernel
theorem dX11_chance_26 : decode cX11_chance 26 = .ok (.invokestatic 114, 3) := by decide +kernel
theorem dX11_chance_29 : decode cX11_chance 29 = .ok (.ifCond .eq 13, 3) := by decide +kernel
theorem dX11_chance_32 : decode cX11_chance 32 = .ok (.iload 5, 2) := by decide +kernel
theorem dX11_chance_34 : decode cX11_chance 34 = .ok (.iconst 0, 1) := by decide +kernel
theorem dX11_chance_35 : decode cX11_chance 35 = .ok (.iconst 1, 1) := by decide +kernel
theorem dX11_chance_36 : decode cX11_chance 36 = .ok (.invokestatic 114, 3) := by decide +kernel
theorem dX11_chance_39 : decode cX11_chance 39 = .ok (.ifCond .ne 6, 3) := by decide +kernel
theorem dX11_chance_42 : decode cX11_chance 42 = .ok (.bipush (-2), 2) := by decide +kernel
theorem dX11_chance_44 : decode cX11_chance 44 = .ok (.ireturn, 1) := by decide +kernel
theorem dX11_chance_45 : decode cX11_chance 45 = .ok (.iconst 0, 1) := by decide +kernel
theorem dX11_chance_46 : decode cX11_chance 46 = .ok (.istore 6, 2) := by decide +kernel
theorem dX11_chance_48 : decode cX11_chance 48 = .ok (.iconst 0, 1) := by decide +kernel
theorem dX11_chance_49 : decode cX11_chance 49 = .ok (.istore 7, 2) := by decide +kernel
theorem dX11_chance_51 : decode cX11_chance 51 = .ok (.iload 7, 2) := by decide +kernel
theorem dX11_chance_53 : decode cX11_chance 53 = .ok (.iload_n 2, 1) := by decide +kernel
theorem dX11_chance_54 : decode cX11_chance 54 = .ok (.if_icmp .ge 37, 3) := by decide +kernel
theorem dX11_chance_57 : decode cX11_chance 57 = .ok (.aload_n 0, 1) := by decide +kernel
theorem dX11_chance_58 : decode cX11_chance 58 = .ok (.iload_n 1, 1) := by decide +kernel
theorem dX11_chance_59 : decode cX11_chance 59 = .ok (.iload 7, 2) := by decide +kernel
theorem dX11_chance_61 : decode cX11_chance 61 = .ok (.iadd, 1) := by decide +kernel
theorem dX11_chance_62 : decode cX11_chance 62 = .ok (.iload_n 3, 1) := by decide +kernel
theorem dX11_chance_63 : decode cX11_chance 63 = .ok (.invokevirtual 325, 3) := by decide +kernel
theorem dX11_chance_66 : decode cX11_chance 66 = .ok (.iload 6, 2) := by decide +kernel
theorem dX11_chance_68 : decode cX11_chance 68 = .ok (.aload_n 0, 1) := by decide +kernel
theorem dX11_chance_69 : decode cX11_chance 69 = .ok (.invokevirtual 208, 3) := by decide +kernel
theorem dX11_chance_72 : decode cX11_chance 72 = .ok (.iload 4, 2) := by decide +kernel
theorem dX11_chance_74 : decode cX11_chance 74 = .ok (.if_icmp .gt 7, 3) := by decide +kernel
theorem dX11_chance_77 : decode cX11_chance 77 = .ok (.iconst 1, 1) := by decide +kernel
theorem dX11_chance_78 : decode cX11_chance 78 = .ok (.goto 4, 3) := by decide +kernel
theorem dX11_chance_81 : decode cX11_chance 81 = .ok (.iconst 0, 1) := by decide +kernel
theorem dX11_chance_82 : decode cX11_chance 82 = .ok (.iadd, 1) := by decide +kernel
theorem dX11_chance_83 : decode cX11_chance 83 = .ok (.istore 6, 2) := by decide +kernel
theorem dX11_chance_85 : decode cX11_chance 85 = .ok (.iinc 7 1, 3) := by decide +kernel
theorem dX11_chance_88 : decode cX11_chance 88 = .ok (.goto (-37), 3) := by decide +kernel
theorem dX11_chance_91 : decode cX11_chance 91 = .ok (.iload 6, 2) := by decide +kernel
theorem dX11_chance_93 : decode cX11_chance 93 = .ok (.iload_n 2, 1) := by decide +kernel
theorem dX11_chance_94 : decode cX11_chance 94 = .ok (.invokestatic 329, 3) := by decide +kernel
theorem dX11_chance_97 : decode cX11_chance 97 = .ok (.istore 7, 2) := by decide +kernel
theorem dX11_chance_99 : decode cX11_chance 99 = .ok (.iload 5, 2) := by decide +kernel
theorem dX11_chance_101 : decode cX11_chance 101 = .ok (.ifCond .ne 11, 3) := by decide +kernel
theorem dX11_chance_104 : decode cX11_chance 104 = .ok (.iload 6, 2) := by decide +kernel
theorem dX11_chance_106 : decode cX11_chance 106 = .ok (.iload 7, 2) := by decide +kernel
theorem dX11_chance_108 : decode cX11_chance 108 = .ok (.idiv, 1) := by decide +kernel
theorem dX11_chance_109 : decode cX11_chance 109 = .ok (.goto 7, 3) := by decide +kernel
theorem dX11_chance_112 : decode cX11_chance 112 = .ok (.iload_n 2, 1) := by decide +kernel
theorem dX11_chance_113 : decode cX11_chance 113 = .ok (.iload 7, 2) := by decide +kernel
theorem dX11_chance_115 : decode cX11_chance 115 = .ok (.idiv, 1) := by decide +kernel
theorem dX11_chance_116 : decode cX11_chance 116 = .ok (.ireturn, 1) := by decide +kernel
theorem dX11_anew_0 : decode cX11_anew 0 = .ok (.aload_n 0, 1) := by decide +kernel
theorem dX11_anew_1 : decode cX11_anew 1 = .ok (.iconst 0, 1) := by decide +kernel
theorem dX11_anew_2 : decode cX11_anew 2 = .ok (.putfield 332, 3) := by decide +kernel
theorem dX11_anew_5 : decode cX11_anew 5 = .ok (.aload_n 0, 1) := by decide +kernel
theorem dX11_anew_6 : decode cX11_anew 6 = .ok (.iconst (-1), 1) := by decide +kernel
theorem dX11_anew_7 : decode cX11_anew 7 = .ok (.putfield 335, 3) := by decide +kernel
theorem dX11_anew_10 : decode cX11_anew 10 = .ok (.aload_n 0, 1) := by decide +kernel
theorem dX11_anew_11 : decode cX11_anew 11 = .ok (.iconst 0, 1) := by decide +kernel
theorem dX11_anew_12 : decode cX11_anew 12 = .ok (.putfield 338, 3) := by decide +kernel
theorem dX11_anew_15 : decode cX11_anew 15 = .ok (.aload_n 0, 1) := by decide +kernel
theorem dX11_anew_16 : decode cX11_anew 16 = .ok (.iconst 0, 1) := by decide +kernel
theorem dX11_anew_17 : decode cX11_anew 17 = .ok (.putfield 341, 3) := by decide +kernel
theorem dX11_anew_20 : decode cX11_anew 20 = .ok (.aload_n 0, 1) := by decide +kernel
theorem dX11_anew_21 : decode cX11_anew 21 = .ok (.iconst 0, 1) := by decide +kernel
theorem dX11_anew_22 : decode cX11_anew 22 = .ok (.putfield 344, 3) := by decide +kernel
theorem dX11_anew_25 : decode cX11_anew 25 = .ok (.aload_n 0, 1) := by decide +kernel
theorem dX11_anew_26 : decode cX11_anew 26 = .ok (.iconst 0, 1) := by decide +kernel
theorem dX11_anew_27 : decode cX11_anew 27 = .ok (.putfield 347, 3) := by decide +kernel
theorem dX11_anew_30 : decode cX11_anew 30 = .ok (.iconst 0, 1) := by decide +kernel
theorem dX11_anew_31 : decode cX11_anew 31 = .ok (.istore_n 1, 1) := by decide +kernel
theorem dX11_anew_32 : decode cX11_anew 32 = .ok (.iload_n 1, 1) := by decide +kernel
theorem dX11_anew_33 : decode cX11_anew 33 = .ok (.bipush 8, 2) := by decide +kernel
theorem dX11_anew_35 : decode cX11_anew 35 = .ok (.if_icmp .ge 16, 3) := by decide +kernel
theorem dX11_anew_38 : decode cX11_anew 38 = .ok (.aload_n 0, 1) := by decide +kernel
theorem dX11_anew_39 : decode cX11_anew 39 = .ok (.getfield 85, 3) := by decide +kernel
theorem dX11_anew_42 : decode cX11_anew 42 = .ok (.iload_n 1, 1) := by decide +kernel
theorem dX11_anew_43 : decode cX11_anew 43 = .ok (.iconst (-1), 1) := by decide +kernel
theorem dX11_anew_44 : decode cX11_anew 44 = .ok (.iastore, 1) := by decide +kernel
theorem dX11_anew_45 : decode cX11_anew 45 = .ok (.iinc 1 1, 3) := by decide +kernel
theorem dX11_anew_48 : decode cX11_anew 48 = .ok (.goto (-16), 3) := by decide +kernel
theorem dX11_anew_51 : decode cX11_anew 51 = .ok (.return_, 1) := by decide +kernel
theorem dX11_hour_0 : decode cX11_hour 0 = .ok (.aload_n 0, 1) := by decide +kernel
theorem dX11_hour_1 : decode cX11_hour 1 = .ok (.getfield 335, 3) := by decide +kernel
theorem dX11_hour_4 : decode cX11_hour 4 = .ok (.ifCond .ge 57, 3) := by decide +kernel
theorem dX11_hour_7 : decode cX11_hour 7 = .ok (.aload_n 0, 1) := by decide +kernel
theorem dX11_hour_8 : decode cX11_hour 8 = .ok (.aload_n 0, 1) := by decide +kernel
theorem dX11_hour_9 : decode cX11_hour 9 = .ok (.getfield 332, 3) := by decide +kernel
theorem dX11_hour_12 : decode cX11_hour 12 = .ok (.aload_n 0, 1) := by decide +kernel
theorem dX11_hour_13 : decode cX11_hour 13 = .ok (.getfield 344, 3) := by decide +kernel
theorem dX11_hour_16 : decode cX11_hour 16 = .ok (.invokevirtual 196, 3) := by decide +kernel
theorem dX11_hour_19 : decode cX11_hour 19 = .ok (.istore_n 1, 1) := by decide +kernel
theorem dX11_hour_20 : decode cX11_hour 20 = .ok (.iload_n 1, 1) := by decide +kernel
theorem dX11_hour_21 : decode cX11_hour 21 = .ok (.ifCond .lt 40, 3) := by decide +kernel
theorem dX11_hour_24 : decode cX11_hour 24 = .ok (.aload_n 0, 1) := by decide +kernel
theorem dX11_hour_25 : decode cX11_hour 25 = .ok (.iload_n 1, 1) := by decide +kernel
theorem dX11_hour_26 : decode cX11_hour 26 = .ok (.putfield 335, 3) := by decide +kernel
theorem dX11_hour_29 : decode cX11_hour 29 = .ok (.aload_n 0, 1) := by decide +kernel
theorem dX11_hour_30 : decode cX11_hour 30 = .ok (.aload_n 0, 1) := by decide +kernel
theorem dX11_hour_31 : decode cX11_hour 31 = .ok (.getfield 31, 3) := by decide +kernel
theorem dX11_hour_34 : decode cX11_hour 34 = .ok (.iload_n 1, 1) := by decide +kernel
theorem dX11_hour_35 : decode cX11_hour 35 = .ok (.iaload, 1) := by decide +kernel
theorem dX11_hour_36 : decode cX11_hour 36 = .ok (.putfield 338, 3) := by decide +kernel
theorem dX11_hour_39 : decode cX11_hour 39 = .ok (.aload_n 0, 1) := by decide +kernel
theorem dX11_hour_40 : decode cX11_hour 40 = .ok (.dup, 1) := by decide +kernel
theorem dX11_hour_41 : decode cX11_hour 41 = .ok (.getfield 344, 3) := by decide +kernel
theorem dX11_hour_44 : decode cX11_hour 44 = .ok (.iconst 1, 1) := by decide +kernel
theorem dX11_hour_45 : decode cX11_hour 45 = .ok (.iload_n 1, 1) := by decide +kernel
theorem dX11_hour_46 : decode cX11_hour 46 = .ok (.ishl, 1) := by decide +kernel
theorem dX11_hour_47 : decode cX11_hour 47 = .ok (.ior, 1) := by decide +kernel
theorem dX11_hour_48 : decode cX11_hour 48 = .ok (.putfield 344, 3) := by decide +kernel
theorem dX11_hour_51 : decode cX11_hour 51 = .ok (.aload_n 0, 1) := by decide +kernel
theorem dX11_hour_52 : decode cX11_hour 52 = .ok (.getfield 85, 3) := by decide +kernel
theorem dX11_hour_55 : decode cX11_hour 55 = .ok (.iload_n 1, 1) := by decide +kernel
theorem dX11_hour_56 : decode cX11_hour 56 = .ok (.aload_n 0, 1) := by decide +kernel
theorem dX11_hour_57 : decode cX11_hour 57 = .ok (.getfield 332, 3) := by decide +kernel
theorem dX11_hour_60 : decode cX11_hour 60 = .ok (.iastore, 1) := by decide +kernel
theorem dX11_hour_61 : decode cX11_hour 61 = .ok (.aload_n 0, 1) := by decide +kernel
theorem dX11_hour_62 : decode cX11_hour 62 = .ok (.getfield 335, 3) := by decide +kernel
theorem dX11_hour_65 : decode cX11_hour 65 = .ok (.ifCond .ge 16, 3) := by decide +kernel
theorem dX11_hour_68 : decode cX11_hour 68 = .ok (.aload_n 0, 1) := by decide +kernel
theorem dX11_hour_69 : decode cX11_hour 69 = .ok (.dup, 1) := by decide +kernel
theorem dX11_hour_70 : decode cX11_hour 70 = .ok (.getfield 347, 3) := by decide +kernel
theorem dX11_hour_73 : decode cX11_hour 73 = .ok (.iconst 1, 1) := by decide +kernel
theorem dX11_hour_74 : decode cX11_hour 74 = .ok (.iadd, 1) := by decide +kernel
theorem dX11_hour_75 : decode cX11_hour 75 = .ok (.putfield 347, 3) := by decide +kernel
theorem dX11_hour_78 : decode cX11_hour 78 = .ok (.goto 40, 3) := by decide +kernel
theorem dX11_hour_81 : decode cX11_hour 81 = .ok (.aload_n 0, 1) := by decide +kernel
theorem dX11_hour_82 : decode cX11_hour 82 = .ok (.dup, 1) := by decide +kernel
theorem dX11_hour_83 : decode cX11_hour 83 = .ok (.getfield 338, 3) := by decide +kernel
theorem dX11_hour_86 : decode cX11_hour 86 = .ok (.iconst 1, 1) := by decide +kernel
theorem dX11_hour_87 : decode cX11_hour 87 = .ok (.isub, 1) := by decide +kernel
theorem dX11_hour_88 : decode cX11_hour 88 = .ok (.putfield 338, 3) := by decide +kernel
theorem dX11_hour_91 : decode cX11_hour 91 = .ok (.aload_n 0, 1) := by decide +kernel
theorem dX11_hour_92 : decode cX11_hour 92 = .ok (.getfield 338, 3) := by decide +kernel
theorem dX11_hour_95 : decode cX11_hour 95 = .ok (.ifCond .ne 23, 3) := by decide +kernel
theorem dX11_hour_98 : decode cX11_hour 98 = .ok (.aload_n 0, 1) := by decide +kernel
theorem dX11_hour_99 : decode cX11_hour 99 = .ok (.dup, 1) := by decide +kernel
theorem dX11_hour_100 : decode cX11_hour 100 = .ok (.getfield 341, 3) := by decide +kernel
theorem dX11_hour_103 : decode cX11_hour 103 = .ok (.iconst 1, 1) := by decide +kernel
theorem dX11_hour_104 : decode cX11_hour 104 = .ok (.aload_n 0, 1) := by decide +kernel
theorem dX11_hour_105 : decode cX11_hour 105 = .ok (.getfield 335, 3) := by decide +kernel
theorem dX11_hour_108 : decode cX11_hour 108 = .ok (.ishl, 1) := by decide +kernel
theorem dX11_hour_109 : decode cX11_hour 109 = .ok (.ior, 1) := by decide +kernel
theorem dX11_hour_110 : decode cX11_hour 110 = .ok (.putfield 341, 3) := by decide +kernel
theorem dX11_hour_113 : decode cX11_hour 113 = .ok (.aload_n 0, 1) := by decide +kernel
theorem dX11_hour_114 : decode cX11_hour 114 = .ok (.iconst (-1), 1) := by decide +kernel
theorem dX11_hour_115 : decode cX11_hour 115 = .ok (.putfield 335, 3) := by decide +kernel
theorem dX11_hour_118 : decode cX11_hour 118 = .ok (.aload_n 0, 1) := by decide +kernel
theorem dX11_hour_119 : decode cX11_hour 119 = .ok (.dup, 1) := by decide +kernel
theorem dX11_hour_120 : decode cX11_hour 120 = .ok (.getfield 332, 3) := by decide +kernel
theorem dX11_hour_123 : decode cX11_hour 123 = .ok (.iconst 1, 1) := by decide +kernel
theorem dX11_hour_124 : decode cX11_hour 124 = .ok (.iadd, 1) := by decide +kernel
theorem dX11_hour_125 : decode cX11_hour 125 = .ok (.putfield 332, 3) := by decide +kernel
theorem dX11_hour_128 : decode cX11_hour 128 = .ok (.return_, 1) := by decide +kernel
theorem dX11_go_0 : decode cX11_go 0 = .ok (.iload_n 1, 1) := by decide +kernel
theorem dX11_go_1 : decode cX11_go 1 = .ok (.iconst 1, 1) := by decide +kernel
theorem dX11_go_2 : decode cX11_go 2 = .ok (.bipush 60, 2) := by decide +kernel
theorem dX11_go_4 : decode cX11_go 4 = .ok (.invokestatic 114, 3) := by decide +kernel
theorem dX11_go_7 : decode cX11_go 7 = .ok (.ifCond .ne 6, 3) := by decide +kernel
theorem dX11_go_10 : decode cX11_go 10 = .ok (.bipush (-2), 2) := by decide +kernel
theorem dX11_go_12 : decode cX11_go 12 = .ok (.ireturn, 1) := by decide +kernel
theorem dX11_go_13 : decode cX11_go 13 = .ok (.aload_n 0, 1) := by decide +kernel
theorem dX11_go_14 : decode cX11_go 14 = .ok (.getfield 332, 3) := by decide +kernel
theorem dX11_go_17 : decode cX11_go 17 = .ok (.iload_n 1, 1) := by decide +kernel
theorem dX11_go_18 : decode cX11_go 18 = .ok (.iadd, 1) := by decide +kernel
theorem dX11_go_19 : decode cX11_go 19 = .ok (.sipush 999, 3) := by decide +kernel
theorem dX11_go_22 : decode cX11_go 22 = .ok (.if_icmp .le 6, 3) := by decide +kernel
theorem dX11_go_25 : decode cX11_go 25 = .ok (.bipush (-4), 2) := by decide +kernel
theorem dX11_go_27 : decode cX11_go 27 = .ok (.ireturn, 1) := by decide +kernel
theorem dX11_go_28 : decode cX11_go 28 = .ok (.aload_n 0, 1) := by decide +kernel
theorem dX11_go_29 : decode cX11_go 29 = .ok (.invokevirtual 205, 3) := by decide +kernel
theorem dX11_go_32 : decode cX11_go 32 = .ok (.iconst 0, 1) := by decide +kernel
theorem dX11_go_33 : decode cX11_go 33 = .ok (.istore_n 2, 1) := by decide +kernel
theorem dX11_go_34 : decode cX11_go 34 = .ok (.iload_n 2, 1) := by decide +kernel
theorem dX11_go_35 : decode cX11_go 35 = .ok (.iload_n 1, 1) := by decide +kernel
theorem dX11_go_36 : decode cX11_go 36 = .ok (.if_icmp .ge 13, 3) := by decide +kernel
theorem dX11_go_39 : decode cX11_go 39 = .ok (.aload_n 0, 1) := by decide +kernel
theorem dX11_go_40 : decode cX11_go 40 = .ok (.invokevirtual 350, 3) := by decide +kernel
theorem dX11_go_43 : decode cX11_go 43 = .ok (.iinc 2 1, 3) := by decide +kernel
theorem dX11_go_46 : decode cX11_go 46 = .ok (.goto (-12), 3) := by decide +kernel
theorem dX11_go_49 : decode cX11_go 49 = .ok (.aload_n 0, 1) := by decide +kernel
theorem dX11_go_50 : decode cX11_go 50 = .ok (.getfield 332, 3) := by decide +kernel
theorem dX11_go_53 : decode cX11_go 53 = .ok (.ireturn, 1) := by decide +kernel
theorem dX11_bench_0 : decode cX11_bench 0 = .ok (.iload_n 1, 1) := by decide +kernel
theorem dX11_bench_1 : decode cX11_bench 1 = .ok (.tableswitch 51 0 3 #[31, 36, 41, 46], 31) := by decide +kernel
theorem dX11_bench_32 : decode cX11_bench 32 = .ok (.aload_n 0, 1) := by decide +kernel
theorem dX11_bench_33 : decode cX11_bench 33 = .ok (.getfield 332, 3) := by decide +kernel
theorem dX11_bench_36 : decode cX11_bench 36 = .ok (.ireturn, 1) := by decide +kernel
theorem dX11_bench_37 : decode cX11_bench 37 = .ok (.aload_n 0, 1) := by decide +kernel
theorem dX11_bench_38 : decode cX11_bench 38 = .ok (.getfield 335, 3) := by decide +kernel
theorem dX11_bench_41 : decode cX11_bench 41 = .ok (.ireturn, 1) := by decide +kernel
theorem dX11_bench_42 : decode cX11_bench 42 = .ok (.aload_n 0, 1) := by decide +kernel
theorem dX11_bench_43 : decode cX11_bench 43 = .ok (.getfield 341, 3) := by decide +kernel
theorem dX11_bench_46 : decode cX11_bench 46 = .ok (.ireturn, 1) := by decide +kernel
theorem dX11_bench_47 : decode cX11_bench 47 = .ok (.aload_n 0, 1) := by decide +kernel
theorem dX11_bench_48 : decode cX11_bench 48 = .ok (.getfield 347, 3) := by decide +kernel
theorem dX11_bench_51 : decode cX11_bench 51 = .ok (.ireturn, 1) := by decide +kernel
theorem dX11_bench_52 : decode cX11_bench 52 = .ok (.bipush (-2), 2) := by decide +kernel
theorem dX11_bench_54 : decode cX11_bench 54 = .ok (.ireturn, 1) := by decide +kernel
theorem dX11_began_0 : decode cX11_began 0 = .ok (.aload_n 0, 1) := by decide +kernel
theorem dX11_began_1 : decode cX11_began 1 = .ok (.iload_n 1, 1) := by decide +kernel
theorem dX11_began_2 : decode cX11_began 2 = .ok (.invokevirtual 148, 3) := by decide +kernel
theorem dX11_began_5 : decode cX11_began 5 = .ok (.ifCond .eq 12, 3) := by decide +kernel
theorem dX11_began_8 : decode cX11_began 8 = .ok (.aload_n 0, 1) := by decide +kernel
theorem dX11_began_9 : decode cX11_began 9 = .ok (.getfield 85, 3) := by decide +kernel
theorem dX11_began_12 : decode cX11_began 12 = .ok (.iload_n 1, 1) := by decide +kernel
theorem dX11_began_13 : decode cX11_began 13 = .ok (.iaload, 1) := by decide +kernel
theorem dX11_began_14 : decode cX11_began 14 = .ok (.goto 5, 3) := by decide +kernel
theorem dX11_began_17 : decode cX11_began 17 = .ok (.bipush (-2), 2) := by decide +kernel
theorem dX11_began_19 : decode cX11_began 19 = .ok (.ireturn, 1) := by decide +kernel
theorem dX11_image_0 : decode cX11_image 0 = .ok (.iconst 0, 1) := by decide +kernel
theorem dX11_image_1 : decode cX11_image 1 = .ok (.istore_n 1, 1) := by decide +kernel
theorem dX11_image_2 : decode cX11_image 2 = .ok (.iload_n 1, 1) := by decide +kernel
theorem dX11_image_3 : decode cX11_image 3 = .ok (.aload_n 0, 1) := by decide +kernel
theorem dX11_image_4 : decode cX11_image 4 = .ok (.getfield 111, 3) := by decide +kernel
theorem dX11_image_7 : decode cX11_image 7 = .ok (.if_icmp .ge 38, 3) := by decide +kernel
theorem dX11_image_10 : decode cX11_image 10 = .ok (.iconst 0, 1) := by decide +kernel
theorem dX11_image_11 : decode cX11_image 11 = .ok (.istore_n 2, 1) := by decide +kernel
theorem dX11_image_12 : decode cX11_image 12 = .ok (.iload_n 2, 1) := by decide +kernel
theorem dX11_image_13 : decode cX11_image 13 = .ok (.iconst 4, 1) := by decide +kernel
theorem dX11_image_14 : decode cX11_image 14 = .ok (.if_icmp .ge 25, 3) := by decide +kernel
theorem dX11_image_17 : decode cX11_image 17 = .ok (.aload_n 0, 1) := by decide +kernel
theorem dX11_image_18 : decode cX11_image 18 = .ok (.getfield 88, 3) := by decide +kernel
theorem dX11_image_21 : decode cX11_image 21 = .ok (.iconst 4, 1) := by decide +kernel
theorem dX11_image_22 : decode cX11_image 22 = .ok (.iload_n 1, 1) := by decide +kernel
theorem dX11_image_23 : decode cX11_image 23 = .ok (.imul, 1) := by decide +kernel
theorem dX11_image_24 : decode cX11_image 24 = .ok (.iload_n 2, 1) := by decide +kernel
theorem dX11_image_25 : decode cX11_image 25 = .ok (.iadd, 1) := by decide +kernel
theorem dX11_image_26 : decode cX11_image 26 = .ok (.aload_n 0, 1) := by decide +kernel
theorem dX11_image_27 : decode cX11_image 27 = .ok (.iload_n 1, 1) := by decide +kernel
theorem dX11_image_28 : decode cX11_image 28 = .ok (.iload_n 2, 1) := by decide +kernel
theorem dX11_image_29 : decode cX11_image 29 = .ok (.invokevirtual 152, 3) := by decide +kernel
theorem dX11_image_32 : decode cX11_image 32 = .ok (.iastore, 1) := by decide +kernel
theorem dX11_image_33 : decode cX11_image 33 = .ok (.iinc 2 1, 3) := by decide +kernel
theorem dX11_image_36 : decode cX11_image 36 = .ok (.goto (-24), 3) := by decide +kernel
theorem dX11_image_39 : decode cX11_image 39 = .ok (.iinc 1 1, 3) := by decide +kernel
theorem dX11_image_42 : decode cX11_image 42 = .ok (.goto (-40), 3) := by decide +kernel
theorem dX11_image_45 : decode cX11_image 45 = .ok (.aload_n 0, 1) := by decide +kernel
theorem dX11_image_46 : decode cX11_image 46 = .ok (.aload_n 0, 1) := by decide +kernel
theorem dX11_image_47 : decode cX11_image 47 = .ok (.getfield 111, 3) := by decide +kernel
theorem dX11_image_50 : decode cX11_image 50 = .ok (.putfield 91, 3) := by decide +kernel
theorem dX11_image_53 : decode cX11_image 53 = .ok (.aload_n 0, 1) := by decide +kernel
theorem dX11_image_54 : decode cX11_image 54 = .ok (.getfield 111, 3) := by decide +kernel
theorem dX11_image_57 : decode cX11_image 57 = .ok (.ireturn, 1) := by decide +kernel
theorem dX11_back_0 : decode cX11_back 0 = .ok (.aload_n 0, 1) := by decide +kernel
theorem dX11_back_1 : decode cX11_back 1 = .ok (.getfield 91, 3) := by decide +kernel
theorem dX11_back_4 : decode cX11_back 4 = .ok (.ifCond .ge 6, 3) := by decide +kernel
theorem dX11_back_7 : decode cX11_back 7 = .ok (.bipush (-3), 2) := by decide +kernel
theorem dX11_back_9 : decode cX11_back 9 = .ok (.ireturn, 1) := by decide +kernel
theorem dX11_back_10 : decode cX11_back 10 = .ok (.aload_n 0, 1) := by decide +kernel
theorem dX11_back_11 : decode cX11_back 11 = .ok (.iconst 0, 1) := by decide +kernel
theorem dX11_back_12 : decode cX11_back 12 = .ok (.putfield 111, 3) := by decide +kernel
theorem dX11_back_15 : decode cX11_back 15 = .ok (.iconst 0, 1) := by decide +kernel
theorem dX11_back_16 : decode cX11_back 16 = .ok (.istore_n 1, 1) := by decide +kernel
theorem dX11_back_17 : decode cX11_back 17 = .ok (.iload_n 1, 1) := by decide +kernel
theorem dX11_back_18 : decode cX11_back 18 = .ok (.aload_n 0, 1) := by decide +kernel
theorem dX11_back_19 : decode cX11_back 19 = .ok (.getfield 91, 3) := by decide +kernel
theorem dX11_back_22 : decode cX11_back 22 = .ok (.if_icmp .ge 51, 3) := by decide +kernel
theorem dX11_back_25 : decode cX11_back 25 = .ok (.aload_n 0, 1) := by decide +kernel
theorem dX11_back_26 : decode cX11_back 26 = .ok (.aload_n 0, 1) := by decide +kernel
theorem dX11_back_27 : decode cX11_back 27 = .ok (.getfield 88, 3) := by decide +kernel
theorem dX11_back_30 : decode cX11_back 30 = .ok (.iconst 4, 1) := by decide +kernel
theorem dX11_back_31 : decode cX11_back 31 = .ok (.iload_n 1, 1) := by decide +kernel
theorem dX11_back_32 : decode cX11_back 32 = .ok (.imul, 1) := by decide +kernel
theorem dX11_back_33 : decode cX11_back 33 = .ok (.iaload, 1) := by decide +kernel
theorem dX11_back_34 : decode cX11_back 34 = .ok (.aload_n 0, 1) := by decide +kernel
theorem dX11_back_35 : decode cX11_back 35 = .ok (.getfield 88, 3) := by decide +kernel
theorem dX11_back_38 : decode cX11_back 38 = .ok (.iconst 4, 1) := by decide +kernel
theorem dX11_back_39 : decode cX11_back 39 = .ok (.iload_n 1, 1) := by decide +kernel
theorem dX11_back_40 : decode cX11_back 40 = .ok (.imul, 1) := by decide +kernel
theorem dX11_back_41 : decode cX11_back 41 = .ok (.iconst 1, 1) := by decide +kernel
theorem dX11_back_42 : decode cX11_back 42 = .ok (.iadd, 1) := by decide +kernel
theorem dX11_back_43 : decode cX11_back 43 = .ok (.iaload, 1) := by decide +kernel
theorem dX11_back_44 : decode cX11_back 44 = .ok (.aload_n 0, 1) := by decide +kernel
theorem dX11_back_45 : decode cX11_back 45 = .ok (.getfield 88, 3) := by decide +kernel
theorem dX11_back_48 : decode cX11_back 48 = .ok (.iconst 4, 1) := by decide +kernel
theorem dX11_back_49 : decode cX11_back 49 = .ok (.iload_n 1, 1) := by decide +kernel
theorem dX11_back_50 : decode cX11_back 50 = .ok (.imul, 1) := by decide +kernel
theorem dX11_back_51 : decode cX11_back 51 = .ok (.iconst 2, 1) := by decide +kernel
theorem dX11_back_52 : decode cX11_back 52 = .ok (.iadd, 1) := by decide +kernel
theorem dX11_back_53 : decode cX11_back 53 = .ok (.iaload, 1) := by decide +kernel
theorem dX11_back_54 : decode cX11_back 54 = .ok (.aload_n 0, 1) := by decide +kernel
theorem dX11_back_55 : decode cX11_back 55 = .ok (.getfield 88, 3) := by decide +kernel
theorem dX11_back_58 : decode cX11_back 58 = .ok (.iconst 4, 1) := by decide +kernel
theorem dX11_back_59 : decode cX11_back 59 = .ok (.iload_n 1, 1) := by decide +kernel
theorem dX11_back_60 : decode cX11_back 60 = .ok (.imul, 1) := by decide +kernel
theorem dX11_back_61 : decode cX11_back 61 = .ok (.iconst 3, 1) := by decide +kernel
theorem dX11_back_62 : decode cX11_back 62 = .ok (.iadd, 1) := by decide +kernel
theorem dX11_back_63 : decode cX11_back 63 = .ok (.iaload, 1) := by decide +kernel
theorem dX11_back_64 : decode cX11_back 64 = .ok (.invokevirtual 135, 3) := by decide +kernel
theorem dX11_back_67 : decode cX11_back 67 = .ok (.iinc 1 1, 3) := by decide +kernel
theorem dX11_back_70 : decode cX11_back 70 = .ok (.goto (-53), 3) := by decide +kernel
theorem dX11_back_73 : decode cX11_back 73 = .ok (.aload_n 0, 1) := by decide +kernel
theorem dX11_back_74 : decode cX11_back 74 = .ok (.invokevirtual 105, 3) := by decide +kernel
theorem dX11_back_77 : decode cX11_back 77 = .ok (.aload_n 0, 1) := by decide +kernel
theorem dX11_back_78 : decode cX11_back 78 = .ok (.getfield 111, 3) := by decide +kernel
theorem dX11_back_81 : decode cX11_back 81 = .ok (.ireturn, 1) := by decide +kernel
theorem dX11_count_0 : decode cX11_count 0 = .ok (.iload_n 1, 1) := by decide +kernel
theorem dX11_count_1 : decode cX11_count 1 = .ok (.iconst 0, 1) := by decide +kernel
theorem dX11_count_2 : decode cX11_count 2 = .ok (.iconst 2, 1) := by decide +kernel
theorem dX11_count_3 : decode cX11_count 3 = .ok (.invokestatic 114, 3) := by decide +kernel
theorem dX11_count_6 : decode cX11_count 6 = .ok (.ifCond .ne 6, 3) := by decide +kernel
theorem dX11_count_9 : decode cX11_count 9 = .ok (.bipush (-2), 2) := by decide +kernel
theorem dX11_count_11 : decode cX11_count 11 = .ok (.ireturn, 1) := by decide +kernel
theorem dX11_count_12 : decode cX11_count 12 = .ok (.aload_n 0, 1) := by decide +kernel
theorem dX11_count_13 : decode cX11_count 13 = .ok (.invokevirtual 205, 3) := by decide +kernel
theorem dX11_count_16 : decode cX11_count 16 = .ok (.iload_n 1, 1) := by decide +kernel
theorem dX11_count_17 : decode cX11_count 17 = .ok (.ifCond .ne 10, 3) := by decide +kernel
theorem dX11_count_20 : decode cX11_count 20 = .ok (.aload_n 0, 1) := by decide +kernel
theorem dX11_count_21 : decode cX11_count 21 = .ok (.getfield 111, 3) := by decide +kernel
theorem dX11_count_24 : decode cX11_count 24 = .ok (.goto 19, 3) := by decide +kernel
theorem dX11_count_27 : decode cX11_count 27 = .ok (.iload_n 1, 1) := by decide +kernel
theorem dX11_count_28 : decode cX11_count 28 = .ok (.iconst 1, 1) := by decide +kernel
theorem dX11_count_29 : decode cX11_count 29 = .ok (.if_icmp .ne 10, 3) := by decide +kernel
theorem dX11_count_32 : decode cX11_count 32 = .ok (.aload_n 0, 1) := by decide +kernel
theorem dX11_count_33 : decode cX11_count 33 = .ok (.invokevirtual 211, 3) := by decide +kernel
theorem dX11_count_36 : decode cX11_count 36 = .ok (.goto 7, 3) := by decide +kernel
theorem dX11_count_39 : decode cX11_count 39 = .ok (.aload_n 0, 1) := by decide +kernel
theorem dX11_count_40 : decode cX11_count 40 = .ok (.getfield 155, 3) := by decide +kernel
theorem dX11_count_43 : decode cX11_count 43 = .ok (.ireturn, 1) := by decide +kernel
theorem dX11_isSheet_0 : decode cX11_isSheet 0 = .ok (.iload_n 0, 1) := by decide +kernel
theorem dX11_isSheet_1 : decode cX11_isSheet 1 = .ok (.iconst 0, 1) := by decide +kernel
theorem dX11_isSheet_2 : decode cX11_isSheet 2 = .ok (.iconst 3, 1) := by decide +kernel
theorem dX11_isSheet_3 : decode cX11_isSheet 3 = .ok (.invokestatic 114, 3) := by decide +kernel
theorem dX11_isSheet_6 : decode cX11_isSheet 6 = .ok (.ireturn, 1) := by decide +kernel
theorem dX11_sheet_0 : decode cX11_sheet 0 = .ok (.iload_n 1, 1) := by decide +kernel
theorem dX11_sheet_1 : decode cX11_sheet 1 = .ok (.invokestatic 302, 3) := by decide +kernel
theorem dX11_sheet_4 : decode cX11_sheet 4 = .ok (.ifCond .eq 22, 3) := by decide +kernel
theorem dX11_sheet_7 : decode cX11_sheet 7 = .ok (.iload_n 2, 1) := by decide +kernel
theorem dX11_sheet_8 : decode cX11_sheet 8 = .ok (.iconst (-1), 1) := by decide +kernel
theorem dX11_sheet_9 : decode cX11_sheet 9 = .ok (.iconst 1, 1) := by decide +kernel
theorem dX11_sheet_10 : decode cX11_sheet 10 = .ok (.invokestatic 114, 3) := by decide +kernel
theorem dX11_sheet_13 : decode cX11_sheet 13 = .ok (.ifCond .eq 13, 3) := by decide +kernel
theorem dX11_sheet_16 : decode cX11_sheet 16 = .ok (.iload_n 2, 1) := by decide +kernel
theorem dX11_sheet_17 : decode cX11_sheet 17 = .ok (.ifCond .lt 12, 3) := by decide +kernel
theorem dX11_sheet_20 : decode cX11_sheet 20 = .ok (.iload_n 3, 1) := by decide +kernel
theorem dX11_sheet_21 : decode cX11_sheet 21 = .ok (.bipush 40, 2) := by decide +kernel
theorem dX11_sheet_23 : decode cX11_sheet 23 = .ok (.if_icmp .le 6, 3) := by decide +kernel
theorem dX11_sheet_26 : decode cX11_sheet 26 = .ok (.bipush (-2), 2) := by decide +kernel
theorem dX11_sheet_28 : decode cX11_sheet 28 = .ok (.ireturn, 1) := by decide +kernel
theorem dX11_sheet_29 : decode cX11_sheet 29 = .ok (.iload_n 2, 1) := by decide +kernel
theorem dX11_sheet_30 : decode cX11_sheet 30 = .ok (.ifCond .lt 10, 3) := by decide +kernel
theorem dX11_sheet_33 : decode cX11_sheet 33 = .ok (.iload_n 3, 1) := by decide +kernel
theorem dX11_sheet_34 : decode cX11_sheet 34 = .ok (.ifCond .ge 6, 3) := by decide +kernel
theorem dX11_sheet_37 : decode cX11_sheet 37 = .ok (.bipush (-14), 2) := by decide +kernel
theorem dX11_sheet_39 : decode cX11_sheet 39 = .ok (.ireturn, 1) := by decide +kernel
theorem dX11_sheet_40 : decode cX11_sheet 40 = .ok (.aload_n 0, 1) := by decide +kernel
theorem dX11_sheet_41 : decode cX11_sheet 41 = .ok (.getfield 95, 3) := by decide +kernel
theorem dX11_sheet_44 : decode cX11_sheet 44 = .ok (.iload_n 1, 1) := by decide +kernel
theorem dX11_sheet_45 : decode cX11_sheet 45 = .ok (.iload_n 2, 1) := by decide +kernel
theorem dX11_sheet_46 : decode cX11_sheet 46 = .ok (.iastore, 1) := by decide +kernel
theorem dX11_sheet_47 : decode cX11_sheet 47 = .ok (.aload_n 0, 1) := by decide +kernel
theorem dX11_sheet_48 : decode cX11_sheet 48 = .ok (.getfield 98, 3) := by decide +kernel
theorem dX11_sheet_51 : decode cX11_sheet 51 = .ok (.iload_n 1, 1) := by decide +kernel
theorem dX11_sheet_52 : decode cX11_sheet 52 = .ok (.iload_n 2, 1) := by decide +kernel
theorem dX11_sheet_53 : decode cX11_sheet 53 = .ok (.ifCond .ge 7, 3) := by decide +kernel
theorem dX11_sheet_56 : decode cX11_sheet 56 = .ok (.iconst 0, 1) := by decide +kernel
theorem dX11_sheet_57 : decode cX11_sheet 57 = .ok (.goto 4, 3) := by decide +kernel
theorem dX11_sheet_60 : decode cX11_sheet 60 = .ok (.iload_n 3, 1) := by decide +kernel
theorem dX11_sheet_61 : decode cX11_sheet 61 = .ok (.iastore, 1) := by decide +kernel
theorem dX11_sheet_62 : decode cX11_sheet 62 = .ok (.iconst 0, 1) := by decide +kernel
theorem dX11_sheet_63 : decode cX11_sheet 63 = .ok (.istore 4, 2) := by decide +kernel
theorem dX11_sheet_65 : decode cX11_sheet 65 = .ok (.iload 4, 2) := by decide +kernel
theorem dX11_sheet_67 : decode cX11_sheet 67 = .ok (.bipush 40, 2) := by decide +kernel
theorem dX11_sheet_69 : decode cX11_sheet 69 = .ok (.if_icmp .ge 22, 3) := by decide +kernel
theorem dX11_sheet_72 : decode cX11_sheet 72 = .ok (.aload_n 0, 1) := by decide +kernel
theorem dX11_sheet_73 : decode cX11_sheet 73 = .ok (.getfield 101, 3) := by decide +kernel
theorem dX11_sheet_76 : decode cX11_sheet 76 = .ok (.bipush 40, 2) := by decide +kernel
theorem dX11_sheet_78 : decode cX11_sheet 78 = .ok (.iload_n 1, 1) := by decide +kernel
theorem dX11_sheet_79 : decode cX11_sheet 79 = .ok (.imul, 1) := by decide +kernel
theorem dX11_sheet_80 : decode cX11_sheet 80 = .ok (.iload 4, 2) := by decide +kernel
theorem dX11_sheet_82 : decode cX11_sheet 82 = .ok (.iadd, 1) := by decide +kernel
theorem dX11_sheet_83 : decode cX11_sheet 83 = .ok (.lconst 0, 1) := by decide +kernel
theorem dX11_sheet_84 : decode cX11_sheet 84 = .ok (.lastore, 1) := by decide +kernel
theorem dX11_sheet_85 : decode cX11_sheet 85 = .ok (.iinc 4 1, 3) := by decide +kernel
theorem dX11_sheet_88 : decode cX11_sheet 88 = .ok (.goto (-23), 3) := by decide +kernel
theorem dX11_sheet_91 : decode cX11_sheet 91 = .ok (.iconst 1, 1) := by decide +kernel
theorem dX11_sheet_92 : decode cX11_sheet 92 = .ok (.ireturn, 1) := by decide +kernel
theorem dX11_put_0 : decode cX11_put 0 = .ok (.iload_n 1, 1) := by decide +kernel
theorem dX11_put_1 : decode cX11_put 1 = .ok (.invokestatic 302, 3) := by decide +kernel
theorem dX11_put_4 : decode cX11_put 4 = .ok (.ifCond .ne 6, 3) := by decide +kernel
theorem dX11_put_7 : decode cX11_put 7 = .ok (.bipush (-2), 2) := by decide +kernel
theorem dX11_put_9 : decode cX11_put 9 = .ok (.ireturn, 1) := by decide +kernel
theorem dX11_put_10 : decode cX11_put 10 = .ok (.aload_n 0, 1) := by decide +kernel
theorem dX11_put_11 : decode cX11_put 11 = .ok (.getfield 95, 3) := by decide +kernel
theorem dX11_put_14 : decode cX11_put 14 = .ok (.iload_n 1, 1) := by decide +kernel
theorem dX11_put_15 : decode cX11_put 15 = .ok (.iaload, 1) := by decide +kernel
theorem dX11_put_16 : decode cX11_put 16 = .ok (.ifCond .ge 6, 3) := by decide +kernel
theorem dX11_put_19 : decode cX11_put 19 = .ok (.bipush (-11), 2) := by decide +kernel
theorem dX11_put_21 : decode cX11_put 21 = .ok (.ireturn, 1) := by decide +kernel
theorem dX11_put_22 : decode cX11_put 22 = .ok (.iload_n 2, 1) := by decide +kernel
theorem dX11_put_23 : decode cX11_put 23 = .ok (.iconst 0, 1) := by decide +kernel
theorem dX11_put_24 : decode cX11_put 24 = .ok (.aload_n 0, 1) := by decide +kernel
theorem dX11_put_25 : decode cX11_put 25 = .ok (.getfield 98, 3) := by decide +kernel
theorem dX11_put_28 : decode cX11_put 28 = .ok (.iload_n 1, 1) := by decide +kernel
theorem dX11_put_29 : decode cX11_put 29 = .ok (.iaload, 1) := by decide +kernel
theorem dX11_put_30 : decode cX11_put 30 = .ok (.iconst 1, 1) := by decide +kernel
theorem dX11_put_31 : decode cX11_put 31 = .ok (.isub, 1) := by decide +kernel
theorem dX11_put_32 : decode cX11_put 32 = .ok (.invokestatic 114, 3) := by decide +kernel
theorem dX11_put_35 : decode cX11_put 35 = .ok (.ifCond .ne 6, 3) := by decide +kernel
theorem dX11_put_38 : decode cX11_put 38 = .ok (.bipush (-12), 2) := by decide +kernel
theorem dX11_put_40 : decode cX11_put 40 = .ok (.ireturn, 1) := by decide +kernel
theorem dX11_put_41 : decode cX11_put 41 = .ok (.aload_n 0, 1) := by decide +kernel
theorem dX11_put_42 : decode cX11_put 42 = .ok (.getfield 101, 3) := by decide +kernel
theorem dX11_put_45 : decode cX11_put 45 = .ok (.bipush 40, 2) := by decide +kernel
theorem dX11_put_47 : decode cX11_put 47 = .ok (.iload_n 1, 1) := by decide +kernel
theorem dX11_put_48 : decode cX11_put 48 = .ok (.imul, 1) := by decide +kernel
theorem dX11_put_49 : decode cX11_put 49 = .ok (.iload_n 2, 1) := by decide +kernel
theorem dX11_put_50 : decode cX11_put 50 = .ok (.iadd, 1) := by decide +kernel
theorem dX11_put_51 : decode cX11_put 51 = .ok (.aload_n 0, 1) := by decide +kernel
theorem dX11_put_52 : decode cX11_put 52 = .ok (.getfield 95, 3) := by decide +kernel
theorem dX11_put_55 : decode cX11_put 55 = .ok (.iload_n 1, 1) := by decide +kernel
theorem dX11_put_56 : decode cX11_put 56 = .ok (.iaload, 1) := by decide +kernel
theorem dX11_put_57 : decode cX11_put 57 = .ok (.iconst 1, 1) := by decide +kernel
theorem dX11_put_58 : decode cX11_put 58 = .ok (.if_icmp .ne 9, 3) := by decide +kernel
theorem dX11_put_61 : decode cX11_put 61 = .ok (.lload_n 3, 1) := by decide +kernel
theorem dX11_put_62 : decode cX11_put 62 = .ok (.l2i, 1) := by decide +kernel
theorem dX11_put_63 : decode cX11_put 63 = .ok (.i2l, 1) := by decide +kernel
theorem dX11_put_64 : decode cX11_put 64 = .ok (.goto 4, 3) := by decide +kernel
theorem dX11_put_67 : decode cX11_put 67 = .ok (.lload_n 3, 1) := by decide +kernel
theorem dX11_put_68 : decode cX11_put 68 = .ok (.lastore, 1) := by decide +kernel
theorem dX11_put_69 : decode cX11_put 69 = .ok (.iconst 1, 1) := by decide +kernel
theorem dX11_put_70 : decode cX11_put 70 = .ok (.ireturn, 1) := by decide +kernel
theorem dX11_item__0 : decode cX11_item_ 0 = .ok (.iload_n 1, 1) := by decide +kernel
theorem dX11_item__1 : decode cX11_item_ 1 = .ok (.invokestatic 302, 3) := by decide +kernel
theorem dX11_item__4 : decode cX11_item_ 4 = .ok (.ifCond .eq 42, 3) := by decide +kernel
theorem dX11_item__7 : decode cX11_item_ 7 = .ok (.aload_n 0, 1) := by decide +kernel
theorem dX11_item__8 : decode cX11_item_ 8 = .ok (.getfield 95, 3) := by decide +kernel
theorem dX11_item__11 : decode cX11_item_ 11 = .ok (.iload_n 1, 1) := by decide +kernel
theorem dX11_item__12 : decode cX11_item_ 12 = .ok (.iaload, 1) := by decide +kernel
theorem dX11_item__13 : decode cX11_item_ 13 = .ok (.ifCond .lt 33, 3) := by decide +kernel
theorem dX11_item__16 : decode cX11_item_ 16 = .ok (.iload_n 2, 1) := by decide +kernel
theorem dX11_item__17 : decode cX11_item_ 17 = .ok (.iconst 0, 1) := by decide +kernel
theorem dX11_item__18 : decode cX11_item_ 18 = .ok (.aload_n 0, 1) := by decide +kernel
theorem dX11_item__19 : decode cX11_item_ 19 = .ok (.getfield 98, 3) := by decide +kernel
theorem dX11_item__22 : decode cX11_item_ 22 = .ok (.iload_n 1, 1) := by decide +kernel
theorem dX11_item__23 : decode cX11_item_ 23 = .ok (.iaload, 1) := by decide +kernel
theorem dX11_item__24 : decode cX11_item_ 24 = .ok (.iconst 1, 1) := by decide +kernel
theorem dX11_item__25 : decode cX11_item_ 25 = .ok (.isub, 1) := by decide +kernel
theorem dX11_item__26 : decode cX11_item_ 26 = .ok (.invokestatic 114, 3) := by decide +kernel
theorem dX11_item__29 : decode cX11_item_ 29 = .ok (.ifCond .eq 17, 3) := by decide +kernel
theorem dX11_item__32 : decode cX11_item_ 32 = .ok (.aload_n 0, 1) := by decide +kernel
theorem dX11_item__33 : decode cX11_item_ 33 = .ok (.getfield 101, 3) := by decide +kernel
theorem dX11_item__36 : decode cX11_item_ 36 = .ok (.bipush 40, 2) := by decide +kernel
theorem dX11_item__38 : decode cX11_item_ 38 = .ok (.iload_n 1, 1) := by decide +kernel
theorem dX11_item__39 : decode cX11_item_ 39 = .ok (.imul, 1) := by decide +kernel
theorem dX11_item__40 : decode cX11_item_ 40 = .ok (.iload_n 2, 1) := by decide +kernel
theorem dX11_item__41 : decode cX11_item_ 41 = .ok (.iadd, 1) := by decide +kernel
theorem dX11_item__42 : decode cX11_item_ 42 = .ok (.laload, 1) := by decide +kernel
theorem dX11_item__43 : decode cX11_item_ 43 = .ok (.goto 6, 3) := by decide +kernel
theorem dX11_item__46 : decode cX11_item_ 46 = .ok (.ldc2_w 353, 3) := by decide +kernel
theorem dX11_item__49 : decode cX11_item_ 49 = .ok (.lreturn, 1) := by decide +kernel
theorem dX11_copy_0 : decode cX11_copy 0 = .ok (.iload_n 1, 1) := by decide +kernel
theorem dX11_copy_1 : decode cX11_copy 1 = .ok (.invokestatic 302, 3) := by decide +kernel
theorem dX11_copy_4 : decode cX11_copy 4 = .ok (.ifCond .eq 10, 3) := by decide +kernel
theorem dX11_copy_7 : decode cX11_copy 7 = .ok (.iload_n 3, 1) := by decide +kernel
theorem dX11_copy_8 : decode cX11_copy 8 = .ok (.invokestatic 302, 3) := by decide +kernel
theorem dX11_copy_11 : decode cX11_copy 11 = .ok (.ifCond .ne 6, 3) := by decide +kernel
theorem dX11_copy_14 : decode cX11_copy 14 = .ok (.bipush (-2), 2) := by decide +kernel
theorem dX11_copy_16 : decode cX11_copy 16 = .ok (.ireturn, 1) := by decide +kernel
theorem dX11_copy_17 : decode cX11_copy 17 = .ok (.aload_n 0, 1) := by decide +kernel
theorem dX11_copy_18 : decode cX11_copy 18 = .ok (.getfield 95, 3) := by decide +kernel
theorem dX11_copy_21 : decode cX11_copy 21 = .ok (.iload_n 1, 1) := by decide +kernel
theorem dX11_copy_22 : decode cX11_copy 22 = .ok (.iaload, 1) := by decide +kernel
theorem dX11_copy_23 : decode cX11_copy 23 = .ok (.ifCond .lt 12, 3) := by decide +kernel
theorem dX11_copy_26 : decode cX11_copy 26 = .ok (.aload_n 0, 1) := by decide +kernel
theorem dX11_copy_27 : decode cX11_copy 27 = .ok (.getfield 95, 3) := by decide +kernel
theorem dX11_copy_30 : decode cX11_copy 30 = .ok (.iload_n 3, 1) := by decide +kernel
theorem dX11_copy_31 : decode cX11_copy 31 = .ok (.iaload, 1) := by decide +kernel
theorem dX11_copy_32 : decode cX11_copy 32 = .ok (.ifCond .ge 6, 3) := by decide +kernel
theorem dX11_copy_35 : decode cX11_copy 35 = .ok (.bipush (-11), 2) := by decide +kernel
theorem dX11_copy_37 : decode cX11_copy 37 = .ok (.ireturn, 1) := by decide +kernel
theorem dX11_copy_38 : decode cX11_copy 38 = .ok (.aload_n 0, 1) := by decide +kernel
theorem dX11_copy_39 : decode cX11_copy 39 = .ok (.getfield 95, 3) := by decide +kernel
theorem dX11_copy_42 : decode cX11_copy 42 = .ok (.iload_n 1, 1) := by decide +kernel
theorem dX11_copy_43 : decode cX11_copy 43 = .ok (.iaload, 1) := by decide +kernel
theorem dX11_copy_44 : decode cX11_copy 44 = .ok (.aload_n 0, 1) := by decide +kernel
theorem dX11_copy_45 : decode cX11_copy 45 = .ok (.getfield 95, 3) := by decide +kernel
theorem dX11_copy_48 : decode cX11_copy 48 = .ok (.iload_n 3, 1) := by decide +kernel
theorem dX11_copy_49 : decode cX11_copy 49 = .ok (.iaload, 1) := by decide +kernel
theorem dX11_copy_50 : decode cX11_copy 50 = .ok (.if_icmp .eq 6, 3) := by decide +kernel
theorem dX11_copy_53 : decode cX11_copy 53 = .ok (.bipush (-13), 2) := by decide +kernel
theorem dX11_copy_55 : decode cX11_copy 55 = .ok (.ireturn, 1) := by decide +kernel
theorem dX11_copy_56 : decode cX11_copy 56 = .ok (.iload 5, 2) := by decide +kernel
theorem dX11_copy_58 : decode cX11_copy 58 = .ok (.ifCond .lt 39, 3) := by decide +kernel
theorem dX11_copy_61 : decode cX11_copy 61 = .ok (.iload_n 2, 1) := by decide +kernel
theorem dX11_copy_62 : decode cX11_copy 62 = .ok (.ifCond .lt 35, 3) := by decide +kernel
theorem dX11_copy_65 : decode cX11_copy 65 = .ok (.iload 4, 2) := by decide +kernel
theorem dX11_copy_67 : decode cX11_copy 67 = .ok (.ifCond .lt 30, 3) := by decide +kernel
theorem dX11_copy_70 : decode cX11_copy 70 = .ok (.iload 5, 2) := by decide +kernel
theorem dX11_copy_72 : decode cX11_copy 72 = .ok (.aload_n 0, 1) := by decide +kernel
theorem dX11_copy_73 : decode cX11_copy 73 = .ok (.getfield 98, 3) := by decide +kernel
theorem dX11_copy_76 : decode cX11_copy 76 = .ok (.iload_n 1, 1) := by decide +kernel
theorem dX11_copy_77 : decode cX11_copy 77 = .ok (.iaload, 1) := by decide +kernel
theorem dX11_copy_78 : decode cX11_copy 78 = .ok (.iload_n 2, 1) := by decide +kernel
theorem dX11_copy_79 : decode cX11_copy 79 = .ok (.isub, 1) := by decide +kernel
theorem dX11_copy_80 : decode cX11_copy 80 = .ok (.if_icmp .gt 17, 3) := by decide +kernel
theorem dX11_copy_83 : decode cX11_copy 83 = .ok (.iload 5, 2) := by decide +kernel
theorem dX11_copy_85 : decode cX11_copy 85 = .ok (.aload_n 0, 1) := by decide +kernel
theorem dX11_copy_86 : decode cX11_copy 86 = .ok (.getfield 98, 3) := by decide +kernel
theorem dX11_copy_89 : decode cX11_copy 89 = .ok (.iload_n 3, 1) := by decide +kernel
theorem dX11_copy_90 : decode cX11_copy 90 = .ok (.iaload, 1) := by decide +kernel
theorem dX11_copy_91 : decode cX11_copy 91 = .ok (.iload 4, 2) := by decide +kernel
theorem dX11_copy_93 : decode cX11_copy 93 = .ok (.isub, 1) := by decide +kernel
theorem dX11_copy_94 : decode cX11_copy 94 = .ok (.if_icmp .le 6, 3) := by decide +kernel
theorem dX11_copy_97 : decode cX11_copy 97 = .ok (.bipush (-12), 2) := by decide +kernel
theorem dX11_copy_99 : decode cX11_copy 99 = .ok (.ireturn, 1) := by decide +kernel
theorem dX11_copy_100 : decode cX11_copy 100 = .ok (.iload_n 1, 1) := by decide +kernel
theorem dX11_copy_101 : decode cX11_copy 101 = .ok (.iload_n 3, 1) := by decide +kernel
theorem dX11_copy_102 : decode cX11_copy 102 = .ok (.if_icmp .ne 13, 3) := by decide +kernel
theorem dX11_copy_105 : decode cX11_copy 105 = .ok (.iload_n 2, 1) := by decide +kernel
theorem dX11_copy_106 : decode cX11_copy 106 = .ok (.iload 4, 2) := by decide +kernel
theorem dX11_copy_108 : decode cX11_copy 108 = .ok (.if_icmp .ge 7, 3) := by decide +kernel
theorem dX11_copy_111 : decode cX11_copy 111 = .ok (.iconst 1, 1) := by decide +kernel
theorem dX11_copy_112 : decode cX11_copy 112 = .ok (.goto 4, 3) := by decide +kernel
theorem dX11_copy_115 : decode cX11_copy 115 = .ok (.iconst 0, 1) := by decide +kernel
theorem dX11_copy_116 : decode cX11_copy 116 = .ok (.istore 6, 2) := by decide +kernel
theorem dX11_copy_118 : decode cX11_copy 118 = .ok (.iconst 0, 1) := by decide +kernel
theorem dX11_copy_119 : decode cX11_copy 119 = .ok (.istore 7, 2) := by decide +kernel
theorem dX11_copy_121 : decode cX11_copy 121 = .ok (.iload 7, 2) := by decide +kernel
theorem dX11_copy_123 : decode cX11_copy 123 = .ok (.iload 5, 2) := by decide +kernel
theorem dX11_copy_125 : decode cX11_copy 125 = .ok (.if_icmp .ge 57, 3) := by decide +kernel
theorem dX11_copy_128 : decode cX11_copy 128 = .ok (.iload 6, 2) := by decide +kernel
theorem dX11_copy_130 : decode cX11_copy 130 = .ok (.ifCond .eq 13, 3) := by decide +kernel
theorem dX11_copy_133 : decode cX11_copy 133 = .ok (.iload 5, 2) := by decide +kernel
theorem dX11_copy_135 : decode cX11_copy 135 = .ok (.iconst 1, 1) := by decide +kernel
theorem dX11_copy_136 : decode cX11_copy 136 = .ok (.isub, 1) := by decide +kernel
theorem dX11_copy_137 : decode cX11_copy 137 = .ok (.iload 7, 2) := by decide +kernel
theorem dX11_copy_139 : decode cX11_copy 139 = .ok (.isub, 1) := by decide +kernel
theorem dX11_copy_140 : decode cX11_copy 140 = .ok (.goto 5, 3) := by decide +kernel
theorem dX11_copy_143 : decode cX11_copy 143 = .ok (.iload 7, 2) := by decide +kernel
theorem dX11_copy_145 : decode cX11_copy 145 = .ok (.istore 8, 2) := by decide +kernel
theorem dX11_copy_147 : decode cX11_copy 147 = .ok (.aload_n 0, 1) := by decide +kernel
theorem dX11_copy_148 : decode cX11_copy 148 = .ok (.getfield 101, 3) := by decide +kernel
theorem dX11_copy_151 : decode cX11_copy 151 = .ok (.bipush 40, 2) := by decide +kernel
theorem dX11_copy_153 : decode cX11_copy 153 = .ok (.iload_n 3, 1) := by decide +kernel
theorem dX11_copy_154 : decode cX11_copy 154 = .ok (.imul, 1) := by decide +kernel
theorem dX11_copy_155 : decode cX11_copy 155 = .ok (.iload 4, 2) := by decide +kernel
theorem dX11_copy_157 : decode cX11_copy 157 = .ok (.iadd, 1) := by decide +kernel
theorem dX11_copy_158 : decode cX11_copy 158 = .ok (.iload 8, 2) := by decide +kernel
theorem dX11_copy_160 : decode cX11_copy 160 = .ok (.iadd, 1) := by decide +kernel
theorem dX11_copy_161 : decode cX11_copy 161 = .ok (.aload_n 0, 1) := by decide +kernel
theorem dX11_copy_162 : decode cX11_copy 162 = .ok (.getfield 101, 3) := by decide +kernel
theorem dX11_copy_165 : decode cX11_copy 165 = .ok (.bipush 40, 2) := by decide +kernel
theorem dX11_copy_167 : decode cX11_copy 167 = .ok (.iload_n 1, 1) := by decide +kernel
theorem dX11_copy_168 : decode cX11_copy 168 = .ok (.imul, 1) := by decide +kernel
theorem dX11_copy_169 : decode cX11_copy 169 = .ok (.iload_n 2, 1) := by decide +kernel
theorem dX11_copy_170 : decode cX11_copy 170 = .ok (.iadd, 1) := by decide +kernel
theorem dX11_copy_171 : decode cX11_copy 171 = .ok (.iload 8, 2) := by decide +kernel
theorem dX11_copy_173 : decode cX11_copy 173 = .ok (.iadd, 1) := by decide +kernel
theorem dX11_copy_174 : decode cX11_copy 174 = .ok (.laload, 1) := by decide +kernel
theorem dX11_copy_175 : decode cX11_copy 175 = .ok (.lastore, 1) := by decide +kernel
theorem dX11_copy_176 : decode cX11_copy 176 = .ok (.iinc 7 1, 3) := by decide +kernel
theorem dX11_copy_179 : decode cX11_copy 179 = .ok (.goto (-58), 3) := by decide +kernel
theorem dX11_copy_182 : decode cX11_copy 182 = .ok (.iload 5, 2) := by decide +kernel
theorem dX11_copy_184 : decode cX11_copy 184 = .ok (.ireturn, 1) := by decide +kernel
