theorem dX6_init_0 : decode cX6_init 0 = .ok (.aload_n 0, 1) := by decide +kernel
theorem dX6_init_1 : decode cX6_init 1 = .ok (.invokespecial 1, 3) := by decide +kernel
theorem dX6_init_4 : decode cX6_init 4 = .ok (.aload_n 0, 1) := by decide +kernel
theorem dX6_init_5 : decode cX6_init 5 = .ok (.bipush 6, 2) := by decide +kernel
theorem dX6_init_7 : decode cX6_init 7 = .ok (.newarray .int, 2) := by decide +kernel
theorem dX6_init_9 : decode cX6_init 9 = .ok (.putfield 7, 3) := by decide +kernel
theorem dX6_init_12 : decode cX6_init 12 = .ok (.aload_n 0, 1) := by decide +kernel
theorem dX6_init_13 : decode cX6_init 13 = .ok (.bipush 24, 2) := by decide +kernel
theorem dX6_init_15 : decode cX6_init 15 = .ok (.newarray .int, 2) := by decide +kernel
theorem dX6_init_17 : decode cX6_init 17 = .ok (.putfield 13, 3) := by decide +kernel
theorem dX6_init_20 : decode cX6_init 20 = .ok (.aload_n 0, 1) := by decide +kernel
theorem dX6_init_21 : decode cX6_init 21 = .ok (.bipush 24, 2) := by decide +kernel
theorem dX6_init_23 : decode cX6_init 23 = .ok (.newarray .boolean, 2) := by decide +kernel
theorem dX6_init_25 : decode cX6_init 25 = .ok (.putfield 16, 3) := by decide +kernel
theorem dX6_init_28 : decode cX6_init 28 = .ok (.aload_n 0, 1) := by decide +kernel
theorem dX6_init_29 : decode cX6_init 29 = .ok (.bipush 6, 2) := by decide +kernel
theorem dX6_init_31 : decode cX6_init 31 = .ok (.newarray .int, 2) := by decide +kernel
theorem dX6_init_33 : decode cX6_init 33 = .ok (.putfield 20, 3) := by decide +kernel
theorem dX6_init_36 : decode cX6_init 36 = .ok (.aload_n 0, 1) := by decide +kernel
theorem dX6_init_37 : decode cX6_init 37 = .ok (.iconst 1, 1) := by decide +kernel
theorem dX6_init_38 : decode cX6_init 38 = .ok (.putfield 23, 3) := by decide +kernel
theorem dX6_init_41 : decode cX6_init 41 = .ok (.aload_n 0, 1) := by decide +kernel
theorem dX6_init_42 : decode cX6_init 42 = .ok (.iconst 4, 1) := by decide +kernel
theorem dX6_init_43 : decode cX6_init 43 = .ok (.newarray .int, 2) := by decide +kernel
theorem dX6_init_45 : decode cX6_init 45 = .ok (.putfield 27, 3) := by decide +kernel
theorem dX6_init_48 : decode cX6_init 48 = .ok (.aload_n 0, 1) := by decide +kernel
theorem dX6_init_49 : decode cX6_init 49 = .ok (.iconst 4, 1) := by decide +kernel
theorem dX6_init_50 : decode cX6_init 50 = .ok (.newarray .int, 2) := by decide +kernel
theorem dX6_init_52 : decode cX6_init 52 = .ok (.putfield 30, 3) := by decide +kernel
theorem dX6_init_55 : decode cX6_init 55 = .ok (.aload_n 0, 1) := by decide +kernel
theorem dX6_init_56 : decode cX6_init 56 = .ok (.bipush 12, 2) := by decide +kernel
theorem dX6_init_58 : decode cX6_init 58 = .ok (.newarray .int, 2) := by decide +kernel
theorem dX6_init_60 : decode cX6_init 60 = .ok (.putfield 33, 3) := by decide +kernel
theorem dX6_init_63 : decode cX6_init 63 = .ok (.aload_n 0, 1) := by decide +kernel
theorem dX6_init_64 : decode cX6_init 64 = .ok (.iconst 4, 1) := by decide +kernel
theorem dX6_init_65 : decode cX6_init 65 = .ok (.newarray .int, 2) := by decide +kernel
theorem dX6_init_67 : decode cX6_init 67 = .ok (.putfield 36, 3) := by decide +kernel
theorem dX6_init_70 : decode cX6_init 70 = .ok (.aload_n 0, 1) := by decide +kernel
theorem dX6_init_71 : decode cX6_init 71 = .ok (.bipush 16, 2) := by decide +kernel
theorem dX6_init_73 : decode cX6_init 73 = .ok (.newarray .int, 2) := by decide +kernel
theorem dX6_init_75 : decode cX6_init 75 = .ok (.putfield 39, 3) := by decide +kernel
theorem dX6_init_78 : decode cX6_init 78 = .ok (.aload_n 0, 1) := by decide +kernel
theorem dX6_init_79 : decode cX6_init 79 = .ok (.bipush 16, 2) := by decide +kernel
theorem dX6_init_81 : decode cX6_init 81 = .ok (.newarray .int, 2) := by decide +kernel
theorem dX6_init_83 : decode cX6_init 83 = .ok (.putfield 42, 3) := by decide +kernel
theorem dX6_init_86 : decode cX6_init 86 = .ok (.aload_n 0, 1) := by decide +kernel
theorem dX6_init_87 : decode cX6_init 87 = .ok (.iconst 4, 1) := by decide +kernel
theorem dX6_init_88 : decode cX6_init 88 = .ok (.newarray .int, 2) := by decide +kernel
theorem dX6_init_90 : decode cX6_init 90 = .ok (.putfield 45, 3) := by decide +kernel
theorem dX6_init_93 : decode cX6_init 93 = .ok (.aload_n 0, 1) := by decide +kernel
theorem dX6_init_94 : decode cX6_init 94 = .ok (.bipush 24, 2) := by decide +kernel
theorem dX6_init_96 : decode cX6_init 96 = .ok (.newarray .int, 2) := by decide +kernel
theorem dX6_init_98 : decode cX6_init 98 = .ok (.putfield 48, 3) := by decide +kernel
theorem dX6_init_101 : decode cX6_init 101 = .ok (.aload_n 0, 1) := by decide +kernel
theorem dX6_init_102 : decode cX6_init 102 = .ok (.bipush 96, 2) := by decide +kernel
theorem dX6_init_104 : decode cX6_init 104 = .ok (.newarray .int, 2) := by decide +kernel
theorem dX6_init_106 : decode cX6_init 106 = .ok (.putfield 51, 3) := by decide +kernel
theorem dX6_init_109 : decode cX6_init 109 = .ok (.aload_n 0, 1) := by decide +kernel
theorem dX6_init_110 : decode cX6_init 110 = .ok (.sipush 144, 3) := by decide +kernel
theorem dX6_init_113 : decode cX6_init 113 = .ok (.newarray .int, 2) := by decide +kernel
theorem dX6_init_115 : decode cX6_init 115 = .ok (.putfield 54, 3) := by decide +kernel
theorem dX6_init_118 : decode cX6_init 118 = .ok (.aload_n 0, 1) := by decide +kernel
theorem dX6_init_119 : decode cX6_init 119 = .ok (.bipush 96, 2) := by decide +kernel
theorem dX6_init_121 : decode cX6_init 121 = .ok (.newarray .int, 2) := by decide +kernel
theorem dX6_init_123 : decode cX6_init 123 = .ok (.putfield 57, 3) := by decide +kernel
theorem dX6_init_126 : decode cX6_init 126 = .ok (.aload_n 0, 1) := by decide +kernel
theorem dX6_init_127 : decode cX6_init 127 = .ok (.sipush 200, 3) := by decide +kernel
theorem dX6_init_130 : decode cX6_init 130 = .ok (.newarray .boolean, 2) := by decide +kernel
theorem dX6_init_132 : decode cX6_init 132 = .ok (.putfield 60, 3) := by decide +kernel
theorem dX6_init_135 : decode cX6_init 135 = .ok (.aload_n 0, 1) := by decide +kernel
theorem dX6_init_136 : decode cX6_init 136 = .ok (.sipush 200, 3) := by decide +kernel
theorem dX6_init_139 : decode cX6_init 139 = .ok (.newarray .int, 2) := by decide +kernel
theorem dX6_init_141 : decode cX6_init 141 = .ok (.putfield 63, 3) := by decide +kernel
theorem dX6_init_144 : decode cX6_init 144 = .ok (.aload_n 0, 1) := by decide +kernel
theorem dX6_init_145 : decode cX6_init 145 = .ok (.sipush 200, 3) := by decide +kernel
theorem dX6_init_148 : decode cX6_init 148 = .ok (.newarray .int, 2) := by decide +kernel
theorem dX6_init_150 : decode cX6_init 150 = .ok (.putfield 66, 3) := by decide +kernel
theorem dX6_init_153 : decode cX6_init 153 = .ok (.aload_n 0, 1) := by decide +kernel
theorem dX6_init_154 : decode cX6_init 154 = .ok (.sipush 200, 3) := by decide +kernel
theorem dX6_init_157 : decode cX6_init 157 = .ok (.newarray .int, 2) := by decide +kernel
theorem dX6_init_159 : decode cX6_init 159 = .ok (.putfield 69, 3) := by decide +kernel
theorem dX6_init_162 : decode cX6_init 162 = .ok (.aload_n 0, 1) := by decide +kernel
theorem dX6_init_163 : decode cX6_init 163 = .ok (.sipush 200, 3) := by decide +kernel
theorem dX6_init_166 : decode cX6_init 166 = .ok (.newarray .int, 2) := by decide +kernel
theorem dX6_init_168 : decode cX6_init 168 = .ok (.putfield 72, 3) := by decide +kernel
theorem dX6_init_171 : decode cX6_init 171 = .ok (.aload_n 0, 1) := by decide +kernel
theorem dX6_init_172 : decode cX6_init 172 = .ok (.sipush 200, 3) := by decide +kernel
theorem dX6_init_175 : decode cX6_init 175 = .ok (.newarray .int, 2) := by decide +kernel
theorem dX6_init_177 : decode cX6_init 177 = .ok (.putfield 75, 3) := by decide +kernel
theorem dX6_init_180 : decode cX6_init 180 = .ok (.aload_n 0, 1) := by decide +kernel
theorem dX6_init_181 : decode cX6_init 181 = .ok (.sipush 600, 3) := by decide +kernel
theorem dX6_init_184 : decode cX6_init 184 = .ok (.newarray .int, 2) := by decide +kernel
theorem dX6_init_186 : decode cX6_init 186 = .ok (.putfield 78, 3) := by decide +kernel
theorem dX6_init_189 : decode cX6_init 189 = .ok (.aload_n 0, 1) := by decide +kernel
theorem dX6_init_190 : decode cX6_init 190 = .ok (.sipush 600, 3) := by decide +kernel
theorem dX6_init_193 : decode cX6_init 193 = .ok (.newarray .int, 2) := by decide +kernel
theorem dX6_init_195 : decode cX6_init 195 = .ok (.putfield 81, 3) := by decide +kernel
theorem dX6_init_198 : decode cX6_init 198 = .ok (.aload_n 0, 1) := by decide +kernel
theorem dX6_init_199 : decode cX6_init 199 = .ok (.bipush 6, 2) := by decide +kernel
theorem dX6_init_201 : decode cX6_init 201 = .ok (.newarray .int, 2) := by decide +kernel
theorem dX6_init_203 : decode cX6_init 203 = .ok (.putfield 84, 3) := by decide +kernel
theorem dX6_init_206 : decode cX6_init 206 = .ok (.aload_n 0, 1) := by decide +kernel
theorem dX6_init_207 : decode cX6_init 207 = .ok (.bipush 6, 2) := by decide +kernel
theorem dX6_init_209 : decode cX6_init 209 = .ok (.newarray .int, 2) := by decide +kernel
theorem dX6_init_211 : decode cX6_init 211 = .ok (.putfield 87, 3) := by decide +kernel
theorem dX6_init_214 : decode cX6_init 214 = .ok (.aload_n 0, 1) := by decide +kernel
theorem dX6_init_215 : decode cX6_init 215 = .ok (.bipush 6, 2) := by decide +kernel
theorem dX6_init_217 : decode cX6_init 217 = .ok (.newarray .int, 2) := by decide +kernel
theorem dX6_init_219 : decode cX6_init 219 = .ok (.putfield 90, 3) := by decide +kernel
theorem dX6_init_222 : decode cX6_init 222 = .ok (.aload_n 0, 1) := by decide +kernel
theorem dX6_init_223 : decode cX6_init 223 = .ok (.iconst 4, 1) := by decide +kernel
theorem dX6_init_224 : decode cX6_init 224 = .ok (.newarray .int, 2) := by decide +kernel
theorem dX6_init_226 : decode cX6_init 226 = .ok (.putfield 93, 3) := by decide +kernel
theorem dX6_init_229 : decode cX6_init 229 = .ok (.aload_n 0, 1) := by decide +kernel
theorem dX6_init_230 : decode cX6_init 230 = .ok (.iconst 4, 1) := by decide +kernel
theorem dX6_init_231 : decode cX6_init 231 = .ok (.newarray .int, 2) := by decide +kernel
theorem dX6_init_233 : decode cX6_init 233 = .ok (.putfield 96, 3) := by decide +kernel
theorem dX6_init_236 : decode cX6_init 236 = .ok (.aload_n 0, 1) := by decide +kernel
theorem dX6_init_237 : decode cX6_init 237 = .ok (.sipush 1024, 3) := by decide +kernel
theorem dX6_init_240 : decode cX6_init 240 = .ok (.newarray .boolean, 2) := by decide +kernel
theorem dX6_init_242 : decode cX6_init 242 = .ok (.putfield 99, 3) := by decide +kernel
theorem dX6_init_245 : decode cX6_init 245 = .ok (.aload_n 0, 1) := by decide +kernel
theorem dX6_init_246 : decode cX6_init 246 = .ok (.sipush 1024, 3) := by decide +kernel
theorem dX6_init_249 : decode cX6_init 249 = .ok (.newarray .int, 2) := by decide +kernel
theorem dX6_init_251 : decode cX6_init 251 = .ok (.putfield 102, 3) := by decide +kernel
theorem dX6_init_254 : decode cX6_init 254 = .ok (.aload_n 0, 1) := by decide +kernel
theorem dX6_init_255 : decode cX6_init 255 = .ok (.bipush 6, 2) := by decide +kernel
theorem dX6_init_257 : decode cX6_init 257 = .ok (.newarray .int, 2) := by decide +kernel
theorem dX6_init_259 : decode cX6_init 259 = .ok (.putfield 105, 3) := by decide +kernel
theorem dX6_init_262 : decode cX6_init 262 = .ok (.aload_n 0, 1) := by decide +kernel
theorem dX6_init_263 : decode cX6_init 263 = .ok (.sipush 1024, 3) := by decide +kernel
theorem dX6_init_266 : decode cX6_init 266 = .ok (.newarray .int, 2) := by decide +kernel
theorem dX6_init_268 : decode cX6_init 268 = .ok (.putfield 108, 3) := by decide +kernel
theorem dX6_init_271 : decode cX6_init 271 = .ok (.aload_n 0, 1) := by decide +kernel
theorem dX6_init_272 : decode cX6_init 272 = .ok (.getfield 27, 3) := by decide +kernel
theorem dX6_init_275 : decode cX6_init 275 = .ok (.iconst 0, 1) := by decide +kernel
theorem dX6_init_276 : decode cX6_init 276 = .ok (.iconst 1, 1) := by decide +kernel
theorem dX6_init_277 : decode cX6_init 277 = .ok (.iastore, 1) := by decide +kernel
theorem dX6_init_278 : decode cX6_init 278 = .ok (.return_, 1) := by decide +kernel
theorem dX6_beyond_0 : decode cX6_beyond 0 = .ok (.iload_n 0, 1) := by decide +kernel
theorem dX6_beyond_1 : decode cX6_beyond 1 = .ok (.iload_n 1, 1) := by decide +kernel
theorem dX6_beyond_2 : decode cX6_beyond 2 = .ok (.if_icmp .lt 8, 3) := by decide +kernel
theorem dX6_beyond_5 : decode cX6_beyond 5 = .ok (.iload_n 0, 1) := by decide +kernel
theorem dX6_beyond_6 : decode cX6_beyond 6 = .ok (.iload_n 2, 1) := by decide +kernel
theorem dX6_beyond_7 : decode cX6_beyond 7 = .ok (.if_icmp .le 7, 3) := by decide +kernel
theorem dX6_beyond_10 : decode cX6_beyond 10 = .ok (.iconst 1, 1) := by decide +kernel
theorem dX6_beyond_11 : decode cX6_beyond 11 = .ok (.goto 4, 3) := by decide +kernel
theorem dX6_beyond_14 : decode cX6_beyond 14 = .ok (.iconst 0, 1) := by decide +kernel
theorem dX6_beyond_15 : decode cX6_beyond 15 = .ok (.ireturn, 1) := by decide +kernel
theorem dX6_anew_0 : decode cX6_anew 0 = .ok (.aload_n 0, 1) := by decide +kernel
theorem dX6_anew_1 : decode cX6_anew 1 = .ok (.iconst 0, 1) := by decide +kernel
theorem dX6_anew_2 : decode cX6_anew 2 = .ok (.putfield 111, 3) := by decide +kernel
theorem dX6_anew_5 : decode cX6_anew 5 = .ok (.aload_n 0, 1) := by decide +kernel
theorem dX6_anew_6 : decode cX6_anew 6 = .ok (.iconst 0, 1) := by decide +kernel
theorem dX6_anew_7 : decode cX6_anew 7 = .ok (.putfield 114, 3) := by decide +kernel
theorem dX6_anew_10 : decode cX6_anew 10 = .ok (.aload_n 0, 1) := by decide +kernel
theorem dX6_anew_11 : decode cX6_anew 11 = .ok (.iconst 0, 1) := by decide +kernel
theorem dX6_anew_12 : decode cX6_anew 12 = .ok (.putfield 117, 3) := by decide +kernel
theorem dX6_anew_15 : decode cX6_anew 15 = .ok (.aload_n 0, 1) := by decide +kernel
theorem dX6_anew_16 : decode cX6_anew 16 = .ok (.iconst 0, 1) := by decide +kernel
theorem dX6_anew_17 : decode cX6_anew 17 = .ok (.putfield 121, 3) := by decide +kernel
theorem dX6_anew_20 : decode cX6_anew 20 = .ok (.return_, 1) := by decide +kernel
theorem dX6_without_0 : decode cX6_without 0 = .ok (.iconst 0, 1) := by decide +kernel
theorem dX6_without_1 : decode cX6_without 1 = .ok (.istore_n 2, 1) := by decide +kernel
theorem dX6_without_2 : decode cX6_without 2 = .ok (.iconst 0, 1) := by decide +kernel
theorem dX6_without_3 : decode cX6_without 3 = .ok (.istore_n 3, 1) := by decide +kernel
theorem dX6_without_4 : decode cX6_without 4 = .ok (.iload_n 3, 1) := by decide +kernel
theorem dX6_without_5 : decode cX6_without 5 = .ok (.aload_n 0, 1) := by decide +kernel
theorem dX6_without_6 : decode cX6_without 6 = .ok (.getfield 124, 3) := by decide +kernel
theorem dX6_without_9 : decode cX6_without 9 = .ok (.if_icmp .ge 153, 3) := by decide +kernel
theorem dX6_without_12 : decode cX6_without 12 = .ok (.aload_n 0, 1) := by decide +kernel
theorem dX6_without_13 : decode cX6_without 13 = .ok (.getfield 63, 3) := by decide +kernel
theorem dX6_without_16 : decode cX6_without 16 = .ok (.iload_n 3, 1) := by decide +kernel
theorem dX6_without_17 : decode cX6_without 17 = .ok (.iaload, 1) := by decide +kernel
theorem dX6_without_18 : decode cX6_without 18 = .ok (.iload_n 1, 1) := by decide +kernel
theorem dX6_without_19 : decode cX6_without 19 = .ok (.if_icmp .eq 137, 3) := by decide +kernel
theorem dX6_without_22 : decode cX6_without 22 = .ok (.aload_n 0, 1) := by decide +kernel
theorem dX6_without_23 : decode cX6_without 23 = .ok (.getfield 60, 3) := by decide +kernel
theorem dX6_without_26 : decode cX6_without 26 = .ok (.iload_n 2, 1) := by decide +kernel
theorem dX6_without_27 : decode cX6_without 27 = .ok (.aload_n 0, 1) := by decide +kernel
theorem dX6_without_28 : decode cX6_without 28 = .ok (.getfield 60, 3) := by decide +kernel
theorem dX6_without_31 : decode cX6_without 31 = .ok (.iload_n 3, 1) := by decide +kernel
theorem dX6_without_32 : decode cX6_without 32 = .ok (.baload, 1) := by decide +kernel
theorem dX6_without_33 : decode cX6_without 33 = .ok (.bastore, 1) := by decide +kernel
theorem dX6_without_34 : decode cX6_without 34 = .ok (.aload_n 0, 1) := by decide +kernel
theorem dX6_without_35 : decode cX6_without 35 = .ok (.getfield 63, 3) := by decide +kernel
theorem dX6_without_38 : decode cX6_without 38 = .ok (.iload_n 2, 1) := by decide +kernel
theorem dX6_without_39 : decode cX6_without 39 = .ok (.aload_n 0, 1) := by decide +kernel
theorem dX6_without_40 : decode cX6_without 40 = .ok (.getfield 63, 3) := by decide +kernel
theorem dX6_without_43 : decode cX6_without 43 = .ok (.iload_n 3, 1) := by decide +kernel
theorem dX6_without_44 : decode cX6_without 44 = .ok (.iaload, 1) := by decide +kernel
theorem dX6_without_45 : decode cX6_without 45 = .ok (.iastore, 1) := by decide +kernel
theorem dX6_without_46 : decode cX6_without 46 = .ok (.aload_n 0, 1) := by decide +kernel
theorem dX6_without_47 : decode cX6_without 47 = .ok (.getfield 66, 3) := by decide +kernel
theorem dX6_without_50 : decode cX6_without 50 = .ok (.iload_n 2, 1) := by decide +kernel
theorem dX6_without_51 : decode cX6_without 51 = .ok (.aload_n 0, 1) := by decide +kernel
theorem dX6_without_52 : decode cX6_without 52 = .ok (.getfield 66, 3) := by decide +kernel
theorem dX6_without_55 : decode cX6_without 55 = .ok (.iload_n 3, 1) := by decide +kernel
theorem dX6_without_56 : decode cX6_without 56 = .ok (.iaload, 1) := by decide +kernel
theorem dX6_without_57 : decode cX6_without 57 = .ok (.iastore, 1) := by decide +kernel
theorem dX6_without_58 : decode cX6_without 58 = .ok (.aload_n 0, 1) := by decide +kernel
theorem dX6_without_59 : decode cX6_without 59 = .ok (.getfield 69, 3) := by decide +kernel
theorem dX6_without_62 : decode cX6_without 62 = .ok (.iload_n 2, 1) := by decide +kernel
theorem dX6_without_63 : decode cX6_without 63 = .ok (.aload_n 0, 1) := by decide +kernel
theorem dX6_without_64 : decode cX6_without 64 = .ok (.getfield 69, 3) := by decide +kernel
theorem dX6_without_67 : decode cX6_without 67 = .ok (.iload_n 3, 1) := by decide +kernel
theorem dX6_without_68 : decode cX6_without 68 = .ok (.iaload, 1) := by decide +kernel
theorem dX6_without_69 : decode cX6_without 69 = .ok (.iastore, 1) := by decide +kernel
theorem dX6_without_70 : decode cX6_without 70 = .ok (.aload_n 0, 1) := by decide +kernel
theorem dX6_without_71 : decode cX6_without 71 = .ok (.getfield 72, 3) := by decide +kernel
theorem dX6_without_74 : decode cX6_without 74 = .ok (.iload_n 2, 1) := by decide +kernel
theorem dX6_without_75 : decode cX6_without 75 = .ok (.aload_n 0, 1) := by decide +kernel
theorem dX6_without_76 : decode cX6_without 76 = .ok (.getfield 72, 3) := by decide +kernel
theorem dX6_without_79 : decode cX6_without 79 = .ok (.iload_n 3, 1) := by decide +kernel
theorem dX6_without_80 : decode cX6_without 80 = .ok (.iaload, 1) := by decide +kernel
theorem dX6_without_81 : decode cX6_without 81 = .ok (.iastore, 1) := by decide +kernel
theorem dX6_without_82 : decode cX6_without 82 = .ok (.aload_n 0, 1) := by decide +kernel
theorem dX6_without_83 : decode cX6_without 83 = .ok (.getfield 75, 3) := by decide +kernel
theorem dX6_without_86 : decode cX6_without 86 = .ok (.iload_n 2, 1) := by decide +kernel
theorem dX6_without_87 : decode cX6_without 87 = .ok (.aload_n 0, 1) := by decide +kernel
theorem dX6_without_88 : decode cX6_without 88 = .ok (.getfield 75, 3) := by decide +kernel
theorem dX6_without_91 : decode cX6_without 91 = .ok (.iload_n 3, 1) := by decide +kernel
theorem dX6_without_92 : decode cX6_without 92 = .ok (.iaload, 1) := by decide +kernel
theorem dX6_without_93 : decode cX6_without 93 = .ok (.iastore, 1) := by decide +kernel
theorem dX6_without_94 : decode cX6_without 94 = .ok (.iconst 0, 1) := by decide +kernel
theorem dX6_without_95 : decode cX6_without 95 = .ok (.istore 4, 2) := by decide +kernel
theorem dX6_without_97 : decode cX6_without 97 = .ok (.iload 4, 2) := by decide +kernel
theorem dX6_without_99 : decode cX6_without 99 = .ok (.iconst 3, 1) := by decide +kernel
theorem dX6_without_100 : decode cX6_without 100 = .ok (.if_icmp .ge 53, 3) := by decide +kernel
theorem dX6_without_103 : decode cX6_without 103 = .ok (.aload_n 0, 1) := by decide +kernel
theorem dX6_without_104 : decode cX6_without 104 = .ok (.getfield 78, 3) := by decide +kernel
theorem dX6_without_107 : decode cX6_without 107 = .ok (.iconst 3, 1) := by decide +kernel
theorem dX6_without_108 : decode cX6_without 108 = .ok (.iload_n 2, 1) := by decide +kernel
theorem dX6_without_109 : decode cX6_without 109 = .ok (.imul, 1) := by decide +kernel
theorem dX6_without_110 : decode cX6_without 110 = .ok (.iload 4, 2) := by decide +kernel
theorem dX6_without_112 : decode cX6_without 112 = .ok (.iadd, 1) := by decide +kernel
theorem dX6_without_113 : decode cX6_without 113 = .ok (.aload_n 0, 1) := by decide +kernel
theorem dX6_without_114 : decode cX6_without 114 = .ok (.getfield 78, 3) := by decide +kernel
theorem dX6_without_117 : decode cX6_without 117 = .ok (.iconst 3, 1) := by decide +kernel
theorem dX6_without_118 : decode cX6_without 118 = .ok (.iload_n 3, 1) := by decide +kernel
theorem dX6_without_119 : decode cX6_without 119 = .ok (.imul, 1) := by decide +kernel
theorem dX6_without_120 : decode cX6_without 120 = .ok (.iload 4, 2) := by decide +kernel
theorem dX6_without_122 : decode cX6_without 122 = .ok (.iadd, 1) := by decide +kernel
theorem dX6_without_123 : decode cX6_without 123 = .ok (.iaload, 1) := by decide +kernel
theorem dX6_without_124 : decode cX6_without 124 = .ok (.iastore, 1) := by decide +kernel
theorem dX6_without_125 : decode cX6_without 125 = .ok (.aload_n 0, 1) := by decide +kernel
theorem dX6_without_126 : decode cX6_without 126 = .ok (.getfield 81, 3) := by decide +kernel
theorem dX6_without_129 : decode cX6_without 129 = .ok (.iconst 3, 1) := by decide +kernel
theorem dX6_without_130 : decode cX6_without 130 = .ok (.iload_n 2, 1) := by decide +kernel
theorem dX6_without_131 : decode cX6_without 131 = .ok (.imul, 1) := by decide +kernel
theorem dX6_without_132 : decode cX6_without 132 = .ok (.iload 4, 2) := by decide +kernel
theorem dX6_without_134 : decode cX6_without 134 = .ok (.iadd, 1) := by decide +kernel
theorem dX6_without_135 : decode cX6_without 135 = .ok (.aload_n 0, 1) := by decide +kernel
theorem dX6_without_136 : decode cX6_without 136 = .ok (.getfield 81, 3) := by decide +kernel
theorem dX6_without_139 : decode cX6_without 139 = .ok (.iconst 3, 1) := by decide +kernel
theorem dX6_without_140 : decode cX6_without 140 = .ok (.iload_n 3, 1) := by decide +kernel
theorem dX6_without_141 : decode cX6_without 141 = .ok (.imul, 1) := by decide +kernel
theorem dX6_without_142 : decode cX6_without 142 = .ok (.iload 4, 2) := by decide +kernel
theorem dX6_without_144 : decode cX6_without 144 = .ok (.iadd, 1) := by decide +kernel
theorem dX6_without_145 : decode cX6_without 145 = .ok (.iaload, 1) := by decide +kernel
theorem dX6_without_146 : decode cX6_without 146 = .ok (.iastore, 1) := by decide +kernel
theorem dX6_without_147 : decode cX6_without 147 = .ok (.iinc 4 1, 3) := by decide +kernel
theorem dX6_without_150 : decode cX6_without 150 = .ok (.goto (-53), 3) := by decide +kernel
theorem dX6_without_153 : decode cX6_without 153 = .ok (.iinc 2 1, 3) := by decide +kernel
theorem dX6_without_156 : decode cX6_without 156 = .ok (.iinc 3 1, 3) := by decide +kernel
theorem dX6_without_159 : decode cX6_without 159 = .ok (.goto (-155), 3) := by decide +kernel
theorem dX6_without_162 : decode cX6_without 162 = .ok (.aload_n 0, 1) := by decide +kernel
theorem dX6_without_163 : decode cX6_without 163 = .ok (.iload_n 2, 1) := by decide +kernel
theorem dX6_without_164 : decode cX6_without 164 = .ok (.putfield 124, 3) := by decide +kernel
theorem dX6_without_167 : decode cX6_without 167 = .ok (.aload_n 0, 1) := by decide +kernel
theorem dX6_without_168 : decode cX6_without 168 = .ok (.invokevirtual 127, 3) := by decide +kernel
theorem dX6_without_171 : decode cX6_without 171 = .ok (.return_, 1) := by decide +kernel
theorem dX6_choice_0 : decode cX6_choice 0 = .ok (.iload_n 1, 1) := by decide +kernel
theorem dX6_choice_1 : decode cX6_choice 1 = .ok (.iconst 2, 1) := by decide +kernel
theorem dX6_choice_2 : decode cX6_choice 2 = .ok (.iconst 4, 1) := by decide +kernel
theorem dX6_choice_3 : decode cX6_choice 3 = .ok (.invokestatic 130, 3) := by decide +kernel
theorem dX6_choice_6 : decode cX6_choice 6 = .ok (.ifCond .eq 6, 3) := by decide +kernel
theorem dX6_choice_9 : decode cX6_choice 9 = .ok (.bipush (-2), 2) := by decide +kernel
theorem dX6_choice_11 : decode cX6_choice 11 = .ok (.ireturn, 1) := by decide +kernel
theorem dX6_choice_12 : decode cX6_choice 12 = .ok (.aload_n 0, 1) := by decide +kernel
theorem dX6_choice_13 : decode cX6_choice 13 = .ok (.getfield 134, 3) := by decide +kernel
theorem dX6_choice_16 : decode cX6_choice 16 = .ok (.bipush 6, 2) := by decide +kernel
theorem dX6_choice_18 : decode cX6_choice 18 = .ok (.if_icmp .ne 6, 3) := by decide +kernel
theorem dX6_choice_21 : decode cX6_choice 21 = .ok (.bipush (-3), 2) := by decide +kernel
theorem dX6_choice_23 : decode cX6_choice 23 = .ok (.ireturn, 1) := by decide +kernel
theorem dX6_choice_24 : decode cX6_choice 24 = .ok (.aload_n 0, 1) := by decide +kernel
theorem dX6_choice_25 : decode cX6_choice 25 = .ok (.getfield 7, 3) := by decide +kernel
theorem dX6_choice_28 : decode cX6_choice 28 = .ok (.aload_n 0, 1) := by decide +kernel
theorem dX6_choice_29 : decode cX6_choice 29 = .ok (.getfield 134, 3) := by decide +kernel
theorem dX6_choice_32 : decode cX6_choice 32 = .ok (.iload_n 1, 1) := by decide +kernel
theorem dX6_choice_33 : decode cX6_choice 33 = .ok (.iastore, 1) := by decide +kernel
theorem dX6_choice_34 : decode cX6_choice 34 = .ok (.iconst 0, 1) := by decide +kernel
theorem dX6_choice_35 : decode cX6_choice 35 = .ok (.istore_n 2, 1) := by decide +kernel
theorem dX6_choice_36 : decode cX6_choice 36 = .ok (.iload_n 2, 1) := by decide +kernel
theorem dX6_choice_37 : decode cX6_choice 37 = .ok (.iconst 4, 1) := by decide +kernel
theorem dX6_choice_38 : decode cX6_choice 38 = .ok (.if_icmp .ge 37, 3) := by decide +kernel
theorem dX6_choice_41 : decode cX6_choice 41 = .ok (.aload_n 0, 1) := by decide +kernel
theorem dX6_choice_42 : decode cX6_choice 42 = .ok (.getfield 13, 3) := by decide +kernel
theorem dX6_choice_45 : decode cX6_choice 45 = .ok (.iconst 4, 1) := by decide +kernel
theorem dX6_choice_46 : decode cX6_choice 46 = .ok (.aload_n 0, 1) := by decide +kernel
theorem dX6_choice_47 : decode cX6_choice 47 = .ok (.getfield 134, 3) := by decide +kernel
theorem dX6_choice_50 : decode cX6_choice 50 = .ok (.imul, 1) := by decide +kernel
theorem dX6_choice_51 : decode cX6_choice 51 = .ok (.iload_n 2, 1) := by decide +kernel
theorem dX6_choice_52 : decode cX6_choice 52 = .ok (.iadd, 1) := by decide +kernel
theorem dX6_choice_53 : decode cX6_choice 53 = .ok (.iconst 0, 1) := by decide +kernel
theorem dX6_choice_54 : decode cX6_choice 54 = .ok (.iastore, 1) := by decide +kernel
theorem dX6_choice_55 : decode cX6_choice 55 = .ok (.aload_n 0, 1) := by decide +kernel
theorem dX6_choice_56 : decode cX6_choice 56 = .ok (.getfield 16, 3) := by decide +kernel
theorem dX6_choice_59 : decode cX6_choice 59 = .ok (.iconst 4, 1) := by decide +kernel
theorem dX6_choice_60 : decode cX6_choice 60 = .ok (.aload_n 0, 1) := by decide +kernel
theorem dX6_choice_61 : decode cX6_choice 61 = .ok (.getfield 134, 3) := by decide +kernel
theorem dX6_choice_64 : decode cX6_choice 64 = .ok (.imul, 1) := by decide +kernel
theorem dX6_choice_65 : decode cX6_choice 65 = .ok (.iload_n 2, 1) := by decide +kernel
theorem dX6_choice_66 : decode cX6_choice 66 = .ok (.iadd, 1) := by decide +kernel
theorem dX6_choice_67 : decode cX6_choice 67 = .ok (.iconst 0, 1) := by decide +kernel
theorem dX6_choice_68 : decode cX6_choice 68 = .ok (.bastore, 1) := by decide +kernel
theorem dX6_choice_69 : decode cX6_choice 69 = .ok (.iinc 2 1, 3) := by decide +kernel
theorem dX6_choice_72 : decode cX6_choice 72 = .ok (.goto (-36), 3) := by decide +kernel
theorem dX6_choice_75 : decode cX6_choice 75 = .ok (.aload_n 0, 1) := by decide +kernel
theorem dX6_choice_76 : decode cX6_choice 76 = .ok (.getfield 20, 3) := by decide +kernel
theorem dX6_choice_79 : decode cX6_choice 79 = .ok (.aload_n 0, 1) := by decide +kernel
theorem dX6_choice_80 : decode cX6_choice 80 = .ok (.getfield 134, 3) := by decide +kernel
theorem dX6_choice_83 : decode cX6_choice 83 = .ok (.iconst 0, 1) := by decide +kernel
theorem dX6_choice_84 : decode cX6_choice 84 = .ok (.iastore, 1) := by decide +kernel
theorem dX6_choice_85 : decode cX6_choice 85 = .ok (.aload_n 0, 1) := by decide +kernel
theorem dX6_choice_86 : decode cX6_choice 86 = .ok (.dup, 1) := by decide +kernel
theorem dX6_choice_87 : decode cX6_choice 87 = .ok (.getfield 134, 3) := by decide +kernel
theorem dX6_choice_90 : decode cX6_choice 90 = .ok (.iconst 1, 1) := by decide +kernel
theorem dX6_choice_91 : decode cX6_choice 91 = .ok (.iadd, 1) := by decide +kernel
theorem dX6_choice_92 : decode cX6_choice 92 = .ok (.putfield 134, 3) := by decide +kernel
theorem dX6_choice_95 : decode cX6_choice 95 = .ok (.aload_n 0, 1) := by decide +kernel
theorem dX6_choice_96 : decode cX6_choice 96 = .ok (.invokevirtual 127, 3) := by decide +kernel
theorem dX6_choice_99 : decode cX6_choice 99 = .ok (.aload_n 0, 1) := by decide +kernel
theorem dX6_choice_100 : decode cX6_choice 100 = .ok (.getfield 134, 3) := by decide +kernel
theorem dX6_choice_103 : decode cX6_choice 103 = .ok (.iconst 1, 1) := by decide +kernel
theorem dX6_choice_104 : decode cX6_choice 104 = .ok (.isub, 1) := by decide +kernel
theorem dX6_choice_105 : decode cX6_choice 105 = .ok (.ireturn, 1) := by decide +kernel
theorem dX6_noValue_0 : decode cX6_noValue 0 = .ok (.iload_n 1, 1) := by decide +kernel
theorem dX6_noValue_1 : decode cX6_noValue 1 = .ok (.iconst 0, 1) := by decide +kernel
theorem dX6_noValue_2 : decode cX6_noValue 2 = .ok (.aload_n 0, 1) := by decide +kernel
theorem dX6_noValue_3 : decode cX6_noValue 3 = .ok (.getfield 134, 3) := by decide +kernel
theorem dX6_noValue_6 : decode cX6_noValue 6 = .ok (.iconst 1, 1) := by decide +kernel
theorem dX6_noValue_7 : decode cX6_noValue 7 = .ok (.isub, 1) := by decide +kernel
theorem dX6_noValue_8 : decode cX6_noValue 8 = .ok (.invokestatic 130, 3) := by decide +kernel
theorem dX6_noValue_11 : decode cX6_noValue 11 = .ok (.ifCond .ne 19, 3) := by decide +kernel
theorem dX6_noValue_14 : decode cX6_noValue 14 = .ok (.iload_n 2, 1) := by decide +kernel
theorem dX6_noValue_15 : decode cX6_noValue 15 = .ok (.iconst 0, 1) := by decide +kernel
theorem dX6_noValue_16 : decode cX6_noValue 16 = .ok (.aload_n 0, 1) := by decide +kernel
theorem dX6_noValue_17 : decode cX6_noValue 17 = .ok (.getfield 7, 3) := by decide +kernel
theorem dX6_noValue_20 : decode cX6_noValue 20 = .ok (.iload_n 1, 1) := by decide +kernel
theorem dX6_noValue_21 : decode cX6_noValue 21 = .ok (.iaload, 1) := by decide +kernel
theorem dX6_noValue_22 : decode cX6_noValue 22 = .ok (.iconst 1, 1) := by decide +kernel
theorem dX6_noValue_23 : decode cX6_noValue 23 = .ok (.isub, 1) := by decide +kernel
theorem dX6_noValue_24 : decode cX6_noValue 24 = .ok (.invokestatic 130, 3) := by decide +kernel
theorem dX6_noValue_27 : decode cX6_noValue 27 = .ok (.ifCond .eq 7, 3) := by decide +kernel
theorem dX6_noValue_30 : decode cX6_noValue 30 = .ok (.iconst 1, 1) := by decide +kernel
theorem dX6_noValue_31 : decode cX6_noValue 31 = .ok (.goto 4, 3) := by decide +kernel
theorem dX6_noValue_34 : decode cX6_noValue 34 = .ok (.iconst 0, 1) := by decide +kernel
theorem dX6_noValue_35 : decode cX6_noValue 35 = .ok (.ireturn, 1) := by decide +kernel
theorem dX6_price_0 : decode cX6_price 0 = .ok (.aload_n 0, 1) := by decide +kernel
theorem dX6_price_1 : decode cX6_price 1 = .ok (.iload_n 1, 1) := by decide +kernel
theorem dX6_price_2 : decode cX6_price 2 = .ok (.iload_n 2, 1) := by decide +kernel
theorem dX6_price_3 : decode cX6_price 3 = .ok (.invokevirtual 137, 3) := by decide +kernel
theorem dX6_price_6 : decode cX6_price 6 = .ok (.ifCond .eq 5, 3) := by decide +kernel
theorem dX6_price_9 : decode cX6_price 9 = .ok (.iconst (-1), 1) := by decide +kernel
theorem dX6_price_10 : decode cX6_price 10 = .ok (.ireturn, 1) := by decide +kernel
theorem dX6_price_11 : decode cX6_price 11 = .ok (.iload_n 3, 1) := by decide +kernel
theorem dX6_price_12 : decode cX6_price 12 = .ok (.bipush (-4), 2) := by decide +kernel
theorem dX6_price_14 : decode cX6_price 14 = .ok (.if_icmp .eq 17, 3) := by decide +kernel
theorem dX6_price_17 : decode cX6_price 17 = .ok (.iload_n 3, 1) := by decide +kernel
theorem dX6_price_18 : decode cX6_price 18 = .ok (.iconst 0, 1) := by decide +kernel
theorem dX6_price_19 : decode cX6_price 19 = .ok (.sipush 200, 3) := by decide +kernel
theorem dX6_price_22 : decode cX6_price 22 = .ok (.invokestatic 130, 3) := by decide +kernel
theorem dX6_price_25 : decode cX6_price 25 = .ok (.ifCond .eq 6, 3) := by decide +kernel
theorem dX6_price_28 : decode cX6_price 28 = .ok (.bipush (-2), 2) := by decide +kernel
theorem dX6_price_30 : decode cX6_price 30 = .ok (.ireturn, 1) := by decide +kernel
theorem dX6_price_31 : decode cX6_price 31 = .ok (.iconst 4, 1) := by decide +kernel
theorem dX6_price_32 : decode cX6_price 32 = .ok (.iload_n 1, 1) := by decide +kernel
theorem dX6_price_33 : decode cX6_price 33 = .ok (.imul, 1) := by decide +kernel
theorem dX6_price_34 : decode cX6_price 34 = .ok (.iload_n 2, 1) := by decide +kernel
theorem dX6_price_35 : decode cX6_price 35 = .ok (.iadd, 1) := by decide +kernel
theorem dX6_price_36 : decode cX6_price 36 = .ok (.istore 4, 2) := by decide +kernel
theorem dX6_price_38 : decode cX6_price 38 = .ok (.aload_n 0, 1) := by decide +kernel
theorem dX6_price_39 : decode cX6_price 39 = .ok (.getfield 16, 3) := by decide +kernel
theorem dX6_price_42 : decode cX6_price 42 = .ok (.iload 4, 2) := by decide +kernel
theorem dX6_price_44 : decode cX6_price 44 = .ok (.iload_n 3, 1) := by decide +kernel
theorem dX6_price_45 : decode cX6_price 45 = .ok (.bipush (-4), 2) := by decide +kernel
theorem dX6_price_47 : decode cX6_price 47 = .ok (.if_icmp .ne 7, 3) := by decide +kernel
theorem dX6_price_50 : decode cX6_price 50 = .ok (.iconst 1, 1) := by decide +kernel
theorem dX6_price_51 : decode cX6_price 51 = .ok (.goto 4, 3) := by decide +kernel
theorem dX6_price_54 : decode cX6_price 54 = .ok (.iconst 0, 1) := by decide +kernel
theorem dX6_price_55 : decode cX6_price 55 = .ok (.bastore, 1) := by decide +kernel
theorem dX6_price_56 : decode cX6_price 56 = .ok (.aload_n 0, 1) := by decide +kernel
theorem dX6_price_57 : decode cX6_price 57 = .ok (.getfield 13, 3) := by decide +kernel
theorem dX6_price_60 : decode cX6_price 60 = .ok (.iload 4, 2) := by decide +kernel
theorem dX6_price_62 : decode cX6_price 62 = .ok (.iload_n 3, 1) := by decide +kernel
theorem dX6_price_63 : decode cX6_price 63 = .ok (.bipush (-4), 2) := by decide +kernel
theorem dX6_price_65 : decode cX6_price 65 = .ok (.if_icmp .ne 7, 3) := by decide +kernel
theorem dX6_price_68 : decode cX6_price 68 = .ok (.iconst 0, 1) := by decide +kernel
theorem dX6_price_69 : decode cX6_price 69 = .ok (.goto 4, 3) := by decide +kernel
theorem dX6_price_72 : decode cX6_price 72 = .ok (.iload_n 3, 1) := by decide +kernel
theorem dX6_price_73 : decode cX6_price 73 = .ok (.iastore, 1) := by decide +kernel
theorem dX6_price_74 : decode cX6_price 74 = .ok (.aload_n 0, 1) := by decide +kernel
theorem dX6_price_75 : decode cX6_price 75 = .ok (.invokevirtual 127, 3) := by decide +kernel
theorem dX6_price_78 : decode cX6_price 78 = .ok (.iconst 1, 1) := by decide +kernel
theorem dX6_price_79 : decode cX6_price 79 = .ok (.ireturn, 1) := by decide +kernel
theorem dX6_future_0 : decode cX6_future 0 = .ok (.iload_n 1, 1) := by decide +kernel
theorem dX6_future_1 : decode cX6_future 1 = .ok (.iconst 1, 1) := by decide +kernel
theorem dX6_future_2 : decode cX6_future 2 = .ok (.bipush 20, 2) := by decide +kernel
theorem dX6_future_4 : decode cX6_future 4 = .ok (.invokestatic 130, 3) := by decide +kernel
theorem dX6_future_7 : decode cX6_future 7 = .ok (.ifCond .eq 6, 3) := by decide +kernel
theorem dX6_future_10 : decode cX6_future 10 = .ok (.bipush (-2), 2) := by decide +kernel
theorem dX6_future_12 : decode cX6_future 12 = .ok (.ireturn, 1) := by decide +kernel
theorem dX6_future_13 : decode cX6_future 13 = .ok (.aload_n 0, 1) := by decide +kernel
theorem dX6_future_14 : decode cX6_future 14 = .ok (.getfield 23, 3) := by decide +kernel
theorem dX6_future_17 : decode cX6_future 17 = .ok (.iconst 4, 1) := by decide +kernel
theorem dX6_future_18 : decode cX6_future 18 = .ok (.if_icmp .ne 6, 3) := by decide +kernel
theorem dX6_future_21 : decode cX6_future 21 = .ok (.bipush (-3), 2) := by decide +kernel
theorem dX6_future_23 : decode cX6_future 23 = .ok (.ireturn, 1) := by decide +kernel
theorem dX6_future_24 : decode cX6_future 24 = .ok (.aload_n 0, 1) := by decide +kernel
theorem dX6_future_25 : decode cX6_future 25 = .ok (.getfield 27, 3) := by decide +kernel
theorem dX6_future_28 : decode cX6_future 28 = .ok (.aload_n 0, 1) := by decide +kernel
theorem dX6_future_29 : decode cX6_future 29 = .ok (.getfield 23, 3) := by decide +kernel
theorem dX6_future_32 : decode cX6_future 32 = .ok (.iload_n 1, 1) := by decide +kernel
theorem dX6_future_33 : decode cX6_future 33 = .ok (.iastore, 1) := by decide +kernel
theorem dX6_future_34 : decode cX6_future 34 = .ok (.aload_n 0, 1) := by decide +kernel
theorem dX6_future_35 : decode cX6_future 35 = .ok (.dup, 1) := by decide +kernel
theorem dX6_future_36 : decode cX6_future 36 = .ok (.getfield 23, 3) := by decide +kernel
theorem dX6_future_39 : decode cX6_future 39 = .ok (.iconst 1, 1) := by decide +kernel
theorem dX6_future_40 : decode cX6_future 40 = .ok (.iadd, 1) := by decide +kernel
theorem dX6_future_41 : decode cX6_future 41 = .ok (.putfield 23, 3) := by decide +kernel
theorem dX6_future_44 : decode cX6_future 44 = .ok (.aload_n 0, 1) := by decide +kernel
theorem dX6_future_45 : decode cX6_future 45 = .ok (.invokevirtual 127, 3) := by decide +kernel
theorem dX6_future_48 : decode cX6_future 48 = .ok (.aload_n 0, 1) := by decide +kernel
theorem dX6_future_49 : decode cX6_future 49 = .ok (.getfield 23, 3) := by decide +kernel
theorem dX6_future_52 : decode cX6_future 52 = .ok (.iconst 1, 1) := by decide +kernel
theorem dX6_future_53 : decode cX6_future 53 = .ok (.isub, 1) := by decide +kernel
theorem dX6_future_54 : decode cX6_future 54 = .ok (.ireturn, 1) := by decide +kernel
theorem dX6_noFuture_0 : decode cX6_noFuture 0 = .ok (.iload_n 1, 1) := by decide +kernel
theorem dX6_noFuture_1 : decode cX6_noFuture 1 = .ok (.iconst 0, 1) := by decide +kernel
theorem dX6_noFuture_2 : decode cX6_noFuture 2 = .ok (.aload_n 0, 1) := by decide +kernel
theorem dX6_noFuture_3 : decode cX6_noFuture 3 = .ok (.getfield 23, 3) := by decide +kernel
theorem dX6_noFuture_6 : decode cX6_noFuture 6 = .ok (.iconst 1, 1) := by decide +kernel
theorem dX6_noFuture_7 : decode cX6_noFuture 7 = .ok (.isub, 1) := by decide +kernel
theorem dX6_noFuture_8 : decode cX6_noFuture 8 = .ok (.invokestatic 130, 3) := by decide +kernel
theorem dX6_noFuture_11 : decode cX6_noFuture 11 = .ok (.ireturn, 1) := by decide +kernel
theorem dX6_noPart_0 : decode cX6_noPart 0 = .ok (.iload_n 1, 1) := by decide +kernel
theorem dX6_noPart_1 : decode cX6_noPart 1 = .ok (.iconst 0, 1) := by decide +kernel
theorem dX6_noPart_2 : decode cX6_noPart 2 = .ok (.aload_n 0, 1) := by decide +kernel
theorem dX6_noPart_3 : decode cX6_noPart 3 = .ok (.getfield 141, 3) := by decide +kernel
theorem dX6_noPart_6 : decode cX6_noPart 6 = .ok (.iconst 1, 1) := by decide +kernel
theorem dX6_noPart_7 : decode cX6_noPart 7 = .ok (.isub, 1) := by decide +kernel
theorem dX6_noPart_8 : decode cX6_noPart 8 = .ok (.invokestatic 130, 3) := by decide +kernel
theorem dX6_noPart_11 : decode cX6_noPart 11 = .ok (.ireturn, 1) := by decide +kernel
theorem dX6_weight_0 : decode cX6_weight 0 = .ok (.aload_n 0, 1) := by decide +kernel
theorem dX6_weight_1 : decode cX6_weight 1 = .ok (.iload_n 1, 1) := by decide +kernel
theorem dX6_weight_2 : decode cX6_weight 2 = .ok (.invokevirtual 144, 3) := by decide +kernel
theorem dX6_weight_5 : decode cX6_weight 5 = .ok (.ifCond .eq 5, 3) := by decide +kernel
theorem dX6_weight_8 : decode cX6_weight 8 = .ok (.iconst (-1), 1) := by decide +kernel
theorem dX6_weight_9 : decode cX6_weight 9 = .ok (.ireturn, 1) := by decide +kernel
theorem dX6_weight_10 : decode cX6_weight 10 = .ok (.iload_n 2, 1) := by decide +kernel
theorem dX6_weight_11 : decode cX6_weight 11 = .ok (.iconst 1, 1) := by decide +kernel
theorem dX6_weight_12 : decode cX6_weight 12 = .ok (.bipush 20, 2) := by decide +kernel
theorem dX6_weight_14 : decode cX6_weight 14 = .ok (.invokestatic 130, 3) := by decide +kernel
theorem dX6_weight_17 : decode cX6_weight 17 = .ok (.ifCond .eq 6, 3) := by decide +kernel
theorem dX6_weight_20 : decode cX6_weight 20 = .ok (.bipush (-2), 2) := by decide +kernel
theorem dX6_weight_22 : decode cX6_weight 22 = .ok (.ireturn, 1) := by decide +kernel
theorem dX6_weight_23 : decode cX6_weight 23 = .ok (.aload_n 0, 1) := by decide +kernel
theorem dX6_weight_24 : decode cX6_weight 24 = .ok (.getfield 27, 3) := by decide +kernel
theorem dX6_weight_27 : decode cX6_weight 27 = .ok (.iload_n 1, 1) := by decide +kernel
theorem dX6_weight_28 : decode cX6_weight 28 = .ok (.iaload, 1) := by decide +kernel
theorem dX6_weight_29 : decode cX6_weight 29 = .ok (.istore_n 3, 1) := by decide +kernel
theorem dX6_weight_30 : decode cX6_weight 30 = .ok (.aload_n 0, 1) := by decide +kernel
theorem dX6_weight_31 : decode cX6_weight 31 = .ok (.getfield 27, 3) := by decide +kernel
theorem dX6_weight_34 : decode cX6_weight 34 = .ok (.iload_n 1, 1) := by decide +kernel
theorem dX6_weight_35 : decode cX6_weight 35 = .ok (.iload_n 2, 1) := by decide +kernel
theorem dX6_weight_36 : decode cX6_weight 36 = .ok (.iastore, 1) := by decide +kernel
theorem dX6_weight_37 : decode cX6_weight 37 = .ok (.aload_n 0, 1) := by decide +kernel
theorem dX6_weight_38 : decode cX6_weight 38 = .ok (.invokevirtual 127, 3) := by decide +kernel
theorem dX6_weight_41 : decode cX6_weight 41 = .ok (.iload_n 3, 1) := by decide +kernel
theorem dX6_weight_42 : decode cX6_weight 42 = .ok (.ireturn, 1) := by decide +kernel
theorem dX6_part_0 : decode cX6_part 0 = .ok (.aload_n 0, 1) := by decide +kernel
theorem dX6_part_1 : decode cX6_part 1 = .ok (.getfield 141, 3) := by decide +kernel
theorem dX6_part_4 : decode cX6_part 4 = .ok (.iconst 4, 1) := by decide +kernel
theorem dX6_part_5 : decode cX6_part 5 = .ok (.if_icmp .ne 6, 3) := by decide +kernel
theorem dX6_part_8 : decode cX6_part 8 = .ok (.bipush (-3), 2) := by decide +kernel
theorem dX6_part_10 : decode cX6_part 10 = .ok (.ireturn, 1) := by decide +kernel
theorem dX6_part_11 : decode cX6_part 11 = .ok (.aload_n 0, 1) := by decide +kernel
theorem dX6_part_12 : decode cX6_part 12 = .ok (.dup, 1) := by decide +kernel
theorem dX6_part_13 : decode cX6_part 13 = .ok (.getfield 141, 3) := by decide +kernel
theorem dX6_part_16 : decode cX6_part 16 = .ok (.iconst 1, 1) := by decide +kernel
theorem dX6_part_17 : decode cX6_part 17 = .ok (.iadd, 1) := by decide +kernel
theorem dX6_part_18 : decode cX6_part 18 = .ok (.putfield 141, 3) := by decide +kernel
theorem dX6_part_21 : decode cX6_part 21 = .ok (.aload_n 0, 1) := by decide +kernel
theorem dX6_part_22 : decode cX6_part 22 = .ok (.invokevirtual 127, 3) := by decide +kernel
theorem dX6_part_25 : decode cX6_part 25 = .ok (.aload_n 0, 1) := by decide +kernel
theorem dX6_part_26 : decode cX6_part 26 = .ok (.getfield 141, 3) := by decide +kernel
theorem dX6_part_29 : decode cX6_part 29 = .ok (.iconst 1, 1) := by decide +kernel
theorem dX6_part_30 : decode cX6_part 30 = .ok (.isub, 1) := by decide +kernel
theorem dX6_part_31 : decode cX6_part 31 = .ok (.ireturn, 1) := by decide +kernel
theorem dX6_placeOf_0 : decode cX6_placeOf 0 = .ok (.iconst 0, 1) := by decide +kernel
theorem dX6_placeOf_1 : decode cX6_placeOf 1 = .ok (.istore_n 3, 1) := by decide +kernel
theorem dX6_placeOf_2 : decode cX6_placeOf 2 = .ok (.iload_n 3, 1) := by decide +kernel
theorem dX6_placeOf_3 : decode cX6_placeOf 3 = .ok (.aload_n 0, 1) := by decide +kernel
theorem dX6_placeOf_4 : decode cX6_placeOf 4 = .ok (.getfield 30, 3) := by decide +kernel
theorem dX6_placeOf_7 : decode cX6_placeOf 7 = .ok (.iload_n 1, 1) := by decide +kernel
theorem dX6_placeOf_8 : decode cX6_placeOf 8 = .ok (.iaload, 1) := by decide +kernel
theorem dX6_placeOf_9 : decode cX6_placeOf 9 = .ok (.if_icmp .ge 25, 3) := by decide +kernel
theorem dX6_placeOf_12 : decode cX6_placeOf 12 = .ok (.aload_n 0, 1) := by decide +kernel
theorem dX6_placeOf_13 : decode cX6_placeOf 13 = .ok (.getfield 33, 3) := by decide +kernel
theorem dX6_placeOf_16 : decode cX6_placeOf 16 = .ok (.iconst 3, 1) := by decide +kernel
theorem dX6_placeOf_17 : decode cX6_placeOf 17 = .ok (.iload_n 1, 1) := by decide +kernel
theorem dX6_placeOf_18 : decode cX6_placeOf 18 = .ok (.imul, 1) := by decide +kernel
theorem dX6_placeOf_19 : decode cX6_placeOf 19 = .ok (.iload_n 3, 1) := by decide +kernel
theorem dX6_placeOf_20 : decode cX6_placeOf 20 = .ok (.iadd, 1) := by decide +kernel
theorem dX6_placeOf_21 : decode cX6_placeOf 21 = .ok (.iaload, 1) := by decide +kernel
theorem dX6_placeOf_22 : decode cX6_placeOf 22 = .ok (.iload_n 2, 1) := by decide +kernel
theorem dX6_placeOf_23 : decode cX6_placeOf 23 = .ok (.if_icmp .ne 5, 3) := by decide +kernel
theorem dX6_placeOf_26 : decode cX6_placeOf 26 = .ok (.iload_n 3, 1) := by decide +kernel
theorem dX6_placeOf_27 : decode cX6_placeOf 27 = .ok (.ireturn, 1) := by decide +kernel
theorem dX6_placeOf_28 : decode cX6_placeOf 28 = .ok (.iinc 3 1, 3) := by decide +kernel
theorem dX6_placeOf_31 : decode cX6_placeOf 31 = .ok (.goto (-29), 3) := by decide +kernel
theorem dX6_placeOf_34 : decode cX6_placeOf 34 = .ok (.iconst (-1), 1) := by decide +kernel
theorem dX6_placeOf_35 : decode cX6_placeOf 35 = .ok (.ireturn, 1) := by decide +kernel
theorem dX6_join_0 : decode cX6_join 0 = .ok (.aload_n 0, 1) := by decide +kernel
theorem dX6_join_1 : decode cX6_join 1 = .ok (.iload_n 1, 1) := by decide +kernel
theorem dX6_join_2 : decode cX6_join 2 = .ok (.invokevirtual 148, 3) := by decide +kernel
theorem dX6_join_5 : decode cX6_join 5 = .ok (.ifCond .ne 17, 3) := by decide +kernel
theorem dX6_join_8 : decode cX6_join 8 = .ok (.iload_n 2, 1) := by decide +kernel
theorem dX6_join_9 : decode cX6_join 9 = .ok (.iconst 0, 1) := by decide +kernel
theorem dX6_join_10 : decode cX6_join 10 = .ok (.aload_n 0, 1) := by decide +kernel
theorem dX6_join_11 : decode cX6_join 11 = .ok (.getfield 134, 3) := by decide +kernel
theorem dX6_join_14 : decode cX6_join 14 = .ok (.iconst 1, 1) := by decide +kernel
theorem dX6_join_15 : decode cX6_join 15 = .ok (.isub, 1) := by decide +kernel
theorem dX6_join_16 : decode cX6_join 16 = .ok (.invokestatic 130, 3) := by decide +kernel
theorem dX6_join_19 : decode cX6_join 19 = .ok (.ifCond .eq 5, 3) := by decide +kernel
theorem dX6_join_22 : decode cX6_join 22 = .ok (.iconst (-1), 1) := by decide +kernel
theorem dX6_join_23 : decode cX6_join 23 = .ok (.ireturn, 1) := by decide +kernel
theorem dX6_join_24 : decode cX6_join 24 = .ok (.aload_n 0, 1) := by decide +kernel
theorem dX6_join_25 : decode cX6_join 25 = .ok (.iload_n 1, 1) := by decide +kernel
theorem dX6_join_26 : decode cX6_join 26 = .ok (.iload_n 2, 1) := by decide +kernel
theorem dX6_join_27 : decode cX6_join 27 = .ok (.invokevirtual 151, 3) := by decide +kernel
theorem dX6_join_30 : decode cX6_join 30 = .ok (.ifCond .lt 6, 3) := by decide +kernel
theorem dX6_join_33 : decode cX6_join 33 = .ok (.bipush (-4), 2) := by decide +kernel
theorem dX6_join_35 : decode cX6_join 35 = .ok (.ireturn, 1) := by decide +kernel
theorem dX6_join_36 : decode cX6_join 36 = .ok (.aload_n 0, 1) := by decide +kernel
theorem dX6_join_37 : decode cX6_join 37 = .ok (.getfield 30, 3) := by decide +kernel
theorem dX6_join_40 : decode cX6_join 40 = .ok (.iload_n 1, 1) := by decide +kernel
theorem dX6_join_41 : decode cX6_join 41 = .ok (.iaload, 1) := by decide +kernel
theorem dX6_join_42 : decode cX6_join 42 = .ok (.iconst 3, 1) := by decide +kernel
theorem dX6_join_43 : decode cX6_join 43 = .ok (.if_icmp .ne 6, 3) := by decide +kernel
theorem dX6_join_46 : decode cX6_join 46 = .ok (.bipush (-3), 2) := by decide +kernel
theorem dX6_join_48 : decode cX6_join 48 = .ok (.ireturn, 1) := by decide +kernel
theorem dX6_join_49 : decode cX6_join 49 = .ok (.aload_n 0, 1) := by decide +kernel
theorem dX6_join_50 : decode cX6_join 50 = .ok (.getfield 30, 3) := by decide +kernel
theorem dX6_join_53 : decode cX6_join 53 = .ok (.iload_n 1, 1) := by decide +kernel
theorem dX6_join_54 : decode cX6_join 54 = .ok (.iaload, 1) := by decide +kernel
theorem dX6_join_55 : decode cX6_join 55 = .ok (.istore_n 3, 1) := by decide +kernel
theorem dX6_join_56 : decode cX6_join 56 = .ok (.iload_n 3, 1) := by decide +kernel
theorem dX6_join_57 : decode cX6_join 57 = .ok (.ifCond .le 47, 3) := by decide +kernel
theorem dX6_join_60 : decode cX6_join 60 = .ok (.aload_n 0, 1) := by decide +kernel
theorem dX6_join_61 : decode cX6_join 61 = .ok (.getfield 33, 3) := by decide +kernel
theorem dX6_join_64 : decode cX6_join 64 = .ok (.iconst 3, 1) := by decide +kernel
theorem dX6_join_65 : decode cX6_join 65 = .ok (.iload_n 1, 1) := by decide +kernel
theorem dX6_join_66 : decode cX6_join 66 = .ok (.imul, 1) := by decide +kernel
theorem dX6_join_67 : decode cX6_join 67 = .ok (.iload_n 3, 1) := by decide +kernel
theorem dX6_join_68 : decode cX6_join 68 = .ok (.iadd, 1) := by decide +kernel
theorem dX6_join_69 : decode cX6_join 69 = .ok (.iconst 1, 1) := by decide +kernel
theorem dX6_join_70 : decode cX6_join 70 = .ok (.isub, 1) := by decide +kernel
theorem dX6_join_71 : decode cX6_join 71 = .ok (.iaload, 1) := by decide +kernel
theorem dX6_join_72 : decode cX6_join 72 = .ok (.iload_n 2, 1) := by decide +kernel
theorem dX6_join_73 : decode cX6_join 73 = .ok (.if_icmp .le 31, 3) := by decide +kernel
theorem dX6_join_76 : decode cX6_join 76 = .ok (.aload_n 0, 1) := by decide +kernel
theorem dX6_join_77 : decode cX6_join 77 = .ok (.getfield 33, 3) := by decide +kernel
theorem dX6_join_80 : decode cX6_join 80 = .ok (.iconst 3, 1) := by decide +kernel
theorem dX6_join_81 : decode cX6_join 81 = .ok (.iload_n 1, 1) := by decide +kernel
theorem dX6_join_82 : decode cX6_join 82 = .ok (.imul, 1) := by decide +kernel
theorem dX6_join_83 : decode cX6_join 83 = .ok (.iload_n 3, 1) := by decide +kernel
theorem dX6_join_84 : decode cX6_join 84 = .ok (.iadd, 1) := by decide +kernel
theorem dX6_join_85 : decode cX6_join 85 = .ok (.aload_n 0, 1) := by decide +kernel
theorem dX6_join_86 : decode cX6_join 86 = .ok (.getfield 33, 3) := by decide +kernel
theorem dX6_join_89 : decode cX6_join 89 = .ok (.iconst 3, 1) := by decide +kernel
theorem dX6_join_90 : decode cX6_join 90 = .ok (.iload_n 1, 1) := by decide +kernel
theorem dX6_join_91 : decode cX6_join 91 = .ok (.imul, 1) := by decide +kernel
theorem dX6_join_92 : decode cX6_join 92 = .ok (.iload_n 3, 1) := by decide +kernel
theorem dX6_join_93 : decode cX6_join 93 = .ok (.iadd, 1) := by decide +kernel
theorem dX6_join_94 : decode cX6_join 94 = .ok (.iconst 1, 1) := by decide +kernel
theorem dX6_join_95 : decode cX6_join 95 = .ok (.isub, 1) := by decide +kernel
theorem dX6_join_96 : decode cX6_join 96 = .ok (.iaload, 1) := by decide +kernel
theorem dX6_join_97 : decode cX6_join 97 = .ok (.iastore, 1) := by decide +kernel
theorem dX6_join_98 : decode cX6_join 98 = .ok (.iinc 3 (-1), 3) := by decide +kernel
theorem dX6_join_101 : decode cX6_join 101 = .ok (.goto (-45), 3) := by decide +kernel
theorem dX6_join_104 : decode cX6_join 104 = .ok (.aload_n 0, 1) := by decide +kernel
theorem dX6_join_105 : decode cX6_join 105 = .ok (.getfield 33, 3) := by decide +kernel
theorem dX6_join_108 : decode cX6_join 108 = .ok (.iconst 3, 1) := by decide +kernel
theorem dX6_join_109 : decode cX6_join 109 = .ok (.iload_n 1, 1) := by decide +kernel
theorem dX6_join_110 : decode cX6_join 110 = .ok (.imul, 1) := by decide +kernel
theorem dX6_join_111 : decode cX6_join 111 = .ok (.iload_n 3, 1) := by decide +kernel
theorem dX6_join_112 : decode cX6_join 112 = .ok (.iadd, 1) := by decide +kernel
theorem dX6_join_113 : decode cX6_join 113 = .ok (.iload_n 2, 1) := by decide +kernel
theorem dX6_join_114 : decode cX6_join 114 = .ok (.iastore, 1) := by decide +kernel
theorem dX6_join_115 : decode cX6_join 115 = .ok (.aload_n 0, 1) := by decide +kernel
theorem dX6_join_116 : decode cX6_join 116 = .ok (.getfield 30, 3) := by decide +kernel
theorem dX6_join_119 : decode cX6_join 119 = .ok (.iload_n 1, 1) := by decide +kernel
theorem dX6_join_120 : decode cX6_join 120 = .ok (.dup2, 1) := by decide +kernel
theorem dX6_join_121 : decode cX6_join 121 = .ok (.iaload, 1) := by decide +kernel
theorem dX6_join_122 : decode cX6_join 122 = .ok (.iconst 1, 1) := by decide +kernel
theorem dX6_join_123 : decode cX6_join 123 = .ok (.iadd, 1) := by decide +kernel
theorem dX6_join_124 : decode cX6_join 124 = .ok (.iastore, 1) := by decide +kernel
theorem dX6_join_125 : decode cX6_join 125 = .ok (.aload_n 0, 1) := by decide +kernel
theorem dX6_join_126 : decode cX6_join 126 = .ok (.iload_n 1, 1) := by decide +kernel
theorem dX6_join_127 : decode cX6_join 127 = .ok (.invokevirtual 155, 3) := by decide +kernel
theorem dX6_join_130 : decode cX6_join 130 = .ok (.aload_n 0, 1) := by decide +kernel
theorem dX6_join_131 : decode cX6_join 131 = .ok (.getfield 30, 3) := by decide +kernel
theorem dX6_join_134 : decode cX6_join 134 = .ok (.iload_n 1, 1) := by decide +kernel
theorem dX6_join_135 : decode cX6_join 135 = .ok (.iaload, 1) := by decide +kernel
theorem dX6_join_136 : decode cX6_join 136 = .ok (.ireturn, 1) := by decide +kernel
theorem dX6_local_0 : decode cX6_local 0 = .ok (.aload_n 0, 1) := by decide +kernel
theorem dX6_local_1 : decode cX6_local 1 = .ok (.iload_n 1, 1) := by decide +kernel
theorem dX6_local_2 : decode cX6_local 2 = .ok (.invokevirtual 148, 3) := by decide +kernel
theorem dX6_local_5 : decode cX6_local 5 = .ok (.ifCond .eq 5, 3) := by decide +kernel
theorem dX6_local_8 : decode cX6_local 8 = .ok (.iconst (-1), 1) := by decide +kernel
theorem dX6_local_9 : decode cX6_local 9 = .ok (.ireturn, 1) := by decide +kernel
theorem dX6_local_10 : decode cX6_local 10 = .ok (.iload_n 2, 1) := by decide +kernel
theorem dX6_local_11 : decode cX6_local 11 = .ok (.iconst 1, 1) := by decide +kernel
theorem dX6_local_12 : decode cX6_local 12 = .ok (.iconst 3, 1) := by decide +kernel
theorem dX6_local_13 : decode cX6_local 13 = .ok (.invokestatic 130, 3) := by decide +kernel
theorem dX6_local_16 : decode cX6_local 16 = .ok (.ifCond .ne 13, 3) := by decide +kernel
theorem dX6_local_19 : decode cX6_local 19 = .ok (.iload_n 3, 1) := by decide +kernel
theorem dX6_local_20 : decode cX6_local 20 = .ok (.iconst 0, 1) := by decide +kernel
theorem dX6_local_21 : decode cX6_local 21 = .ok (.bipush 50, 2) := by decide +kernel
theorem dX6_local_23 : decode cX6_local 23 = .ok (.invokestatic 130, 3) := by decide +kernel
theorem dX6_local_26 : decode cX6_local 26 = .ok (.ifCond .eq 6, 3) := by decide +kernel
theorem dX6_local_29 : decode cX6_local 29 = .ok (.bipush (-2), 2) := by decide +kernel
theorem dX6_local_31 : decode cX6_local 31 = .ok (.ireturn, 1) := by decide +kernel
theorem dX6_local_32 : decode cX6_local 32 = .ok (.aload_n 0, 1) := by decide +kernel
theorem dX6_local_33 : decode cX6_local 33 = .ok (.getfield 36, 3) := by decide +kernel
theorem dX6_local_36 : decode cX6_local 36 = .ok (.iload_n 1, 1) := by decide +kernel
theorem dX6_local_37 : decode cX6_local 37 = .ok (.iaload, 1) := by decide +kernel
theorem dX6_local_38 : decode cX6_local 38 = .ok (.iconst 4, 1) := by decide +kernel
theorem dX6_local_39 : decode cX6_local 39 = .ok (.if_icmp .ne 6, 3) := by decide +kernel
theorem dX6_local_42 : decode cX6_local 42 = .ok (.bipush (-3), 2) := by decide +kernel
theorem dX6_local_44 : decode cX6_local 44 = .ok (.ireturn, 1) := by decide +kernel
theorem dX6_local_45 : decode cX6_local 45 = .ok (.aload_n 0, 1) := by decide +kernel
theorem dX6_local_46 : decode cX6_local 46 = .ok (.getfield 39, 3) := by decide +kernel
theorem dX6_local_49 : decode cX6_local 49 = .ok (.iconst 4, 1) := by decide +kernel
theorem dX6_local_50 : decode cX6_local 50 = .ok (.iload_n 1, 1) := by decide +kernel
theorem dX6_local_51 : decode cX6_local 51 = .ok (.imul, 1) := by decide +kernel
theorem dX6_local_52 : decode cX6_local 52 = .ok (.aload_n 0, 1) := by decide +kernel
theorem dX6_local_53 : decode cX6_local 53 = .ok (.getfield 36, 3) := by decide +kernel
theorem dX6_local_56 : decode cX6_local 56 = .ok (.iload_n 1, 1) := by decide +kernel
theorem dX6_local_57 : decode cX6_local 57 = .ok (.iaload, 1) := by decide +kernel
theorem dX6_local_58 : decode cX6_local 58 = .ok (.iadd, 1) := by decide +kernel
theorem dX6_local_59 : decode cX6_local 59 = .ok (.iload_n 2, 1) := by decide +kernel
theorem dX6_local_60 : decode cX6_local 60 = .ok (.iastore, 1) := by decide +kernel
theorem dX6_local_61 : decode cX6_local 61 = .ok (.aload_n 0, 1) := by decide +kernel
theorem dX6_local_62 : decode cX6_local 62 = .ok (.getfield 42, 3) := by decide +kernel
theorem dX6_local_65 : decode cX6_local 65 = .ok (.iconst 4, 1) := by decide +kernel
theorem dX6_local_66 : decode cX6_local 66 = .ok (.iload_n 1, 1) := by decide +kernel
theorem dX6_local_67 : decode cX6_local 67 = .ok (.imul, 1) := by decide +kernel
theorem dX6_local_68 : decode cX6_local 68 = .ok (.aload_n 0, 1) := by decide +kernel
theorem dX6_local_69 : decode cX6_local 69 = .ok (.getfield 36, 3) := by decide +kernel
theorem dX6_local_72 : decode cX6_local 72 = .ok (.iload_n 1, 1) := by decide +kernel
theorem dX6_local_73 : decode cX6_local 73 = .ok (.iaload, 1) := by decide +kernel
theorem dX6_local_74 : decode cX6_local 74 = .ok (.iadd, 1) := by decide +kernel
theorem dX6_local_75 : decode cX6_local 75 = .ok (.iload_n 3, 1) := by decide +kernel
theorem dX6_local_76 : decode cX6_local 76 = .ok (.iastore, 1) := by decide +kernel
theorem dX6_local_77 : decode cX6_local 77 = .ok (.aload_n 0, 1) := by decide +kernel
theorem dX6_local_78 : decode cX6_local 78 = .ok (.getfield 36, 3) := by decide +kernel
theorem dX6_local_81 : decode cX6_local 81 = .ok (.iload_n 1, 1) := by decide +kernel
theorem dX6_local_82 : decode cX6_local 82 = .ok (.dup2, 1) := by decide +kernel
theorem dX6_local_83 : decode cX6_local 83 = .ok (.iaload, 1) := by decide +kernel
theorem dX6_local_84 : decode cX6_local 84 = .ok (.iconst 1, 1) := by decide +kernel
theorem dX6_local_85 : decode cX6_local 85 = .ok (.iadd, 1) := by decide +kernel
theorem dX6_local_86 : decode cX6_local 86 = .ok (.iastore, 1) := by decide +kernel
theorem dX6_local_87 : decode cX6_local 87 = .ok (.aload_n 0, 1) := by decide +kernel
theorem dX6_local_88 : decode cX6_local 88 = .ok (.iload_n 1, 1) := by decide +kernel
theorem dX6_local_89 : decode cX6_local 89 = .ok (.invokevirtual 155, 3) := by decide +kernel
theorem dX6_local_92 : decode cX6_local 92 = .ok (.aload_n 0, 1) := by decide +kernel
theorem dX6_local_93 : decode cX6_local 93 = .ok (.getfield 36, 3) := by decide +kernel
theorem dX6_local_96 : decode cX6_local 96 = .ok (.iload_n 1, 1) := by decide +kernel
theorem dX6_local_97 : decode cX6_local 97 = .ok (.iaload, 1) := by decide +kernel
theorem dX6_local_98 : decode cX6_local 98 = .ok (.iconst 1, 1) := by decide +kernel
theorem dX6_local_99 : decode cX6_local 99 = .ok (.isub, 1) := by decide +kernel
theorem dX6_local_100 : decode cX6_local 100 = .ok (.ireturn, 1) := by decide +kernel
theorem dX6_row_0 : decode cX6_row 0 = .ok (.aload_n 0, 1) := by decide +kernel
theorem dX6_row_1 : decode cX6_row 1 = .ok (.iload_n 1, 1) := by decide +kernel
theorem dX6_row_2 : decode cX6_row 2 = .ok (.invokevirtual 148, 3) := by decide +kernel
theorem dX6_row_5 : decode cX6_row 5 = .ok (.ifCond .eq 5, 3) := by decide +kernel
theorem dX6_row_8 : decode cX6_row 8 = .ok (.iconst (-1), 1) := by decide +kernel
theorem dX6_row_9 : decode cX6_row 9 = .ok (.ireturn, 1) := by decide +kernel
theorem dX6_row_10 : decode cX6_row 10 = .ok (.iload_n 2, 1) := by decide +kernel
theorem dX6_row_11 : decode cX6_row 11 = .ok (.bipush (-99), 2) := by decide +kernel
theorem dX6_row_13 : decode cX6_row 13 = .ok (.bipush 99, 2) := by decide +kernel
theorem dX6_row_15 : decode cX6_row 15 = .ok (.invokestatic 130, 3) := by decide +kernel
theorem dX6_row_18 : decode cX6_row 18 = .ok (.ifCond .eq 6, 3) := by decide +kernel
theorem dX6_row_21 : decode cX6_row 21 = .ok (.bipush (-2), 2) := by decide +kernel
theorem dX6_row_23 : decode cX6_row 23 = .ok (.ireturn, 1) := by decide +kernel
theorem dX6_row_24 : decode cX6_row 24 = .ok (.aload_n 0, 1) := by decide +kernel
theorem dX6_row_25 : decode cX6_row 25 = .ok (.getfield 45, 3) := by decide +kernel
theorem dX6_row_28 : decode cX6_row 28 = .ok (.iload_n 1, 1) := by decide +kernel
theorem dX6_row_29 : decode cX6_row 29 = .ok (.iaload, 1) := by decide +kernel
theorem dX6_row_30 : decode cX6_row 30 = .ok (.bipush 6, 2) := by decide +kernel
theorem dX6_row_32 : decode cX6_row 32 = .ok (.if_icmp .ne 6, 3) := by decide +kernel
theorem dX6_row_35 : decode cX6_row 35 = .ok (.bipush (-3), 2) := by decide +kernel
theorem dX6_row_37 : decode cX6_row 37 = .ok (.ireturn, 1) := by decide +kernel
theorem dX6_row_38 : decode cX6_row 38 = .ok (.aload_n 0, 1) := by decide +kernel
theorem dX6_row_39 : decode cX6_row 39 = .ok (.getfield 48, 3) := by decide +kernel
theorem dX6_row_42 : decode cX6_row 42 = .ok (.bipush 6, 2) := by decide +kernel
theorem dX6_row_44 : decode cX6_row 44 = .ok (.iload_n 1, 1) := by decide +kernel
theorem dX6_row_45 : decode cX6_row 45 = .ok (.imul, 1) := by decide +kernel
theorem dX6_row_46 : decode cX6_row 46 = .ok (.aload_n 0, 1) := by decide +kernel
theorem dX6_row_47 : decode cX6_row 47 = .ok (.getfield 45, 3) := by decide +kernel
theorem dX6_row_50 : decode cX6_row 50 = .ok (.iload_n 1, 1) := by decide +kernel
theorem dX6_row_51 : decode cX6_row 51 = .ok (.iaload, 1) := by decide +kernel
theorem dX6_row_52 : decode cX6_row 52 = .ok (.iadd, 1) := by decide +kernel
theorem dX6_row_53 : decode cX6_row 53 = .ok (.iload_n 2, 1) := by decide +kernel
theorem dX6_row_54 : decode cX6_row 54 = .ok (.iastore, 1) := by decide +kernel
theorem dX6_row_55 : decode cX6_row 55 = .ok (.aload_n 0, 1) := by decide +kernel
theorem dX6_row_56 : decode cX6_row 56 = .ok (.getfield 45, 3) := by decide +kernel
theorem dX6_row_59 : decode cX6_row 59 = .ok (.iload_n 1, 1) := by decide +kernel
theorem dX6_row_60 : decode cX6_row 60 = .ok (.dup2, 1) := by decide +kernel
theorem dX6_row_61 : decode cX6_row 61 = .ok (.iaload, 1) := by decide +kernel
theorem dX6_row_62 : decode cX6_row 62 = .ok (.iconst 1, 1) := by decide +kernel
theorem dX6_row_63 : decode cX6_row 63 = .ok (.iadd, 1) := by decide +kernel
theorem dX6_row_64 : decode cX6_row 64 = .ok (.iastore, 1) := by decide +kernel
theorem dX6_row_65 : decode cX6_row 65 = .ok (.aload_n 0, 1) := by decide +kernel
theorem dX6_row_66 : decode cX6_row 66 = .ok (.iload_n 1, 1) := by decide +kernel
theorem dX6_row_67 : decode cX6_row 67 = .ok (.invokevirtual 155, 3) := by decide +kernel
theorem dX6_row_70 : decode cX6_row 70 = .ok (.aload_n 0, 1) := by decide +kernel
theorem dX6_row_71 : decode cX6_row 71 = .ok (.getfield 45, 3) := by decide +kernel
theorem dX6_row_74 : decode cX6_row 74 = .ok (.iload_n 1, 1) := by decide +kernel
theorem dX6_row_75 : decode cX6_row 75 = .ok (.iaload, 1) := by decide +kernel
theorem dX6_row_76 : decode cX6_row 76 = .ok (.iconst 1, 1) := by decide +kernel
theorem dX6_row_77 : decode cX6_row 77 = .ok (.isub, 1) := by decide +kernel
theorem dX6_row_78 : decode cX6_row 78 = .ok (.ireturn, 1) := by decide +kernel
theorem dX6_noRow_0 : decode cX6_noRow 0 = .ok (.aload_n 0, 1) := by decide +kernel
theorem dX6_noRow_1 : decode cX6_noRow 1 = .ok (.iload_n 1, 1) := by decide +kernel
theorem dX6_noRow_2 : decode cX6_noRow 2 = .ok (.invokevirtual 148, 3) := by decide +kernel
theorem dX6_noRow_5 : decode cX6_noRow 5 = .ok (.ifCond .ne 19, 3) := by decide +kernel
theorem dX6_noRow_8 : decode cX6_noRow 8 = .ok (.iload_n 2, 1) := by decide +kernel
theorem dX6_noRow_9 : decode cX6_noRow 9 = .ok (.iconst 0, 1) := by decide +kernel
theorem dX6_noRow_10 : decode cX6_noRow 10 = .ok (.aload_n 0, 1) := by decide +kernel
theorem dX6_noRow_11 : decode cX6_noRow 11 = .ok (.getfield 45, 3) := by decide +kernel
theorem dX6_noRow_14 : decode cX6_noRow 14 = .ok (.iload_n 1, 1) := by decide +kernel
theorem dX6_noRow_15 : decode cX6_noRow 15 = .ok (.iaload, 1) := by decide +kernel
theorem dX6_noRow_16 : decode cX6_noRow 16 = .ok (.iconst 1, 1) := by decide +kernel
theorem dX6_noRow_17 : decode cX6_noRow 17 = .ok (.isub, 1) := by decide +kernel
theorem dX6_noRow_18 : decode cX6_noRow 18 = .ok (.invokestatic 130, 3) := by decide +kernel
theorem dX6_noRow_21 : decode cX6_noRow 21 = .ok (.ifCond .eq 7, 3) := by decide +kernel
theorem dX6_noRow_24 : decode cX6_noRow 24 = .ok (.iconst 1, 1) := by decide +kernel
theorem dX6_noRow_25 : decode cX6_noRow 25 = .ok (.goto 4, 3) := by decide +kernel
theorem dX6_noRow_28 : decode cX6_noRow 28 = .ok (.iconst 0, 1) := by decide +kernel
theorem dX6_noRow_29 : decode cX6_noRow 29 = .ok (.ireturn, 1) := by decide +kernel
theorem dX6_weigh_0 : decode cX6_weigh 0 = .ok (.aload_n 0, 1) := by decide +kernel
theorem dX6_weigh_1 : decode cX6_weigh 1 = .ok (.iload_n 1, 1) := by decide +kernel
theorem dX6_weigh_2 : decode cX6_weigh 2 = .ok (.iload_n 2, 1) := by decide +kernel
theorem dX6_weigh_3 : decode cX6_weigh 3 = .ok (.invokevirtual 159, 3) := by decide +kernel
theorem dX6_weigh_6 : decode cX6_weigh 6 = .ok (.ifCond .eq 5, 3) := by decide +kernel
theorem dX6_weigh_9 : decode cX6_weigh 9 = .ok (.iconst (-1), 1) := by decide +kernel
theorem dX6_weigh_10 : decode cX6_weigh 10 = .ok (.ireturn, 1) := by decide +kernel
theorem dX6_weigh_11 : decode cX6_weigh 11 = .ok (.iload_n 3, 1) := by decide +kernel
theorem dX6_weigh_12 : decode cX6_weigh 12 = .ok (.ifCond .eq 16, 3) := by decide +kernel
theorem dX6_weigh_15 : decode cX6_weigh 15 = .ok (.aload_n 0, 1) := by decide +kernel
theorem dX6_weigh_16 : decode cX6_weigh 16 = .ok (.iload_n 1, 1) := by decide +kernel
theorem dX6_weigh_17 : decode cX6_weigh 17 = .ok (.iload 4, 2) := by decide +kernel
theorem dX6_weigh_19 : decode cX6_weigh 19 = .ok (.invokevirtual 151, 3) := by decide +kernel
theorem dX6_weigh_22 : decode cX6_weigh 22 = .ok (.ifCond .ge 25, 3) := by decide +kernel
theorem dX6_weigh_25 : decode cX6_weigh 25 = .ok (.goto 20, 3) := by decide +kernel
theorem dX6_weigh_28 : decode cX6_weigh 28 = .ok (.iload 4, 2) := by decide +kernel
theorem dX6_weigh_30 : decode cX6_weigh 30 = .ok (.iconst 0, 1) := by decide +kernel
theorem dX6_weigh_31 : decode cX6_weigh 31 = .ok (.aload_n 0, 1) := by decide +kernel
theorem dX6_weigh_32 : decode cX6_weigh 32 = .ok (.getfield 36, 3) := by decide +kernel
theorem dX6_weigh_35 : decode cX6_weigh 35 = .ok (.iload_n 1, 1) := by decide +kernel
theorem dX6_weigh_36 : decode cX6_weigh 36 = .ok (.iaload, 1) := by decide +kernel
theorem dX6_weigh_37 : decode cX6_weigh 37 = .ok (.iconst 1, 1) := by decide +kernel
theorem dX6_weigh_38 : decode cX6_weigh 38 = .ok (.isub, 1) := by decide +kernel
theorem dX6_weigh_39 : decode cX6_weigh 39 = .ok (.invokestatic 130, 3) := by decide +kernel
theorem dX6_weigh_42 : decode cX6_weigh 42 = .ok (.ifCond .eq 5, 3) := by decide +kernel
theorem dX6_weigh_45 : decode cX6_weigh 45 = .ok (.iconst (-1), 1) := by decide +kernel
theorem dX6_weigh_46 : decode cX6_weigh 46 = .ok (.ireturn, 1) := by decide +kernel
theorem dX6_weigh_47 : decode cX6_weigh 47 = .ok (.iload 5, 2) := by decide +kernel
theorem dX6_weigh_49 : decode cX6_weigh 49 = .ok (.bipush (-9), 2) := by decide +kernel
theorem dX6_weigh_51 : decode cX6_weigh 51 = .ok (.bipush 9, 2) := by decide +kernel
theorem dX6_weigh_53 : decode cX6_weigh 53 = .ok (.invokestatic 130, 3) := by decide +kernel
theorem dX6_weigh_56 : decode cX6_weigh 56 = .ok (.ifCond .eq 6, 3) := by decide +kernel
theorem dX6_weigh_59 : decode cX6_weigh 59 = .ok (.bipush (-2), 2) := by decide +kernel
theorem dX6_weigh_61 : decode cX6_weigh 61 = .ok (.ireturn, 1) := by decide +kernel
theorem dX6_weigh_62 : decode cX6_weigh 62 = .ok (.iload_n 3, 1) := by decide +kernel
theorem dX6_weigh_63 : decode cX6_weigh 63 = .ok (.ifCond .eq 38, 3) := by decide +kernel
theorem dX6_weigh_66 : decode cX6_weigh 66 = .ok (.bipush 6, 2) := by decide +kernel
theorem dX6_weigh_68 : decode cX6_weigh 68 = .ok (.bipush 6, 2) := by decide +kernel
theorem dX6_weigh_70 : decode cX6_weigh 70 = .ok (.iload_n 1, 1) := by decide +kernel
theorem dX6_weigh_71 : decode cX6_weigh 71 = .ok (.imul, 1) := by decide +kernel
theorem dX6_weigh_72 : decode cX6_weigh 72 = .ok (.iload_n 2, 1) := by decide +kernel
theorem dX6_weigh_73 : decode cX6_weigh 73 = .ok (.iadd, 1) := by decide +kernel
theorem dX6_weigh_74 : decode cX6_weigh 74 = .ok (.imul, 1) := by decide +kernel
theorem dX6_weigh_75 : decode cX6_weigh 75 = .ok (.iload 4, 2) := by decide +kernel
theorem dX6_weigh_77 : decode cX6_weigh 77 = .ok (.iadd, 1) := by decide +kernel
theorem dX6_weigh_78 : decode cX6_weigh 78 = .ok (.istore 7, 2) := by decide +kernel
theorem dX6_weigh_80 : decode cX6_weigh 80 = .ok (.aload_n 0, 1) := by decide +kernel
theorem dX6_weigh_81 : decode cX6_weigh 81 = .ok (.getfield 54, 3) := by decide +kernel
theorem dX6_weigh_84 : decode cX6_weigh 84 = .ok (.iload 7, 2) := by decide +kernel
theorem dX6_weigh_86 : decode cX6_weigh 86 = .ok (.iaload, 1) := by decide +kernel
theorem dX6_weigh_87 : decode cX6_weigh 87 = .ok (.istore 6, 2) := by decide +kernel
theorem dX6_weigh_89 : decode cX6_weigh 89 = .ok (.aload_n 0, 1) := by decide +kernel
theorem dX6_weigh_90 : decode cX6_weigh 90 = .ok (.getfield 54, 3) := by decide +kernel
theorem dX6_weigh_93 : decode cX6_weigh 93 = .ok (.iload 7, 2) := by decide +kernel
theorem dX6_weigh_95 : decode cX6_weigh 95 = .ok (.iload 5, 2) := by decide +kernel
theorem dX6_weigh_97 : decode cX6_weigh 97 = .ok (.iastore, 1) := by decide +kernel
theorem dX6_weigh_98 : decode cX6_weigh 98 = .ok (.goto 34, 3) := by decide +kernel
theorem dX6_weigh_101 : decode cX6_weigh 101 = .ok (.iconst 4, 1) := by decide +kernel
theorem dX6_weigh_102 : decode cX6_weigh 102 = .ok (.bipush 6, 2) := by decide +kernel
theorem dX6_weigh_104 : decode cX6_weigh 104 = .ok (.iload_n 1, 1) := by decide +kernel
theorem dX6_weigh_105 : decode cX6_weigh 105 = .ok (.imul, 1) := by decide +kernel
theorem dX6_weigh_106 : decode cX6_weigh 106 = .ok (.iload_n 2, 1) := by decide +kernel
theorem dX6_weigh_107 : decode cX6_weigh 107 = .ok (.iadd, 1) := by decide +kernel
theorem dX6_weigh_108 : decode cX6_weigh 108 = .ok (.imul, 1) := by decide +kernel
theorem dX6_weigh_109 : decode cX6_weigh 109 = .ok (.iload 4, 2) := by decide +kernel
theorem dX6_weigh_111 : decode cX6_weigh 111 = .ok (.iadd, 1) := by decide +kernel
theorem dX6_weigh_112 : decode cX6_weigh 112 = .ok (.istore 7, 2) := by decide +kernel
theorem dX6_weigh_114 : decode cX6_weigh 114 = .ok (.aload_n 0, 1) := by decide +kernel
theorem dX6_weigh_115 : decode cX6_weigh 115 = .ok (.getfield 51, 3) := by decide +kernel
theorem dX6_weigh_118 : decode cX6_weigh 118 = .ok (.iload 7, 2) := by decide +kernel
theorem dX6_weigh_120 : decode cX6_weigh 120 = .ok (.iaload, 1) := by decide +kernel
theorem dX6_weigh_121 : decode cX6_weigh 121 = .ok (.istore 6, 2) := by decide +kernel
theorem dX6_weigh_123 : decode cX6_weigh 123 = .ok (.aload_n 0, 1) := by decide +kernel
theorem dX6_weigh_124 : decode cX6_weigh 124 = .ok (.getfield 51, 3) := by decide +kernel
theorem dX6_weigh_127 : decode cX6_weigh 127 = .ok (.iload 7, 2) := by decide +kernel
theorem dX6_weigh_129 : decode cX6_weigh 129 = .ok (.iload 5, 2) := by decide +kernel
theorem dX6_weigh_131 : decode cX6_weigh 131 = .ok (.iastore, 1) := by decide +kernel
theorem dX6_weigh_132 : decode cX6_weigh 132 = .ok (.aload_n 0, 1) := by decide +kernel
theorem dX6_weigh_133 : decode cX6_weigh 133 = .ok (.iload_n 1, 1) := by decide +kernel
theorem dX6_weigh_134 : decode cX6_weigh 134 = .ok (.invokevirtual 155, 3) := by decide +kernel
theorem dX6_weigh_137 : decode cX6_weigh 137 = .ok (.iload 6, 2) := by decide +kernel
theorem dX6_weigh_139 : decode cX6_weigh 139 = .ok (.ireturn, 1) := by decide +kernel
theorem dX6_shift_0 : decode cX6_shift 0 = .ok (.aload_n 0, 1) := by decide +kernel
theorem dX6_shift_1 : decode cX6_shift 1 = .ok (.iload_n 1, 1) := by decide +kernel
theorem dX6_shift_2 : decode cX6_shift 2 = .ok (.invokevirtual 144, 3) := by decide +kernel
theorem dX6_shift_5 : decode cX6_shift 5 = .ok (.ifCond .ne 12, 3) := by decide +kernel
theorem dX6_shift_8 : decode cX6_shift 8 = .ok (.aload_n 0, 1) := by decide +kernel
theorem dX6_shift_9 : decode cX6_shift 9 = .ok (.iload_n 2, 1) := by decide +kernel
theorem dX6_shift_10 : decode cX6_shift 10 = .ok (.iload_n 3, 1) := by decide +kernel
theorem dX6_shift_11 : decode cX6_shift 11 = .ok (.invokevirtual 159, 3) := by decide +kernel
theorem dX6_shift_14 : decode cX6_shift 14 = .ok (.ifCond .eq 5, 3) := by decide +kernel
theorem dX6_shift_17 : decode cX6_shift 17 = .ok (.iconst (-1), 1) := by decide +kernel
theorem dX6_shift_18 : decode cX6_shift 18 = .ok (.ireturn, 1) := by decide +kernel
theorem dX6_shift_19 : decode cX6_shift 19 = .ok (.iload 4, 2) := by decide +kernel
theorem dX6_shift_21 : decode cX6_shift 21 = .ok (.bipush (-99), 2) := by decide +kernel
theorem dX6_shift_23 : decode cX6_shift 23 = .ok (.bipush 99, 2) := by decide +kernel
theorem dX6_shift_25 : decode cX6_shift 25 = .ok (.invokestatic 130, 3) := by decide +kernel
theorem dX6_shift_28 : decode cX6_shift 28 = .ok (.ifCond .eq 6, 3) := by decide +kernel
theorem dX6_shift_31 : decode cX6_shift 31 = .ok (.bipush (-2), 2) := by decide +kernel
theorem dX6_shift_33 : decode cX6_shift 33 = .ok (.ireturn, 1) := by decide +kernel
theorem dX6_shift_34 : decode cX6_shift 34 = .ok (.bipush 24, 2) := by decide +kernel
theorem dX6_shift_36 : decode cX6_shift 36 = .ok (.iload_n 1, 1) := by decide +kernel
theorem dX6_shift_37 : decode cX6_shift 37 = .ok (.imul, 1) := by decide +kernel
theorem dX6_shift_38 : decode cX6_shift 38 = .ok (.bipush 6, 2) := by decide +kernel
theorem dX6_shift_40 : decode cX6_shift 40 = .ok (.iload_n 2, 1) := by decide +kernel
theorem dX6_shift_41 : decode cX6_shift 41 = .ok (.imul, 1) := by decide +kernel
theorem dX6_shift_42 : decode cX6_shift 42 = .ok (.iadd, 1) := by decide +kernel
theorem dX6_shift_43 : decode cX6_shift 43 = .ok (.iload_n 3, 1) := by decide +kernel
theorem dX6_shift_44 : decode cX6_shift 44 = .ok (.iadd, 1) := by decide +kernel
theorem dX6_shift_45 : decode cX6_shift 45 = .ok (.istore 5, 2) := by decide +kernel
theorem dX6_shift_47 : decode cX6_shift 47 = .ok (.aload_n 0, 1) := by decide +kernel
theorem dX6_shift_48 : decode cX6_shift 48 = .ok (.getfield 57, 3) := by decide +kernel
theorem dX6_shift_51 : decode cX6_shift 51 = .ok (.iload 5, 2) := by decide +kernel
theorem dX6_shift_53 : decode cX6_shift 53 = .ok (.iaload, 1) := by decide +kernel
theorem dX6_shift_54 : decode cX6_shift 54 = .ok (.istore 6, 2) := by decide +kernel
theorem dX6_shift_56 : decode cX6_shift 56 = .ok (.aload_n 0, 1) := by decide +kernel
theorem dX6_shift_57 : decode cX6_shift 57 = .ok (.getfield 57, 3) := by decide +kernel
theorem dX6_shift_60 : decode cX6_shift 60 = .ok (.iload 5, 2) := by decide +kernel
theorem dX6_shift_62 : decode cX6_shift 62 = .ok (.iload 4, 2) := by decide +kernel
theorem dX6_shift_64 : decode cX6_shift 64 = .ok (.iastore, 1) := by decide +kernel
theorem dX6_shift_65 : decode cX6_shift 65 = .ok (.aload_n 0, 1) := by decide +kernel
theorem dX6_shift_66 : decode cX6_shift 66 = .ok (.iload_n 2, 1) := by decide +kernel
theorem dX6_shift_67 : decode cX6_shift 67 = .ok (.invokevirtual 155, 3) := by decide +kernel
theorem dX6_shift_70 : decode cX6_shift 70 = .ok (.iload 6, 2) := by decide +kernel
theorem dX6_shift_72 : decode cX6_shift 72 = .ok (.ireturn, 1) := by decide +kernel
theorem dX6_figure_0 : decode cX6_figure 0 = .ok (.iload_n 1, 1) := by decide +kernel
theorem dX6_figure_1 : decode cX6_figure 1 = .ok (.ifCond .ne 10, 3) := by decide +kernel
theorem dX6_figure_4 : decode cX6_figure 4 = .ok (.iload_n 0, 1) := by decide +kernel
theorem dX6_figure_5 : decode cX6_figure 5 = .ok (.bipush 16, 2) := by decide +kernel
theorem dX6_figure_7 : decode cX6_figure 7 = .ok (.idiv, 1) := by decide +kernel
theorem dX6_figure_8 : decode cX6_figure 8 = .ok (.goto 19, 3) := by decide +kernel
theorem dX6_figure_11 : decode cX6_figure 11 = .ok (.iload_n 1, 1) := by decide +kernel
theorem dX6_figure_12 : decode cX6_figure 12 = .ok (.iconst 1, 1) := by decide +kernel
theorem dX6_figure_13 : decode cX6_figure 13 = .ok (.if_icmp .ne 11, 3) := by decide +kernel
theorem dX6_figure_16 : decode cX6_figure 16 = .ok (.iload_n 0, 1) := by decide +kernel
theorem dX6_figure_17 : decode cX6_figure 17 = .ok (.iconst 4, 1) := by decide +kernel
theorem dX6_figure_18 : decode cX6_figure 18 = .ok (.idiv, 1) := by decide +kernel
theorem dX6_figure_19 : decode cX6_figure 19 = .ok (.iconst 4, 1) := by decide +kernel
theorem dX6_figure_20 : decode cX6_figure 20 = .ok (.irem, 1) := by decide +kernel
theorem dX6_figure_21 : decode cX6_figure 21 = .ok (.goto 6, 3) := by decide +kernel
theorem dX6_figure_24 : decode cX6_figure 24 = .ok (.iload_n 0, 1) := by decide +kernel
theorem dX6_figure_25 : decode cX6_figure 25 = .ok (.iconst 4, 1) := by decide +kernel
theorem dX6_figure_26 : decode cX6_figure 26 = .ok (.irem, 1) := by decide +kernel
theorem dX6_figure_27 : decode cX6_figure 27 = .ok (.ireturn, 1) := by decide +kernel
theorem dX6_answerTo_0 : decode cX6_answerTo 0 = .ok (.iconst 0, 1) := by decide +kernel
theorem dX6_answerTo_1 : decode cX6_answerTo 1 = .ok (.istore 4, 2) := by decide +kernel
theorem dX6_answerTo_3 : decode cX6_answerTo 3 = .ok (.iload 4, 2) := by decide +kernel
theorem dX6_answerTo_5 : decode cX6_answerTo 5 = .ok (.aload_n 0, 1) := by decide +kernel
theorem dX6_answerTo_6 : decode cX6_answerTo 6 = .ok (.getfield 45, 3) := by decide +kernel
theorem dX6_answerTo_9 : decode cX6_answerTo 9 = .ok (.iload_n 1, 1) := by decide +kernel
theorem dX6_answerTo_10 : decode cX6_answerTo 10 = .ok (.iaload, 1) := by decide +kernel
theorem dX6_answerTo_11 : decode cX6_answerTo 11 = .ok (.if_icmp .ge 109, 3) := by decide +kernel
theorem dX6_answerTo_14 : decode cX6_answerTo 14 = .ok (.aload_n 0, 1) := by decide +kernel
theorem dX6_answerTo_15 : decode cX6_answerTo 15 = .ok (.getfield 48, 3) := by decide +kernel
theorem dX6_answerTo_18 : decode cX6_answerTo 18 = .ok (.bipush 6, 2) := by decide +kernel
theorem dX6_answerTo_20 : decode cX6_answerTo 20 = .ok (.iload_n 1, 1) := by decide +kernel
theorem dX6_answerTo_21 : decode cX6_answerTo 21 = .ok (.imul, 1) := by decide +kernel
theorem dX6_answerTo_22 : decode cX6_answerTo 22 = .ok (.iload 4, 2) := by decide +kernel
theorem dX6_answerTo_24 : decode cX6_answerTo 24 = .ok (.iadd, 1) := by decide +kernel
theorem dX6_answerTo_25 : decode cX6_answerTo 25 = .ok (.iaload, 1) := by decide +kernel
theorem dX6_answerTo_26 : decode cX6_answerTo 26 = .ok (.aload_n 0, 1) := by decide +kernel
theorem dX6_answerTo_27 : decode cX6_answerTo 27 = .ok (.getfield 57, 3) := by decide +kernel
theorem dX6_answerTo_30 : decode cX6_answerTo 30 = .ok (.bipush 24, 2) := by decide +kernel
theorem dX6_answerTo_32 : decode cX6_answerTo 32 = .ok (.iload_n 3, 1) := by decide +kernel
theorem dX6_answerTo_33 : decode cX6_answerTo 33 = .ok (.imul, 1) := by decide +kernel
theorem dX6_answerTo_34 : decode cX6_answerTo 34 = .ok (.bipush 6, 2) := by decide +kernel
theorem dX6_answerTo_36 : decode cX6_answerTo 36 = .ok (.iload_n 1, 1) := by decide +kernel
theorem dX6_answerTo_37 : decode cX6_answerTo 37 = .ok (.imul, 1) := by decide +kernel
theorem dX6_answerTo_38 : decode cX6_answerTo 38 = .ok (.iadd, 1) := by decide +kernel
theorem dX6_answerTo_39 : decode cX6_answerTo 39 = .ok (.iload 4, 2) := by decide +kernel
theorem dX6_answerTo_41 : decode cX6_answerTo 41 = .ok (.iadd, 1) := by decide +kernel
theorem dX6_answerTo_42 : decode cX6_answerTo 42 = .ok (.iaload, 1) := by decide +kernel
theorem dX6_answerTo_43 : decode cX6_answerTo 43 = .ok (.iadd, 1) := by decide +kernel
theorem dX6_answerTo_44 : decode cX6_answerTo 44 = .ok (.istore 5, 2) := by decide +kernel
theorem dX6_answerTo_46 : decode cX6_answerTo 46 = .ok (.iconst 0, 1) := by decide +kernel
theorem dX6_answerTo_47 : decode cX6_answerTo 47 = .ok (.istore 6, 2) := by decide +kernel
theorem dX6_answerTo_49 : decode cX6_answerTo 49 = .ok (.iload 6, 2) := by decide +kernel
theorem dX6_answerTo_51 : decode cX6_answerTo 51 = .ok (.aload_n 0, 1) := by decide +kernel
theorem dX6_answerTo_52 : decode cX6_answerTo 52 = .ok (.getfield 30, 3) := by decide +kernel
theorem dX6_answerTo_55 : decode cX6_answerTo 55 = .ok (.iload_n 1, 1) := by decide +kernel
theorem dX6_answerTo_56 : decode cX6_answerTo 56 = .ok (.iaload, 1) := by decide +kernel
theorem dX6_answerTo_57 : decode cX6_answerTo 57 = .ok (.if_icmp .ge 48, 3) := by decide +kernel
theorem dX6_answerTo_60 : decode cX6_answerTo 60 = .ok (.iload 5, 2) := by decide +kernel
theorem dX6_answerTo_62 : decode cX6_answerTo 62 = .ok (.aload_n 0, 1) := by decide +kernel
theorem dX6_answerTo_63 : decode cX6_answerTo 63 = .ok (.getfield 54, 3) := by decide +kernel
theorem dX6_answerTo_66 : decode cX6_answerTo 66 = .ok (.bipush 6, 2) := by decide +kernel
theorem dX6_answerTo_68 : decode cX6_answerTo 68 = .ok (.bipush 6, 2) := by decide +kernel
theorem dX6_answerTo_70 : decode cX6_answerTo 70 = .ok (.iload_n 1, 1) := by decide +kernel
theorem dX6_answerTo_71 : decode cX6_answerTo 71 = .ok (.imul, 1) := by decide +kernel
theorem dX6_answerTo_72 : decode cX6_answerTo 72 = .ok (.iload 4, 2) := by decide +kernel
theorem dX6_answerTo_74 : decode cX6_answerTo 74 = .ok (.iadd, 1) := by decide +kernel
theorem dX6_answerTo_75 : decode cX6_answerTo 75 = .ok (.imul, 1) := by decide +kernel
theorem dX6_answerTo_76 : decode cX6_answerTo 76 = .ok (.aload_n 0, 1) := by decide +kernel
theorem dX6_answerTo_77 : decode cX6_answerTo 77 = .ok (.getfield 33, 3) := by decide +kernel
theorem dX6_answerTo_80 : decode cX6_answerTo 80 = .ok (.iconst 3, 1) := by decide +kernel
theorem dX6_answerTo_81 : decode cX6_answerTo 81 = .ok (.iload_n 1, 1) := by decide +kernel
theorem dX6_answerTo_82 : decode cX6_answerTo 82 = .ok (.imul, 1) := by decide +kernel
theorem dX6_answerTo_83 : decode cX6_answerTo 83 = .ok (.iload 6, 2) := by decide +kernel
theorem dX6_answerTo_85 : decode cX6_answerTo 85 = .ok (.iadd, 1) := by decide +kernel
theorem dX6_answerTo_86 : decode cX6_answerTo 86 = .ok (.iaload, 1) := by decide +kernel
theorem dX6_answerTo_87 : decode cX6_answerTo 87 = .ok (.iadd, 1) := by decide +kernel
theorem dX6_answerTo_88 : decode cX6_answerTo 88 = .ok (.iaload, 1) := by decide +kernel
theorem dX6_answerTo_89 : decode cX6_answerTo 89 = .ok (.iload_n 2, 1) := by decide +kernel
theorem dX6_answerTo_90 : decode cX6_answerTo 90 = .ok (.iload 6, 2) := by decide +kernel
theorem dX6_answerTo_92 : decode cX6_answerTo 92 = .ok (.invokestatic 162, 3) := by decide +kernel
theorem dX6_answerTo_95 : decode cX6_answerTo 95 = .ok (.imul, 1) := by decide +kernel
theorem dX6_answerTo_96 : decode cX6_answerTo 96 = .ok (.isub, 1) := by decide +kernel
theorem dX6_answerTo_97 : decode cX6_answerTo 97 = .ok (.istore 5, 2) := by decide +kernel
theorem dX6_answerTo_99 : decode cX6_answerTo 99 = .ok (.iinc 6 1, 3) := by decide +kernel
theorem dX6_answerTo_102 : decode cX6_answerTo 102 = .ok (.goto (-53), 3) := by decide +kernel
theorem dX6_answerTo_105 : decode cX6_answerTo 105 = .ok (.aload_n 0, 1) := by decide +kernel
theorem dX6_answerTo_106 : decode cX6_answerTo 106 = .ok (.getfield 90, 3) := by decide +kernel
theorem dX6_answerTo_109 : decode cX6_answerTo 109 = .ok (.iload 4, 2) := by decide +kernel
theorem dX6_answerTo_111 : decode cX6_answerTo 111 = .ok (.iload 5, 2) := by decide +kernel
theorem dX6_answerTo_113 : decode cX6_answerTo 113 = .ok (.iastore, 1) := by decide +kernel
theorem dX6_answerTo_114 : decode cX6_answerTo 114 = .ok (.iinc 4 1, 3) := by decide +kernel
theorem dX6_answerTo_117 : decode cX6_answerTo 117 = .ok (.goto (-114), 3) := by decide +kernel
theorem dX6_answerTo_120 : decode cX6_answerTo 120 = .ok (.aload_n 0, 1) := by decide +kernel
theorem dX6_answerTo_121 : decode cX6_answerTo 121 = .ok (.getfield 36, 3) := by decide +kernel
theorem dX6_answerTo_124 : decode cX6_answerTo 124 = .ok (.iload_n 1, 1) := by decide +kernel
theorem dX6_answerTo_125 : decode cX6_answerTo 125 = .ok (.iaload, 1) := by decide +kernel
theorem dX6_answerTo_126 : decode cX6_answerTo 126 = .ok (.istore 4, 2) := by decide +kernel
theorem dX6_answerTo_128 : decode cX6_answerTo 128 = .ok (.bipush (-4), 2) := by decide +kernel
theorem dX6_answerTo_130 : decode cX6_answerTo 130 = .ok (.istore 5, 2) := by decide +kernel
theorem dX6_answerTo_132 : decode cX6_answerTo 132 = .ok (.iconst 0, 1) := by decide +kernel
theorem dX6_answerTo_133 : decode cX6_answerTo 133 = .ok (.istore 6, 2) := by decide +kernel
theorem dX6_answerTo_135 : decode cX6_answerTo 135 = .ok (.iload 6, 2) := by decide +kernel
theorem dX6_answerTo_137 : decode cX6_answerTo 137 = .ok (.iconst 4, 1) := by decide +kernel
theorem dX6_answerTo_138 : decode cX6_answerTo 138 = .ok (.if_icmp .ge 17, 3) := by decide +kernel
theorem dX6_answerTo_141 : decode cX6_answerTo 141 = .ok (.aload_n 0, 1) := by decide +kernel
theorem dX6_answerTo_142 : decode cX6_answerTo 142 = .ok (.getfield 93, 3) := by decide +kernel
theorem dX6_answerTo_145 : decode cX6_answerTo 145 = .ok (.iload 6, 2) := by decide +kernel
theorem dX6_answerTo_147 : decode cX6_answerTo 147 = .ok (.iconst 0, 1) := by decide +kernel
theorem dX6_answerTo_148 : decode cX6_answerTo 148 = .ok (.iastore, 1) := by decide +kernel
theorem dX6_answerTo_149 : decode cX6_answerTo 149 = .ok (.iinc 6 1, 3) := by decide +kernel
theorem dX6_answerTo_152 : decode cX6_answerTo 152 = .ok (.goto (-17), 3) := by decide +kernel
theorem dX6_answerTo_155 : decode cX6_answerTo 155 = .ok (.iconst 1, 1) := by decide +kernel
theorem dX6_answerTo_156 : decode cX6_answerTo 156 = .ok (.istore 6, 2) := by decide +kernel
theorem dX6_answerTo_158 : decode cX6_answerTo 158 = .ok (.iload 6, 2) := by decide +kernel
theorem dX6_answerTo_160 : decode cX6_answerTo 160 = .ok (.ifCond .eq 271, 3) := by decide +kernel
theorem dX6_answerTo_163 : decode cX6_answerTo 163 = .ok (.iconst 1, 1) := by decide +kernel
theorem dX6_answerTo_164 : decode cX6_answerTo 164 = .ok (.istore 7, 2) := by decide +kernel
theorem dX6_answerTo_166 : decode cX6_answerTo 166 = .ok (.iconst 0, 1) := by decide +kernel
theorem dX6_answerTo_167 : decode cX6_answerTo 167 = .ok (.istore 8, 2) := by decide +kernel
theorem dX6_answerTo_169 : decode cX6_answerTo 169 = .ok (.iload 8, 2) := by decide +kernel
theorem dX6_answerTo_171 : decode cX6_answerTo 171 = .ok (.aload_n 0, 1) := by decide +kernel
theorem dX6_answerTo_172 : decode cX6_answerTo 172 = .ok (.getfield 45, 3) := by decide +kernel
theorem dX6_answerTo_175 : decode cX6_answerTo 175 = .ok (.iload_n 1, 1) := by decide +kernel
theorem dX6_answerTo_176 : decode cX6_answerTo 176 = .ok (.iaload, 1) := by decide +kernel
theorem dX6_answerTo_177 : decode cX6_answerTo 177 = .ok (.if_icmp .ge 82, 3) := by decide +kernel
theorem dX6_answerTo_180 : decode cX6_answerTo 180 = .ok (.iload 7, 2) := by decide +kernel
theorem dX6_answerTo_182 : decode cX6_answerTo 182 = .ok (.ifCond .eq 77, 3) := by decide +kernel
theorem dX6_answerTo_185 : decode cX6_answerTo 185 = .ok (.iconst 0, 1) := by decide +kernel
theorem dX6_answerTo_186 : decode cX6_answerTo 186 = .ok (.istore 9, 2) := by decide +kernel
theorem dX6_answerTo_188 : decode cX6_answerTo 188 = .ok (.iconst 0, 1) := by decide +kernel
theorem dX6_answerTo_189 : decode cX6_answerTo 189 = .ok (.istore 10, 2) := by decide +kernel
theorem dX6_answerTo_191 : decode cX6_answerTo 191 = .ok (.iload 10, 2) := by decide +kernel
theorem dX6_answerTo_193 : decode cX6_answerTo 193 = .ok (.iload 4, 2) := by decide +kernel
theorem dX6_answerTo_195 : decode cX6_answerTo 195 = .ok (.if_icmp .ge 39, 3) := by decide +kernel
theorem dX6_answerTo_198 : decode cX6_answerTo 198 = .ok (.iload 9, 2) := by decide +kernel
theorem dX6_answerTo_200 : decode cX6_answerTo 200 = .ok (.aload_n 0, 1) := by decide +kernel
theorem dX6_answerTo_201 : decode cX6_answerTo 201 = .ok (.getfield 51, 3) := by decide +kernel
theorem dX6_answerTo_204 : decode cX6_answerTo 204 = .ok (.iconst 4, 1) := by decide +kernel
theorem dX6_answerTo_205 : decode cX6_answerTo 205 = .ok (.bipush 6, 2) := by decide +kernel
theorem dX6_answerTo_207 : decode cX6_answerTo 207 = .ok (.iload_n 1, 1) := by decide +kernel
theorem dX6_answerTo_208 : decode cX6_answerTo 208 = .ok (.imul, 1) := by decide +kernel
theorem dX6_answerTo_209 : decode cX6_answerTo 209 = .ok (.iload 8, 2) := by decide +kernel
theorem dX6_answerTo_211 : decode cX6_answerTo 211 = .ok (.iadd, 1) := by decide +kernel
theorem dX6_answerTo_212 : decode cX6_answerTo 212 = .ok (.imul, 1) := by decide +kernel
theorem dX6_answerTo_213 : decode cX6_answerTo 213 = .ok (.iload 10, 2) := by decide +kernel
theorem dX6_answerTo_215 : decode cX6_answerTo 215 = .ok (.iadd, 1) := by decide +kernel
theorem dX6_answerTo_216 : decode cX6_answerTo 216 = .ok (.iaload, 1) := by decide +kernel
theorem dX6_answerTo_217 : decode cX6_answerTo 217 = .ok (.aload_n 0, 1) := by decide +kernel
theorem dX6_answerTo_218 : decode cX6_answerTo 218 = .ok (.getfield 93, 3) := by decide +kernel
theorem dX6_answerTo_221 : decode cX6_answerTo 221 = .ok (.iload 10, 2) := by decide +kernel
theorem dX6_answerTo_223 : decode cX6_answerTo 223 = .ok (.iaload, 1) := by decide +kernel
theorem dX6_answerTo_224 : decode cX6_answerTo 224 = .ok (.imul, 1) := by decide +kernel
theorem dX6_answerTo_225 : decode cX6_answerTo 225 = .ok (.iadd, 1) := by decide +kernel
theorem dX6_answerTo_226 : decode cX6_answerTo 226 = .ok (.istore 9, 2) := by decide +kernel
theorem dX6_answerTo_228 : decode cX6_answerTo 228 = .ok (.iinc 10 1, 3) := by decide +kernel
theorem dX6_answerTo_231 : decode cX6_answerTo 231 = .ok (.goto (-40), 3) := by decide +kernel
theorem dX6_answerTo_234 : decode cX6_answerTo 234 = .ok (.iload 9, 2) := by decide +kernel
theorem dX6_answerTo_236 : decode cX6_answerTo 236 = .ok (.aload_n 0, 1) := by decide +kernel
theorem dX6_answerTo_237 : decode cX6_answerTo 237 = .ok (.getfield 90, 3) := by decide +kernel
theorem dX6_answerTo_240 : decode cX6_answerTo 240 = .ok (.iload 8, 2) := by decide +kernel
theorem dX6_answerTo_242 : decode cX6_answerTo 242 = .ok (.iaload, 1) := by decide +kernel
theorem dX6_answerTo_243 : decode cX6_answerTo 243 = .ok (.if_icmp .gt 7, 3) := by decide +kernel
theorem dX6_answerTo_246 : decode cX6_answerTo 246 = .ok (.iconst 1, 1) := by decide +kernel
theorem dX6_answerTo_247 : decode cX6_answerTo 247 = .ok (.goto 4, 3) := by decide +kernel
theorem dX6_answerTo_250 : decode cX6_answerTo 250 = .ok (.iconst 0, 1) := by decide +kernel
theorem dX6_answerTo_251 : decode cX6_answerTo 251 = .ok (.istore 7, 2) := by decide +kernel
theorem dX6_answerTo_253 : decode cX6_answerTo 253 = .ok (.iinc 8 1, 3) := by decide +kernel
theorem dX6_answerTo_256 : decode cX6_answerTo 256 = .ok (.goto (-87), 3) := by decide +kernel
theorem dX6_answerTo_259 : decode cX6_answerTo 259 = .ok (.iload 7, 2) := by decide +kernel
theorem dX6_answerTo_261 : decode cX6_answerTo 261 = .ok (.ifCond .eq 93, 3) := by decide +kernel
theorem dX6_answerTo_264 : decode cX6_answerTo 264 = .ok (.iconst 0, 1) := by decide +kernel
theorem dX6_answerTo_265 : decode cX6_answerTo 265 = .ok (.istore 8, 2) := by decide +kernel
theorem dX6_answerTo_267 : decode cX6_answerTo 267 = .ok (.iconst 0, 1) := by decide +kernel
theorem dX6_answerTo_268 : decode cX6_answerTo 268 = .ok (.istore 9, 2) := by decide +kernel
theorem dX6_answerTo_270 : decode cX6_answerTo 270 = .ok (.iload 9, 2) := by decide +kernel
theorem dX6_answerTo_272 : decode cX6_answerTo 272 = .ok (.iload 4, 2) := by decide +kernel
theorem dX6_answerTo_274 : decode cX6_answerTo 274 = .ok (.if_icmp .ge 33, 3) := by decide +kernel
theorem dX6_answerTo_277 : decode cX6_answerTo 277 = .ok (.iload 8, 2) := by decide +kernel
theorem dX6_answerTo_279 : decode cX6_answerTo 279 = .ok (.aload_n 0, 1) := by decide +kernel
theorem dX6_answerTo_280 : decode cX6_answerTo 280 = .ok (.getfield 42, 3) := by decide +kernel
theorem dX6_answerTo_283 : decode cX6_answerTo 283 = .ok (.iconst 4, 1) := by decide +kernel
theorem dX6_answerTo_284 : decode cX6_answerTo 284 = .ok (.iload_n 1, 1) := by decide +kernel
theorem dX6_answerTo_285 : decode cX6_answerTo 285 = .ok (.imul, 1) := by decide +kernel
theorem dX6_answerTo_286 : decode cX6_answerTo 286 = .ok (.iload 9, 2) := by decide +kernel
theorem dX6_answerTo_288 : decode cX6_answerTo 288 = .ok (.iadd, 1) := by decide +kernel
theorem dX6_answerTo_289 : decode cX6_answerTo 289 = .ok (.iaload, 1) := by decide +kernel
theorem dX6_answerTo_290 : decode cX6_answerTo 290 = .ok (.aload_n 0, 1) := by decide +kernel
theorem dX6_answerTo_291 : decode cX6_answerTo 291 = .ok (.getfield 93, 3) := by decide +kernel
theorem dX6_answerTo_294 : decode cX6_answerTo 294 = .ok (.iload 9, 2) := by decide +kernel
theorem dX6_answerTo_296 : decode cX6_answerTo 296 = .ok (.iaload, 1) := by decide +kernel
theorem dX6_answerTo_297 : decode cX6_answerTo 297 = .ok (.imul, 1) := by decide +kernel
theorem dX6_answerTo_298 : decode cX6_answerTo 298 = .ok (.iadd, 1) := by decide +kernel
theorem dX6_answerTo_299 : decode cX6_answerTo 299 = .ok (.istore 8, 2) := by decide +kernel
theorem dX6_answerTo_301 : decode cX6_answerTo 301 = .ok (.iinc 9 1, 3) := by decide +kernel
theorem dX6_answerTo_304 : decode cX6_answerTo 304 = .ok (.goto (-34), 3) := by decide +kernel
theorem dX6_answerTo_307 : decode cX6_answerTo 307 = .ok (.iload 5, 2) := by decide +kernel
theorem dX6_answerTo_309 : decode cX6_answerTo 309 = .ok (.bipush (-4), 2) := by decide +kernel
theorem dX6_answerTo_311 : decode cX6_answerTo 311 = .ok (.if_icmp .eq 10, 3) := by decide +kernel
theorem dX6_answerTo_314 : decode cX6_answerTo 314 = .ok (.iload 8, 2) := by decide +kernel
theorem dX6_answerTo_316 : decode cX6_answerTo 316 = .ok (.iload 5, 2) := by decide +kernel
theorem dX6_answerTo_318 : decode cX6_answerTo 318 = .ok (.if_icmp .ge 36, 3) := by decide +kernel
theorem dX6_answerTo_321 : decode cX6_answerTo 321 = .ok (.iload 8, 2) := by decide +kernel
theorem dX6_answerTo_323 : decode cX6_answerTo 323 = .ok (.istore 5, 2) := by decide +kernel
theorem dX6_answerTo_325 : decode cX6_answerTo 325 = .ok (.iconst 0, 1) := by decide +kernel
theorem dX6_answerTo_326 : decode cX6_answerTo 326 = .ok (.istore 9, 2) := by decide +kernel
theorem dX6_answerTo_328 : decode cX6_answerTo 328 = .ok (.iload 9, 2) := by decide +kernel
theorem dX6_answerTo_330 : decode cX6_answerTo 330 = .ok (.iconst 4, 1) := by decide +kernel
theorem dX6_answerTo_331 : decode cX6_answerTo 331 = .ok (.if_icmp .ge 23, 3) := by decide +kernel
theorem dX6_answerTo_334 : decode cX6_answerTo 334 = .ok (.aload_n 0, 1) := by decide +kernel
theorem dX6_answerTo_335 : decode cX6_answerTo 335 = .ok (.getfield 96, 3) := by decide +kernel
theorem dX6_answerTo_338 : decode cX6_answerTo 338 = .ok (.iload 9, 2) := by decide +kernel
theorem dX6_answerTo_340 : decode cX6_answerTo 340 = .ok (.aload_n 0, 1) := by decide +kernel
theorem dX6_answerTo_341 : decode cX6_answerTo 341 = .ok (.getfield 93, 3) := by decide +kernel
theorem dX6_answerTo_344 : decode cX6_answerTo 344 = .ok (.iload 9, 2) := by decide +kernel
theorem dX6_answerTo_346 : decode cX6_answerTo 346 = .ok (.iaload, 1) := by decide +kernel
theorem dX6_answerTo_347 : decode cX6_answerTo 347 = .ok (.iastore, 1) := by decide +kernel
theorem dX6_answerTo_348 : decode cX6_answerTo 348 = .ok (.iinc 9 1, 3) := by decide +kernel
theorem dX6_answerTo_351 : decode cX6_answerTo 351 = .ok (.goto (-23), 3) := by decide +kernel
theorem dX6_answerTo_354 : decode cX6_answerTo 354 = .ok (.iload 4, 2) := by decide +kernel
theorem dX6_answerTo_356 : decode cX6_answerTo 356 = .ok (.iconst 1, 1) := by decide +kernel
theorem dX6_answerTo_357 : decode cX6_answerTo 357 = .ok (.isub, 1) := by decide +kernel
theorem dX6_answerTo_358 : decode cX6_answerTo 358 = .ok (.istore 8, 2) := by decide +kernel
theorem dX6_answerTo_360 : decode cX6_answerTo 360 = .ok (.iload 8, 2) := by decide +kernel
theorem dX6_answerTo_362 : decode cX6_answerTo 362 = .ok (.ifCond .lt 38, 3) := by decide +kernel
theorem dX6_answerTo_365 : decode cX6_answerTo 365 = .ok (.aload_n 0, 1) := by decide +kernel
theorem dX6_answerTo_366 : decode cX6_answerTo 366 = .ok (.getfield 93, 3) := by decide +kernel
theorem dX6_answerTo_369 : decode cX6_answerTo 369 = .ok (.iload 8, 2) := by decide +kernel
theorem dX6_answerTo_371 : decode cX6_answerTo 371 = .ok (.iaload, 1) := by decide +kernel
theorem dX6_answerTo_372 : decode cX6_answerTo 372 = .ok (.aload_n 0, 1) := by decide +kernel
theorem dX6_answerTo_373 : decode cX6_answerTo 373 = .ok (.getfield 39, 3) := by decide +kernel
theorem dX6_answerTo_376 : decode cX6_answerTo 376 = .ok (.iconst 4, 1) := by decide +kernel
theorem dX6_answerTo_377 : decode cX6_answerTo 377 = .ok (.iload_n 1, 1) := by decide +kernel
theorem dX6_answerTo_378 : decode cX6_answerTo 378 = .ok (.imul, 1) := by decide +kernel
theorem dX6_answerTo_379 : decode cX6_answerTo 379 = .ok (.iload 8, 2) := by decide +kernel
theorem dX6_answerTo_381 : decode cX6_answerTo 381 = .ok (.iadd, 1) := by decide +kernel
theorem dX6_answerTo_382 : decode cX6_answerTo 382 = .ok (.iaload, 1) := by decide +kernel
theorem dX6_answerTo_383 : decode cX6_answerTo 383 = .ok (.if_icmp .ne 17, 3) := by decide +kernel
theorem dX6_answerTo_386 : decode cX6_answerTo 386 = .ok (.aload_n 0, 1) := by decide +kernel
theorem dX6_answerTo_387 : decode cX6_answerTo 387 = .ok (.getfield 93, 3) := by decide +kernel
theorem dX6_answerTo_390 : decode cX6_answerTo 390 = .ok (.iload 8, 2) := by decide +kernel
theorem dX6_answerTo_392 : decode cX6_answerTo 392 = .ok (.iconst 0, 1) := by decide +kernel
theorem dX6_answerTo_393 : decode cX6_answerTo 393 = .ok (.iastore, 1) := by decide +kernel
theorem dX6_answerTo_394 : decode cX6_answerTo 394 = .ok (.iinc 8 (-1), 3) := by decide +kernel
theorem dX6_answerTo_397 : decode cX6_answerTo 397 = .ok (.goto (-37), 3) := by decide +kernel
theorem dX6_answerTo_400 : decode cX6_answerTo 400 = .ok (.iload 8, 2) := by decide +kernel
theorem dX6_answerTo_402 : decode cX6_answerTo 402 = .ok (.ifCond .lt 7, 3) := by decide +kernel
theorem dX6_answerTo_405 : decode cX6_answerTo 405 = .ok (.iconst 1, 1) := by decide +kernel
theorem dX6_answerTo_406 : decode cX6_answerTo 406 = .ok (.goto 4, 3) := by decide +kernel
theorem dX6_answerTo_409 : decode cX6_answerTo 409 = .ok (.iconst 0, 1) := by decide +kernel
theorem dX6_answerTo_410 : decode cX6_answerTo 410 = .ok (.istore 6, 2) := by decide +kernel
theorem dX6_answerTo_412 : decode cX6_answerTo 412 = .ok (.iload 6, 2) := by decide +kernel
theorem dX6_answerTo_414 : decode cX6_answerTo 414 = .ok (.ifCond .eq 14, 3) := by decide +kernel
theorem dX6_answerTo_417 : decode cX6_answerTo 417 = .ok (.aload_n 0, 1) := by decide +kernel
theorem dX6_answerTo_418 : decode cX6_answerTo 418 = .ok (.getfield 93, 3) := by decide +kernel
theorem dX6_answerTo_421 : decode cX6_answerTo 421 = .ok (.iload 8, 2) := by decide +kernel
theorem dX6_answerTo_423 : decode cX6_answerTo 423 = .ok (.dup2, 1) := by decide +kernel
theorem dX6_answerTo_424 : decode cX6_answerTo 424 = .ok (.iaload, 1) := by decide +kernel
theorem dX6_answerTo_425 : decode cX6_answerTo 425 = .ok (.iconst 1, 1) := by decide +kernel
theorem dX6_answerTo_426 : decode cX6_answerTo 426 = .ok (.iadd, 1) := by decide +kernel
theorem dX6_answerTo_427 : decode cX6_answerTo 427 = .ok (.iastore, 1) := by decide +kernel
theorem dX6_answerTo_428 : decode cX6_answerTo 428 = .ok (.goto (-270), 3) := by decide +kernel
theorem dX6_answerTo_431 : decode cX6_answerTo 431 = .ok (.iload 5, 2) := by decide +kernel
theorem dX6_answerTo_433 : decode cX6_answerTo 433 = .ok (.ireturn, 1) := by decide +kernel
theorem dX6_codeOf_0 : decode cX6_codeOf 0 = .ok (.iconst 0, 1) := by decide +kernel
theorem dX6_codeOf_1 : decode cX6_codeOf 1 = .ok (.istore_n 3, 1) := by decide +kernel
theorem dX6_codeOf_2 : decode cX6_codeOf 2 = .ok (.iconst 0, 1) := by decide +kernel
theorem dX6_codeOf_3 : decode cX6_codeOf 3 = .ok (.istore 4, 2) := by decide +kernel
theorem dX6_codeOf_5 : decode cX6_codeOf 5 = .ok (.iload 4, 2) := by decide +kernel
theorem dX6_codeOf_7 : decode cX6_codeOf 7 = .ok (.iconst 3, 1) := by decide +kernel
theorem dX6_codeOf_8 : decode cX6_codeOf 8 = .ok (.if_icmp .ge 42, 3) := by decide +kernel
theorem dX6_codeOf_11 : decode cX6_codeOf 11 = .ok (.iconst 4, 1) := by decide +kernel
theorem dX6_codeOf_12 : decode cX6_codeOf 12 = .ok (.iload_n 3, 1) := by decide +kernel
theorem dX6_codeOf_13 : decode cX6_codeOf 13 = .ok (.imul, 1) := by decide +kernel
theorem dX6_codeOf_14 : decode cX6_codeOf 14 = .ok (.iload 4, 2) := by decide +kernel
theorem dX6_codeOf_16 : decode cX6_codeOf 16 = .ok (.aload_n 0, 1) := by decide +kernel
theorem dX6_codeOf_17 : decode cX6_codeOf 17 = .ok (.getfield 30, 3) := by decide +kernel
theorem dX6_codeOf_20 : decode cX6_codeOf 20 = .ok (.iload_n 1, 1) := by decide +kernel
theorem dX6_codeOf_21 : decode cX6_codeOf 21 = .ok (.iaload, 1) := by decide +kernel
theorem dX6_codeOf_22 : decode cX6_codeOf 22 = .ok (.if_icmp .ge 19, 3) := by decide +kernel
theorem dX6_codeOf_25 : decode cX6_codeOf 25 = .ok (.aload_n 2, 1) := by decide +kernel
theorem dX6_codeOf_26 : decode cX6_codeOf 26 = .ok (.aload_n 0, 1) := by decide +kernel
theorem dX6_codeOf_27 : decode cX6_codeOf 27 = .ok (.getfield 33, 3) := by decide +kernel
theorem dX6_codeOf_30 : decode cX6_codeOf 30 = .ok (.iconst 3, 1) := by decide +kernel
theorem dX6_codeOf_31 : decode cX6_codeOf 31 = .ok (.iload_n 1, 1) := by decide +kernel
theorem dX6_codeOf_32 : decode cX6_codeOf 32 = .ok (.imul, 1) := by decide +kernel
theorem dX6_codeOf_33 : decode cX6_codeOf 33 = .ok (.iload 4, 2) := by decide +kernel
theorem dX6_codeOf_35 : decode cX6_codeOf 35 = .ok (.iadd, 1) := by decide +kernel
theorem dX6_codeOf_36 : decode cX6_codeOf 36 = .ok (.iaload, 1) := by decide +kernel
theorem dX6_codeOf_37 : decode cX6_codeOf 37 = .ok (.iaload, 1) := by decide +kernel
theorem dX6_codeOf_38 : decode cX6_codeOf 38 = .ok (.goto 4, 3) := by decide +kernel
theorem dX6_codeOf_41 : decode cX6_codeOf 41 = .ok (.iconst 0, 1) := by decide +kernel
theorem dX6_codeOf_42 : decode cX6_codeOf 42 = .ok (.iadd, 1) := by decide +kernel
theorem dX6_codeOf_43 : decode cX6_codeOf 43 = .ok (.istore_n 3, 1) := by decide +kernel
theorem dX6_codeOf_44 : decode cX6_codeOf 44 = .ok (.iinc 4 1, 3) := by decide +kernel
theorem dX6_codeOf_47 : decode cX6_codeOf 47 = .ok (.goto (-42), 3) := by decide +kernel
theorem dX6_codeOf_50 : decode cX6_codeOf 50 = .ok (.iload_n 3, 1) := by decide +kernel
theorem dX6_codeOf_51 : decode cX6_codeOf 51 = .ok (.ireturn, 1) := by decide +kernel
theorem dX6_isCode_0 : decode cX6_isCode 0 = .ok (.iconst 1, 1) := by decide +kernel
theorem dX6_isCode_1 : decode cX6_isCode 1 = .ok (.istore_n 3, 1) := by decide +kernel
theorem dX6_isCode_2 : decode cX6_isCode 2 = .ok (.iconst 0, 1) := by decide +kernel
theorem dX6_isCode_3 : decode cX6_isCode 3 = .ok (.istore 4, 2) := by decide +kernel
theorem dX6_isCode_5 : decode cX6_isCode 5 = .ok (.iload 4, 2) := by decide +kernel
theorem dX6_isCode_7 : decode cX6_isCode 7 = .ok (.iconst 3, 1) := by decide +kernel
theorem dX6_isCode_8 : decode cX6_isCode 8 = .ok (.if_icmp .ge 59, 3) := by decide +kernel
theorem dX6_isCode_11 : decode cX6_isCode 11 = .ok (.iload_n 3, 1) := by decide +kernel
theorem dX6_isCode_12 : decode cX6_isCode 12 = .ok (.ifCond .eq 47, 3) := by decide +kernel
theorem dX6_isCode_15 : decode cX6_isCode 15 = .ok (.iload_n 2, 1) := by decide +kernel
theorem dX6_isCode_16 : decode cX6_isCode 16 = .ok (.iload 4, 2) := by decide +kernel
theorem dX6_isCode_18 : decode cX6_isCode 18 = .ok (.invokestatic 162, 3) := by decide +kernel
theorem dX6_isCode_21 : decode cX6_isCode 21 = .ok (.iload 4, 2) := by decide +kernel
theorem dX6_isCode_23 : decode cX6_isCode 23 = .ok (.aload_n 0, 1) := by decide +kernel
theorem dX6_isCode_24 : decode cX6_isCode 24 = .ok (.getfield 30, 3) := by decide +kernel
theorem dX6_isCode_27 : decode cX6_isCode 27 = .ok (.iload_n 1, 1) := by decide +kernel
theorem dX6_isCode_28 : decode cX6_isCode 28 = .ok (.iaload, 1) := by decide +kernel
theorem dX6_isCode_29 : decode cX6_isCode 29 = .ok (.if_icmp .ge 22, 3) := by decide +kernel
theorem dX6_isCode_32 : decode cX6_isCode 32 = .ok (.aload_n 0, 1) := by decide +kernel
theorem dX6_isCode_33 : decode cX6_isCode 33 = .ok (.getfield 7, 3) := by decide +kernel
theorem dX6_isCode_36 : decode cX6_isCode 36 = .ok (.aload_n 0, 1) := by decide +kernel
theorem dX6_isCode_37 : decode cX6_isCode 37 = .ok (.getfield 33, 3) := by decide +kernel
theorem dX6_isCode_40 : decode cX6_isCode 40 = .ok (.iconst 3, 1) := by decide +kernel
theorem dX6_isCode_41 : decode cX6_isCode 41 = .ok (.iload_n 1, 1) := by decide +kernel
theorem dX6_isCode_42 : decode cX6_isCode 42 = .ok (.imul, 1) := by decide +kernel
theorem dX6_isCode_43 : decode cX6_isCode 43 = .ok (.iload 4, 2) := by decide +kernel
theorem dX6_isCode_45 : decode cX6_isCode 45 = .ok (.iadd, 1) := by decide +kernel
theorem dX6_isCode_46 : decode cX6_isCode 46 = .ok (.iaload, 1) := by decide +kernel
theorem dX6_isCode_47 : decode cX6_isCode 47 = .ok (.iaload, 1) := by decide +kernel
theorem dX6_isCode_48 : decode cX6_isCode 48 = .ok (.goto 4, 3) := by decide +kernel
theorem dX6_isCode_51 : decode cX6_isCode 51 = .ok (.iconst 1, 1) := by decide +kernel
theorem dX6_isCode_52 : decode cX6_isCode 52 = .ok (.if_icmp .ge 7, 3) := by decide +kernel
theorem dX6_isCode_55 : decode cX6_isCode 55 = .ok (.iconst 1, 1) := by decide +kernel
theorem dX6_isCode_56 : decode cX6_isCode 56 = .ok (.goto 4, 3) := by decide +kernel
theorem dX6_isCode_59 : decode cX6_isCode 59 = .ok (.iconst 0, 1) := by decide +kernel
theorem dX6_isCode_60 : decode cX6_isCode 60 = .ok (.istore_n 3, 1) := by decide +kernel
theorem dX6_isCode_61 : decode cX6_isCode 61 = .ok (.iinc 4 1, 3) := by decide +kernel
theorem dX6_isCode_64 : decode cX6_isCode 64 = .ok (.goto (-59), 3) := by decide +kernel
theorem dX6_isCode_67 : decode cX6_isCode 67 = .ok (.iload_n 3, 1) := by decide +kernel
theorem dX6_isCode_68 : decode cX6_isCode 68 = .ok (.ireturn, 1) := by decide +kernel
theorem dX6_meets_0 : decode cX6_meets 0 = .ok (.iconst 1, 1) := by decide +kernel
theorem dX6_meets_1 : decode cX6_meets 1 = .ok (.istore 4, 2) := by decide +kernel
theorem dX6_meets_3 : decode cX6_meets 3 = .ok (.iconst 0, 1) := by decide +kernel
theorem dX6_meets_4 : decode cX6_meets 4 = .ok (.istore 5, 2) := by decide +kernel
theorem dX6_meets_6 : decode cX6_meets 6 = .ok (.iload 5, 2) := by decide +kernel
theorem dX6_meets_8 : decode cX6_meets 8 = .ok (.aload_n 0, 1) := by decide +kernel
theorem dX6_meets_9 : decode cX6_meets 9 = .ok (.getfield 75, 3) := by decide +kernel
theorem dX6_meets_12 : decode cX6_meets 12 = .ok (.iload_n 1, 1) := by decide +kernel
theorem dX6_meets_13 : decode cX6_meets 13 = .ok (.iaload, 1) := by decide +kernel
theorem dX6_meets_14 : decode cX6_meets 14 = .ok (.if_icmp .ge 59, 3) := by decide +kernel
theorem dX6_meets_17 : decode cX6_meets 17 = .ok (.aload_n 0, 1) := by decide +kernel
theorem dX6_meets_18 : decode cX6_meets 18 = .ok (.iload_n 2, 1) := by decide +kernel
theorem dX6_meets_19 : decode cX6_meets 19 = .ok (.aload_n 0, 1) := by decide +kernel
theorem dX6_meets_20 : decode cX6_meets 20 = .ok (.getfield 78, 3) := by decide +kernel
theorem dX6_meets_23 : decode cX6_meets 23 = .ok (.iconst 3, 1) := by decide +kernel
theorem dX6_meets_24 : decode cX6_meets 24 = .ok (.iload_n 1, 1) := by decide +kernel
theorem dX6_meets_25 : decode cX6_meets 25 = .ok (.imul, 1) := by decide +kernel
theorem dX6_meets_26 : decode cX6_meets 26 = .ok (.iload 5, 2) := by decide +kernel
theorem dX6_meets_28 : decode cX6_meets 28 = .ok (.iadd, 1) := by decide +kernel
theorem dX6_meets_29 : decode cX6_meets 29 = .ok (.iaload, 1) := by decide +kernel
theorem dX6_meets_30 : decode cX6_meets 30 = .ok (.invokevirtual 151, 3) := by decide +kernel
theorem dX6_meets_33 : decode cX6_meets 33 = .ok (.istore 6, 2) := by decide +kernel
theorem dX6_meets_35 : decode cX6_meets 35 = .ok (.iload 4, 2) := by decide +kernel
theorem dX6_meets_37 : decode cX6_meets 37 = .ok (.ifCond .eq 27, 3) := by decide +kernel
theorem dX6_meets_40 : decode cX6_meets 40 = .ok (.iload_n 3, 1) := by decide +kernel
theorem dX6_meets_41 : decode cX6_meets 41 = .ok (.iload 6, 2) := by decide +kernel
theorem dX6_meets_43 : decode cX6_meets 43 = .ok (.invokestatic 162, 3) := by decide +kernel
theorem dX6_meets_46 : decode cX6_meets 46 = .ok (.aload_n 0, 1) := by decide +kernel
theorem dX6_meets_47 : decode cX6_meets 47 = .ok (.getfield 81, 3) := by decide +kernel
theorem dX6_meets_50 : decode cX6_meets 50 = .ok (.iconst 3, 1) := by decide +kernel
theorem dX6_meets_51 : decode cX6_meets 51 = .ok (.iload_n 1, 1) := by decide +kernel
theorem dX6_meets_52 : decode cX6_meets 52 = .ok (.imul, 1) := by decide +kernel
theorem dX6_meets_53 : decode cX6_meets 53 = .ok (.iload 5, 2) := by decide +kernel
theorem dX6_meets_55 : decode cX6_meets 55 = .ok (.iadd, 1) := by decide +kernel
theorem dX6_meets_56 : decode cX6_meets 56 = .ok (.iaload, 1) := by decide +kernel
theorem dX6_meets_57 : decode cX6_meets 57 = .ok (.if_icmp .ne 7, 3) := by decide +kernel
theorem dX6_meets_60 : decode cX6_meets 60 = .ok (.iconst 1, 1) := by decide +kernel
theorem dX6_meets_61 : decode cX6_meets 61 = .ok (.goto 4, 3) := by decide +kernel
theorem dX6_meets_64 : decode cX6_meets 64 = .ok (.iconst 0, 1) := by decide +kernel
theorem dX6_meets_65 : decode cX6_meets 65 = .ok (.istore 4, 2) := by decide +kernel
theorem dX6_meets_67 : decode cX6_meets 67 = .ok (.iinc 5 1, 3) := by decide +kernel
theorem dX6_meets_70 : decode cX6_meets 70 = .ok (.goto (-64), 3) := by decide +kernel
theorem dX6_meets_73 : decode cX6_meets 73 = .ok (.iload 4, 2) := by decide +kernel
theorem dX6_meets_75 : decode cX6_meets 75 = .ok (.ireturn, 1) := by decide +kernel
theorem dX6_layCuts_0 : decode cX6_layCuts 0 = .ok (.iconst 0, 1) := by decide +kernel
theorem dX6_layCuts_1 : decode cX6_layCuts 1 = .ok (.istore_n 1, 1) := by decide +kernel
theorem dX6_layCuts_2 : decode cX6_layCuts 2 = .ok (.iload_n 1, 1) := by decide +kernel
theorem dX6_layCuts_3 : decode cX6_layCuts 3 = .ok (.sipush 1024, 3) := by decide +kernel
theorem dX6_layCuts_6 : decode cX6_layCuts 6 = .ok (.if_icmp .ge 23, 3) := by decide +kernel
theorem dX6_layCuts_9 : decode cX6_layCuts 9 = .ok (.aload_n 0, 1) := by decide +kernel
theorem dX6_layCuts_10 : decode cX6_layCuts 10 = .ok (.getfield 99, 3) := by decide +kernel
theorem dX6_layCuts_13 : decode cX6_layCuts 13 = .ok (.iload_n 1, 1) := by decide +kernel
theorem dX6_layCuts_14 : decode cX6_layCuts 14 = .ok (.iconst 0, 1) := by decide +kernel
theorem dX6_layCuts_15 : decode cX6_layCuts 15 = .ok (.bastore, 1) := by decide +kernel
theorem dX6_layCuts_16 : decode cX6_layCuts 16 = .ok (.aload_n 0, 1) := by decide +kernel
theorem dX6_layCuts_17 : decode cX6_layCuts 17 = .ok (.getfield 102, 3) := by decide +kernel
theorem dX6_layCuts_20 : decode cX6_layCuts 20 = .ok (.iload_n 1, 1) := by decide +kernel
theorem dX6_layCuts_21 : decode cX6_layCuts 21 = .ok (.iconst 0, 1) := by decide +kernel
theorem dX6_layCuts_22 : decode cX6_layCuts 22 = .ok (.iastore, 1) := by decide +kernel
theorem dX6_layCuts_23 : decode cX6_layCuts 23 = .ok (.iinc 1 1, 3) := by decide +kernel
theorem dX6_layCuts_26 : decode cX6_layCuts 26 = .ok (.goto (-24), 3) := by decide +kernel
theorem dX6_layCuts_29 : decode cX6_layCuts 29 = .ok (.iconst 0, 1) := by decide +kernel
theorem dX6_layCuts_30 : decode cX6_layCuts 30 = .ok (.istore_n 1, 1) := by decide +kernel
theorem dX6_layCuts_31 : decode cX6_layCuts 31 = .ok (.iload_n 1, 1) := by decide +kernel
theorem dX6_layCuts_32 : decode cX6_layCuts 32 = .ok (.aload_n 0, 1) := by decide +kernel
theorem dX6_layCuts_33 : decode cX6_layCuts 33 = .ok (.getfield 124, 3) := by decide +kernel
theorem dX6_layCuts_36 : decode cX6_layCuts 36 = .ok (.if_icmp .ge 119, 3) := by decide +kernel
theorem dX6_layCuts_39 : decode cX6_layCuts 39 = .ok (.iconst 0, 1) := by decide +kernel
theorem dX6_layCuts_40 : decode cX6_layCuts 40 = .ok (.istore_n 2, 1) := by decide +kernel
theorem dX6_layCuts_41 : decode cX6_layCuts 41 = .ok (.iload_n 2, 1) := by decide +kernel
theorem dX6_layCuts_42 : decode cX6_layCuts 42 = .ok (.bipush 64, 2) := by decide +kernel
theorem dX6_layCuts_44 : decode cX6_layCuts 44 = .ok (.if_icmp .ge 105, 3) := by decide +kernel
theorem dX6_layCuts_47 : decode cX6_layCuts 47 = .ok (.aload_n 0, 1) := by decide +kernel
theorem dX6_layCuts_48 : decode cX6_layCuts 48 = .ok (.aload_n 0, 1) := by decide +kernel
theorem dX6_layCuts_49 : decode cX6_layCuts 49 = .ok (.getfield 63, 3) := by decide +kernel
theorem dX6_layCuts_52 : decode cX6_layCuts 52 = .ok (.iload_n 1, 1) := by decide +kernel
theorem dX6_layCuts_53 : decode cX6_layCuts 53 = .ok (.iaload, 1) := by decide +kernel
theorem dX6_layCuts_54 : decode cX6_layCuts 54 = .ok (.iload_n 2, 1) := by decide +kernel
theorem dX6_layCuts_55 : decode cX6_layCuts 55 = .ok (.invokevirtual 165, 3) := by decide +kernel
theorem dX6_layCuts_58 : decode cX6_layCuts 58 = .ok (.ifCond .eq 85, 3) := by decide +kernel
theorem dX6_layCuts_61 : decode cX6_layCuts 61 = .ok (.aload_n 0, 1) := by decide +kernel
theorem dX6_layCuts_62 : decode cX6_layCuts 62 = .ok (.iload_n 1, 1) := by decide +kernel
theorem dX6_layCuts_63 : decode cX6_layCuts 63 = .ok (.aload_n 0, 1) := by decide +kernel
theorem dX6_layCuts_64 : decode cX6_layCuts 64 = .ok (.getfield 63, 3) := by decide +kernel
theorem dX6_layCuts_67 : decode cX6_layCuts 67 = .ok (.iload_n 1, 1) := by decide +kernel
theorem dX6_layCuts_68 : decode cX6_layCuts 68 = .ok (.iaload, 1) := by decide +kernel
theorem dX6_layCuts_69 : decode cX6_layCuts 69 = .ok (.iload_n 2, 1) := by decide +kernel
theorem dX6_layCuts_70 : decode cX6_layCuts 70 = .ok (.invokevirtual 168, 3) := by decide +kernel
theorem dX6_layCuts_73 : decode cX6_layCuts 73 = .ok (.ifCond .eq 70, 3) := by decide +kernel
theorem dX6_layCuts_76 : decode cX6_layCuts 76 = .ok (.bipush 64, 2) := by decide +kernel
theorem dX6_layCuts_78 : decode cX6_layCuts 78 = .ok (.iconst 4, 1) := by decide +kernel
theorem dX6_layCuts_79 : decode cX6_layCuts 79 = .ok (.aload_n 0, 1) := by decide +kernel
theorem dX6_layCuts_80 : decode cX6_layCuts 80 = .ok (.getfield 63, 3) := by decide +kernel
theorem dX6_layCuts_83 : decode cX6_layCuts 83 = .ok (.iload_n 1, 1) := by decide +kernel
theorem dX6_layCuts_84 : decode cX6_layCuts 84 = .ok (.iaload, 1) := by decide +kernel
theorem dX6_layCuts_85 : decode cX6_layCuts 85 = .ok (.imul, 1) := by decide +kernel
theorem dX6_layCuts_86 : decode cX6_layCuts 86 = .ok (.aload_n 0, 1) := by decide +kernel
theorem dX6_layCuts_87 : decode cX6_layCuts 87 = .ok (.getfield 66, 3) := by decide +kernel
theorem dX6_layCuts_90 : decode cX6_layCuts 90 = .ok (.iload_n 1, 1) := by decide +kernel
theorem dX6_layCuts_91 : decode cX6_layCuts 91 = .ok (.iaload, 1) := by decide +kernel
theorem dX6_layCuts_92 : decode cX6_layCuts 92 = .ok (.iadd, 1) := by decide +kernel
theorem dX6_layCuts_93 : decode cX6_layCuts 93 = .ok (.imul, 1) := by decide +kernel
theorem dX6_layCuts_94 : decode cX6_layCuts 94 = .ok (.iload_n 2, 1) := by decide +kernel
theorem dX6_layCuts_95 : decode cX6_layCuts 95 = .ok (.iadd, 1) := by decide +kernel
theorem dX6_layCuts_96 : decode cX6_layCuts 96 = .ok (.istore_n 3, 1) := by decide +kernel
theorem dX6_layCuts_97 : decode cX6_layCuts 97 = .ok (.aload_n 0, 1) := by decide +kernel
theorem dX6_layCuts_98 : decode cX6_layCuts 98 = .ok (.getfield 60, 3) := by decide +kernel
theorem dX6_layCuts_101 : decode cX6_layCuts 101 = .ok (.iload_n 1, 1) := by decide +kernel
theorem dX6_layCuts_102 : decode cX6_layCuts 102 = .ok (.baload, 1) := by decide +kernel
theorem dX6_layCuts_103 : decode cX6_layCuts 103 = .ok (.ifCond .ne 13, 3) := by decide +kernel
theorem dX6_layCuts_106 : decode cX6_layCuts 106 = .ok (.aload_n 0, 1) := by decide +kernel
theorem dX6_layCuts_107 : decode cX6_layCuts 107 = .ok (.getfield 99, 3) := by decide +kernel
theorem dX6_layCuts_110 : decode cX6_layCuts 110 = .ok (.iload_n 3, 1) := by decide +kernel
theorem dX6_layCuts_111 : decode cX6_layCuts 111 = .ok (.iconst 1, 1) := by decide +kernel
theorem dX6_layCuts_112 : decode cX6_layCuts 112 = .ok (.bastore, 1) := by decide +kernel
theorem dX6_layCuts_113 : decode cX6_layCuts 113 = .ok (.goto 30, 3) := by decide +kernel
theorem dX6_layCuts_116 : decode cX6_layCuts 116 = .ok (.aload_n 0, 1) := by decide +kernel
theorem dX6_layCuts_117 : decode cX6_layCuts 117 = .ok (.getfield 69, 3) := by decide +kernel
theorem dX6_layCuts_120 : decode cX6_layCuts 120 = .ok (.iload_n 1, 1) := by decide +kernel
theorem dX6_layCuts_121 : decode cX6_layCuts 121 = .ok (.iaload, 1) := by decide +kernel
theorem dX6_layCuts_122 : decode cX6_layCuts 122 = .ok (.aload_n 0, 1) := by decide +kernel
theorem dX6_layCuts_123 : decode cX6_layCuts 123 = .ok (.getfield 102, 3) := by decide +kernel
theorem dX6_layCuts_126 : decode cX6_layCuts 126 = .ok (.iload_n 3, 1) := by decide +kernel
theorem dX6_layCuts_127 : decode cX6_layCuts 127 = .ok (.iaload, 1) := by decide +kernel
theorem dX6_layCuts_128 : decode cX6_layCuts 128 = .ok (.if_icmp .le 15, 3) := by decide +kernel
theorem dX6_layCuts_131 : decode cX6_layCuts 131 = .ok (.aload_n 0, 1) := by decide +kernel
theorem dX6_layCuts_132 : decode cX6_layCuts 132 = .ok (.getfield 102, 3) := by decide +kernel
theorem dX6_layCuts_135 : decode cX6_layCuts 135 = .ok (.iload_n 3, 1) := by decide +kernel
theorem dX6_layCuts_136 : decode cX6_layCuts 136 = .ok (.aload_n 0, 1) := by decide +kernel
theorem dX6_layCuts_137 : decode cX6_layCuts 137 = .ok (.getfield 69, 3) := by decide +kernel
theorem dX6_layCuts_140 : decode cX6_layCuts 140 = .ok (.iload_n 1, 1) := by decide +kernel
theorem dX6_layCuts_141 : decode cX6_layCuts 141 = .ok (.iaload, 1) := by decide +kernel
theorem dX6_layCuts_142 : decode cX6_layCuts 142 = .ok (.iastore, 1) := by decide +kernel
theorem dX6_layCuts_143 : decode cX6_layCuts 143 = .ok (.iinc 2 1, 3) := by decide +kernel
theorem dX6_layCuts_146 : decode cX6_layCuts 146 = .ok (.goto (-105), 3) := by decide +kernel
theorem dX6_layCuts_149 : decode cX6_layCuts 149 = .ok (.iinc 1 1, 3) := by decide +kernel
theorem dX6_layCuts_152 : decode cX6_layCuts 152 = .ok (.goto (-121), 3) := by decide +kernel
theorem dX6_layCuts_155 : decode cX6_layCuts 155 = .ok (.return_, 1) := by decide +kernel
theorem dX6_isTrue_0 : decode cX6_isTrue 0 = .ok (.iconst 0, 1) := by decide +kernel
theorem dX6_isTrue_1 : decode cX6_isTrue 1 = .ok (.istore 7, 2) := by decide +kernel
theorem dX6_isTrue_3 : decode cX6_isTrue 3 = .ok (.iload 7, 2) := by decide +kernel
theorem dX6_isTrue_5 : decode cX6_isTrue 5 = .ok (.bipush 64, 2) := by decide +kernel
theorem dX6_isTrue_7 : decode cX6_isTrue 7 = .ok (.if_icmp .ge 112, 3) := by decide +kernel
theorem dX6_isTrue_10 : decode cX6_isTrue 10 = .ok (.aload_n 0, 1) := by decide +kernel
theorem dX6_isTrue_11 : decode cX6_isTrue 11 = .ok (.iload_n 1, 1) := by decide +kernel
theorem dX6_isTrue_12 : decode cX6_isTrue 12 = .ok (.iload 7, 2) := by decide +kernel
theorem dX6_isTrue_14 : decode cX6_isTrue 14 = .ok (.invokevirtual 165, 3) := by decide +kernel
theorem dX6_isTrue_17 : decode cX6_isTrue 17 = .ok (.istore 8, 2) := by decide +kernel
theorem dX6_isTrue_19 : decode cX6_isTrue 19 = .ok (.iconst 0, 1) := by decide +kernel
theorem dX6_isTrue_20 : decode cX6_isTrue 20 = .ok (.istore 9, 2) := by decide +kernel
theorem dX6_isTrue_22 : decode cX6_isTrue 22 = .ok (.iload 9, 2) := by decide +kernel
theorem dX6_isTrue_24 : decode cX6_isTrue 24 = .ok (.aload_n 0, 1) := by decide +kernel
theorem dX6_isTrue_25 : decode cX6_isTrue 25 = .ok (.getfield 30, 3) := by decide +kernel
theorem dX6_isTrue_28 : decode cX6_isTrue 28 = .ok (.iload_n 1, 1) := by decide +kernel
theorem dX6_isTrue_29 : decode cX6_isTrue 29 = .ok (.iaload, 1) := by decide +kernel
theorem dX6_isTrue_30 : decode cX6_isTrue 30 = .ok (.if_icmp .ge 47, 3) := by decide +kernel
theorem dX6_isTrue_33 : decode cX6_isTrue 33 = .ok (.iload 8, 2) := by decide +kernel
theorem dX6_isTrue_35 : decode cX6_isTrue 35 = .ok (.ifCond .eq 33, 3) := by decide +kernel
theorem dX6_isTrue_38 : decode cX6_isTrue 38 = .ok (.iload 4, 2) := by decide +kernel
theorem dX6_isTrue_40 : decode cX6_isTrue 40 = .ok (.iload 9, 2) := by decide +kernel
theorem dX6_isTrue_42 : decode cX6_isTrue 42 = .ok (.ishr, 1) := by decide +kernel
theorem dX6_isTrue_43 : decode cX6_isTrue 43 = .ok (.iconst 1, 1) := by decide +kernel
theorem dX6_isTrue_44 : decode cX6_isTrue 44 = .ok (.iand, 1) := by decide +kernel
theorem dX6_isTrue_45 : decode cX6_isTrue 45 = .ok (.ifCond .eq 19, 3) := by decide +kernel
theorem dX6_isTrue_48 : decode cX6_isTrue 48 = .ok (.iload 7, 2) := by decide +kernel
theorem dX6_isTrue_50 : decode cX6_isTrue 50 = .ok (.iload 9, 2) := by decide +kernel
theorem dX6_isTrue_52 : decode cX6_isTrue 52 = .ok (.invokestatic 162, 3) := by decide +kernel
theorem dX6_isTrue_55 : decode cX6_isTrue 55 = .ok (.iload_n 3, 1) := by decide +kernel
theorem dX6_isTrue_56 : decode cX6_isTrue 56 = .ok (.iload 9, 2) := by decide +kernel
theorem dX6_isTrue_58 : decode cX6_isTrue 58 = .ok (.invokestatic 162, 3) := by decide +kernel
theorem dX6_isTrue_61 : decode cX6_isTrue 61 = .ok (.if_icmp .ne 7, 3) := by decide +kernel
theorem dX6_isTrue_64 : decode cX6_isTrue 64 = .ok (.iconst 1, 1) := by decide +kernel
theorem dX6_isTrue_65 : decode cX6_isTrue 65 = .ok (.goto 4, 3) := by decide +kernel
theorem dX6_isTrue_68 : decode cX6_isTrue 68 = .ok (.iconst 0, 1) := by decide +kernel
theorem dX6_isTrue_69 : decode cX6_isTrue 69 = .ok (.istore 8, 2) := by decide +kernel
theorem dX6_isTrue_71 : decode cX6_isTrue 71 = .ok (.iinc 9 1, 3) := by decide +kernel
theorem dX6_isTrue_74 : decode cX6_isTrue 74 = .ok (.goto (-52), 3) := by decide +kernel
theorem dX6_isTrue_77 : decode cX6_isTrue 77 = .ok (.iload 8, 2) := by decide +kernel
theorem dX6_isTrue_79 : decode cX6_isTrue 79 = .ok (.ifCond .eq 34, 3) := by decide +kernel
theorem dX6_isTrue_82 : decode cX6_isTrue 82 = .ok (.aload_n 0, 1) := by decide +kernel
theorem dX6_isTrue_83 : decode cX6_isTrue 83 = .ok (.iload_n 1, 1) := by decide +kernel
theorem dX6_isTrue_84 : decode cX6_isTrue 84 = .ok (.iload 7, 2) := by decide +kernel
theorem dX6_isTrue_86 : decode cX6_isTrue 86 = .ok (.iload_n 2, 1) := by decide +kernel
theorem dX6_isTrue_87 : decode cX6_isTrue 87 = .ok (.invokevirtual 171, 3) := by decide +kernel
theorem dX6_isTrue_90 : decode cX6_isTrue 90 = .ok (.istore 9, 2) := by decide +kernel
theorem dX6_isTrue_92 : decode cX6_isTrue 92 = .ok (.iload 9, 2) := by decide +kernel
theorem dX6_isTrue_94 : decode cX6_isTrue 94 = .ok (.bipush (-4), 2) := by decide +kernel
theorem dX6_isTrue_96 : decode cX6_isTrue 96 = .ok (.if_icmp .eq 17, 3) := by decide +kernel
theorem dX6_isTrue_99 : decode cX6_isTrue 99 = .ok (.iload 5, 2) := by decide +kernel
theorem dX6_isTrue_101 : decode cX6_isTrue 101 = .ok (.ifCond .eq 10, 3) := by decide +kernel
theorem dX6_isTrue_104 : decode cX6_isTrue 104 = .ok (.iload 9, 2) := by decide +kernel
theorem dX6_isTrue_106 : decode cX6_isTrue 106 = .ok (.iload 6, 2) := by decide +kernel
theorem dX6_isTrue_108 : decode cX6_isTrue 108 = .ok (.if_icmp .ge 5, 3) := by decide +kernel
theorem dX6_isTrue_111 : decode cX6_isTrue 111 = .ok (.iconst 0, 1) := by decide +kernel
theorem dX6_isTrue_112 : decode cX6_isTrue 112 = .ok (.ireturn, 1) := by decide +kernel
theorem dX6_isTrue_113 : decode cX6_isTrue 113 = .ok (.iinc 7 1, 3) := by decide +kernel
theorem dX6_isTrue_116 : decode cX6_isTrue 116 = .ok (.goto (-113), 3) := by decide +kernel
theorem dX6_isTrue_119 : decode cX6_isTrue 119 = .ok (.iconst 1, 1) := by decide +kernel
theorem dX6_isTrue_120 : decode cX6_isTrue 120 = .ok (.ireturn, 1) := by decide +kernel
theorem dX6_addCut_0 : decode cX6_addCut 0 = .ok (.iconst 1, 1) := by decide +kernel
theorem dX6_addCut_1 : decode cX6_addCut 1 = .ok (.aload_n 0, 1) := by decide +kernel
theorem dX6_addCut_2 : decode cX6_addCut 2 = .ok (.getfield 30, 3) := by decide +kernel
theorem dX6_addCut_5 : decode cX6_addCut 5 = .ok (.iload_n 1, 1) := by decide +kernel
theorem dX6_addCut_6 : decode cX6_addCut 6 = .ok (.iaload, 1) := by decide +kernel
theorem dX6_addCut_7 : decode cX6_addCut 7 = .ok (.ishl, 1) := by decide +kernel
theorem dX6_addCut_8 : decode cX6_addCut 8 = .ok (.iconst 1, 1) := by decide +kernel
theorem dX6_addCut_9 : decode cX6_addCut 9 = .ok (.isub, 1) := by decide +kernel
theorem dX6_addCut_10 : decode cX6_addCut 10 = .ok (.istore 6, 2) := by decide +kernel
theorem dX6_addCut_12 : decode cX6_addCut 12 = .ok (.iconst 0, 1) := by decide +kernel
theorem dX6_addCut_13 : decode cX6_addCut 13 = .ok (.istore 7, 2) := by decide +kernel
theorem dX6_addCut_15 : decode cX6_addCut 15 = .ok (.iload 7, 2) := by decide +kernel
theorem dX6_addCut_17 : decode cX6_addCut 17 = .ok (.aload_n 0, 1) := by decide +kernel
theorem dX6_addCut_18 : decode cX6_addCut 18 = .ok (.getfield 30, 3) := by decide +kernel
theorem dX6_addCut_21 : decode cX6_addCut 21 = .ok (.iload_n 1, 1) := by decide +kernel
theorem dX6_addCut_22 : decode cX6_addCut 22 = .ok (.iaload, 1) := by decide +kernel
theorem dX6_addCut_23 : decode cX6_addCut 23 = .ok (.if_icmp .ge 40, 3) := by decide +kernel
theorem dX6_addCut_26 : decode cX6_addCut 26 = .ok (.iload 6, 2) := by decide +kernel
theorem dX6_addCut_28 : decode cX6_addCut 28 = .ok (.iconst 1, 1) := by decide +kernel
theorem dX6_addCut_29 : decode cX6_addCut 29 = .ok (.iload 7, 2) := by decide +kernel
theorem dX6_addCut_31 : decode cX6_addCut 31 = .ok (.ishl, 1) := by decide +kernel
theorem dX6_addCut_32 : decode cX6_addCut 32 = .ok (.iconst (-1), 1) := by decide +kernel
theorem dX6_addCut_33 : decode cX6_addCut 33 = .ok (.ixor, 1) := by decide +kernel
theorem dX6_addCut_34 : decode cX6_addCut 34 = .ok (.iand, 1) := by decide +kernel
theorem dX6_addCut_35 : decode cX6_addCut 35 = .ok (.istore 8, 2) := by decide +kernel
theorem dX6_addCut_37 : decode cX6_addCut 37 = .ok (.aload_n 0, 1) := by decide +kernel
theorem dX6_addCut_38 : decode cX6_addCut 38 = .ok (.iload_n 1, 1) := by decide +kernel
theorem dX6_addCut_39 : decode cX6_addCut 39 = .ok (.iload_n 2, 1) := by decide +kernel
theorem dX6_addCut_40 : decode cX6_addCut 40 = .ok (.iload_n 3, 1) := by decide +kernel
theorem dX6_addCut_41 : decode cX6_addCut 41 = .ok (.iload 8, 2) := by decide +kernel
theorem dX6_addCut_43 : decode cX6_addCut 43 = .ok (.iload 4, 2) := by decide +kernel
theorem dX6_addCut_45 : decode cX6_addCut 45 = .ok (.iload 5, 2) := by decide +kernel
theorem dX6_addCut_47 : decode cX6_addCut 47 = .ok (.invokevirtual 175, 3) := by decide +kernel
theorem dX6_addCut_50 : decode cX6_addCut 50 = .ok (.ifCond .eq 7, 3) := by decide +kernel
theorem dX6_addCut_53 : decode cX6_addCut 53 = .ok (.iload 8, 2) := by decide +kernel
theorem dX6_addCut_55 : decode cX6_addCut 55 = .ok (.istore 6, 2) := by decide +kernel
theorem dX6_addCut_57 : decode cX6_addCut 57 = .ok (.iinc 7 1, 3) := by decide +kernel
theorem dX6_addCut_60 : decode cX6_addCut 60 = .ok (.goto (-45), 3) := by decide +kernel
theorem dX6_addCut_63 : decode cX6_addCut 63 = .ok (.aload_n 0, 1) := by decide +kernel
theorem dX6_addCut_64 : decode cX6_addCut 64 = .ok (.getfield 60, 3) := by decide +kernel
theorem dX6_addCut_67 : decode cX6_addCut 67 = .ok (.aload_n 0, 1) := by decide +kernel
theorem dX6_addCut_68 : decode cX6_addCut 68 = .ok (.getfield 124, 3) := by decide +kernel
theorem dX6_addCut_71 : decode cX6_addCut 71 = .ok (.iload 4, 2) := by decide +kernel
theorem dX6_addCut_73 : decode cX6_addCut 73 = .ok (.bastore, 1) := by decide +kernel
theorem dX6_addCut_74 : decode cX6_addCut 74 = .ok (.aload_n 0, 1) := by decide +kernel
theorem dX6_addCut_75 : decode cX6_addCut 75 = .ok (.getfield 63, 3) := by decide +kernel
theorem dX6_addCut_78 : decode cX6_addCut 78 = .ok (.aload_n 0, 1) := by decide +kernel
theorem dX6_addCut_79 : decode cX6_addCut 79 = .ok (.getfield 124, 3) := by decide +kernel
theorem dX6_addCut_82 : decode cX6_addCut 82 = .ok (.iload_n 1, 1) := by decide +kernel
theorem dX6_addCut_83 : decode cX6_addCut 83 = .ok (.iastore, 1) := by decide +kernel
theorem dX6_addCut_84 : decode cX6_addCut 84 = .ok (.aload_n 0, 1) := by decide +kernel
theorem dX6_addCut_85 : decode cX6_addCut 85 = .ok (.getfield 66, 3) := by decide +kernel
theorem dX6_addCut_88 : decode cX6_addCut 88 = .ok (.aload_n 0, 1) := by decide +kernel
theorem dX6_addCut_89 : decode cX6_addCut 89 = .ok (.getfield 124, 3) := by decide +kernel
theorem dX6_addCut_92 : decode cX6_addCut 92 = .ok (.iload_n 2, 1) := by decide +kernel
theorem dX6_addCut_93 : decode cX6_addCut 93 = .ok (.iastore, 1) := by decide +kernel
theorem dX6_addCut_94 : decode cX6_addCut 94 = .ok (.aload_n 0, 1) := by decide +kernel
theorem dX6_addCut_95 : decode cX6_addCut 95 = .ok (.getfield 69, 3) := by decide +kernel
theorem dX6_addCut_98 : decode cX6_addCut 98 = .ok (.aload_n 0, 1) := by decide +kernel
theorem dX6_addCut_99 : decode cX6_addCut 99 = .ok (.getfield 124, 3) := by decide +kernel
theorem dX6_addCut_102 : decode cX6_addCut 102 = .ok (.iload 4, 2) := by decide +kernel
theorem dX6_addCut_104 : decode cX6_addCut 104 = .ok (.ifCond .eq 8, 3) := by decide +kernel
theorem dX6_addCut_107 : decode cX6_addCut 107 = .ok (.iload 5, 2) := by decide +kernel
theorem dX6_addCut_109 : decode cX6_addCut 109 = .ok (.goto 5, 3) := by decide +kernel
theorem dX6_addCut_112 : decode cX6_addCut 112 = .ok (.bipush (-4), 2) := by decide +kernel
theorem dX6_addCut_114 : decode cX6_addCut 114 = .ok (.iastore, 1) := by decide +kernel
theorem dX6_addCut_115 : decode cX6_addCut 115 = .ok (.aload_n 0, 1) := by decide +kernel
theorem dX6_addCut_116 : decode cX6_addCut 116 = .ok (.getfield 72, 3) := by decide +kernel
theorem dX6_addCut_119 : decode cX6_addCut 119 = .ok (.aload_n 0, 1) := by decide +kernel
theorem dX6_addCut_120 : decode cX6_addCut 120 = .ok (.getfield 124, 3) := by decide +kernel
theorem dX6_addCut_123 : decode cX6_addCut 123 = .ok (.aload_n 0, 1) := by decide +kernel
theorem dX6_addCut_124 : decode cX6_addCut 124 = .ok (.getfield 111, 3) := by decide +kernel
theorem dX6_addCut_127 : decode cX6_addCut 127 = .ok (.iastore, 1) := by decide +kernel
theorem dX6_addCut_128 : decode cX6_addCut 128 = .ok (.aload_n 0, 1) := by decide +kernel
theorem dX6_addCut_129 : decode cX6_addCut 129 = .ok (.getfield 75, 3) := by decide +kernel
theorem dX6_addCut_132 : decode cX6_addCut 132 = .ok (.aload_n 0, 1) := by decide +kernel
theorem dX6_addCut_133 : decode cX6_addCut 133 = .ok (.getfield 124, 3) := by decide +kernel
theorem dX6_addCut_136 : decode cX6_addCut 136 = .ok (.iconst 0, 1) := by decide +kernel
theorem dX6_addCut_137 : decode cX6_addCut 137 = .ok (.iastore, 1) := by decide +kernel
theorem dX6_addCut_138 : decode cX6_addCut 138 = .ok (.iconst 0, 1) := by decide +kernel
theorem dX6_addCut_139 : decode cX6_addCut 139 = .ok (.istore 7, 2) := by decide +kernel
theorem dX6_addCut_141 : decode cX6_addCut 141 = .ok (.iload 7, 2) := by decide +kernel
theorem dX6_addCut_143 : decode cX6_addCut 143 = .ok (.aload_n 0, 1) := by decide +kernel
theorem dX6_addCut_144 : decode cX6_addCut 144 = .ok (.getfield 30, 3) := by decide +kernel
theorem dX6_addCut_147 : decode cX6_addCut 147 = .ok (.iload_n 1, 1) := by decide +kernel
theorem dX6_addCut_148 : decode cX6_addCut 148 = .ok (.iaload, 1) := by decide +kernel
theorem dX6_addCut_149 : decode cX6_addCut 149 = .ok (.if_icmp .ge 82, 3) := by decide +kernel
theorem dX6_addCut_152 : decode cX6_addCut 152 = .ok (.iload 6, 2) := by decide +kernel
theorem dX6_addCut_154 : decode cX6_addCut 154 = .ok (.iload 7, 2) := by decide +kernel
theorem dX6_addCut_156 : decode cX6_addCut 156 = .ok (.ishr, 1) := by decide +kernel
theorem dX6_addCut_157 : decode cX6_addCut 157 = .ok (.iconst 1, 1) := by decide +kernel
theorem dX6_addCut_158 : decode cX6_addCut 158 = .ok (.iand, 1) := by decide +kernel
theorem dX6_addCut_159 : decode cX6_addCut 159 = .ok (.iconst 1, 1) := by decide +kernel
theorem dX6_addCut_160 : decode cX6_addCut 160 = .ok (.if_icmp .ne 65, 3) := by decide +kernel
theorem dX6_addCut_163 : decode cX6_addCut 163 = .ok (.iconst 3, 1) := by decide +kernel
theorem dX6_addCut_164 : decode cX6_addCut 164 = .ok (.aload_n 0, 1) := by decide +kernel
theorem dX6_addCut_165 : decode cX6_addCut 165 = .ok (.getfield 124, 3) := by decide +kernel
theorem dX6_addCut_168 : decode cX6_addCut 168 = .ok (.imul, 1) := by decide +kernel
theorem dX6_addCut_169 : decode cX6_addCut 169 = .ok (.aload_n 0, 1) := by decide +kernel
theorem dX6_addCut_170 : decode cX6_addCut 170 = .ok (.getfield 75, 3) := by decide +kernel
theorem dX6_addCut_173 : decode cX6_addCut 173 = .ok (.aload_n 0, 1) := by decide +kernel
theorem dX6_addCut_174 : decode cX6_addCut 174 = .ok (.getfield 124, 3) := by decide +kernel
theorem dX6_addCut_177 : decode cX6_addCut 177 = .ok (.iaload, 1) := by decide +kernel
theorem dX6_addCut_178 : decode cX6_addCut 178 = .ok (.iadd, 1) := by decide +kernel
theorem dX6_addCut_179 : decode cX6_addCut 179 = .ok (.istore 8, 2) := by decide +kernel
theorem dX6_addCut_181 : decode cX6_addCut 181 = .ok (.aload_n 0, 1) := by decide +kernel
theorem dX6_addCut_182 : decode cX6_addCut 182 = .ok (.getfield 78, 3) := by decide +kernel
theorem dX6_addCut_185 : decode cX6_addCut 185 = .ok (.iload 8, 2) := by decide +kernel
theorem dX6_addCut_187 : decode cX6_addCut 187 = .ok (.aload_n 0, 1) := by decide +kernel
theorem dX6_addCut_188 : decode cX6_addCut 188 = .ok (.getfield 33, 3) := by decide +kernel
theorem dX6_addCut_191 : decode cX6_addCut 191 = .ok (.iconst 3, 1) := by decide +kernel
theorem dX6_addCut_192 : decode cX6_addCut 192 = .ok (.iload_n 1, 1) := by decide +kernel
theorem dX6_addCut_193 : decode cX6_addCut 193 = .ok (.imul, 1) := by decide +kernel
theorem dX6_addCut_194 : decode cX6_addCut 194 = .ok (.iload 7, 2) := by decide +kernel
theorem dX6_addCut_196 : decode cX6_addCut 196 = .ok (.iadd, 1) := by decide +kernel
theorem dX6_addCut_197 : decode cX6_addCut 197 = .ok (.iaload, 1) := by decide +kernel
theorem dX6_addCut_198 : decode cX6_addCut 198 = .ok (.iastore, 1) := by decide +kernel
theorem dX6_addCut_199 : decode cX6_addCut 199 = .ok (.aload_n 0, 1) := by decide +kernel
theorem dX6_addCut_200 : decode cX6_addCut 200 = .ok (.getfield 81, 3) := by decide +kernel
theorem dX6_addCut_203 : decode cX6_addCut 203 = .ok (.iload 8, 2) := by decide +kernel
theorem dX6_addCut_205 : decode cX6_addCut 205 = .ok (.iload_n 3, 1) := by decide +kernel
theorem dX6_addCut_206 : decode cX6_addCut 206 = .ok (.iload 7, 2) := by decide +kernel
theorem dX6_addCut_208 : decode cX6_addCut 208 = .ok (.invokestatic 162, 3) := by decide +kernel
theorem dX6_addCut_211 : decode cX6_addCut 211 = .ok (.iastore, 1) := by decide +kernel
theorem dX6_addCut_212 : decode cX6_addCut 212 = .ok (.aload_n 0, 1) := by decide +kernel
theorem dX6_addCut_213 : decode cX6_addCut 213 = .ok (.getfield 75, 3) := by decide +kernel
theorem dX6_addCut_216 : decode cX6_addCut 216 = .ok (.aload_n 0, 1) := by decide +kernel
theorem dX6_addCut_217 : decode cX6_addCut 217 = .ok (.getfield 124, 3) := by decide +kernel
theorem dX6_addCut_220 : decode cX6_addCut 220 = .ok (.dup2, 1) := by decide +kernel
theorem dX6_addCut_221 : decode cX6_addCut 221 = .ok (.iaload, 1) := by decide +kernel
theorem dX6_addCut_222 : decode cX6_addCut 222 = .ok (.iconst 1, 1) := by decide +kernel
theorem dX6_addCut_223 : decode cX6_addCut 223 = .ok (.iadd, 1) := by decide +kernel
theorem dX6_addCut_224 : decode cX6_addCut 224 = .ok (.iastore, 1) := by decide +kernel
theorem dX6_addCut_225 : decode cX6_addCut 225 = .ok (.iinc 7 1, 3) := by decide +kernel
theorem dX6_addCut_228 : decode cX6_addCut 228 = .ok (.goto (-87), 3) := by decide +kernel
theorem dX6_addCut_231 : decode cX6_addCut 231 = .ok (.aload_n 0, 1) := by decide +kernel
theorem dX6_addCut_232 : decode cX6_addCut 232 = .ok (.dup, 1) := by decide +kernel
theorem dX6_addCut_233 : decode cX6_addCut 233 = .ok (.getfield 124, 3) := by decide +kernel
theorem dX6_addCut_236 : decode cX6_addCut 236 = .ok (.iconst 1, 1) := by decide +kernel
theorem dX6_addCut_237 : decode cX6_addCut 237 = .ok (.iadd, 1) := by decide +kernel
theorem dX6_addCut_238 : decode cX6_addCut 238 = .ok (.putfield 124, 3) := by decide +kernel
theorem dX6_addCut_241 : decode cX6_addCut 241 = .ok (.return_, 1) := by decide +kernel
theorem dX6_allWeights_0 : decode cX6_allWeights 0 = .ok (.iconst 0, 1) := by decide +kernel
theorem dX6_allWeights_1 : decode cX6_allWeights 1 = .ok (.istore_n 1, 1) := by decide +kernel
theorem dX6_allWeights_2 : decode cX6_allWeights 2 = .ok (.iconst 0, 1) := by decide +kernel
theorem dX6_allWeights_3 : decode cX6_allWeights 3 = .ok (.istore_n 2, 1) := by decide +kernel
theorem dX6_allWeights_4 : decode cX6_allWeights 4 = .ok (.iload_n 2, 1) := by decide +kernel
theorem dX6_allWeights_5 : decode cX6_allWeights 5 = .ok (.aload_n 0, 1) := by decide +kernel
theorem dX6_allWeights_6 : decode cX6_allWeights 6 = .ok (.getfield 23, 3) := by decide +kernel
theorem dX6_allWeights_9 : decode cX6_allWeights 9 = .ok (.if_icmp .ge 18, 3) := by decide +kernel
theorem dX6_allWeights_12 : decode cX6_allWeights 12 = .ok (.iload_n 1, 1) := by decide +kernel
theorem dX6_allWeights_13 : decode cX6_allWeights 13 = .ok (.aload_n 0, 1) := by decide +kernel
theorem dX6_allWeights_14 : decode cX6_allWeights 14 = .ok (.getfield 27, 3) := by decide +kernel
theorem dX6_allWeights_17 : decode cX6_allWeights 17 = .ok (.iload_n 2, 1) := by decide +kernel
theorem dX6_allWeights_18 : decode cX6_allWeights 18 = .ok (.iaload, 1) := by decide +kernel
theorem dX6_allWeights_19 : decode cX6_allWeights 19 = .ok (.iadd, 1) := by decide +kernel
theorem dX6_allWeights_20 : decode cX6_allWeights 20 = .ok (.istore_n 1, 1) := by decide +kernel
theorem dX6_allWeights_21 : decode cX6_allWeights 21 = .ok (.iinc 2 1, 3) := by decide +kernel
theorem dX6_allWeights_24 : decode cX6_allWeights 24 = .ok (.goto (-20), 3) := by decide +kernel
theorem dX6_allWeights_27 : decode cX6_allWeights 27 = .ok (.iload_n 1, 1) := by decide +kernel
theorem dX6_allWeights_28 : decode cX6_allWeights 28 = .ok (.ireturn, 1) := by decide +kernel
theorem dX6_firstPlan_0 : decode cX6_firstPlan 0 = .ok (.iconst 0, 1) := by decide +kernel
theorem dX6_firstPlan_1 : decode cX6_firstPlan 1 = .ok (.istore_n 1, 1) := by decide +kernel
theorem dX6_firstPlan_2 : decode cX6_firstPlan 2 = .ok (.iload_n 1, 1) := by decide +kernel
theorem dX6_firstPlan_3 : decode cX6_firstPlan 3 = .ok (.bipush 6, 2) := by decide +kernel
theorem dX6_firstPlan_5 : decode cX6_firstPlan 5 = .ok (.if_icmp .ge 16, 3) := by decide +kernel
theorem dX6_firstPlan_8 : decode cX6_firstPlan 8 = .ok (.aload_n 0, 1) := by decide +kernel
theorem dX6_firstPlan_9 : decode cX6_firstPlan 9 = .ok (.getfield 105, 3) := by decide +kernel
theorem dX6_firstPlan_12 : decode cX6_firstPlan 12 = .ok (.iload_n 1, 1) := by decide +kernel
theorem dX6_firstPlan_13 : decode cX6_firstPlan 13 = .ok (.iconst 0, 1) := by decide +kernel
theorem dX6_firstPlan_14 : decode cX6_firstPlan 14 = .ok (.iastore, 1) := by decide +kernel
theorem dX6_firstPlan_15 : decode cX6_firstPlan 15 = .ok (.iinc 1 1, 3) := by decide +kernel
theorem dX6_firstPlan_18 : decode cX6_firstPlan 18 = .ok (.goto (-16), 3) := by decide +kernel
theorem dX6_firstPlan_21 : decode cX6_firstPlan 21 = .ok (.return_, 1) := by decide +kernel
theorem dX6_nextPlan_0 : decode cX6_nextPlan 0 = .ok (.aload_n 0, 1) := by decide +kernel
theorem dX6_nextPlan_1 : decode cX6_nextPlan 1 = .ok (.getfield 134, 3) := by decide +kernel
theorem dX6_nextPlan_4 : decode cX6_nextPlan 4 = .ok (.iconst 1, 1) := by decide +kernel
theorem dX6_nextPlan_5 : decode cX6_nextPlan 5 = .ok (.isub, 1) := by decide +kernel
theorem dX6_nextPlan_6 : decode cX6_nextPlan 6 = .ok (.istore_n 1, 1) := by decide +kernel
theorem dX6_nextPlan_7 : decode cX6_nextPlan 7 = .ok (.iload_n 1, 1) := by decide +kernel
theorem dX6_nextPlan_8 : decode cX6_nextPlan 8 = .ok (.ifCond .lt 33, 3) := by decide +kernel
theorem dX6_nextPlan_11 : decode cX6_nextPlan 11 = .ok (.aload_n 0, 1) := by decide +kernel
theorem dX6_nextPlan_12 : decode cX6_nextPlan 12 = .ok (.getfield 105, 3) := by decide +kernel
theorem dX6_nextPlan_15 : decode cX6_nextPlan 15 = .ok (.iload_n 1, 1) := by decide +kernel
theorem dX6_nextPlan_16 : decode cX6_nextPlan 16 = .ok (.iaload, 1) := by decide +kernel
theorem dX6_nextPlan_17 : decode cX6_nextPlan 17 = .ok (.aload_n 0, 1) := by decide +kernel
theorem dX6_nextPlan_18 : decode cX6_nextPlan 18 = .ok (.getfield 7, 3) := by decide +kernel
theorem dX6_nextPlan_21 : decode cX6_nextPlan 21 = .ok (.iload_n 1, 1) := by decide +kernel
theorem dX6_nextPlan_22 : decode cX6_nextPlan 22 = .ok (.iaload, 1) := by decide +kernel
theorem dX6_nextPlan_23 : decode cX6_nextPlan 23 = .ok (.iconst 1, 1) := by decide +kernel
theorem dX6_nextPlan_24 : decode cX6_nextPlan 24 = .ok (.isub, 1) := by decide +kernel
theorem dX6_nextPlan_25 : decode cX6_nextPlan 25 = .ok (.if_icmp .ne 16, 3) := by decide +kernel
theorem dX6_nextPlan_28 : decode cX6_nextPlan 28 = .ok (.aload_n 0, 1) := by decide +kernel
theorem dX6_nextPlan_29 : decode cX6_nextPlan 29 = .ok (.getfield 105, 3) := by decide +kernel
theorem dX6_nextPlan_32 : decode cX6_nextPlan 32 = .ok (.iload_n 1, 1) := by decide +kernel
theorem dX6_nextPlan_33 : decode cX6_nextPlan 33 = .ok (.iconst 0, 1) := by decide +kernel
theorem dX6_nextPlan_34 : decode cX6_nextPlan 34 = .ok (.iastore, 1) := by decide +kernel
theorem dX6_nextPlan_35 : decode cX6_nextPlan 35 = .ok (.iinc 1 (-1), 3) := by decide +kernel
theorem dX6_nextPlan_38 : decode cX6_nextPlan 38 = .ok (.goto (-31), 3) := by decide +kernel
theorem dX6_nextPlan_41 : decode cX6_nextPlan 41 = .ok (.iload_n 1, 1) := by decide +kernel
theorem dX6_nextPlan_42 : decode cX6_nextPlan 42 = .ok (.ifCond .ge 5, 3) := by decide +kernel
theorem dX6_nextPlan_45 : decode cX6_nextPlan 45 = .ok (.iconst 0, 1) := by decide +kernel
theorem dX6_nextPlan_46 : decode cX6_nextPlan 46 = .ok (.ireturn, 1) := by decide +kernel
theorem dX6_nextPlan_47 : decode cX6_nextPlan 47 = .ok (.aload_n 0, 1) := by decide +kernel
theorem dX6_nextPlan_48 : decode cX6_nextPlan 48 = .ok (.getfield 105, 3) := by decide +kernel
theorem dX6_nextPlan_51 : decode cX6_nextPlan 51 = .ok (.iload_n 1, 1) := by decide +kernel
theorem dX6_nextPlan_52 : decode cX6_nextPlan 52 = .ok (.dup2, 1) := by decide +kernel
theorem dX6_nextPlan_53 : decode cX6_nextPlan 53 = .ok (.iaload, 1) := by decide +kernel
theorem dX6_nextPlan_54 : decode cX6_nextPlan 54 = .ok (.iconst 1, 1) := by decide +kernel
theorem dX6_nextPlan_55 : decode cX6_nextPlan 55 = .ok (.iadd, 1) := by decide +kernel
theorem dX6_nextPlan_56 : decode cX6_nextPlan 56 = .ok (.iastore, 1) := by decide +kernel
theorem dX6_nextPlan_57 : decode cX6_nextPlan 57 = .ok (.iconst 1, 1) := by decide +kernel
theorem dX6_nextPlan_58 : decode cX6_nextPlan 58 = .ok (.ireturn, 1) := by decide +kernel
theorem dX6_priceOf_0 : decode cX6_priceOf 0 = .ok (.iconst 0, 1) := by decide +kernel
theorem dX6_priceOf_1 : decode cX6_priceOf 1 = .ok (.istore_n 2, 1) := by decide +kernel
theorem dX6_priceOf_2 : decode cX6_priceOf 2 = .ok (.iconst 0, 1) := by decide +kernel
theorem dX6_priceOf_3 : decode cX6_priceOf 3 = .ok (.istore_n 3, 1) := by decide +kernel
theorem dX6_priceOf_4 : decode cX6_priceOf 4 = .ok (.iload_n 3, 1) := by decide +kernel
theorem dX6_priceOf_5 : decode cX6_priceOf 5 = .ok (.aload_n 0, 1) := by decide +kernel
theorem dX6_priceOf_6 : decode cX6_priceOf 6 = .ok (.getfield 134, 3) := by decide +kernel
theorem dX6_priceOf_9 : decode cX6_priceOf 9 = .ok (.if_icmp .ge 41, 3) := by decide +kernel
theorem dX6_priceOf_12 : decode cX6_priceOf 12 = .ok (.aload_n 0, 1) := by decide +kernel
theorem dX6_priceOf_13 : decode cX6_priceOf 13 = .ok (.getfield 16, 3) := by decide +kernel
theorem dX6_priceOf_16 : decode cX6_priceOf 16 = .ok (.iconst 4, 1) := by decide +kernel
theorem dX6_priceOf_17 : decode cX6_priceOf 17 = .ok (.iload_n 3, 1) := by decide +kernel
theorem dX6_priceOf_18 : decode cX6_priceOf 18 = .ok (.imul, 1) := by decide +kernel
theorem dX6_priceOf_19 : decode cX6_priceOf 19 = .ok (.aload_n 1, 1) := by decide +kernel
theorem dX6_priceOf_20 : decode cX6_priceOf 20 = .ok (.iload_n 3, 1) := by decide +kernel
theorem dX6_priceOf_21 : decode cX6_priceOf 21 = .ok (.iaload, 1) := by decide +kernel
theorem dX6_priceOf_22 : decode cX6_priceOf 22 = .ok (.iadd, 1) := by decide +kernel
theorem dX6_priceOf_23 : decode cX6_priceOf 23 = .ok (.baload, 1) := by decide +kernel
theorem dX6_priceOf_24 : decode cX6_priceOf 24 = .ok (.ifCond .eq 5, 3) := by decide +kernel
theorem dX6_priceOf_27 : decode cX6_priceOf 27 = .ok (.iconst (-1), 1) := by decide +kernel
theorem dX6_priceOf_28 : decode cX6_priceOf 28 = .ok (.ireturn, 1) := by decide +kernel
theorem dX6_priceOf_29 : decode cX6_priceOf 29 = .ok (.iload_n 2, 1) := by decide +kernel
theorem dX6_priceOf_30 : decode cX6_priceOf 30 = .ok (.aload_n 0, 1) := by decide +kernel
theorem dX6_priceOf_31 : decode cX6_priceOf 31 = .ok (.getfield 13, 3) := by decide +kernel
theorem dX6_priceOf_34 : decode cX6_priceOf 34 = .ok (.iconst 4, 1) := by decide +kernel
theorem dX6_priceOf_35 : decode cX6_priceOf 35 = .ok (.iload_n 3, 1) := by decide +kernel
theorem dX6_priceOf_36 : decode cX6_priceOf 36 = .ok (.imul, 1) := by decide +kernel
theorem dX6_priceOf_37 : decode cX6_priceOf 37 = .ok (.aload_n 1, 1) := by decide +kernel
theorem dX6_priceOf_38 : decode cX6_priceOf 38 = .ok (.iload_n 3, 1) := by decide +kernel
theorem dX6_priceOf_39 : decode cX6_priceOf 39 = .ok (.iaload, 1) := by decide +kernel
theorem dX6_priceOf_40 : decode cX6_priceOf 40 = .ok (.iadd, 1) := by decide +kernel
theorem dX6_priceOf_41 : decode cX6_priceOf 41 = .ok (.iaload, 1) := by decide +kernel
theorem dX6_priceOf_42 : decode cX6_priceOf 42 = .ok (.iadd, 1) := by decide +kernel
theorem dX6_priceOf_43 : decode cX6_priceOf 43 = .ok (.istore_n 2, 1) := by decide +kernel
theorem dX6_priceOf_44 : decode cX6_priceOf 44 = .ok (.iinc 3 1, 3) := by decide +kernel
theorem dX6_priceOf_47 : decode cX6_priceOf 47 = .ok (.goto (-43), 3) := by decide +kernel
theorem dX6_priceOf_50 : decode cX6_priceOf 50 = .ok (.iload_n 2, 1) := by decide +kernel
theorem dX6_priceOf_51 : decode cX6_priceOf 51 = .ok (.aload_n 0, 1) := by decide +kernel
theorem dX6_priceOf_52 : decode cX6_priceOf 52 = .ok (.invokevirtual 179, 3) := by decide +kernel
theorem dX6_priceOf_55 : decode cX6_priceOf 55 = .ok (.imul, 1) := by decide +kernel
theorem dX6_priceOf_56 : decode cX6_priceOf 56 = .ok (.ireturn, 1) := by decide +kernel
theorem dX6_byCuts_0 : decode cX6_byCuts 0 = .ok (.aload_n 0, 1) := by decide +kernel
theorem dX6_byCuts_1 : decode cX6_byCuts 1 = .ok (.aload_n 0, 1) := by decide +kernel
theorem dX6_byCuts_2 : decode cX6_byCuts 2 = .ok (.getfield 105, 3) := by decide +kernel
theorem dX6_byCuts_5 : decode cX6_byCuts 5 = .ok (.invokevirtual 183, 3) := by decide +kernel
theorem dX6_byCuts_8 : decode cX6_byCuts 8 = .ok (.istore_n 1, 1) := by decide +kernel
theorem dX6_byCuts_9 : decode cX6_byCuts 9 = .ok (.iconst 0, 1) := by decide +kernel
theorem dX6_byCuts_10 : decode cX6_byCuts 10 = .ok (.istore_n 2, 1) := by decide +kernel
theorem dX6_byCuts_11 : decode cX6_byCuts 11 = .ok (.iload_n 2, 1) := by decide +kernel
theorem dX6_byCuts_12 : decode cX6_byCuts 12 = .ok (.aload_n 0, 1) := by decide +kernel
theorem dX6_byCuts_13 : decode cX6_byCuts 13 = .ok (.getfield 141, 3) := by decide +kernel
theorem dX6_byCuts_16 : decode cX6_byCuts 16 = .ok (.if_icmp .ge 90, 3) := by decide +kernel
theorem dX6_byCuts_19 : decode cX6_byCuts 19 = .ok (.iload_n 1, 1) := by decide +kernel
theorem dX6_byCuts_20 : decode cX6_byCuts 20 = .ok (.ifCond .lt 86, 3) := by decide +kernel
theorem dX6_byCuts_23 : decode cX6_byCuts 23 = .ok (.aload_n 0, 1) := by decide +kernel
theorem dX6_byCuts_24 : decode cX6_byCuts 24 = .ok (.iload_n 2, 1) := by decide +kernel
theorem dX6_byCuts_25 : decode cX6_byCuts 25 = .ok (.aload_n 0, 1) := by decide +kernel
theorem dX6_byCuts_26 : decode cX6_byCuts 26 = .ok (.getfield 105, 3) := by decide +kernel
theorem dX6_byCuts_29 : decode cX6_byCuts 29 = .ok (.invokevirtual 187, 3) := by decide +kernel
theorem dX6_byCuts_32 : decode cX6_byCuts 32 = .ok (.istore_n 3, 1) := by decide +kernel
theorem dX6_byCuts_33 : decode cX6_byCuts 33 = .ok (.iconst 0, 1) := by decide +kernel
theorem dX6_byCuts_34 : decode cX6_byCuts 34 = .ok (.istore 4, 2) := by decide +kernel
theorem dX6_byCuts_36 : decode cX6_byCuts 36 = .ok (.iload 4, 2) := by decide +kernel
theorem dX6_byCuts_38 : decode cX6_byCuts 38 = .ok (.aload_n 0, 1) := by decide +kernel
theorem dX6_byCuts_39 : decode cX6_byCuts 39 = .ok (.getfield 23, 3) := by decide +kernel
theorem dX6_byCuts_42 : decode cX6_byCuts 42 = .ok (.if_icmp .ge 58, 3) := by decide +kernel
theorem dX6_byCuts_45 : decode cX6_byCuts 45 = .ok (.iload_n 1, 1) := by decide +kernel
theorem dX6_byCuts_46 : decode cX6_byCuts 46 = .ok (.ifCond .lt 54, 3) := by decide +kernel
theorem dX6_byCuts_49 : decode cX6_byCuts 49 = .ok (.bipush 64, 2) := by decide +kernel
theorem dX6_byCuts_51 : decode cX6_byCuts 51 = .ok (.iconst 4, 1) := by decide +kernel
theorem dX6_byCuts_52 : decode cX6_byCuts 52 = .ok (.iload_n 2, 1) := by decide +kernel
theorem dX6_byCuts_53 : decode cX6_byCuts 53 = .ok (.imul, 1) := by decide +kernel
theorem dX6_byCuts_54 : decode cX6_byCuts 54 = .ok (.iload 4, 2) := by decide +kernel
theorem dX6_byCuts_56 : decode cX6_byCuts 56 = .ok (.iadd, 1) := by decide +kernel
theorem dX6_byCuts_57 : decode cX6_byCuts 57 = .ok (.imul, 1) := by decide +kernel
theorem dX6_byCuts_58 : decode cX6_byCuts 58 = .ok (.iload_n 3, 1) := by decide +kernel
theorem dX6_byCuts_59 : decode cX6_byCuts 59 = .ok (.iadd, 1) := by decide +kernel
theorem dX6_byCuts_60 : decode cX6_byCuts 60 = .ok (.istore 5, 2) := by decide +kernel
theorem dX6_byCuts_62 : decode cX6_byCuts 62 = .ok (.aload_n 0, 1) := by decide +kernel
theorem dX6_byCuts_63 : decode cX6_byCuts 63 = .ok (.getfield 99, 3) := by decide +kernel
theorem dX6_byCuts_66 : decode cX6_byCuts 66 = .ok (.iload 5, 2) := by decide +kernel
theorem dX6_byCuts_68 : decode cX6_byCuts 68 = .ok (.baload, 1) := by decide +kernel
theorem dX6_byCuts_69 : decode cX6_byCuts 69 = .ok (.ifCond .eq 7, 3) := by decide +kernel
theorem dX6_byCuts_72 : decode cX6_byCuts 72 = .ok (.iconst (-1), 1) := by decide +kernel
theorem dX6_byCuts_73 : decode cX6_byCuts 73 = .ok (.goto 20, 3) := by decide +kernel
theorem dX6_byCuts_76 : decode cX6_byCuts 76 = .ok (.iload_n 1, 1) := by decide +kernel
theorem dX6_byCuts_77 : decode cX6_byCuts 77 = .ok (.aload_n 0, 1) := by decide +kernel
theorem dX6_byCuts_78 : decode cX6_byCuts 78 = .ok (.getfield 27, 3) := by decide +kernel
theorem dX6_byCuts_81 : decode cX6_byCuts 81 = .ok (.iload 4, 2) := by decide +kernel
theorem dX6_byCuts_83 : decode cX6_byCuts 83 = .ok (.iaload, 1) := by decide +kernel
theorem dX6_byCuts_84 : decode cX6_byCuts 84 = .ok (.aload_n 0, 1) := by decide +kernel
theorem dX6_byCuts_85 : decode cX6_byCuts 85 = .ok (.getfield 102, 3) := by decide +kernel
theorem dX6_byCuts_88 : decode cX6_byCuts 88 = .ok (.iload 5, 2) := by decide +kernel
theorem dX6_byCuts_90 : decode cX6_byCuts 90 = .ok (.iaload, 1) := by decide +kernel
theorem dX6_byCuts_91 : decode cX6_byCuts 91 = .ok (.imul, 1) := by decide +kernel
theorem dX6_byCuts_92 : decode cX6_byCuts 92 = .ok (.iadd, 1) := by decide +kernel
theorem dX6_byCuts_93 : decode cX6_byCuts 93 = .ok (.istore_n 1, 1) := by decide +kernel
theorem dX6_byCuts_94 : decode cX6_byCuts 94 = .ok (.iinc 4 1, 3) := by decide +kernel
theorem dX6_byCuts_97 : decode cX6_byCuts 97 = .ok (.goto (-61), 3) := by decide +kernel
theorem dX6_byCuts_100 : decode cX6_byCuts 100 = .ok (.iinc 2 1, 3) := by decide +kernel
theorem dX6_byCuts_103 : decode cX6_byCuts 103 = .ok (.goto (-92), 3) := by decide +kernel
theorem dX6_byCuts_106 : decode cX6_byCuts 106 = .ok (.iload_n 1, 1) := by decide +kernel
theorem dX6_byCuts_107 : decode cX6_byCuts 107 = .ok (.ireturn, 1) := by decide +kernel
theorem dX6_findMaster_0 : decode cX6_findMaster 0 = .ok (.aload_n 0, 1) := by decide +kernel
theorem dX6_findMaster_1 : decode cX6_findMaster 1 = .ok (.invokevirtual 191, 3) := by decide +kernel
theorem dX6_findMaster_4 : decode cX6_findMaster 4 = .ok (.aload_n 0, 1) := by decide +kernel
theorem dX6_findMaster_5 : decode cX6_findMaster 5 = .ok (.iconst 0, 1) := by decide +kernel
theorem dX6_findMaster_6 : decode cX6_findMaster 6 = .ok (.putfield 121, 3) := by decide +kernel
theorem dX6_findMaster_9 : decode cX6_findMaster 9 = .ok (.aload_n 0, 1) := by decide +kernel
theorem dX6_findMaster_10 : decode cX6_findMaster 10 = .ok (.invokevirtual 194, 3) := by decide +kernel
theorem dX6_findMaster_13 : decode cX6_findMaster 13 = .ok (.iconst 1, 1) := by decide +kernel
theorem dX6_findMaster_14 : decode cX6_findMaster 14 = .ok (.istore_n 1, 1) := by decide +kernel
theorem dX6_findMaster_15 : decode cX6_findMaster 15 = .ok (.iload_n 1, 1) := by decide +kernel
theorem dX6_findMaster_16 : decode cX6_findMaster 16 = .ok (.ifCond .eq 71, 3) := by decide +kernel
theorem dX6_findMaster_19 : decode cX6_findMaster 19 = .ok (.aload_n 0, 1) := by decide +kernel
theorem dX6_findMaster_20 : decode cX6_findMaster 20 = .ok (.invokevirtual 197, 3) := by decide +kernel
theorem dX6_findMaster_23 : decode cX6_findMaster 23 = .ok (.istore_n 2, 1) := by decide +kernel
theorem dX6_findMaster_24 : decode cX6_findMaster 24 = .ok (.iload_n 2, 1) := by decide +kernel
theorem dX6_findMaster_25 : decode cX6_findMaster 25 = .ok (.ifCond .lt 54, 3) := by decide +kernel
theorem dX6_findMaster_28 : decode cX6_findMaster 28 = .ok (.aload_n 0, 1) := by decide +kernel
theorem dX6_findMaster_29 : decode cX6_findMaster 29 = .ok (.getfield 121, 3) := by decide +kernel
theorem dX6_findMaster_32 : decode cX6_findMaster 32 = .ok (.ifCond .eq 11, 3) := by decide +kernel
theorem dX6_findMaster_35 : decode cX6_findMaster 35 = .ok (.iload_n 2, 1) := by decide +kernel
theorem dX6_findMaster_36 : decode cX6_findMaster 36 = .ok (.aload_n 0, 1) := by decide +kernel
theorem dX6_findMaster_37 : decode cX6_findMaster 37 = .ok (.getfield 200, 3) := by decide +kernel
theorem dX6_findMaster_40 : decode cX6_findMaster 40 = .ok (.if_icmp .ge 39, 3) := by decide +kernel
theorem dX6_findMaster_43 : decode cX6_findMaster 43 = .ok (.aload_n 0, 1) := by decide +kernel
theorem dX6_findMaster_44 : decode cX6_findMaster 44 = .ok (.iconst 1, 1) := by decide +kernel
theorem dX6_findMaster_45 : decode cX6_findMaster 45 = .ok (.putfield 121, 3) := by decide +kernel
theorem dX6_findMaster_48 : decode cX6_findMaster 48 = .ok (.aload_n 0, 1) := by decide +kernel
theorem dX6_findMaster_49 : decode cX6_findMaster 49 = .ok (.iload_n 2, 1) := by decide +kernel
theorem dX6_findMaster_50 : decode cX6_findMaster 50 = .ok (.putfield 200, 3) := by decide +kernel
theorem dX6_findMaster_53 : decode cX6_findMaster 53 = .ok (.iconst 0, 1) := by decide +kernel
theorem dX6_findMaster_54 : decode cX6_findMaster 54 = .ok (.istore_n 3, 1) := by decide +kernel
theorem dX6_findMaster_55 : decode cX6_findMaster 55 = .ok (.iload_n 3, 1) := by decide +kernel
theorem dX6_findMaster_56 : decode cX6_findMaster 56 = .ok (.bipush 6, 2) := by decide +kernel
theorem dX6_findMaster_58 : decode cX6_findMaster 58 = .ok (.if_icmp .ge 21, 3) := by decide +kernel
theorem dX6_findMaster_61 : decode cX6_findMaster 61 = .ok (.aload_n 0, 1) := by decide +kernel
theorem dX6_findMaster_62 : decode cX6_findMaster 62 = .ok (.getfield 87, 3) := by decide +kernel
theorem dX6_findMaster_65 : decode cX6_findMaster 65 = .ok (.iload_n 3, 1) := by decide +kernel
theorem dX6_findMaster_66 : decode cX6_findMaster 66 = .ok (.aload_n 0, 1) := by decide +kernel
theorem dX6_findMaster_67 : decode cX6_findMaster 67 = .ok (.getfield 105, 3) := by decide +kernel
theorem dX6_findMaster_70 : decode cX6_findMaster 70 = .ok (.iload_n 3, 1) := by decide +kernel
theorem dX6_findMaster_71 : decode cX6_findMaster 71 = .ok (.iaload, 1) := by decide +kernel
theorem dX6_findMaster_72 : decode cX6_findMaster 72 = .ok (.iastore, 1) := by decide +kernel
theorem dX6_findMaster_73 : decode cX6_findMaster 73 = .ok (.iinc 3 1, 3) := by decide +kernel
theorem dX6_findMaster_76 : decode cX6_findMaster 76 = .ok (.goto (-21), 3) := by decide +kernel
theorem dX6_findMaster_79 : decode cX6_findMaster 79 = .ok (.aload_n 0, 1) := by decide +kernel
theorem dX6_findMaster_80 : decode cX6_findMaster 80 = .ok (.invokevirtual 203, 3) := by decide +kernel
theorem dX6_findMaster_83 : decode cX6_findMaster 83 = .ok (.istore_n 1, 1) := by decide +kernel
theorem dX6_findMaster_84 : decode cX6_findMaster 84 = .ok (.goto (-69), 3) := by decide +kernel
theorem dX6_findMaster_87 : decode cX6_findMaster 87 = .ok (.return_, 1) := by decide +kernel
theorem dX6_round_0 : decode cX6_round 0 = .ok (.aload_n 0, 1) := by decide +kernel
theorem dX6_round_1 : decode cX6_round 1 = .ok (.invokevirtual 207, 3) := by decide +kernel
theorem dX6_round_4 : decode cX6_round 4 = .ok (.aload_n 0, 1) := by decide +kernel
theorem dX6_round_5 : decode cX6_round 5 = .ok (.getfield 121, 3) := by decide +kernel
theorem dX6_round_8 : decode cX6_round 8 = .ok (.ifCond .ne 19, 3) := by decide +kernel
theorem dX6_round_11 : decode cX6_round 11 = .ok (.aload_n 0, 1) := by decide +kernel
theorem dX6_round_12 : decode cX6_round 12 = .ok (.iconst 2, 1) := by decide +kernel
theorem dX6_round_13 : decode cX6_round 13 = .ok (.putfield 114, 3) := by decide +kernel
theorem dX6_round_16 : decode cX6_round 16 = .ok (.aload_n 0, 1) := by decide +kernel
theorem dX6_round_17 : decode cX6_round 17 = .ok (.dup, 1) := by decide +kernel
theorem dX6_round_18 : decode cX6_round 18 = .ok (.getfield 111, 3) := by decide +kernel
theorem dX6_round_21 : decode cX6_round 21 = .ok (.iconst 1, 1) := by decide +kernel
theorem dX6_round_22 : decode cX6_round 22 = .ok (.iadd, 1) := by decide +kernel
theorem dX6_round_23 : decode cX6_round 23 = .ok (.putfield 111, 3) := by decide +kernel
theorem dX6_round_26 : decode cX6_round 26 = .ok (.return_, 1) := by decide +kernel
theorem dX6_round_27 : decode cX6_round 27 = .ok (.iconst 1, 1) := by decide +kernel
theorem dX6_round_28 : decode cX6_round 28 = .ok (.istore_n 1, 1) := by decide +kernel
theorem dX6_round_29 : decode cX6_round 29 = .ok (.iconst 0, 1) := by decide +kernel
theorem dX6_round_30 : decode cX6_round 30 = .ok (.istore_n 2, 1) := by decide +kernel
theorem dX6_round_31 : decode cX6_round 31 = .ok (.aload_n 0, 1) := by decide +kernel
theorem dX6_round_32 : decode cX6_round 32 = .ok (.aload_n 0, 1) := by decide +kernel
theorem dX6_round_33 : decode cX6_round 33 = .ok (.getfield 87, 3) := by decide +kernel
theorem dX6_round_36 : decode cX6_round 36 = .ok (.invokevirtual 183, 3) := by decide +kernel
theorem dX6_round_39 : decode cX6_round 39 = .ok (.istore_n 3, 1) := by decide +kernel
theorem dX6_round_40 : decode cX6_round 40 = .ok (.iconst 0, 1) := by decide +kernel
theorem dX6_round_41 : decode cX6_round 41 = .ok (.istore 4, 2) := by decide +kernel
theorem dX6_round_43 : decode cX6_round 43 = .ok (.iload 4, 2) := by decide +kernel
theorem dX6_round_45 : decode cX6_round 45 = .ok (.aload_n 0, 1) := by decide +kernel
theorem dX6_round_46 : decode cX6_round 46 = .ok (.getfield 141, 3) := by decide +kernel
theorem dX6_round_49 : decode cX6_round 49 = .ok (.if_icmp .ge 174, 3) := by decide +kernel
theorem dX6_round_52 : decode cX6_round 52 = .ok (.aload_n 0, 1) := by decide +kernel
theorem dX6_round_53 : decode cX6_round 53 = .ok (.iload 4, 2) := by decide +kernel
theorem dX6_round_55 : decode cX6_round 55 = .ok (.aload_n 0, 1) := by decide +kernel
theorem dX6_round_56 : decode cX6_round 56 = .ok (.getfield 87, 3) := by decide +kernel
theorem dX6_round_59 : decode cX6_round 59 = .ok (.invokevirtual 187, 3) := by decide +kernel
theorem dX6_round_62 : decode cX6_round 62 = .ok (.istore 5, 2) := by decide +kernel
theorem dX6_round_64 : decode cX6_round 64 = .ok (.iconst 0, 1) := by decide +kernel
theorem dX6_round_65 : decode cX6_round 65 = .ok (.istore 6, 2) := by decide +kernel
theorem dX6_round_67 : decode cX6_round 67 = .ok (.iload 6, 2) := by decide +kernel
theorem dX6_round_69 : decode cX6_round 69 = .ok (.aload_n 0, 1) := by decide +kernel
theorem dX6_round_70 : decode cX6_round 70 = .ok (.getfield 23, 3) := by decide +kernel
theorem dX6_round_73 : decode cX6_round 73 = .ok (.if_icmp .ge 144, 3) := by decide +kernel
theorem dX6_round_76 : decode cX6_round 76 = .ok (.aload_n 0, 1) := by decide +kernel
theorem dX6_round_77 : decode cX6_round 77 = .ok (.iload 4, 2) := by decide +kernel
theorem dX6_round_79 : decode cX6_round 79 = .ok (.iload 5, 2) := by decide +kernel
theorem dX6_round_81 : decode cX6_round 81 = .ok (.iload 6, 2) := by decide +kernel
theorem dX6_round_83 : decode cX6_round 83 = .ok (.invokevirtual 171, 3) := by decide +kernel
theorem dX6_round_86 : decode cX6_round 86 = .ok (.istore 7, 2) := by decide +kernel
theorem dX6_round_88 : decode cX6_round 88 = .ok (.aload_n 0, 1) := by decide +kernel
theorem dX6_round_89 : decode cX6_round 89 = .ok (.getfield 102, 3) := by decide +kernel
theorem dX6_round_92 : decode cX6_round 92 = .ok (.bipush 64, 2) := by decide +kernel
theorem dX6_round_94 : decode cX6_round 94 = .ok (.iconst 4, 1) := by decide +kernel
theorem dX6_round_95 : decode cX6_round 95 = .ok (.iload 4, 2) := by decide +kernel
theorem dX6_round_97 : decode cX6_round 97 = .ok (.imul, 1) := by decide +kernel
theorem dX6_round_98 : decode cX6_round 98 = .ok (.iload 6, 2) := by decide +kernel
theorem dX6_round_100 : decode cX6_round 100 = .ok (.iadd, 1) := by decide +kernel
theorem dX6_round_101 : decode cX6_round 101 = .ok (.imul, 1) := by decide +kernel
theorem dX6_round_102 : decode cX6_round 102 = .ok (.iload 5, 2) := by decide +kernel
theorem dX6_round_104 : decode cX6_round 104 = .ok (.iadd, 1) := by decide +kernel
theorem dX6_round_105 : decode cX6_round 105 = .ok (.iaload, 1) := by decide +kernel
theorem dX6_round_106 : decode cX6_round 106 = .ok (.istore 8, 2) := by decide +kernel
theorem dX6_round_108 : decode cX6_round 108 = .ok (.iload_n 1, 1) := by decide +kernel
theorem dX6_round_109 : decode cX6_round 109 = .ok (.ifCond .eq 14, 3) := by decide +kernel
theorem dX6_round_112 : decode cX6_round 112 = .ok (.iload 7, 2) := by decide +kernel
theorem dX6_round_114 : decode cX6_round 114 = .ok (.bipush (-4), 2) := by decide +kernel
theorem dX6_round_116 : decode cX6_round 116 = .ok (.if_icmp .eq 7, 3) := by decide +kernel
theorem dX6_round_119 : decode cX6_round 119 = .ok (.iconst 1, 1) := by decide +kernel
theorem dX6_round_120 : decode cX6_round 120 = .ok (.goto 4, 3) := by decide +kernel
theorem dX6_round_123 : decode cX6_round 123 = .ok (.iconst 0, 1) := by decide +kernel
theorem dX6_round_124 : decode cX6_round 124 = .ok (.istore_n 1, 1) := by decide +kernel
theorem dX6_round_125 : decode cX6_round 125 = .ok (.iload_n 3, 1) := by decide +kernel
theorem dX6_round_126 : decode cX6_round 126 = .ok (.iload 7, 2) := by decide +kernel
theorem dX6_round_128 : decode cX6_round 128 = .ok (.bipush (-4), 2) := by decide +kernel
theorem dX6_round_130 : decode cX6_round 130 = .ok (.if_icmp .ne 7, 3) := by decide +kernel
theorem dX6_round_133 : decode cX6_round 133 = .ok (.iconst 0, 1) := by decide +kernel
theorem dX6_round_134 : decode cX6_round 134 = .ok (.goto 13, 3) := by decide +kernel
theorem dX6_round_137 : decode cX6_round 137 = .ok (.aload_n 0, 1) := by decide +kernel
theorem dX6_round_138 : decode cX6_round 138 = .ok (.getfield 27, 3) := by decide +kernel
theorem dX6_round_141 : decode cX6_round 141 = .ok (.iload 6, 2) := by decide +kernel
theorem dX6_round_143 : decode cX6_round 143 = .ok (.iaload, 1) := by decide +kernel
theorem dX6_round_144 : decode cX6_round 144 = .ok (.iload 7, 2) := by decide +kernel
theorem dX6_round_146 : decode cX6_round 146 = .ok (.imul, 1) := by decide +kernel
theorem dX6_round_147 : decode cX6_round 147 = .ok (.iadd, 1) := by decide +kernel
theorem dX6_round_148 : decode cX6_round 148 = .ok (.istore_n 3, 1) := by decide +kernel
theorem dX6_round_149 : decode cX6_round 149 = .ok (.iload 7, 2) := by decide +kernel
theorem dX6_round_151 : decode cX6_round 151 = .ok (.bipush (-4), 2) := by decide +kernel
theorem dX6_round_153 : decode cX6_round 153 = .ok (.if_icmp .eq 10, 3) := by decide +kernel
theorem dX6_round_156 : decode cX6_round 156 = .ok (.iload 7, 2) := by decide +kernel
theorem dX6_round_158 : decode cX6_round 158 = .ok (.iload 8, 2) := by decide +kernel
theorem dX6_round_160 : decode cX6_round 160 = .ok (.if_icmp .le 51, 3) := by decide +kernel
theorem dX6_round_163 : decode cX6_round 163 = .ok (.iload_n 2, 1) := by decide +kernel
theorem dX6_round_164 : decode cX6_round 164 = .ok (.ifCond .ne 13, 3) := by decide +kernel
theorem dX6_round_167 : decode cX6_round 167 = .ok (.aload_n 0, 1) := by decide +kernel
theorem dX6_round_168 : decode cX6_round 168 = .ok (.getfield 124, 3) := by decide +kernel
theorem dX6_round_171 : decode cX6_round 171 = .ok (.sipush 200, 3) := by decide +kernel
theorem dX6_round_174 : decode cX6_round 174 = .ok (.if_icmp .ne 7, 3) := by decide +kernel
theorem dX6_round_177 : decode cX6_round 177 = .ok (.iconst 1, 1) := by decide +kernel
theorem dX6_round_178 : decode cX6_round 178 = .ok (.goto 4, 3) := by decide +kernel
theorem dX6_round_181 : decode cX6_round 181 = .ok (.iconst 0, 1) := by decide +kernel
theorem dX6_round_182 : decode cX6_round 182 = .ok (.istore_n 2, 1) := by decide +kernel
theorem dX6_round_183 : decode cX6_round 183 = .ok (.iload_n 2, 1) := by decide +kernel
theorem dX6_round_184 : decode cX6_round 184 = .ok (.ifCond .ne 27, 3) := by decide +kernel
theorem dX6_round_187 : decode cX6_round 187 = .ok (.aload_n 0, 1) := by decide +kernel
theorem dX6_round_188 : decode cX6_round 188 = .ok (.iload 4, 2) := by decide +kernel
theorem dX6_round_190 : decode cX6_round 190 = .ok (.iload 6, 2) := by decide +kernel
theorem dX6_round_192 : decode cX6_round 192 = .ok (.iload 5, 2) := by decide +kernel
theorem dX6_round_194 : decode cX6_round 194 = .ok (.iload 7, 2) := by decide +kernel
theorem dX6_round_196 : decode cX6_round 196 = .ok (.bipush (-4), 2) := by decide +kernel
theorem dX6_round_198 : decode cX6_round 198 = .ok (.if_icmp .eq 7, 3) := by decide +kernel
theorem dX6_round_201 : decode cX6_round 201 = .ok (.iconst 1, 1) := by decide +kernel
theorem dX6_round_202 : decode cX6_round 202 = .ok (.goto 4, 3) := by decide +kernel
theorem dX6_round_205 : decode cX6_round 205 = .ok (.iconst 0, 1) := by decide +kernel
theorem dX6_round_206 : decode cX6_round 206 = .ok (.iload 7, 2) := by decide +kernel
theorem dX6_round_208 : decode cX6_round 208 = .ok (.invokevirtual 210, 3) := by decide +kernel
theorem dX6_round_211 : decode cX6_round 211 = .ok (.iinc 6 1, 3) := by decide +kernel
theorem dX6_round_214 : decode cX6_round 214 = .ok (.goto (-147), 3) := by decide +kernel
theorem dX6_round_217 : decode cX6_round 217 = .ok (.iinc 4 1, 3) := by decide +kernel
theorem dX6_round_220 : decode cX6_round 220 = .ok (.goto (-177), 3) := by decide +kernel
theorem dX6_round_223 : decode cX6_round 223 = .ok (.iload_n 1, 1) := by decide +kernel
theorem dX6_round_224 : decode cX6_round 224 = .ok (.ifCond .eq 58, 3) := by decide +kernel
theorem dX6_round_227 : decode cX6_round 227 = .ok (.aload_n 0, 1) := by decide +kernel
theorem dX6_round_228 : decode cX6_round 228 = .ok (.getfield 117, 3) := by decide +kernel
theorem dX6_round_231 : decode cX6_round 231 = .ok (.ifCond .eq 11, 3) := by decide +kernel
theorem dX6_round_234 : decode cX6_round 234 = .ok (.iload_n 3, 1) := by decide +kernel
theorem dX6_round_235 : decode cX6_round 235 = .ok (.aload_n 0, 1) := by decide +kernel
theorem dX6_round_236 : decode cX6_round 236 = .ok (.getfield 214, 3) := by decide +kernel
theorem dX6_round_239 : decode cX6_round 239 = .ok (.if_icmp .ge 43, 3) := by decide +kernel
theorem dX6_round_242 : decode cX6_round 242 = .ok (.aload_n 0, 1) := by decide +kernel
theorem dX6_round_243 : decode cX6_round 243 = .ok (.iconst 1, 1) := by decide +kernel
theorem dX6_round_244 : decode cX6_round 244 = .ok (.putfield 117, 3) := by decide +kernel
theorem dX6_round_247 : decode cX6_round 247 = .ok (.aload_n 0, 1) := by decide +kernel
theorem dX6_round_248 : decode cX6_round 248 = .ok (.iload_n 3, 1) := by decide +kernel
theorem dX6_round_249 : decode cX6_round 249 = .ok (.putfield 214, 3) := by decide +kernel
theorem dX6_round_252 : decode cX6_round 252 = .ok (.iconst 0, 1) := by decide +kernel
theorem dX6_round_253 : decode cX6_round 253 = .ok (.istore 4, 2) := by decide +kernel
theorem dX6_round_255 : decode cX6_round 255 = .ok (.iload 4, 2) := by decide +kernel
theorem dX6_round_257 : decode cX6_round 257 = .ok (.bipush 6, 2) := by decide +kernel
theorem dX6_round_259 : decode cX6_round 259 = .ok (.if_icmp .ge 23, 3) := by decide +kernel
theorem dX6_round_262 : decode cX6_round 262 = .ok (.aload_n 0, 1) := by decide +kernel
theorem dX6_round_263 : decode cX6_round 263 = .ok (.getfield 84, 3) := by decide +kernel
theorem dX6_round_266 : decode cX6_round 266 = .ok (.iload 4, 2) := by decide +kernel
theorem dX6_round_268 : decode cX6_round 268 = .ok (.aload_n 0, 1) := by decide +kernel
theorem dX6_round_269 : decode cX6_round 269 = .ok (.getfield 87, 3) := by decide +kernel
theorem dX6_round_272 : decode cX6_round 272 = .ok (.iload 4, 2) := by decide +kernel
theorem dX6_round_274 : decode cX6_round 274 = .ok (.iaload, 1) := by decide +kernel
theorem dX6_round_275 : decode cX6_round 275 = .ok (.iastore, 1) := by decide +kernel
theorem dX6_round_276 : decode cX6_round 276 = .ok (.iinc 4 1, 3) := by decide +kernel
theorem dX6_round_279 : decode cX6_round 279 = .ok (.goto (-24), 3) := by decide +kernel
theorem dX6_round_282 : decode cX6_round 282 = .ok (.aload_n 0, 1) := by decide +kernel
theorem dX6_round_283 : decode cX6_round 283 = .ok (.aload_n 0, 1) := by decide +kernel
theorem dX6_round_284 : decode cX6_round 284 = .ok (.getfield 117, 3) := by decide +kernel
theorem dX6_round_287 : decode cX6_round 287 = .ok (.ifCond .eq 18, 3) := by decide +kernel
theorem dX6_round_290 : decode cX6_round 290 = .ok (.aload_n 0, 1) := by decide +kernel
theorem dX6_round_291 : decode cX6_round 291 = .ok (.getfield 200, 3) := by decide +kernel
theorem dX6_round_294 : decode cX6_round 294 = .ok (.aload_n 0, 1) := by decide +kernel
theorem dX6_round_295 : decode cX6_round 295 = .ok (.getfield 214, 3) := by decide +kernel
theorem dX6_round_298 : decode cX6_round 298 = .ok (.if_icmp .lt 7, 3) := by decide +kernel
theorem dX6_round_301 : decode cX6_round 301 = .ok (.iconst 1, 1) := by decide +kernel
theorem dX6_round_302 : decode cX6_round 302 = .ok (.goto 4, 3) := by decide +kernel
theorem dX6_round_305 : decode cX6_round 305 = .ok (.iconst 0, 1) := by decide +kernel
theorem dX6_round_306 : decode cX6_round 306 = .ok (.putfield 114, 3) := by decide +kernel
theorem dX6_round_309 : decode cX6_round 309 = .ok (.aload_n 0, 1) := by decide +kernel
theorem dX6_round_310 : decode cX6_round 310 = .ok (.dup, 1) := by decide +kernel
theorem dX6_round_311 : decode cX6_round 311 = .ok (.getfield 111, 3) := by decide +kernel
theorem dX6_round_314 : decode cX6_round 314 = .ok (.iconst 1, 1) := by decide +kernel
theorem dX6_round_315 : decode cX6_round 315 = .ok (.iadd, 1) := by decide +kernel
theorem dX6_round_316 : decode cX6_round 316 = .ok (.putfield 111, 3) := by decide +kernel
theorem dX6_round_319 : decode cX6_round 319 = .ok (.return_, 1) := by decide +kernel
theorem dX6_run_0 : decode cX6_run 0 = .ok (.iload_n 1, 1) := by decide +kernel
theorem dX6_run_1 : decode cX6_run 1 = .ok (.iconst 1, 1) := by decide +kernel
theorem dX6_run_2 : decode cX6_run 2 = .ok (.bipush 50, 2) := by decide +kernel
theorem dX6_run_4 : decode cX6_run 4 = .ok (.invokestatic 130, 3) := by decide +kernel
theorem dX6_run_7 : decode cX6_run 7 = .ok (.ifCond .eq 6, 3) := by decide +kernel
theorem dX6_run_10 : decode cX6_run 10 = .ok (.bipush (-2), 2) := by decide +kernel
theorem dX6_run_12 : decode cX6_run 12 = .ok (.ireturn, 1) := by decide +kernel
theorem dX6_run_13 : decode cX6_run 13 = .ok (.iconst 0, 1) := by decide +kernel
theorem dX6_run_14 : decode cX6_run 14 = .ok (.istore_n 2, 1) := by decide +kernel
theorem dX6_run_15 : decode cX6_run 15 = .ok (.iload_n 2, 1) := by decide +kernel
theorem dX6_run_16 : decode cX6_run 16 = .ok (.iload_n 1, 1) := by decide +kernel
theorem dX6_run_17 : decode cX6_run 17 = .ok (.if_icmp .ge 20, 3) := by decide +kernel
theorem dX6_run_20 : decode cX6_run 20 = .ok (.aload_n 0, 1) := by decide +kernel
theorem dX6_run_21 : decode cX6_run 21 = .ok (.getfield 114, 3) := by decide +kernel
theorem dX6_run_24 : decode cX6_run 24 = .ok (.ifCond .ne 13, 3) := by decide +kernel
theorem dX6_run_27 : decode cX6_run 27 = .ok (.aload_n 0, 1) := by decide +kernel
theorem dX6_run_28 : decode cX6_run 28 = .ok (.invokevirtual 217, 3) := by decide +kernel
theorem dX6_run_31 : decode cX6_run 31 = .ok (.iinc 2 1, 3) := by decide +kernel
theorem dX6_run_34 : decode cX6_run 34 = .ok (.goto (-19), 3) := by decide +kernel
theorem dX6_run_37 : decode cX6_run 37 = .ok (.aload_n 0, 1) := by decide +kernel
theorem dX6_run_38 : decode cX6_run 38 = .ok (.getfield 114, 3) := by decide +kernel
theorem dX6_run_41 : decode cX6_run 41 = .ok (.iconst 1, 1) := by decide +kernel
theorem dX6_run_42 : decode cX6_run 42 = .ok (.if_icmp .ne 7, 3) := by decide +kernel
theorem dX6_run_45 : decode cX6_run 45 = .ok (.iconst 1, 1) := by decide +kernel
theorem dX6_run_46 : decode cX6_run 46 = .ok (.goto 16, 3) := by decide +kernel
theorem dX6_run_49 : decode cX6_run 49 = .ok (.aload_n 0, 1) := by decide +kernel
theorem dX6_run_50 : decode cX6_run 50 = .ok (.getfield 114, 3) := by decide +kernel
theorem dX6_run_53 : decode cX6_run 53 = .ok (.iconst 2, 1) := by decide +kernel
theorem dX6_run_54 : decode cX6_run 54 = .ok (.if_icmp .ne 7, 3) := by decide +kernel
theorem dX6_run_57 : decode cX6_run 57 = .ok (.iconst 0, 1) := by decide +kernel
theorem dX6_run_58 : decode cX6_run 58 = .ok (.goto 4, 3) := by decide +kernel
theorem dX6_run_61 : decode cX6_run 61 = .ok (.iconst 2, 1) := by decide +kernel
theorem dX6_run_62 : decode cX6_run 62 = .ok (.ireturn, 1) := by decide +kernel
theorem dX6_told_0 : decode cX6_told 0 = .ok (.iload_n 1, 1) := by decide +kernel
theorem dX6_told_1 : decode cX6_told 1 = .ok (.tableswitch 120 0 8 #[51, 56, 61, 78, 95, 100, 105, 110, 115], 51) := by decide +kernel
theorem dX6_told_52 : decode cX6_told 52 = .ok (.aload_n 0, 1) := by decide +kernel
theorem dX6_told_53 : decode cX6_told 53 = .ok (.getfield 111, 3) := by decide +kernel
theorem dX6_told_56 : decode cX6_told 56 = .ok (.ireturn, 1) := by decide +kernel
theorem dX6_told_57 : decode cX6_told 57 = .ok (.aload_n 0, 1) := by decide +kernel
theorem dX6_told_58 : decode cX6_told 58 = .ok (.getfield 124, 3) := by decide +kernel
theorem dX6_told_61 : decode cX6_told 61 = .ok (.ireturn, 1) := by decide +kernel
theorem dX6_told_62 : decode cX6_told 62 = .ok (.aload_n 0, 1) := by decide +kernel
theorem dX6_told_63 : decode cX6_told 63 = .ok (.getfield 121, 3) := by decide +kernel
theorem dX6_told_66 : decode cX6_told 66 = .ok (.ifCond .eq 10, 3) := by decide +kernel
theorem dX6_told_69 : decode cX6_told 69 = .ok (.aload_n 0, 1) := by decide +kernel
theorem dX6_told_70 : decode cX6_told 70 = .ok (.getfield 200, 3) := by decide +kernel
theorem dX6_told_73 : decode cX6_told 73 = .ok (.goto 5, 3) := by decide +kernel
theorem dX6_told_76 : decode cX6_told 76 = .ok (.bipush (-4), 2) := by decide +kernel
theorem dX6_told_78 : decode cX6_told 78 = .ok (.ireturn, 1) := by decide +kernel
theorem dX6_told_79 : decode cX6_told 79 = .ok (.aload_n 0, 1) := by decide +kernel
theorem dX6_told_80 : decode cX6_told 80 = .ok (.getfield 117, 3) := by decide +kernel
theorem dX6_told_83 : decode cX6_told 83 = .ok (.ifCond .eq 10, 3) := by decide +kernel
theorem dX6_told_86 : decode cX6_told 86 = .ok (.aload_n 0, 1) := by decide +kernel
theorem dX6_told_87 : decode cX6_told 87 = .ok (.getfield 214, 3) := by decide +kernel
theorem dX6_told_90 : decode cX6_told 90 = .ok (.goto 5, 3) := by decide +kernel
theorem dX6_told_93 : decode cX6_told 93 = .ok (.bipush (-4), 2) := by decide +kernel
theorem dX6_told_95 : decode cX6_told 95 = .ok (.ireturn, 1) := by decide +kernel
theorem dX6_told_96 : decode cX6_told 96 = .ok (.aload_n 0, 1) := by decide +kernel
theorem dX6_told_97 : decode cX6_told 97 = .ok (.invokevirtual 179, 3) := by decide +kernel
theorem dX6_told_100 : decode cX6_told 100 = .ok (.ireturn, 1) := by decide +kernel
theorem dX6_told_101 : decode cX6_told 101 = .ok (.aload_n 0, 1) := by decide +kernel
theorem dX6_told_102 : decode cX6_told 102 = .ok (.getfield 134, 3) := by decide +kernel
theorem dX6_told_105 : decode cX6_told 105 = .ok (.ireturn, 1) := by decide +kernel
theorem dX6_told_106 : decode cX6_told 106 = .ok (.aload_n 0, 1) := by decide +kernel
theorem dX6_told_107 : decode cX6_told 107 = .ok (.getfield 141, 3) := by decide +kernel
theorem dX6_told_110 : decode cX6_told 110 = .ok (.ireturn, 1) := by decide +kernel
theorem dX6_told_111 : decode cX6_told 111 = .ok (.aload_n 0, 1) := by decide +kernel
theorem dX6_told_112 : decode cX6_told 112 = .ok (.getfield 23, 3) := by decide +kernel
theorem dX6_told_115 : decode cX6_told 115 = .ok (.ireturn, 1) := by decide +kernel
theorem dX6_told_116 : decode cX6_told 116 = .ok (.aload_n 0, 1) := by decide +kernel
theorem dX6_told_117 : decode cX6_told 117 = .ok (.getfield 114, 3) := by decide +kernel
theorem dX6_told_120 : decode cX6_told 120 = .ok (.ireturn, 1) := by decide +kernel
theorem dX6_told_121 : decode cX6_told 121 = .ok (.bipush (-2), 2) := by decide +kernel
theorem dX6_told_123 : decode cX6_told 123 = .ok (.ireturn, 1) := by decide +kernel
theorem dX6_best_0 : decode cX6_best 0 = .ok (.iload_n 1, 1) := by decide +kernel
theorem dX6_best_1 : decode cX6_best 1 = .ok (.iconst 0, 1) := by decide +kernel
theorem dX6_best_2 : decode cX6_best 2 = .ok (.aload_n 0, 1) := by decide +kernel
theorem dX6_best_3 : decode cX6_best 3 = .ok (.getfield 134, 3) := by decide +kernel
theorem dX6_best_6 : decode cX6_best 6 = .ok (.iconst 1, 1) := by decide +kernel
theorem dX6_best_7 : decode cX6_best 7 = .ok (.isub, 1) := by decide +kernel
theorem dX6_best_8 : decode cX6_best 8 = .ok (.invokestatic 130, 3) := by decide +kernel
theorem dX6_best_11 : decode cX6_best 11 = .ok (.ifCond .eq 5, 3) := by decide +kernel
theorem dX6_best_14 : decode cX6_best 14 = .ok (.iconst (-1), 1) := by decide +kernel
theorem dX6_best_15 : decode cX6_best 15 = .ok (.ireturn, 1) := by decide +kernel
theorem dX6_best_16 : decode cX6_best 16 = .ok (.aload_n 0, 1) := by decide +kernel
theorem dX6_best_17 : decode cX6_best 17 = .ok (.getfield 117, 3) := by decide +kernel
theorem dX6_best_20 : decode cX6_best 20 = .ok (.ifCond .eq 12, 3) := by decide +kernel
theorem dX6_best_23 : decode cX6_best 23 = .ok (.aload_n 0, 1) := by decide +kernel
theorem dX6_best_24 : decode cX6_best 24 = .ok (.getfield 84, 3) := by decide +kernel
theorem dX6_best_27 : decode cX6_best 27 = .ok (.iload_n 1, 1) := by decide +kernel
theorem dX6_best_28 : decode cX6_best 28 = .ok (.iaload, 1) := by decide +kernel
theorem dX6_best_29 : decode cX6_best 29 = .ok (.goto 5, 3) := by decide +kernel
theorem dX6_best_32 : decode cX6_best 32 = .ok (.bipush (-4), 2) := by decide +kernel
theorem dX6_best_34 : decode cX6_best 34 = .ok (.ireturn, 1) := by decide +kernel
theorem dX6_master_0 : decode cX6_master 0 = .ok (.iload_n 1, 1) := by decide +kernel
theorem dX6_master_1 : decode cX6_master 1 = .ok (.iconst 0, 1) := by decide +kernel
theorem dX6_master_2 : decode cX6_master 2 = .ok (.aload_n 0, 1) := by decide +kernel
theorem dX6_master_3 : decode cX6_master 3 = .ok (.getfield 134, 3) := by decide +kernel
theorem dX6_master_6 : decode cX6_master 6 = .ok (.iconst 1, 1) := by decide +kernel
theorem dX6_master_7 : decode cX6_master 7 = .ok (.isub, 1) := by decide +kernel
theorem dX6_master_8 : decode cX6_master 8 = .ok (.invokestatic 130, 3) := by decide +kernel
theorem dX6_master_11 : decode cX6_master 11 = .ok (.ifCond .eq 5, 3) := by decide +kernel
theorem dX6_master_14 : decode cX6_master 14 = .ok (.iconst (-1), 1) := by decide +kernel
theorem dX6_master_15 : decode cX6_master 15 = .ok (.ireturn, 1) := by decide +kernel
theorem dX6_master_16 : decode cX6_master 16 = .ok (.aload_n 0, 1) := by decide +kernel
theorem dX6_master_17 : decode cX6_master 17 = .ok (.getfield 121, 3) := by decide +kernel
theorem dX6_master_20 : decode cX6_master 20 = .ok (.ifCond .eq 12, 3) := by decide +kernel
theorem dX6_master_23 : decode cX6_master 23 = .ok (.aload_n 0, 1) := by decide +kernel
theorem dX6_master_24 : decode cX6_master 24 = .ok (.getfield 87, 3) := by decide +kernel
theorem dX6_master_27 : decode cX6_master 27 = .ok (.iload_n 1, 1) := by decide +kernel
theorem dX6_master_28 : decode cX6_master 28 = .ok (.iaload, 1) := by decide +kernel
theorem dX6_master_29 : decode cX6_master 29 = .ok (.goto 5, 3) := by decide +kernel
theorem dX6_master_32 : decode cX6_master 32 = .ok (.bipush (-4), 2) := by decide +kernel
theorem dX6_master_34 : decode cX6_master 34 = .ok (.ireturn, 1) := by decide +kernel
theorem dX6_share_0 : decode cX6_share 0 = .ok (.iload_n 1, 1) := by decide +kernel
theorem dX6_share_1 : decode cX6_share 1 = .ok (.bipush (-4), 2) := by decide +kernel
theorem dX6_share_3 : decode cX6_share 3 = .ok (.if_icmp .eq 13, 3) := by decide +kernel
theorem dX6_share_6 : decode cX6_share 6 = .ok (.aload_n 0, 1) := by decide +kernel
theorem dX6_share_7 : decode cX6_share 7 = .ok (.iload_n 1, 1) := by decide +kernel
theorem dX6_share_8 : decode cX6_share 8 = .ok (.invokevirtual 148, 3) := by decide +kernel
theorem dX6_share_11 : decode cX6_share 11 = .ok (.ifCond .eq 5, 3) := by decide +kernel
theorem dX6_share_14 : decode cX6_share 14 = .ok (.iconst (-1), 1) := by decide +kernel
theorem dX6_share_15 : decode cX6_share 15 = .ok (.ireturn, 1) := by decide +kernel
theorem dX6_share_16 : decode cX6_share 16 = .ok (.aload_n 0, 1) := by decide +kernel
theorem dX6_share_17 : decode cX6_share 17 = .ok (.getfield 117, 3) := by decide +kernel
theorem dX6_share_20 : decode cX6_share 20 = .ok (.ifCond .ne 6, 3) := by decide +kernel
theorem dX6_share_23 : decode cX6_share 23 = .ok (.bipush (-4), 2) := by decide +kernel
theorem dX6_share_25 : decode cX6_share 25 = .ok (.ireturn, 1) := by decide +kernel
theorem dX6_share_26 : decode cX6_share 26 = .ok (.iload_n 1, 1) := by decide +kernel
theorem dX6_share_27 : decode cX6_share 27 = .ok (.bipush (-4), 2) := by decide +kernel
theorem dX6_share_29 : decode cX6_share 29 = .ok (.if_icmp .ne 12, 3) := by decide +kernel
theorem dX6_share_32 : decode cX6_share 32 = .ok (.aload_n 0, 1) := by decide +kernel
theorem dX6_share_33 : decode cX6_share 33 = .ok (.aload_n 0, 1) := by decide +kernel
theorem dX6_share_34 : decode cX6_share 34 = .ok (.getfield 84, 3) := by decide +kernel
theorem dX6_share_37 : decode cX6_share 37 = .ok (.invokevirtual 183, 3) := by decide +kernel
theorem dX6_share_40 : decode cX6_share 40 = .ok (.ireturn, 1) := by decide +kernel
theorem dX6_share_41 : decode cX6_share 41 = .ok (.iconst 0, 1) := by decide +kernel
theorem dX6_share_42 : decode cX6_share 42 = .ok (.istore_n 2, 1) := by decide +kernel
theorem dX6_share_43 : decode cX6_share 43 = .ok (.iconst 0, 1) := by decide +kernel
theorem dX6_share_44 : decode cX6_share 44 = .ok (.istore_n 3, 1) := by decide +kernel
theorem dX6_share_45 : decode cX6_share 45 = .ok (.iload_n 3, 1) := by decide +kernel
theorem dX6_share_46 : decode cX6_share 46 = .ok (.aload_n 0, 1) := by decide +kernel
theorem dX6_share_47 : decode cX6_share 47 = .ok (.getfield 23, 3) := by decide +kernel
theorem dX6_share_50 : decode cX6_share 50 = .ok (.if_icmp .ge 34, 3) := by decide +kernel
theorem dX6_share_53 : decode cX6_share 53 = .ok (.iload_n 2, 1) := by decide +kernel
theorem dX6_share_54 : decode cX6_share 54 = .ok (.aload_n 0, 1) := by decide +kernel
theorem dX6_share_55 : decode cX6_share 55 = .ok (.getfield 27, 3) := by decide +kernel
theorem dX6_share_58 : decode cX6_share 58 = .ok (.iload_n 3, 1) := by decide +kernel
theorem dX6_share_59 : decode cX6_share 59 = .ok (.iaload, 1) := by decide +kernel
theorem dX6_share_60 : decode cX6_share 60 = .ok (.aload_n 0, 1) := by decide +kernel
theorem dX6_share_61 : decode cX6_share 61 = .ok (.iload_n 1, 1) := by decide +kernel
theorem dX6_share_62 : decode cX6_share 62 = .ok (.aload_n 0, 1) := by decide +kernel
theorem dX6_share_63 : decode cX6_share 63 = .ok (.iload_n 1, 1) := by decide +kernel
theorem dX6_share_64 : decode cX6_share 64 = .ok (.aload_n 0, 1) := by decide +kernel
theorem dX6_share_65 : decode cX6_share 65 = .ok (.getfield 84, 3) := by decide +kernel
theorem dX6_share_68 : decode cX6_share 68 = .ok (.invokevirtual 187, 3) := by decide +kernel
theorem dX6_share_71 : decode cX6_share 71 = .ok (.iload_n 3, 1) := by decide +kernel
theorem dX6_share_72 : decode cX6_share 72 = .ok (.invokevirtual 171, 3) := by decide +kernel
theorem dX6_share_75 : decode cX6_share 75 = .ok (.imul, 1) := by decide +kernel
theorem dX6_share_76 : decode cX6_share 76 = .ok (.iadd, 1) := by decide +kernel
theorem dX6_share_77 : decode cX6_share 77 = .ok (.istore_n 2, 1) := by decide +kernel
theorem dX6_share_78 : decode cX6_share 78 = .ok (.iinc 3 1, 3) := by decide +kernel
theorem dX6_share_81 : decode cX6_share 81 = .ok (.goto (-36), 3) := by decide +kernel
theorem dX6_share_84 : decode cX6_share 84 = .ok (.iload_n 2, 1) := by decide +kernel
theorem dX6_share_85 : decode cX6_share 85 = .ok (.ireturn, 1) := by decide +kernel
theorem dX6_ask_0 : decode cX6_ask 0 = .ok (.aload_n 0, 1) := by decide +kernel
theorem dX6_ask_1 : decode cX6_ask 1 = .ok (.iload_n 1, 1) := by decide +kernel
theorem dX6_ask_2 : decode cX6_ask 2 = .ok (.iload_n 2, 1) := by decide +kernel
theorem dX6_ask_3 : decode cX6_ask 3 = .ok (.invokevirtual 137, 3) := by decide +kernel
theorem dX6_ask_6 : decode cX6_ask 6 = .ok (.ifCond .eq 5, 3) := by decide +kernel
theorem dX6_ask_9 : decode cX6_ask 9 = .ok (.iconst (-1), 1) := by decide +kernel
theorem dX6_ask_10 : decode cX6_ask 10 = .ok (.ireturn, 1) := by decide +kernel
theorem dX6_ask_11 : decode cX6_ask 11 = .ok (.aload_n 0, 1) := by decide +kernel
theorem dX6_ask_12 : decode cX6_ask 12 = .ok (.getfield 20, 3) := by decide +kernel
theorem dX6_ask_15 : decode cX6_ask 15 = .ok (.iload_n 1, 1) := by decide +kernel
theorem dX6_ask_16 : decode cX6_ask 16 = .ok (.iaload, 1) := by decide +kernel
theorem dX6_ask_17 : decode cX6_ask 17 = .ok (.istore_n 3, 1) := by decide +kernel
theorem dX6_ask_18 : decode cX6_ask 18 = .ok (.aload_n 0, 1) := by decide +kernel
theorem dX6_ask_19 : decode cX6_ask 19 = .ok (.getfield 20, 3) := by decide +kernel
theorem dX6_ask_22 : decode cX6_ask 22 = .ok (.iload_n 1, 1) := by decide +kernel
theorem dX6_ask_23 : decode cX6_ask 23 = .ok (.iload_n 2, 1) := by decide +kernel
theorem dX6_ask_24 : decode cX6_ask 24 = .ok (.iastore, 1) := by decide +kernel
theorem dX6_ask_25 : decode cX6_ask 25 = .ok (.iload_n 3, 1) := by decide +kernel
theorem dX6_ask_26 : decode cX6_ask 26 = .ok (.ireturn, 1) := by decide +kernel
theorem dX6_answer_0 : decode cX6_answer 0 = .ok (.aload_n 0, 1) := by decide +kernel
theorem dX6_answer_1 : decode cX6_answer 1 = .ok (.iload_n 1, 1) := by decide +kernel
theorem dX6_answer_2 : decode cX6_answer 2 = .ok (.invokevirtual 148, 3) := by decide +kernel
theorem dX6_answer_5 : decode cX6_answer 5 = .ok (.ifCond .ne 11, 3) := by decide +kernel
theorem dX6_answer_8 : decode cX6_answer 8 = .ok (.aload_n 0, 1) := by decide +kernel
theorem dX6_answer_9 : decode cX6_answer 9 = .ok (.iload_n 2, 1) := by decide +kernel
theorem dX6_answer_10 : decode cX6_answer 10 = .ok (.invokevirtual 144, 3) := by decide +kernel
theorem dX6_answer_13 : decode cX6_answer 13 = .ok (.ifCond .eq 5, 3) := by decide +kernel
theorem dX6_answer_16 : decode cX6_answer 16 = .ok (.iconst (-1), 1) := by decide +kernel
theorem dX6_answer_17 : decode cX6_answer 17 = .ok (.ireturn, 1) := by decide +kernel
theorem dX6_answer_18 : decode cX6_answer 18 = .ok (.aload_n 0, 1) := by decide +kernel
theorem dX6_answer_19 : decode cX6_answer 19 = .ok (.iload_n 1, 1) := by decide +kernel
theorem dX6_answer_20 : decode cX6_answer 20 = .ok (.aload_n 0, 1) := by decide +kernel
theorem dX6_answer_21 : decode cX6_answer 21 = .ok (.iload_n 1, 1) := by decide +kernel
theorem dX6_answer_22 : decode cX6_answer 22 = .ok (.aload_n 0, 1) := by decide +kernel
theorem dX6_answer_23 : decode cX6_answer 23 = .ok (.getfield 20, 3) := by decide +kernel
theorem dX6_answer_26 : decode cX6_answer 26 = .ok (.invokevirtual 187, 3) := by decide +kernel
theorem dX6_answer_29 : decode cX6_answer 29 = .ok (.iload_n 2, 1) := by decide +kernel
theorem dX6_answer_30 : decode cX6_answer 30 = .ok (.invokevirtual 171, 3) := by decide +kernel
theorem dX6_answer_33 : decode cX6_answer 33 = .ok (.ireturn, 1) := by decide +kernel
theorem dX6_unit_0 : decode cX6_unit 0 = .ok (.aload_n 0, 1) := by decide +kernel
theorem dX6_unit_1 : decode cX6_unit 1 = .ok (.iload_n 1, 1) := by decide +kernel
theorem dX6_unit_2 : decode cX6_unit 2 = .ok (.invokevirtual 148, 3) := by decide +kernel
theorem dX6_unit_5 : decode cX6_unit 5 = .ok (.ifCond .ne 27, 3) := by decide +kernel
theorem dX6_unit_8 : decode cX6_unit 8 = .ok (.aload_n 0, 1) := by decide +kernel
theorem dX6_unit_9 : decode cX6_unit 9 = .ok (.iload_n 2, 1) := by decide +kernel
theorem dX6_unit_10 : decode cX6_unit 10 = .ok (.invokevirtual 144, 3) := by decide +kernel
theorem dX6_unit_13 : decode cX6_unit 13 = .ok (.ifCond .ne 19, 3) := by decide +kernel
theorem dX6_unit_16 : decode cX6_unit 16 = .ok (.iload_n 3, 1) := by decide +kernel
theorem dX6_unit_17 : decode cX6_unit 17 = .ok (.iconst 0, 1) := by decide +kernel
theorem dX6_unit_18 : decode cX6_unit 18 = .ok (.aload_n 0, 1) := by decide +kernel
theorem dX6_unit_19 : decode cX6_unit 19 = .ok (.getfield 36, 3) := by decide +kernel
theorem dX6_unit_22 : decode cX6_unit 22 = .ok (.iload_n 1, 1) := by decide +kernel
theorem dX6_unit_23 : decode cX6_unit 23 = .ok (.iaload, 1) := by decide +kernel
theorem dX6_unit_24 : decode cX6_unit 24 = .ok (.iconst 1, 1) := by decide +kernel
theorem dX6_unit_25 : decode cX6_unit 25 = .ok (.isub, 1) := by decide +kernel
theorem dX6_unit_26 : decode cX6_unit 26 = .ok (.invokestatic 130, 3) := by decide +kernel
theorem dX6_unit_29 : decode cX6_unit 29 = .ok (.ifCond .eq 5, 3) := by decide +kernel
theorem dX6_unit_32 : decode cX6_unit 32 = .ok (.iconst (-1), 1) := by decide +kernel
theorem dX6_unit_33 : decode cX6_unit 33 = .ok (.ireturn, 1) := by decide +kernel
theorem dX6_unit_34 : decode cX6_unit 34 = .ok (.aload_n 0, 1) := by decide +kernel
theorem dX6_unit_35 : decode cX6_unit 35 = .ok (.iload_n 1, 1) := by decide +kernel
theorem dX6_unit_36 : decode cX6_unit 36 = .ok (.aload_n 0, 1) := by decide +kernel
theorem dX6_unit_37 : decode cX6_unit 37 = .ok (.iload_n 1, 1) := by decide +kernel
theorem dX6_unit_38 : decode cX6_unit 38 = .ok (.aload_n 0, 1) := by decide +kernel
theorem dX6_unit_39 : decode cX6_unit 39 = .ok (.getfield 20, 3) := by decide +kernel
theorem dX6_unit_42 : decode cX6_unit 42 = .ok (.invokevirtual 187, 3) := by decide +kernel
theorem dX6_unit_45 : decode cX6_unit 45 = .ok (.iload_n 2, 1) := by decide +kernel
theorem dX6_unit_46 : decode cX6_unit 46 = .ok (.invokevirtual 171, 3) := by decide +kernel
theorem dX6_unit_49 : decode cX6_unit 49 = .ok (.istore 4, 2) := by decide +kernel
theorem dX6_unit_51 : decode cX6_unit 51 = .ok (.iload 4, 2) := by decide +kernel
theorem dX6_unit_53 : decode cX6_unit 53 = .ok (.bipush (-4), 2) := by decide +kernel
theorem dX6_unit_55 : decode cX6_unit 55 = .ok (.if_icmp .ne 8, 3) := by decide +kernel
theorem dX6_unit_58 : decode cX6_unit 58 = .ok (.bipush (-4), 2) := by decide +kernel
theorem dX6_unit_60 : decode cX6_unit 60 = .ok (.goto 9, 3) := by decide +kernel
theorem dX6_unit_63 : decode cX6_unit 63 = .ok (.aload_n 0, 1) := by decide +kernel
theorem dX6_unit_64 : decode cX6_unit 64 = .ok (.getfield 96, 3) := by decide +kernel
theorem dX6_unit_67 : decode cX6_unit 67 = .ok (.iload_n 3, 1) := by decide +kernel
theorem dX6_unit_68 : decode cX6_unit 68 = .ok (.iaload, 1) := by decide +kernel
theorem dX6_unit_69 : decode cX6_unit 69 = .ok (.ireturn, 1) := by decide +kernel
theorem dX6_cut_0 : decode cX6_cut 0 = .ok (.iload_n 1, 1) := by decide +kernel
theorem dX6_cut_1 : decode cX6_cut 1 = .ok (.iconst 0, 1) := by decide +kernel
theorem dX6_cut_2 : decode cX6_cut 2 = .ok (.aload_n 0, 1) := by decide +kernel
theorem dX6_cut_3 : decode cX6_cut 3 = .ok (.getfield 124, 3) := by decide +kernel
theorem dX6_cut_6 : decode cX6_cut 6 = .ok (.iconst 1, 1) := by decide +kernel
theorem dX6_cut_7 : decode cX6_cut 7 = .ok (.isub, 1) := by decide +kernel
theorem dX6_cut_8 : decode cX6_cut 8 = .ok (.invokestatic 130, 3) := by decide +kernel
theorem dX6_cut_11 : decode cX6_cut 11 = .ok (.ifCond .eq 5, 3) := by decide +kernel
theorem dX6_cut_14 : decode cX6_cut 14 = .ok (.iconst (-1), 1) := by decide +kernel
theorem dX6_cut_15 : decode cX6_cut 15 = .ok (.ireturn, 1) := by decide +kernel
theorem dX6_cut_16 : decode cX6_cut 16 = .ok (.iload_n 2, 1) := by decide +kernel
theorem dX6_cut_17 : decode cX6_cut 17 = .ok (.tableswitch 127 0 6 #[43, 58, 65, 72, 79, 86, 93], 43) := by decide +kernel
theorem dX6_cut_60 : decode cX6_cut 60 = .ok (.aload_n 0, 1) := by decide +kernel
theorem dX6_cut_61 : decode cX6_cut 61 = .ok (.getfield 60, 3) := by decide +kernel
theorem dX6_cut_64 : decode cX6_cut 64 = .ok (.iload_n 1, 1) := by decide +kernel
theorem dX6_cut_65 : decode cX6_cut 65 = .ok (.baload, 1) := by decide +kernel
theorem dX6_cut_66 : decode cX6_cut 66 = .ok (.ifCond .eq 7, 3) := by decide +kernel
theorem dX6_cut_69 : decode cX6_cut 69 = .ok (.iconst 1, 1) := by decide +kernel
theorem dX6_cut_70 : decode cX6_cut 70 = .ok (.goto 4, 3) := by decide +kernel
theorem dX6_cut_73 : decode cX6_cut 73 = .ok (.iconst 0, 1) := by decide +kernel
theorem dX6_cut_74 : decode cX6_cut 74 = .ok (.ireturn, 1) := by decide +kernel
theorem dX6_cut_75 : decode cX6_cut 75 = .ok (.aload_n 0, 1) := by decide +kernel
theorem dX6_cut_76 : decode cX6_cut 76 = .ok (.getfield 63, 3) := by decide +kernel
theorem dX6_cut_79 : decode cX6_cut 79 = .ok (.iload_n 1, 1) := by decide +kernel
theorem dX6_cut_80 : decode cX6_cut 80 = .ok (.iaload, 1) := by decide +kernel
theorem dX6_cut_81 : decode cX6_cut 81 = .ok (.ireturn, 1) := by decide +kernel
theorem dX6_cut_82 : decode cX6_cut 82 = .ok (.aload_n 0, 1) := by decide +kernel
theorem dX6_cut_83 : decode cX6_cut 83 = .ok (.getfield 66, 3) := by decide +kernel
theorem dX6_cut_86 : decode cX6_cut 86 = .ok (.iload_n 1, 1) := by decide +kernel
theorem dX6_cut_87 : decode cX6_cut 87 = .ok (.iaload, 1) := by decide +kernel
theorem dX6_cut_88 : decode cX6_cut 88 = .ok (.ireturn, 1) := by decide +kernel
theorem dX6_cut_89 : decode cX6_cut 89 = .ok (.aload_n 0, 1) := by decide +kernel
theorem dX6_cut_90 : decode cX6_cut 90 = .ok (.getfield 69, 3) := by decide +kernel
theorem dX6_cut_93 : decode cX6_cut 93 = .ok (.iload_n 1, 1) := by decide +kernel
theorem dX6_cut_94 : decode cX6_cut 94 = .ok (.iaload, 1) := by decide +kernel
theorem dX6_cut_95 : decode cX6_cut 95 = .ok (.ireturn, 1) := by decide +kernel
theorem dX6_cut_96 : decode cX6_cut 96 = .ok (.aload_n 0, 1) := by decide +kernel
theorem dX6_cut_97 : decode cX6_cut 97 = .ok (.getfield 75, 3) := by decide +kernel
theorem dX6_cut_100 : decode cX6_cut 100 = .ok (.iload_n 1, 1) := by decide +kernel
theorem dX6_cut_101 : decode cX6_cut 101 = .ok (.iaload, 1) := by decide +kernel
theorem dX6_cut_102 : decode cX6_cut 102 = .ok (.ireturn, 1) := by decide +kernel
theorem dX6_cut_103 : decode cX6_cut 103 = .ok (.aload_n 0, 1) := by decide +kernel
theorem dX6_cut_104 : decode cX6_cut 104 = .ok (.getfield 72, 3) := by decide +kernel
theorem dX6_cut_107 : decode cX6_cut 107 = .ok (.iload_n 1, 1) := by decide +kernel
theorem dX6_cut_108 : decode cX6_cut 108 = .ok (.iaload, 1) := by decide +kernel
theorem dX6_cut_109 : decode cX6_cut 109 = .ok (.ireturn, 1) := by decide +kernel
theorem dX6_cut_110 : decode cX6_cut 110 = .ok (.aload_n 0, 1) := by decide +kernel
theorem dX6_cut_111 : decode cX6_cut 111 = .ok (.iload_n 1, 1) := by decide +kernel
theorem dX6_cut_112 : decode cX6_cut 112 = .ok (.aload_n 0, 1) := by decide +kernel
theorem dX6_cut_113 : decode cX6_cut 113 = .ok (.getfield 63, 3) := by decide +kernel
theorem dX6_cut_116 : decode cX6_cut 116 = .ok (.iload_n 1, 1) := by decide +kernel
theorem dX6_cut_117 : decode cX6_cut 117 = .ok (.iaload, 1) := by decide +kernel
theorem dX6_cut_118 : decode cX6_cut 118 = .ok (.aload_n 0, 1) := by decide +kernel
theorem dX6_cut_119 : decode cX6_cut 119 = .ok (.aload_n 0, 1) := by decide +kernel
theorem dX6_cut_120 : decode cX6_cut 120 = .ok (.getfield 63, 3) := by decide +kernel
theorem dX6_cut_123 : decode cX6_cut 123 = .ok (.iload_n 1, 1) := by decide +kernel
theorem dX6_cut_124 : decode cX6_cut 124 = .ok (.iaload, 1) := by decide +kernel
theorem dX6_cut_125 : decode cX6_cut 125 = .ok (.aload_n 0, 1) := by decide +kernel
theorem dX6_cut_126 : decode cX6_cut 126 = .ok (.getfield 20, 3) := by decide +kernel
theorem dX6_cut_129 : decode cX6_cut 129 = .ok (.invokevirtual 187, 3) := by decide +kernel
theorem dX6_cut_132 : decode cX6_cut 132 = .ok (.invokevirtual 168, 3) := by decide +kernel
theorem dX6_cut_135 : decode cX6_cut 135 = .ok (.ifCond .eq 7, 3) := by decide +kernel
theorem dX6_cut_138 : decode cX6_cut 138 = .ok (.iconst 1, 1) := by decide +kernel
theorem dX6_cut_139 : decode cX6_cut 139 = .ok (.goto 4, 3) := by decide +kernel
theorem dX6_cut_142 : decode cX6_cut 142 = .ok (.iconst 0, 1) := by decide +kernel
theorem dX6_cut_143 : decode cX6_cut 143 = .ok (.ireturn, 1) := by decide +kernel
theorem dX6_cut_144 : decode cX6_cut 144 = .ok (.bipush (-2), 2) := by decide +kernel
theorem dX6_cut_146 : decode cX6_cut 146 = .ok (.ireturn, 1) := by decide +kernel
theorem dX6_reason_0 : decode cX6_reason 0 = .ok (.iload_n 1, 1) := by decide +kernel
theorem dX6_reason_1 : decode cX6_reason 1 = .ok (.iconst 0, 1) := by decide +kernel
theorem dX6_reason_2 : decode cX6_reason 2 = .ok (.aload_n 0, 1) := by decide +kernel
theorem dX6_reason_3 : decode cX6_reason 3 = .ok (.getfield 124, 3) := by decide +kernel
theorem dX6_reason_6 : decode cX6_reason 6 = .ok (.iconst 1, 1) := by decide +kernel
theorem dX6_reason_7 : decode cX6_reason 7 = .ok (.isub, 1) := by decide +kernel
theorem dX6_reason_8 : decode cX6_reason 8 = .ok (.invokestatic 130, 3) := by decide +kernel
theorem dX6_reason_11 : decode cX6_reason 11 = .ok (.ifCond .eq 5, 3) := by decide +kernel
theorem dX6_reason_14 : decode cX6_reason 14 = .ok (.iconst (-1), 1) := by decide +kernel
theorem dX6_reason_15 : decode cX6_reason 15 = .ok (.ireturn, 1) := by decide +kernel
theorem dX6_reason_16 : decode cX6_reason 16 = .ok (.iload_n 2, 1) := by decide +kernel
theorem dX6_reason_17 : decode cX6_reason 17 = .ok (.iconst 0, 1) := by decide +kernel
theorem dX6_reason_18 : decode cX6_reason 18 = .ok (.aload_n 0, 1) := by decide +kernel
theorem dX6_reason_19 : decode cX6_reason 19 = .ok (.getfield 75, 3) := by decide +kernel
theorem dX6_reason_22 : decode cX6_reason 22 = .ok (.iload_n 1, 1) := by decide +kernel
theorem dX6_reason_23 : decode cX6_reason 23 = .ok (.iaload, 1) := by decide +kernel
theorem dX6_reason_24 : decode cX6_reason 24 = .ok (.iconst 1, 1) := by decide +kernel
theorem dX6_reason_25 : decode cX6_reason 25 = .ok (.isub, 1) := by decide +kernel
theorem dX6_reason_26 : decode cX6_reason 26 = .ok (.invokestatic 130, 3) := by decide +kernel
theorem dX6_reason_29 : decode cX6_reason 29 = .ok (.ifCond .eq 8, 3) := by decide +kernel
theorem dX6_reason_32 : decode cX6_reason 32 = .ok (.bipush (-4), 2) := by decide +kernel
theorem dX6_reason_34 : decode cX6_reason 34 = .ok (.goto 27, 3) := by decide +kernel
theorem dX6_reason_37 : decode cX6_reason 37 = .ok (.bipush 10, 2) := by decide +kernel
theorem dX6_reason_39 : decode cX6_reason 39 = .ok (.aload_n 0, 1) := by decide +kernel
theorem dX6_reason_40 : decode cX6_reason 40 = .ok (.getfield 78, 3) := by decide +kernel
theorem dX6_reason_43 : decode cX6_reason 43 = .ok (.iconst 3, 1) := by decide +kernel
theorem dX6_reason_44 : decode cX6_reason 44 = .ok (.iload_n 1, 1) := by decide +kernel
theorem dX6_reason_45 : decode cX6_reason 45 = .ok (.imul, 1) := by decide +kernel
theorem dX6_reason_46 : decode cX6_reason 46 = .ok (.iload_n 2, 1) := by decide +kernel
theorem dX6_reason_47 : decode cX6_reason 47 = .ok (.iadd, 1) := by decide +kernel
theorem dX6_reason_48 : decode cX6_reason 48 = .ok (.iaload, 1) := by decide +kernel
theorem dX6_reason_49 : decode cX6_reason 49 = .ok (.imul, 1) := by decide +kernel
theorem dX6_reason_50 : decode cX6_reason 50 = .ok (.aload_n 0, 1) := by decide +kernel
theorem dX6_reason_51 : decode cX6_reason 51 = .ok (.getfield 81, 3) := by decide +kernel
theorem dX6_reason_54 : decode cX6_reason 54 = .ok (.iconst 3, 1) := by decide +kernel
theorem dX6_reason_55 : decode cX6_reason 55 = .ok (.iload_n 1, 1) := by decide +kernel
theorem dX6_reason_56 : decode cX6_reason 56 = .ok (.imul, 1) := by decide +kernel
theorem dX6_reason_57 : decode cX6_reason 57 = .ok (.iload_n 2, 1) := by decide +kernel
theorem dX6_reason_58 : decode cX6_reason 58 = .ok (.iadd, 1) := by decide +kernel
theorem dX6_reason_59 : decode cX6_reason 59 = .ok (.iaload, 1) := by decide +kernel
theorem dX6_reason_60 : decode cX6_reason 60 = .ok (.iadd, 1) := by decide +kernel
theorem dX6_reason_61 : decode cX6_reason 61 = .ok (.ireturn, 1) := by decide +kernel
theorem dX6_judge_0 : decode cX6_judge 0 = .ok (.iconst 0, 1) := by decide +kernel
theorem dX6_judge_1 : decode cX6_judge 1 = .ok (.istore_n 1, 1) := by decide +kernel
theorem dX6_judge_2 : decode cX6_judge 2 = .ok (.iload_n 1, 1) := by decide +kernel
theorem dX6_judge_3 : decode cX6_judge 3 = .ok (.aload_n 0, 1) := by decide +kernel
theorem dX6_judge_4 : decode cX6_judge 4 = .ok (.getfield 141, 3) := by decide +kernel
theorem dX6_judge_7 : decode cX6_judge 7 = .ok (.if_icmp .ge 75, 3) := by decide +kernel
theorem dX6_judge_10 : decode cX6_judge 10 = .ok (.iconst 0, 1) := by decide +kernel
theorem dX6_judge_11 : decode cX6_judge 11 = .ok (.istore_n 2, 1) := by decide +kernel
theorem dX6_judge_12 : decode cX6_judge 12 = .ok (.iload_n 2, 1) := by decide +kernel
theorem dX6_judge_13 : decode cX6_judge 13 = .ok (.aload_n 0, 1) := by decide +kernel
theorem dX6_judge_14 : decode cX6_judge 14 = .ok (.getfield 23, 3) := by decide +kernel
theorem dX6_judge_17 : decode cX6_judge 17 = .ok (.if_icmp .ge 59, 3) := by decide +kernel
theorem dX6_judge_20 : decode cX6_judge 20 = .ok (.iconst 0, 1) := by decide +kernel
theorem dX6_judge_21 : decode cX6_judge 21 = .ok (.istore_n 3, 1) := by decide +kernel
theorem dX6_judge_22 : decode cX6_judge 22 = .ok (.iload_n 3, 1) := by decide +kernel
theorem dX6_judge_23 : decode cX6_judge 23 = .ok (.bipush 64, 2) := by decide +kernel
theorem dX6_judge_25 : decode cX6_judge 25 = .ok (.if_icmp .ge 45, 3) := by decide +kernel
theorem dX6_judge_28 : decode cX6_judge 28 = .ok (.aload_n 0, 1) := by decide +kernel
theorem dX6_judge_29 : decode cX6_judge 29 = .ok (.getfield 108, 3) := by decide +kernel
theorem dX6_judge_32 : decode cX6_judge 32 = .ok (.bipush 64, 2) := by decide +kernel
theorem dX6_judge_34 : decode cX6_judge 34 = .ok (.iconst 4, 1) := by decide +kernel
theorem dX6_judge_35 : decode cX6_judge 35 = .ok (.iload_n 1, 1) := by decide +kernel
theorem dX6_judge_36 : decode cX6_judge 36 = .ok (.imul, 1) := by decide +kernel
theorem dX6_judge_37 : decode cX6_judge 37 = .ok (.iload_n 2, 1) := by decide +kernel
theorem dX6_judge_38 : decode cX6_judge 38 = .ok (.iadd, 1) := by decide +kernel
theorem dX6_judge_39 : decode cX6_judge 39 = .ok (.imul, 1) := by decide +kernel
theorem dX6_judge_40 : decode cX6_judge 40 = .ok (.iload_n 3, 1) := by decide +kernel
theorem dX6_judge_41 : decode cX6_judge 41 = .ok (.iadd, 1) := by decide +kernel
theorem dX6_judge_42 : decode cX6_judge 42 = .ok (.aload_n 0, 1) := by decide +kernel
theorem dX6_judge_43 : decode cX6_judge 43 = .ok (.iload_n 1, 1) := by decide +kernel
theorem dX6_judge_44 : decode cX6_judge 44 = .ok (.iload_n 3, 1) := by decide +kernel
theorem dX6_judge_45 : decode cX6_judge 45 = .ok (.invokevirtual 165, 3) := by decide +kernel
theorem dX6_judge_48 : decode cX6_judge 48 = .ok (.ifCond .eq 13, 3) := by decide +kernel
theorem dX6_judge_51 : decode cX6_judge 51 = .ok (.aload_n 0, 1) := by decide +kernel
theorem dX6_judge_52 : decode cX6_judge 52 = .ok (.iload_n 1, 1) := by decide +kernel
theorem dX6_judge_53 : decode cX6_judge 53 = .ok (.iload_n 3, 1) := by decide +kernel
theorem dX6_judge_54 : decode cX6_judge 54 = .ok (.iload_n 2, 1) := by decide +kernel
theorem dX6_judge_55 : decode cX6_judge 55 = .ok (.invokevirtual 171, 3) := by decide +kernel
theorem dX6_judge_58 : decode cX6_judge 58 = .ok (.goto 5, 3) := by decide +kernel
theorem dX6_judge_61 : decode cX6_judge 61 = .ok (.bipush (-4), 2) := by decide +kernel
theorem dX6_judge_63 : decode cX6_judge 63 = .ok (.iastore, 1) := by decide +kernel
theorem dX6_judge_64 : decode cX6_judge 64 = .ok (.iinc 3 1, 3) := by decide +kernel
theorem dX6_judge_67 : decode cX6_judge 67 = .ok (.goto (-45), 3) := by decide +kernel
theorem dX6_judge_70 : decode cX6_judge 70 = .ok (.iinc 2 1, 3) := by decide +kernel
theorem dX6_judge_73 : decode cX6_judge 73 = .ok (.goto (-61), 3) := by decide +kernel
theorem dX6_judge_76 : decode cX6_judge 76 = .ok (.iinc 1 1, 3) := by decide +kernel
theorem dX6_judge_79 : decode cX6_judge 79 = .ok (.goto (-77), 3) := by decide +kernel
theorem dX6_judge_82 : decode cX6_judge 82 = .ok (.bipush (-4), 2) := by decide +kernel
theorem dX6_judge_84 : decode cX6_judge 84 = .ok (.istore_n 1, 1) := by decide +kernel
theorem dX6_judge_85 : decode cX6_judge 85 = .ok (.aload_n 0, 1) := by decide +kernel
theorem dX6_judge_86 : decode cX6_judge 86 = .ok (.invokevirtual 194, 3) := by decide +kernel
theorem dX6_judge_89 : decode cX6_judge 89 = .ok (.iconst 1, 1) := by decide +kernel
theorem dX6_judge_90 : decode cX6_judge 90 = .ok (.istore_n 2, 1) := by decide +kernel
theorem dX6_judge_91 : decode cX6_judge 91 = .ok (.iload_n 2, 1) := by decide +kernel
theorem dX6_judge_92 : decode cX6_judge 92 = .ok (.ifCond .eq 133, 3) := by decide +kernel
theorem dX6_judge_95 : decode cX6_judge 95 = .ok (.aload_n 0, 1) := by decide +kernel
theorem dX6_judge_96 : decode cX6_judge 96 = .ok (.aload_n 0, 1) := by decide +kernel
theorem dX6_judge_97 : decode cX6_judge 97 = .ok (.getfield 105, 3) := by decide +kernel
theorem dX6_judge_100 : decode cX6_judge 100 = .ok (.invokevirtual 183, 3) := by decide +kernel
theorem dX6_judge_103 : decode cX6_judge 103 = .ok (.istore_n 3, 1) := by decide +kernel
theorem dX6_judge_104 : decode cX6_judge 104 = .ok (.iconst 0, 1) := by decide +kernel
theorem dX6_judge_105 : decode cX6_judge 105 = .ok (.istore 4, 2) := by decide +kernel
theorem dX6_judge_107 : decode cX6_judge 107 = .ok (.iload 4, 2) := by decide +kernel
theorem dX6_judge_109 : decode cX6_judge 109 = .ok (.aload_n 0, 1) := by decide +kernel
theorem dX6_judge_110 : decode cX6_judge 110 = .ok (.getfield 141, 3) := by decide +kernel
theorem dX6_judge_113 : decode cX6_judge 113 = .ok (.if_icmp .ge 87, 3) := by decide +kernel
theorem dX6_judge_116 : decode cX6_judge 116 = .ok (.iload_n 3, 1) := by decide +kernel
theorem dX6_judge_117 : decode cX6_judge 117 = .ok (.ifCond .lt 83, 3) := by decide +kernel
theorem dX6_judge_120 : decode cX6_judge 120 = .ok (.iconst 0, 1) := by decide +kernel
theorem dX6_judge_121 : decode cX6_judge 121 = .ok (.istore 5, 2) := by decide +kernel
theorem dX6_judge_123 : decode cX6_judge 123 = .ok (.iload 5, 2) := by decide +kernel
theorem dX6_judge_125 : decode cX6_judge 125 = .ok (.aload_n 0, 1) := by decide +kernel
theorem dX6_judge_126 : decode cX6_judge 126 = .ok (.getfield 23, 3) := by decide +kernel
theorem dX6_judge_129 : decode cX6_judge 129 = .ok (.if_icmp .ge 65, 3) := by decide +kernel
theorem dX6_judge_132 : decode cX6_judge 132 = .ok (.iload_n 3, 1) := by decide +kernel
theorem dX6_judge_133 : decode cX6_judge 133 = .ok (.ifCond .lt 61, 3) := by decide +kernel
theorem dX6_judge_136 : decode cX6_judge 136 = .ok (.aload_n 0, 1) := by decide +kernel
theorem dX6_judge_137 : decode cX6_judge 137 = .ok (.getfield 108, 3) := by decide +kernel
theorem dX6_judge_140 : decode cX6_judge 140 = .ok (.bipush 64, 2) := by decide +kernel
theorem dX6_judge_142 : decode cX6_judge 142 = .ok (.iconst 4, 1) := by decide +kernel
theorem dX6_judge_143 : decode cX6_judge 143 = .ok (.iload 4, 2) := by decide +kernel
theorem dX6_judge_145 : decode cX6_judge 145 = .ok (.imul, 1) := by decide +kernel
theorem dX6_judge_146 : decode cX6_judge 146 = .ok (.iload 5, 2) := by decide +kernel
theorem dX6_judge_148 : decode cX6_judge 148 = .ok (.iadd, 1) := by decide +kernel
theorem dX6_judge_149 : decode cX6_judge 149 = .ok (.imul, 1) := by decide +kernel
theorem dX6_judge_150 : decode cX6_judge 150 = .ok (.aload_n 0, 1) := by decide +kernel
theorem dX6_judge_151 : decode cX6_judge 151 = .ok (.iload 4, 2) := by decide +kernel
theorem dX6_judge_153 : decode cX6_judge 153 = .ok (.aload_n 0, 1) := by decide +kernel
theorem dX6_judge_154 : decode cX6_judge 154 = .ok (.getfield 105, 3) := by decide +kernel
theorem dX6_judge_157 : decode cX6_judge 157 = .ok (.invokevirtual 187, 3) := by decide +kernel
theorem dX6_judge_160 : decode cX6_judge 160 = .ok (.iadd, 1) := by decide +kernel
theorem dX6_judge_161 : decode cX6_judge 161 = .ok (.iaload, 1) := by decide +kernel
theorem dX6_judge_162 : decode cX6_judge 162 = .ok (.istore 6, 2) := by decide +kernel
theorem dX6_judge_164 : decode cX6_judge 164 = .ok (.iload 6, 2) := by decide +kernel
theorem dX6_judge_166 : decode cX6_judge 166 = .ok (.bipush (-4), 2) := by decide +kernel
theorem dX6_judge_168 : decode cX6_judge 168 = .ok (.if_icmp .ne 7, 3) := by decide +kernel
theorem dX6_judge_171 : decode cX6_judge 171 = .ok (.iconst (-1), 1) := by decide +kernel
theorem dX6_judge_172 : decode cX6_judge 172 = .ok (.goto 15, 3) := by decide +kernel
theorem dX6_judge_175 : decode cX6_judge 175 = .ok (.iload_n 3, 1) := by decide +kernel
theorem dX6_judge_176 : decode cX6_judge 176 = .ok (.aload_n 0, 1) := by decide +kernel
theorem dX6_judge_177 : decode cX6_judge 177 = .ok (.getfield 27, 3) := by decide +kernel
theorem dX6_judge_180 : decode cX6_judge 180 = .ok (.iload 5, 2) := by decide +kernel
theorem dX6_judge_182 : decode cX6_judge 182 = .ok (.iaload, 1) := by decide +kernel
theorem dX6_judge_183 : decode cX6_judge 183 = .ok (.iload 6, 2) := by decide +kernel
theorem dX6_judge_185 : decode cX6_judge 185 = .ok (.imul, 1) := by decide +kernel
theorem dX6_judge_186 : decode cX6_judge 186 = .ok (.iadd, 1) := by decide +kernel
theorem dX6_judge_187 : decode cX6_judge 187 = .ok (.istore_n 3, 1) := by decide +kernel
theorem dX6_judge_188 : decode cX6_judge 188 = .ok (.iinc 5 1, 3) := by decide +kernel
theorem dX6_judge_191 : decode cX6_judge 191 = .ok (.goto (-68), 3) := by decide +kernel
theorem dX6_judge_194 : decode cX6_judge 194 = .ok (.iinc 4 1, 3) := by decide +kernel
theorem dX6_judge_197 : decode cX6_judge 197 = .ok (.goto (-90), 3) := by decide +kernel
theorem dX6_judge_200 : decode cX6_judge 200 = .ok (.iload_n 3, 1) := by decide +kernel
theorem dX6_judge_201 : decode cX6_judge 201 = .ok (.ifCond .lt 16, 3) := by decide +kernel
theorem dX6_judge_204 : decode cX6_judge 204 = .ok (.iload_n 1, 1) := by decide +kernel
theorem dX6_judge_205 : decode cX6_judge 205 = .ok (.bipush (-4), 2) := by decide +kernel
theorem dX6_judge_207 : decode cX6_judge 207 = .ok (.if_icmp .eq 8, 3) := by decide +kernel
theorem dX6_judge_210 : decode cX6_judge 210 = .ok (.iload_n 3, 1) := by decide +kernel
theorem dX6_judge_211 : decode cX6_judge 211 = .ok (.iload_n 1, 1) := by decide +kernel
theorem dX6_judge_212 : decode cX6_judge 212 = .ok (.if_icmp .ge 5, 3) := by decide +kernel
theorem dX6_judge_215 : decode cX6_judge 215 = .ok (.iload_n 3, 1) := by decide +kernel
theorem dX6_judge_216 : decode cX6_judge 216 = .ok (.istore_n 1, 1) := by decide +kernel
theorem dX6_judge_217 : decode cX6_judge 217 = .ok (.aload_n 0, 1) := by decide +kernel
theorem dX6_judge_218 : decode cX6_judge 218 = .ok (.invokevirtual 203, 3) := by decide +kernel
theorem dX6_judge_221 : decode cX6_judge 221 = .ok (.istore_n 2, 1) := by decide +kernel
theorem dX6_judge_222 : decode cX6_judge 222 = .ok (.goto (-131), 3) := by decide +kernel
theorem dX6_judge_225 : decode cX6_judge 225 = .ok (.iload_n 1, 1) := by decide +kernel
theorem dX6_judge_226 : decode cX6_judge 226 = .ok (.ireturn, 1) := by decide +kernel
