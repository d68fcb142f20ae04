/-! What stands at each place of the code, by program (wip/whole/gen/names.py). -/
theorem dM_init_0 : decode prog_9_method_1_code 0 = .ok (.aload_n 0, 1) := by decide +kernel
theorem dM_init_1 : decode prog_9_method_1_code 1 = .ok (.invokespecial 1, 3) := by decide +kernel
theorem dM_init_4 : decode prog_9_method_1_code 4 = .ok (.aload_n 0, 1) := by decide +kernel
theorem dM_init_5 : decode prog_9_method_1_code 5 = .ok (.sipush 5040, 3) := by decide +kernel
theorem dM_init_8 : decode prog_9_method_1_code 8 = .ok (.newarray .int, 2) := by decide +kernel
theorem dM_init_10 : decode prog_9_method_1_code 10 = .ok (.putfield 7, 3) := by decide +kernel
theorem dM_init_13 : decode prog_9_method_1_code 13 = .ok (.aload_n 0, 1) := by decide +kernel
theorem dM_init_14 : decode prog_9_method_1_code 14 = .ok (.sipush 128, 3) := by decide +kernel
theorem dM_init_17 : decode prog_9_method_1_code 17 = .ok (.newarray .int, 2) := by decide +kernel
theorem dM_init_19 : decode prog_9_method_1_code 19 = .ok (.putfield 13, 3) := by decide +kernel
theorem dM_init_22 : decode prog_9_method_1_code 22 = .ok (.aload_n 0, 1) := by decide +kernel
theorem dM_init_23 : decode prog_9_method_1_code 23 = .ok (.bipush 8, 2) := by decide +kernel
theorem dM_init_25 : decode prog_9_method_1_code 25 = .ok (.newarray .int, 2) := by decide +kernel
theorem dM_init_27 : decode prog_9_method_1_code 27 = .ok (.putfield 16, 3) := by decide +kernel
theorem dM_init_30 : decode prog_9_method_1_code 30 = .ok (.aload_n 0, 1) := by decide +kernel
theorem dM_init_31 : decode prog_9_method_1_code 31 = .ok (.bipush 24, 2) := by decide +kernel
theorem dM_init_33 : decode prog_9_method_1_code 33 = .ok (.newarray .int, 2) := by decide +kernel
theorem dM_init_35 : decode prog_9_method_1_code 35 = .ok (.putfield 19, 3) := by decide +kernel
theorem dM_init_38 : decode prog_9_method_1_code 38 = .ok (.aload_n 0, 1) := by decide +kernel
theorem dM_init_39 : decode prog_9_method_1_code 39 = .ok (.bipush 6, 2) := by decide +kernel
theorem dM_init_41 : decode prog_9_method_1_code 41 = .ok (.newarray .int, 2) := by decide +kernel
theorem dM_init_43 : decode prog_9_method_1_code 43 = .ok (.putfield 22, 3) := by decide +kernel
theorem dM_init_46 : decode prog_9_method_1_code 46 = .ok (.aload_n 0, 1) := by decide +kernel
theorem dM_init_47 : decode prog_9_method_1_code 47 = .ok (.bipush 6, 2) := by decide +kernel
theorem dM_init_49 : decode prog_9_method_1_code 49 = .ok (.newarray .int, 2) := by decide +kernel
theorem dM_init_51 : decode prog_9_method_1_code 51 = .ok (.putfield 25, 3) := by decide +kernel
theorem dM_init_54 : decode prog_9_method_1_code 54 = .ok (.aload_n 0, 1) := by decide +kernel
theorem dM_init_55 : decode prog_9_method_1_code 55 = .ok (.bipush 6, 2) := by decide +kernel
theorem dM_init_57 : decode prog_9_method_1_code 57 = .ok (.newarray .boolean, 2) := by decide +kernel
theorem dM_init_59 : decode prog_9_method_1_code 59 = .ok (.putfield 28, 3) := by decide +kernel
theorem dM_init_62 : decode prog_9_method_1_code 62 = .ok (.aload_n 0, 1) := by decide +kernel
theorem dM_init_63 : decode prog_9_method_1_code 63 = .ok (.sipush 395, 3) := by decide +kernel
theorem dM_init_66 : decode prog_9_method_1_code 66 = .ok (.newarray .long, 2) := by decide +kernel
theorem dM_init_68 : decode prog_9_method_1_code 68 = .ok (.putfield 32, 3) := by decide +kernel
theorem dM_init_71 : decode prog_9_method_1_code 71 = .ok (.aload_n 0, 1) := by decide +kernel
theorem dM_init_72 : decode prog_9_method_1_code 72 = .ok (.bipush 79, 2) := by decide +kernel
theorem dM_init_74 : decode prog_9_method_1_code 74 = .ok (.newarray .long, 2) := by decide +kernel
theorem dM_init_76 : decode prog_9_method_1_code 76 = .ok (.putfield 36, 3) := by decide +kernel
theorem dM_init_79 : decode prog_9_method_1_code 79 = .ok (.aload_n 0, 1) := by decide +kernel
theorem dM_init_80 : decode prog_9_method_1_code 80 = .ok (.sipush 5040, 3) := by decide +kernel
theorem dM_init_83 : decode prog_9_method_1_code 83 = .ok (.newarray .int, 2) := by decide +kernel
theorem dM_init_85 : decode prog_9_method_1_code 85 = .ok (.putfield 39, 3) := by decide +kernel
theorem dM_init_88 : decode prog_9_method_1_code 88 = .ok (.aload_n 0, 1) := by decide +kernel
theorem dM_init_89 : decode prog_9_method_1_code 89 = .ok (.bipush 20, 2) := by decide +kernel
theorem dM_init_91 : decode prog_9_method_1_code 91 = .ok (.newarray .int, 2) := by decide +kernel
theorem dM_init_93 : decode prog_9_method_1_code 93 = .ok (.putfield 42, 3) := by decide +kernel
theorem dM_init_96 : decode prog_9_method_1_code 96 = .ok (.aload_n 0, 1) := by decide +kernel
theorem dM_init_97 : decode prog_9_method_1_code 97 = .ok (.sipush 5040, 3) := by decide +kernel
theorem dM_init_100 : decode prog_9_method_1_code 100 = .ok (.newarray .int, 2) := by decide +kernel
theorem dM_init_102 : decode prog_9_method_1_code 102 = .ok (.putfield 45, 3) := by decide +kernel
theorem dM_init_105 : decode prog_9_method_1_code 105 = .ok (.aload_n 0, 1) := by decide +kernel
theorem dM_init_106 : decode prog_9_method_1_code 106 = .ok (.bipush 6, 2) := by decide +kernel
theorem dM_init_108 : decode prog_9_method_1_code 108 = .ok (.newarray .int, 2) := by decide +kernel
theorem dM_init_110 : decode prog_9_method_1_code 110 = .ok (.putfield 48, 3) := by decide +kernel
theorem dM_init_113 : decode prog_9_method_1_code 113 = .ok (.aload_n 0, 1) := by decide +kernel
theorem dM_init_114 : decode prog_9_method_1_code 114 = .ok (.bipush 6, 2) := by decide +kernel
theorem dM_init_116 : decode prog_9_method_1_code 116 = .ok (.newarray .int, 2) := by decide +kernel
theorem dM_init_118 : decode prog_9_method_1_code 118 = .ok (.putfield 51, 3) := by decide +kernel
theorem dM_init_121 : decode prog_9_method_1_code 121 = .ok (.aload_n 0, 1) := by decide +kernel
theorem dM_init_122 : decode prog_9_method_1_code 122 = .ok (.bipush 6, 2) := by decide +kernel
theorem dM_init_124 : decode prog_9_method_1_code 124 = .ok (.newarray .int, 2) := by decide +kernel
theorem dM_init_126 : decode prog_9_method_1_code 126 = .ok (.putfield 54, 3) := by decide +kernel
theorem dM_init_129 : decode prog_9_method_1_code 129 = .ok (.aload_n 0, 1) := by decide +kernel
theorem dM_init_130 : decode prog_9_method_1_code 130 = .ok (.bipush 6, 2) := by decide +kernel
theorem dM_init_132 : decode prog_9_method_1_code 132 = .ok (.newarray .int, 2) := by decide +kernel
theorem dM_init_134 : decode prog_9_method_1_code 134 = .ok (.putfield 57, 3) := by decide +kernel
theorem dM_init_137 : decode prog_9_method_1_code 137 = .ok (.aload_n 0, 1) := by decide +kernel
theorem dM_init_138 : decode prog_9_method_1_code 138 = .ok (.iload_n 1, 1) := by decide +kernel
theorem dM_init_139 : decode prog_9_method_1_code 139 = .ok (.bipush 7, 2) := by decide +kernel
theorem dM_init_141 : decode prog_9_method_1_code 141 = .ok (.iand, 1) := by decide +kernel
theorem dM_init_142 : decode prog_9_method_1_code 142 = .ok (.bipush 7, 2) := by decide +kernel
theorem dM_init_144 : decode prog_9_method_1_code 144 = .ok (.if_icmp .ne 8, 3) := by decide +kernel
theorem dM_init_147 : decode prog_9_method_1_code 147 = .ok (.bipush 7, 2) := by decide +kernel
theorem dM_init_149 : decode prog_9_method_1_code 149 = .ok (.goto 9, 3) := by decide +kernel
theorem dM_init_152 : decode prog_9_method_1_code 152 = .ok (.iconst 1, 1) := by decide +kernel
theorem dM_init_153 : decode prog_9_method_1_code 153 = .ok (.iload_n 1, 1) := by decide +kernel
theorem dM_init_154 : decode prog_9_method_1_code 154 = .ok (.bipush 7, 2) := by decide +kernel
theorem dM_init_156 : decode prog_9_method_1_code 156 = .ok (.iand, 1) := by decide +kernel
theorem dM_init_157 : decode prog_9_method_1_code 157 = .ok (.iadd, 1) := by decide +kernel
theorem dM_init_158 : decode prog_9_method_1_code 158 = .ok (.putfield 60, 3) := by decide +kernel
theorem dM_init_161 : decode prog_9_method_1_code 161 = .ok (.iconst 1, 1) := by decide +kernel
theorem dM_init_162 : decode prog_9_method_1_code 162 = .ok (.istore_n 2, 1) := by decide +kernel
theorem dM_init_163 : decode prog_9_method_1_code 163 = .ok (.iload_n 2, 1) := by decide +kernel
theorem dM_init_164 : decode prog_9_method_1_code 164 = .ok (.sipush 128, 3) := by decide +kernel
theorem dM_init_167 : decode prog_9_method_1_code 167 = .ok (.if_icmp .ge 27, 3) := by decide +kernel
theorem dM_init_170 : decode prog_9_method_1_code 170 = .ok (.aload_n 0, 1) := by decide +kernel
theorem dM_init_171 : decode prog_9_method_1_code 171 = .ok (.getfield 13, 3) := by decide +kernel
theorem dM_init_174 : decode prog_9_method_1_code 174 = .ok (.iload_n 2, 1) := by decide +kernel
theorem dM_init_175 : decode prog_9_method_1_code 175 = .ok (.aload_n 0, 1) := by decide +kernel
theorem dM_init_176 : decode prog_9_method_1_code 176 = .ok (.getfield 13, 3) := by decide +kernel
theorem dM_init_179 : decode prog_9_method_1_code 179 = .ok (.iload_n 2, 1) := by decide +kernel
theorem dM_init_180 : decode prog_9_method_1_code 180 = .ok (.iconst 1, 1) := by decide +kernel
theorem dM_init_181 : decode prog_9_method_1_code 181 = .ok (.ishr, 1) := by decide +kernel
theorem dM_init_182 : decode prog_9_method_1_code 182 = .ok (.iaload, 1) := by decide +kernel
theorem dM_init_183 : decode prog_9_method_1_code 183 = .ok (.iload_n 2, 1) := by decide +kernel
theorem dM_init_184 : decode prog_9_method_1_code 184 = .ok (.iconst 1, 1) := by decide +kernel
theorem dM_init_185 : decode prog_9_method_1_code 185 = .ok (.iand, 1) := by decide +kernel
theorem dM_init_186 : decode prog_9_method_1_code 186 = .ok (.iadd, 1) := by decide +kernel
theorem dM_init_187 : decode prog_9_method_1_code 187 = .ok (.iastore, 1) := by decide +kernel
theorem dM_init_188 : decode prog_9_method_1_code 188 = .ok (.iinc 2 1, 3) := by decide +kernel
theorem dM_init_191 : decode prog_9_method_1_code 191 = .ok (.goto (-28), 3) := by decide +kernel
theorem dM_init_194 : decode prog_9_method_1_code 194 = .ok (.aload_n 0, 1) := by decide +kernel
theorem dM_init_195 : decode prog_9_method_1_code 195 = .ok (.getfield 16, 3) := by decide +kernel
theorem dM_init_198 : decode prog_9_method_1_code 198 = .ok (.iconst 0, 1) := by decide +kernel
theorem dM_init_199 : decode prog_9_method_1_code 199 = .ok (.iconst 1, 1) := by decide +kernel
theorem dM_init_200 : decode prog_9_method_1_code 200 = .ok (.iastore, 1) := by decide +kernel
theorem dM_init_201 : decode prog_9_method_1_code 201 = .ok (.iconst 1, 1) := by decide +kernel
theorem dM_init_202 : decode prog_9_method_1_code 202 = .ok (.istore_n 2, 1) := by decide +kernel
theorem dM_init_203 : decode prog_9_method_1_code 203 = .ok (.iload_n 2, 1) := by decide +kernel
theorem dM_init_204 : decode prog_9_method_1_code 204 = .ok (.bipush 8, 2) := by decide +kernel
theorem dM_init_206 : decode prog_9_method_1_code 206 = .ok (.if_icmp .ge 25, 3) := by decide +kernel
theorem dM_init_209 : decode prog_9_method_1_code 209 = .ok (.aload_n 0, 1) := by decide +kernel
theorem dM_init_210 : decode prog_9_method_1_code 210 = .ok (.getfield 16, 3) := by decide +kernel
theorem dM_init_213 : decode prog_9_method_1_code 213 = .ok (.iload_n 2, 1) := by decide +kernel
theorem dM_init_214 : decode prog_9_method_1_code 214 = .ok (.aload_n 0, 1) := by decide +kernel
theorem dM_init_215 : decode prog_9_method_1_code 215 = .ok (.getfield 16, 3) := by decide +kernel
theorem dM_init_218 : decode prog_9_method_1_code 218 = .ok (.iload_n 2, 1) := by decide +kernel
theorem dM_init_219 : decode prog_9_method_1_code 219 = .ok (.iconst 1, 1) := by decide +kernel
theorem dM_init_220 : decode prog_9_method_1_code 220 = .ok (.isub, 1) := by decide +kernel
theorem dM_init_221 : decode prog_9_method_1_code 221 = .ok (.iaload, 1) := by decide +kernel
theorem dM_init_222 : decode prog_9_method_1_code 222 = .ok (.iload_n 2, 1) := by decide +kernel
theorem dM_init_223 : decode prog_9_method_1_code 223 = .ok (.imul, 1) := by decide +kernel
theorem dM_init_224 : decode prog_9_method_1_code 224 = .ok (.iastore, 1) := by decide +kernel
theorem dM_init_225 : decode prog_9_method_1_code 225 = .ok (.iinc 2 1, 3) := by decide +kernel
theorem dM_init_228 : decode prog_9_method_1_code 228 = .ok (.goto (-25), 3) := by decide +kernel
theorem dM_init_231 : decode prog_9_method_1_code 231 = .ok (.aload_n 0, 1) := by decide +kernel
theorem dM_init_232 : decode prog_9_method_1_code 232 = .ok (.aload_n 0, 1) := by decide +kernel
theorem dM_init_233 : decode prog_9_method_1_code 233 = .ok (.getfield 16, 3) := by decide +kernel
theorem dM_init_236 : decode prog_9_method_1_code 236 = .ok (.aload_n 0, 1) := by decide +kernel
theorem dM_init_237 : decode prog_9_method_1_code 237 = .ok (.getfield 60, 3) := by decide +kernel
theorem dM_init_240 : decode prog_9_method_1_code 240 = .ok (.iaload, 1) := by decide +kernel
theorem dM_init_241 : decode prog_9_method_1_code 241 = .ok (.putfield 64, 3) := by decide +kernel
theorem dM_init_244 : decode prog_9_method_1_code 244 = .ok (.iconst 0, 1) := by decide +kernel
theorem dM_init_245 : decode prog_9_method_1_code 245 = .ok (.istore_n 2, 1) := by decide +kernel
theorem dM_init_246 : decode prog_9_method_1_code 246 = .ok (.iload_n 2, 1) := by decide +kernel
theorem dM_init_247 : decode prog_9_method_1_code 247 = .ok (.aload_n 0, 1) := by decide +kernel
theorem dM_init_248 : decode prog_9_method_1_code 248 = .ok (.getfield 64, 3) := by decide +kernel
theorem dM_init_251 : decode prog_9_method_1_code 251 = .ok (.if_icmp .ge 20, 3) := by decide +kernel
theorem dM_init_254 : decode prog_9_method_1_code 254 = .ok (.aload_n 0, 1) := by decide +kernel
theorem dM_init_255 : decode prog_9_method_1_code 255 = .ok (.getfield 7, 3) := by decide +kernel
theorem dM_init_258 : decode prog_9_method_1_code 258 = .ok (.iload_n 2, 1) := by decide +kernel
theorem dM_init_259 : decode prog_9_method_1_code 259 = .ok (.aload_n 0, 1) := by decide +kernel
theorem dM_init_260 : decode prog_9_method_1_code 260 = .ok (.iload_n 2, 1) := by decide +kernel
theorem dM_init_261 : decode prog_9_method_1_code 261 = .ok (.invokevirtual 67, 3) := by decide +kernel
theorem dM_init_264 : decode prog_9_method_1_code 264 = .ok (.iastore, 1) := by decide +kernel
theorem dM_init_265 : decode prog_9_method_1_code 265 = .ok (.iinc 2 1, 3) := by decide +kernel
theorem dM_init_268 : decode prog_9_method_1_code 268 = .ok (.goto (-22), 3) := by decide +kernel
theorem dM_init_271 : decode prog_9_method_1_code 271 = .ok (.iconst 0, 1) := by decide +kernel
theorem dM_init_272 : decode prog_9_method_1_code 272 = .ok (.istore_n 2, 1) := by decide +kernel
theorem dM_init_273 : decode prog_9_method_1_code 273 = .ok (.iload_n 2, 1) := by decide +kernel
theorem dM_init_274 : decode prog_9_method_1_code 274 = .ok (.iconst 5, 1) := by decide +kernel
theorem dM_init_275 : decode prog_9_method_1_code 275 = .ok (.if_icmp .ge 19, 3) := by decide +kernel
theorem dM_init_278 : decode prog_9_method_1_code 278 = .ok (.aload_n 0, 1) := by decide +kernel
theorem dM_init_279 : decode prog_9_method_1_code 279 = .ok (.getfield 32, 3) := by decide +kernel
theorem dM_init_282 : decode prog_9_method_1_code 282 = .ok (.bipush 79, 2) := by decide +kernel
theorem dM_init_284 : decode prog_9_method_1_code 284 = .ok (.iload_n 2, 1) := by decide +kernel
theorem dM_init_285 : decode prog_9_method_1_code 285 = .ok (.imul, 1) := by decide +kernel
theorem dM_init_286 : decode prog_9_method_1_code 286 = .ok (.lconst 1, 1) := by decide +kernel
theorem dM_init_287 : decode prog_9_method_1_code 287 = .ok (.lastore, 1) := by decide +kernel
theorem dM_init_288 : decode prog_9_method_1_code 288 = .ok (.iinc 2 1, 3) := by decide +kernel
theorem dM_init_291 : decode prog_9_method_1_code 291 = .ok (.goto (-18), 3) := by decide +kernel
theorem dM_init_294 : decode prog_9_method_1_code 294 = .ok (.return_, 1) := by decide +kernel
theorem dM_unranked_0 : decode prog_9_method_2_code 0 = .ok (.iconst 1, 1) := by decide +kernel
theorem dM_unranked_1 : decode prog_9_method_2_code 1 = .ok (.aload_n 0, 1) := by decide +kernel
theorem dM_unranked_2 : decode prog_9_method_2_code 2 = .ok (.getfield 60, 3) := by decide +kernel
theorem dM_unranked_5 : decode prog_9_method_2_code 5 = .ok (.ishl, 1) := by decide +kernel
theorem dM_unranked_6 : decode prog_9_method_2_code 6 = .ok (.iconst 1, 1) := by decide +kernel
theorem dM_unranked_7 : decode prog_9_method_2_code 7 = .ok (.isub, 1) := by decide +kernel
theorem dM_unranked_8 : decode prog_9_method_2_code 8 = .ok (.istore_n 2, 1) := by decide +kernel
theorem dM_unranked_9 : decode prog_9_method_2_code 9 = .ok (.iload_n 1, 1) := by decide +kernel
theorem dM_unranked_10 : decode prog_9_method_2_code 10 = .ok (.istore_n 3, 1) := by decide +kernel
theorem dM_unranked_11 : decode prog_9_method_2_code 11 = .ok (.iconst 0, 1) := by decide +kernel
theorem dM_unranked_12 : decode prog_9_method_2_code 12 = .ok (.istore 4, 2) := by decide +kernel
theorem dM_unranked_14 : decode prog_9_method_2_code 14 = .ok (.iconst 0, 1) := by decide +kernel
theorem dM_unranked_15 : decode prog_9_method_2_code 15 = .ok (.istore 5, 2) := by decide +kernel
theorem dM_unranked_17 : decode prog_9_method_2_code 17 = .ok (.iload 5, 2) := by decide +kernel
theorem dM_unranked_19 : decode prog_9_method_2_code 19 = .ok (.aload_n 0, 1) := by decide +kernel
theorem dM_unranked_20 : decode prog_9_method_2_code 20 = .ok (.getfield 60, 3) := by decide +kernel
theorem dM_unranked_23 : decode prog_9_method_2_code 23 = .ok (.if_icmp .ge 99, 3) := by decide +kernel
theorem dM_unranked_26 : decode prog_9_method_2_code 26 = .ok (.iload_n 3, 1) := by decide +kernel
theorem dM_unranked_27 : decode prog_9_method_2_code 27 = .ok (.aload_n 0, 1) := by decide +kernel
theorem dM_unranked_28 : decode prog_9_method_2_code 28 = .ok (.getfield 16, 3) := by decide +kernel
theorem dM_unranked_31 : decode prog_9_method_2_code 31 = .ok (.aload_n 0, 1) := by decide +kernel
theorem dM_unranked_32 : decode prog_9_method_2_code 32 = .ok (.getfield 60, 3) := by decide +kernel
theorem dM_unranked_35 : decode prog_9_method_2_code 35 = .ok (.iconst 1, 1) := by decide +kernel
theorem dM_unranked_36 : decode prog_9_method_2_code 36 = .ok (.isub, 1) := by decide +kernel
theorem dM_unranked_37 : decode prog_9_method_2_code 37 = .ok (.iload 5, 2) := by decide +kernel
theorem dM_unranked_39 : decode prog_9_method_2_code 39 = .ok (.isub, 1) := by decide +kernel
theorem dM_unranked_40 : decode prog_9_method_2_code 40 = .ok (.iaload, 1) := by decide +kernel
theorem dM_unranked_41 : decode prog_9_method_2_code 41 = .ok (.idiv, 1) := by decide +kernel
theorem dM_unranked_42 : decode prog_9_method_2_code 42 = .ok (.istore 6, 2) := by decide +kernel
theorem dM_unranked_44 : decode prog_9_method_2_code 44 = .ok (.iload_n 3, 1) := by decide +kernel
theorem dM_unranked_45 : decode prog_9_method_2_code 45 = .ok (.aload_n 0, 1) := by decide +kernel
theorem dM_unranked_46 : decode prog_9_method_2_code 46 = .ok (.getfield 16, 3) := by decide +kernel
theorem dM_unranked_49 : decode prog_9_method_2_code 49 = .ok (.aload_n 0, 1) := by decide +kernel
theorem dM_unranked_50 : decode prog_9_method_2_code 50 = .ok (.getfield 60, 3) := by decide +kernel
theorem dM_unranked_53 : decode prog_9_method_2_code 53 = .ok (.iconst 1, 1) := by decide +kernel
theorem dM_unranked_54 : decode prog_9_method_2_code 54 = .ok (.isub, 1) := by decide +kernel
theorem dM_unranked_55 : decode prog_9_method_2_code 55 = .ok (.iload 5, 2) := by decide +kernel
theorem dM_unranked_57 : decode prog_9_method_2_code 57 = .ok (.isub, 1) := by decide +kernel
theorem dM_unranked_58 : decode prog_9_method_2_code 58 = .ok (.iaload, 1) := by decide +kernel
theorem dM_unranked_59 : decode prog_9_method_2_code 59 = .ok (.irem, 1) := by decide +kernel
theorem dM_unranked_60 : decode prog_9_method_2_code 60 = .ok (.istore_n 3, 1) := by decide +kernel
theorem dM_unranked_61 : decode prog_9_method_2_code 61 = .ok (.iconst 0, 1) := by decide +kernel
theorem dM_unranked_62 : decode prog_9_method_2_code 62 = .ok (.istore 7, 2) := by decide +kernel
theorem dM_unranked_64 : decode prog_9_method_2_code 64 = .ok (.iload_n 2, 1) := by decide +kernel
theorem dM_unranked_65 : decode prog_9_method_2_code 65 = .ok (.iload 7, 2) := by decide +kernel
theorem dM_unranked_67 : decode prog_9_method_2_code 67 = .ok (.ishr, 1) := by decide +kernel
theorem dM_unranked_68 : decode prog_9_method_2_code 68 = .ok (.iconst 1, 1) := by decide +kernel
theorem dM_unranked_69 : decode prog_9_method_2_code 69 = .ok (.iand, 1) := by decide +kernel
theorem dM_unranked_70 : decode prog_9_method_2_code 70 = .ok (.ifCond .eq 8, 3) := by decide +kernel
theorem dM_unranked_73 : decode prog_9_method_2_code 73 = .ok (.iload 6, 2) := by decide +kernel
theorem dM_unranked_75 : decode prog_9_method_2_code 75 = .ok (.ifCond .le 20, 3) := by decide +kernel
theorem dM_unranked_78 : decode prog_9_method_2_code 78 = .ok (.iload 6, 2) := by decide +kernel
theorem dM_unranked_80 : decode prog_9_method_2_code 80 = .ok (.iload_n 2, 1) := by decide +kernel
theorem dM_unranked_81 : decode prog_9_method_2_code 81 = .ok (.iload 7, 2) := by decide +kernel
theorem dM_unranked_83 : decode prog_9_method_2_code 83 = .ok (.ishr, 1) := by decide +kernel
theorem dM_unranked_84 : decode prog_9_method_2_code 84 = .ok (.iconst 1, 1) := by decide +kernel
theorem dM_unranked_85 : decode prog_9_method_2_code 85 = .ok (.iand, 1) := by decide +kernel
theorem dM_unranked_86 : decode prog_9_method_2_code 86 = .ok (.isub, 1) := by decide +kernel
theorem dM_unranked_87 : decode prog_9_method_2_code 87 = .ok (.istore 6, 2) := by decide +kernel
theorem dM_unranked_89 : decode prog_9_method_2_code 89 = .ok (.iinc 7 1, 3) := by decide +kernel
theorem dM_unranked_92 : decode prog_9_method_2_code 92 = .ok (.goto (-28), 3) := by decide +kernel
theorem dM_unranked_95 : decode prog_9_method_2_code 95 = .ok (.iload_n 2, 1) := by decide +kernel
theorem dM_unranked_96 : decode prog_9_method_2_code 96 = .ok (.iconst 1, 1) := by decide +kernel
theorem dM_unranked_97 : decode prog_9_method_2_code 97 = .ok (.iload 7, 2) := by decide +kernel
theorem dM_unranked_99 : decode prog_9_method_2_code 99 = .ok (.ishl, 1) := by decide +kernel
theorem dM_unranked_100 : decode prog_9_method_2_code 100 = .ok (.iconst (-1), 1) := by decide +kernel
theorem dM_unranked_101 : decode prog_9_method_2_code 101 = .ok (.ixor, 1) := by decide +kernel
theorem dM_unranked_102 : decode prog_9_method_2_code 102 = .ok (.iand, 1) := by decide +kernel
theorem dM_unranked_103 : decode prog_9_method_2_code 103 = .ok (.istore_n 2, 1) := by decide +kernel
theorem dM_unranked_104 : decode prog_9_method_2_code 104 = .ok (.iload 4, 2) := by decide +kernel
theorem dM_unranked_106 : decode prog_9_method_2_code 106 = .ok (.iload 7, 2) := by decide +kernel
theorem dM_unranked_108 : decode prog_9_method_2_code 108 = .ok (.iconst 3, 1) := by decide +kernel
theorem dM_unranked_109 : decode prog_9_method_2_code 109 = .ok (.iload 5, 2) := by decide +kernel
theorem dM_unranked_111 : decode prog_9_method_2_code 111 = .ok (.imul, 1) := by decide +kernel
theorem dM_unranked_112 : decode prog_9_method_2_code 112 = .ok (.ishl, 1) := by decide +kernel
theorem dM_unranked_113 : decode prog_9_method_2_code 113 = .ok (.ior, 1) := by decide +kernel
theorem dM_unranked_114 : decode prog_9_method_2_code 114 = .ok (.istore 4, 2) := by decide +kernel
theorem dM_unranked_116 : decode prog_9_method_2_code 116 = .ok (.iinc 5 1, 3) := by decide +kernel
theorem dM_unranked_119 : decode prog_9_method_2_code 119 = .ok (.goto (-102), 3) := by decide +kernel
theorem dM_unranked_122 : decode prog_9_method_2_code 122 = .ok (.iload 4, 2) := by decide +kernel
theorem dM_unranked_124 : decode prog_9_method_2_code 124 = .ok (.ireturn, 1) := by decide +kernel
theorem dM_thrown_0 : decode prog_9_method_3_code 0 = .ok (.aload_n 0, 1) := by decide +kernel
theorem dM_thrown_1 : decode prog_9_method_3_code 1 = .ok (.getfield 71, 3) := by decide +kernel
theorem dM_thrown_4 : decode prog_9_method_3_code 4 = .ok (.ireturn, 1) := by decide +kernel
theorem dM_fail_0 : decode prog_9_method_4_code 0 = .ok (.aload_n 0, 1) := by decide +kernel
theorem dM_fail_1 : decode prog_9_method_4_code 1 = .ok (.iload_n 1, 1) := by decide +kernel
theorem dM_fail_2 : decode prog_9_method_4_code 2 = .ok (.putfield 71, 3) := by decide +kernel
theorem dM_fail_5 : decode prog_9_method_4_code 5 = .ok (.iconst 0, 1) := by decide +kernel
theorem dM_fail_6 : decode prog_9_method_4_code 6 = .ok (.ireturn, 1) := by decide +kernel
theorem dM_apply_0 : decode prog_9_method_5_code 0 = .ok (.iload_n 1, 1) := by decide +kernel
theorem dM_apply_1 : decode prog_9_method_5_code 1 = .ok (.iconst 3, 1) := by decide +kernel
theorem dM_apply_2 : decode prog_9_method_5_code 2 = .ok (.iload_n 2, 1) := by decide +kernel
theorem dM_apply_3 : decode prog_9_method_5_code 3 = .ok (.imul, 1) := by decide +kernel
theorem dM_apply_4 : decode prog_9_method_5_code 4 = .ok (.ishr, 1) := by decide +kernel
theorem dM_apply_5 : decode prog_9_method_5_code 5 = .ok (.bipush 7, 2) := by decide +kernel
theorem dM_apply_7 : decode prog_9_method_5_code 7 = .ok (.iand, 1) := by decide +kernel
theorem dM_apply_8 : decode prog_9_method_5_code 8 = .ok (.ireturn, 1) := by decide +kernel
theorem dM_times_0 : decode prog_9_method_6_code 0 = .ok (.iconst 0, 1) := by decide +kernel
theorem dM_times_1 : decode prog_9_method_6_code 1 = .ok (.istore_n 3, 1) := by decide +kernel
theorem dM_times_2 : decode prog_9_method_6_code 2 = .ok (.iconst 0, 1) := by decide +kernel
theorem dM_times_3 : decode prog_9_method_6_code 3 = .ok (.istore 4, 2) := by decide +kernel
theorem dM_times_5 : decode prog_9_method_6_code 5 = .ok (.iload 4, 2) := by decide +kernel
theorem dM_times_7 : decode prog_9_method_6_code 7 = .ok (.aload_n 0, 1) := by decide +kernel
theorem dM_times_8 : decode prog_9_method_6_code 8 = .ok (.getfield 60, 3) := by decide +kernel
theorem dM_times_11 : decode prog_9_method_6_code 11 = .ok (.if_icmp .ge 29, 3) := by decide +kernel
theorem dM_times_14 : decode prog_9_method_6_code 14 = .ok (.iload_n 3, 1) := by decide +kernel
theorem dM_times_15 : decode prog_9_method_6_code 15 = .ok (.aload_n 0, 1) := by decide +kernel
theorem dM_times_16 : decode prog_9_method_6_code 16 = .ok (.iload_n 2, 1) := by decide +kernel
theorem dM_times_17 : decode prog_9_method_6_code 17 = .ok (.aload_n 0, 1) := by decide +kernel
theorem dM_times_18 : decode prog_9_method_6_code 18 = .ok (.iload_n 1, 1) := by decide +kernel
theorem dM_times_19 : decode prog_9_method_6_code 19 = .ok (.iload 4, 2) := by decide +kernel
theorem dM_times_21 : decode prog_9_method_6_code 21 = .ok (.invokevirtual 74, 3) := by decide +kernel
theorem dM_times_24 : decode prog_9_method_6_code 24 = .ok (.invokevirtual 74, 3) := by decide +kernel
theorem dM_times_27 : decode prog_9_method_6_code 27 = .ok (.iconst 3, 1) := by decide +kernel
theorem dM_times_28 : decode prog_9_method_6_code 28 = .ok (.iload 4, 2) := by decide +kernel
theorem dM_times_30 : decode prog_9_method_6_code 30 = .ok (.imul, 1) := by decide +kernel
theorem dM_times_31 : decode prog_9_method_6_code 31 = .ok (.ishl, 1) := by decide +kernel
theorem dM_times_32 : decode prog_9_method_6_code 32 = .ok (.ior, 1) := by decide +kernel
theorem dM_times_33 : decode prog_9_method_6_code 33 = .ok (.istore_n 3, 1) := by decide +kernel
theorem dM_times_34 : decode prog_9_method_6_code 34 = .ok (.iinc 4 1, 3) := by decide +kernel
theorem dM_times_37 : decode prog_9_method_6_code 37 = .ok (.goto (-32), 3) := by decide +kernel
theorem dM_times_40 : decode prog_9_method_6_code 40 = .ok (.iload_n 3, 1) := by decide +kernel
theorem dM_times_41 : decode prog_9_method_6_code 41 = .ok (.ireturn, 1) := by decide +kernel
theorem dM_inverse_0 : decode prog_9_method_7_code 0 = .ok (.iconst 0, 1) := by decide +kernel
theorem dM_inverse_1 : decode prog_9_method_7_code 1 = .ok (.istore_n 2, 1) := by decide +kernel
theorem dM_inverse_2 : decode prog_9_method_7_code 2 = .ok (.iconst 0, 1) := by decide +kernel
theorem dM_inverse_3 : decode prog_9_method_7_code 3 = .ok (.istore_n 3, 1) := by decide +kernel
theorem dM_inverse_4 : decode prog_9_method_7_code 4 = .ok (.iload_n 3, 1) := by decide +kernel
theorem dM_inverse_5 : decode prog_9_method_7_code 5 = .ok (.aload_n 0, 1) := by decide +kernel
theorem dM_inverse_6 : decode prog_9_method_7_code 6 = .ok (.getfield 60, 3) := by decide +kernel
theorem dM_inverse_9 : decode prog_9_method_7_code 9 = .ok (.if_icmp .ge 22, 3) := by decide +kernel
theorem dM_inverse_12 : decode prog_9_method_7_code 12 = .ok (.iload_n 2, 1) := by decide +kernel
theorem dM_inverse_13 : decode prog_9_method_7_code 13 = .ok (.iload_n 3, 1) := by decide +kernel
theorem dM_inverse_14 : decode prog_9_method_7_code 14 = .ok (.iconst 3, 1) := by decide +kernel
theorem dM_inverse_15 : decode prog_9_method_7_code 15 = .ok (.aload_n 0, 1) := by decide +kernel
theorem dM_inverse_16 : decode prog_9_method_7_code 16 = .ok (.iload_n 1, 1) := by decide +kernel
theorem dM_inverse_17 : decode prog_9_method_7_code 17 = .ok (.iload_n 3, 1) := by decide +kernel
theorem dM_inverse_18 : decode prog_9_method_7_code 18 = .ok (.invokevirtual 74, 3) := by decide +kernel
theorem dM_inverse_21 : decode prog_9_method_7_code 21 = .ok (.imul, 1) := by decide +kernel
theorem dM_inverse_22 : decode prog_9_method_7_code 22 = .ok (.ishl, 1) := by decide +kernel
theorem dM_inverse_23 : decode prog_9_method_7_code 23 = .ok (.ior, 1) := by decide +kernel
theorem dM_inverse_24 : decode prog_9_method_7_code 24 = .ok (.istore_n 2, 1) := by decide +kernel
theorem dM_inverse_25 : decode prog_9_method_7_code 25 = .ok (.iinc 3 1, 3) := by decide +kernel
theorem dM_inverse_28 : decode prog_9_method_7_code 28 = .ok (.goto (-24), 3) := by decide +kernel
theorem dM_inverse_31 : decode prog_9_method_7_code 31 = .ok (.iload_n 2, 1) := by decide +kernel
theorem dM_inverse_32 : decode prog_9_method_7_code 32 = .ok (.ireturn, 1) := by decide +kernel
theorem dM_rankOf_0 : decode prog_9_method_8_code 0 = .ok (.iconst 0, 1) := by decide +kernel
theorem dM_rankOf_1 : decode prog_9_method_8_code 1 = .ok (.istore_n 2, 1) := by decide +kernel
theorem dM_rankOf_2 : decode prog_9_method_8_code 2 = .ok (.iconst 0, 1) := by decide +kernel
theorem dM_rankOf_3 : decode prog_9_method_8_code 3 = .ok (.istore_n 3, 1) := by decide +kernel
theorem dM_rankOf_4 : decode prog_9_method_8_code 4 = .ok (.iconst 0, 1) := by decide +kernel
theorem dM_rankOf_5 : decode prog_9_method_8_code 5 = .ok (.istore 4, 2) := by decide +kernel
theorem dM_rankOf_7 : decode prog_9_method_8_code 7 = .ok (.iload 4, 2) := by decide +kernel
theorem dM_rankOf_9 : decode prog_9_method_8_code 9 = .ok (.aload_n 0, 1) := by decide +kernel
theorem dM_rankOf_10 : decode prog_9_method_8_code 10 = .ok (.getfield 60, 3) := by decide +kernel
theorem dM_rankOf_13 : decode prog_9_method_8_code 13 = .ok (.if_icmp .ge 59, 3) := by decide +kernel
theorem dM_rankOf_16 : decode prog_9_method_8_code 16 = .ok (.aload_n 0, 1) := by decide +kernel
theorem dM_rankOf_17 : decode prog_9_method_8_code 17 = .ok (.iload_n 1, 1) := by decide +kernel
theorem dM_rankOf_18 : decode prog_9_method_8_code 18 = .ok (.iload 4, 2) := by decide +kernel
theorem dM_rankOf_20 : decode prog_9_method_8_code 20 = .ok (.invokevirtual 74, 3) := by decide +kernel
theorem dM_rankOf_23 : decode prog_9_method_8_code 23 = .ok (.istore 5, 2) := by decide +kernel
theorem dM_rankOf_25 : decode prog_9_method_8_code 25 = .ok (.iload_n 3, 1) := by decide +kernel
theorem dM_rankOf_26 : decode prog_9_method_8_code 26 = .ok (.iload 5, 2) := by decide +kernel
theorem dM_rankOf_28 : decode prog_9_method_8_code 28 = .ok (.aload_n 0, 1) := by decide +kernel
theorem dM_rankOf_29 : decode prog_9_method_8_code 29 = .ok (.getfield 13, 3) := by decide +kernel
theorem dM_rankOf_32 : decode prog_9_method_8_code 32 = .ok (.iload_n 2, 1) := by decide +kernel
theorem dM_rankOf_33 : decode prog_9_method_8_code 33 = .ok (.iconst 1, 1) := by decide +kernel
theorem dM_rankOf_34 : decode prog_9_method_8_code 34 = .ok (.iload 5, 2) := by decide +kernel
theorem dM_rankOf_36 : decode prog_9_method_8_code 36 = .ok (.ishl, 1) := by decide +kernel
theorem dM_rankOf_37 : decode prog_9_method_8_code 37 = .ok (.iconst 1, 1) := by decide +kernel
theorem dM_rankOf_38 : decode prog_9_method_8_code 38 = .ok (.isub, 1) := by decide +kernel
theorem dM_rankOf_39 : decode prog_9_method_8_code 39 = .ok (.iand, 1) := by decide +kernel
theorem dM_rankOf_40 : decode prog_9_method_8_code 40 = .ok (.iaload, 1) := by decide +kernel
theorem dM_rankOf_41 : decode prog_9_method_8_code 41 = .ok (.isub, 1) := by decide +kernel
theorem dM_rankOf_42 : decode prog_9_method_8_code 42 = .ok (.aload_n 0, 1) := by decide +kernel
theorem dM_rankOf_43 : decode prog_9_method_8_code 43 = .ok (.getfield 16, 3) := by decide +kernel
theorem dM_rankOf_46 : decode prog_9_method_8_code 46 = .ok (.aload_n 0, 1) := by decide +kernel
theorem dM_rankOf_47 : decode prog_9_method_8_code 47 = .ok (.getfield 60, 3) := by decide +kernel
theorem dM_rankOf_50 : decode prog_9_method_8_code 50 = .ok (.iconst 1, 1) := by decide +kernel
theorem dM_rankOf_51 : decode prog_9_method_8_code 51 = .ok (.isub, 1) := by decide +kernel
theorem dM_rankOf_52 : decode prog_9_method_8_code 52 = .ok (.iload 4, 2) := by decide +kernel
theorem dM_rankOf_54 : decode prog_9_method_8_code 54 = .ok (.isub, 1) := by decide +kernel
theorem dM_rankOf_55 : decode prog_9_method_8_code 55 = .ok (.iaload, 1) := by decide +kernel
theorem dM_rankOf_56 : decode prog_9_method_8_code 56 = .ok (.imul, 1) := by decide +kernel
theorem dM_rankOf_57 : decode prog_9_method_8_code 57 = .ok (.iadd, 1) := by decide +kernel
theorem dM_rankOf_58 : decode prog_9_method_8_code 58 = .ok (.istore_n 3, 1) := by decide +kernel
theorem dM_rankOf_59 : decode prog_9_method_8_code 59 = .ok (.iload_n 2, 1) := by decide +kernel
theorem dM_rankOf_60 : decode prog_9_method_8_code 60 = .ok (.iconst 1, 1) := by decide +kernel
theorem dM_rankOf_61 : decode prog_9_method_8_code 61 = .ok (.iload 5, 2) := by decide +kernel
theorem dM_rankOf_63 : decode prog_9_method_8_code 63 = .ok (.ishl, 1) := by decide +kernel
theorem dM_rankOf_64 : decode prog_9_method_8_code 64 = .ok (.ior, 1) := by decide +kernel
theorem dM_rankOf_65 : decode prog_9_method_8_code 65 = .ok (.istore_n 2, 1) := by decide +kernel
theorem dM_rankOf_66 : decode prog_9_method_8_code 66 = .ok (.iinc 4 1, 3) := by decide +kernel
theorem dM_rankOf_69 : decode prog_9_method_8_code 69 = .ok (.goto (-62), 3) := by decide +kernel
theorem dM_rankOf_72 : decode prog_9_method_8_code 72 = .ok (.iload_n 3, 1) := by decide +kernel
theorem dM_rankOf_73 : decode prog_9_method_8_code 73 = .ok (.ireturn, 1) := by decide +kernel
theorem dM_commutator_0 : decode prog_9_method_9_code 0 = .ok (.aload_n 0, 1) := by decide +kernel
theorem dM_commutator_1 : decode prog_9_method_9_code 1 = .ok (.aload_n 0, 1) := by decide +kernel
theorem dM_commutator_2 : decode prog_9_method_9_code 2 = .ok (.iload_n 1, 1) := by decide +kernel
theorem dM_commutator_3 : decode prog_9_method_9_code 3 = .ok (.invokevirtual 78, 3) := by decide +kernel
theorem dM_commutator_6 : decode prog_9_method_9_code 6 = .ok (.aload_n 0, 1) := by decide +kernel
theorem dM_commutator_7 : decode prog_9_method_9_code 7 = .ok (.iload_n 2, 1) := by decide +kernel
theorem dM_commutator_8 : decode prog_9_method_9_code 8 = .ok (.invokevirtual 78, 3) := by decide +kernel
theorem dM_commutator_11 : decode prog_9_method_9_code 11 = .ok (.invokevirtual 81, 3) := by decide +kernel
theorem dM_commutator_14 : decode prog_9_method_9_code 14 = .ok (.istore_n 3, 1) := by decide +kernel
theorem dM_commutator_15 : decode prog_9_method_9_code 15 = .ok (.aload_n 0, 1) := by decide +kernel
theorem dM_commutator_16 : decode prog_9_method_9_code 16 = .ok (.iload_n 1, 1) := by decide +kernel
theorem dM_commutator_17 : decode prog_9_method_9_code 17 = .ok (.iload_n 2, 1) := by decide +kernel
theorem dM_commutator_18 : decode prog_9_method_9_code 18 = .ok (.invokevirtual 81, 3) := by decide +kernel
theorem dM_commutator_21 : decode prog_9_method_9_code 21 = .ok (.istore 4, 2) := by decide +kernel
theorem dM_commutator_23 : decode prog_9_method_9_code 23 = .ok (.aload_n 0, 1) := by decide +kernel
theorem dM_commutator_24 : decode prog_9_method_9_code 24 = .ok (.iload_n 3, 1) := by decide +kernel
theorem dM_commutator_25 : decode prog_9_method_9_code 25 = .ok (.iload 4, 2) := by decide +kernel
theorem dM_commutator_27 : decode prog_9_method_9_code 27 = .ok (.invokevirtual 81, 3) := by decide +kernel
theorem dM_commutator_30 : decode prog_9_method_9_code 30 = .ok (.ireturn, 1) := by decide +kernel
theorem dM_type_0 : decode prog_9_method_10_code 0 = .ok (.aload_n 0, 1) := by decide +kernel
theorem dM_type_1 : decode prog_9_method_10_code 1 = .ok (.iconst 0, 1) := by decide +kernel
theorem dM_type_2 : decode prog_9_method_10_code 2 = .ok (.putfield 71, 3) := by decide +kernel
theorem dM_type_5 : decode prog_9_method_10_code 5 = .ok (.iload_n 1, 1) := by decide +kernel
theorem dM_type_6 : decode prog_9_method_10_code 6 = .ok (.bipush 32, 2) := by decide +kernel
theorem dM_type_8 : decode prog_9_method_10_code 8 = .ok (.if_icmp .lt 18, 3) := by decide +kernel
theorem dM_type_11 : decode prog_9_method_10_code 11 = .ok (.iload_n 1, 1) := by decide +kernel
theorem dM_type_12 : decode prog_9_method_10_code 12 = .ok (.bipush 126, 2) := by decide +kernel
theorem dM_type_14 : decode prog_9_method_10_code 14 = .ok (.if_icmp .gt 12, 3) := by decide +kernel
theorem dM_type_17 : decode prog_9_method_10_code 17 = .ok (.aload_n 0, 1) := by decide +kernel
theorem dM_type_18 : decode prog_9_method_10_code 18 = .ok (.getfield 84, 3) := by decide +kernel
theorem dM_type_21 : decode prog_9_method_10_code 21 = .ok (.bipush 24, 2) := by decide +kernel
theorem dM_type_23 : decode prog_9_method_10_code 23 = .ok (.if_icmp .ne 5, 3) := by decide +kernel
theorem dM_type_26 : decode prog_9_method_10_code 26 = .ok (.iconst 0, 1) := by decide +kernel
theorem dM_type_27 : decode prog_9_method_10_code 27 = .ok (.ireturn, 1) := by decide +kernel
theorem dM_type_28 : decode prog_9_method_10_code 28 = .ok (.aload_n 0, 1) := by decide +kernel
theorem dM_type_29 : decode prog_9_method_10_code 29 = .ok (.getfield 19, 3) := by decide +kernel
theorem dM_type_32 : decode prog_9_method_10_code 32 = .ok (.aload_n 0, 1) := by decide +kernel
theorem dM_type_33 : decode prog_9_method_10_code 33 = .ok (.getfield 84, 3) := by decide +kernel
theorem dM_type_36 : decode prog_9_method_10_code 36 = .ok (.iload_n 1, 1) := by decide +kernel
theorem dM_type_37 : decode prog_9_method_10_code 37 = .ok (.iastore, 1) := by decide +kernel
theorem dM_type_38 : decode prog_9_method_10_code 38 = .ok (.aload_n 0, 1) := by decide +kernel
theorem dM_type_39 : decode prog_9_method_10_code 39 = .ok (.dup, 1) := by decide +kernel
theorem dM_type_40 : decode prog_9_method_10_code 40 = .ok (.getfield 84, 3) := by decide +kernel
theorem dM_type_43 : decode prog_9_method_10_code 43 = .ok (.iconst 1, 1) := by decide +kernel
theorem dM_type_44 : decode prog_9_method_10_code 44 = .ok (.iadd, 1) := by decide +kernel
theorem dM_type_45 : decode prog_9_method_10_code 45 = .ok (.putfield 84, 3) := by decide +kernel
theorem dM_type_48 : decode prog_9_method_10_code 48 = .ok (.iconst 1, 1) := by decide +kernel
theorem dM_type_49 : decode prog_9_method_10_code 49 = .ok (.ireturn, 1) := by decide +kernel
theorem dM_wipe_0 : decode prog_9_method_11_code 0 = .ok (.aload_n 0, 1) := by decide +kernel
theorem dM_wipe_1 : decode prog_9_method_11_code 1 = .ok (.iconst 0, 1) := by decide +kernel
theorem dM_wipe_2 : decode prog_9_method_11_code 2 = .ok (.putfield 71, 3) := by decide +kernel
theorem dM_wipe_5 : decode prog_9_method_11_code 5 = .ok (.aload_n 0, 1) := by decide +kernel
theorem dM_wipe_6 : decode prog_9_method_11_code 6 = .ok (.iconst 0, 1) := by decide +kernel
theorem dM_wipe_7 : decode prog_9_method_11_code 7 = .ok (.putfield 84, 3) := by decide +kernel
theorem dM_wipe_10 : decode prog_9_method_11_code 10 = .ok (.return_, 1) := by decide +kernel
theorem dM_open_0 : decode prog_9_method_12_code 0 = .ok (.aload_n 0, 1) := by decide +kernel
theorem dM_open_1 : decode prog_9_method_12_code 1 = .ok (.getfield 48, 3) := by decide +kernel
theorem dM_open_4 : decode prog_9_method_12_code 4 = .ok (.aload_n 0, 1) := by decide +kernel
theorem dM_open_5 : decode prog_9_method_12_code 5 = .ok (.getfield 87, 3) := by decide +kernel
theorem dM_open_8 : decode prog_9_method_12_code 8 = .ok (.iload_n 1, 1) := by decide +kernel
theorem dM_open_9 : decode prog_9_method_12_code 9 = .ok (.iastore, 1) := by decide +kernel
theorem dM_open_10 : decode prog_9_method_12_code 10 = .ok (.aload_n 0, 1) := by decide +kernel
theorem dM_open_11 : decode prog_9_method_12_code 11 = .ok (.getfield 51, 3) := by decide +kernel
theorem dM_open_14 : decode prog_9_method_12_code 14 = .ok (.aload_n 0, 1) := by decide +kernel
theorem dM_open_15 : decode prog_9_method_12_code 15 = .ok (.getfield 87, 3) := by decide +kernel
theorem dM_open_18 : decode prog_9_method_12_code 18 = .ok (.aload_n 0, 1) := by decide +kernel
theorem dM_open_19 : decode prog_9_method_12_code 19 = .ok (.getfield 7, 3) := by decide +kernel
theorem dM_open_22 : decode prog_9_method_12_code 22 = .ok (.iconst 0, 1) := by decide +kernel
theorem dM_open_23 : decode prog_9_method_12_code 23 = .ok (.iaload, 1) := by decide +kernel
theorem dM_open_24 : decode prog_9_method_12_code 24 = .ok (.iastore, 1) := by decide +kernel
theorem dM_open_25 : decode prog_9_method_12_code 25 = .ok (.aload_n 0, 1) := by decide +kernel
theorem dM_open_26 : decode prog_9_method_12_code 26 = .ok (.getfield 54, 3) := by decide +kernel
theorem dM_open_29 : decode prog_9_method_12_code 29 = .ok (.aload_n 0, 1) := by decide +kernel
theorem dM_open_30 : decode prog_9_method_12_code 30 = .ok (.getfield 87, 3) := by decide +kernel
theorem dM_open_33 : decode prog_9_method_12_code 33 = .ok (.iconst (-1), 1) := by decide +kernel
theorem dM_open_34 : decode prog_9_method_12_code 34 = .ok (.iastore, 1) := by decide +kernel
theorem dM_open_35 : decode prog_9_method_12_code 35 = .ok (.return_, 1) := by decide +kernel
theorem dM_take_0 : decode prog_9_method_13_code 0 = .ok (.aload_n 0, 1) := by decide +kernel
theorem dM_take_1 : decode prog_9_method_13_code 1 = .ok (.getfield 54, 3) := by decide +kernel
theorem dM_take_4 : decode prog_9_method_13_code 4 = .ok (.aload_n 0, 1) := by decide +kernel
theorem dM_take_5 : decode prog_9_method_13_code 5 = .ok (.getfield 87, 3) := by decide +kernel
theorem dM_take_8 : decode prog_9_method_13_code 8 = .ok (.iaload, 1) := by decide +kernel
theorem dM_take_9 : decode prog_9_method_13_code 9 = .ok (.iconst (-1), 1) := by decide +kernel
theorem dM_take_10 : decode prog_9_method_13_code 10 = .ok (.if_icmp .eq 34, 3) := by decide +kernel
theorem dM_take_13 : decode prog_9_method_13_code 13 = .ok (.aload_n 0, 1) := by decide +kernel
theorem dM_take_14 : decode prog_9_method_13_code 14 = .ok (.getfield 51, 3) := by decide +kernel
theorem dM_take_17 : decode prog_9_method_13_code 17 = .ok (.aload_n 0, 1) := by decide +kernel
theorem dM_take_18 : decode prog_9_method_13_code 18 = .ok (.getfield 87, 3) := by decide +kernel
theorem dM_take_21 : decode prog_9_method_13_code 21 = .ok (.aload_n 0, 1) := by decide +kernel
theorem dM_take_22 : decode prog_9_method_13_code 22 = .ok (.aload_n 0, 1) := by decide +kernel
theorem dM_take_23 : decode prog_9_method_13_code 23 = .ok (.getfield 51, 3) := by decide +kernel
theorem dM_take_26 : decode prog_9_method_13_code 26 = .ok (.aload_n 0, 1) := by decide +kernel
theorem dM_take_27 : decode prog_9_method_13_code 27 = .ok (.getfield 87, 3) := by decide +kernel
theorem dM_take_30 : decode prog_9_method_13_code 30 = .ok (.iaload, 1) := by decide +kernel
theorem dM_take_31 : decode prog_9_method_13_code 31 = .ok (.aload_n 0, 1) := by decide +kernel
theorem dM_take_32 : decode prog_9_method_13_code 32 = .ok (.getfield 54, 3) := by decide +kernel
theorem dM_take_35 : decode prog_9_method_13_code 35 = .ok (.aload_n 0, 1) := by decide +kernel
theorem dM_take_36 : decode prog_9_method_13_code 36 = .ok (.getfield 87, 3) := by decide +kernel
theorem dM_take_39 : decode prog_9_method_13_code 39 = .ok (.iaload, 1) := by decide +kernel
theorem dM_take_40 : decode prog_9_method_13_code 40 = .ok (.invokevirtual 81, 3) := by decide +kernel
theorem dM_take_43 : decode prog_9_method_13_code 43 = .ok (.iastore, 1) := by decide +kernel
theorem dM_take_44 : decode prog_9_method_13_code 44 = .ok (.aload_n 0, 1) := by decide +kernel
theorem dM_take_45 : decode prog_9_method_13_code 45 = .ok (.getfield 54, 3) := by decide +kernel
theorem dM_take_48 : decode prog_9_method_13_code 48 = .ok (.aload_n 0, 1) := by decide +kernel
theorem dM_take_49 : decode prog_9_method_13_code 49 = .ok (.getfield 87, 3) := by decide +kernel
theorem dM_take_52 : decode prog_9_method_13_code 52 = .ok (.iload_n 1, 1) := by decide +kernel
theorem dM_take_53 : decode prog_9_method_13_code 53 = .ok (.iastore, 1) := by decide +kernel
theorem dM_take_54 : decode prog_9_method_13_code 54 = .ok (.return_, 1) := by decide +kernel
theorem dM_whole_0 : decode prog_9_method_14_code 0 = .ok (.aload_n 0, 1) := by decide +kernel
theorem dM_whole_1 : decode prog_9_method_14_code 1 = .ok (.aload_n 0, 1) := by decide +kernel
theorem dM_whole_2 : decode prog_9_method_14_code 2 = .ok (.getfield 51, 3) := by decide +kernel
theorem dM_whole_5 : decode prog_9_method_14_code 5 = .ok (.aload_n 0, 1) := by decide +kernel
theorem dM_whole_6 : decode prog_9_method_14_code 6 = .ok (.getfield 87, 3) := by decide +kernel
theorem dM_whole_9 : decode prog_9_method_14_code 9 = .ok (.iaload, 1) := by decide +kernel
theorem dM_whole_10 : decode prog_9_method_14_code 10 = .ok (.aload_n 0, 1) := by decide +kernel
theorem dM_whole_11 : decode prog_9_method_14_code 11 = .ok (.getfield 54, 3) := by decide +kernel
theorem dM_whole_14 : decode prog_9_method_14_code 14 = .ok (.aload_n 0, 1) := by decide +kernel
theorem dM_whole_15 : decode prog_9_method_14_code 15 = .ok (.getfield 87, 3) := by decide +kernel
theorem dM_whole_18 : decode prog_9_method_14_code 18 = .ok (.iaload, 1) := by decide +kernel
theorem dM_whole_19 : decode prog_9_method_14_code 19 = .ok (.invokevirtual 81, 3) := by decide +kernel
theorem dM_whole_22 : decode prog_9_method_14_code 22 = .ok (.ireturn, 1) := by decide +kernel
theorem dM_read_0 : decode prog_9_method_15_code 0 = .ok (.aload_n 0, 1) := by decide +kernel
theorem dM_read_1 : decode prog_9_method_15_code 1 = .ok (.iconst 0, 1) := by decide +kernel
theorem dM_read_2 : decode prog_9_method_15_code 2 = .ok (.putfield 87, 3) := by decide +kernel
theorem dM_read_5 : decode prog_9_method_15_code 5 = .ok (.aload_n 0, 1) := by decide +kernel
theorem dM_read_6 : decode prog_9_method_15_code 6 = .ok (.iconst 0, 1) := by decide +kernel
theorem dM_read_7 : decode prog_9_method_15_code 7 = .ok (.putfield 90, 3) := by decide +kernel
theorem dM_read_10 : decode prog_9_method_15_code 10 = .ok (.aload_n 0, 1) := by decide +kernel
theorem dM_read_11 : decode prog_9_method_15_code 11 = .ok (.iconst 1, 1) := by decide +kernel
theorem dM_read_12 : decode prog_9_method_15_code 12 = .ok (.putfield 93, 3) := by decide +kernel
theorem dM_read_15 : decode prog_9_method_15_code 15 = .ok (.aload_n 0, 1) := by decide +kernel
theorem dM_read_16 : decode prog_9_method_15_code 16 = .ok (.iconst 0, 1) := by decide +kernel
theorem dM_read_17 : decode prog_9_method_15_code 17 = .ok (.invokevirtual 97, 3) := by decide +kernel
theorem dM_read_20 : decode prog_9_method_15_code 20 = .ok (.aload_n 0, 1) := by decide +kernel
theorem dM_read_21 : decode prog_9_method_15_code 21 = .ok (.getfield 90, 3) := by decide +kernel
theorem dM_read_24 : decode prog_9_method_15_code 24 = .ok (.aload_n 0, 1) := by decide +kernel
theorem dM_read_25 : decode prog_9_method_15_code 25 = .ok (.getfield 84, 3) := by decide +kernel
theorem dM_read_28 : decode prog_9_method_15_code 28 = .ok (.if_icmp .ge 26, 3) := by decide +kernel
theorem dM_read_31 : decode prog_9_method_15_code 31 = .ok (.aload_n 0, 1) := by decide +kernel
theorem dM_read_32 : decode prog_9_method_15_code 32 = .ok (.getfield 93, 3) := by decide +kernel
theorem dM_read_35 : decode prog_9_method_15_code 35 = .ok (.ifCond .eq 19, 3) := by decide +kernel
theorem dM_read_38 : decode prog_9_method_15_code 38 = .ok (.aload_n 0, 1) := by decide +kernel
theorem dM_read_39 : decode prog_9_method_15_code 39 = .ok (.aload_n 0, 1) := by decide +kernel
theorem dM_read_40 : decode prog_9_method_15_code 40 = .ok (.getfield 19, 3) := by decide +kernel
theorem dM_read_43 : decode prog_9_method_15_code 43 = .ok (.aload_n 0, 1) := by decide +kernel
theorem dM_read_44 : decode prog_9_method_15_code 44 = .ok (.getfield 90, 3) := by decide +kernel
theorem dM_read_47 : decode prog_9_method_15_code 47 = .ok (.iaload, 1) := by decide +kernel
theorem dM_read_48 : decode prog_9_method_15_code 48 = .ok (.invokevirtual 101, 3) := by decide +kernel
theorem dM_read_51 : decode prog_9_method_15_code 51 = .ok (.goto (-31), 3) := by decide +kernel
theorem dM_read_54 : decode prog_9_method_15_code 54 = .ok (.aload_n 0, 1) := by decide +kernel
theorem dM_read_55 : decode prog_9_method_15_code 55 = .ok (.aload_n 0, 1) := by decide +kernel
theorem dM_read_56 : decode prog_9_method_15_code 56 = .ok (.getfield 93, 3) := by decide +kernel
theorem dM_read_59 : decode prog_9_method_15_code 59 = .ok (.ifCond .eq 24, 3) := by decide +kernel
theorem dM_read_62 : decode prog_9_method_15_code 62 = .ok (.aload_n 0, 1) := by decide +kernel
theorem dM_read_63 : decode prog_9_method_15_code 63 = .ok (.getfield 87, 3) := by decide +kernel
theorem dM_read_66 : decode prog_9_method_15_code 66 = .ok (.ifCond .ne 17, 3) := by decide +kernel
theorem dM_read_69 : decode prog_9_method_15_code 69 = .ok (.aload_n 0, 1) := by decide +kernel
theorem dM_read_70 : decode prog_9_method_15_code 70 = .ok (.getfield 54, 3) := by decide +kernel
theorem dM_read_73 : decode prog_9_method_15_code 73 = .ok (.iconst 0, 1) := by decide +kernel
theorem dM_read_74 : decode prog_9_method_15_code 74 = .ok (.iaload, 1) := by decide +kernel
theorem dM_read_75 : decode prog_9_method_15_code 75 = .ok (.iconst (-1), 1) := by decide +kernel
theorem dM_read_76 : decode prog_9_method_15_code 76 = .ok (.if_icmp .eq 7, 3) := by decide +kernel
theorem dM_read_79 : decode prog_9_method_15_code 79 = .ok (.iconst 1, 1) := by decide +kernel
theorem dM_read_80 : decode prog_9_method_15_code 80 = .ok (.goto 4, 3) := by decide +kernel
theorem dM_read_83 : decode prog_9_method_15_code 83 = .ok (.iconst 0, 1) := by decide +kernel
theorem dM_read_84 : decode prog_9_method_15_code 84 = .ok (.putfield 93, 3) := by decide +kernel
theorem dM_read_87 : decode prog_9_method_15_code 87 = .ok (.aload_n 0, 1) := by decide +kernel
theorem dM_read_88 : decode prog_9_method_15_code 88 = .ok (.getfield 93, 3) := by decide +kernel
theorem dM_read_91 : decode prog_9_method_15_code 91 = .ok (.ifCond .eq 11, 3) := by decide +kernel
theorem dM_read_94 : decode prog_9_method_15_code 94 = .ok (.aload_n 0, 1) := by decide +kernel
theorem dM_read_95 : decode prog_9_method_15_code 95 = .ok (.aload_n 0, 1) := by decide +kernel
theorem dM_read_96 : decode prog_9_method_15_code 96 = .ok (.invokevirtual 104, 3) := by decide +kernel
theorem dM_read_99 : decode prog_9_method_15_code 99 = .ok (.putfield 108, 3) := by decide +kernel
theorem dM_read_102 : decode prog_9_method_15_code 102 = .ok (.aload_n 0, 1) := by decide +kernel
theorem dM_read_103 : decode prog_9_method_15_code 103 = .ok (.getfield 93, 3) := by decide +kernel
theorem dM_read_106 : decode prog_9_method_15_code 106 = .ok (.ireturn, 1) := by decide +kernel
theorem dM_step_0 : decode prog_9_method_16_code 0 = .ok (.aload_n 0, 1) := by decide +kernel
theorem dM_step_1 : decode prog_9_method_16_code 1 = .ok (.dup, 1) := by decide +kernel
theorem dM_step_2 : decode prog_9_method_16_code 2 = .ok (.getfield 90, 3) := by decide +kernel
theorem dM_step_5 : decode prog_9_method_16_code 5 = .ok (.iconst 1, 1) := by decide +kernel
theorem dM_step_6 : decode prog_9_method_16_code 6 = .ok (.iadd, 1) := by decide +kernel
theorem dM_step_7 : decode prog_9_method_16_code 7 = .ok (.putfield 90, 3) := by decide +kernel
theorem dM_step_10 : decode prog_9_method_16_code 10 = .ok (.iload_n 1, 1) := by decide +kernel
theorem dM_step_11 : decode prog_9_method_16_code 11 = .ok (.bipush 97, 2) := by decide +kernel
theorem dM_step_13 : decode prog_9_method_16_code 13 = .ok (.if_icmp .lt 50, 3) := by decide +kernel
theorem dM_step_16 : decode prog_9_method_16_code 16 = .ok (.iload_n 1, 1) := by decide +kernel
theorem dM_step_17 : decode prog_9_method_16_code 17 = .ok (.bipush 102, 2) := by decide +kernel
theorem dM_step_19 : decode prog_9_method_16_code 19 = .ok (.if_icmp .gt 44, 3) := by decide +kernel
theorem dM_step_22 : decode prog_9_method_16_code 22 = .ok (.aload_n 0, 1) := by decide +kernel
theorem dM_step_23 : decode prog_9_method_16_code 23 = .ok (.iload_n 1, 1) := by decide +kernel
theorem dM_step_24 : decode prog_9_method_16_code 24 = .ok (.bipush 97, 2) := by decide +kernel
theorem dM_step_26 : decode prog_9_method_16_code 26 = .ok (.isub, 1) := by decide +kernel
theorem dM_step_27 : decode prog_9_method_16_code 27 = .ok (.aload_n 0, 1) := by decide +kernel
theorem dM_step_28 : decode prog_9_method_16_code 28 = .ok (.getfield 111, 3) := by decide +kernel
theorem dM_step_31 : decode prog_9_method_16_code 31 = .ok (.if_icmp .ge 7, 3) := by decide +kernel
theorem dM_step_34 : decode prog_9_method_16_code 34 = .ok (.iconst 1, 1) := by decide +kernel
theorem dM_step_35 : decode prog_9_method_16_code 35 = .ok (.goto 4, 3) := by decide +kernel
theorem dM_step_38 : decode prog_9_method_16_code 38 = .ok (.iconst 0, 1) := by decide +kernel
theorem dM_step_39 : decode prog_9_method_16_code 39 = .ok (.putfield 93, 3) := by decide +kernel
theorem dM_step_42 : decode prog_9_method_16_code 42 = .ok (.aload_n 0, 1) := by decide +kernel
theorem dM_step_43 : decode prog_9_method_16_code 43 = .ok (.getfield 93, 3) := by decide +kernel
theorem dM_step_46 : decode prog_9_method_16_code 46 = .ok (.ifCond .eq 16, 3) := by decide +kernel
theorem dM_step_49 : decode prog_9_method_16_code 49 = .ok (.aload_n 0, 1) := by decide +kernel
theorem dM_step_50 : decode prog_9_method_16_code 50 = .ok (.aload_n 0, 1) := by decide +kernel
theorem dM_step_51 : decode prog_9_method_16_code 51 = .ok (.getfield 22, 3) := by decide +kernel
theorem dM_step_54 : decode prog_9_method_16_code 54 = .ok (.iload_n 1, 1) := by decide +kernel
theorem dM_step_55 : decode prog_9_method_16_code 55 = .ok (.bipush 97, 2) := by decide +kernel
theorem dM_step_57 : decode prog_9_method_16_code 57 = .ok (.isub, 1) := by decide +kernel
theorem dM_step_58 : decode prog_9_method_16_code 58 = .ok (.iaload, 1) := by decide +kernel
theorem dM_step_59 : decode prog_9_method_16_code 59 = .ok (.invokevirtual 114, 3) := by decide +kernel
theorem dM_step_62 : decode prog_9_method_16_code 62 = .ok (.return_, 1) := by decide +kernel
theorem dM_step_63 : decode prog_9_method_16_code 63 = .ok (.iload_n 1, 1) := by decide +kernel
theorem dM_step_64 : decode prog_9_method_16_code 64 = .ok (.lookupswitch 152 #[(39, 136), (40, 76), (44, 144), (91, 83), (93, 144), (94, 136), (123, 83), (125, 144)], 76) := by decide +kernel
theorem dM_step_140 : decode prog_9_method_16_code 140 = .ok (.aload_n 0, 1) := by decide +kernel
theorem dM_step_141 : decode prog_9_method_16_code 141 = .ok (.invokevirtual 117, 3) := by decide +kernel
theorem dM_step_144 : decode prog_9_method_16_code 144 = .ok (.goto 77, 3) := by decide +kernel
theorem dM_step_147 : decode prog_9_method_16_code 147 = .ok (.aload_n 0, 1) := by decide +kernel
theorem dM_step_148 : decode prog_9_method_16_code 148 = .ok (.aload_n 0, 1) := by decide +kernel
theorem dM_step_149 : decode prog_9_method_16_code 149 = .ok (.getfield 87, 3) := by decide +kernel
theorem dM_step_152 : decode prog_9_method_16_code 152 = .ok (.iconst 4, 1) := by decide +kernel
theorem dM_step_153 : decode prog_9_method_16_code 153 = .ok (.if_icmp .ge 7, 3) := by decide +kernel
theorem dM_step_156 : decode prog_9_method_16_code 156 = .ok (.iconst 1, 1) := by decide +kernel
theorem dM_step_157 : decode prog_9_method_16_code 157 = .ok (.goto 4, 3) := by decide +kernel
theorem dM_step_160 : decode prog_9_method_16_code 160 = .ok (.iconst 0, 1) := by decide +kernel
theorem dM_step_161 : decode prog_9_method_16_code 161 = .ok (.putfield 93, 3) := by decide +kernel
theorem dM_step_164 : decode prog_9_method_16_code 164 = .ok (.aload_n 0, 1) := by decide +kernel
theorem dM_step_165 : decode prog_9_method_16_code 165 = .ok (.getfield 93, 3) := by decide +kernel
theorem dM_step_168 : decode prog_9_method_16_code 168 = .ok (.ifCond .ne 4, 3) := by decide +kernel
theorem dM_step_171 : decode prog_9_method_16_code 171 = .ok (.return_, 1) := by decide +kernel
theorem dM_step_172 : decode prog_9_method_16_code 172 = .ok (.aload_n 0, 1) := by decide +kernel
theorem dM_step_173 : decode prog_9_method_16_code 173 = .ok (.dup, 1) := by decide +kernel
theorem dM_step_174 : decode prog_9_method_16_code 174 = .ok (.getfield 87, 3) := by decide +kernel
theorem dM_step_177 : decode prog_9_method_16_code 177 = .ok (.iconst 1, 1) := by decide +kernel
theorem dM_step_178 : decode prog_9_method_16_code 178 = .ok (.iadd, 1) := by decide +kernel
theorem dM_step_179 : decode prog_9_method_16_code 179 = .ok (.putfield 87, 3) := by decide +kernel
theorem dM_step_182 : decode prog_9_method_16_code 182 = .ok (.aload_n 0, 1) := by decide +kernel
theorem dM_step_183 : decode prog_9_method_16_code 183 = .ok (.iload_n 1, 1) := by decide +kernel
theorem dM_step_184 : decode prog_9_method_16_code 184 = .ok (.bipush 123, 2) := by decide +kernel
theorem dM_step_186 : decode prog_9_method_16_code 186 = .ok (.if_icmp .ne 7, 3) := by decide +kernel
theorem dM_step_189 : decode prog_9_method_16_code 189 = .ok (.iconst 1, 1) := by decide +kernel
theorem dM_step_190 : decode prog_9_method_16_code 190 = .ok (.goto 4, 3) := by decide +kernel
theorem dM_step_193 : decode prog_9_method_16_code 193 = .ok (.iconst 2, 1) := by decide +kernel
theorem dM_step_194 : decode prog_9_method_16_code 194 = .ok (.invokevirtual 97, 3) := by decide +kernel
theorem dM_step_197 : decode prog_9_method_16_code 197 = .ok (.goto 24, 3) := by decide +kernel
theorem dM_step_200 : decode prog_9_method_16_code 200 = .ok (.aload_n 0, 1) := by decide +kernel
theorem dM_step_201 : decode prog_9_method_16_code 201 = .ok (.iload_n 1, 1) := by decide +kernel
theorem dM_step_202 : decode prog_9_method_16_code 202 = .ok (.invokevirtual 120, 3) := by decide +kernel
theorem dM_step_205 : decode prog_9_method_16_code 205 = .ok (.goto 16, 3) := by decide +kernel
theorem dM_step_208 : decode prog_9_method_16_code 208 = .ok (.aload_n 0, 1) := by decide +kernel
theorem dM_step_209 : decode prog_9_method_16_code 209 = .ok (.iload_n 1, 1) := by decide +kernel
theorem dM_step_210 : decode prog_9_method_16_code 210 = .ok (.invokevirtual 123, 3) := by decide +kernel
theorem dM_step_213 : decode prog_9_method_16_code 213 = .ok (.goto 8, 3) := by decide +kernel
theorem dM_step_216 : decode prog_9_method_16_code 216 = .ok (.aload_n 0, 1) := by decide +kernel
theorem dM_step_217 : decode prog_9_method_16_code 217 = .ok (.iconst 0, 1) := by decide +kernel
theorem dM_step_218 : decode prog_9_method_16_code 218 = .ok (.putfield 93, 3) := by decide +kernel
theorem dM_step_221 : decode prog_9_method_16_code 221 = .ok (.return_, 1) := by decide +kernel
theorem dM_cycle_0 : decode prog_9_method_17_code 0 = .ok (.aload_n 0, 1) := by decide +kernel
theorem dM_cycle_1 : decode prog_9_method_17_code 1 = .ok (.getfield 7, 3) := by decide +kernel
theorem dM_cycle_4 : decode prog_9_method_17_code 4 = .ok (.iconst 0, 1) := by decide +kernel
theorem dM_cycle_5 : decode prog_9_method_17_code 5 = .ok (.iaload, 1) := by decide +kernel
theorem dM_cycle_6 : decode prog_9_method_17_code 6 = .ok (.istore_n 1, 1) := by decide +kernel
theorem dM_cycle_7 : decode prog_9_method_17_code 7 = .ok (.iconst 0, 1) := by decide +kernel
theorem dM_cycle_8 : decode prog_9_method_17_code 8 = .ok (.istore_n 2, 1) := by decide +kernel
theorem dM_cycle_9 : decode prog_9_method_17_code 9 = .ok (.iconst (-1), 1) := by decide +kernel
theorem dM_cycle_10 : decode prog_9_method_17_code 10 = .ok (.istore_n 3, 1) := by decide +kernel
theorem dM_cycle_11 : decode prog_9_method_17_code 11 = .ok (.iconst (-1), 1) := by decide +kernel
theorem dM_cycle_12 : decode prog_9_method_17_code 12 = .ok (.istore 4, 2) := by decide +kernel
theorem dM_cycle_14 : decode prog_9_method_17_code 14 = .ok (.aload_n 0, 1) := by decide +kernel
theorem dM_cycle_15 : decode prog_9_method_17_code 15 = .ok (.getfield 90, 3) := by decide +kernel
theorem dM_cycle_18 : decode prog_9_method_17_code 18 = .ok (.aload_n 0, 1) := by decide +kernel
theorem dM_cycle_19 : decode prog_9_method_17_code 19 = .ok (.getfield 84, 3) := by decide +kernel
theorem dM_cycle_22 : decode prog_9_method_17_code 22 = .ok (.if_icmp .ge 105, 3) := by decide +kernel
theorem dM_cycle_25 : decode prog_9_method_17_code 25 = .ok (.aload_n 0, 1) := by decide +kernel
theorem dM_cycle_26 : decode prog_9_method_17_code 26 = .ok (.getfield 19, 3) := by decide +kernel
theorem dM_cycle_29 : decode prog_9_method_17_code 29 = .ok (.aload_n 0, 1) := by decide +kernel
theorem dM_cycle_30 : decode prog_9_method_17_code 30 = .ok (.getfield 90, 3) := by decide +kernel
theorem dM_cycle_33 : decode prog_9_method_17_code 33 = .ok (.iaload, 1) := by decide +kernel
theorem dM_cycle_34 : decode prog_9_method_17_code 34 = .ok (.bipush 41, 2) := by decide +kernel
theorem dM_cycle_36 : decode prog_9_method_17_code 36 = .ok (.if_icmp .eq 91, 3) := by decide +kernel
theorem dM_cycle_39 : decode prog_9_method_17_code 39 = .ok (.aload_n 0, 1) := by decide +kernel
theorem dM_cycle_40 : decode prog_9_method_17_code 40 = .ok (.getfield 19, 3) := by decide +kernel
theorem dM_cycle_43 : decode prog_9_method_17_code 43 = .ok (.aload_n 0, 1) := by decide +kernel
theorem dM_cycle_44 : decode prog_9_method_17_code 44 = .ok (.getfield 90, 3) := by decide +kernel
theorem dM_cycle_47 : decode prog_9_method_17_code 47 = .ok (.iaload, 1) := by decide +kernel
theorem dM_cycle_48 : decode prog_9_method_17_code 48 = .ok (.bipush 48, 2) := by decide +kernel
theorem dM_cycle_50 : decode prog_9_method_17_code 50 = .ok (.isub, 1) := by decide +kernel
theorem dM_cycle_51 : decode prog_9_method_17_code 51 = .ok (.istore 5, 2) := by decide +kernel
theorem dM_cycle_53 : decode prog_9_method_17_code 53 = .ok (.iload 5, 2) := by decide +kernel
theorem dM_cycle_55 : decode prog_9_method_17_code 55 = .ok (.ifCond .lt 22, 3) := by decide +kernel
theorem dM_cycle_58 : decode prog_9_method_17_code 58 = .ok (.iload 5, 2) := by decide +kernel
theorem dM_cycle_60 : decode prog_9_method_17_code 60 = .ok (.aload_n 0, 1) := by decide +kernel
theorem dM_cycle_61 : decode prog_9_method_17_code 61 = .ok (.getfield 60, 3) := by decide +kernel
theorem dM_cycle_64 : decode prog_9_method_17_code 64 = .ok (.if_icmp .ge 13, 3) := by decide +kernel
theorem dM_cycle_67 : decode prog_9_method_17_code 67 = .ok (.iload_n 2, 1) := by decide +kernel
theorem dM_cycle_68 : decode prog_9_method_17_code 68 = .ok (.iload 5, 2) := by decide +kernel
theorem dM_cycle_70 : decode prog_9_method_17_code 70 = .ok (.ishr, 1) := by decide +kernel
theorem dM_cycle_71 : decode prog_9_method_17_code 71 = .ok (.iconst 1, 1) := by decide +kernel
theorem dM_cycle_72 : decode prog_9_method_17_code 72 = .ok (.iand, 1) := by decide +kernel
theorem dM_cycle_73 : decode prog_9_method_17_code 73 = .ok (.iconst 1, 1) := by decide +kernel
theorem dM_cycle_74 : decode prog_9_method_17_code 74 = .ok (.if_icmp .ne 9, 3) := by decide +kernel
theorem dM_cycle_77 : decode prog_9_method_17_code 77 = .ok (.aload_n 0, 1) := by decide +kernel
theorem dM_cycle_78 : decode prog_9_method_17_code 78 = .ok (.iconst 0, 1) := by decide +kernel
theorem dM_cycle_79 : decode prog_9_method_17_code 79 = .ok (.putfield 93, 3) := by decide +kernel
theorem dM_cycle_82 : decode prog_9_method_17_code 82 = .ok (.return_, 1) := by decide +kernel
theorem dM_cycle_83 : decode prog_9_method_17_code 83 = .ok (.iload_n 2, 1) := by decide +kernel
theorem dM_cycle_84 : decode prog_9_method_17_code 84 = .ok (.iconst 1, 1) := by decide +kernel
theorem dM_cycle_85 : decode prog_9_method_17_code 85 = .ok (.iload 5, 2) := by decide +kernel
theorem dM_cycle_87 : decode prog_9_method_17_code 87 = .ok (.ishl, 1) := by decide +kernel
theorem dM_cycle_88 : decode prog_9_method_17_code 88 = .ok (.ior, 1) := by decide +kernel
theorem dM_cycle_89 : decode prog_9_method_17_code 89 = .ok (.istore_n 2, 1) := by decide +kernel
theorem dM_cycle_90 : decode prog_9_method_17_code 90 = .ok (.iload_n 3, 1) := by decide +kernel
theorem dM_cycle_91 : decode prog_9_method_17_code 91 = .ok (.iconst (-1), 1) := by decide +kernel
theorem dM_cycle_92 : decode prog_9_method_17_code 92 = .ok (.if_icmp .ne 9, 3) := by decide +kernel
theorem dM_cycle_95 : decode prog_9_method_17_code 95 = .ok (.iload 5, 2) := by decide +kernel
theorem dM_cycle_97 : decode prog_9_method_17_code 97 = .ok (.istore_n 3, 1) := by decide +kernel
theorem dM_cycle_98 : decode prog_9_method_17_code 98 = .ok (.goto 12, 3) := by decide +kernel
theorem dM_cycle_101 : decode prog_9_method_17_code 101 = .ok (.iload_n 1, 1) := by decide +kernel
theorem dM_cycle_102 : decode prog_9_method_17_code 102 = .ok (.iload 4, 2) := by decide +kernel
theorem dM_cycle_104 : decode prog_9_method_17_code 104 = .ok (.iload 5, 2) := by decide +kernel
theorem dM_cycle_106 : decode prog_9_method_17_code 106 = .ok (.invokestatic 126, 3) := by decide +kernel
theorem dM_cycle_109 : decode prog_9_method_17_code 109 = .ok (.istore_n 1, 1) := by decide +kernel
theorem dM_cycle_110 : decode prog_9_method_17_code 110 = .ok (.iload 5, 2) := by decide +kernel
theorem dM_cycle_112 : decode prog_9_method_17_code 112 = .ok (.istore 4, 2) := by decide +kernel
theorem dM_cycle_114 : decode prog_9_method_17_code 114 = .ok (.aload_n 0, 1) := by decide +kernel
theorem dM_cycle_115 : decode prog_9_method_17_code 115 = .ok (.dup, 1) := by decide +kernel
theorem dM_cycle_116 : decode prog_9_method_17_code 116 = .ok (.getfield 90, 3) := by decide +kernel
theorem dM_cycle_119 : decode prog_9_method_17_code 119 = .ok (.iconst 1, 1) := by decide +kernel
theorem dM_cycle_120 : decode prog_9_method_17_code 120 = .ok (.iadd, 1) := by decide +kernel
theorem dM_cycle_121 : decode prog_9_method_17_code 121 = .ok (.putfield 90, 3) := by decide +kernel
theorem dM_cycle_124 : decode prog_9_method_17_code 124 = .ok (.goto (-110), 3) := by decide +kernel
theorem dM_cycle_127 : decode prog_9_method_17_code 127 = .ok (.aload_n 0, 1) := by decide +kernel
theorem dM_cycle_128 : decode prog_9_method_17_code 128 = .ok (.aload_n 0, 1) := by decide +kernel
theorem dM_cycle_129 : decode prog_9_method_17_code 129 = .ok (.getfield 90, 3) := by decide +kernel
theorem dM_cycle_132 : decode prog_9_method_17_code 132 = .ok (.aload_n 0, 1) := by decide +kernel
theorem dM_cycle_133 : decode prog_9_method_17_code 133 = .ok (.getfield 84, 3) := by decide +kernel
theorem dM_cycle_136 : decode prog_9_method_17_code 136 = .ok (.if_icmp .ge 7, 3) := by decide +kernel
theorem dM_cycle_139 : decode prog_9_method_17_code 139 = .ok (.iconst 1, 1) := by decide +kernel
theorem dM_cycle_140 : decode prog_9_method_17_code 140 = .ok (.goto 4, 3) := by decide +kernel
theorem dM_cycle_143 : decode prog_9_method_17_code 143 = .ok (.iconst 0, 1) := by decide +kernel
theorem dM_cycle_144 : decode prog_9_method_17_code 144 = .ok (.putfield 93, 3) := by decide +kernel
theorem dM_cycle_147 : decode prog_9_method_17_code 147 = .ok (.aload_n 0, 1) := by decide +kernel
theorem dM_cycle_148 : decode prog_9_method_17_code 148 = .ok (.dup, 1) := by decide +kernel
theorem dM_cycle_149 : decode prog_9_method_17_code 149 = .ok (.getfield 90, 3) := by decide +kernel
theorem dM_cycle_152 : decode prog_9_method_17_code 152 = .ok (.iconst 1, 1) := by decide +kernel
theorem dM_cycle_153 : decode prog_9_method_17_code 153 = .ok (.iadd, 1) := by decide +kernel
theorem dM_cycle_154 : decode prog_9_method_17_code 154 = .ok (.putfield 90, 3) := by decide +kernel
theorem dM_cycle_157 : decode prog_9_method_17_code 157 = .ok (.iload_n 3, 1) := by decide +kernel
theorem dM_cycle_158 : decode prog_9_method_17_code 158 = .ok (.iconst (-1), 1) := by decide +kernel
theorem dM_cycle_159 : decode prog_9_method_17_code 159 = .ok (.if_icmp .eq 11, 3) := by decide +kernel
theorem dM_cycle_162 : decode prog_9_method_17_code 162 = .ok (.iload_n 1, 1) := by decide +kernel
theorem dM_cycle_163 : decode prog_9_method_17_code 163 = .ok (.iload 4, 2) := by decide +kernel
theorem dM_cycle_165 : decode prog_9_method_17_code 165 = .ok (.iload_n 3, 1) := by decide +kernel
theorem dM_cycle_166 : decode prog_9_method_17_code 166 = .ok (.invokestatic 126, 3) := by decide +kernel
theorem dM_cycle_169 : decode prog_9_method_17_code 169 = .ok (.istore_n 1, 1) := by decide +kernel
theorem dM_cycle_170 : decode prog_9_method_17_code 170 = .ok (.aload_n 0, 1) := by decide +kernel
theorem dM_cycle_171 : decode prog_9_method_17_code 171 = .ok (.iload_n 1, 1) := by decide +kernel
theorem dM_cycle_172 : decode prog_9_method_17_code 172 = .ok (.invokevirtual 114, 3) := by decide +kernel
theorem dM_cycle_175 : decode prog_9_method_17_code 175 = .ok (.return_, 1) := by decide +kernel
theorem dM_with_0 : decode prog_9_method_18_code 0 = .ok (.iload_n 0, 1) := by decide +kernel
theorem dM_with_1 : decode prog_9_method_18_code 1 = .ok (.bipush 7, 2) := by decide +kernel
theorem dM_with_3 : decode prog_9_method_18_code 3 = .ok (.iconst 3, 1) := by decide +kernel
theorem dM_with_4 : decode prog_9_method_18_code 4 = .ok (.iload_n 1, 1) := by decide +kernel
theorem dM_with_5 : decode prog_9_method_18_code 5 = .ok (.imul, 1) := by decide +kernel
theorem dM_with_6 : decode prog_9_method_18_code 6 = .ok (.ishl, 1) := by decide +kernel
theorem dM_with_7 : decode prog_9_method_18_code 7 = .ok (.iconst (-1), 1) := by decide +kernel
theorem dM_with_8 : decode prog_9_method_18_code 8 = .ok (.ixor, 1) := by decide +kernel
theorem dM_with_9 : decode prog_9_method_18_code 9 = .ok (.iand, 1) := by decide +kernel
theorem dM_with_10 : decode prog_9_method_18_code 10 = .ok (.iload_n 2, 1) := by decide +kernel
theorem dM_with_11 : decode prog_9_method_18_code 11 = .ok (.iconst 3, 1) := by decide +kernel
theorem dM_with_12 : decode prog_9_method_18_code 12 = .ok (.iload_n 1, 1) := by decide +kernel
theorem dM_with_13 : decode prog_9_method_18_code 13 = .ok (.imul, 1) := by decide +kernel
theorem dM_with_14 : decode prog_9_method_18_code 14 = .ok (.ishl, 1) := by decide +kernel
theorem dM_with_15 : decode prog_9_method_18_code 15 = .ok (.ior, 1) := by decide +kernel
theorem dM_with_16 : decode prog_9_method_18_code 16 = .ok (.ireturn, 1) := by decide +kernel
theorem dM_sign_0 : decode prog_9_method_19_code 0 = .ok (.aload_n 0, 1) := by decide +kernel
theorem dM_sign_1 : decode prog_9_method_19_code 1 = .ok (.getfield 54, 3) := by decide +kernel
theorem dM_sign_4 : decode prog_9_method_19_code 4 = .ok (.aload_n 0, 1) := by decide +kernel
theorem dM_sign_5 : decode prog_9_method_19_code 5 = .ok (.getfield 87, 3) := by decide +kernel
theorem dM_sign_8 : decode prog_9_method_19_code 8 = .ok (.iaload, 1) := by decide +kernel
theorem dM_sign_9 : decode prog_9_method_19_code 9 = .ok (.istore_n 2, 1) := by decide +kernel
theorem dM_sign_10 : decode prog_9_method_19_code 10 = .ok (.aload_n 0, 1) := by decide +kernel
theorem dM_sign_11 : decode prog_9_method_19_code 11 = .ok (.iload_n 2, 1) := by decide +kernel
theorem dM_sign_12 : decode prog_9_method_19_code 12 = .ok (.iconst (-1), 1) := by decide +kernel
theorem dM_sign_13 : decode prog_9_method_19_code 13 = .ok (.if_icmp .eq 7, 3) := by decide +kernel
theorem dM_sign_16 : decode prog_9_method_19_code 16 = .ok (.iconst 1, 1) := by decide +kernel
theorem dM_sign_17 : decode prog_9_method_19_code 17 = .ok (.goto 4, 3) := by decide +kernel
theorem dM_sign_20 : decode prog_9_method_19_code 20 = .ok (.iconst 0, 1) := by decide +kernel
theorem dM_sign_21 : decode prog_9_method_19_code 21 = .ok (.putfield 93, 3) := by decide +kernel
theorem dM_sign_24 : decode prog_9_method_19_code 24 = .ok (.aload_n 0, 1) := by decide +kernel
theorem dM_sign_25 : decode prog_9_method_19_code 25 = .ok (.getfield 93, 3) := by decide +kernel
theorem dM_sign_28 : decode prog_9_method_19_code 28 = .ok (.ifCond .ne 4, 3) := by decide +kernel
theorem dM_sign_31 : decode prog_9_method_19_code 31 = .ok (.return_, 1) := by decide +kernel
theorem dM_sign_32 : decode prog_9_method_19_code 32 = .ok (.iload_n 1, 1) := by decide +kernel
theorem dM_sign_33 : decode prog_9_method_19_code 33 = .ok (.bipush 39, 2) := by decide +kernel
theorem dM_sign_35 : decode prog_9_method_19_code 35 = .ok (.if_icmp .ne 18, 3) := by decide +kernel
theorem dM_sign_38 : decode prog_9_method_19_code 38 = .ok (.aload_n 0, 1) := by decide +kernel
theorem dM_sign_39 : decode prog_9_method_19_code 39 = .ok (.getfield 54, 3) := by decide +kernel
theorem dM_sign_42 : decode prog_9_method_19_code 42 = .ok (.aload_n 0, 1) := by decide +kernel
theorem dM_sign_43 : decode prog_9_method_19_code 43 = .ok (.getfield 87, 3) := by decide +kernel
theorem dM_sign_46 : decode prog_9_method_19_code 46 = .ok (.aload_n 0, 1) := by decide +kernel
theorem dM_sign_47 : decode prog_9_method_19_code 47 = .ok (.iload_n 2, 1) := by decide +kernel
theorem dM_sign_48 : decode prog_9_method_19_code 48 = .ok (.invokevirtual 78, 3) := by decide +kernel
theorem dM_sign_51 : decode prog_9_method_19_code 51 = .ok (.iastore, 1) := by decide +kernel
theorem dM_sign_52 : decode prog_9_method_19_code 52 = .ok (.return_, 1) := by decide +kernel
theorem dM_sign_53 : decode prog_9_method_19_code 53 = .ok (.aload_n 0, 1) := by decide +kernel
theorem dM_sign_54 : decode prog_9_method_19_code 54 = .ok (.getfield 90, 3) := by decide +kernel
theorem dM_sign_57 : decode prog_9_method_19_code 57 = .ok (.aload_n 0, 1) := by decide +kernel
theorem dM_sign_58 : decode prog_9_method_19_code 58 = .ok (.getfield 84, 3) := by decide +kernel
theorem dM_sign_61 : decode prog_9_method_19_code 61 = .ok (.if_icmp .ge 18, 3) := by decide +kernel
theorem dM_sign_64 : decode prog_9_method_19_code 64 = .ok (.aload_n 0, 1) := by decide +kernel
theorem dM_sign_65 : decode prog_9_method_19_code 65 = .ok (.getfield 19, 3) := by decide +kernel
theorem dM_sign_68 : decode prog_9_method_19_code 68 = .ok (.aload_n 0, 1) := by decide +kernel
theorem dM_sign_69 : decode prog_9_method_19_code 69 = .ok (.getfield 90, 3) := by decide +kernel
theorem dM_sign_72 : decode prog_9_method_19_code 72 = .ok (.iaload, 1) := by decide +kernel
theorem dM_sign_73 : decode prog_9_method_19_code 73 = .ok (.bipush 48, 2) := by decide +kernel
theorem dM_sign_75 : decode prog_9_method_19_code 75 = .ok (.isub, 1) := by decide +kernel
theorem dM_sign_76 : decode prog_9_method_19_code 76 = .ok (.goto 4, 3) := by decide +kernel
theorem dM_sign_79 : decode prog_9_method_19_code 79 = .ok (.iconst (-1), 1) := by decide +kernel
theorem dM_sign_80 : decode prog_9_method_19_code 80 = .ok (.istore_n 3, 1) := by decide +kernel
theorem dM_sign_81 : decode prog_9_method_19_code 81 = .ok (.aload_n 0, 1) := by decide +kernel
theorem dM_sign_82 : decode prog_9_method_19_code 82 = .ok (.dup, 1) := by decide +kernel
theorem dM_sign_83 : decode prog_9_method_19_code 83 = .ok (.getfield 90, 3) := by decide +kernel
theorem dM_sign_86 : decode prog_9_method_19_code 86 = .ok (.iconst 1, 1) := by decide +kernel
theorem dM_sign_87 : decode prog_9_method_19_code 87 = .ok (.iadd, 1) := by decide +kernel
theorem dM_sign_88 : decode prog_9_method_19_code 88 = .ok (.putfield 90, 3) := by decide +kernel
theorem dM_sign_91 : decode prog_9_method_19_code 91 = .ok (.aload_n 0, 1) := by decide +kernel
theorem dM_sign_92 : decode prog_9_method_19_code 92 = .ok (.iload_n 3, 1) := by decide +kernel
theorem dM_sign_93 : decode prog_9_method_19_code 93 = .ok (.ifCond .lt 13, 3) := by decide +kernel
theorem dM_sign_96 : decode prog_9_method_19_code 96 = .ok (.iload_n 3, 1) := by decide +kernel
theorem dM_sign_97 : decode prog_9_method_19_code 97 = .ok (.bipush 9, 2) := by decide +kernel
theorem dM_sign_99 : decode prog_9_method_19_code 99 = .ok (.if_icmp .gt 7, 3) := by decide +kernel
theorem dM_sign_102 : decode prog_9_method_19_code 102 = .ok (.iconst 1, 1) := by decide +kernel
theorem dM_sign_103 : decode prog_9_method_19_code 103 = .ok (.goto 4, 3) := by decide +kernel
theorem dM_sign_106 : decode prog_9_method_19_code 106 = .ok (.iconst 0, 1) := by decide +kernel
theorem dM_sign_107 : decode prog_9_method_19_code 107 = .ok (.putfield 93, 3) := by decide +kernel
theorem dM_sign_110 : decode prog_9_method_19_code 110 = .ok (.aload_n 0, 1) := by decide +kernel
theorem dM_sign_111 : decode prog_9_method_19_code 111 = .ok (.getfield 7, 3) := by decide +kernel
theorem dM_sign_114 : decode prog_9_method_19_code 114 = .ok (.iconst 0, 1) := by decide +kernel
theorem dM_sign_115 : decode prog_9_method_19_code 115 = .ok (.iaload, 1) := by decide +kernel
theorem dM_sign_116 : decode prog_9_method_19_code 116 = .ok (.istore 4, 2) := by decide +kernel
theorem dM_sign_118 : decode prog_9_method_19_code 118 = .ok (.iconst 0, 1) := by decide +kernel
theorem dM_sign_119 : decode prog_9_method_19_code 119 = .ok (.istore 5, 2) := by decide +kernel
theorem dM_sign_121 : decode prog_9_method_19_code 121 = .ok (.iload 5, 2) := by decide +kernel
theorem dM_sign_123 : decode prog_9_method_19_code 123 = .ok (.iload_n 3, 1) := by decide +kernel
theorem dM_sign_124 : decode prog_9_method_19_code 124 = .ok (.if_icmp .ge 18, 3) := by decide +kernel
theorem dM_sign_127 : decode prog_9_method_19_code 127 = .ok (.aload_n 0, 1) := by decide +kernel
theorem dM_sign_128 : decode prog_9_method_19_code 128 = .ok (.iload 4, 2) := by decide +kernel
theorem dM_sign_130 : decode prog_9_method_19_code 130 = .ok (.iload_n 2, 1) := by decide +kernel
theorem dM_sign_131 : decode prog_9_method_19_code 131 = .ok (.invokevirtual 81, 3) := by decide +kernel
theorem dM_sign_134 : decode prog_9_method_19_code 134 = .ok (.istore 4, 2) := by decide +kernel
theorem dM_sign_136 : decode prog_9_method_19_code 136 = .ok (.iinc 5 1, 3) := by decide +kernel
theorem dM_sign_139 : decode prog_9_method_19_code 139 = .ok (.goto (-18), 3) := by decide +kernel
theorem dM_sign_142 : decode prog_9_method_19_code 142 = .ok (.aload_n 0, 1) := by decide +kernel
theorem dM_sign_143 : decode prog_9_method_19_code 143 = .ok (.getfield 54, 3) := by decide +kernel
theorem dM_sign_146 : decode prog_9_method_19_code 146 = .ok (.aload_n 0, 1) := by decide +kernel
theorem dM_sign_147 : decode prog_9_method_19_code 147 = .ok (.getfield 87, 3) := by decide +kernel
theorem dM_sign_150 : decode prog_9_method_19_code 150 = .ok (.iload 4, 2) := by decide +kernel
theorem dM_sign_152 : decode prog_9_method_19_code 152 = .ok (.iastore, 1) := by decide +kernel
theorem dM_sign_153 : decode prog_9_method_19_code 153 = .ok (.return_, 1) := by decide +kernel
theorem dM_close_0 : decode prog_9_method_20_code 0 = .ok (.iload_n 1, 1) := by decide +kernel
theorem dM_close_1 : decode prog_9_method_20_code 1 = .ok (.bipush 44, 2) := by decide +kernel
theorem dM_close_3 : decode prog_9_method_20_code 3 = .ok (.if_icmp .ne 7, 3) := by decide +kernel
theorem dM_close_6 : decode prog_9_method_20_code 6 = .ok (.iconst 2, 1) := by decide +kernel
theorem dM_close_7 : decode prog_9_method_20_code 7 = .ok (.goto 14, 3) := by decide +kernel
theorem dM_close_10 : decode prog_9_method_20_code 10 = .ok (.iload_n 1, 1) := by decide +kernel
theorem dM_close_11 : decode prog_9_method_20_code 11 = .ok (.bipush 125, 2) := by decide +kernel
theorem dM_close_13 : decode prog_9_method_20_code 13 = .ok (.if_icmp .ne 7, 3) := by decide +kernel
theorem dM_close_16 : decode prog_9_method_20_code 16 = .ok (.iconst 1, 1) := by decide +kernel
theorem dM_close_17 : decode prog_9_method_20_code 17 = .ok (.goto 4, 3) := by decide +kernel
theorem dM_close_20 : decode prog_9_method_20_code 20 = .ok (.iconst 3, 1) := by decide +kernel
theorem dM_close_21 : decode prog_9_method_20_code 21 = .ok (.istore_n 2, 1) := by decide +kernel
theorem dM_close_22 : decode prog_9_method_20_code 22 = .ok (.aload_n 0, 1) := by decide +kernel
theorem dM_close_23 : decode prog_9_method_20_code 23 = .ok (.aload_n 0, 1) := by decide +kernel
theorem dM_close_24 : decode prog_9_method_20_code 24 = .ok (.getfield 54, 3) := by decide +kernel
theorem dM_close_27 : decode prog_9_method_20_code 27 = .ok (.aload_n 0, 1) := by decide +kernel
theorem dM_close_28 : decode prog_9_method_20_code 28 = .ok (.getfield 87, 3) := by decide +kernel
theorem dM_close_31 : decode prog_9_method_20_code 31 = .ok (.iaload, 1) := by decide +kernel
theorem dM_close_32 : decode prog_9_method_20_code 32 = .ok (.iconst (-1), 1) := by decide +kernel
theorem dM_close_33 : decode prog_9_method_20_code 33 = .ok (.if_icmp .eq 20, 3) := by decide +kernel
theorem dM_close_36 : decode prog_9_method_20_code 36 = .ok (.aload_n 0, 1) := by decide +kernel
theorem dM_close_37 : decode prog_9_method_20_code 37 = .ok (.getfield 48, 3) := by decide +kernel
theorem dM_close_40 : decode prog_9_method_20_code 40 = .ok (.aload_n 0, 1) := by decide +kernel
theorem dM_close_41 : decode prog_9_method_20_code 41 = .ok (.getfield 87, 3) := by decide +kernel
theorem dM_close_44 : decode prog_9_method_20_code 44 = .ok (.iaload, 1) := by decide +kernel
theorem dM_close_45 : decode prog_9_method_20_code 45 = .ok (.iload_n 2, 1) := by decide +kernel
theorem dM_close_46 : decode prog_9_method_20_code 46 = .ok (.if_icmp .ne 7, 3) := by decide +kernel
theorem dM_close_49 : decode prog_9_method_20_code 49 = .ok (.iconst 1, 1) := by decide +kernel
theorem dM_close_50 : decode prog_9_method_20_code 50 = .ok (.goto 4, 3) := by decide +kernel
theorem dM_close_53 : decode prog_9_method_20_code 53 = .ok (.iconst 0, 1) := by decide +kernel
theorem dM_close_54 : decode prog_9_method_20_code 54 = .ok (.putfield 93, 3) := by decide +kernel
theorem dM_close_57 : decode prog_9_method_20_code 57 = .ok (.aload_n 0, 1) := by decide +kernel
theorem dM_close_58 : decode prog_9_method_20_code 58 = .ok (.getfield 93, 3) := by decide +kernel
theorem dM_close_61 : decode prog_9_method_20_code 61 = .ok (.ifCond .ne 4, 3) := by decide +kernel
theorem dM_close_64 : decode prog_9_method_20_code 64 = .ok (.return_, 1) := by decide +kernel
theorem dM_close_65 : decode prog_9_method_20_code 65 = .ok (.aload_n 0, 1) := by decide +kernel
theorem dM_close_66 : decode prog_9_method_20_code 66 = .ok (.invokevirtual 104, 3) := by decide +kernel
theorem dM_close_69 : decode prog_9_method_20_code 69 = .ok (.istore_n 3, 1) := by decide +kernel
theorem dM_close_70 : decode prog_9_method_20_code 70 = .ok (.iload_n 1, 1) := by decide +kernel
theorem dM_close_71 : decode prog_9_method_20_code 71 = .ok (.bipush 44, 2) := by decide +kernel
theorem dM_close_73 : decode prog_9_method_20_code 73 = .ok (.if_icmp .ne 19, 3) := by decide +kernel
theorem dM_close_76 : decode prog_9_method_20_code 76 = .ok (.aload_n 0, 1) := by decide +kernel
theorem dM_close_77 : decode prog_9_method_20_code 77 = .ok (.getfield 57, 3) := by decide +kernel
theorem dM_close_80 : decode prog_9_method_20_code 80 = .ok (.aload_n 0, 1) := by decide +kernel
theorem dM_close_81 : decode prog_9_method_20_code 81 = .ok (.getfield 87, 3) := by decide +kernel
theorem dM_close_84 : decode prog_9_method_20_code 84 = .ok (.iload_n 3, 1) := by decide +kernel
theorem dM_close_85 : decode prog_9_method_20_code 85 = .ok (.iastore, 1) := by decide +kernel
theorem dM_close_86 : decode prog_9_method_20_code 86 = .ok (.aload_n 0, 1) := by decide +kernel
theorem dM_close_87 : decode prog_9_method_20_code 87 = .ok (.iconst 3, 1) := by decide +kernel
theorem dM_close_88 : decode prog_9_method_20_code 88 = .ok (.invokevirtual 97, 3) := by decide +kernel
theorem dM_close_91 : decode prog_9_method_20_code 91 = .ok (.return_, 1) := by decide +kernel
theorem dM_close_92 : decode prog_9_method_20_code 92 = .ok (.aload_n 0, 1) := by decide +kernel
theorem dM_close_93 : decode prog_9_method_20_code 93 = .ok (.getfield 57, 3) := by decide +kernel
theorem dM_close_96 : decode prog_9_method_20_code 96 = .ok (.aload_n 0, 1) := by decide +kernel
theorem dM_close_97 : decode prog_9_method_20_code 97 = .ok (.getfield 87, 3) := by decide +kernel
theorem dM_close_100 : decode prog_9_method_20_code 100 = .ok (.iaload, 1) := by decide +kernel
theorem dM_close_101 : decode prog_9_method_20_code 101 = .ok (.istore 4, 2) := by decide +kernel
theorem dM_close_103 : decode prog_9_method_20_code 103 = .ok (.aload_n 0, 1) := by decide +kernel
theorem dM_close_104 : decode prog_9_method_20_code 104 = .ok (.dup, 1) := by decide +kernel
theorem dM_close_105 : decode prog_9_method_20_code 105 = .ok (.getfield 87, 3) := by decide +kernel
theorem dM_close_108 : decode prog_9_method_20_code 108 = .ok (.iconst 1, 1) := by decide +kernel
theorem dM_close_109 : decode prog_9_method_20_code 109 = .ok (.isub, 1) := by decide +kernel
theorem dM_close_110 : decode prog_9_method_20_code 110 = .ok (.putfield 87, 3) := by decide +kernel
theorem dM_close_113 : decode prog_9_method_20_code 113 = .ok (.aload_n 0, 1) := by decide +kernel
theorem dM_close_114 : decode prog_9_method_20_code 114 = .ok (.iload_n 1, 1) := by decide +kernel
theorem dM_close_115 : decode prog_9_method_20_code 115 = .ok (.bipush 125, 2) := by decide +kernel
theorem dM_close_117 : decode prog_9_method_20_code 117 = .ok (.if_icmp .ne 7, 3) := by decide +kernel
theorem dM_close_120 : decode prog_9_method_20_code 120 = .ok (.iload_n 3, 1) := by decide +kernel
theorem dM_close_121 : decode prog_9_method_20_code 121 = .ok (.goto 10, 3) := by decide +kernel
theorem dM_close_124 : decode prog_9_method_20_code 124 = .ok (.aload_n 0, 1) := by decide +kernel
theorem dM_close_125 : decode prog_9_method_20_code 125 = .ok (.iload 4, 2) := by decide +kernel
theorem dM_close_127 : decode prog_9_method_20_code 127 = .ok (.iload_n 3, 1) := by decide +kernel
theorem dM_close_128 : decode prog_9_method_20_code 128 = .ok (.invokevirtual 130, 3) := by decide +kernel
theorem dM_close_131 : decode prog_9_method_20_code 131 = .ok (.invokevirtual 114, 3) := by decide +kernel
theorem dM_close_134 : decode prog_9_method_20_code 134 = .ok (.return_, 1) := by decide +kernel
theorem dM_value_0 : decode prog_9_method_21_code 0 = .ok (.aload_n 0, 1) := by decide +kernel
theorem dM_value_1 : decode prog_9_method_21_code 1 = .ok (.iconst 0, 1) := by decide +kernel
theorem dM_value_2 : decode prog_9_method_21_code 2 = .ok (.putfield 71, 3) := by decide +kernel
theorem dM_value_5 : decode prog_9_method_21_code 5 = .ok (.aload_n 0, 1) := by decide +kernel
theorem dM_value_6 : decode prog_9_method_21_code 6 = .ok (.invokevirtual 133, 3) := by decide +kernel
theorem dM_value_9 : decode prog_9_method_21_code 9 = .ok (.ifCond .ne 9, 3) := by decide +kernel
theorem dM_value_12 : decode prog_9_method_21_code 12 = .ok (.aload_n 0, 1) := by decide +kernel
theorem dM_value_13 : decode prog_9_method_21_code 13 = .ok (.iconst 1, 1) := by decide +kernel
theorem dM_value_14 : decode prog_9_method_21_code 14 = .ok (.invokevirtual 137, 3) := by decide +kernel
theorem dM_value_17 : decode prog_9_method_21_code 17 = .ok (.ireturn, 1) := by decide +kernel
theorem dM_value_18 : decode prog_9_method_21_code 18 = .ok (.iload_n 1, 1) := by decide +kernel
theorem dM_value_19 : decode prog_9_method_21_code 19 = .ok (.ifCond .lt 11, 3) := by decide +kernel
theorem dM_value_22 : decode prog_9_method_21_code 22 = .ok (.iload_n 1, 1) := by decide +kernel
theorem dM_value_23 : decode prog_9_method_21_code 23 = .ok (.aload_n 0, 1) := by decide +kernel
theorem dM_value_24 : decode prog_9_method_21_code 24 = .ok (.getfield 60, 3) := by decide +kernel
theorem dM_value_27 : decode prog_9_method_21_code 27 = .ok (.if_icmp .lt 9, 3) := by decide +kernel
theorem dM_value_30 : decode prog_9_method_21_code 30 = .ok (.aload_n 0, 1) := by decide +kernel
theorem dM_value_31 : decode prog_9_method_21_code 31 = .ok (.iconst 2, 1) := by decide +kernel
theorem dM_value_32 : decode prog_9_method_21_code 32 = .ok (.invokevirtual 137, 3) := by decide +kernel
theorem dM_value_35 : decode prog_9_method_21_code 35 = .ok (.ireturn, 1) := by decide +kernel
theorem dM_value_36 : decode prog_9_method_21_code 36 = .ok (.aload_n 0, 1) := by decide +kernel
theorem dM_value_37 : decode prog_9_method_21_code 37 = .ok (.aload_n 0, 1) := by decide +kernel
theorem dM_value_38 : decode prog_9_method_21_code 38 = .ok (.getfield 108, 3) := by decide +kernel
theorem dM_value_41 : decode prog_9_method_21_code 41 = .ok (.iload_n 1, 1) := by decide +kernel
theorem dM_value_42 : decode prog_9_method_21_code 42 = .ok (.invokevirtual 74, 3) := by decide +kernel
theorem dM_value_45 : decode prog_9_method_21_code 45 = .ok (.ireturn, 1) := by decide +kernel
theorem dM_isIn_0 : decode prog_9_method_22_code 0 = .ok (.aload_n 0, 1) := by decide +kernel
theorem dM_isIn_1 : decode prog_9_method_22_code 1 = .ok (.getfield 32, 3) := by decide +kernel
theorem dM_isIn_4 : decode prog_9_method_22_code 4 = .ok (.bipush 79, 2) := by decide +kernel
theorem dM_isIn_6 : decode prog_9_method_22_code 6 = .ok (.iload_n 1, 1) := by decide +kernel
theorem dM_isIn_7 : decode prog_9_method_22_code 7 = .ok (.imul, 1) := by decide +kernel
theorem dM_isIn_8 : decode prog_9_method_22_code 8 = .ok (.iload_n 2, 1) := by decide +kernel
theorem dM_isIn_9 : decode prog_9_method_22_code 9 = .ok (.bipush 64, 2) := by decide +kernel
theorem dM_isIn_11 : decode prog_9_method_22_code 11 = .ok (.idiv, 1) := by decide +kernel
theorem dM_isIn_12 : decode prog_9_method_22_code 12 = .ok (.iadd, 1) := by decide +kernel
theorem dM_isIn_13 : decode prog_9_method_22_code 13 = .ok (.laload, 1) := by decide +kernel
theorem dM_isIn_14 : decode prog_9_method_22_code 14 = .ok (.iload_n 2, 1) := by decide +kernel
theorem dM_isIn_15 : decode prog_9_method_22_code 15 = .ok (.bipush 64, 2) := by decide +kernel
theorem dM_isIn_17 : decode prog_9_method_22_code 17 = .ok (.irem, 1) := by decide +kernel
theorem dM_isIn_18 : decode prog_9_method_22_code 18 = .ok (.lshr, 1) := by decide +kernel
theorem dM_isIn_19 : decode prog_9_method_22_code 19 = .ok (.lconst 1, 1) := by decide +kernel
theorem dM_isIn_20 : decode prog_9_method_22_code 20 = .ok (.land, 1) := by decide +kernel
theorem dM_isIn_21 : decode prog_9_method_22_code 21 = .ok (.lconst 1, 1) := by decide +kernel
theorem dM_isIn_22 : decode prog_9_method_22_code 22 = .ok (.lcmp, 1) := by decide +kernel
theorem dM_isIn_23 : decode prog_9_method_22_code 23 = .ok (.ifCond .ne 7, 3) := by decide +kernel
theorem dM_isIn_26 : decode prog_9_method_22_code 26 = .ok (.iconst 1, 1) := by decide +kernel
theorem dM_isIn_27 : decode prog_9_method_22_code 27 = .ok (.goto 4, 3) := by decide +kernel
theorem dM_isIn_30 : decode prog_9_method_22_code 30 = .ok (.iconst 0, 1) := by decide +kernel
theorem dM_isIn_31 : decode prog_9_method_22_code 31 = .ok (.ireturn, 1) := by decide +kernel
theorem dM_isFilled_0 : decode prog_9_method_23_code 0 = .ok (.aload_n 0, 1) := by decide +kernel
theorem dM_isFilled_1 : decode prog_9_method_23_code 1 = .ok (.getfield 36, 3) := by decide +kernel
theorem dM_isFilled_4 : decode prog_9_method_23_code 4 = .ok (.iload_n 1, 1) := by decide +kernel
theorem dM_isFilled_5 : decode prog_9_method_23_code 5 = .ok (.bipush 64, 2) := by decide +kernel
theorem dM_isFilled_7 : decode prog_9_method_23_code 7 = .ok (.idiv, 1) := by decide +kernel
theorem dM_isFilled_8 : decode prog_9_method_23_code 8 = .ok (.laload, 1) := by decide +kernel
theorem dM_isFilled_9 : decode prog_9_method_23_code 9 = .ok (.iload_n 1, 1) := by decide +kernel
theorem dM_isFilled_10 : decode prog_9_method_23_code 10 = .ok (.bipush 64, 2) := by decide +kernel
theorem dM_isFilled_12 : decode prog_9_method_23_code 12 = .ok (.irem, 1) := by decide +kernel
theorem dM_isFilled_13 : decode prog_9_method_23_code 13 = .ok (.lshr, 1) := by decide +kernel
theorem dM_isFilled_14 : decode prog_9_method_23_code 14 = .ok (.lconst 1, 1) := by decide +kernel
theorem dM_isFilled_15 : decode prog_9_method_23_code 15 = .ok (.land, 1) := by decide +kernel
theorem dM_isFilled_16 : decode prog_9_method_23_code 16 = .ok (.lconst 1, 1) := by decide +kernel
theorem dM_isFilled_17 : decode prog_9_method_23_code 17 = .ok (.lcmp, 1) := by decide +kernel
theorem dM_isFilled_18 : decode prog_9_method_23_code 18 = .ok (.ifCond .ne 7, 3) := by decide +kernel
theorem dM_isFilled_21 : decode prog_9_method_23_code 21 = .ok (.iconst 1, 1) := by decide +kernel
theorem dM_isFilled_22 : decode prog_9_method_23_code 22 = .ok (.goto 4, 3) := by decide +kernel
theorem dM_isFilled_25 : decode prog_9_method_23_code 25 = .ok (.iconst 0, 1) := by decide +kernel
theorem dM_isFilled_26 : decode prog_9_method_23_code 26 = .ok (.ireturn, 1) := by decide +kernel
theorem dM_clearFilled_0 : decode prog_9_method_24_code 0 = .ok (.iconst 0, 1) := by decide +kernel
theorem dM_clearFilled_1 : decode prog_9_method_24_code 1 = .ok (.istore_n 1, 1) := by decide +kernel
theorem dM_clearFilled_2 : decode prog_9_method_24_code 2 = .ok (.iload_n 1, 1) := by decide +kernel
theorem dM_clearFilled_3 : decode prog_9_method_24_code 3 = .ok (.bipush 79, 2) := by decide +kernel
theorem dM_clearFilled_5 : decode prog_9_method_24_code 5 = .ok (.if_icmp .ge 16, 3) := by decide +kernel
theorem dM_clearFilled_8 : decode prog_9_method_24_code 8 = .ok (.aload_n 0, 1) := by decide +kernel
theorem dM_clearFilled_9 : decode prog_9_method_24_code 9 = .ok (.getfield 36, 3) := by decide +kernel
theorem dM_clearFilled_12 : decode prog_9_method_24_code 12 = .ok (.iload_n 1, 1) := by decide +kernel
theorem dM_clearFilled_13 : decode prog_9_method_24_code 13 = .ok (.lconst 0, 1) := by decide +kernel
theorem dM_clearFilled_14 : decode prog_9_method_24_code 14 = .ok (.lastore, 1) := by decide +kernel
theorem dM_clearFilled_15 : decode prog_9_method_24_code 15 = .ok (.iinc 1 1, 3) := by decide +kernel
theorem dM_clearFilled_18 : decode prog_9_method_24_code 18 = .ok (.goto (-16), 3) := by decide +kernel
theorem dM_clearFilled_21 : decode prog_9_method_24_code 21 = .ok (.return_, 1) := by decide +kernel
theorem dM_put_0 : decode prog_9_method_25_code 0 = .ok (.aload_n 0, 1) := by decide +kernel
theorem dM_put_1 : decode prog_9_method_25_code 1 = .ok (.getfield 36, 3) := by decide +kernel
theorem dM_put_4 : decode prog_9_method_25_code 4 = .ok (.iload_n 1, 1) := by decide +kernel
theorem dM_put_5 : decode prog_9_method_25_code 5 = .ok (.bipush 64, 2) := by decide +kernel
theorem dM_put_7 : decode prog_9_method_25_code 7 = .ok (.idiv, 1) := by decide +kernel
theorem dM_put_8 : decode prog_9_method_25_code 8 = .ok (.dup2, 1) := by decide +kernel
theorem dM_put_9 : decode prog_9_method_25_code 9 = .ok (.laload, 1) := by decide +kernel
theorem dM_put_10 : decode prog_9_method_25_code 10 = .ok (.lconst 1, 1) := by decide +kernel
theorem dM_put_11 : decode prog_9_method_25_code 11 = .ok (.iload_n 1, 1) := by decide +kernel
theorem dM_put_12 : decode prog_9_method_25_code 12 = .ok (.bipush 64, 2) := by decide +kernel
theorem dM_put_14 : decode prog_9_method_25_code 14 = .ok (.irem, 1) := by decide +kernel
theorem dM_put_15 : decode prog_9_method_25_code 15 = .ok (.lshl, 1) := by decide +kernel
theorem dM_put_16 : decode prog_9_method_25_code 16 = .ok (.lor, 1) := by decide +kernel
theorem dM_put_17 : decode prog_9_method_25_code 17 = .ok (.lastore, 1) := by decide +kernel
theorem dM_put_18 : decode prog_9_method_25_code 18 = .ok (.return_, 1) := by decide +kernel
theorem dM_fill_0 : decode prog_9_method_26_code 0 = .ok (.aload_n 0, 1) := by decide +kernel
theorem dM_fill_1 : decode prog_9_method_26_code 1 = .ok (.invokevirtual 140, 3) := by decide +kernel
theorem dM_fill_4 : decode prog_9_method_26_code 4 = .ok (.aload_n 0, 1) := by decide +kernel
theorem dM_fill_5 : decode prog_9_method_26_code 5 = .ok (.iconst 0, 1) := by decide +kernel
theorem dM_fill_6 : decode prog_9_method_26_code 6 = .ok (.invokevirtual 143, 3) := by decide +kernel
theorem dM_fill_9 : decode prog_9_method_26_code 9 = .ok (.aload_n 0, 1) := by decide +kernel
theorem dM_fill_10 : decode prog_9_method_26_code 10 = .ok (.getfield 39, 3) := by decide +kernel
theorem dM_fill_13 : decode prog_9_method_26_code 13 = .ok (.iconst 0, 1) := by decide +kernel
theorem dM_fill_14 : decode prog_9_method_26_code 14 = .ok (.aload_n 0, 1) := by decide +kernel
theorem dM_fill_15 : decode prog_9_method_26_code 15 = .ok (.getfield 7, 3) := by decide +kernel
theorem dM_fill_18 : decode prog_9_method_26_code 18 = .ok (.iconst 0, 1) := by decide +kernel
theorem dM_fill_19 : decode prog_9_method_26_code 19 = .ok (.iaload, 1) := by decide +kernel
theorem dM_fill_20 : decode prog_9_method_26_code 20 = .ok (.iastore, 1) := by decide +kernel
theorem dM_fill_21 : decode prog_9_method_26_code 21 = .ok (.iconst 1, 1) := by decide +kernel
theorem dM_fill_22 : decode prog_9_method_26_code 22 = .ok (.istore_n 1, 1) := by decide +kernel
theorem dM_fill_23 : decode prog_9_method_26_code 23 = .ok (.iconst 0, 1) := by decide +kernel
theorem dM_fill_24 : decode prog_9_method_26_code 24 = .ok (.istore_n 2, 1) := by decide +kernel
theorem dM_fill_25 : decode prog_9_method_26_code 25 = .ok (.iload_n 2, 1) := by decide +kernel
theorem dM_fill_26 : decode prog_9_method_26_code 26 = .ok (.iload_n 1, 1) := by decide +kernel
theorem dM_fill_27 : decode prog_9_method_26_code 27 = .ok (.if_icmp .ge 80, 3) := by decide +kernel
theorem dM_fill_30 : decode prog_9_method_26_code 30 = .ok (.iconst 0, 1) := by decide +kernel
theorem dM_fill_31 : decode prog_9_method_26_code 31 = .ok (.istore_n 3, 1) := by decide +kernel
theorem dM_fill_32 : decode prog_9_method_26_code 32 = .ok (.iload_n 3, 1) := by decide +kernel
theorem dM_fill_33 : decode prog_9_method_26_code 33 = .ok (.aload_n 0, 1) := by decide +kernel
theorem dM_fill_34 : decode prog_9_method_26_code 34 = .ok (.getfield 146, 3) := by decide +kernel
theorem dM_fill_37 : decode prog_9_method_26_code 37 = .ok (.if_icmp .ge 64, 3) := by decide +kernel
theorem dM_fill_40 : decode prog_9_method_26_code 40 = .ok (.aload_n 0, 1) := by decide +kernel
theorem dM_fill_41 : decode prog_9_method_26_code 41 = .ok (.aload_n 0, 1) := by decide +kernel
theorem dM_fill_42 : decode prog_9_method_26_code 42 = .ok (.getfield 39, 3) := by decide +kernel
theorem dM_fill_45 : decode prog_9_method_26_code 45 = .ok (.iload_n 2, 1) := by decide +kernel
theorem dM_fill_46 : decode prog_9_method_26_code 46 = .ok (.iaload, 1) := by decide +kernel
theorem dM_fill_47 : decode prog_9_method_26_code 47 = .ok (.aload_n 0, 1) := by decide +kernel
theorem dM_fill_48 : decode prog_9_method_26_code 48 = .ok (.getfield 42, 3) := by decide +kernel
theorem dM_fill_51 : decode prog_9_method_26_code 51 = .ok (.iload_n 3, 1) := by decide +kernel
theorem dM_fill_52 : decode prog_9_method_26_code 52 = .ok (.iaload, 1) := by decide +kernel
theorem dM_fill_53 : decode prog_9_method_26_code 53 = .ok (.invokevirtual 81, 3) := by decide +kernel
theorem dM_fill_56 : decode prog_9_method_26_code 56 = .ok (.istore 4, 2) := by decide +kernel
theorem dM_fill_58 : decode prog_9_method_26_code 58 = .ok (.aload_n 0, 1) := by decide +kernel
theorem dM_fill_59 : decode prog_9_method_26_code 59 = .ok (.iload 4, 2) := by decide +kernel
theorem dM_fill_61 : decode prog_9_method_26_code 61 = .ok (.invokevirtual 149, 3) := by decide +kernel
theorem dM_fill_64 : decode prog_9_method_26_code 64 = .ok (.istore 5, 2) := by decide +kernel
theorem dM_fill_66 : decode prog_9_method_26_code 66 = .ok (.aload_n 0, 1) := by decide +kernel
theorem dM_fill_67 : decode prog_9_method_26_code 67 = .ok (.iload 5, 2) := by decide +kernel
theorem dM_fill_69 : decode prog_9_method_26_code 69 = .ok (.invokevirtual 152, 3) := by decide +kernel
theorem dM_fill_72 : decode prog_9_method_26_code 72 = .ok (.ifCond .eq 6, 3) := by decide +kernel
theorem dM_fill_75 : decode prog_9_method_26_code 75 = .ok (.goto 20, 3) := by decide +kernel
theorem dM_fill_78 : decode prog_9_method_26_code 78 = .ok (.aload_n 0, 1) := by decide +kernel
theorem dM_fill_79 : decode prog_9_method_26_code 79 = .ok (.iload 5, 2) := by decide +kernel
theorem dM_fill_81 : decode prog_9_method_26_code 81 = .ok (.invokevirtual 143, 3) := by decide +kernel
theorem dM_fill_84 : decode prog_9_method_26_code 84 = .ok (.aload_n 0, 1) := by decide +kernel
theorem dM_fill_85 : decode prog_9_method_26_code 85 = .ok (.getfield 39, 3) := by decide +kernel
theorem dM_fill_88 : decode prog_9_method_26_code 88 = .ok (.iload_n 1, 1) := by decide +kernel
theorem dM_fill_89 : decode prog_9_method_26_code 89 = .ok (.iload 4, 2) := by decide +kernel
theorem dM_fill_91 : decode prog_9_method_26_code 91 = .ok (.iastore, 1) := by decide +kernel
theorem dM_fill_92 : decode prog_9_method_26_code 92 = .ok (.iinc 1 1, 3) := by decide +kernel
theorem dM_fill_95 : decode prog_9_method_26_code 95 = .ok (.iinc 3 1, 3) := by decide +kernel
theorem dM_fill_98 : decode prog_9_method_26_code 98 = .ok (.goto (-66), 3) := by decide +kernel
theorem dM_fill_101 : decode prog_9_method_26_code 101 = .ok (.iinc 2 1, 3) := by decide +kernel
theorem dM_fill_104 : decode prog_9_method_26_code 104 = .ok (.goto (-79), 3) := by decide +kernel
theorem dM_fill_107 : decode prog_9_method_26_code 107 = .ok (.return_, 1) := by decide +kernel
theorem dM_begin_0 : decode prog_9_method_27_code 0 = .ok (.aload_n 0, 1) := by decide +kernel
theorem dM_begin_1 : decode prog_9_method_27_code 1 = .ok (.iconst 0, 1) := by decide +kernel
theorem dM_begin_2 : decode prog_9_method_27_code 2 = .ok (.putfield 146, 3) := by decide +kernel
theorem dM_begin_5 : decode prog_9_method_27_code 5 = .ok (.aload_n 0, 1) := by decide +kernel
theorem dM_begin_6 : decode prog_9_method_27_code 6 = .ok (.invokevirtual 156, 3) := by decide +kernel
theorem dM_begin_9 : decode prog_9_method_27_code 9 = .ok (.return_, 1) := by decide +kernel
theorem dM_grow_0 : decode prog_9_method_28_code 0 = .ok (.aload_n 0, 1) := by decide +kernel
theorem dM_grow_1 : decode prog_9_method_28_code 1 = .ok (.iload_n 1, 1) := by decide +kernel
theorem dM_grow_2 : decode prog_9_method_28_code 2 = .ok (.invokevirtual 149, 3) := by decide +kernel
theorem dM_grow_5 : decode prog_9_method_28_code 5 = .ok (.istore_n 2, 1) := by decide +kernel
theorem dM_grow_6 : decode prog_9_method_28_code 6 = .ok (.aload_n 0, 1) := by decide +kernel
theorem dM_grow_7 : decode prog_9_method_28_code 7 = .ok (.iload_n 2, 1) := by decide +kernel
theorem dM_grow_8 : decode prog_9_method_28_code 8 = .ok (.invokevirtual 152, 3) := by decide +kernel
theorem dM_grow_11 : decode prog_9_method_28_code 11 = .ok (.ifCond .eq 4, 3) := by decide +kernel
theorem dM_grow_14 : decode prog_9_method_28_code 14 = .ok (.return_, 1) := by decide +kernel
theorem dM_grow_15 : decode prog_9_method_28_code 15 = .ok (.aload_n 0, 1) := by decide +kernel
theorem dM_grow_16 : decode prog_9_method_28_code 16 = .ok (.getfield 42, 3) := by decide +kernel
theorem dM_grow_19 : decode prog_9_method_28_code 19 = .ok (.aload_n 0, 1) := by decide +kernel
theorem dM_grow_20 : decode prog_9_method_28_code 20 = .ok (.getfield 146, 3) := by decide +kernel
theorem dM_grow_23 : decode prog_9_method_28_code 23 = .ok (.iload_n 1, 1) := by decide +kernel
theorem dM_grow_24 : decode prog_9_method_28_code 24 = .ok (.iastore, 1) := by decide +kernel
theorem dM_grow_25 : decode prog_9_method_28_code 25 = .ok (.aload_n 0, 1) := by decide +kernel
theorem dM_grow_26 : decode prog_9_method_28_code 26 = .ok (.dup, 1) := by decide +kernel
theorem dM_grow_27 : decode prog_9_method_28_code 27 = .ok (.getfield 146, 3) := by decide +kernel
theorem dM_grow_30 : decode prog_9_method_28_code 30 = .ok (.iconst 1, 1) := by decide +kernel
theorem dM_grow_31 : decode prog_9_method_28_code 31 = .ok (.iadd, 1) := by decide +kernel
theorem dM_grow_32 : decode prog_9_method_28_code 32 = .ok (.putfield 146, 3) := by decide +kernel
theorem dM_grow_35 : decode prog_9_method_28_code 35 = .ok (.aload_n 0, 1) := by decide +kernel
theorem dM_grow_36 : decode prog_9_method_28_code 36 = .ok (.invokevirtual 156, 3) := by decide +kernel
theorem dM_grow_39 : decode prog_9_method_28_code 39 = .ok (.return_, 1) := by decide +kernel
theorem dM_store_0 : decode prog_9_method_29_code 0 = .ok (.iconst 0, 1) := by decide +kernel
theorem dM_store_1 : decode prog_9_method_29_code 1 = .ok (.istore_n 2, 1) := by decide +kernel
theorem dM_store_2 : decode prog_9_method_29_code 2 = .ok (.iload_n 2, 1) := by decide +kernel
theorem dM_store_3 : decode prog_9_method_29_code 3 = .ok (.bipush 79, 2) := by decide +kernel
theorem dM_store_5 : decode prog_9_method_29_code 5 = .ok (.if_icmp .ge 26, 3) := by decide +kernel
theorem dM_store_8 : decode prog_9_method_29_code 8 = .ok (.aload_n 0, 1) := by decide +kernel
theorem dM_store_9 : decode prog_9_method_29_code 9 = .ok (.getfield 32, 3) := by decide +kernel
theorem dM_store_12 : decode prog_9_method_29_code 12 = .ok (.bipush 79, 2) := by decide +kernel
theorem dM_store_14 : decode prog_9_method_29_code 14 = .ok (.iload_n 1, 1) := by decide +kernel
theorem dM_store_15 : decode prog_9_method_29_code 15 = .ok (.imul, 1) := by decide +kernel
theorem dM_store_16 : decode prog_9_method_29_code 16 = .ok (.iload_n 2, 1) := by decide +kernel
theorem dM_store_17 : decode prog_9_method_29_code 17 = .ok (.iadd, 1) := by decide +kernel
theorem dM_store_18 : decode prog_9_method_29_code 18 = .ok (.aload_n 0, 1) := by decide +kernel
theorem dM_store_19 : decode prog_9_method_29_code 19 = .ok (.getfield 36, 3) := by decide +kernel
theorem dM_store_22 : decode prog_9_method_29_code 22 = .ok (.iload_n 2, 1) := by decide +kernel
theorem dM_store_23 : decode prog_9_method_29_code 23 = .ok (.laload, 1) := by decide +kernel
theorem dM_store_24 : decode prog_9_method_29_code 24 = .ok (.lastore, 1) := by decide +kernel
theorem dM_store_25 : decode prog_9_method_29_code 25 = .ok (.iinc 2 1, 3) := by decide +kernel
theorem dM_store_28 : decode prog_9_method_29_code 28 = .ok (.goto (-26), 3) := by decide +kernel
theorem dM_store_31 : decode prog_9_method_29_code 31 = .ok (.aload_n 0, 1) := by decide +kernel
theorem dM_store_32 : decode prog_9_method_29_code 32 = .ok (.iload_n 1, 1) := by decide +kernel
theorem dM_store_33 : decode prog_9_method_29_code 33 = .ok (.invokevirtual 159, 3) := by decide +kernel
theorem dM_store_36 : decode prog_9_method_29_code 36 = .ok (.ireturn, 1) := by decide +kernel
theorem dM_orderOf_0 : decode prog_9_method_30_code 0 = .ok (.iconst 0, 1) := by decide +kernel
theorem dM_orderOf_1 : decode prog_9_method_30_code 1 = .ok (.istore_n 2, 1) := by decide +kernel
theorem dM_orderOf_2 : decode prog_9_method_30_code 2 = .ok (.iconst 0, 1) := by decide +kernel
theorem dM_orderOf_3 : decode prog_9_method_30_code 3 = .ok (.istore_n 3, 1) := by decide +kernel
theorem dM_orderOf_4 : decode prog_9_method_30_code 4 = .ok (.iload_n 3, 1) := by decide +kernel
theorem dM_orderOf_5 : decode prog_9_method_30_code 5 = .ok (.aload_n 0, 1) := by decide +kernel
theorem dM_orderOf_6 : decode prog_9_method_30_code 6 = .ok (.getfield 64, 3) := by decide +kernel
theorem dM_orderOf_9 : decode prog_9_method_30_code 9 = .ok (.if_icmp .ge 26, 3) := by decide +kernel
theorem dM_orderOf_12 : decode prog_9_method_30_code 12 = .ok (.iload_n 2, 1) := by decide +kernel
theorem dM_orderOf_13 : decode prog_9_method_30_code 13 = .ok (.aload_n 0, 1) := by decide +kernel
theorem dM_orderOf_14 : decode prog_9_method_30_code 14 = .ok (.iload_n 1, 1) := by decide +kernel
theorem dM_orderOf_15 : decode prog_9_method_30_code 15 = .ok (.iload_n 3, 1) := by decide +kernel
theorem dM_orderOf_16 : decode prog_9_method_30_code 16 = .ok (.invokevirtual 162, 3) := by decide +kernel
theorem dM_orderOf_19 : decode prog_9_method_30_code 19 = .ok (.ifCond .eq 7, 3) := by decide +kernel
theorem dM_orderOf_22 : decode prog_9_method_30_code 22 = .ok (.iconst 1, 1) := by decide +kernel
theorem dM_orderOf_23 : decode prog_9_method_30_code 23 = .ok (.goto 4, 3) := by decide +kernel
theorem dM_orderOf_26 : decode prog_9_method_30_code 26 = .ok (.iconst 0, 1) := by decide +kernel
theorem dM_orderOf_27 : decode prog_9_method_30_code 27 = .ok (.iadd, 1) := by decide +kernel
theorem dM_orderOf_28 : decode prog_9_method_30_code 28 = .ok (.istore_n 2, 1) := by decide +kernel
theorem dM_orderOf_29 : decode prog_9_method_30_code 29 = .ok (.iinc 3 1, 3) := by decide +kernel
theorem dM_orderOf_32 : decode prog_9_method_30_code 32 = .ok (.goto (-28), 3) := by decide +kernel
theorem dM_orderOf_35 : decode prog_9_method_30_code 35 = .ok (.iload_n 2, 1) := by decide +kernel
theorem dM_orderOf_36 : decode prog_9_method_30_code 36 = .ok (.ireturn, 1) := by decide +kernel
theorem dM_fillZero_0 : decode prog_9_method_31_code 0 = .ok (.aload_n 0, 1) := by decide +kernel
theorem dM_fillZero_1 : decode prog_9_method_31_code 1 = .ok (.invokevirtual 166, 3) := by decide +kernel
theorem dM_fillZero_4 : decode prog_9_method_31_code 4 = .ok (.iconst 0, 1) := by decide +kernel
theorem dM_fillZero_5 : decode prog_9_method_31_code 5 = .ok (.istore_n 1, 1) := by decide +kernel
theorem dM_fillZero_6 : decode prog_9_method_31_code 6 = .ok (.iload_n 1, 1) := by decide +kernel
theorem dM_fillZero_7 : decode prog_9_method_31_code 7 = .ok (.aload_n 0, 1) := by decide +kernel
theorem dM_fillZero_8 : decode prog_9_method_31_code 8 = .ok (.getfield 111, 3) := by decide +kernel
theorem dM_fillZero_11 : decode prog_9_method_31_code 11 = .ok (.if_icmp .ge 19, 3) := by decide +kernel
theorem dM_fillZero_14 : decode prog_9_method_31_code 14 = .ok (.aload_n 0, 1) := by decide +kernel
theorem dM_fillZero_15 : decode prog_9_method_31_code 15 = .ok (.aload_n 0, 1) := by decide +kernel
theorem dM_fillZero_16 : decode prog_9_method_31_code 16 = .ok (.getfield 22, 3) := by decide +kernel
theorem dM_fillZero_19 : decode prog_9_method_31_code 19 = .ok (.iload_n 1, 1) := by decide +kernel
theorem dM_fillZero_20 : decode prog_9_method_31_code 20 = .ok (.iaload, 1) := by decide +kernel
theorem dM_fillZero_21 : decode prog_9_method_31_code 21 = .ok (.invokevirtual 169, 3) := by decide +kernel
theorem dM_fillZero_24 : decode prog_9_method_31_code 24 = .ok (.iinc 1 1, 3) := by decide +kernel
theorem dM_fillZero_27 : decode prog_9_method_31_code 27 = .ok (.goto (-21), 3) := by decide +kernel
theorem dM_fillZero_30 : decode prog_9_method_31_code 30 = .ok (.aload_n 0, 1) := by decide +kernel
theorem dM_fillZero_31 : decode prog_9_method_31_code 31 = .ok (.iconst 0, 1) := by decide +kernel
theorem dM_fillZero_32 : decode prog_9_method_31_code 32 = .ok (.invokevirtual 172, 3) := by decide +kernel
theorem dM_fillZero_35 : decode prog_9_method_31_code 35 = .ok (.pop, 1) := by decide +kernel
theorem dM_fillZero_36 : decode prog_9_method_31_code 36 = .ok (.return_, 1) := by decide +kernel
theorem dM_generate_0 : decode prog_9_method_32_code 0 = .ok (.aload_n 0, 1) := by decide +kernel
theorem dM_generate_1 : decode prog_9_method_32_code 1 = .ok (.iconst 0, 1) := by decide +kernel
theorem dM_generate_2 : decode prog_9_method_32_code 2 = .ok (.putfield 71, 3) := by decide +kernel
theorem dM_generate_5 : decode prog_9_method_32_code 5 = .ok (.aload_n 0, 1) := by decide +kernel
theorem dM_generate_6 : decode prog_9_method_32_code 6 = .ok (.invokevirtual 133, 3) := by decide +kernel
theorem dM_generate_9 : decode prog_9_method_32_code 9 = .ok (.ifCond .ne 9, 3) := by decide +kernel
theorem dM_generate_12 : decode prog_9_method_32_code 12 = .ok (.aload_n 0, 1) := by decide +kernel
theorem dM_generate_13 : decode prog_9_method_32_code 13 = .ok (.iconst 1, 1) := by decide +kernel
theorem dM_generate_14 : decode prog_9_method_32_code 14 = .ok (.invokevirtual 137, 3) := by decide +kernel
theorem dM_generate_17 : decode prog_9_method_32_code 17 = .ok (.ireturn, 1) := by decide +kernel
theorem dM_generate_18 : decode prog_9_method_32_code 18 = .ok (.aload_n 0, 1) := by decide +kernel
theorem dM_generate_19 : decode prog_9_method_32_code 19 = .ok (.getfield 111, 3) := by decide +kernel
theorem dM_generate_22 : decode prog_9_method_32_code 22 = .ok (.bipush 6, 2) := by decide +kernel
theorem dM_generate_24 : decode prog_9_method_32_code 24 = .ok (.if_icmp .ne 9, 3) := by decide +kernel
theorem dM_generate_27 : decode prog_9_method_32_code 27 = .ok (.aload_n 0, 1) := by decide +kernel
theorem dM_generate_28 : decode prog_9_method_32_code 28 = .ok (.iconst 2, 1) := by decide +kernel
theorem dM_generate_29 : decode prog_9_method_32_code 29 = .ok (.invokevirtual 137, 3) := by decide +kernel
theorem dM_generate_32 : decode prog_9_method_32_code 32 = .ok (.ireturn, 1) := by decide +kernel
theorem dM_generate_33 : decode prog_9_method_32_code 33 = .ok (.aload_n 0, 1) := by decide +kernel
theorem dM_generate_34 : decode prog_9_method_32_code 34 = .ok (.getfield 22, 3) := by decide +kernel
theorem dM_generate_37 : decode prog_9_method_32_code 37 = .ok (.aload_n 0, 1) := by decide +kernel
theorem dM_generate_38 : decode prog_9_method_32_code 38 = .ok (.getfield 111, 3) := by decide +kernel
theorem dM_generate_41 : decode prog_9_method_32_code 41 = .ok (.aload_n 0, 1) := by decide +kernel
theorem dM_generate_42 : decode prog_9_method_32_code 42 = .ok (.getfield 108, 3) := by decide +kernel
theorem dM_generate_45 : decode prog_9_method_32_code 45 = .ok (.iastore, 1) := by decide +kernel
theorem dM_generate_46 : decode prog_9_method_32_code 46 = .ok (.aload_n 0, 1) := by decide +kernel
theorem dM_generate_47 : decode prog_9_method_32_code 47 = .ok (.getfield 28, 3) := by decide +kernel
theorem dM_generate_50 : decode prog_9_method_32_code 50 = .ok (.aload_n 0, 1) := by decide +kernel
theorem dM_generate_51 : decode prog_9_method_32_code 51 = .ok (.getfield 111, 3) := by decide +kernel
theorem dM_generate_54 : decode prog_9_method_32_code 54 = .ok (.iconst 0, 1) := by decide +kernel
theorem dM_generate_55 : decode prog_9_method_32_code 55 = .ok (.bastore, 1) := by decide +kernel
theorem dM_generate_56 : decode prog_9_method_32_code 56 = .ok (.aload_n 0, 1) := by decide +kernel
theorem dM_generate_57 : decode prog_9_method_32_code 57 = .ok (.dup, 1) := by decide +kernel
theorem dM_generate_58 : decode prog_9_method_32_code 58 = .ok (.getfield 111, 3) := by decide +kernel
theorem dM_generate_61 : decode prog_9_method_32_code 61 = .ok (.iconst 1, 1) := by decide +kernel
theorem dM_generate_62 : decode prog_9_method_32_code 62 = .ok (.iadd, 1) := by decide +kernel
theorem dM_generate_63 : decode prog_9_method_32_code 63 = .ok (.putfield 111, 3) := by decide +kernel
theorem dM_generate_66 : decode prog_9_method_32_code 66 = .ok (.aload_n 0, 1) := by decide +kernel
theorem dM_generate_67 : decode prog_9_method_32_code 67 = .ok (.invokevirtual 175, 3) := by decide +kernel
theorem dM_generate_70 : decode prog_9_method_32_code 70 = .ok (.aload_n 0, 1) := by decide +kernel
theorem dM_generate_71 : decode prog_9_method_32_code 71 = .ok (.getfield 111, 3) := by decide +kernel
theorem dM_generate_74 : decode prog_9_method_32_code 74 = .ok (.ireturn, 1) := by decide +kernel
theorem dM_forget_0 : decode prog_9_method_33_code 0 = .ok (.aload_n 0, 1) := by decide +kernel
theorem dM_forget_1 : decode prog_9_method_33_code 1 = .ok (.iconst 0, 1) := by decide +kernel
theorem dM_forget_2 : decode prog_9_method_33_code 2 = .ok (.putfield 71, 3) := by decide +kernel
theorem dM_forget_5 : decode prog_9_method_33_code 5 = .ok (.aload_n 0, 1) := by decide +kernel
theorem dM_forget_6 : decode prog_9_method_33_code 6 = .ok (.iconst 0, 1) := by decide +kernel
theorem dM_forget_7 : decode prog_9_method_33_code 7 = .ok (.putfield 111, 3) := by decide +kernel
theorem dM_forget_10 : decode prog_9_method_33_code 10 = .ok (.aload_n 0, 1) := by decide +kernel
theorem dM_forget_11 : decode prog_9_method_33_code 11 = .ok (.invokevirtual 175, 3) := by decide +kernel
theorem dM_forget_14 : decode prog_9_method_33_code 14 = .ok (.return_, 1) := by decide +kernel
theorem dM_image_0 : decode prog_9_method_34_code 0 = .ok (.aload_n 0, 1) := by decide +kernel
theorem dM_image_1 : decode prog_9_method_34_code 1 = .ok (.iconst 0, 1) := by decide +kernel
theorem dM_image_2 : decode prog_9_method_34_code 2 = .ok (.putfield 71, 3) := by decide +kernel
theorem dM_image_5 : decode prog_9_method_34_code 5 = .ok (.aload_n 0, 1) := by decide +kernel
theorem dM_image_6 : decode prog_9_method_34_code 6 = .ok (.invokevirtual 133, 3) := by decide +kernel
theorem dM_image_9 : decode prog_9_method_34_code 9 = .ok (.ifCond .ne 11, 3) := by decide +kernel
theorem dM_image_12 : decode prog_9_method_34_code 12 = .ok (.aload_n 0, 1) := by decide +kernel
theorem dM_image_13 : decode prog_9_method_34_code 13 = .ok (.iconst 1, 1) := by decide +kernel
theorem dM_image_14 : decode prog_9_method_34_code 14 = .ok (.putfield 71, 3) := by decide +kernel
theorem dM_image_17 : decode prog_9_method_34_code 17 = .ok (.goto 40, 3) := by decide +kernel
theorem dM_image_20 : decode prog_9_method_34_code 20 = .ok (.iload_n 1, 1) := by decide +kernel
theorem dM_image_21 : decode prog_9_method_34_code 21 = .ok (.ifCond .lt 11, 3) := by decide +kernel
theorem dM_image_24 : decode prog_9_method_34_code 24 = .ok (.iload_n 1, 1) := by decide +kernel
theorem dM_image_25 : decode prog_9_method_34_code 25 = .ok (.aload_n 0, 1) := by decide +kernel
theorem dM_image_26 : decode prog_9_method_34_code 26 = .ok (.getfield 111, 3) := by decide +kernel
theorem dM_image_29 : decode prog_9_method_34_code 29 = .ok (.if_icmp .lt 11, 3) := by decide +kernel
theorem dM_image_32 : decode prog_9_method_34_code 32 = .ok (.aload_n 0, 1) := by decide +kernel
theorem dM_image_33 : decode prog_9_method_34_code 33 = .ok (.iconst 2, 1) := by decide +kernel
theorem dM_image_34 : decode prog_9_method_34_code 34 = .ok (.putfield 71, 3) := by decide +kernel
theorem dM_image_37 : decode prog_9_method_34_code 37 = .ok (.goto 20, 3) := by decide +kernel
theorem dM_image_40 : decode prog_9_method_34_code 40 = .ok (.aload_n 0, 1) := by decide +kernel
theorem dM_image_41 : decode prog_9_method_34_code 41 = .ok (.getfield 25, 3) := by decide +kernel
theorem dM_image_44 : decode prog_9_method_34_code 44 = .ok (.iload_n 1, 1) := by decide +kernel
theorem dM_image_45 : decode prog_9_method_34_code 45 = .ok (.aload_n 0, 1) := by decide +kernel
theorem dM_image_46 : decode prog_9_method_34_code 46 = .ok (.getfield 108, 3) := by decide +kernel
theorem dM_image_49 : decode prog_9_method_34_code 49 = .ok (.iastore, 1) := by decide +kernel
theorem dM_image_50 : decode prog_9_method_34_code 50 = .ok (.aload_n 0, 1) := by decide +kernel
theorem dM_image_51 : decode prog_9_method_34_code 51 = .ok (.getfield 28, 3) := by decide +kernel
theorem dM_image_54 : decode prog_9_method_34_code 54 = .ok (.iload_n 1, 1) := by decide +kernel
theorem dM_image_55 : decode prog_9_method_34_code 55 = .ok (.iconst 1, 1) := by decide +kernel
theorem dM_image_56 : decode prog_9_method_34_code 56 = .ok (.bastore, 1) := by decide +kernel
theorem dM_image_57 : decode prog_9_method_34_code 57 = .ok (.return_, 1) := by decide +kernel
theorem dM_hasAll_0 : decode prog_9_method_35_code 0 = .ok (.iconst 1, 1) := by decide +kernel
theorem dM_hasAll_1 : decode prog_9_method_35_code 1 = .ok (.istore_n 1, 1) := by decide +kernel
theorem dM_hasAll_2 : decode prog_9_method_35_code 2 = .ok (.iconst 0, 1) := by decide +kernel
theorem dM_hasAll_3 : decode prog_9_method_35_code 3 = .ok (.istore_n 2, 1) := by decide +kernel
theorem dM_hasAll_4 : decode prog_9_method_35_code 4 = .ok (.iload_n 2, 1) := by decide +kernel
theorem dM_hasAll_5 : decode prog_9_method_35_code 5 = .ok (.aload_n 0, 1) := by decide +kernel
theorem dM_hasAll_6 : decode prog_9_method_35_code 6 = .ok (.getfield 111, 3) := by decide +kernel
theorem dM_hasAll_9 : decode prog_9_method_35_code 9 = .ok (.if_icmp .ge 28, 3) := by decide +kernel
theorem dM_hasAll_12 : decode prog_9_method_35_code 12 = .ok (.iload_n 1, 1) := by decide +kernel
theorem dM_hasAll_13 : decode prog_9_method_35_code 13 = .ok (.ifCond .eq 16, 3) := by decide +kernel
theorem dM_hasAll_16 : decode prog_9_method_35_code 16 = .ok (.aload_n 0, 1) := by decide +kernel
theorem dM_hasAll_17 : decode prog_9_method_35_code 17 = .ok (.getfield 28, 3) := by decide +kernel
theorem dM_hasAll_20 : decode prog_9_method_35_code 20 = .ok (.iload_n 2, 1) := by decide +kernel
theorem dM_hasAll_21 : decode prog_9_method_35_code 21 = .ok (.baload, 1) := by decide +kernel
theorem dM_hasAll_22 : decode prog_9_method_35_code 22 = .ok (.ifCond .eq 7, 3) := by decide +kernel
theorem dM_hasAll_25 : decode prog_9_method_35_code 25 = .ok (.iconst 1, 1) := by decide +kernel
theorem dM_hasAll_26 : decode prog_9_method_35_code 26 = .ok (.goto 4, 3) := by decide +kernel
theorem dM_hasAll_29 : decode prog_9_method_35_code 29 = .ok (.iconst 0, 1) := by decide +kernel
theorem dM_hasAll_30 : decode prog_9_method_35_code 30 = .ok (.istore_n 1, 1) := by decide +kernel
theorem dM_hasAll_31 : decode prog_9_method_35_code 31 = .ok (.iinc 2 1, 3) := by decide +kernel
theorem dM_hasAll_34 : decode prog_9_method_35_code 34 = .ok (.goto (-30), 3) := by decide +kernel
theorem dM_hasAll_37 : decode prog_9_method_35_code 37 = .ok (.iload_n 1, 1) := by decide +kernel
theorem dM_hasAll_38 : decode prog_9_method_35_code 38 = .ok (.ireturn, 1) := by decide +kernel
theorem dM_spread_0 : decode prog_9_method_36_code 0 = .ok (.iconst 0, 1) := by decide +kernel
theorem dM_spread_1 : decode prog_9_method_36_code 1 = .ok (.istore_n 1, 1) := by decide +kernel
theorem dM_spread_2 : decode prog_9_method_36_code 2 = .ok (.iload_n 1, 1) := by decide +kernel
theorem dM_spread_3 : decode prog_9_method_36_code 3 = .ok (.aload_n 0, 1) := by decide +kernel
theorem dM_spread_4 : decode prog_9_method_36_code 4 = .ok (.getfield 64, 3) := by decide +kernel
theorem dM_spread_7 : decode prog_9_method_36_code 7 = .ok (.if_icmp .ge 16, 3) := by decide +kernel
theorem dM_spread_10 : decode prog_9_method_36_code 10 = .ok (.aload_n 0, 1) := by decide +kernel
theorem dM_spread_11 : decode prog_9_method_36_code 11 = .ok (.getfield 45, 3) := by decide +kernel
theorem dM_spread_14 : decode prog_9_method_36_code 14 = .ok (.iload_n 1, 1) := by decide +kernel
theorem dM_spread_15 : decode prog_9_method_36_code 15 = .ok (.iconst (-1), 1) := by decide +kernel
theorem dM_spread_16 : decode prog_9_method_36_code 16 = .ok (.iastore, 1) := by decide +kernel
theorem dM_spread_17 : decode prog_9_method_36_code 17 = .ok (.iinc 1 1, 3) := by decide +kernel
theorem dM_spread_20 : decode prog_9_method_36_code 20 = .ok (.goto (-18), 3) := by decide +kernel
theorem dM_spread_23 : decode prog_9_method_36_code 23 = .ok (.aload_n 0, 1) := by decide +kernel
theorem dM_spread_24 : decode prog_9_method_36_code 24 = .ok (.getfield 45, 3) := by decide +kernel
theorem dM_spread_27 : decode prog_9_method_36_code 27 = .ok (.iconst 0, 1) := by decide +kernel
theorem dM_spread_28 : decode prog_9_method_36_code 28 = .ok (.aload_n 0, 1) := by decide +kernel
theorem dM_spread_29 : decode prog_9_method_36_code 29 = .ok (.getfield 7, 3) := by decide +kernel
theorem dM_spread_32 : decode prog_9_method_36_code 32 = .ok (.iconst 0, 1) := by decide +kernel
theorem dM_spread_33 : decode prog_9_method_36_code 33 = .ok (.iaload, 1) := by decide +kernel
theorem dM_spread_34 : decode prog_9_method_36_code 34 = .ok (.iastore, 1) := by decide +kernel
theorem dM_spread_35 : decode prog_9_method_36_code 35 = .ok (.aload_n 0, 1) := by decide +kernel
theorem dM_spread_36 : decode prog_9_method_36_code 36 = .ok (.getfield 39, 3) := by decide +kernel
theorem dM_spread_39 : decode prog_9_method_36_code 39 = .ok (.iconst 0, 1) := by decide +kernel
theorem dM_spread_40 : decode prog_9_method_36_code 40 = .ok (.iconst 0, 1) := by decide +kernel
theorem dM_spread_41 : decode prog_9_method_36_code 41 = .ok (.iastore, 1) := by decide +kernel
theorem dM_spread_42 : decode prog_9_method_36_code 42 = .ok (.iconst 1, 1) := by decide +kernel
theorem dM_spread_43 : decode prog_9_method_36_code 43 = .ok (.istore_n 1, 1) := by decide +kernel
theorem dM_spread_44 : decode prog_9_method_36_code 44 = .ok (.iconst 1, 1) := by decide +kernel
theorem dM_spread_45 : decode prog_9_method_36_code 45 = .ok (.istore_n 2, 1) := by decide +kernel
theorem dM_spread_46 : decode prog_9_method_36_code 46 = .ok (.iconst 0, 1) := by decide +kernel
theorem dM_spread_47 : decode prog_9_method_36_code 47 = .ok (.istore_n 3, 1) := by decide +kernel
theorem dM_spread_48 : decode prog_9_method_36_code 48 = .ok (.iload_n 3, 1) := by decide +kernel
theorem dM_spread_49 : decode prog_9_method_36_code 49 = .ok (.iload_n 1, 1) := by decide +kernel
theorem dM_spread_50 : decode prog_9_method_36_code 50 = .ok (.if_icmp .ge 154, 3) := by decide +kernel
theorem dM_spread_53 : decode prog_9_method_36_code 53 = .ok (.iload_n 2, 1) := by decide +kernel
theorem dM_spread_54 : decode prog_9_method_36_code 54 = .ok (.ifCond .eq 150, 3) := by decide +kernel
theorem dM_spread_57 : decode prog_9_method_36_code 57 = .ok (.iconst 0, 1) := by decide +kernel
theorem dM_spread_58 : decode prog_9_method_36_code 58 = .ok (.istore 4, 2) := by decide +kernel
theorem dM_spread_60 : decode prog_9_method_36_code 60 = .ok (.iload 4, 2) := by decide +kernel
theorem dM_spread_62 : decode prog_9_method_36_code 62 = .ok (.aload_n 0, 1) := by decide +kernel
theorem dM_spread_63 : decode prog_9_method_36_code 63 = .ok (.getfield 111, 3) := by decide +kernel
theorem dM_spread_66 : decode prog_9_method_36_code 66 = .ok (.if_icmp .ge 132, 3) := by decide +kernel
theorem dM_spread_69 : decode prog_9_method_36_code 69 = .ok (.aload_n 0, 1) := by decide +kernel
theorem dM_spread_70 : decode prog_9_method_36_code 70 = .ok (.aload_n 0, 1) := by decide +kernel
theorem dM_spread_71 : decode prog_9_method_36_code 71 = .ok (.getfield 7, 3) := by decide +kernel
theorem dM_spread_74 : decode prog_9_method_36_code 74 = .ok (.aload_n 0, 1) := by decide +kernel
theorem dM_spread_75 : decode prog_9_method_36_code 75 = .ok (.getfield 39, 3) := by decide +kernel
theorem dM_spread_78 : decode prog_9_method_36_code 78 = .ok (.iload_n 3, 1) := by decide +kernel
theorem dM_spread_79 : decode prog_9_method_36_code 79 = .ok (.iaload, 1) := by decide +kernel
theorem dM_spread_80 : decode prog_9_method_36_code 80 = .ok (.iaload, 1) := by decide +kernel
theorem dM_spread_81 : decode prog_9_method_36_code 81 = .ok (.aload_n 0, 1) := by decide +kernel
theorem dM_spread_82 : decode prog_9_method_36_code 82 = .ok (.getfield 22, 3) := by decide +kernel
theorem dM_spread_85 : decode prog_9_method_36_code 85 = .ok (.iload 4, 2) := by decide +kernel
theorem dM_spread_87 : decode prog_9_method_36_code 87 = .ok (.iaload, 1) := by decide +kernel
theorem dM_spread_88 : decode prog_9_method_36_code 88 = .ok (.invokevirtual 81, 3) := by decide +kernel
theorem dM_spread_91 : decode prog_9_method_36_code 91 = .ok (.istore 5, 2) := by decide +kernel
theorem dM_spread_93 : decode prog_9_method_36_code 93 = .ok (.aload_n 0, 1) := by decide +kernel
theorem dM_spread_94 : decode prog_9_method_36_code 94 = .ok (.iload 5, 2) := by decide +kernel
theorem dM_spread_96 : decode prog_9_method_36_code 96 = .ok (.invokevirtual 149, 3) := by decide +kernel
theorem dM_spread_99 : decode prog_9_method_36_code 99 = .ok (.istore 6, 2) := by decide +kernel
theorem dM_spread_101 : decode prog_9_method_36_code 101 = .ok (.aload_n 0, 1) := by decide +kernel
theorem dM_spread_102 : decode prog_9_method_36_code 102 = .ok (.aload_n 0, 1) := by decide +kernel
theorem dM_spread_103 : decode prog_9_method_36_code 103 = .ok (.getfield 45, 3) := by decide +kernel
theorem dM_spread_106 : decode prog_9_method_36_code 106 = .ok (.aload_n 0, 1) := by decide +kernel
theorem dM_spread_107 : decode prog_9_method_36_code 107 = .ok (.getfield 39, 3) := by decide +kernel
theorem dM_spread_110 : decode prog_9_method_36_code 110 = .ok (.iload_n 3, 1) := by decide +kernel
theorem dM_spread_111 : decode prog_9_method_36_code 111 = .ok (.iaload, 1) := by decide +kernel
theorem dM_spread_112 : decode prog_9_method_36_code 112 = .ok (.iaload, 1) := by decide +kernel
theorem dM_spread_113 : decode prog_9_method_36_code 113 = .ok (.aload_n 0, 1) := by decide +kernel
theorem dM_spread_114 : decode prog_9_method_36_code 114 = .ok (.getfield 25, 3) := by decide +kernel
theorem dM_spread_117 : decode prog_9_method_36_code 117 = .ok (.iload 4, 2) := by decide +kernel
theorem dM_spread_119 : decode prog_9_method_36_code 119 = .ok (.iaload, 1) := by decide +kernel
theorem dM_spread_120 : decode prog_9_method_36_code 120 = .ok (.invokevirtual 81, 3) := by decide +kernel
theorem dM_spread_123 : decode prog_9_method_36_code 123 = .ok (.istore 7, 2) := by decide +kernel
theorem dM_spread_125 : decode prog_9_method_36_code 125 = .ok (.iload_n 2, 1) := by decide +kernel
theorem dM_spread_126 : decode prog_9_method_36_code 126 = .ok (.ifCond .eq 30, 3) := by decide +kernel
theorem dM_spread_129 : decode prog_9_method_36_code 129 = .ok (.aload_n 0, 1) := by decide +kernel
theorem dM_spread_130 : decode prog_9_method_36_code 130 = .ok (.getfield 45, 3) := by decide +kernel
theorem dM_spread_133 : decode prog_9_method_36_code 133 = .ok (.iload 6, 2) := by decide +kernel
theorem dM_spread_135 : decode prog_9_method_36_code 135 = .ok (.iaload, 1) := by decide +kernel
theorem dM_spread_136 : decode prog_9_method_36_code 136 = .ok (.iconst (-1), 1) := by decide +kernel
theorem dM_spread_137 : decode prog_9_method_36_code 137 = .ok (.if_icmp .eq 15, 3) := by decide +kernel
theorem dM_spread_140 : decode prog_9_method_36_code 140 = .ok (.aload_n 0, 1) := by decide +kernel
theorem dM_spread_141 : decode prog_9_method_36_code 141 = .ok (.getfield 45, 3) := by decide +kernel
theorem dM_spread_144 : decode prog_9_method_36_code 144 = .ok (.iload 6, 2) := by decide +kernel
theorem dM_spread_146 : decode prog_9_method_36_code 146 = .ok (.iaload, 1) := by decide +kernel
theorem dM_spread_147 : decode prog_9_method_36_code 147 = .ok (.iload 7, 2) := by decide +kernel
theorem dM_spread_149 : decode prog_9_method_36_code 149 = .ok (.if_icmp .ne 7, 3) := by decide +kernel
theorem dM_spread_152 : decode prog_9_method_36_code 152 = .ok (.iconst 1, 1) := by decide +kernel
theorem dM_spread_153 : decode prog_9_method_36_code 153 = .ok (.goto 4, 3) := by decide +kernel
theorem dM_spread_156 : decode prog_9_method_36_code 156 = .ok (.iconst 0, 1) := by decide +kernel
theorem dM_spread_157 : decode prog_9_method_36_code 157 = .ok (.istore_n 2, 1) := by decide +kernel
theorem dM_spread_158 : decode prog_9_method_36_code 158 = .ok (.aload_n 0, 1) := by decide +kernel
theorem dM_spread_159 : decode prog_9_method_36_code 159 = .ok (.getfield 45, 3) := by decide +kernel
theorem dM_spread_162 : decode prog_9_method_36_code 162 = .ok (.iload 6, 2) := by decide +kernel
theorem dM_spread_164 : decode prog_9_method_36_code 164 = .ok (.iaload, 1) := by decide +kernel
theorem dM_spread_165 : decode prog_9_method_36_code 165 = .ok (.iconst (-1), 1) := by decide +kernel
theorem dM_spread_166 : decode prog_9_method_36_code 166 = .ok (.if_icmp .eq 6, 3) := by decide +kernel
theorem dM_spread_169 : decode prog_9_method_36_code 169 = .ok (.goto 23, 3) := by decide +kernel
theorem dM_spread_172 : decode prog_9_method_36_code 172 = .ok (.aload_n 0, 1) := by decide +kernel
theorem dM_spread_173 : decode prog_9_method_36_code 173 = .ok (.getfield 45, 3) := by decide +kernel
theorem dM_spread_176 : decode prog_9_method_36_code 176 = .ok (.iload 6, 2) := by decide +kernel
theorem dM_spread_178 : decode prog_9_method_36_code 178 = .ok (.iload 7, 2) := by decide +kernel
theorem dM_spread_180 : decode prog_9_method_36_code 180 = .ok (.iastore, 1) := by decide +kernel
theorem dM_spread_181 : decode prog_9_method_36_code 181 = .ok (.aload_n 0, 1) := by decide +kernel
theorem dM_spread_182 : decode prog_9_method_36_code 182 = .ok (.getfield 39, 3) := by decide +kernel
theorem dM_spread_185 : decode prog_9_method_36_code 185 = .ok (.iload_n 1, 1) := by decide +kernel
theorem dM_spread_186 : decode prog_9_method_36_code 186 = .ok (.iload 6, 2) := by decide +kernel
theorem dM_spread_188 : decode prog_9_method_36_code 188 = .ok (.iastore, 1) := by decide +kernel
theorem dM_spread_189 : decode prog_9_method_36_code 189 = .ok (.iinc 1 1, 3) := by decide +kernel
theorem dM_spread_192 : decode prog_9_method_36_code 192 = .ok (.iinc 4 1, 3) := by decide +kernel
theorem dM_spread_195 : decode prog_9_method_36_code 195 = .ok (.goto (-135), 3) := by decide +kernel
theorem dM_spread_198 : decode prog_9_method_36_code 198 = .ok (.iinc 3 1, 3) := by decide +kernel
theorem dM_spread_201 : decode prog_9_method_36_code 201 = .ok (.goto (-153), 3) := by decide +kernel
theorem dM_spread_204 : decode prog_9_method_36_code 204 = .ok (.iload_n 2, 1) := by decide +kernel
theorem dM_spread_205 : decode prog_9_method_36_code 205 = .ok (.ireturn, 1) := by decide +kernel
theorem dM_extend_0 : decode prog_9_method_37_code 0 = .ok (.aload_n 0, 1) := by decide +kernel
theorem dM_extend_1 : decode prog_9_method_37_code 1 = .ok (.aload_n 0, 1) := by decide +kernel
theorem dM_extend_2 : decode prog_9_method_37_code 2 = .ok (.invokevirtual 178, 3) := by decide +kernel
theorem dM_extend_5 : decode prog_9_method_37_code 5 = .ok (.ifCond .eq 7, 3) := by decide +kernel
theorem dM_extend_8 : decode prog_9_method_37_code 8 = .ok (.iconst 0, 1) := by decide +kernel
theorem dM_extend_9 : decode prog_9_method_37_code 9 = .ok (.goto 4, 3) := by decide +kernel
theorem dM_extend_12 : decode prog_9_method_37_code 12 = .ok (.iconst 1, 1) := by decide +kernel
theorem dM_extend_13 : decode prog_9_method_37_code 13 = .ok (.putfield 71, 3) := by decide +kernel
theorem dM_extend_16 : decode prog_9_method_37_code 16 = .ok (.aload_n 0, 1) := by decide +kernel
theorem dM_extend_17 : decode prog_9_method_37_code 17 = .ok (.getfield 71, 3) := by decide +kernel
theorem dM_extend_20 : decode prog_9_method_37_code 20 = .ok (.ifCond .ne 14, 3) := by decide +kernel
theorem dM_extend_23 : decode prog_9_method_37_code 23 = .ok (.aload_n 0, 1) := by decide +kernel
theorem dM_extend_24 : decode prog_9_method_37_code 24 = .ok (.invokevirtual 181, 3) := by decide +kernel
theorem dM_extend_27 : decode prog_9_method_37_code 27 = .ok (.ifCond .eq 7, 3) := by decide +kernel
theorem dM_extend_30 : decode prog_9_method_37_code 30 = .ok (.iconst 1, 1) := by decide +kernel
theorem dM_extend_31 : decode prog_9_method_37_code 31 = .ok (.goto 4, 3) := by decide +kernel
theorem dM_extend_34 : decode prog_9_method_37_code 34 = .ok (.iconst 0, 1) := by decide +kernel
theorem dM_extend_35 : decode prog_9_method_37_code 35 = .ok (.ireturn, 1) := by decide +kernel
theorem dM_isTo_0 : decode prog_9_method_38_code 0 = .ok (.iload_n 0, 1) := by decide +kernel
theorem dM_isTo_1 : decode prog_9_method_38_code 1 = .ok (.iconst 1, 1) := by decide +kernel
theorem dM_isTo_2 : decode prog_9_method_38_code 2 = .ok (.if_icmp .lt 12, 3) := by decide +kernel
theorem dM_isTo_5 : decode prog_9_method_38_code 5 = .ok (.iload_n 0, 1) := by decide +kernel
theorem dM_isTo_6 : decode prog_9_method_38_code 6 = .ok (.iconst 5, 1) := by decide +kernel
theorem dM_isTo_7 : decode prog_9_method_38_code 7 = .ok (.if_icmp .ge 7, 3) := by decide +kernel
theorem dM_isTo_10 : decode prog_9_method_38_code 10 = .ok (.iconst 1, 1) := by decide +kernel
theorem dM_isTo_11 : decode prog_9_method_38_code 11 = .ok (.goto 4, 3) := by decide +kernel
theorem dM_isTo_14 : decode prog_9_method_38_code 14 = .ok (.iconst 0, 1) := by decide +kernel
theorem dM_isTo_15 : decode prog_9_method_38_code 15 = .ok (.ireturn, 1) := by decide +kernel
theorem dM_isSlot_0 : decode prog_9_method_39_code 0 = .ok (.iload_n 0, 1) := by decide +kernel
theorem dM_isSlot_1 : decode prog_9_method_39_code 1 = .ok (.ifCond .lt 12, 3) := by decide +kernel
theorem dM_isSlot_4 : decode prog_9_method_39_code 4 = .ok (.iload_n 0, 1) := by decide +kernel
theorem dM_isSlot_5 : decode prog_9_method_39_code 5 = .ok (.iconst 5, 1) := by decide +kernel
theorem dM_isSlot_6 : decode prog_9_method_39_code 6 = .ok (.if_icmp .ge 7, 3) := by decide +kernel
theorem dM_isSlot_9 : decode prog_9_method_39_code 9 = .ok (.iconst 1, 1) := by decide +kernel
theorem dM_isSlot_10 : decode prog_9_method_39_code 10 = .ok (.goto 4, 3) := by decide +kernel
theorem dM_isSlot_13 : decode prog_9_method_39_code 13 = .ok (.iconst 0, 1) := by decide +kernel
theorem dM_isSlot_14 : decode prog_9_method_39_code 14 = .ok (.ireturn, 1) := by decide +kernel
theorem dM_kernel_0 : decode prog_9_method_40_code 0 = .ok (.aload_n 0, 1) := by decide +kernel
theorem dM_kernel_1 : decode prog_9_method_40_code 1 = .ok (.iconst 0, 1) := by decide +kernel
theorem dM_kernel_2 : decode prog_9_method_40_code 2 = .ok (.putfield 71, 3) := by decide +kernel
theorem dM_kernel_5 : decode prog_9_method_40_code 5 = .ok (.iload_n 1, 1) := by decide +kernel
theorem dM_kernel_6 : decode prog_9_method_40_code 6 = .ok (.invokestatic 184, 3) := by decide +kernel
theorem dM_kernel_9 : decode prog_9_method_40_code 9 = .ok (.ifCond .ne 9, 3) := by decide +kernel
theorem dM_kernel_12 : decode prog_9_method_40_code 12 = .ok (.aload_n 0, 1) := by decide +kernel
theorem dM_kernel_13 : decode prog_9_method_40_code 13 = .ok (.iconst 1, 1) := by decide +kernel
theorem dM_kernel_14 : decode prog_9_method_40_code 14 = .ok (.invokevirtual 137, 3) := by decide +kernel
theorem dM_kernel_17 : decode prog_9_method_40_code 17 = .ok (.ireturn, 1) := by decide +kernel
theorem dM_kernel_18 : decode prog_9_method_40_code 18 = .ok (.aload_n 0, 1) := by decide +kernel
theorem dM_kernel_19 : decode prog_9_method_40_code 19 = .ok (.invokevirtual 178, 3) := by decide +kernel
theorem dM_kernel_22 : decode prog_9_method_40_code 22 = .ok (.ifCond .eq 10, 3) := by decide +kernel
theorem dM_kernel_25 : decode prog_9_method_40_code 25 = .ok (.aload_n 0, 1) := by decide +kernel
theorem dM_kernel_26 : decode prog_9_method_40_code 26 = .ok (.invokevirtual 181, 3) := by decide +kernel
theorem dM_kernel_29 : decode prog_9_method_40_code 29 = .ok (.ifCond .ne 9, 3) := by decide +kernel
theorem dM_kernel_32 : decode prog_9_method_40_code 32 = .ok (.aload_n 0, 1) := by decide +kernel
theorem dM_kernel_33 : decode prog_9_method_40_code 33 = .ok (.iconst 2, 1) := by decide +kernel
theorem dM_kernel_34 : decode prog_9_method_40_code 34 = .ok (.invokevirtual 137, 3) := by decide +kernel
theorem dM_kernel_37 : decode prog_9_method_40_code 37 = .ok (.ireturn, 1) := by decide +kernel
theorem dM_kernel_38 : decode prog_9_method_40_code 38 = .ok (.aload_n 0, 1) := by decide +kernel
theorem dM_kernel_39 : decode prog_9_method_40_code 39 = .ok (.invokevirtual 140, 3) := by decide +kernel
theorem dM_kernel_42 : decode prog_9_method_40_code 42 = .ok (.iconst 0, 1) := by decide +kernel
theorem dM_kernel_43 : decode prog_9_method_40_code 43 = .ok (.istore_n 2, 1) := by decide +kernel
theorem dM_kernel_44 : decode prog_9_method_40_code 44 = .ok (.iload_n 2, 1) := by decide +kernel
theorem dM_kernel_45 : decode prog_9_method_40_code 45 = .ok (.aload_n 0, 1) := by decide +kernel
theorem dM_kernel_46 : decode prog_9_method_40_code 46 = .ok (.getfield 64, 3) := by decide +kernel
theorem dM_kernel_49 : decode prog_9_method_40_code 49 = .ok (.if_icmp .ge 29, 3) := by decide +kernel
theorem dM_kernel_52 : decode prog_9_method_40_code 52 = .ok (.aload_n 0, 1) := by decide +kernel
theorem dM_kernel_53 : decode prog_9_method_40_code 53 = .ok (.getfield 45, 3) := by decide +kernel
theorem dM_kernel_56 : decode prog_9_method_40_code 56 = .ok (.iload_n 2, 1) := by decide +kernel
theorem dM_kernel_57 : decode prog_9_method_40_code 57 = .ok (.iaload, 1) := by decide +kernel
theorem dM_kernel_58 : decode prog_9_method_40_code 58 = .ok (.aload_n 0, 1) := by decide +kernel
theorem dM_kernel_59 : decode prog_9_method_40_code 59 = .ok (.getfield 7, 3) := by decide +kernel
theorem dM_kernel_62 : decode prog_9_method_40_code 62 = .ok (.iconst 0, 1) := by decide +kernel
theorem dM_kernel_63 : decode prog_9_method_40_code 63 = .ok (.iaload, 1) := by decide +kernel
theorem dM_kernel_64 : decode prog_9_method_40_code 64 = .ok (.if_icmp .ne 8, 3) := by decide +kernel
theorem dM_kernel_67 : decode prog_9_method_40_code 67 = .ok (.aload_n 0, 1) := by decide +kernel
theorem dM_kernel_68 : decode prog_9_method_40_code 68 = .ok (.iload_n 2, 1) := by decide +kernel
theorem dM_kernel_69 : decode prog_9_method_40_code 69 = .ok (.invokevirtual 143, 3) := by decide +kernel
theorem dM_kernel_72 : decode prog_9_method_40_code 72 = .ok (.iinc 2 1, 3) := by decide +kernel
theorem dM_kernel_75 : decode prog_9_method_40_code 75 = .ok (.goto (-31), 3) := by decide +kernel
theorem dM_kernel_78 : decode prog_9_method_40_code 78 = .ok (.aload_n 0, 1) := by decide +kernel
theorem dM_kernel_79 : decode prog_9_method_40_code 79 = .ok (.iload_n 1, 1) := by decide +kernel
theorem dM_kernel_80 : decode prog_9_method_40_code 80 = .ok (.invokevirtual 172, 3) := by decide +kernel
theorem dM_kernel_83 : decode prog_9_method_40_code 83 = .ok (.ireturn, 1) := by decide +kernel
theorem dM_images_0 : decode prog_9_method_41_code 0 = .ok (.aload_n 0, 1) := by decide +kernel
theorem dM_images_1 : decode prog_9_method_41_code 1 = .ok (.iconst 0, 1) := by decide +kernel
theorem dM_images_2 : decode prog_9_method_41_code 2 = .ok (.putfield 71, 3) := by decide +kernel
theorem dM_images_5 : decode prog_9_method_41_code 5 = .ok (.iload_n 1, 1) := by decide +kernel
theorem dM_images_6 : decode prog_9_method_41_code 6 = .ok (.invokestatic 184, 3) := by decide +kernel
theorem dM_images_9 : decode prog_9_method_41_code 9 = .ok (.ifCond .ne 9, 3) := by decide +kernel
theorem dM_images_12 : decode prog_9_method_41_code 12 = .ok (.aload_n 0, 1) := by decide +kernel
theorem dM_images_13 : decode prog_9_method_41_code 13 = .ok (.iconst 1, 1) := by decide +kernel
theorem dM_images_14 : decode prog_9_method_41_code 14 = .ok (.invokevirtual 137, 3) := by decide +kernel
theorem dM_images_17 : decode prog_9_method_41_code 17 = .ok (.ireturn, 1) := by decide +kernel
theorem dM_images_18 : decode prog_9_method_41_code 18 = .ok (.aload_n 0, 1) := by decide +kernel
theorem dM_images_19 : decode prog_9_method_41_code 19 = .ok (.invokevirtual 178, 3) := by decide +kernel
theorem dM_images_22 : decode prog_9_method_41_code 22 = .ok (.ifCond .ne 9, 3) := by decide +kernel
theorem dM_images_25 : decode prog_9_method_41_code 25 = .ok (.aload_n 0, 1) := by decide +kernel
theorem dM_images_26 : decode prog_9_method_41_code 26 = .ok (.iconst 2, 1) := by decide +kernel
theorem dM_images_27 : decode prog_9_method_41_code 27 = .ok (.invokevirtual 137, 3) := by decide +kernel
theorem dM_images_30 : decode prog_9_method_41_code 30 = .ok (.ireturn, 1) := by decide +kernel
theorem dM_images_31 : decode prog_9_method_41_code 31 = .ok (.aload_n 0, 1) := by decide +kernel
theorem dM_images_32 : decode prog_9_method_41_code 32 = .ok (.invokevirtual 166, 3) := by decide +kernel
theorem dM_images_35 : decode prog_9_method_41_code 35 = .ok (.iconst 0, 1) := by decide +kernel
theorem dM_images_36 : decode prog_9_method_41_code 36 = .ok (.istore_n 2, 1) := by decide +kernel
theorem dM_images_37 : decode prog_9_method_41_code 37 = .ok (.iload_n 2, 1) := by decide +kernel
theorem dM_images_38 : decode prog_9_method_41_code 38 = .ok (.aload_n 0, 1) := by decide +kernel
theorem dM_images_39 : decode prog_9_method_41_code 39 = .ok (.getfield 111, 3) := by decide +kernel
theorem dM_images_42 : decode prog_9_method_41_code 42 = .ok (.if_icmp .ge 19, 3) := by decide +kernel
theorem dM_images_45 : decode prog_9_method_41_code 45 = .ok (.aload_n 0, 1) := by decide +kernel
theorem dM_images_46 : decode prog_9_method_41_code 46 = .ok (.aload_n 0, 1) := by decide +kernel
theorem dM_images_47 : decode prog_9_method_41_code 47 = .ok (.getfield 25, 3) := by decide +kernel
theorem dM_images_50 : decode prog_9_method_41_code 50 = .ok (.iload_n 2, 1) := by decide +kernel
theorem dM_images_51 : decode prog_9_method_41_code 51 = .ok (.iaload, 1) := by decide +kernel
theorem dM_images_52 : decode prog_9_method_41_code 52 = .ok (.invokevirtual 169, 3) := by decide +kernel
theorem dM_images_55 : decode prog_9_method_41_code 55 = .ok (.iinc 2 1, 3) := by decide +kernel
theorem dM_images_58 : decode prog_9_method_41_code 58 = .ok (.goto (-21), 3) := by decide +kernel
theorem dM_images_61 : decode prog_9_method_41_code 61 = .ok (.aload_n 0, 1) := by decide +kernel
theorem dM_images_62 : decode prog_9_method_41_code 62 = .ok (.iload_n 1, 1) := by decide +kernel
theorem dM_images_63 : decode prog_9_method_41_code 63 = .ok (.invokevirtual 172, 3) := by decide +kernel
theorem dM_images_66 : decode prog_9_method_41_code 66 = .ok (.ireturn, 1) := by decide +kernel
theorem dM_isStable_0 : decode prog_9_method_42_code 0 = .ok (.iconst 1, 1) := by decide +kernel
theorem dM_isStable_1 : decode prog_9_method_42_code 1 = .ok (.istore 4, 2) := by decide +kernel
theorem dM_isStable_3 : decode prog_9_method_42_code 3 = .ok (.iconst 0, 1) := by decide +kernel
theorem dM_isStable_4 : decode prog_9_method_42_code 4 = .ok (.istore 5, 2) := by decide +kernel
theorem dM_isStable_6 : decode prog_9_method_42_code 6 = .ok (.iload 5, 2) := by decide +kernel
theorem dM_isStable_8 : decode prog_9_method_42_code 8 = .ok (.aload_n 0, 1) := by decide +kernel
theorem dM_isStable_9 : decode prog_9_method_42_code 9 = .ok (.getfield 60, 3) := by decide +kernel
theorem dM_isStable_12 : decode prog_9_method_42_code 12 = .ok (.if_icmp .ge 66, 3) := by decide +kernel
theorem dM_isStable_15 : decode prog_9_method_42_code 15 = .ok (.iload_n 2, 1) := by decide +kernel
theorem dM_isStable_16 : decode prog_9_method_42_code 16 = .ok (.iload 5, 2) := by decide +kernel
theorem dM_isStable_18 : decode prog_9_method_42_code 18 = .ok (.ishr, 1) := by decide +kernel
theorem dM_isStable_19 : decode prog_9_method_42_code 19 = .ok (.iconst 1, 1) := by decide +kernel
theorem dM_isStable_20 : decode prog_9_method_42_code 20 = .ok (.iand, 1) := by decide +kernel
theorem dM_isStable_21 : decode prog_9_method_42_code 21 = .ok (.ifCond .ne 6, 3) := by decide +kernel
theorem dM_isStable_24 : decode prog_9_method_42_code 24 = .ok (.goto 48, 3) := by decide +kernel
theorem dM_isStable_27 : decode prog_9_method_42_code 27 = .ok (.aload_n 0, 1) := by decide +kernel
theorem dM_isStable_28 : decode prog_9_method_42_code 28 = .ok (.iload_n 1, 1) := by decide +kernel
theorem dM_isStable_29 : decode prog_9_method_42_code 29 = .ok (.iload 5, 2) := by decide +kernel
theorem dM_isStable_31 : decode prog_9_method_42_code 31 = .ok (.invokevirtual 74, 3) := by decide +kernel
theorem dM_isStable_34 : decode prog_9_method_42_code 34 = .ok (.istore 6, 2) := by decide +kernel
theorem dM_isStable_36 : decode prog_9_method_42_code 36 = .ok (.iload 4, 2) := by decide +kernel
theorem dM_isStable_38 : decode prog_9_method_42_code 38 = .ok (.ifCond .eq 31, 3) := by decide +kernel
theorem dM_isStable_41 : decode prog_9_method_42_code 41 = .ok (.iload_n 3, 1) := by decide +kernel
theorem dM_isStable_42 : decode prog_9_method_42_code 42 = .ok (.ifCond .eq 16, 3) := by decide +kernel
theorem dM_isStable_45 : decode prog_9_method_42_code 45 = .ok (.iload_n 2, 1) := by decide +kernel
theorem dM_isStable_46 : decode prog_9_method_42_code 46 = .ok (.iload 6, 2) := by decide +kernel
theorem dM_isStable_48 : decode prog_9_method_42_code 48 = .ok (.ishr, 1) := by decide +kernel
theorem dM_isStable_49 : decode prog_9_method_42_code 49 = .ok (.iconst 1, 1) := by decide +kernel
theorem dM_isStable_50 : decode prog_9_method_42_code 50 = .ok (.iand, 1) := by decide +kernel
theorem dM_isStable_51 : decode prog_9_method_42_code 51 = .ok (.iconst 1, 1) := by decide +kernel
theorem dM_isStable_52 : decode prog_9_method_42_code 52 = .ok (.if_icmp .ne 17, 3) := by decide +kernel
theorem dM_isStable_55 : decode prog_9_method_42_code 55 = .ok (.goto 10, 3) := by decide +kernel
theorem dM_isStable_58 : decode prog_9_method_42_code 58 = .ok (.iload 6, 2) := by decide +kernel
theorem dM_isStable_60 : decode prog_9_method_42_code 60 = .ok (.iload 5, 2) := by decide +kernel
theorem dM_isStable_62 : decode prog_9_method_42_code 62 = .ok (.if_icmp .ne 7, 3) := by decide +kernel
theorem dM_isStable_65 : decode prog_9_method_42_code 65 = .ok (.iconst 1, 1) := by decide +kernel
theorem dM_isStable_66 : decode prog_9_method_42_code 66 = .ok (.goto 4, 3) := by decide +kernel
theorem dM_isStable_69 : decode prog_9_method_42_code 69 = .ok (.iconst 0, 1) := by decide +kernel
theorem dM_isStable_70 : decode prog_9_method_42_code 70 = .ok (.istore 4, 2) := by decide +kernel
theorem dM_isStable_72 : decode prog_9_method_42_code 72 = .ok (.iinc 5 1, 3) := by decide +kernel
theorem dM_isStable_75 : decode prog_9_method_42_code 75 = .ok (.goto (-69), 3) := by decide +kernel
theorem dM_isStable_78 : decode prog_9_method_42_code 78 = .ok (.iload 4, 2) := by decide +kernel
theorem dM_isStable_80 : decode prog_9_method_42_code 80 = .ok (.ireturn, 1) := by decide +kernel
theorem dM_stabiliser_0 : decode prog_9_method_43_code 0 = .ok (.aload_n 0, 1) := by decide +kernel
theorem dM_stabiliser_1 : decode prog_9_method_43_code 1 = .ok (.iconst 0, 1) := by decide +kernel
theorem dM_stabiliser_2 : decode prog_9_method_43_code 2 = .ok (.putfield 71, 3) := by decide +kernel
theorem dM_stabiliser_5 : decode prog_9_method_43_code 5 = .ok (.iload_n 1, 1) := by decide +kernel
theorem dM_stabiliser_6 : decode prog_9_method_43_code 6 = .ok (.invokestatic 187, 3) := by decide +kernel
theorem dM_stabiliser_9 : decode prog_9_method_43_code 9 = .ok (.ifCond .eq 11, 3) := by decide +kernel
theorem dM_stabiliser_12 : decode prog_9_method_43_code 12 = .ok (.iload 4, 2) := by decide +kernel
theorem dM_stabiliser_14 : decode prog_9_method_43_code 14 = .ok (.invokestatic 184, 3) := by decide +kernel
theorem dM_stabiliser_17 : decode prog_9_method_43_code 17 = .ok (.ifCond .ne 9, 3) := by decide +kernel
theorem dM_stabiliser_20 : decode prog_9_method_43_code 20 = .ok (.aload_n 0, 1) := by decide +kernel
theorem dM_stabiliser_21 : decode prog_9_method_43_code 21 = .ok (.iconst 1, 1) := by decide +kernel
theorem dM_stabiliser_22 : decode prog_9_method_43_code 22 = .ok (.invokevirtual 137, 3) := by decide +kernel
theorem dM_stabiliser_25 : decode prog_9_method_43_code 25 = .ok (.ireturn, 1) := by decide +kernel
theorem dM_stabiliser_26 : decode prog_9_method_43_code 26 = .ok (.iload_n 2, 1) := by decide +kernel
theorem dM_stabiliser_27 : decode prog_9_method_43_code 27 = .ok (.ifCond .lt 13, 3) := by decide +kernel
theorem dM_stabiliser_30 : decode prog_9_method_43_code 30 = .ok (.iload_n 2, 1) := by decide +kernel
theorem dM_stabiliser_31 : decode prog_9_method_43_code 31 = .ok (.iconst 1, 1) := by decide +kernel
theorem dM_stabiliser_32 : decode prog_9_method_43_code 32 = .ok (.aload_n 0, 1) := by decide +kernel
theorem dM_stabiliser_33 : decode prog_9_method_43_code 33 = .ok (.getfield 60, 3) := by decide +kernel
theorem dM_stabiliser_36 : decode prog_9_method_43_code 36 = .ok (.ishl, 1) := by decide +kernel
theorem dM_stabiliser_37 : decode prog_9_method_43_code 37 = .ok (.if_icmp .lt 9, 3) := by decide +kernel
theorem dM_stabiliser_40 : decode prog_9_method_43_code 40 = .ok (.aload_n 0, 1) := by decide +kernel
theorem dM_stabiliser_41 : decode prog_9_method_43_code 41 = .ok (.iconst 2, 1) := by decide +kernel
theorem dM_stabiliser_42 : decode prog_9_method_43_code 42 = .ok (.invokevirtual 137, 3) := by decide +kernel
theorem dM_stabiliser_45 : decode prog_9_method_43_code 45 = .ok (.ireturn, 1) := by decide +kernel
theorem dM_stabiliser_46 : decode prog_9_method_43_code 46 = .ok (.aload_n 0, 1) := by decide +kernel
theorem dM_stabiliser_47 : decode prog_9_method_43_code 47 = .ok (.invokevirtual 140, 3) := by decide +kernel
theorem dM_stabiliser_50 : decode prog_9_method_43_code 50 = .ok (.iconst 0, 1) := by decide +kernel
theorem dM_stabiliser_51 : decode prog_9_method_43_code 51 = .ok (.istore 5, 2) := by decide +kernel
theorem dM_stabiliser_53 : decode prog_9_method_43_code 53 = .ok (.iload 5, 2) := by decide +kernel
theorem dM_stabiliser_55 : decode prog_9_method_43_code 55 = .ok (.aload_n 0, 1) := by decide +kernel
theorem dM_stabiliser_56 : decode prog_9_method_43_code 56 = .ok (.getfield 64, 3) := by decide +kernel
theorem dM_stabiliser_59 : decode prog_9_method_43_code 59 = .ok (.if_icmp .ge 41, 3) := by decide +kernel
theorem dM_stabiliser_62 : decode prog_9_method_43_code 62 = .ok (.aload_n 0, 1) := by decide +kernel
theorem dM_stabiliser_63 : decode prog_9_method_43_code 63 = .ok (.iload_n 1, 1) := by decide +kernel
theorem dM_stabiliser_64 : decode prog_9_method_43_code 64 = .ok (.iload 5, 2) := by decide +kernel
theorem dM_stabiliser_66 : decode prog_9_method_43_code 66 = .ok (.invokevirtual 162, 3) := by decide +kernel
theorem dM_stabiliser_69 : decode prog_9_method_43_code 69 = .ok (.ifCond .eq 25, 3) := by decide +kernel
theorem dM_stabiliser_72 : decode prog_9_method_43_code 72 = .ok (.aload_n 0, 1) := by decide +kernel
theorem dM_stabiliser_73 : decode prog_9_method_43_code 73 = .ok (.aload_n 0, 1) := by decide +kernel
theorem dM_stabiliser_74 : decode prog_9_method_43_code 74 = .ok (.getfield 7, 3) := by decide +kernel
theorem dM_stabiliser_77 : decode prog_9_method_43_code 77 = .ok (.iload 5, 2) := by decide +kernel
theorem dM_stabiliser_79 : decode prog_9_method_43_code 79 = .ok (.iaload, 1) := by decide +kernel
theorem dM_stabiliser_80 : decode prog_9_method_43_code 80 = .ok (.iload_n 2, 1) := by decide +kernel
theorem dM_stabiliser_81 : decode prog_9_method_43_code 81 = .ok (.iload_n 3, 1) := by decide +kernel
theorem dM_stabiliser_82 : decode prog_9_method_43_code 82 = .ok (.invokevirtual 190, 3) := by decide +kernel
theorem dM_stabiliser_85 : decode prog_9_method_43_code 85 = .ok (.ifCond .eq 9, 3) := by decide +kernel
theorem dM_stabiliser_88 : decode prog_9_method_43_code 88 = .ok (.aload_n 0, 1) := by decide +kernel
theorem dM_stabiliser_89 : decode prog_9_method_43_code 89 = .ok (.iload 5, 2) := by decide +kernel
theorem dM_stabiliser_91 : decode prog_9_method_43_code 91 = .ok (.invokevirtual 143, 3) := by decide +kernel
theorem dM_stabiliser_94 : decode prog_9_method_43_code 94 = .ok (.iinc 5 1, 3) := by decide +kernel
theorem dM_stabiliser_97 : decode prog_9_method_43_code 97 = .ok (.goto (-44), 3) := by decide +kernel
theorem dM_stabiliser_100 : decode prog_9_method_43_code 100 = .ok (.aload_n 0, 1) := by decide +kernel
theorem dM_stabiliser_101 : decode prog_9_method_43_code 101 = .ok (.iload 4, 2) := by decide +kernel
theorem dM_stabiliser_103 : decode prog_9_method_43_code 103 = .ok (.invokevirtual 172, 3) := by decide +kernel
theorem dM_stabiliser_106 : decode prog_9_method_43_code 106 = .ok (.ireturn, 1) := by decide +kernel
theorem dM_centraliser_0 : decode prog_9_method_44_code 0 = .ok (.aload_n 0, 1) := by decide +kernel
theorem dM_centraliser_1 : decode prog_9_method_44_code 1 = .ok (.iconst 0, 1) := by decide +kernel
theorem dM_centraliser_2 : decode prog_9_method_44_code 2 = .ok (.putfield 71, 3) := by decide +kernel
theorem dM_centraliser_5 : decode prog_9_method_44_code 5 = .ok (.iload_n 1, 1) := by decide +kernel
theorem dM_centraliser_6 : decode prog_9_method_44_code 6 = .ok (.invokestatic 187, 3) := by decide +kernel
theorem dM_centraliser_9 : decode prog_9_method_44_code 9 = .ok (.ifCond .eq 10, 3) := by decide +kernel
theorem dM_centraliser_12 : decode prog_9_method_44_code 12 = .ok (.iload_n 2, 1) := by decide +kernel
theorem dM_centraliser_13 : decode prog_9_method_44_code 13 = .ok (.invokestatic 184, 3) := by decide +kernel
theorem dM_centraliser_16 : decode prog_9_method_44_code 16 = .ok (.ifCond .ne 9, 3) := by decide +kernel
theorem dM_centraliser_19 : decode prog_9_method_44_code 19 = .ok (.aload_n 0, 1) := by decide +kernel
theorem dM_centraliser_20 : decode prog_9_method_44_code 20 = .ok (.iconst 1, 1) := by decide +kernel
theorem dM_centraliser_21 : decode prog_9_method_44_code 21 = .ok (.invokevirtual 137, 3) := by decide +kernel
theorem dM_centraliser_24 : decode prog_9_method_44_code 24 = .ok (.ireturn, 1) := by decide +kernel
theorem dM_centraliser_25 : decode prog_9_method_44_code 25 = .ok (.aload_n 0, 1) := by decide +kernel
theorem dM_centraliser_26 : decode prog_9_method_44_code 26 = .ok (.invokevirtual 133, 3) := by decide +kernel
theorem dM_centraliser_29 : decode prog_9_method_44_code 29 = .ok (.ifCond .ne 9, 3) := by decide +kernel
theorem dM_centraliser_32 : decode prog_9_method_44_code 32 = .ok (.aload_n 0, 1) := by decide +kernel
theorem dM_centraliser_33 : decode prog_9_method_44_code 33 = .ok (.iconst 2, 1) := by decide +kernel
theorem dM_centraliser_34 : decode prog_9_method_44_code 34 = .ok (.invokevirtual 137, 3) := by decide +kernel
theorem dM_centraliser_37 : decode prog_9_method_44_code 37 = .ok (.ireturn, 1) := by decide +kernel
theorem dM_centraliser_38 : decode prog_9_method_44_code 38 = .ok (.aload_n 0, 1) := by decide +kernel
theorem dM_centraliser_39 : decode prog_9_method_44_code 39 = .ok (.invokevirtual 140, 3) := by decide +kernel
theorem dM_centraliser_42 : decode prog_9_method_44_code 42 = .ok (.iconst 0, 1) := by decide +kernel
theorem dM_centraliser_43 : decode prog_9_method_44_code 43 = .ok (.istore_n 3, 1) := by decide +kernel
theorem dM_centraliser_44 : decode prog_9_method_44_code 44 = .ok (.iload_n 3, 1) := by decide +kernel
theorem dM_centraliser_45 : decode prog_9_method_44_code 45 = .ok (.aload_n 0, 1) := by decide +kernel
theorem dM_centraliser_46 : decode prog_9_method_44_code 46 = .ok (.getfield 64, 3) := by decide +kernel
theorem dM_centraliser_49 : decode prog_9_method_44_code 49 = .ok (.if_icmp .ge 54, 3) := by decide +kernel
theorem dM_centraliser_52 : decode prog_9_method_44_code 52 = .ok (.aload_n 0, 1) := by decide +kernel
theorem dM_centraliser_53 : decode prog_9_method_44_code 53 = .ok (.iload_n 1, 1) := by decide +kernel
theorem dM_centraliser_54 : decode prog_9_method_44_code 54 = .ok (.iload_n 3, 1) := by decide +kernel
theorem dM_centraliser_55 : decode prog_9_method_44_code 55 = .ok (.invokevirtual 162, 3) := by decide +kernel
theorem dM_centraliser_58 : decode prog_9_method_44_code 58 = .ok (.ifCond .eq 39, 3) := by decide +kernel
theorem dM_centraliser_61 : decode prog_9_method_44_code 61 = .ok (.aload_n 0, 1) := by decide +kernel
theorem dM_centraliser_62 : decode prog_9_method_44_code 62 = .ok (.aload_n 0, 1) := by decide +kernel
theorem dM_centraliser_63 : decode prog_9_method_44_code 63 = .ok (.getfield 7, 3) := by decide +kernel
theorem dM_centraliser_66 : decode prog_9_method_44_code 66 = .ok (.iload_n 3, 1) := by decide +kernel
theorem dM_centraliser_67 : decode prog_9_method_44_code 67 = .ok (.iaload, 1) := by decide +kernel
theorem dM_centraliser_68 : decode prog_9_method_44_code 68 = .ok (.aload_n 0, 1) := by decide +kernel
theorem dM_centraliser_69 : decode prog_9_method_44_code 69 = .ok (.getfield 108, 3) := by decide +kernel
theorem dM_centraliser_72 : decode prog_9_method_44_code 72 = .ok (.invokevirtual 81, 3) := by decide +kernel
theorem dM_centraliser_75 : decode prog_9_method_44_code 75 = .ok (.aload_n 0, 1) := by decide +kernel
theorem dM_centraliser_76 : decode prog_9_method_44_code 76 = .ok (.aload_n 0, 1) := by decide +kernel
theorem dM_centraliser_77 : decode prog_9_method_44_code 77 = .ok (.getfield 108, 3) := by decide +kernel
theorem dM_centraliser_80 : decode prog_9_method_44_code 80 = .ok (.aload_n 0, 1) := by decide +kernel
theorem dM_centraliser_81 : decode prog_9_method_44_code 81 = .ok (.getfield 7, 3) := by decide +kernel
theorem dM_centraliser_84 : decode prog_9_method_44_code 84 = .ok (.iload_n 3, 1) := by decide +kernel
theorem dM_centraliser_85 : decode prog_9_method_44_code 85 = .ok (.iaload, 1) := by decide +kernel
theorem dM_centraliser_86 : decode prog_9_method_44_code 86 = .ok (.invokevirtual 81, 3) := by decide +kernel
theorem dM_centraliser_89 : decode prog_9_method_44_code 89 = .ok (.if_icmp .ne 8, 3) := by decide +kernel
theorem dM_centraliser_92 : decode prog_9_method_44_code 92 = .ok (.aload_n 0, 1) := by decide +kernel
theorem dM_centraliser_93 : decode prog_9_method_44_code 93 = .ok (.iload_n 3, 1) := by decide +kernel
theorem dM_centraliser_94 : decode prog_9_method_44_code 94 = .ok (.invokevirtual 143, 3) := by decide +kernel
theorem dM_centraliser_97 : decode prog_9_method_44_code 97 = .ok (.iinc 3 1, 3) := by decide +kernel
theorem dM_centraliser_100 : decode prog_9_method_44_code 100 = .ok (.goto (-56), 3) := by decide +kernel
theorem dM_centraliser_103 : decode prog_9_method_44_code 103 = .ok (.aload_n 0, 1) := by decide +kernel
theorem dM_centraliser_104 : decode prog_9_method_44_code 104 = .ok (.iload_n 2, 1) := by decide +kernel
theorem dM_centraliser_105 : decode prog_9_method_44_code 105 = .ok (.invokevirtual 172, 3) := by decide +kernel
theorem dM_centraliser_108 : decode prog_9_method_44_code 108 = .ok (.ireturn, 1) := by decide +kernel
theorem dM_conjugate_0 : decode prog_9_method_45_code 0 = .ok (.aload_n 0, 1) := by decide +kernel
theorem dM_conjugate_1 : decode prog_9_method_45_code 1 = .ok (.aload_n 0, 1) := by decide +kernel
theorem dM_conjugate_2 : decode prog_9_method_45_code 2 = .ok (.iload_n 1, 1) := by decide +kernel
theorem dM_conjugate_3 : decode prog_9_method_45_code 3 = .ok (.invokevirtual 78, 3) := by decide +kernel
theorem dM_conjugate_6 : decode prog_9_method_45_code 6 = .ok (.iload_n 2, 1) := by decide +kernel
theorem dM_conjugate_7 : decode prog_9_method_45_code 7 = .ok (.invokevirtual 81, 3) := by decide +kernel
theorem dM_conjugate_10 : decode prog_9_method_45_code 10 = .ok (.istore_n 3, 1) := by decide +kernel
theorem dM_conjugate_11 : decode prog_9_method_45_code 11 = .ok (.aload_n 0, 1) := by decide +kernel
theorem dM_conjugate_12 : decode prog_9_method_45_code 12 = .ok (.iload_n 3, 1) := by decide +kernel
theorem dM_conjugate_13 : decode prog_9_method_45_code 13 = .ok (.iload_n 1, 1) := by decide +kernel
theorem dM_conjugate_14 : decode prog_9_method_45_code 14 = .ok (.invokevirtual 81, 3) := by decide +kernel
theorem dM_conjugate_17 : decode prog_9_method_45_code 17 = .ok (.ireturn, 1) := by decide +kernel
theorem dM_closure_0 : decode prog_9_method_46_code 0 = .ok (.aload_n 0, 1) := by decide +kernel
theorem dM_closure_1 : decode prog_9_method_46_code 1 = .ok (.iconst 0, 1) := by decide +kernel
theorem dM_closure_2 : decode prog_9_method_46_code 2 = .ok (.putfield 71, 3) := by decide +kernel
theorem dM_closure_5 : decode prog_9_method_46_code 5 = .ok (.iload_n 1, 1) := by decide +kernel
theorem dM_closure_6 : decode prog_9_method_46_code 6 = .ok (.invokestatic 187, 3) := by decide +kernel
theorem dM_closure_9 : decode prog_9_method_46_code 9 = .ok (.ifCond .eq 10, 3) := by decide +kernel
theorem dM_closure_12 : decode prog_9_method_46_code 12 = .ok (.iload_n 2, 1) := by decide +kernel
theorem dM_closure_13 : decode prog_9_method_46_code 13 = .ok (.invokestatic 184, 3) := by decide +kernel
theorem dM_closure_16 : decode prog_9_method_46_code 16 = .ok (.ifCond .ne 9, 3) := by decide +kernel
theorem dM_closure_19 : decode prog_9_method_46_code 19 = .ok (.aload_n 0, 1) := by decide +kernel
theorem dM_closure_20 : decode prog_9_method_46_code 20 = .ok (.iconst 1, 1) := by decide +kernel
theorem dM_closure_21 : decode prog_9_method_46_code 21 = .ok (.invokevirtual 137, 3) := by decide +kernel
theorem dM_closure_24 : decode prog_9_method_46_code 24 = .ok (.ireturn, 1) := by decide +kernel
theorem dM_closure_25 : decode prog_9_method_46_code 25 = .ok (.aload_n 0, 1) := by decide +kernel
theorem dM_closure_26 : decode prog_9_method_46_code 26 = .ok (.invokevirtual 133, 3) := by decide +kernel
theorem dM_closure_29 : decode prog_9_method_46_code 29 = .ok (.ifCond .ne 9, 3) := by decide +kernel
theorem dM_closure_32 : decode prog_9_method_46_code 32 = .ok (.aload_n 0, 1) := by decide +kernel
theorem dM_closure_33 : decode prog_9_method_46_code 33 = .ok (.iconst 2, 1) := by decide +kernel
theorem dM_closure_34 : decode prog_9_method_46_code 34 = .ok (.invokevirtual 137, 3) := by decide +kernel
theorem dM_closure_37 : decode prog_9_method_46_code 37 = .ok (.ireturn, 1) := by decide +kernel
theorem dM_closure_38 : decode prog_9_method_46_code 38 = .ok (.aload_n 0, 1) := by decide +kernel
theorem dM_closure_39 : decode prog_9_method_46_code 39 = .ok (.invokevirtual 166, 3) := by decide +kernel
theorem dM_closure_42 : decode prog_9_method_46_code 42 = .ok (.iconst 0, 1) := by decide +kernel
theorem dM_closure_43 : decode prog_9_method_46_code 43 = .ok (.istore_n 3, 1) := by decide +kernel
theorem dM_closure_44 : decode prog_9_method_46_code 44 = .ok (.iload_n 3, 1) := by decide +kernel
theorem dM_closure_45 : decode prog_9_method_46_code 45 = .ok (.aload_n 0, 1) := by decide +kernel
theorem dM_closure_46 : decode prog_9_method_46_code 46 = .ok (.getfield 64, 3) := by decide +kernel
theorem dM_closure_49 : decode prog_9_method_46_code 49 = .ok (.if_icmp .ge 36, 3) := by decide +kernel
theorem dM_closure_52 : decode prog_9_method_46_code 52 = .ok (.aload_n 0, 1) := by decide +kernel
theorem dM_closure_53 : decode prog_9_method_46_code 53 = .ok (.iload_n 1, 1) := by decide +kernel
theorem dM_closure_54 : decode prog_9_method_46_code 54 = .ok (.iload_n 3, 1) := by decide +kernel
theorem dM_closure_55 : decode prog_9_method_46_code 55 = .ok (.invokevirtual 162, 3) := by decide +kernel
theorem dM_closure_58 : decode prog_9_method_46_code 58 = .ok (.ifCond .eq 21, 3) := by decide +kernel
theorem dM_closure_61 : decode prog_9_method_46_code 61 = .ok (.aload_n 0, 1) := by decide +kernel
theorem dM_closure_62 : decode prog_9_method_46_code 62 = .ok (.aload_n 0, 1) := by decide +kernel
theorem dM_closure_63 : decode prog_9_method_46_code 63 = .ok (.aload_n 0, 1) := by decide +kernel
theorem dM_closure_64 : decode prog_9_method_46_code 64 = .ok (.getfield 7, 3) := by decide +kernel
theorem dM_closure_67 : decode prog_9_method_46_code 67 = .ok (.iload_n 3, 1) := by decide +kernel
theorem dM_closure_68 : decode prog_9_method_46_code 68 = .ok (.iaload, 1) := by decide +kernel
theorem dM_closure_69 : decode prog_9_method_46_code 69 = .ok (.aload_n 0, 1) := by decide +kernel
theorem dM_closure_70 : decode prog_9_method_46_code 70 = .ok (.getfield 108, 3) := by decide +kernel
theorem dM_closure_73 : decode prog_9_method_46_code 73 = .ok (.invokevirtual 194, 3) := by decide +kernel
theorem dM_closure_76 : decode prog_9_method_46_code 76 = .ok (.invokevirtual 169, 3) := by decide +kernel
theorem dM_closure_79 : decode prog_9_method_46_code 79 = .ok (.iinc 3 1, 3) := by decide +kernel
theorem dM_closure_82 : decode prog_9_method_46_code 82 = .ok (.goto (-38), 3) := by decide +kernel
theorem dM_closure_85 : decode prog_9_method_46_code 85 = .ok (.aload_n 0, 1) := by decide +kernel
theorem dM_closure_86 : decode prog_9_method_46_code 86 = .ok (.iload_n 2, 1) := by decide +kernel
theorem dM_closure_87 : decode prog_9_method_46_code 87 = .ok (.invokevirtual 172, 3) := by decide +kernel
theorem dM_closure_90 : decode prog_9_method_46_code 90 = .ok (.ireturn, 1) := by decide +kernel
theorem dM_derived_0 : decode prog_9_method_47_code 0 = .ok (.aload_n 0, 1) := by decide +kernel
theorem dM_derived_1 : decode prog_9_method_47_code 1 = .ok (.iconst 0, 1) := by decide +kernel
theorem dM_derived_2 : decode prog_9_method_47_code 2 = .ok (.putfield 71, 3) := by decide +kernel
theorem dM_derived_5 : decode prog_9_method_47_code 5 = .ok (.iload_n 1, 1) := by decide +kernel
theorem dM_derived_6 : decode prog_9_method_47_code 6 = .ok (.invokestatic 187, 3) := by decide +kernel
theorem dM_derived_9 : decode prog_9_method_47_code 9 = .ok (.ifCond .eq 10, 3) := by decide +kernel
theorem dM_derived_12 : decode prog_9_method_47_code 12 = .ok (.iload_n 2, 1) := by decide +kernel
theorem dM_derived_13 : decode prog_9_method_47_code 13 = .ok (.invokestatic 184, 3) := by decide +kernel
theorem dM_derived_16 : decode prog_9_method_47_code 16 = .ok (.ifCond .ne 9, 3) := by decide +kernel
theorem dM_derived_19 : decode prog_9_method_47_code 19 = .ok (.aload_n 0, 1) := by decide +kernel
theorem dM_derived_20 : decode prog_9_method_47_code 20 = .ok (.iconst 1, 1) := by decide +kernel
theorem dM_derived_21 : decode prog_9_method_47_code 21 = .ok (.invokevirtual 137, 3) := by decide +kernel
theorem dM_derived_24 : decode prog_9_method_47_code 24 = .ok (.ireturn, 1) := by decide +kernel
theorem dM_derived_25 : decode prog_9_method_47_code 25 = .ok (.aload_n 0, 1) := by decide +kernel
theorem dM_derived_26 : decode prog_9_method_47_code 26 = .ok (.invokevirtual 166, 3) := by decide +kernel
theorem dM_derived_29 : decode prog_9_method_47_code 29 = .ok (.iconst 0, 1) := by decide +kernel
theorem dM_derived_30 : decode prog_9_method_47_code 30 = .ok (.istore_n 3, 1) := by decide +kernel
theorem dM_derived_31 : decode prog_9_method_47_code 31 = .ok (.iload_n 3, 1) := by decide +kernel
theorem dM_derived_32 : decode prog_9_method_47_code 32 = .ok (.aload_n 0, 1) := by decide +kernel
theorem dM_derived_33 : decode prog_9_method_47_code 33 = .ok (.getfield 64, 3) := by decide +kernel
theorem dM_derived_36 : decode prog_9_method_47_code 36 = .ok (.if_icmp .ge 28, 3) := by decide +kernel
theorem dM_derived_39 : decode prog_9_method_47_code 39 = .ok (.aload_n 0, 1) := by decide +kernel
theorem dM_derived_40 : decode prog_9_method_47_code 40 = .ok (.iload_n 1, 1) := by decide +kernel
theorem dM_derived_41 : decode prog_9_method_47_code 41 = .ok (.iload_n 3, 1) := by decide +kernel
theorem dM_derived_42 : decode prog_9_method_47_code 42 = .ok (.invokevirtual 162, 3) := by decide +kernel
theorem dM_derived_45 : decode prog_9_method_47_code 45 = .ok (.ifCond .eq 13, 3) := by decide +kernel
theorem dM_derived_48 : decode prog_9_method_47_code 48 = .ok (.aload_n 0, 1) := by decide +kernel
theorem dM_derived_49 : decode prog_9_method_47_code 49 = .ok (.aload_n 0, 1) := by decide +kernel
theorem dM_derived_50 : decode prog_9_method_47_code 50 = .ok (.getfield 7, 3) := by decide +kernel
theorem dM_derived_53 : decode prog_9_method_47_code 53 = .ok (.iload_n 3, 1) := by decide +kernel
theorem dM_derived_54 : decode prog_9_method_47_code 54 = .ok (.iaload, 1) := by decide +kernel
theorem dM_derived_55 : decode prog_9_method_47_code 55 = .ok (.invokevirtual 169, 3) := by decide +kernel
theorem dM_derived_58 : decode prog_9_method_47_code 58 = .ok (.iinc 3 1, 3) := by decide +kernel
theorem dM_derived_61 : decode prog_9_method_47_code 61 = .ok (.goto (-30), 3) := by decide +kernel
theorem dM_derived_64 : decode prog_9_method_47_code 64 = .ok (.aload_n 0, 1) := by decide +kernel
theorem dM_derived_65 : decode prog_9_method_47_code 65 = .ok (.getfield 146, 3) := by decide +kernel
theorem dM_derived_68 : decode prog_9_method_47_code 68 = .ok (.istore_n 3, 1) := by decide +kernel
theorem dM_derived_69 : decode prog_9_method_47_code 69 = .ok (.iconst 0, 1) := by decide +kernel
theorem dM_derived_70 : decode prog_9_method_47_code 70 = .ok (.istore 4, 2) := by decide +kernel
theorem dM_derived_72 : decode prog_9_method_47_code 72 = .ok (.iload 4, 2) := by decide +kernel
theorem dM_derived_74 : decode prog_9_method_47_code 74 = .ok (.iload_n 3, 1) := by decide +kernel
theorem dM_derived_75 : decode prog_9_method_47_code 75 = .ok (.if_icmp .ge 23, 3) := by decide +kernel
theorem dM_derived_78 : decode prog_9_method_47_code 78 = .ok (.aload_n 0, 1) := by decide +kernel
theorem dM_derived_79 : decode prog_9_method_47_code 79 = .ok (.getfield 45, 3) := by decide +kernel
theorem dM_derived_82 : decode prog_9_method_47_code 82 = .ok (.iload 4, 2) := by decide +kernel
theorem dM_derived_84 : decode prog_9_method_47_code 84 = .ok (.aload_n 0, 1) := by decide +kernel
theorem dM_derived_85 : decode prog_9_method_47_code 85 = .ok (.getfield 42, 3) := by decide +kernel
theorem dM_derived_88 : decode prog_9_method_47_code 88 = .ok (.iload 4, 2) := by decide +kernel
theorem dM_derived_90 : decode prog_9_method_47_code 90 = .ok (.iaload, 1) := by decide +kernel
theorem dM_derived_91 : decode prog_9_method_47_code 91 = .ok (.iastore, 1) := by decide +kernel
theorem dM_derived_92 : decode prog_9_method_47_code 92 = .ok (.iinc 4 1, 3) := by decide +kernel
theorem dM_derived_95 : decode prog_9_method_47_code 95 = .ok (.goto (-23), 3) := by decide +kernel
theorem dM_derived_98 : decode prog_9_method_47_code 98 = .ok (.aload_n 0, 1) := by decide +kernel
theorem dM_derived_99 : decode prog_9_method_47_code 99 = .ok (.invokevirtual 166, 3) := by decide +kernel
theorem dM_derived_102 : decode prog_9_method_47_code 102 = .ok (.iconst 0, 1) := by decide +kernel
theorem dM_derived_103 : decode prog_9_method_47_code 103 = .ok (.istore 4, 2) := by decide +kernel
theorem dM_derived_105 : decode prog_9_method_47_code 105 = .ok (.iload 4, 2) := by decide +kernel
theorem dM_derived_107 : decode prog_9_method_47_code 107 = .ok (.aload_n 0, 1) := by decide +kernel
theorem dM_derived_108 : decode prog_9_method_47_code 108 = .ok (.getfield 64, 3) := by decide +kernel
theorem dM_derived_111 : decode prog_9_method_47_code 111 = .ok (.if_icmp .ge 56, 3) := by decide +kernel
theorem dM_derived_114 : decode prog_9_method_47_code 114 = .ok (.iconst 0, 1) := by decide +kernel
theorem dM_derived_115 : decode prog_9_method_47_code 115 = .ok (.istore 5, 2) := by decide +kernel
theorem dM_derived_117 : decode prog_9_method_47_code 117 = .ok (.iload 5, 2) := by decide +kernel
theorem dM_derived_119 : decode prog_9_method_47_code 119 = .ok (.iload_n 3, 1) := by decide +kernel
theorem dM_derived_120 : decode prog_9_method_47_code 120 = .ok (.if_icmp .ge 41, 3) := by decide +kernel
theorem dM_derived_123 : decode prog_9_method_47_code 123 = .ok (.aload_n 0, 1) := by decide +kernel
theorem dM_derived_124 : decode prog_9_method_47_code 124 = .ok (.iload_n 1, 1) := by decide +kernel
theorem dM_derived_125 : decode prog_9_method_47_code 125 = .ok (.iload 4, 2) := by decide +kernel
theorem dM_derived_127 : decode prog_9_method_47_code 127 = .ok (.invokevirtual 162, 3) := by decide +kernel
theorem dM_derived_130 : decode prog_9_method_47_code 130 = .ok (.ifCond .eq 31, 3) := by decide +kernel
theorem dM_derived_133 : decode prog_9_method_47_code 133 = .ok (.aload_n 0, 1) := by decide +kernel
theorem dM_derived_134 : decode prog_9_method_47_code 134 = .ok (.aload_n 0, 1) := by decide +kernel
theorem dM_derived_135 : decode prog_9_method_47_code 135 = .ok (.aload_n 0, 1) := by decide +kernel
theorem dM_derived_136 : decode prog_9_method_47_code 136 = .ok (.getfield 7, 3) := by decide +kernel
theorem dM_derived_139 : decode prog_9_method_47_code 139 = .ok (.iload 4, 2) := by decide +kernel
theorem dM_derived_141 : decode prog_9_method_47_code 141 = .ok (.iaload, 1) := by decide +kernel
theorem dM_derived_142 : decode prog_9_method_47_code 142 = .ok (.aload_n 0, 1) := by decide +kernel
theorem dM_derived_143 : decode prog_9_method_47_code 143 = .ok (.getfield 45, 3) := by decide +kernel
theorem dM_derived_146 : decode prog_9_method_47_code 146 = .ok (.iload 5, 2) := by decide +kernel
theorem dM_derived_148 : decode prog_9_method_47_code 148 = .ok (.iaload, 1) := by decide +kernel
theorem dM_derived_149 : decode prog_9_method_47_code 149 = .ok (.invokevirtual 130, 3) := by decide +kernel
theorem dM_derived_152 : decode prog_9_method_47_code 152 = .ok (.invokevirtual 169, 3) := by decide +kernel
theorem dM_derived_155 : decode prog_9_method_47_code 155 = .ok (.iinc 5 1, 3) := by decide +kernel
theorem dM_derived_158 : decode prog_9_method_47_code 158 = .ok (.goto (-41), 3) := by decide +kernel
theorem dM_derived_161 : decode prog_9_method_47_code 161 = .ok (.iinc 4 1, 3) := by decide +kernel
theorem dM_derived_164 : decode prog_9_method_47_code 164 = .ok (.goto (-59), 3) := by decide +kernel
theorem dM_derived_167 : decode prog_9_method_47_code 167 = .ok (.aload_n 0, 1) := by decide +kernel
theorem dM_derived_168 : decode prog_9_method_47_code 168 = .ok (.iload_n 2, 1) := by decide +kernel
theorem dM_derived_169 : decode prog_9_method_47_code 169 = .ok (.invokevirtual 172, 3) := by decide +kernel
theorem dM_derived_172 : decode prog_9_method_47_code 172 = .ok (.ireturn, 1) := by decide +kernel
theorem dM_order_0 : decode prog_9_method_48_code 0 = .ok (.aload_n 0, 1) := by decide +kernel
theorem dM_order_1 : decode prog_9_method_48_code 1 = .ok (.iconst 0, 1) := by decide +kernel
theorem dM_order_2 : decode prog_9_method_48_code 2 = .ok (.putfield 71, 3) := by decide +kernel
theorem dM_order_5 : decode prog_9_method_48_code 5 = .ok (.iload_n 1, 1) := by decide +kernel
theorem dM_order_6 : decode prog_9_method_48_code 6 = .ok (.invokestatic 187, 3) := by decide +kernel
theorem dM_order_9 : decode prog_9_method_48_code 9 = .ok (.ifCond .eq 11, 3) := by decide +kernel
theorem dM_order_12 : decode prog_9_method_48_code 12 = .ok (.aload_n 0, 1) := by decide +kernel
theorem dM_order_13 : decode prog_9_method_48_code 13 = .ok (.iload_n 1, 1) := by decide +kernel
theorem dM_order_14 : decode prog_9_method_48_code 14 = .ok (.invokevirtual 159, 3) := by decide +kernel
theorem dM_order_17 : decode prog_9_method_48_code 17 = .ok (.goto 8, 3) := by decide +kernel
theorem dM_order_20 : decode prog_9_method_48_code 20 = .ok (.aload_n 0, 1) := by decide +kernel
theorem dM_order_21 : decode prog_9_method_48_code 21 = .ok (.iconst 1, 1) := by decide +kernel
theorem dM_order_22 : decode prog_9_method_48_code 22 = .ok (.invokevirtual 137, 3) := by decide +kernel
theorem dM_order_25 : decode prog_9_method_48_code 25 = .ok (.ireturn, 1) := by decide +kernel
theorem dM_rank_0 : decode prog_9_method_49_code 0 = .ok (.aload_n 0, 1) := by decide +kernel
theorem dM_rank_1 : decode prog_9_method_49_code 1 = .ok (.iconst 0, 1) := by decide +kernel
theorem dM_rank_2 : decode prog_9_method_49_code 2 = .ok (.putfield 71, 3) := by decide +kernel
theorem dM_rank_5 : decode prog_9_method_49_code 5 = .ok (.iload_n 1, 1) := by decide +kernel
theorem dM_rank_6 : decode prog_9_method_49_code 6 = .ok (.invokestatic 187, 3) := by decide +kernel
theorem dM_rank_9 : decode prog_9_method_49_code 9 = .ok (.ifCond .ne 9, 3) := by decide +kernel
theorem dM_rank_12 : decode prog_9_method_49_code 12 = .ok (.aload_n 0, 1) := by decide +kernel
theorem dM_rank_13 : decode prog_9_method_49_code 13 = .ok (.iconst 1, 1) := by decide +kernel
theorem dM_rank_14 : decode prog_9_method_49_code 14 = .ok (.invokevirtual 137, 3) := by decide +kernel
theorem dM_rank_17 : decode prog_9_method_49_code 17 = .ok (.ireturn, 1) := by decide +kernel
theorem dM_rank_18 : decode prog_9_method_49_code 18 = .ok (.aload_n 0, 1) := by decide +kernel
theorem dM_rank_19 : decode prog_9_method_49_code 19 = .ok (.invokevirtual 133, 3) := by decide +kernel
theorem dM_rank_22 : decode prog_9_method_49_code 22 = .ok (.ifCond .ne 9, 3) := by decide +kernel
theorem dM_rank_25 : decode prog_9_method_49_code 25 = .ok (.aload_n 0, 1) := by decide +kernel
theorem dM_rank_26 : decode prog_9_method_49_code 26 = .ok (.iconst 2, 1) := by decide +kernel
theorem dM_rank_27 : decode prog_9_method_49_code 27 = .ok (.invokevirtual 137, 3) := by decide +kernel
theorem dM_rank_30 : decode prog_9_method_49_code 30 = .ok (.ireturn, 1) := by decide +kernel
theorem dM_rank_31 : decode prog_9_method_49_code 31 = .ok (.aload_n 0, 1) := by decide +kernel
theorem dM_rank_32 : decode prog_9_method_49_code 32 = .ok (.aload_n 0, 1) := by decide +kernel
theorem dM_rank_33 : decode prog_9_method_49_code 33 = .ok (.getfield 108, 3) := by decide +kernel
theorem dM_rank_36 : decode prog_9_method_49_code 36 = .ok (.invokevirtual 149, 3) := by decide +kernel
theorem dM_rank_39 : decode prog_9_method_49_code 39 = .ok (.istore_n 2, 1) := by decide +kernel
theorem dM_rank_40 : decode prog_9_method_49_code 40 = .ok (.aload_n 0, 1) := by decide +kernel
theorem dM_rank_41 : decode prog_9_method_49_code 41 = .ok (.iload_n 1, 1) := by decide +kernel
theorem dM_rank_42 : decode prog_9_method_49_code 42 = .ok (.iload_n 2, 1) := by decide +kernel
theorem dM_rank_43 : decode prog_9_method_49_code 43 = .ok (.invokevirtual 162, 3) := by decide +kernel
theorem dM_rank_46 : decode prog_9_method_49_code 46 = .ok (.ifCond .ne 5, 3) := by decide +kernel
theorem dM_rank_49 : decode prog_9_method_49_code 49 = .ok (.iconst (-1), 1) := by decide +kernel
theorem dM_rank_50 : decode prog_9_method_49_code 50 = .ok (.ireturn, 1) := by decide +kernel
theorem dM_rank_51 : decode prog_9_method_49_code 51 = .ok (.iconst 0, 1) := by decide +kernel
theorem dM_rank_52 : decode prog_9_method_49_code 52 = .ok (.istore_n 3, 1) := by decide +kernel
theorem dM_rank_53 : decode prog_9_method_49_code 53 = .ok (.iconst 0, 1) := by decide +kernel
theorem dM_rank_54 : decode prog_9_method_49_code 54 = .ok (.istore 4, 2) := by decide +kernel
theorem dM_rank_56 : decode prog_9_method_49_code 56 = .ok (.iload 4, 2) := by decide +kernel
theorem dM_rank_58 : decode prog_9_method_49_code 58 = .ok (.iload_n 2, 1) := by decide +kernel
theorem dM_rank_59 : decode prog_9_method_49_code 59 = .ok (.if_icmp .ge 27, 3) := by decide +kernel
theorem dM_rank_62 : decode prog_9_method_49_code 62 = .ok (.iload_n 3, 1) := by decide +kernel
theorem dM_rank_63 : decode prog_9_method_49_code 63 = .ok (.aload_n 0, 1) := by decide +kernel
theorem dM_rank_64 : decode prog_9_method_49_code 64 = .ok (.iload_n 1, 1) := by decide +kernel
theorem dM_rank_65 : decode prog_9_method_49_code 65 = .ok (.iload 4, 2) := by decide +kernel
theorem dM_rank_67 : decode prog_9_method_49_code 67 = .ok (.invokevirtual 162, 3) := by decide +kernel
theorem dM_rank_70 : decode prog_9_method_49_code 70 = .ok (.ifCond .eq 7, 3) := by decide +kernel
theorem dM_rank_73 : decode prog_9_method_49_code 73 = .ok (.iconst 1, 1) := by decide +kernel
theorem dM_rank_74 : decode prog_9_method_49_code 74 = .ok (.goto 4, 3) := by decide +kernel
theorem dM_rank_77 : decode prog_9_method_49_code 77 = .ok (.iconst 0, 1) := by decide +kernel
theorem dM_rank_78 : decode prog_9_method_49_code 78 = .ok (.iadd, 1) := by decide +kernel
theorem dM_rank_79 : decode prog_9_method_49_code 79 = .ok (.istore_n 3, 1) := by decide +kernel
theorem dM_rank_80 : decode prog_9_method_49_code 80 = .ok (.iinc 4 1, 3) := by decide +kernel
theorem dM_rank_83 : decode prog_9_method_49_code 83 = .ok (.goto (-27), 3) := by decide +kernel
theorem dM_rank_86 : decode prog_9_method_49_code 86 = .ok (.iload_n 3, 1) := by decide +kernel
theorem dM_rank_87 : decode prog_9_method_49_code 87 = .ok (.ireturn, 1) := by decide +kernel
theorem dM_element_0 : decode prog_9_method_50_code 0 = .ok (.aload_n 0, 1) := by decide +kernel
theorem dM_element_1 : decode prog_9_method_50_code 1 = .ok (.iconst 0, 1) := by decide +kernel
theorem dM_element_2 : decode prog_9_method_50_code 2 = .ok (.putfield 71, 3) := by decide +kernel
theorem dM_element_5 : decode prog_9_method_50_code 5 = .ok (.iload_n 1, 1) := by decide +kernel
theorem dM_element_6 : decode prog_9_method_50_code 6 = .ok (.invokestatic 187, 3) := by decide +kernel
theorem dM_element_9 : decode prog_9_method_50_code 9 = .ok (.ifCond .eq 19, 3) := by decide +kernel
theorem dM_element_12 : decode prog_9_method_50_code 12 = .ok (.iload_n 2, 1) := by decide +kernel
theorem dM_element_13 : decode prog_9_method_50_code 13 = .ok (.ifCond .lt 15, 3) := by decide +kernel
theorem dM_element_16 : decode prog_9_method_50_code 16 = .ok (.iload_n 3, 1) := by decide +kernel
theorem dM_element_17 : decode prog_9_method_50_code 17 = .ok (.ifCond .lt 11, 3) := by decide +kernel
theorem dM_element_20 : decode prog_9_method_50_code 20 = .ok (.iload_n 3, 1) := by decide +kernel
theorem dM_element_21 : decode prog_9_method_50_code 21 = .ok (.aload_n 0, 1) := by decide +kernel
theorem dM_element_22 : decode prog_9_method_50_code 22 = .ok (.getfield 60, 3) := by decide +kernel
theorem dM_element_25 : decode prog_9_method_50_code 25 = .ok (.if_icmp .lt 9, 3) := by decide +kernel
theorem dM_element_28 : decode prog_9_method_50_code 28 = .ok (.aload_n 0, 1) := by decide +kernel
theorem dM_element_29 : decode prog_9_method_50_code 29 = .ok (.iconst 1, 1) := by decide +kernel
theorem dM_element_30 : decode prog_9_method_50_code 30 = .ok (.invokevirtual 137, 3) := by decide +kernel
theorem dM_element_33 : decode prog_9_method_50_code 33 = .ok (.ireturn, 1) := by decide +kernel
theorem dM_element_34 : decode prog_9_method_50_code 34 = .ok (.iload_n 2, 1) := by decide +kernel
theorem dM_element_35 : decode prog_9_method_50_code 35 = .ok (.istore 4, 2) := by decide +kernel
theorem dM_element_37 : decode prog_9_method_50_code 37 = .ok (.iconst 0, 1) := by decide +kernel
theorem dM_element_38 : decode prog_9_method_50_code 38 = .ok (.istore 5, 2) := by decide +kernel
theorem dM_element_40 : decode prog_9_method_50_code 40 = .ok (.iload 5, 2) := by decide +kernel
theorem dM_element_42 : decode prog_9_method_50_code 42 = .ok (.aload_n 0, 1) := by decide +kernel
theorem dM_element_43 : decode prog_9_method_50_code 43 = .ok (.getfield 64, 3) := by decide +kernel
theorem dM_element_46 : decode prog_9_method_50_code 46 = .ok (.if_icmp .ge 43, 3) := by decide +kernel
theorem dM_element_49 : decode prog_9_method_50_code 49 = .ok (.aload_n 0, 1) := by decide +kernel
theorem dM_element_50 : decode prog_9_method_50_code 50 = .ok (.iload_n 1, 1) := by decide +kernel
theorem dM_element_51 : decode prog_9_method_50_code 51 = .ok (.iload 5, 2) := by decide +kernel
theorem dM_element_53 : decode prog_9_method_50_code 53 = .ok (.invokevirtual 162, 3) := by decide +kernel
theorem dM_element_56 : decode prog_9_method_50_code 56 = .ok (.ifCond .ne 6, 3) := by decide +kernel
theorem dM_element_59 : decode prog_9_method_50_code 59 = .ok (.goto 24, 3) := by decide +kernel
theorem dM_element_62 : decode prog_9_method_50_code 62 = .ok (.iload 4, 2) := by decide +kernel
theorem dM_element_64 : decode prog_9_method_50_code 64 = .ok (.ifCond .ne 16, 3) := by decide +kernel
theorem dM_element_67 : decode prog_9_method_50_code 67 = .ok (.aload_n 0, 1) := by decide +kernel
theorem dM_element_68 : decode prog_9_method_50_code 68 = .ok (.aload_n 0, 1) := by decide +kernel
theorem dM_element_69 : decode prog_9_method_50_code 69 = .ok (.getfield 7, 3) := by decide +kernel
theorem dM_element_72 : decode prog_9_method_50_code 72 = .ok (.iload 5, 2) := by decide +kernel
theorem dM_element_74 : decode prog_9_method_50_code 74 = .ok (.iaload, 1) := by decide +kernel
theorem dM_element_75 : decode prog_9_method_50_code 75 = .ok (.iload_n 3, 1) := by decide +kernel
theorem dM_element_76 : decode prog_9_method_50_code 76 = .ok (.invokevirtual 74, 3) := by decide +kernel
theorem dM_element_79 : decode prog_9_method_50_code 79 = .ok (.ireturn, 1) := by decide +kernel
theorem dM_element_80 : decode prog_9_method_50_code 80 = .ok (.iinc 4 (-1), 3) := by decide +kernel
theorem dM_element_83 : decode prog_9_method_50_code 83 = .ok (.iinc 5 1, 3) := by decide +kernel
theorem dM_element_86 : decode prog_9_method_50_code 86 = .ok (.goto (-46), 3) := by decide +kernel
theorem dM_element_89 : decode prog_9_method_50_code 89 = .ok (.aload_n 0, 1) := by decide +kernel
theorem dM_element_90 : decode prog_9_method_50_code 90 = .ok (.iconst 1, 1) := by decide +kernel
theorem dM_element_91 : decode prog_9_method_50_code 91 = .ok (.invokevirtual 137, 3) := by decide +kernel
theorem dM_element_94 : decode prog_9_method_50_code 94 = .ok (.ireturn, 1) := by decide +kernel
theorem dM_orbit_0 : decode prog_9_method_51_code 0 = .ok (.aload_n 0, 1) := by decide +kernel
theorem dM_orbit_1 : decode prog_9_method_51_code 1 = .ok (.iconst 0, 1) := by decide +kernel
theorem dM_orbit_2 : decode prog_9_method_51_code 2 = .ok (.putfield 71, 3) := by decide +kernel
theorem dM_orbit_5 : decode prog_9_method_51_code 5 = .ok (.iload_n 1, 1) := by decide +kernel
theorem dM_orbit_6 : decode prog_9_method_51_code 6 = .ok (.invokestatic 187, 3) := by decide +kernel
theorem dM_orbit_9 : decode prog_9_method_51_code 9 = .ok (.ifCond .eq 15, 3) := by decide +kernel
theorem dM_orbit_12 : decode prog_9_method_51_code 12 = .ok (.iload_n 2, 1) := by decide +kernel
theorem dM_orbit_13 : decode prog_9_method_51_code 13 = .ok (.ifCond .lt 11, 3) := by decide +kernel
theorem dM_orbit_16 : decode prog_9_method_51_code 16 = .ok (.iload_n 2, 1) := by decide +kernel
theorem dM_orbit_17 : decode prog_9_method_51_code 17 = .ok (.aload_n 0, 1) := by decide +kernel
theorem dM_orbit_18 : decode prog_9_method_51_code 18 = .ok (.getfield 60, 3) := by decide +kernel
theorem dM_orbit_21 : decode prog_9_method_51_code 21 = .ok (.if_icmp .lt 9, 3) := by decide +kernel
theorem dM_orbit_24 : decode prog_9_method_51_code 24 = .ok (.aload_n 0, 1) := by decide +kernel
theorem dM_orbit_25 : decode prog_9_method_51_code 25 = .ok (.iconst 1, 1) := by decide +kernel
theorem dM_orbit_26 : decode prog_9_method_51_code 26 = .ok (.invokevirtual 137, 3) := by decide +kernel
theorem dM_orbit_29 : decode prog_9_method_51_code 29 = .ok (.ireturn, 1) := by decide +kernel
theorem dM_orbit_30 : decode prog_9_method_51_code 30 = .ok (.iconst 0, 1) := by decide +kernel
theorem dM_orbit_31 : decode prog_9_method_51_code 31 = .ok (.istore_n 3, 1) := by decide +kernel
theorem dM_orbit_32 : decode prog_9_method_51_code 32 = .ok (.iconst 0, 1) := by decide +kernel
theorem dM_orbit_33 : decode prog_9_method_51_code 33 = .ok (.istore 4, 2) := by decide +kernel
theorem dM_orbit_35 : decode prog_9_method_51_code 35 = .ok (.iload 4, 2) := by decide +kernel
theorem dM_orbit_37 : decode prog_9_method_51_code 37 = .ok (.aload_n 0, 1) := by decide +kernel
theorem dM_orbit_38 : decode prog_9_method_51_code 38 = .ok (.getfield 64, 3) := by decide +kernel
theorem dM_orbit_41 : decode prog_9_method_51_code 41 = .ok (.if_icmp .ge 36, 3) := by decide +kernel
theorem dM_orbit_44 : decode prog_9_method_51_code 44 = .ok (.aload_n 0, 1) := by decide +kernel
theorem dM_orbit_45 : decode prog_9_method_51_code 45 = .ok (.iload_n 1, 1) := by decide +kernel
theorem dM_orbit_46 : decode prog_9_method_51_code 46 = .ok (.iload 4, 2) := by decide +kernel
theorem dM_orbit_48 : decode prog_9_method_51_code 48 = .ok (.invokevirtual 162, 3) := by decide +kernel
theorem dM_orbit_51 : decode prog_9_method_51_code 51 = .ok (.ifCond .eq 20, 3) := by decide +kernel
theorem dM_orbit_54 : decode prog_9_method_51_code 54 = .ok (.iload_n 3, 1) := by decide +kernel
theorem dM_orbit_55 : decode prog_9_method_51_code 55 = .ok (.iconst 1, 1) := by decide +kernel
theorem dM_orbit_56 : decode prog_9_method_51_code 56 = .ok (.aload_n 0, 1) := by decide +kernel
theorem dM_orbit_57 : decode prog_9_method_51_code 57 = .ok (.aload_n 0, 1) := by decide +kernel
theorem dM_orbit_58 : decode prog_9_method_51_code 58 = .ok (.getfield 7, 3) := by decide +kernel
theorem dM_orbit_61 : decode prog_9_method_51_code 61 = .ok (.iload 4, 2) := by decide +kernel
theorem dM_orbit_63 : decode prog_9_method_51_code 63 = .ok (.iaload, 1) := by decide +kernel
theorem dM_orbit_64 : decode prog_9_method_51_code 64 = .ok (.iload_n 2, 1) := by decide +kernel
theorem dM_orbit_65 : decode prog_9_method_51_code 65 = .ok (.invokevirtual 74, 3) := by decide +kernel
theorem dM_orbit_68 : decode prog_9_method_51_code 68 = .ok (.ishl, 1) := by decide +kernel
theorem dM_orbit_69 : decode prog_9_method_51_code 69 = .ok (.ior, 1) := by decide +kernel
theorem dM_orbit_70 : decode prog_9_method_51_code 70 = .ok (.istore_n 3, 1) := by decide +kernel
theorem dM_orbit_71 : decode prog_9_method_51_code 71 = .ok (.iinc 4 1, 3) := by decide +kernel
theorem dM_orbit_74 : decode prog_9_method_51_code 74 = .ok (.goto (-39), 3) := by decide +kernel
theorem dM_orbit_77 : decode prog_9_method_51_code 77 = .ok (.iload_n 3, 1) := by decide +kernel
theorem dM_orbit_78 : decode prog_9_method_51_code 78 = .ok (.ireturn, 1) := by decide +kernel
