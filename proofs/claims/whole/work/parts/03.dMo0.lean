/-! decode rows -/
theorem dMo_init_0 : decode cMo_init 0 = .ok (.aload_n 0, 1) := by decide +kernel
theorem dMo_init_1 : decode cMo_init 1 = .ok (.invokespecial 1, 3) := by decide +kernel
theorem dMo_init_4 : decode cMo_init 4 = .ok (.aload_n 0, 1) := by decide +kernel
theorem dMo_init_5 : decode cMo_init 5 = .ok (.iconst 3, 1) := by decide +kernel
theorem dMo_init_6 : decode cMo_init 6 = .ok (.newarray .int, 2) := by decide +kernel
theorem dMo_init_8 : decode cMo_init 8 = .ok (.putfield 7, 3) := by decide +kernel
theorem dMo_init_11 : decode cMo_init 11 = .ok (.aload_n 0, 1) := by decide +kernel
theorem dMo_init_12 : decode cMo_init 12 = .ok (.iconst 3, 1) := by decide +kernel
theorem dMo_init_13 : decode cMo_init 13 = .ok (.newarray .int, 2) := by decide +kernel
theorem dMo_init_15 : decode cMo_init 15 = .ok (.putfield 13, 3) := by decide +kernel
theorem dMo_init_18 : decode cMo_init 18 = .ok (.aload_n 0, 1) := by decide +kernel
theorem dMo_init_19 : decode cMo_init 19 = .ok (.bipush 18, 2) := by decide +kernel
theorem dMo_init_21 : decode cMo_init 21 = .ok (.newarray .int, 2) := by decide +kernel
theorem dMo_init_23 : decode cMo_init 23 = .ok (.putfield 16, 3) := by decide +kernel
theorem dMo_init_26 : decode cMo_init 26 = .ok (.aload_n 0, 1) := by decide +kernel
theorem dMo_init_27 : decode cMo_init 27 = .ok (.bipush 36, 2) := by decide +kernel
theorem dMo_init_29 : decode cMo_init 29 = .ok (.newarray .int, 2) := by decide +kernel
theorem dMo_init_31 : decode cMo_init 31 = .ok (.putfield 19, 3) := by decide +kernel
theorem dMo_init_34 : decode cMo_init 34 = .ok (.aload_n 0, 1) := by decide +kernel
theorem dMo_init_35 : decode cMo_init 35 = .ok (.bipush 36, 2) := by decide +kernel
theorem dMo_init_37 : decode cMo_init 37 = .ok (.newarray .int, 2) := by decide +kernel
theorem dMo_init_39 : decode cMo_init 39 = .ok (.putfield 22, 3) := by decide +kernel
theorem dMo_init_42 : decode cMo_init 42 = .ok (.aload_n 0, 1) := by decide +kernel
theorem dMo_init_43 : decode cMo_init 43 = .ok (.bipush 36, 2) := by decide +kernel
theorem dMo_init_45 : decode cMo_init 45 = .ok (.newarray .int, 2) := by decide +kernel
theorem dMo_init_47 : decode cMo_init 47 = .ok (.putfield 25, 3) := by decide +kernel
theorem dMo_init_50 : decode cMo_init 50 = .ok (.aload_n 0, 1) := by decide +kernel
theorem dMo_init_51 : decode cMo_init 51 = .ok (.bipush 36, 2) := by decide +kernel
theorem dMo_init_53 : decode cMo_init 53 = .ok (.newarray .int, 2) := by decide +kernel
theorem dMo_init_55 : decode cMo_init 55 = .ok (.putfield 28, 3) := by decide +kernel
theorem dMo_init_58 : decode cMo_init 58 = .ok (.aload_n 0, 1) := by decide +kernel
theorem dMo_init_59 : decode cMo_init 59 = .ok (.bipush 36, 2) := by decide +kernel
theorem dMo_init_61 : decode cMo_init 61 = .ok (.newarray .int, 2) := by decide +kernel
theorem dMo_init_63 : decode cMo_init 63 = .ok (.putfield 31, 3) := by decide +kernel
theorem dMo_init_66 : decode cMo_init 66 = .ok (.aload_n 0, 1) := by decide +kernel
theorem dMo_init_67 : decode cMo_init 67 = .ok (.bipush 36, 2) := by decide +kernel
theorem dMo_init_69 : decode cMo_init 69 = .ok (.newarray .int, 2) := by decide +kernel
theorem dMo_init_71 : decode cMo_init 71 = .ok (.putfield 34, 3) := by decide +kernel
theorem dMo_init_74 : decode cMo_init 74 = .ok (.aload_n 0, 1) := by decide +kernel
theorem dMo_init_75 : decode cMo_init 75 = .ok (.bipush 36, 2) := by decide +kernel
theorem dMo_init_77 : decode cMo_init 77 = .ok (.newarray .int, 2) := by decide +kernel
theorem dMo_init_79 : decode cMo_init 79 = .ok (.putfield 37, 3) := by decide +kernel
theorem dMo_init_82 : decode cMo_init 82 = .ok (.aload_n 0, 1) := by decide +kernel
theorem dMo_init_83 : decode cMo_init 83 = .ok (.bipush 108, 2) := by decide +kernel
theorem dMo_init_85 : decode cMo_init 85 = .ok (.newarray .int, 2) := by decide +kernel
theorem dMo_init_87 : decode cMo_init 87 = .ok (.putfield 40, 3) := by decide +kernel
theorem dMo_init_90 : decode cMo_init 90 = .ok (.aload_n 0, 1) := by decide +kernel
theorem dMo_init_91 : decode cMo_init 91 = .ok (.bipush 108, 2) := by decide +kernel
theorem dMo_init_93 : decode cMo_init 93 = .ok (.newarray .int, 2) := by decide +kernel
theorem dMo_init_95 : decode cMo_init 95 = .ok (.putfield 43, 3) := by decide +kernel
theorem dMo_init_98 : decode cMo_init 98 = .ok (.aload_n 0, 1) := by decide +kernel
theorem dMo_init_99 : decode cMo_init 99 = .ok (.bipush 108, 2) := by decide +kernel
theorem dMo_init_101 : decode cMo_init 101 = .ok (.newarray .int, 2) := by decide +kernel
theorem dMo_init_103 : decode cMo_init 103 = .ok (.putfield 46, 3) := by decide +kernel
theorem dMo_init_106 : decode cMo_init 106 = .ok (.aload_n 0, 1) := by decide +kernel
theorem dMo_init_107 : decode cMo_init 107 = .ok (.bipush 25, 2) := by decide +kernel
theorem dMo_init_109 : decode cMo_init 109 = .ok (.newarray .int, 2) := by decide +kernel
theorem dMo_init_111 : decode cMo_init 111 = .ok (.putfield 49, 3) := by decide +kernel
theorem dMo_init_114 : decode cMo_init 114 = .ok (.aload_n 0, 1) := by decide +kernel
theorem dMo_init_115 : decode cMo_init 115 = .ok (.bipush 25, 2) := by decide +kernel
theorem dMo_init_117 : decode cMo_init 117 = .ok (.newarray .int, 2) := by decide +kernel
theorem dMo_init_119 : decode cMo_init 119 = .ok (.putfield 52, 3) := by decide +kernel
theorem dMo_init_122 : decode cMo_init 122 = .ok (.aload_n 0, 1) := by decide +kernel
theorem dMo_init_123 : decode cMo_init 123 = .ok (.iconst 4, 1) := by decide +kernel
theorem dMo_init_124 : decode cMo_init 124 = .ok (.newarray .int, 2) := by decide +kernel
theorem dMo_init_126 : decode cMo_init 126 = .ok (.putfield 55, 3) := by decide +kernel
theorem dMo_init_129 : decode cMo_init 129 = .ok (.aload_n 0, 1) := by decide +kernel
theorem dMo_init_130 : decode cMo_init 130 = .ok (.sipush 600, 3) := by decide +kernel
theorem dMo_init_133 : decode cMo_init 133 = .ok (.newarray .int, 2) := by decide +kernel
theorem dMo_init_135 : decode cMo_init 135 = .ok (.putfield 58, 3) := by decide +kernel
theorem dMo_init_138 : decode cMo_init 138 = .ok (.aload_n 0, 1) := by decide +kernel
theorem dMo_init_139 : decode cMo_init 139 = .ok (.sipush 5000, 3) := by decide +kernel
theorem dMo_init_142 : decode cMo_init 142 = .ok (.newarray .int, 2) := by decide +kernel
theorem dMo_init_144 : decode cMo_init 144 = .ok (.putfield 61, 3) := by decide +kernel
theorem dMo_init_147 : decode cMo_init 147 = .ok (.aload_n 0, 1) := by decide +kernel
theorem dMo_init_148 : decode cMo_init 148 = .ok (.sipush 5000, 3) := by decide +kernel
theorem dMo_init_151 : decode cMo_init 151 = .ok (.newarray .int, 2) := by decide +kernel
theorem dMo_init_153 : decode cMo_init 153 = .ok (.putfield 64, 3) := by decide +kernel
theorem dMo_init_156 : decode cMo_init 156 = .ok (.aload_n 0, 1) := by decide +kernel
theorem dMo_init_157 : decode cMo_init 157 = .ok (.sipush 200, 3) := by decide +kernel
theorem dMo_init_160 : decode cMo_init 160 = .ok (.newarray .int, 2) := by decide +kernel
theorem dMo_init_162 : decode cMo_init 162 = .ok (.putfield 67, 3) := by decide +kernel
theorem dMo_init_165 : decode cMo_init 165 = .ok (.aload_n 0, 1) := by decide +kernel
theorem dMo_init_166 : decode cMo_init 166 = .ok (.sipush 200, 3) := by decide +kernel
theorem dMo_init_169 : decode cMo_init 169 = .ok (.newarray .int, 2) := by decide +kernel
theorem dMo_init_171 : decode cMo_init 171 = .ok (.putfield 70, 3) := by decide +kernel
theorem dMo_init_174 : decode cMo_init 174 = .ok (.aload_n 0, 1) := by decide +kernel
theorem dMo_init_175 : decode cMo_init 175 = .ok (.sipush 200, 3) := by decide +kernel
theorem dMo_init_178 : decode cMo_init 178 = .ok (.newarray .int, 2) := by decide +kernel
theorem dMo_init_180 : decode cMo_init 180 = .ok (.putfield 73, 3) := by decide +kernel
theorem dMo_init_183 : decode cMo_init 183 = .ok (.aload_n 0, 1) := by decide +kernel
theorem dMo_init_184 : decode cMo_init 184 = .ok (.sipush 200, 3) := by decide +kernel
theorem dMo_init_187 : decode cMo_init 187 = .ok (.newarray .int, 2) := by decide +kernel
theorem dMo_init_189 : decode cMo_init 189 = .ok (.putfield 76, 3) := by decide +kernel
theorem dMo_init_192 : decode cMo_init 192 = .ok (.aload_n 0, 1) := by decide +kernel
theorem dMo_init_193 : decode cMo_init 193 = .ok (.sipush 800, 3) := by decide +kernel
theorem dMo_init_196 : decode cMo_init 196 = .ok (.newarray .int, 2) := by decide +kernel
theorem dMo_init_198 : decode cMo_init 198 = .ok (.putfield 79, 3) := by decide +kernel
theorem dMo_init_201 : decode cMo_init 201 = .ok (.aload_n 0, 1) := by decide +kernel
theorem dMo_init_202 : decode cMo_init 202 = .ok (.sipush 200, 3) := by decide +kernel
theorem dMo_init_205 : decode cMo_init 205 = .ok (.newarray .int, 2) := by decide +kernel
theorem dMo_init_207 : decode cMo_init 207 = .ok (.putfield 82, 3) := by decide +kernel
theorem dMo_init_210 : decode cMo_init 210 = .ok (.aload_n 0, 1) := by decide +kernel
theorem dMo_init_211 : decode cMo_init 211 = .ok (.sipush 200, 3) := by decide +kernel
theorem dMo_init_214 : decode cMo_init 214 = .ok (.newarray .boolean, 2) := by decide +kernel
theorem dMo_init_216 : decode cMo_init 216 = .ok (.putfield 85, 3) := by decide +kernel
theorem dMo_init_219 : decode cMo_init 219 = .ok (.aload_n 0, 1) := by decide +kernel
theorem dMo_init_220 : decode cMo_init 220 = .ok (.iconst 3, 1) := by decide +kernel
theorem dMo_init_221 : decode cMo_init 221 = .ok (.newarray .int, 2) := by decide +kernel
theorem dMo_init_223 : decode cMo_init 223 = .ok (.putfield 89, 3) := by decide +kernel
theorem dMo_init_226 : decode cMo_init 226 = .ok (.aload_n 0, 1) := by decide +kernel
theorem dMo_init_227 : decode cMo_init 227 = .ok (.iconst 3, 1) := by decide +kernel
theorem dMo_init_228 : decode cMo_init 228 = .ok (.newarray .int, 2) := by decide +kernel
theorem dMo_init_230 : decode cMo_init 230 = .ok (.putfield 92, 3) := by decide +kernel
theorem dMo_init_233 : decode cMo_init 233 = .ok (.aload_n 0, 1) := by decide +kernel
theorem dMo_init_234 : decode cMo_init 234 = .ok (.bipush 25, 2) := by decide +kernel
theorem dMo_init_236 : decode cMo_init 236 = .ok (.newarray .int, 2) := by decide +kernel
theorem dMo_init_238 : decode cMo_init 238 = .ok (.putfield 95, 3) := by decide +kernel
theorem dMo_init_241 : decode cMo_init 241 = .ok (.aload_n 0, 1) := by decide +kernel
theorem dMo_init_242 : decode cMo_init 242 = .ok (.iconst 4, 1) := by decide +kernel
theorem dMo_init_243 : decode cMo_init 243 = .ok (.newarray .int, 2) := by decide +kernel
theorem dMo_init_245 : decode cMo_init 245 = .ok (.putfield 98, 3) := by decide +kernel
theorem dMo_init_248 : decode cMo_init 248 = .ok (.aload_n 0, 1) := by decide +kernel
theorem dMo_init_249 : decode cMo_init 249 = .ok (.bipush 8, 2) := by decide +kernel
theorem dMo_init_251 : decode cMo_init 251 = .ok (.newarray .int, 2) := by decide +kernel
theorem dMo_init_253 : decode cMo_init 253 = .ok (.putfield 101, 3) := by decide +kernel
theorem dMo_init_256 : decode cMo_init 256 = .ok (.aload_n 0, 1) := by decide +kernel
theorem dMo_init_257 : decode cMo_init 257 = .ok (.bipush 8, 2) := by decide +kernel
theorem dMo_init_259 : decode cMo_init 259 = .ok (.newarray .int, 2) := by decide +kernel
theorem dMo_init_261 : decode cMo_init 261 = .ok (.putfield 104, 3) := by decide +kernel
theorem dMo_init_264 : decode cMo_init 264 = .ok (.aload_n 0, 1) := by decide +kernel
theorem dMo_init_265 : decode cMo_init 265 = .ok (.bipush 8, 2) := by decide +kernel
theorem dMo_init_267 : decode cMo_init 267 = .ok (.newarray .int, 2) := by decide +kernel
theorem dMo_init_269 : decode cMo_init 269 = .ok (.putfield 107, 3) := by decide +kernel
theorem dMo_init_272 : decode cMo_init 272 = .ok (.aload_n 0, 1) := by decide +kernel
theorem dMo_init_273 : decode cMo_init 273 = .ok (.bipush 8, 2) := by decide +kernel
theorem dMo_init_275 : decode cMo_init 275 = .ok (.newarray .int, 2) := by decide +kernel
theorem dMo_init_277 : decode cMo_init 277 = .ok (.putfield 110, 3) := by decide +kernel
theorem dMo_init_280 : decode cMo_init 280 = .ok (.aload_n 0, 1) := by decide +kernel
theorem dMo_init_281 : decode cMo_init 281 = .ok (.sipush 480, 3) := by decide +kernel
theorem dMo_init_284 : decode cMo_init 284 = .ok (.newarray .long, 2) := by decide +kernel
theorem dMo_init_286 : decode cMo_init 286 = .ok (.putfield 113, 3) := by decide +kernel
theorem dMo_init_289 : decode cMo_init 289 = .ok (.aload_n 0, 1) := by decide +kernel
theorem dMo_init_290 : decode cMo_init 290 = .ok (.bipush 60, 2) := by decide +kernel
theorem dMo_init_292 : decode cMo_init 292 = .ok (.newarray .long, 2) := by decide +kernel
theorem dMo_init_294 : decode cMo_init 294 = .ok (.putfield 117, 3) := by decide +kernel
theorem dMo_init_297 : decode cMo_init 297 = .ok (.aload_n 0, 1) := by decide +kernel
theorem dMo_init_298 : decode cMo_init 298 = .ok (.iconst 4, 1) := by decide +kernel
theorem dMo_init_299 : decode cMo_init 299 = .ok (.invokevirtual 120, 3) := by decide +kernel
theorem dMo_init_302 : decode cMo_init 302 = .ok (.iconst 0, 1) := by decide +kernel
theorem dMo_init_303 : decode cMo_init 303 = .ok (.istore_n 1, 1) := by decide +kernel
theorem dMo_init_304 : decode cMo_init 304 = .ok (.iload_n 1, 1) := by decide +kernel
theorem dMo_init_305 : decode cMo_init 305 = .ok (.bipush 25, 2) := by decide +kernel
theorem dMo_init_307 : decode cMo_init 307 = .ok (.if_icmp .ge 21, 3) := by decide +kernel
theorem dMo_init_310 : decode cMo_init 310 = .ok (.aload_n 0, 1) := by decide +kernel
theorem dMo_init_311 : decode cMo_init 311 = .ok (.getfield 95, 3) := by decide +kernel
theorem dMo_init_314 : decode cMo_init 314 = .ok (.iload_n 1, 1) := by decide +kernel
theorem dMo_init_315 : decode cMo_init 315 = .ok (.aload_n 0, 1) := by decide +kernel
theorem dMo_init_316 : decode cMo_init 316 = .ok (.getfield 49, 3) := by decide +kernel
theorem dMo_init_319 : decode cMo_init 319 = .ok (.iload_n 1, 1) := by decide +kernel
theorem dMo_init_320 : decode cMo_init 320 = .ok (.iaload, 1) := by decide +kernel
theorem dMo_init_321 : decode cMo_init 321 = .ok (.iastore, 1) := by decide +kernel
theorem dMo_init_322 : decode cMo_init 322 = .ok (.iinc 1 1, 3) := by decide +kernel
theorem dMo_init_325 : decode cMo_init 325 = .ok (.goto (-21), 3) := by decide +kernel
theorem dMo_init_328 : decode cMo_init 328 = .ok (.return_, 1) := by decide +kernel
theorem dMo_thrown_0 : decode cMo_thrown 0 = .ok (.aload_n 0, 1) := by decide +kernel
theorem dMo_thrown_1 : decode cMo_thrown 1 = .ok (.getfield 124, 3) := by decide +kernel
theorem dMo_thrown_4 : decode cMo_thrown 4 = .ok (.ireturn, 1) := by decide +kernel
theorem dMo_isIn_0 : decode cMo_isIn 0 = .ok (.lload_n 0, 1) := by decide +kernel
theorem dMo_isIn_1 : decode cMo_isIn 1 = .ok (.lload_n 2, 1) := by decide +kernel
theorem dMo_isIn_2 : decode cMo_isIn 2 = .ok (.lcmp, 1) := by decide +kernel
theorem dMo_isIn_3 : decode cMo_isIn 3 = .ok (.ifCond .lt 14, 3) := by decide +kernel
theorem dMo_isIn_6 : decode cMo_isIn 6 = .ok (.lload_n 0, 1) := by decide +kernel
theorem dMo_isIn_7 : decode cMo_isIn 7 = .ok (.lload 4, 2) := by decide +kernel
theorem dMo_isIn_9 : decode cMo_isIn 9 = .ok (.lcmp, 1) := by decide +kernel
theorem dMo_isIn_10 : decode cMo_isIn 10 = .ok (.ifCond .gt 7, 3) := by decide +kernel
theorem dMo_isIn_13 : decode cMo_isIn 13 = .ok (.iconst 1, 1) := by decide +kernel
theorem dMo_isIn_14 : decode cMo_isIn 14 = .ok (.goto 4, 3) := by decide +kernel
theorem dMo_isIn_17 : decode cMo_isIn 17 = .ok (.iconst 0, 1) := by decide +kernel
theorem dMo_isIn_18 : decode cMo_isIn 18 = .ok (.ireturn, 1) := by decide +kernel
theorem dMo_machine_0 : decode cMo_machine 0 = .ok (.aload_n 0, 1) := by decide +kernel
theorem dMo_machine_1 : decode cMo_machine 1 = .ok (.iconst 0, 1) := by decide +kernel
theorem dMo_machine_2 : decode cMo_machine 2 = .ok (.putfield 124, 3) := by decide +kernel
theorem dMo_machine_5 : decode cMo_machine 5 = .ok (.aload_n 0, 1) := by decide +kernel
theorem dMo_machine_6 : decode cMo_machine 6 = .ok (.getfield 128, 3) := by decide +kernel
theorem dMo_machine_9 : decode cMo_machine 9 = .ok (.iconst 3, 1) := by decide +kernel
theorem dMo_machine_10 : decode cMo_machine 10 = .ok (.if_icmp .ne 6, 3) := by decide +kernel
theorem dMo_machine_13 : decode cMo_machine 13 = .ok (.bipush (-2), 2) := by decide +kernel
theorem dMo_machine_15 : decode cMo_machine 15 = .ok (.ireturn, 1) := by decide +kernel
theorem dMo_machine_16 : decode cMo_machine 16 = .ok (.aload_n 0, 1) := by decide +kernel
theorem dMo_machine_17 : decode cMo_machine 17 = .ok (.dup, 1) := by decide +kernel
theorem dMo_machine_18 : decode cMo_machine 18 = .ok (.getfield 128, 3) := by decide +kernel
theorem dMo_machine_21 : decode cMo_machine 21 = .ok (.iconst 1, 1) := by decide +kernel
theorem dMo_machine_22 : decode cMo_machine 22 = .ok (.iadd, 1) := by decide +kernel
theorem dMo_machine_23 : decode cMo_machine 23 = .ok (.putfield 128, 3) := by decide +kernel
theorem dMo_machine_26 : decode cMo_machine 26 = .ok (.aload_n 0, 1) := by decide +kernel
theorem dMo_machine_27 : decode cMo_machine 27 = .ok (.getfield 128, 3) := by decide +kernel
theorem dMo_machine_30 : decode cMo_machine 30 = .ok (.iconst 1, 1) := by decide +kernel
theorem dMo_machine_31 : decode cMo_machine 31 = .ok (.isub, 1) := by decide +kernel
theorem dMo_machine_32 : decode cMo_machine 32 = .ok (.ireturn, 1) := by decide +kernel
theorem dMo_isMachine_0 : decode cMo_isMachine 0 = .ok (.iload_n 1, 1) := by decide +kernel
theorem dMo_isMachine_1 : decode cMo_isMachine 1 = .ok (.ifCond .lt 15, 3) := by decide +kernel
theorem dMo_isMachine_4 : decode cMo_isMachine 4 = .ok (.iload_n 1, 1) := by decide +kernel
theorem dMo_isMachine_5 : decode cMo_isMachine 5 = .ok (.aload_n 0, 1) := by decide +kernel
theorem dMo_isMachine_6 : decode cMo_isMachine 6 = .ok (.getfield 128, 3) := by decide +kernel
theorem dMo_isMachine_9 : decode cMo_isMachine 9 = .ok (.if_icmp .ge 7, 3) := by decide +kernel
theorem dMo_isMachine_12 : decode cMo_isMachine 12 = .ok (.iconst 1, 1) := by decide +kernel
theorem dMo_isMachine_13 : decode cMo_isMachine 13 = .ok (.goto 4, 3) := by decide +kernel
theorem dMo_isMachine_16 : decode cMo_isMachine 16 = .ok (.iconst 0, 1) := by decide +kernel
theorem dMo_isMachine_17 : decode cMo_isMachine 17 = .ok (.ireturn, 1) := by decide +kernel
theorem dMo_place_0 : decode cMo_place 0 = .ok (.aload_n 0, 1) := by decide +kernel
theorem dMo_place_1 : decode cMo_place 1 = .ok (.iconst 0, 1) := by decide +kernel
theorem dMo_place_2 : decode cMo_place 2 = .ok (.putfield 124, 3) := by decide +kernel
theorem dMo_place_5 : decode cMo_place 5 = .ok (.aload_n 0, 1) := by decide +kernel
theorem dMo_place_6 : decode cMo_place 6 = .ok (.iload_n 1, 1) := by decide +kernel
theorem dMo_place_7 : decode cMo_place 7 = .ok (.invokevirtual 131, 3) := by decide +kernel
theorem dMo_place_10 : decode cMo_place 10 = .ok (.ifCond .ne 5, 3) := by decide +kernel
theorem dMo_place_13 : decode cMo_place 13 = .ok (.iconst (-1), 1) := by decide +kernel
theorem dMo_place_14 : decode cMo_place 14 = .ok (.ireturn, 1) := by decide +kernel
theorem dMo_place_15 : decode cMo_place 15 = .ok (.aload_n 0, 1) := by decide +kernel
theorem dMo_place_16 : decode cMo_place 16 = .ok (.getfield 7, 3) := by decide +kernel
theorem dMo_place_19 : decode cMo_place 19 = .ok (.iload_n 1, 1) := by decide +kernel
theorem dMo_place_20 : decode cMo_place 20 = .ok (.iaload, 1) := by decide +kernel
theorem dMo_place_21 : decode cMo_place 21 = .ok (.bipush 6, 2) := by decide +kernel
theorem dMo_place_23 : decode cMo_place 23 = .ok (.if_icmp .ne 6, 3) := by decide +kernel
theorem dMo_place_26 : decode cMo_place 26 = .ok (.bipush (-2), 2) := by decide +kernel
theorem dMo_place_28 : decode cMo_place 28 = .ok (.ireturn, 1) := by decide +kernel
theorem dMo_place_29 : decode cMo_place 29 = .ok (.aload_n 0, 1) := by decide +kernel
theorem dMo_place_30 : decode cMo_place 30 = .ok (.getfield 16, 3) := by decide +kernel
theorem dMo_place_33 : decode cMo_place 33 = .ok (.bipush 6, 2) := by decide +kernel
theorem dMo_place_35 : decode cMo_place 35 = .ok (.iload_n 1, 1) := by decide +kernel
theorem dMo_place_36 : decode cMo_place 36 = .ok (.imul, 1) := by decide +kernel
theorem dMo_place_37 : decode cMo_place 37 = .ok (.aload_n 0, 1) := by decide +kernel
theorem dMo_place_38 : decode cMo_place 38 = .ok (.getfield 7, 3) := by decide +kernel
theorem dMo_place_41 : decode cMo_place 41 = .ok (.iload_n 1, 1) := by decide +kernel
theorem dMo_place_42 : decode cMo_place 42 = .ok (.iaload, 1) := by decide +kernel
theorem dMo_place_43 : decode cMo_place 43 = .ok (.iadd, 1) := by decide +kernel
theorem dMo_place_44 : decode cMo_place 44 = .ok (.iconst 0, 1) := by decide +kernel
theorem dMo_place_45 : decode cMo_place 45 = .ok (.iastore, 1) := by decide +kernel
theorem dMo_place_46 : decode cMo_place 46 = .ok (.aload_n 0, 1) := by decide +kernel
theorem dMo_place_47 : decode cMo_place 47 = .ok (.getfield 7, 3) := by decide +kernel
theorem dMo_place_50 : decode cMo_place 50 = .ok (.iload_n 1, 1) := by decide +kernel
theorem dMo_place_51 : decode cMo_place 51 = .ok (.dup2, 1) := by decide +kernel
theorem dMo_place_52 : decode cMo_place 52 = .ok (.iaload, 1) := by decide +kernel
theorem dMo_place_53 : decode cMo_place 53 = .ok (.iconst 1, 1) := by decide +kernel
theorem dMo_place_54 : decode cMo_place 54 = .ok (.iadd, 1) := by decide +kernel
theorem dMo_place_55 : decode cMo_place 55 = .ok (.iastore, 1) := by decide +kernel
theorem dMo_place_56 : decode cMo_place 56 = .ok (.aload_n 0, 1) := by decide +kernel
theorem dMo_place_57 : decode cMo_place 57 = .ok (.getfield 7, 3) := by decide +kernel
theorem dMo_place_60 : decode cMo_place 60 = .ok (.iload_n 1, 1) := by decide +kernel
theorem dMo_place_61 : decode cMo_place 61 = .ok (.iaload, 1) := by decide +kernel
theorem dMo_place_62 : decode cMo_place 62 = .ok (.iconst 1, 1) := by decide +kernel
theorem dMo_place_63 : decode cMo_place 63 = .ok (.isub, 1) := by decide +kernel
theorem dMo_place_64 : decode cMo_place 64 = .ok (.ireturn, 1) := by decide +kernel
theorem dMo_isPlace_0 : decode cMo_isPlace 0 = .ok (.aload_n 0, 1) := by decide +kernel
theorem dMo_isPlace_1 : decode cMo_isPlace 1 = .ok (.iload_n 1, 1) := by decide +kernel
theorem dMo_isPlace_2 : decode cMo_isPlace 2 = .ok (.invokevirtual 131, 3) := by decide +kernel
theorem dMo_isPlace_5 : decode cMo_isPlace 5 = .ok (.ifCond .eq 21, 3) := by decide +kernel
theorem dMo_isPlace_8 : decode cMo_isPlace 8 = .ok (.iload_n 2, 1) := by decide +kernel
theorem dMo_isPlace_9 : decode cMo_isPlace 9 = .ok (.ifCond .lt 17, 3) := by decide +kernel
theorem dMo_isPlace_12 : decode cMo_isPlace 12 = .ok (.iload_n 2, 1) := by decide +kernel
theorem dMo_isPlace_13 : decode cMo_isPlace 13 = .ok (.aload_n 0, 1) := by decide +kernel
theorem dMo_isPlace_14 : decode cMo_isPlace 14 = .ok (.getfield 7, 3) := by decide +kernel
theorem dMo_isPlace_17 : decode cMo_isPlace 17 = .ok (.iload_n 1, 1) := by decide +kernel
theorem dMo_isPlace_18 : decode cMo_isPlace 18 = .ok (.iaload, 1) := by decide +kernel
theorem dMo_isPlace_19 : decode cMo_isPlace 19 = .ok (.if_icmp .ge 7, 3) := by decide +kernel
theorem dMo_isPlace_22 : decode cMo_isPlace 22 = .ok (.iconst 1, 1) := by decide +kernel
theorem dMo_isPlace_23 : decode cMo_isPlace 23 = .ok (.goto 4, 3) := by decide +kernel
theorem dMo_isPlace_26 : decode cMo_isPlace 26 = .ok (.iconst 0, 1) := by decide +kernel
theorem dMo_isPlace_27 : decode cMo_isPlace 27 = .ok (.ireturn, 1) := by decide +kernel
theorem dMo_isWay_0 : decode cMo_isWay 0 = .ok (.aload_n 0, 1) := by decide +kernel
theorem dMo_isWay_1 : decode cMo_isWay 1 = .ok (.iload_n 1, 1) := by decide +kernel
theorem dMo_isWay_2 : decode cMo_isWay 2 = .ok (.invokevirtual 131, 3) := by decide +kernel
theorem dMo_isWay_5 : decode cMo_isWay 5 = .ok (.ifCond .eq 21, 3) := by decide +kernel
theorem dMo_isWay_8 : decode cMo_isWay 8 = .ok (.iload_n 2, 1) := by decide +kernel
theorem dMo_isWay_9 : decode cMo_isWay 9 = .ok (.ifCond .lt 17, 3) := by decide +kernel
theorem dMo_isWay_12 : decode cMo_isWay 12 = .ok (.iload_n 2, 1) := by decide +kernel
theorem dMo_isWay_13 : decode cMo_isWay 13 = .ok (.aload_n 0, 1) := by decide +kernel
theorem dMo_isWay_14 : decode cMo_isWay 14 = .ok (.getfield 13, 3) := by decide +kernel
theorem dMo_isWay_17 : decode cMo_isWay 17 = .ok (.iload_n 1, 1) := by decide +kernel
theorem dMo_isWay_18 : decode cMo_isWay 18 = .ok (.iaload, 1) := by decide +kernel
theorem dMo_isWay_19 : decode cMo_isWay 19 = .ok (.if_icmp .ge 7, 3) := by decide +kernel
theorem dMo_isWay_22 : decode cMo_isWay 22 = .ok (.iconst 1, 1) := by decide +kernel
theorem dMo_isWay_23 : decode cMo_isWay 23 = .ok (.goto 4, 3) := by decide +kernel
theorem dMo_isWay_26 : decode cMo_isWay 26 = .ok (.iconst 0, 1) := by decide +kernel
theorem dMo_isWay_27 : decode cMo_isWay 27 = .ok (.ireturn, 1) := by decide +kernel
theorem dMo_boundOf_0 : decode cMo_boundOf 0 = .ok (.iload_n 1, 1) := by decide +kernel
theorem dMo_boundOf_1 : decode cMo_boundOf 1 = .ok (.ifCond .eq 9, 3) := by decide +kernel
theorem dMo_boundOf_4 : decode cMo_boundOf 4 = .ok (.iconst 2, 1) := by decide +kernel
theorem dMo_boundOf_5 : decode cMo_boundOf 5 = .ok (.iload_n 0, 1) := by decide +kernel
theorem dMo_boundOf_6 : decode cMo_boundOf 6 = .ok (.imul, 1) := by decide +kernel
theorem dMo_boundOf_7 : decode cMo_boundOf 7 = .ok (.goto 8, 3) := by decide +kernel
theorem dMo_boundOf_10 : decode cMo_boundOf 10 = .ok (.iconst 2, 1) := by decide +kernel
theorem dMo_boundOf_11 : decode cMo_boundOf 11 = .ok (.iload_n 0, 1) := by decide +kernel
theorem dMo_boundOf_12 : decode cMo_boundOf 12 = .ok (.imul, 1) := by decide +kernel
theorem dMo_boundOf_13 : decode cMo_boundOf 13 = .ok (.iconst 1, 1) := by decide +kernel
theorem dMo_boundOf_14 : decode cMo_boundOf 14 = .ok (.iadd, 1) := by decide +kernel
theorem dMo_boundOf_15 : decode cMo_boundOf 15 = .ok (.ireturn, 1) := by decide +kernel
theorem dMo_limit_0 : decode cMo_limit 0 = .ok (.aload_n 0, 1) := by decide +kernel
theorem dMo_limit_1 : decode cMo_limit 1 = .ok (.iconst 0, 1) := by decide +kernel
theorem dMo_limit_2 : decode cMo_limit 2 = .ok (.putfield 124, 3) := by decide +kernel
theorem dMo_limit_5 : decode cMo_limit 5 = .ok (.aload_n 0, 1) := by decide +kernel
theorem dMo_limit_6 : decode cMo_limit 6 = .ok (.iload_n 1, 1) := by decide +kernel
theorem dMo_limit_7 : decode cMo_limit 7 = .ok (.iload_n 2, 1) := by decide +kernel
theorem dMo_limit_8 : decode cMo_limit 8 = .ok (.invokevirtual 135, 3) := by decide +kernel
theorem dMo_limit_11 : decode cMo_limit 11 = .ok (.ifCond .eq 28, 3) := by decide +kernel
theorem dMo_limit_14 : decode cMo_limit 14 = .ok (.iload_n 3, 1) := by decide +kernel
theorem dMo_limit_15 : decode cMo_limit 15 = .ok (.i2l, 1) := by decide +kernel
theorem dMo_limit_16 : decode cMo_limit 16 = .ok (.lconst 1, 1) := by decide +kernel
theorem dMo_limit_17 : decode cMo_limit 17 = .ok (.ldc2_w 139, 3) := by decide +kernel
theorem dMo_limit_20 : decode cMo_limit 20 = .ok (.invokestatic 141, 3) := by decide +kernel
theorem dMo_limit_23 : decode cMo_limit 23 = .ok (.ifCond .eq 16, 3) := by decide +kernel
theorem dMo_limit_26 : decode cMo_limit 26 = .ok (.iload 4, 2) := by decide +kernel
theorem dMo_limit_28 : decode cMo_limit 28 = .ok (.i2l, 1) := by decide +kernel
theorem dMo_limit_29 : decode cMo_limit 29 = .ok (.lconst 0, 1) := by decide +kernel
theorem dMo_limit_30 : decode cMo_limit 30 = .ok (.ldc2_w 145, 3) := by decide +kernel
theorem dMo_limit_33 : decode cMo_limit 33 = .ok (.invokestatic 141, 3) := by decide +kernel
theorem dMo_limit_36 : decode cMo_limit 36 = .ok (.ifCond .ne 5, 3) := by decide +kernel
theorem dMo_limit_39 : decode cMo_limit 39 = .ok (.iconst (-1), 1) := by decide +kernel
theorem dMo_limit_40 : decode cMo_limit 40 = .ok (.ireturn, 1) := by decide +kernel
theorem dMo_limit_41 : decode cMo_limit 41 = .ok (.bipush 6, 2) := by decide +kernel
theorem dMo_limit_43 : decode cMo_limit 43 = .ok (.iload_n 1, 1) := by decide +kernel
theorem dMo_limit_44 : decode cMo_limit 44 = .ok (.imul, 1) := by decide +kernel
theorem dMo_limit_45 : decode cMo_limit 45 = .ok (.iload_n 2, 1) := by decide +kernel
theorem dMo_limit_46 : decode cMo_limit 46 = .ok (.iadd, 1) := by decide +kernel
theorem dMo_limit_47 : decode cMo_limit 47 = .ok (.istore 6, 2) := by decide +kernel
theorem dMo_limit_49 : decode cMo_limit 49 = .ok (.aload_n 0, 1) := by decide +kernel
theorem dMo_limit_50 : decode cMo_limit 50 = .ok (.getfield 16, 3) := by decide +kernel
theorem dMo_limit_53 : decode cMo_limit 53 = .ok (.iload 6, 2) := by decide +kernel
theorem dMo_limit_55 : decode cMo_limit 55 = .ok (.iaload, 1) := by decide +kernel
theorem dMo_limit_56 : decode cMo_limit 56 = .ok (.iconst 2, 1) := by decide +kernel
theorem dMo_limit_57 : decode cMo_limit 57 = .ok (.if_icmp .ne 6, 3) := by decide +kernel
theorem dMo_limit_60 : decode cMo_limit 60 = .ok (.bipush (-2), 2) := by decide +kernel
theorem dMo_limit_62 : decode cMo_limit 62 = .ok (.ireturn, 1) := by decide +kernel
theorem dMo_limit_63 : decode cMo_limit 63 = .ok (.aload_n 0, 1) := by decide +kernel
theorem dMo_limit_64 : decode cMo_limit 64 = .ok (.getfield 19, 3) := by decide +kernel
theorem dMo_limit_67 : decode cMo_limit 67 = .ok (.iconst 2, 1) := by decide +kernel
theorem dMo_limit_68 : decode cMo_limit 68 = .ok (.iload 6, 2) := by decide +kernel
theorem dMo_limit_70 : decode cMo_limit 70 = .ok (.imul, 1) := by decide +kernel
theorem dMo_limit_71 : decode cMo_limit 71 = .ok (.aload_n 0, 1) := by decide +kernel
theorem dMo_limit_72 : decode cMo_limit 72 = .ok (.getfield 16, 3) := by decide +kernel
theorem dMo_limit_75 : decode cMo_limit 75 = .ok (.iload 6, 2) := by decide +kernel
theorem dMo_limit_77 : decode cMo_limit 77 = .ok (.iaload, 1) := by decide +kernel
theorem dMo_limit_78 : decode cMo_limit 78 = .ok (.iadd, 1) := by decide +kernel
theorem dMo_limit_79 : decode cMo_limit 79 = .ok (.iload_n 3, 1) := by decide +kernel
theorem dMo_limit_80 : decode cMo_limit 80 = .ok (.iastore, 1) := by decide +kernel
theorem dMo_limit_81 : decode cMo_limit 81 = .ok (.aload_n 0, 1) := by decide +kernel
theorem dMo_limit_82 : decode cMo_limit 82 = .ok (.getfield 22, 3) := by decide +kernel
theorem dMo_limit_85 : decode cMo_limit 85 = .ok (.iconst 2, 1) := by decide +kernel
theorem dMo_limit_86 : decode cMo_limit 86 = .ok (.iload 6, 2) := by decide +kernel
theorem dMo_limit_88 : decode cMo_limit 88 = .ok (.imul, 1) := by decide +kernel
theorem dMo_limit_89 : decode cMo_limit 89 = .ok (.aload_n 0, 1) := by decide +kernel
theorem dMo_limit_90 : decode cMo_limit 90 = .ok (.getfield 16, 3) := by decide +kernel
theorem dMo_limit_93 : decode cMo_limit 93 = .ok (.iload 6, 2) := by decide +kernel
theorem dMo_limit_95 : decode cMo_limit 95 = .ok (.iaload, 1) := by decide +kernel
theorem dMo_limit_96 : decode cMo_limit 96 = .ok (.iadd, 1) := by decide +kernel
theorem dMo_limit_97 : decode cMo_limit 97 = .ok (.iload 4, 2) := by decide +kernel
theorem dMo_limit_99 : decode cMo_limit 99 = .ok (.iload 5, 2) := by decide +kernel
theorem dMo_limit_101 : decode cMo_limit 101 = .ok (.invokestatic 147, 3) := by decide +kernel
theorem dMo_limit_104 : decode cMo_limit 104 = .ok (.iastore, 1) := by decide +kernel
theorem dMo_limit_105 : decode cMo_limit 105 = .ok (.aload_n 0, 1) := by decide +kernel
theorem dMo_limit_106 : decode cMo_limit 106 = .ok (.getfield 16, 3) := by decide +kernel
theorem dMo_limit_109 : decode cMo_limit 109 = .ok (.iload 6, 2) := by decide +kernel
theorem dMo_limit_111 : decode cMo_limit 111 = .ok (.dup2, 1) := by decide +kernel
theorem dMo_limit_112 : decode cMo_limit 112 = .ok (.iaload, 1) := by decide +kernel
theorem dMo_limit_113 : decode cMo_limit 113 = .ok (.iconst 1, 1) := by decide +kernel
theorem dMo_limit_114 : decode cMo_limit 114 = .ok (.iadd, 1) := by decide +kernel
theorem dMo_limit_115 : decode cMo_limit 115 = .ok (.iastore, 1) := by decide +kernel
theorem dMo_limit_116 : decode cMo_limit 116 = .ok (.aload_n 0, 1) := by decide +kernel
theorem dMo_limit_117 : decode cMo_limit 117 = .ok (.getfield 16, 3) := by decide +kernel
theorem dMo_limit_120 : decode cMo_limit 120 = .ok (.iload 6, 2) := by decide +kernel
theorem dMo_limit_122 : decode cMo_limit 122 = .ok (.iaload, 1) := by decide +kernel
theorem dMo_limit_123 : decode cMo_limit 123 = .ok (.ireturn, 1) := by decide +kernel
theorem dMo_way_0 : decode cMo_way 0 = .ok (.aload_n 0, 1) := by decide +kernel
theorem dMo_way_1 : decode cMo_way 1 = .ok (.iconst 0, 1) := by decide +kernel
theorem dMo_way_2 : decode cMo_way 2 = .ok (.putfield 124, 3) := by decide +kernel
theorem dMo_way_5 : decode cMo_way 5 = .ok (.aload_n 0, 1) := by decide +kernel
theorem dMo_way_6 : decode cMo_way 6 = .ok (.iload_n 1, 1) := by decide +kernel
theorem dMo_way_7 : decode cMo_way 7 = .ok (.iload_n 2, 1) := by decide +kernel
theorem dMo_way_8 : decode cMo_way 8 = .ok (.invokevirtual 135, 3) := by decide +kernel
theorem dMo_way_11 : decode cMo_way 11 = .ok (.ifCond .eq 40, 3) := by decide +kernel
theorem dMo_way_14 : decode cMo_way 14 = .ok (.aload_n 0, 1) := by decide +kernel
theorem dMo_way_15 : decode cMo_way 15 = .ok (.iload_n 1, 1) := by decide +kernel
theorem dMo_way_16 : decode cMo_way 16 = .ok (.iload_n 3, 1) := by decide +kernel
theorem dMo_way_17 : decode cMo_way 17 = .ok (.invokevirtual 135, 3) := by decide +kernel
theorem dMo_way_20 : decode cMo_way 20 = .ok (.ifCond .eq 31, 3) := by decide +kernel
theorem dMo_way_23 : decode cMo_way 23 = .ok (.iload 4, 2) := by decide +kernel
theorem dMo_way_25 : decode cMo_way 25 = .ok (.i2l, 1) := by decide +kernel
theorem dMo_way_26 : decode cMo_way 26 = .ok (.ldc2_w 151, 3) := by decide +kernel
theorem dMo_way_29 : decode cMo_way 29 = .ok (.ldc2_w 153, 3) := by decide +kernel
theorem dMo_way_32 : decode cMo_way 32 = .ok (.invokestatic 141, 3) := by decide +kernel
theorem dMo_way_35 : decode cMo_way 35 = .ok (.ifCond .eq 16, 3) := by decide +kernel
theorem dMo_way_38 : decode cMo_way 38 = .ok (.iload 5, 2) := by decide +kernel
theorem dMo_way_40 : decode cMo_way 40 = .ok (.i2l, 1) := by decide +kernel
theorem dMo_way_41 : decode cMo_way 41 = .ok (.lconst 0, 1) := by decide +kernel
theorem dMo_way_42 : decode cMo_way 42 = .ok (.ldc2_w 155, 3) := by decide +kernel
theorem dMo_way_45 : decode cMo_way 45 = .ok (.invokestatic 141, 3) := by decide +kernel
theorem dMo_way_48 : decode cMo_way 48 = .ok (.ifCond .ne 5, 3) := by decide +kernel
theorem dMo_way_51 : decode cMo_way 51 = .ok (.iconst (-1), 1) := by decide +kernel
theorem dMo_way_52 : decode cMo_way 52 = .ok (.ireturn, 1) := by decide +kernel
theorem dMo_way_53 : decode cMo_way 53 = .ok (.aload_n 0, 1) := by decide +kernel
theorem dMo_way_54 : decode cMo_way 54 = .ok (.getfield 13, 3) := by decide +kernel
theorem dMo_way_57 : decode cMo_way 57 = .ok (.iload_n 1, 1) := by decide +kernel
theorem dMo_way_58 : decode cMo_way 58 = .ok (.iaload, 1) := by decide +kernel
theorem dMo_way_59 : decode cMo_way 59 = .ok (.bipush 12, 2) := by decide +kernel
theorem dMo_way_61 : decode cMo_way 61 = .ok (.if_icmp .ne 6, 3) := by decide +kernel
theorem dMo_way_64 : decode cMo_way 64 = .ok (.bipush (-2), 2) := by decide +kernel
theorem dMo_way_66 : decode cMo_way 66 = .ok (.ireturn, 1) := by decide +kernel
theorem dMo_way_67 : decode cMo_way 67 = .ok (.bipush 12, 2) := by decide +kernel
theorem dMo_way_69 : decode cMo_way 69 = .ok (.iload_n 1, 1) := by decide +kernel
theorem dMo_way_70 : decode cMo_way 70 = .ok (.imul, 1) := by decide +kernel
theorem dMo_way_71 : decode cMo_way 71 = .ok (.aload_n 0, 1) := by decide +kernel
theorem dMo_way_72 : decode cMo_way 72 = .ok (.getfield 13, 3) := by decide +kernel
theorem dMo_way_75 : decode cMo_way 75 = .ok (.iload_n 1, 1) := by decide +kernel
theorem dMo_way_76 : decode cMo_way 76 = .ok (.iaload, 1) := by decide +kernel
theorem dMo_way_77 : decode cMo_way 77 = .ok (.iadd, 1) := by decide +kernel
theorem dMo_way_78 : decode cMo_way 78 = .ok (.istore 6, 2) := by decide +kernel
theorem dMo_way_80 : decode cMo_way 80 = .ok (.aload_n 0, 1) := by decide +kernel
theorem dMo_way_81 : decode cMo_way 81 = .ok (.getfield 25, 3) := by decide +kernel
theorem dMo_way_84 : decode cMo_way 84 = .ok (.iload 6, 2) := by decide +kernel
theorem dMo_way_86 : decode cMo_way 86 = .ok (.iload_n 2, 1) := by decide +kernel
theorem dMo_way_87 : decode cMo_way 87 = .ok (.iastore, 1) := by decide +kernel
theorem dMo_way_88 : decode cMo_way 88 = .ok (.aload_n 0, 1) := by decide +kernel
theorem dMo_way_89 : decode cMo_way 89 = .ok (.getfield 28, 3) := by decide +kernel
theorem dMo_way_92 : decode cMo_way 92 = .ok (.iload 6, 2) := by decide +kernel
theorem dMo_way_94 : decode cMo_way 94 = .ok (.iload_n 3, 1) := by decide +kernel
theorem dMo_way_95 : decode cMo_way 95 = .ok (.iastore, 1) := by decide +kernel
theorem dMo_way_96 : decode cMo_way 96 = .ok (.aload_n 0, 1) := by decide +kernel
theorem dMo_way_97 : decode cMo_way 97 = .ok (.getfield 31, 3) := by decide +kernel
theorem dMo_way_100 : decode cMo_way 100 = .ok (.iload 6, 2) := by decide +kernel
theorem dMo_way_102 : decode cMo_way 102 = .ok (.iload 4, 2) := by decide +kernel
theorem dMo_way_104 : decode cMo_way 104 = .ok (.iastore, 1) := by decide +kernel
theorem dMo_way_105 : decode cMo_way 105 = .ok (.aload_n 0, 1) := by decide +kernel
theorem dMo_way_106 : decode cMo_way 106 = .ok (.getfield 34, 3) := by decide +kernel
theorem dMo_way_109 : decode cMo_way 109 = .ok (.iload 6, 2) := by decide +kernel
theorem dMo_way_111 : decode cMo_way 111 = .ok (.iload 5, 2) := by decide +kernel
theorem dMo_way_113 : decode cMo_way 113 = .ok (.iastore, 1) := by decide +kernel
theorem dMo_way_114 : decode cMo_way 114 = .ok (.aload_n 0, 1) := by decide +kernel
theorem dMo_way_115 : decode cMo_way 115 = .ok (.getfield 37, 3) := by decide +kernel
theorem dMo_way_118 : decode cMo_way 118 = .ok (.iload 6, 2) := by decide +kernel
theorem dMo_way_120 : decode cMo_way 120 = .ok (.iconst 0, 1) := by decide +kernel
theorem dMo_way_121 : decode cMo_way 121 = .ok (.iastore, 1) := by decide +kernel
theorem dMo_way_122 : decode cMo_way 122 = .ok (.aload_n 0, 1) := by decide +kernel
theorem dMo_way_123 : decode cMo_way 123 = .ok (.getfield 13, 3) := by decide +kernel
theorem dMo_way_126 : decode cMo_way 126 = .ok (.iload_n 1, 1) := by decide +kernel
theorem dMo_way_127 : decode cMo_way 127 = .ok (.dup2, 1) := by decide +kernel
theorem dMo_way_128 : decode cMo_way 128 = .ok (.iaload, 1) := by decide +kernel
theorem dMo_way_129 : decode cMo_way 129 = .ok (.iconst 1, 1) := by decide +kernel
theorem dMo_way_130 : decode cMo_way 130 = .ok (.iadd, 1) := by decide +kernel
theorem dMo_way_131 : decode cMo_way 131 = .ok (.iastore, 1) := by decide +kernel
theorem dMo_way_132 : decode cMo_way 132 = .ok (.aload_n 0, 1) := by decide +kernel
theorem dMo_way_133 : decode cMo_way 133 = .ok (.getfield 13, 3) := by decide +kernel
theorem dMo_way_136 : decode cMo_way 136 = .ok (.iload_n 1, 1) := by decide +kernel
theorem dMo_way_137 : decode cMo_way 137 = .ok (.iaload, 1) := by decide +kernel
theorem dMo_way_138 : decode cMo_way 138 = .ok (.iconst 1, 1) := by decide +kernel
theorem dMo_way_139 : decode cMo_way 139 = .ok (.isub, 1) := by decide +kernel
theorem dMo_way_140 : decode cMo_way 140 = .ok (.ireturn, 1) := by decide +kernel
theorem dMo_test_0 : decode cMo_test 0 = .ok (.aload_n 0, 1) := by decide +kernel
theorem dMo_test_1 : decode cMo_test 1 = .ok (.iconst 0, 1) := by decide +kernel
theorem dMo_test_2 : decode cMo_test 2 = .ok (.putfield 124, 3) := by decide +kernel
theorem dMo_test_5 : decode cMo_test 5 = .ok (.aload_n 0, 1) := by decide +kernel
theorem dMo_test_6 : decode cMo_test 6 = .ok (.iload_n 1, 1) := by decide +kernel
theorem dMo_test_7 : decode cMo_test 7 = .ok (.iload_n 2, 1) := by decide +kernel
theorem dMo_test_8 : decode cMo_test 8 = .ok (.invokevirtual 157, 3) := by decide +kernel
theorem dMo_test_11 : decode cMo_test 11 = .ok (.ifCond .eq 39, 3) := by decide +kernel
theorem dMo_test_14 : decode cMo_test 14 = .ok (.iload_n 3, 1) := by decide +kernel
theorem dMo_test_15 : decode cMo_test 15 = .ok (.i2l, 1) := by decide +kernel
theorem dMo_test_16 : decode cMo_test 16 = .ok (.lconst 0, 1) := by decide +kernel
theorem dMo_test_17 : decode cMo_test 17 = .ok (.ldc2_w 160, 3) := by decide +kernel
theorem dMo_test_20 : decode cMo_test 20 = .ok (.invokestatic 141, 3) := by decide +kernel
theorem dMo_test_23 : decode cMo_test 23 = .ok (.ifCond .eq 27, 3) := by decide +kernel
theorem dMo_test_26 : decode cMo_test 26 = .ok (.iload_n 3, 1) := by decide +kernel
theorem dMo_test_27 : decode cMo_test 27 = .ok (.iconst 4, 1) := by decide +kernel
theorem dMo_test_28 : decode cMo_test 28 = .ok (.idiv, 1) := by decide +kernel
theorem dMo_test_29 : decode cMo_test 29 = .ok (.iload_n 3, 1) := by decide +kernel
theorem dMo_test_30 : decode cMo_test 30 = .ok (.iconst 4, 1) := by decide +kernel
theorem dMo_test_31 : decode cMo_test 31 = .ok (.irem, 1) := by decide +kernel
theorem dMo_test_32 : decode cMo_test 32 = .ok (.if_icmp .eq 18, 3) := by decide +kernel
theorem dMo_test_35 : decode cMo_test 35 = .ok (.iload 4, 2) := by decide +kernel
theorem dMo_test_37 : decode cMo_test 37 = .ok (.i2l, 1) := by decide +kernel
theorem dMo_test_38 : decode cMo_test 38 = .ok (.ldc2_w 162, 3) := by decide +kernel
theorem dMo_test_41 : decode cMo_test 41 = .ok (.ldc2_w 145, 3) := by decide +kernel
theorem dMo_test_44 : decode cMo_test 44 = .ok (.invokestatic 141, 3) := by decide +kernel
theorem dMo_test_47 : decode cMo_test 47 = .ok (.ifCond .ne 5, 3) := by decide +kernel
theorem dMo_test_50 : decode cMo_test 50 = .ok (.iconst (-1), 1) := by decide +kernel
theorem dMo_test_51 : decode cMo_test 51 = .ok (.ireturn, 1) := by decide +kernel
theorem dMo_test_52 : decode cMo_test 52 = .ok (.bipush 12, 2) := by decide +kernel
theorem dMo_test_54 : decode cMo_test 54 = .ok (.iload_n 1, 1) := by decide +kernel
theorem dMo_test_55 : decode cMo_test 55 = .ok (.imul, 1) := by decide +kernel
theorem dMo_test_56 : decode cMo_test 56 = .ok (.iload_n 2, 1) := by decide +kernel
theorem dMo_test_57 : decode cMo_test 57 = .ok (.iadd, 1) := by decide +kernel
theorem dMo_test_58 : decode cMo_test 58 = .ok (.istore 6, 2) := by decide +kernel
theorem dMo_test_60 : decode cMo_test 60 = .ok (.aload_n 0, 1) := by decide +kernel
theorem dMo_test_61 : decode cMo_test 61 = .ok (.getfield 37, 3) := by decide +kernel
theorem dMo_test_64 : decode cMo_test 64 = .ok (.iload 6, 2) := by decide +kernel
theorem dMo_test_66 : decode cMo_test 66 = .ok (.iaload, 1) := by decide +kernel
theorem dMo_test_67 : decode cMo_test 67 = .ok (.iconst 3, 1) := by decide +kernel
theorem dMo_test_68 : decode cMo_test 68 = .ok (.if_icmp .ne 6, 3) := by decide +kernel
theorem dMo_test_71 : decode cMo_test 71 = .ok (.bipush (-2), 2) := by decide +kernel
theorem dMo_test_73 : decode cMo_test 73 = .ok (.ireturn, 1) := by decide +kernel
theorem dMo_test_74 : decode cMo_test 74 = .ok (.aload_n 0, 1) := by decide +kernel
theorem dMo_test_75 : decode cMo_test 75 = .ok (.getfield 40, 3) := by decide +kernel
theorem dMo_test_78 : decode cMo_test 78 = .ok (.iconst 3, 1) := by decide +kernel
theorem dMo_test_79 : decode cMo_test 79 = .ok (.iload 6, 2) := by decide +kernel
theorem dMo_test_81 : decode cMo_test 81 = .ok (.imul, 1) := by decide +kernel
theorem dMo_test_82 : decode cMo_test 82 = .ok (.aload_n 0, 1) := by decide +kernel
theorem dMo_test_83 : decode cMo_test 83 = .ok (.getfield 37, 3) := by decide +kernel
theorem dMo_test_86 : decode cMo_test 86 = .ok (.iload 6, 2) := by decide +kernel
theorem dMo_test_88 : decode cMo_test 88 = .ok (.iaload, 1) := by decide +kernel
theorem dMo_test_89 : decode cMo_test 89 = .ok (.iadd, 1) := by decide +kernel
theorem dMo_test_90 : decode cMo_test 90 = .ok (.iload_n 3, 1) := by decide +kernel
theorem dMo_test_91 : decode cMo_test 91 = .ok (.iconst 4, 1) := by decide +kernel
theorem dMo_test_92 : decode cMo_test 92 = .ok (.idiv, 1) := by decide +kernel
theorem dMo_test_93 : decode cMo_test 93 = .ok (.iastore, 1) := by decide +kernel
theorem dMo_test_94 : decode cMo_test 94 = .ok (.aload_n 0, 1) := by decide +kernel
theorem dMo_test_95 : decode cMo_test 95 = .ok (.getfield 43, 3) := by decide +kernel
theorem dMo_test_98 : decode cMo_test 98 = .ok (.iconst 3, 1) := by decide +kernel
theorem dMo_test_99 : decode cMo_test 99 = .ok (.iload 6, 2) := by decide +kernel
theorem dMo_test_101 : decode cMo_test 101 = .ok (.imul, 1) := by decide +kernel
theorem dMo_test_102 : decode cMo_test 102 = .ok (.aload_n 0, 1) := by decide +kernel
theorem dMo_test_103 : decode cMo_test 103 = .ok (.getfield 37, 3) := by decide +kernel
theorem dMo_test_106 : decode cMo_test 106 = .ok (.iload 6, 2) := by decide +kernel
theorem dMo_test_108 : decode cMo_test 108 = .ok (.iaload, 1) := by decide +kernel
theorem dMo_test_109 : decode cMo_test 109 = .ok (.iadd, 1) := by decide +kernel
theorem dMo_test_110 : decode cMo_test 110 = .ok (.iload_n 3, 1) := by decide +kernel
theorem dMo_test_111 : decode cMo_test 111 = .ok (.iconst 4, 1) := by decide +kernel
theorem dMo_test_112 : decode cMo_test 112 = .ok (.irem, 1) := by decide +kernel
theorem dMo_test_113 : decode cMo_test 113 = .ok (.iastore, 1) := by decide +kernel
theorem dMo_test_114 : decode cMo_test 114 = .ok (.aload_n 0, 1) := by decide +kernel
theorem dMo_test_115 : decode cMo_test 115 = .ok (.getfield 46, 3) := by decide +kernel
theorem dMo_test_118 : decode cMo_test 118 = .ok (.iconst 3, 1) := by decide +kernel
theorem dMo_test_119 : decode cMo_test 119 = .ok (.iload 6, 2) := by decide +kernel
theorem dMo_test_121 : decode cMo_test 121 = .ok (.imul, 1) := by decide +kernel
theorem dMo_test_122 : decode cMo_test 122 = .ok (.aload_n 0, 1) := by decide +kernel
theorem dMo_test_123 : decode cMo_test 123 = .ok (.getfield 37, 3) := by decide +kernel
theorem dMo_test_126 : decode cMo_test 126 = .ok (.iload 6, 2) := by decide +kernel
theorem dMo_test_128 : decode cMo_test 128 = .ok (.iaload, 1) := by decide +kernel
theorem dMo_test_129 : decode cMo_test 129 = .ok (.iadd, 1) := by decide +kernel
theorem dMo_test_130 : decode cMo_test 130 = .ok (.iload 4, 2) := by decide +kernel
theorem dMo_test_132 : decode cMo_test 132 = .ok (.iload 5, 2) := by decide +kernel
theorem dMo_test_134 : decode cMo_test 134 = .ok (.invokestatic 147, 3) := by decide +kernel
theorem dMo_test_137 : decode cMo_test 137 = .ok (.iastore, 1) := by decide +kernel
theorem dMo_test_138 : decode cMo_test 138 = .ok (.aload_n 0, 1) := by decide +kernel
theorem dMo_test_139 : decode cMo_test 139 = .ok (.getfield 37, 3) := by decide +kernel
theorem dMo_test_142 : decode cMo_test 142 = .ok (.iload 6, 2) := by decide +kernel
theorem dMo_test_144 : decode cMo_test 144 = .ok (.dup2, 1) := by decide +kernel
theorem dMo_test_145 : decode cMo_test 145 = .ok (.iaload, 1) := by decide +kernel
theorem dMo_test_146 : decode cMo_test 146 = .ok (.iconst 1, 1) := by decide +kernel
theorem dMo_test_147 : decode cMo_test 147 = .ok (.iadd, 1) := by decide +kernel
theorem dMo_test_148 : decode cMo_test 148 = .ok (.iastore, 1) := by decide +kernel
theorem dMo_test_149 : decode cMo_test 149 = .ok (.aload_n 0, 1) := by decide +kernel
theorem dMo_test_150 : decode cMo_test 150 = .ok (.getfield 37, 3) := by decide +kernel
theorem dMo_test_153 : decode cMo_test 153 = .ok (.iload 6, 2) := by decide +kernel
theorem dMo_test_155 : decode cMo_test 155 = .ok (.iaload, 1) := by decide +kernel
theorem dMo_test_156 : decode cMo_test 156 = .ok (.ireturn, 1) := by decide +kernel
theorem dMo_allTimes_0 : decode cMo_allTimes 0 = .ok (.aload_n 0, 1) := by decide +kernel
theorem dMo_allTimes_1 : decode cMo_allTimes 1 = .ok (.iload_n 1, 1) := by decide +kernel
theorem dMo_allTimes_2 : decode cMo_allTimes 2 = .ok (.putfield 164, 3) := by decide +kernel
theorem dMo_allTimes_5 : decode cMo_allTimes 5 = .ok (.aload_n 0, 1) := by decide +kernel
theorem dMo_allTimes_6 : decode cMo_allTimes 6 = .ok (.iconst 0, 1) := by decide +kernel
theorem dMo_allTimes_7 : decode cMo_allTimes 7 = .ok (.putfield 167, 3) := by decide +kernel
theorem dMo_allTimes_10 : decode cMo_allTimes 10 = .ok (.iconst 0, 1) := by decide +kernel
theorem dMo_allTimes_11 : decode cMo_allTimes 11 = .ok (.istore_n 2, 1) := by decide +kernel
theorem dMo_allTimes_12 : decode cMo_allTimes 12 = .ok (.iload_n 2, 1) := by decide +kernel
theorem dMo_allTimes_13 : decode cMo_allTimes 13 = .ok (.iconst 5, 1) := by decide +kernel
theorem dMo_allTimes_14 : decode cMo_allTimes 14 = .ok (.if_icmp .ge 47, 3) := by decide +kernel
theorem dMo_allTimes_17 : decode cMo_allTimes 17 = .ok (.iconst 0, 1) := by decide +kernel
theorem dMo_allTimes_18 : decode cMo_allTimes 18 = .ok (.istore_n 3, 1) := by decide +kernel
theorem dMo_allTimes_19 : decode cMo_allTimes 19 = .ok (.iload_n 3, 1) := by decide +kernel
theorem dMo_allTimes_20 : decode cMo_allTimes 20 = .ok (.iconst 5, 1) := by decide +kernel
theorem dMo_allTimes_21 : decode cMo_allTimes 21 = .ok (.if_icmp .ge 34, 3) := by decide +kernel
theorem dMo_allTimes_24 : decode cMo_allTimes 24 = .ok (.aload_n 0, 1) := by decide +kernel
theorem dMo_allTimes_25 : decode cMo_allTimes 25 = .ok (.getfield 49, 3) := by decide +kernel
theorem dMo_allTimes_28 : decode cMo_allTimes 28 = .ok (.iconst 5, 1) := by decide +kernel
theorem dMo_allTimes_29 : decode cMo_allTimes 29 = .ok (.iload_n 2, 1) := by decide +kernel
theorem dMo_allTimes_30 : decode cMo_allTimes 30 = .ok (.imul, 1) := by decide +kernel
theorem dMo_allTimes_31 : decode cMo_allTimes 31 = .ok (.iload_n 3, 1) := by decide +kernel
theorem dMo_allTimes_32 : decode cMo_allTimes 32 = .ok (.iadd, 1) := by decide +kernel
theorem dMo_allTimes_33 : decode cMo_allTimes 33 = .ok (.iload_n 2, 1) := by decide +kernel
theorem dMo_allTimes_34 : decode cMo_allTimes 34 = .ok (.iload_n 3, 1) := by decide +kernel
theorem dMo_allTimes_35 : decode cMo_allTimes 35 = .ok (.if_icmp .eq 7, 3) := by decide +kernel
theorem dMo_allTimes_38 : decode cMo_allTimes 38 = .ok (.iload_n 2, 1) := by decide +kernel
theorem dMo_allTimes_39 : decode cMo_allTimes 39 = .ok (.ifCond .ne 7, 3) := by decide +kernel
theorem dMo_allTimes_42 : decode cMo_allTimes 42 = .ok (.iconst 1, 1) := by decide +kernel
theorem dMo_allTimes_43 : decode cMo_allTimes 43 = .ok (.goto 5, 3) := by decide +kernel
theorem dMo_allTimes_46 : decode cMo_allTimes 46 = .ok (.ldc 171, 2) := by decide +kernel
theorem dMo_allTimes_48 : decode cMo_allTimes 48 = .ok (.iastore, 1) := by decide +kernel
theorem dMo_allTimes_49 : decode cMo_allTimes 49 = .ok (.iinc 3 1, 3) := by decide +kernel
theorem dMo_allTimes_52 : decode cMo_allTimes 52 = .ok (.goto (-33), 3) := by decide +kernel
theorem dMo_allTimes_55 : decode cMo_allTimes 55 = .ok (.iinc 2 1, 3) := by decide +kernel
theorem dMo_allTimes_58 : decode cMo_allTimes 58 = .ok (.goto (-46), 3) := by decide +kernel
theorem dMo_allTimes_61 : decode cMo_allTimes 61 = .ok (.return_, 1) := by decide +kernel
theorem dMo_allNull_0 : decode cMo_allNull 0 = .ok (.aload_n 0, 1) := by decide +kernel
theorem dMo_allNull_1 : decode cMo_allNull 1 = .ok (.iload_n 1, 1) := by decide +kernel
theorem dMo_allNull_2 : decode cMo_allNull 2 = .ok (.putfield 164, 3) := by decide +kernel
theorem dMo_allNull_5 : decode cMo_allNull 5 = .ok (.aload_n 0, 1) := by decide +kernel
theorem dMo_allNull_6 : decode cMo_allNull 6 = .ok (.iconst 0, 1) := by decide +kernel
theorem dMo_allNull_7 : decode cMo_allNull 7 = .ok (.putfield 167, 3) := by decide +kernel
theorem dMo_allNull_10 : decode cMo_allNull 10 = .ok (.iconst 0, 1) := by decide +kernel
theorem dMo_allNull_11 : decode cMo_allNull 11 = .ok (.istore_n 2, 1) := by decide +kernel
theorem dMo_allNull_12 : decode cMo_allNull 12 = .ok (.iload_n 2, 1) := by decide +kernel
theorem dMo_allNull_13 : decode cMo_allNull 13 = .ok (.bipush 25, 2) := by decide +kernel
theorem dMo_allNull_15 : decode cMo_allNull 15 = .ok (.if_icmp .ge 16, 3) := by decide +kernel
theorem dMo_allNull_18 : decode cMo_allNull 18 = .ok (.aload_n 0, 1) := by decide +kernel
theorem dMo_allNull_19 : decode cMo_allNull 19 = .ok (.getfield 49, 3) := by decide +kernel
theorem dMo_allNull_22 : decode cMo_allNull 22 = .ok (.iload_n 2, 1) := by decide +kernel
theorem dMo_allNull_23 : decode cMo_allNull 23 = .ok (.iconst 1, 1) := by decide +kernel
theorem dMo_allNull_24 : decode cMo_allNull 24 = .ok (.iastore, 1) := by decide +kernel
theorem dMo_allNull_25 : decode cMo_allNull 25 = .ok (.iinc 2 1, 3) := by decide +kernel
theorem dMo_allNull_28 : decode cMo_allNull 28 = .ok (.goto (-16), 3) := by decide +kernel
theorem dMo_allNull_31 : decode cMo_allNull 31 = .ok (.return_, 1) := by decide +kernel
theorem dMo_sum_0 : decode cMo_sum 0 = .ok (.iload_n 0, 1) := by decide +kernel
theorem dMo_sum_1 : decode cMo_sum 1 = .ok (.ldc 171, 2) := by decide +kernel
theorem dMo_sum_3 : decode cMo_sum 3 = .ok (.if_icmp .eq 9, 3) := by decide +kernel
theorem dMo_sum_6 : decode cMo_sum 6 = .ok (.iload_n 1, 1) := by decide +kernel
theorem dMo_sum_7 : decode cMo_sum 7 = .ok (.ldc 171, 2) := by decide +kernel
theorem dMo_sum_9 : decode cMo_sum 9 = .ok (.if_icmp .ne 6, 3) := by decide +kernel
theorem dMo_sum_12 : decode cMo_sum 12 = .ok (.ldc 171, 2) := by decide +kernel
theorem dMo_sum_14 : decode cMo_sum 14 = .ok (.ireturn, 1) := by decide +kernel
theorem dMo_sum_15 : decode cMo_sum 15 = .ok (.iload_n 0, 1) := by decide +kernel
theorem dMo_sum_16 : decode cMo_sum 16 = .ok (.iconst 1, 1) := by decide +kernel
theorem dMo_sum_17 : decode cMo_sum 17 = .ok (.ishr, 1) := by decide +kernel
theorem dMo_sum_18 : decode cMo_sum 18 = .ok (.iload_n 1, 1) := by decide +kernel
theorem dMo_sum_19 : decode cMo_sum 19 = .ok (.iconst 1, 1) := by decide +kernel
theorem dMo_sum_20 : decode cMo_sum 20 = .ok (.ishr, 1) := by decide +kernel
theorem dMo_sum_21 : decode cMo_sum 21 = .ok (.iadd, 1) := by decide +kernel
theorem dMo_sum_22 : decode cMo_sum 22 = .ok (.istore_n 2, 1) := by decide +kernel
theorem dMo_sum_23 : decode cMo_sum 23 = .ok (.iload_n 2, 1) := by decide +kernel
theorem dMo_sum_24 : decode cMo_sum 24 = .ok (.iload_n 0, 1) := by decide +kernel
theorem dMo_sum_25 : decode cMo_sum 25 = .ok (.iconst 1, 1) := by decide +kernel
theorem dMo_sum_26 : decode cMo_sum 26 = .ok (.iand, 1) := by decide +kernel
theorem dMo_sum_27 : decode cMo_sum 27 = .ok (.ifCond .eq 9, 3) := by decide +kernel
theorem dMo_sum_30 : decode cMo_sum 30 = .ok (.iload_n 1, 1) := by decide +kernel
theorem dMo_sum_31 : decode cMo_sum 31 = .ok (.iconst 1, 1) := by decide +kernel
theorem dMo_sum_32 : decode cMo_sum 32 = .ok (.iand, 1) := by decide +kernel
theorem dMo_sum_33 : decode cMo_sum 33 = .ok (.ifCond .ne 7, 3) := by decide +kernel
theorem dMo_sum_36 : decode cMo_sum 36 = .ok (.iconst 1, 1) := by decide +kernel
theorem dMo_sum_37 : decode cMo_sum 37 = .ok (.goto 4, 3) := by decide +kernel
theorem dMo_sum_40 : decode cMo_sum 40 = .ok (.iconst 0, 1) := by decide +kernel
theorem dMo_sum_41 : decode cMo_sum 41 = .ok (.invokestatic 147, 3) := by decide +kernel
theorem dMo_sum_44 : decode cMo_sum 44 = .ok (.ireturn, 1) := by decide +kernel
theorem dMo_close_0 : decode cMo_close 0 = .ok (.iconst 0, 1) := by decide +kernel
theorem dMo_close_1 : decode cMo_close 1 = .ok (.istore_n 1, 1) := by decide +kernel
theorem dMo_close_2 : decode cMo_close 2 = .ok (.iload_n 1, 1) := by decide +kernel
theorem dMo_close_3 : decode cMo_close 3 = .ok (.aload_n 0, 1) := by decide +kernel
theorem dMo_close_4 : decode cMo_close 4 = .ok (.getfield 164, 3) := by decide +kernel
theorem dMo_close_7 : decode cMo_close 7 = .ok (.if_icmp .ge 106, 3) := by decide +kernel
theorem dMo_close_10 : decode cMo_close 10 = .ok (.iconst 0, 1) := by decide +kernel
theorem dMo_close_11 : decode cMo_close 11 = .ok (.istore_n 2, 1) := by decide +kernel
theorem dMo_close_12 : decode cMo_close 12 = .ok (.iload_n 2, 1) := by decide +kernel
theorem dMo_close_13 : decode cMo_close 13 = .ok (.aload_n 0, 1) := by decide +kernel
theorem dMo_close_14 : decode cMo_close 14 = .ok (.getfield 164, 3) := by decide +kernel
theorem dMo_close_17 : decode cMo_close 17 = .ok (.if_icmp .ge 90, 3) := by decide +kernel
theorem dMo_close_20 : decode cMo_close 20 = .ok (.iconst 0, 1) := by decide +kernel
theorem dMo_close_21 : decode cMo_close 21 = .ok (.istore_n 3, 1) := by decide +kernel
theorem dMo_close_22 : decode cMo_close 22 = .ok (.iload_n 3, 1) := by decide +kernel
theorem dMo_close_23 : decode cMo_close 23 = .ok (.aload_n 0, 1) := by decide +kernel
theorem dMo_close_24 : decode cMo_close 24 = .ok (.getfield 164, 3) := by decide +kernel
theorem dMo_close_27 : decode cMo_close 27 = .ok (.if_icmp .ge 74, 3) := by decide +kernel
theorem dMo_close_30 : decode cMo_close 30 = .ok (.aload_n 0, 1) := by decide +kernel
theorem dMo_close_31 : decode cMo_close 31 = .ok (.getfield 49, 3) := by decide +kernel
theorem dMo_close_34 : decode cMo_close 34 = .ok (.iconst 5, 1) := by decide +kernel
theorem dMo_close_35 : decode cMo_close 35 = .ok (.iload_n 2, 1) := by decide +kernel
theorem dMo_close_36 : decode cMo_close 36 = .ok (.imul, 1) := by decide +kernel
theorem dMo_close_37 : decode cMo_close 37 = .ok (.iload_n 1, 1) := by decide +kernel
theorem dMo_close_38 : decode cMo_close 38 = .ok (.iadd, 1) := by decide +kernel
theorem dMo_close_39 : decode cMo_close 39 = .ok (.iaload, 1) := by decide +kernel
theorem dMo_close_40 : decode cMo_close 40 = .ok (.aload_n 0, 1) := by decide +kernel
theorem dMo_close_41 : decode cMo_close 41 = .ok (.getfield 49, 3) := by decide +kernel
theorem dMo_close_44 : decode cMo_close 44 = .ok (.iconst 5, 1) := by decide +kernel
theorem dMo_close_45 : decode cMo_close 45 = .ok (.iload_n 1, 1) := by decide +kernel
theorem dMo_close_46 : decode cMo_close 46 = .ok (.imul, 1) := by decide +kernel
theorem dMo_close_47 : decode cMo_close 47 = .ok (.iload_n 3, 1) := by decide +kernel
theorem dMo_close_48 : decode cMo_close 48 = .ok (.iadd, 1) := by decide +kernel
theorem dMo_close_49 : decode cMo_close 49 = .ok (.iaload, 1) := by decide +kernel
theorem dMo_close_50 : decode cMo_close 50 = .ok (.invokestatic 172, 3) := by decide +kernel
theorem dMo_close_53 : decode cMo_close 53 = .ok (.istore 4, 2) := by decide +kernel
theorem dMo_close_55 : decode cMo_close 55 = .ok (.aload_n 0, 1) := by decide +kernel
theorem dMo_close_56 : decode cMo_close 56 = .ok (.getfield 49, 3) := by decide +kernel
theorem dMo_close_59 : decode cMo_close 59 = .ok (.iconst 5, 1) := by decide +kernel
theorem dMo_close_60 : decode cMo_close 60 = .ok (.iload_n 2, 1) := by decide +kernel
theorem dMo_close_61 : decode cMo_close 61 = .ok (.imul, 1) := by decide +kernel
theorem dMo_close_62 : decode cMo_close 62 = .ok (.iload_n 3, 1) := by decide +kernel
theorem dMo_close_63 : decode cMo_close 63 = .ok (.iadd, 1) := by decide +kernel
theorem dMo_close_64 : decode cMo_close 64 = .ok (.iload 4, 2) := by decide +kernel
theorem dMo_close_66 : decode cMo_close 66 = .ok (.aload_n 0, 1) := by decide +kernel
theorem dMo_close_67 : decode cMo_close 67 = .ok (.getfield 49, 3) := by decide +kernel
theorem dMo_close_70 : decode cMo_close 70 = .ok (.iconst 5, 1) := by decide +kernel
theorem dMo_close_71 : decode cMo_close 71 = .ok (.iload_n 2, 1) := by decide +kernel
theorem dMo_close_72 : decode cMo_close 72 = .ok (.imul, 1) := by decide +kernel
theorem dMo_close_73 : decode cMo_close 73 = .ok (.iload_n 3, 1) := by decide +kernel
theorem dMo_close_74 : decode cMo_close 74 = .ok (.iadd, 1) := by decide +kernel
theorem dMo_close_75 : decode cMo_close 75 = .ok (.iaload, 1) := by decide +kernel
theorem dMo_close_76 : decode cMo_close 76 = .ok (.if_icmp .ge 8, 3) := by decide +kernel
theorem dMo_close_79 : decode cMo_close 79 = .ok (.iload 4, 2) := by decide +kernel
theorem dMo_close_81 : decode cMo_close 81 = .ok (.goto 13, 3) := by decide +kernel
theorem dMo_close_84 : decode cMo_close 84 = .ok (.aload_n 0, 1) := by decide +kernel
theorem dMo_close_85 : decode cMo_close 85 = .ok (.getfield 49, 3) := by decide +kernel
theorem dMo_close_88 : decode cMo_close 88 = .ok (.iconst 5, 1) := by decide +kernel
theorem dMo_close_89 : decode cMo_close 89 = .ok (.iload_n 2, 1) := by decide +kernel
theorem dMo_close_90 : decode cMo_close 90 = .ok (.imul, 1) := by decide +kernel
theorem dMo_close_91 : decode cMo_close 91 = .ok (.iload_n 3, 1) := by decide +kernel
theorem dMo_close_92 : decode cMo_close 92 = .ok (.iadd, 1) := by decide +kernel
theorem dMo_close_93 : decode cMo_close 93 = .ok (.iaload, 1) := by decide +kernel
theorem dMo_close_94 : decode cMo_close 94 = .ok (.iastore, 1) := by decide +kernel
theorem dMo_close_95 : decode cMo_close 95 = .ok (.iinc 3 1, 3) := by decide +kernel
theorem dMo_close_98 : decode cMo_close 98 = .ok (.goto (-76), 3) := by decide +kernel
theorem dMo_close_101 : decode cMo_close 101 = .ok (.iinc 2 1, 3) := by decide +kernel
theorem dMo_close_104 : decode cMo_close 104 = .ok (.goto (-92), 3) := by decide +kernel
theorem dMo_close_107 : decode cMo_close 107 = .ok (.iinc 1 1, 3) := by decide +kernel
theorem dMo_close_110 : decode cMo_close 110 = .ok (.goto (-108), 3) := by decide +kernel
theorem dMo_close_113 : decode cMo_close 113 = .ok (.iconst 0, 1) := by decide +kernel
theorem dMo_close_114 : decode cMo_close 114 = .ok (.istore_n 1, 1) := by decide +kernel
theorem dMo_close_115 : decode cMo_close 115 = .ok (.iload_n 1, 1) := by decide +kernel
theorem dMo_close_116 : decode cMo_close 116 = .ok (.aload_n 0, 1) := by decide +kernel
theorem dMo_close_117 : decode cMo_close 117 = .ok (.getfield 164, 3) := by decide +kernel
theorem dMo_close_120 : decode cMo_close 120 = .ok (.if_icmp .ge 38, 3) := by decide +kernel
theorem dMo_close_123 : decode cMo_close 123 = .ok (.aload_n 0, 1) := by decide +kernel
theorem dMo_close_124 : decode cMo_close 124 = .ok (.aload_n 0, 1) := by decide +kernel
theorem dMo_close_125 : decode cMo_close 125 = .ok (.getfield 167, 3) := by decide +kernel
theorem dMo_close_128 : decode cMo_close 128 = .ok (.ifCond .ne 16, 3) := by decide +kernel
theorem dMo_close_131 : decode cMo_close 131 = .ok (.aload_n 0, 1) := by decide +kernel
theorem dMo_close_132 : decode cMo_close 132 = .ok (.getfield 49, 3) := by decide +kernel
theorem dMo_close_135 : decode cMo_close 135 = .ok (.bipush 6, 2) := by decide +kernel
theorem dMo_close_137 : decode cMo_close 137 = .ok (.iload_n 1, 1) := by decide +kernel
theorem dMo_close_138 : decode cMo_close 138 = .ok (.imul, 1) := by decide +kernel
theorem dMo_close_139 : decode cMo_close 139 = .ok (.iaload, 1) := by decide +kernel
theorem dMo_close_140 : decode cMo_close 140 = .ok (.iconst 1, 1) := by decide +kernel
theorem dMo_close_141 : decode cMo_close 141 = .ok (.if_icmp .ge 7, 3) := by decide +kernel
theorem dMo_close_144 : decode cMo_close 144 = .ok (.iconst 1, 1) := by decide +kernel
theorem dMo_close_145 : decode cMo_close 145 = .ok (.goto 4, 3) := by decide +kernel
theorem dMo_close_148 : decode cMo_close 148 = .ok (.iconst 0, 1) := by decide +kernel
theorem dMo_close_149 : decode cMo_close 149 = .ok (.putfield 167, 3) := by decide +kernel
theorem dMo_close_152 : decode cMo_close 152 = .ok (.iinc 1 1, 3) := by decide +kernel
theorem dMo_close_155 : decode cMo_close 155 = .ok (.goto (-40), 3) := by decide +kernel
theorem dMo_close_158 : decode cMo_close 158 = .ok (.return_, 1) := by decide +kernel
theorem dMo_tightenBy_0 : decode cMo_tightenBy 0 = .ok (.aload_n 0, 1) := by decide +kernel
theorem dMo_tightenBy_1 : decode cMo_tightenBy 1 = .ok (.getfield 167, 3) := by decide +kernel
theorem dMo_tightenBy_4 : decode cMo_tightenBy 4 = .ok (.ifCond .ne 32, 3) := by decide +kernel
theorem dMo_tightenBy_7 : decode cMo_tightenBy 7 = .ok (.iload_n 3, 1) := by decide +kernel
theorem dMo_tightenBy_8 : decode cMo_tightenBy 8 = .ok (.aload_n 0, 1) := by decide +kernel
theorem dMo_tightenBy_9 : decode cMo_tightenBy 9 = .ok (.getfield 49, 3) := by decide +kernel
theorem dMo_tightenBy_12 : decode cMo_tightenBy 12 = .ok (.iconst 5, 1) := by decide +kernel
theorem dMo_tightenBy_13 : decode cMo_tightenBy 13 = .ok (.iload_n 1, 1) := by decide +kernel
theorem dMo_tightenBy_14 : decode cMo_tightenBy 14 = .ok (.imul, 1) := by decide +kernel
theorem dMo_tightenBy_15 : decode cMo_tightenBy 15 = .ok (.iload_n 2, 1) := by decide +kernel
theorem dMo_tightenBy_16 : decode cMo_tightenBy 16 = .ok (.iadd, 1) := by decide +kernel
theorem dMo_tightenBy_17 : decode cMo_tightenBy 17 = .ok (.iaload, 1) := by decide +kernel
theorem dMo_tightenBy_18 : decode cMo_tightenBy 18 = .ok (.if_icmp .ge 18, 3) := by decide +kernel
theorem dMo_tightenBy_21 : decode cMo_tightenBy 21 = .ok (.aload_n 0, 1) := by decide +kernel
theorem dMo_tightenBy_22 : decode cMo_tightenBy 22 = .ok (.getfield 49, 3) := by decide +kernel
theorem dMo_tightenBy_25 : decode cMo_tightenBy 25 = .ok (.iconst 5, 1) := by decide +kernel
theorem dMo_tightenBy_26 : decode cMo_tightenBy 26 = .ok (.iload_n 1, 1) := by decide +kernel
theorem dMo_tightenBy_27 : decode cMo_tightenBy 27 = .ok (.imul, 1) := by decide +kernel
theorem dMo_tightenBy_28 : decode cMo_tightenBy 28 = .ok (.iload_n 2, 1) := by decide +kernel
theorem dMo_tightenBy_29 : decode cMo_tightenBy 29 = .ok (.iadd, 1) := by decide +kernel
theorem dMo_tightenBy_30 : decode cMo_tightenBy 30 = .ok (.iload_n 3, 1) := by decide +kernel
theorem dMo_tightenBy_31 : decode cMo_tightenBy 31 = .ok (.iastore, 1) := by decide +kernel
theorem dMo_tightenBy_32 : decode cMo_tightenBy 32 = .ok (.aload_n 0, 1) := by decide +kernel
theorem dMo_tightenBy_33 : decode cMo_tightenBy 33 = .ok (.invokevirtual 176, 3) := by decide +kernel
theorem dMo_tightenBy_36 : decode cMo_tightenBy 36 = .ok (.return_, 1) := by decide +kernel
theorem dMo_passOn_0 : decode cMo_passOn 0 = .ok (.iconst 1, 1) := by decide +kernel
theorem dMo_passOn_1 : decode cMo_passOn 1 = .ok (.istore_n 1, 1) := by decide +kernel
theorem dMo_passOn_2 : decode cMo_passOn 2 = .ok (.iload_n 1, 1) := by decide +kernel
theorem dMo_passOn_3 : decode cMo_passOn 3 = .ok (.aload_n 0, 1) := by decide +kernel
theorem dMo_passOn_4 : decode cMo_passOn 4 = .ok (.getfield 164, 3) := by decide +kernel
theorem dMo_passOn_7 : decode cMo_passOn 7 = .ok (.if_icmp .ge 26, 3) := by decide +kernel
theorem dMo_passOn_10 : decode cMo_passOn 10 = .ok (.aload_n 0, 1) := by decide +kernel
theorem dMo_passOn_11 : decode cMo_passOn 11 = .ok (.getfield 167, 3) := by decide +kernel
theorem dMo_passOn_14 : decode cMo_passOn 14 = .ok (.ifCond .ne 19, 3) := by decide +kernel
theorem dMo_passOn_17 : decode cMo_passOn 17 = .ok (.aload_n 0, 1) := by decide +kernel
theorem dMo_passOn_18 : decode cMo_passOn 18 = .ok (.getfield 49, 3) := by decide +kernel
theorem dMo_passOn_21 : decode cMo_passOn 21 = .ok (.iconst 5, 1) := by decide +kernel
theorem dMo_passOn_22 : decode cMo_passOn 22 = .ok (.iload_n 1, 1) := by decide +kernel
theorem dMo_passOn_23 : decode cMo_passOn 23 = .ok (.imul, 1) := by decide +kernel
theorem dMo_passOn_24 : decode cMo_passOn 24 = .ok (.ldc 171, 2) := by decide +kernel
theorem dMo_passOn_26 : decode cMo_passOn 26 = .ok (.iastore, 1) := by decide +kernel
theorem dMo_passOn_27 : decode cMo_passOn 27 = .ok (.iinc 1 1, 3) := by decide +kernel
theorem dMo_passOn_30 : decode cMo_passOn 30 = .ok (.goto (-28), 3) := by decide +kernel
theorem dMo_passOn_33 : decode cMo_passOn 33 = .ok (.return_, 1) := by decide +kernel
theorem dMo_setNull_0 : decode cMo_setNull 0 = .ok (.iconst 0, 1) := by decide +kernel
theorem dMo_setNull_1 : decode cMo_setNull 1 = .ok (.istore_n 2, 1) := by decide +kernel
theorem dMo_setNull_2 : decode cMo_setNull 2 = .ok (.iload_n 2, 1) := by decide +kernel
theorem dMo_setNull_3 : decode cMo_setNull 3 = .ok (.bipush 25, 2) := by decide +kernel
theorem dMo_setNull_5 : decode cMo_setNull 5 = .ok (.if_icmp .ge 21, 3) := by decide +kernel
theorem dMo_setNull_8 : decode cMo_setNull 8 = .ok (.aload_n 0, 1) := by decide +kernel
theorem dMo_setNull_9 : decode cMo_setNull 9 = .ok (.getfield 52, 3) := by decide +kernel
theorem dMo_setNull_12 : decode cMo_setNull 12 = .ok (.iload_n 2, 1) := by decide +kernel
theorem dMo_setNull_13 : decode cMo_setNull 13 = .ok (.aload_n 0, 1) := by decide +kernel
theorem dMo_setNull_14 : decode cMo_setNull 14 = .ok (.getfield 49, 3) := by decide +kernel
theorem dMo_setNull_17 : decode cMo_setNull 17 = .ok (.iload_n 2, 1) := by decide +kernel
theorem dMo_setNull_18 : decode cMo_setNull 18 = .ok (.iaload, 1) := by decide +kernel
theorem dMo_setNull_19 : decode cMo_setNull 19 = .ok (.iastore, 1) := by decide +kernel
theorem dMo_setNull_20 : decode cMo_setNull 20 = .ok (.iinc 2 1, 3) := by decide +kernel
theorem dMo_setNull_23 : decode cMo_setNull 23 = .ok (.goto (-21), 3) := by decide +kernel
theorem dMo_setNull_26 : decode cMo_setNull 26 = .ok (.iconst 1, 1) := by decide +kernel
theorem dMo_setNull_27 : decode cMo_setNull 27 = .ok (.istore_n 2, 1) := by decide +kernel
theorem dMo_setNull_28 : decode cMo_setNull 28 = .ok (.iload_n 2, 1) := by decide +kernel
theorem dMo_setNull_29 : decode cMo_setNull 29 = .ok (.iconst 4, 1) := by decide +kernel
theorem dMo_setNull_30 : decode cMo_setNull 30 = .ok (.if_icmp .ge 122, 3) := by decide +kernel
theorem dMo_setNull_33 : decode cMo_setNull 33 = .ok (.aload_n 0, 1) := by decide +kernel
theorem dMo_setNull_34 : decode cMo_setNull 34 = .ok (.getfield 167, 3) := by decide +kernel
theorem dMo_setNull_37 : decode cMo_setNull 37 = .ok (.ifCond .ne 115, 3) := by decide +kernel
theorem dMo_setNull_40 : decode cMo_setNull 40 = .ok (.iconst 0, 1) := by decide +kernel
theorem dMo_setNull_41 : decode cMo_setNull 41 = .ok (.istore_n 3, 1) := by decide +kernel
theorem dMo_setNull_42 : decode cMo_setNull 42 = .ok (.iload_n 3, 1) := by decide +kernel
theorem dMo_setNull_43 : decode cMo_setNull 43 = .ok (.aload_n 0, 1) := by decide +kernel
theorem dMo_setNull_44 : decode cMo_setNull 44 = .ok (.getfield 164, 3) := by decide +kernel
theorem dMo_setNull_47 : decode cMo_setNull 47 = .ok (.if_icmp .ge 99, 3) := by decide +kernel
theorem dMo_setNull_50 : decode cMo_setNull 50 = .ok (.iload_n 1, 1) := by decide +kernel
theorem dMo_setNull_51 : decode cMo_setNull 51 = .ok (.iload_n 2, 1) := by decide +kernel
theorem dMo_setNull_52 : decode cMo_setNull 52 = .ok (.iconst 1, 1) := by decide +kernel
theorem dMo_setNull_53 : decode cMo_setNull 53 = .ok (.isub, 1) := by decide +kernel
theorem dMo_setNull_54 : decode cMo_setNull 54 = .ok (.ishr, 1) := by decide +kernel
theorem dMo_setNull_55 : decode cMo_setNull 55 = .ok (.iconst 1, 1) := by decide +kernel
theorem dMo_setNull_56 : decode cMo_setNull 56 = .ok (.iand, 1) := by decide +kernel
theorem dMo_setNull_57 : decode cMo_setNull 57 = .ok (.iconst 1, 1) := by decide +kernel
theorem dMo_setNull_58 : decode cMo_setNull 58 = .ok (.if_icmp .ne 88, 3) := by decide +kernel
theorem dMo_setNull_61 : decode cMo_setNull 61 = .ok (.iload_n 3, 1) := by decide +kernel
theorem dMo_setNull_62 : decode cMo_setNull 62 = .ok (.ifCond .le 23, 3) := by decide +kernel
theorem dMo_setNull_65 : decode cMo_setNull 65 = .ok (.iload_n 3, 1) := by decide +kernel
theorem dMo_setNull_66 : decode cMo_setNull 66 = .ok (.iconst 4, 1) := by decide +kernel
theorem dMo_setNull_67 : decode cMo_setNull 67 = .ok (.if_icmp .ge 18, 3) := by decide +kernel
theorem dMo_setNull_70 : decode cMo_setNull 70 = .ok (.iload_n 1, 1) := by decide +kernel
theorem dMo_setNull_71 : decode cMo_setNull 71 = .ok (.iload_n 3, 1) := by decide +kernel
theorem dMo_setNull_72 : decode cMo_setNull 72 = .ok (.iconst 1, 1) := by decide +kernel
theorem dMo_setNull_73 : decode cMo_setNull 73 = .ok (.isub, 1) := by decide +kernel
theorem dMo_setNull_74 : decode cMo_setNull 74 = .ok (.ishr, 1) := by decide +kernel
theorem dMo_setNull_75 : decode cMo_setNull 75 = .ok (.iconst 1, 1) := by decide +kernel
theorem dMo_setNull_76 : decode cMo_setNull 76 = .ok (.iand, 1) := by decide +kernel
theorem dMo_setNull_77 : decode cMo_setNull 77 = .ok (.iconst 1, 1) := by decide +kernel
theorem dMo_setNull_78 : decode cMo_setNull 78 = .ok (.if_icmp .ne 7, 3) := by decide +kernel
theorem dMo_setNull_81 : decode cMo_setNull 81 = .ok (.iconst 1, 1) := by decide +kernel
theorem dMo_setNull_82 : decode cMo_setNull 82 = .ok (.goto 4, 3) := by decide +kernel
theorem dMo_setNull_85 : decode cMo_setNull 85 = .ok (.iconst 0, 1) := by decide +kernel
theorem dMo_setNull_86 : decode cMo_setNull 86 = .ok (.istore 4, 2) := by decide +kernel
theorem dMo_setNull_88 : decode cMo_setNull 88 = .ok (.aload_n 0, 1) := by decide +kernel
theorem dMo_setNull_89 : decode cMo_setNull 89 = .ok (.getfield 49, 3) := by decide +kernel
theorem dMo_setNull_92 : decode cMo_setNull 92 = .ok (.iconst 5, 1) := by decide +kernel
theorem dMo_setNull_93 : decode cMo_setNull 93 = .ok (.iload_n 2, 1) := by decide +kernel
theorem dMo_setNull_94 : decode cMo_setNull 94 = .ok (.imul, 1) := by decide +kernel
theorem dMo_setNull_95 : decode cMo_setNull 95 = .ok (.iload_n 3, 1) := by decide +kernel
theorem dMo_setNull_96 : decode cMo_setNull 96 = .ok (.iadd, 1) := by decide +kernel
theorem dMo_setNull_97 : decode cMo_setNull 97 = .ok (.iload 4, 2) := by decide +kernel
theorem dMo_setNull_99 : decode cMo_setNull 99 = .ok (.ifCond .eq 7, 3) := by decide +kernel
theorem dMo_setNull_102 : decode cMo_setNull 102 = .ok (.iconst 1, 1) := by decide +kernel
theorem dMo_setNull_103 : decode cMo_setNull 103 = .ok (.goto 9, 3) := by decide +kernel
theorem dMo_setNull_106 : decode cMo_setNull 106 = .ok (.aload_n 0, 1) := by decide +kernel
theorem dMo_setNull_107 : decode cMo_setNull 107 = .ok (.getfield 52, 3) := by decide +kernel
theorem dMo_setNull_110 : decode cMo_setNull 110 = .ok (.iload_n 3, 1) := by decide +kernel
theorem dMo_setNull_111 : decode cMo_setNull 111 = .ok (.iaload, 1) := by decide +kernel
theorem dMo_setNull_112 : decode cMo_setNull 112 = .ok (.iastore, 1) := by decide +kernel
theorem dMo_setNull_113 : decode cMo_setNull 113 = .ok (.aload_n 0, 1) := by decide +kernel
theorem dMo_setNull_114 : decode cMo_setNull 114 = .ok (.getfield 49, 3) := by decide +kernel
theorem dMo_setNull_117 : decode cMo_setNull 117 = .ok (.iconst 5, 1) := by decide +kernel
theorem dMo_setNull_118 : decode cMo_setNull 118 = .ok (.iload_n 3, 1) := by decide +kernel
theorem dMo_setNull_119 : decode cMo_setNull 119 = .ok (.imul, 1) := by decide +kernel
theorem dMo_setNull_120 : decode cMo_setNull 120 = .ok (.iload_n 2, 1) := by decide +kernel
theorem dMo_setNull_121 : decode cMo_setNull 121 = .ok (.iadd, 1) := by decide +kernel
theorem dMo_setNull_122 : decode cMo_setNull 122 = .ok (.iload 4, 2) := by decide +kernel
theorem dMo_setNull_124 : decode cMo_setNull 124 = .ok (.ifCond .eq 7, 3) := by decide +kernel
theorem dMo_setNull_127 : decode cMo_setNull 127 = .ok (.iconst 1, 1) := by decide +kernel
theorem dMo_setNull_128 : decode cMo_setNull 128 = .ok (.goto 11, 3) := by decide +kernel
theorem dMo_setNull_131 : decode cMo_setNull 131 = .ok (.aload_n 0, 1) := by decide +kernel
theorem dMo_setNull_132 : decode cMo_setNull 132 = .ok (.getfield 52, 3) := by decide +kernel
theorem dMo_setNull_135 : decode cMo_setNull 135 = .ok (.iconst 5, 1) := by decide +kernel
theorem dMo_setNull_136 : decode cMo_setNull 136 = .ok (.iload_n 3, 1) := by decide +kernel
theorem dMo_setNull_137 : decode cMo_setNull 137 = .ok (.imul, 1) := by decide +kernel
theorem dMo_setNull_138 : decode cMo_setNull 138 = .ok (.iaload, 1) := by decide +kernel
theorem dMo_setNull_139 : decode cMo_setNull 139 = .ok (.iastore, 1) := by decide +kernel
theorem dMo_setNull_140 : decode cMo_setNull 140 = .ok (.iinc 3 1, 3) := by decide +kernel
theorem dMo_setNull_143 : decode cMo_setNull 143 = .ok (.goto (-101), 3) := by decide +kernel
theorem dMo_setNull_146 : decode cMo_setNull 146 = .ok (.iinc 2 1, 3) := by decide +kernel
theorem dMo_setNull_149 : decode cMo_setNull 149 = .ok (.goto (-121), 3) := by decide +kernel
theorem dMo_setNull_152 : decode cMo_setNull 152 = .ok (.return_, 1) := by decide +kernel
theorem dMo_let_0 : decode cMo_let 0 = .ok (.iconst 0, 1) := by decide +kernel
theorem dMo_let_1 : decode cMo_let 1 = .ok (.istore_n 1, 1) := by decide +kernel
theorem dMo_let_2 : decode cMo_let 2 = .ok (.iload_n 1, 1) := by decide +kernel
theorem dMo_let_3 : decode cMo_let 3 = .ok (.iconst 4, 1) := by decide +kernel
theorem dMo_let_4 : decode cMo_let 4 = .ok (.if_icmp .ge 120, 3) := by decide +kernel
theorem dMo_let_7 : decode cMo_let 7 = .ok (.aload_n 0, 1) := by decide +kernel
theorem dMo_let_8 : decode cMo_let 8 = .ok (.getfield 167, 3) := by decide +kernel
theorem dMo_let_11 : decode cMo_let 11 = .ok (.ifCond .ne 113, 3) := by decide +kernel
theorem dMo_let_14 : decode cMo_let 14 = .ok (.iconst 0, 1) := by decide +kernel
theorem dMo_let_15 : decode cMo_let 15 = .ok (.istore_n 2, 1) := by decide +kernel
theorem dMo_let_16 : decode cMo_let 16 = .ok (.iload_n 2, 1) := by decide +kernel
theorem dMo_let_17 : decode cMo_let 17 = .ok (.iconst 4, 1) := by decide +kernel
theorem dMo_let_18 : decode cMo_let 18 = .ok (.if_icmp .ge 100, 3) := by decide +kernel
theorem dMo_let_21 : decode cMo_let 21 = .ok (.aload_n 0, 1) := by decide +kernel
theorem dMo_let_22 : decode cMo_let 22 = .ok (.getfield 49, 3) := by decide +kernel
theorem dMo_let_25 : decode cMo_let 25 = .ok (.iconst 5, 1) := by decide +kernel
theorem dMo_let_26 : decode cMo_let 26 = .ok (.iload_n 1, 1) := by decide +kernel
theorem dMo_let_27 : decode cMo_let 27 = .ok (.imul, 1) := by decide +kernel
theorem dMo_let_28 : decode cMo_let 28 = .ok (.iload_n 2, 1) := by decide +kernel
theorem dMo_let_29 : decode cMo_let 29 = .ok (.iadd, 1) := by decide +kernel
theorem dMo_let_30 : decode cMo_let 30 = .ok (.iaload, 1) := by decide +kernel
theorem dMo_let_31 : decode cMo_let 31 = .ok (.istore_n 3, 1) := by decide +kernel
theorem dMo_let_32 : decode cMo_let 32 = .ok (.iload_n 3, 1) := by decide +kernel
theorem dMo_let_33 : decode cMo_let 33 = .ok (.iconst 1, 1) := by decide +kernel
theorem dMo_let_34 : decode cMo_let 34 = .ok (.ishr, 1) := by decide +kernel
theorem dMo_let_35 : decode cMo_let 35 = .ok (.istore 4, 2) := by decide +kernel
theorem dMo_let_37 : decode cMo_let 37 = .ok (.iload_n 1, 1) := by decide +kernel
theorem dMo_let_38 : decode cMo_let 38 = .ok (.iload_n 2, 1) := by decide +kernel
theorem dMo_let_39 : decode cMo_let 39 = .ok (.if_icmp .ne 6, 3) := by decide +kernel
theorem dMo_let_42 : decode cMo_let 42 = .ok (.goto 70, 3) := by decide +kernel
theorem dMo_let_45 : decode cMo_let 45 = .ok (.iload_n 1, 1) := by decide +kernel
theorem dMo_let_46 : decode cMo_let 46 = .ok (.ifCond .le 20, 3) := by decide +kernel
theorem dMo_let_49 : decode cMo_let 49 = .ok (.iload 4, 2) := by decide +kernel
theorem dMo_let_51 : decode cMo_let 51 = .ok (.aload_n 0, 1) := by decide +kernel
theorem dMo_let_52 : decode cMo_let 52 = .ok (.getfield 55, 3) := by decide +kernel
theorem dMo_let_55 : decode cMo_let 55 = .ok (.iload_n 1, 1) := by decide +kernel
theorem dMo_let_56 : decode cMo_let 56 = .ok (.iaload, 1) := by decide +kernel
theorem dMo_let_57 : decode cMo_let 57 = .ok (.if_icmp .le 9, 3) := by decide +kernel
theorem dMo_let_60 : decode cMo_let 60 = .ok (.ldc 171, 2) := by decide +kernel
theorem dMo_let_62 : decode cMo_let 62 = .ok (.istore_n 3, 1) := by decide +kernel
theorem dMo_let_63 : decode cMo_let 63 = .ok (.goto 25, 3) := by decide +kernel
theorem dMo_let_66 : decode cMo_let 66 = .ok (.iload 4, 2) := by decide +kernel
theorem dMo_let_68 : decode cMo_let 68 = .ok (.aload_n 0, 1) := by decide +kernel
theorem dMo_let_69 : decode cMo_let 69 = .ok (.getfield 55, 3) := by decide +kernel
theorem dMo_let_72 : decode cMo_let 72 = .ok (.iload_n 2, 1) := by decide +kernel
theorem dMo_let_73 : decode cMo_let 73 = .ok (.iaload, 1) := by decide +kernel
theorem dMo_let_74 : decode cMo_let 74 = .ok (.ineg, 1) := by decide +kernel
theorem dMo_let_75 : decode cMo_let 75 = .ok (.if_icmp .ge 13, 3) := by decide +kernel
theorem dMo_let_78 : decode cMo_let 78 = .ok (.bipush (-2), 2) := by decide +kernel
theorem dMo_let_80 : decode cMo_let 80 = .ok (.aload_n 0, 1) := by decide +kernel
theorem dMo_let_81 : decode cMo_let 81 = .ok (.getfield 55, 3) := by decide +kernel
theorem dMo_let_84 : decode cMo_let 84 = .ok (.iload_n 2, 1) := by decide +kernel
theorem dMo_let_85 : decode cMo_let 85 = .ok (.iaload, 1) := by decide +kernel
theorem dMo_let_86 : decode cMo_let 86 = .ok (.imul, 1) := by decide +kernel
theorem dMo_let_87 : decode cMo_let 87 = .ok (.istore_n 3, 1) := by decide +kernel
theorem dMo_let_88 : decode cMo_let 88 = .ok (.aload_n 0, 1) := by decide +kernel
theorem dMo_let_89 : decode cMo_let 89 = .ok (.getfield 49, 3) := by decide +kernel
theorem dMo_let_92 : decode cMo_let 92 = .ok (.iconst 5, 1) := by decide +kernel
theorem dMo_let_93 : decode cMo_let 93 = .ok (.iload_n 1, 1) := by decide +kernel
theorem dMo_let_94 : decode cMo_let 94 = .ok (.imul, 1) := by decide +kernel
theorem dMo_let_95 : decode cMo_let 95 = .ok (.iload_n 2, 1) := by decide +kernel
theorem dMo_let_96 : decode cMo_let 96 = .ok (.iadd, 1) := by decide +kernel
theorem dMo_let_97 : decode cMo_let 97 = .ok (.iload_n 1, 1) := by decide +kernel
theorem dMo_let_98 : decode cMo_let 98 = .ok (.ifCond .ne 12, 3) := by decide +kernel
theorem dMo_let_101 : decode cMo_let 101 = .ok (.iload_n 3, 1) := by decide +kernel
theorem dMo_let_102 : decode cMo_let 102 = .ok (.iconst 1, 1) := by decide +kernel
theorem dMo_let_103 : decode cMo_let 103 = .ok (.if_icmp .le 7, 3) := by decide +kernel
theorem dMo_let_106 : decode cMo_let 106 = .ok (.iconst 1, 1) := by decide +kernel
theorem dMo_let_107 : decode cMo_let 107 = .ok (.goto 4, 3) := by decide +kernel
theorem dMo_let_110 : decode cMo_let 110 = .ok (.iload_n 3, 1) := by decide +kernel
theorem dMo_let_111 : decode cMo_let 111 = .ok (.iastore, 1) := by decide +kernel
theorem dMo_let_112 : decode cMo_let 112 = .ok (.iinc 2 1, 3) := by decide +kernel
theorem dMo_let_115 : decode cMo_let 115 = .ok (.goto (-99), 3) := by decide +kernel
theorem dMo_let_118 : decode cMo_let 118 = .ok (.iinc 1 1, 3) := by decide +kernel
theorem dMo_let_121 : decode cMo_let 121 = .ok (.goto (-119), 3) := by decide +kernel
theorem dMo_let_124 : decode cMo_let 124 = .ok (.aload_n 0, 1) := by decide +kernel
theorem dMo_let_125 : decode cMo_let 125 = .ok (.getfield 167, 3) := by decide +kernel
theorem dMo_let_128 : decode cMo_let 128 = .ok (.ifCond .ne 7, 3) := by decide +kernel
theorem dMo_let_131 : decode cMo_let 131 = .ok (.aload_n 0, 1) := by decide +kernel
theorem dMo_let_132 : decode cMo_let 132 = .ok (.invokevirtual 176, 3) := by decide +kernel
theorem dMo_let_135 : decode cMo_let 135 = .ok (.return_, 1) := by decide +kernel
theorem dMo_showZone_0 : decode cMo_showZone 0 = .ok (.aload_n 0, 1) := by decide +kernel
theorem dMo_showZone_1 : decode cMo_showZone 1 = .ok (.iconst 4, 1) := by decide +kernel
theorem dMo_showZone_2 : decode cMo_showZone 2 = .ok (.putfield 164, 3) := by decide +kernel
theorem dMo_showZone_5 : decode cMo_showZone 5 = .ok (.aload_n 0, 1) := by decide +kernel
theorem dMo_showZone_6 : decode cMo_showZone 6 = .ok (.iconst 0, 1) := by decide +kernel
theorem dMo_showZone_7 : decode cMo_showZone 7 = .ok (.putfield 167, 3) := by decide +kernel
theorem dMo_showZone_10 : decode cMo_showZone 10 = .ok (.iconst 0, 1) := by decide +kernel
theorem dMo_showZone_11 : decode cMo_showZone 11 = .ok (.istore_n 2, 1) := by decide +kernel
theorem dMo_showZone_12 : decode cMo_showZone 12 = .ok (.iload_n 2, 1) := by decide +kernel
theorem dMo_showZone_13 : decode cMo_showZone 13 = .ok (.bipush 25, 2) := by decide +kernel
theorem dMo_showZone_15 : decode cMo_showZone 15 = .ok (.if_icmp .ge 26, 3) := by decide +kernel
theorem dMo_showZone_18 : decode cMo_showZone 18 = .ok (.aload_n 0, 1) := by decide +kernel
theorem dMo_showZone_19 : decode cMo_showZone 19 = .ok (.getfield 49, 3) := by decide +kernel
theorem dMo_showZone_22 : decode cMo_showZone 22 = .ok (.iload_n 2, 1) := by decide +kernel
theorem dMo_showZone_23 : decode cMo_showZone 23 = .ok (.aload_n 0, 1) := by decide +kernel
theorem dMo_showZone_24 : decode cMo_showZone 24 = .ok (.getfield 61, 3) := by decide +kernel
theorem dMo_showZone_27 : decode cMo_showZone 27 = .ok (.bipush 25, 2) := by decide +kernel
theorem dMo_showZone_29 : decode cMo_showZone 29 = .ok (.iload_n 1, 1) := by decide +kernel
theorem dMo_showZone_30 : decode cMo_showZone 30 = .ok (.imul, 1) := by decide +kernel
theorem dMo_showZone_31 : decode cMo_showZone 31 = .ok (.iload_n 2, 1) := by decide +kernel
theorem dMo_showZone_32 : decode cMo_showZone 32 = .ok (.iadd, 1) := by decide +kernel
theorem dMo_showZone_33 : decode cMo_showZone 33 = .ok (.iaload, 1) := by decide +kernel
theorem dMo_showZone_34 : decode cMo_showZone 34 = .ok (.iastore, 1) := by decide +kernel
theorem dMo_showZone_35 : decode cMo_showZone 35 = .ok (.iinc 2 1, 3) := by decide +kernel
theorem dMo_showZone_38 : decode cMo_showZone 38 = .ok (.goto (-26), 3) := by decide +kernel
theorem dMo_showZone_41 : decode cMo_showZone 41 = .ok (.return_, 1) := by decide +kernel
theorem dMo_limitAll_0 : decode cMo_limitAll 0 = .ok (.iconst 0, 1) := by decide +kernel
theorem dMo_limitAll_1 : decode cMo_limitAll 1 = .ok (.istore_n 1, 1) := by decide +kernel
theorem dMo_limitAll_2 : decode cMo_limitAll 2 = .ok (.iload_n 1, 1) := by decide +kernel
theorem dMo_limitAll_3 : decode cMo_limitAll 3 = .ok (.aload_n 0, 1) := by decide +kernel
theorem dMo_limitAll_4 : decode cMo_limitAll 4 = .ok (.getfield 128, 3) := by decide +kernel
theorem dMo_limitAll_7 : decode cMo_limitAll 7 = .ok (.if_icmp .ge 64, 3) := by decide +kernel
theorem dMo_limitAll_10 : decode cMo_limitAll 10 = .ok (.bipush 6, 2) := by decide +kernel
theorem dMo_limitAll_12 : decode cMo_limitAll 12 = .ok (.iload_n 1, 1) := by decide +kernel
theorem dMo_limitAll_13 : decode cMo_limitAll 13 = .ok (.imul, 1) := by decide +kernel
theorem dMo_limitAll_14 : decode cMo_limitAll 14 = .ok (.aload_n 0, 1) := by decide +kernel
theorem dMo_limitAll_15 : decode cMo_limitAll 15 = .ok (.getfield 89, 3) := by decide +kernel
theorem dMo_limitAll_18 : decode cMo_limitAll 18 = .ok (.iload_n 1, 1) := by decide +kernel
theorem dMo_limitAll_19 : decode cMo_limitAll 19 = .ok (.iaload, 1) := by decide +kernel
theorem dMo_limitAll_20 : decode cMo_limitAll 20 = .ok (.iadd, 1) := by decide +kernel
theorem dMo_limitAll_21 : decode cMo_limitAll 21 = .ok (.istore_n 2, 1) := by decide +kernel
theorem dMo_limitAll_22 : decode cMo_limitAll 22 = .ok (.iconst 0, 1) := by decide +kernel
theorem dMo_limitAll_23 : decode cMo_limitAll 23 = .ok (.istore_n 3, 1) := by decide +kernel
theorem dMo_limitAll_24 : decode cMo_limitAll 24 = .ok (.iload_n 3, 1) := by decide +kernel
theorem dMo_limitAll_25 : decode cMo_limitAll 25 = .ok (.aload_n 0, 1) := by decide +kernel
theorem dMo_limitAll_26 : decode cMo_limitAll 26 = .ok (.getfield 16, 3) := by decide +kernel
theorem dMo_limitAll_29 : decode cMo_limitAll 29 = .ok (.iload_n 2, 1) := by decide +kernel
theorem dMo_limitAll_30 : decode cMo_limitAll 30 = .ok (.iaload, 1) := by decide +kernel
theorem dMo_limitAll_31 : decode cMo_limitAll 31 = .ok (.if_icmp .ge 34, 3) := by decide +kernel
theorem dMo_limitAll_34 : decode cMo_limitAll 34 = .ok (.aload_n 0, 1) := by decide +kernel
theorem dMo_limitAll_35 : decode cMo_limitAll 35 = .ok (.aload_n 0, 1) := by decide +kernel
theorem dMo_limitAll_36 : decode cMo_limitAll 36 = .ok (.getfield 19, 3) := by decide +kernel
theorem dMo_limitAll_39 : decode cMo_limitAll 39 = .ok (.iconst 2, 1) := by decide +kernel
theorem dMo_limitAll_40 : decode cMo_limitAll 40 = .ok (.iload_n 2, 1) := by decide +kernel
theorem dMo_limitAll_41 : decode cMo_limitAll 41 = .ok (.imul, 1) := by decide +kernel
theorem dMo_limitAll_42 : decode cMo_limitAll 42 = .ok (.iload_n 3, 1) := by decide +kernel
theorem dMo_limitAll_43 : decode cMo_limitAll 43 = .ok (.iadd, 1) := by decide +kernel
theorem dMo_limitAll_44 : decode cMo_limitAll 44 = .ok (.iaload, 1) := by decide +kernel
theorem dMo_limitAll_45 : decode cMo_limitAll 45 = .ok (.iconst 0, 1) := by decide +kernel
theorem dMo_limitAll_46 : decode cMo_limitAll 46 = .ok (.aload_n 0, 1) := by decide +kernel
theorem dMo_limitAll_47 : decode cMo_limitAll 47 = .ok (.getfield 22, 3) := by decide +kernel
theorem dMo_limitAll_50 : decode cMo_limitAll 50 = .ok (.iconst 2, 1) := by decide +kernel
theorem dMo_limitAll_51 : decode cMo_limitAll 51 = .ok (.iload_n 2, 1) := by decide +kernel
theorem dMo_limitAll_52 : decode cMo_limitAll 52 = .ok (.imul, 1) := by decide +kernel
theorem dMo_limitAll_53 : decode cMo_limitAll 53 = .ok (.iload_n 3, 1) := by decide +kernel
theorem dMo_limitAll_54 : decode cMo_limitAll 54 = .ok (.iadd, 1) := by decide +kernel
theorem dMo_limitAll_55 : decode cMo_limitAll 55 = .ok (.iaload, 1) := by decide +kernel
theorem dMo_limitAll_56 : decode cMo_limitAll 56 = .ok (.invokevirtual 179, 3) := by decide +kernel
theorem dMo_limitAll_59 : decode cMo_limitAll 59 = .ok (.iinc 3 1, 3) := by decide +kernel
theorem dMo_limitAll_62 : decode cMo_limitAll 62 = .ok (.goto (-38), 3) := by decide +kernel
theorem dMo_limitAll_65 : decode cMo_limitAll 65 = .ok (.iinc 1 1, 3) := by decide +kernel
theorem dMo_limitAll_68 : decode cMo_limitAll 68 = .ok (.goto (-66), 3) := by decide +kernel
theorem dMo_limitAll_71 : decode cMo_limitAll 71 = .ok (.return_, 1) := by decide +kernel
theorem dMo_testAll_0 : decode cMo_testAll 0 = .ok (.bipush 12, 2) := by decide +kernel
theorem dMo_testAll_2 : decode cMo_testAll 2 = .ok (.iload_n 1, 1) := by decide +kernel
theorem dMo_testAll_3 : decode cMo_testAll 3 = .ok (.imul, 1) := by decide +kernel
theorem dMo_testAll_4 : decode cMo_testAll 4 = .ok (.iload_n 2, 1) := by decide +kernel
theorem dMo_testAll_5 : decode cMo_testAll 5 = .ok (.iadd, 1) := by decide +kernel
theorem dMo_testAll_6 : decode cMo_testAll 6 = .ok (.istore_n 3, 1) := by decide +kernel
theorem dMo_testAll_7 : decode cMo_testAll 7 = .ok (.iconst 0, 1) := by decide +kernel
theorem dMo_testAll_8 : decode cMo_testAll 8 = .ok (.istore 4, 2) := by decide +kernel
theorem dMo_testAll_10 : decode cMo_testAll 10 = .ok (.iload 4, 2) := by decide +kernel
theorem dMo_testAll_12 : decode cMo_testAll 12 = .ok (.aload_n 0, 1) := by decide +kernel
theorem dMo_testAll_13 : decode cMo_testAll 13 = .ok (.getfield 37, 3) := by decide +kernel
theorem dMo_testAll_16 : decode cMo_testAll 16 = .ok (.iload_n 3, 1) := by decide +kernel
theorem dMo_testAll_17 : decode cMo_testAll 17 = .ok (.iaload, 1) := by decide +kernel
theorem dMo_testAll_18 : decode cMo_testAll 18 = .ok (.if_icmp .ge 46, 3) := by decide +kernel
theorem dMo_testAll_21 : decode cMo_testAll 21 = .ok (.aload_n 0, 1) := by decide +kernel
theorem dMo_testAll_22 : decode cMo_testAll 22 = .ok (.aload_n 0, 1) := by decide +kernel
theorem dMo_testAll_23 : decode cMo_testAll 23 = .ok (.getfield 40, 3) := by decide +kernel
theorem dMo_testAll_26 : decode cMo_testAll 26 = .ok (.iconst 3, 1) := by decide +kernel
theorem dMo_testAll_27 : decode cMo_testAll 27 = .ok (.iload_n 3, 1) := by decide +kernel
theorem dMo_testAll_28 : decode cMo_testAll 28 = .ok (.imul, 1) := by decide +kernel
theorem dMo_testAll_29 : decode cMo_testAll 29 = .ok (.iload 4, 2) := by decide +kernel
theorem dMo_testAll_31 : decode cMo_testAll 31 = .ok (.iadd, 1) := by decide +kernel
theorem dMo_testAll_32 : decode cMo_testAll 32 = .ok (.iaload, 1) := by decide +kernel
theorem dMo_testAll_33 : decode cMo_testAll 33 = .ok (.aload_n 0, 1) := by decide +kernel
theorem dMo_testAll_34 : decode cMo_testAll 34 = .ok (.getfield 43, 3) := by decide +kernel
theorem dMo_testAll_37 : decode cMo_testAll 37 = .ok (.iconst 3, 1) := by decide +kernel
theorem dMo_testAll_38 : decode cMo_testAll 38 = .ok (.iload_n 3, 1) := by decide +kernel
theorem dMo_testAll_39 : decode cMo_testAll 39 = .ok (.imul, 1) := by decide +kernel
theorem dMo_testAll_40 : decode cMo_testAll 40 = .ok (.iload 4, 2) := by decide +kernel
theorem dMo_testAll_42 : decode cMo_testAll 42 = .ok (.iadd, 1) := by decide +kernel
theorem dMo_testAll_43 : decode cMo_testAll 43 = .ok (.iaload, 1) := by decide +kernel
theorem dMo_testAll_44 : decode cMo_testAll 44 = .ok (.aload_n 0, 1) := by decide +kernel
theorem dMo_testAll_45 : decode cMo_testAll 45 = .ok (.getfield 46, 3) := by decide +kernel
theorem dMo_testAll_48 : decode cMo_testAll 48 = .ok (.iconst 3, 1) := by decide +kernel
theorem dMo_testAll_49 : decode cMo_testAll 49 = .ok (.iload_n 3, 1) := by decide +kernel
theorem dMo_testAll_50 : decode cMo_testAll 50 = .ok (.imul, 1) := by decide +kernel
theorem dMo_testAll_51 : decode cMo_testAll 51 = .ok (.iload 4, 2) := by decide +kernel
theorem dMo_testAll_53 : decode cMo_testAll 53 = .ok (.iadd, 1) := by decide +kernel
theorem dMo_testAll_54 : decode cMo_testAll 54 = .ok (.iaload, 1) := by decide +kernel
theorem dMo_testAll_55 : decode cMo_testAll 55 = .ok (.invokevirtual 179, 3) := by decide +kernel
theorem dMo_testAll_58 : decode cMo_testAll 58 = .ok (.iinc 4 1, 3) := by decide +kernel
theorem dMo_testAll_61 : decode cMo_testAll 61 = .ok (.goto (-51), 3) := by decide +kernel
theorem dMo_testAll_64 : decode cMo_testAll 64 = .ok (.return_, 1) := by decide +kernel
theorem dMo_arrive_0 : decode cMo_arrive 0 = .ok (.aload_n 0, 1) := by decide +kernel
theorem dMo_arrive_1 : decode cMo_arrive 1 = .ok (.invokevirtual 183, 3) := by decide +kernel
theorem dMo_arrive_4 : decode cMo_arrive 4 = .ok (.aload_n 0, 1) := by decide +kernel
theorem dMo_arrive_5 : decode cMo_arrive 5 = .ok (.getfield 49, 3) := by decide +kernel
theorem dMo_arrive_8 : decode cMo_arrive 8 = .ok (.iconst 4, 1) := by decide +kernel
theorem dMo_arrive_9 : decode cMo_arrive 9 = .ok (.iaload, 1) := by decide +kernel
theorem dMo_arrive_10 : decode cMo_arrive 10 = .ok (.istore_n 2, 1) := by decide +kernel
theorem dMo_arrive_11 : decode cMo_arrive 11 = .ok (.aload_n 0, 1) := by decide +kernel
theorem dMo_arrive_12 : decode cMo_arrive 12 = .ok (.iload_n 1, 1) := by decide +kernel
theorem dMo_arrive_13 : decode cMo_arrive 13 = .ok (.ifCond .eq 25, 3) := by decide +kernel
theorem dMo_arrive_16 : decode cMo_arrive 16 = .ok (.bipush (-2), 2) := by decide +kernel
theorem dMo_arrive_18 : decode cMo_arrive 18 = .ok (.iload_n 2, 1) := by decide +kernel
theorem dMo_arrive_19 : decode cMo_arrive 19 = .ok (.iconst 1, 1) := by decide +kernel
theorem dMo_arrive_20 : decode cMo_arrive 20 = .ok (.ishr, 1) := by decide +kernel
theorem dMo_arrive_21 : decode cMo_arrive 21 = .ok (.imul, 1) := by decide +kernel
theorem dMo_arrive_22 : decode cMo_arrive 22 = .ok (.iload_n 2, 1) := by decide +kernel
theorem dMo_arrive_23 : decode cMo_arrive 23 = .ok (.iconst 1, 1) := by decide +kernel
theorem dMo_arrive_24 : decode cMo_arrive 24 = .ok (.iand, 1) := by decide +kernel
theorem dMo_arrive_25 : decode cMo_arrive 25 = .ok (.iconst 1, 1) := by decide +kernel
theorem dMo_arrive_26 : decode cMo_arrive 26 = .ok (.if_icmp .ne 7, 3) := by decide +kernel
theorem dMo_arrive_29 : decode cMo_arrive 29 = .ok (.iconst 0, 1) := by decide +kernel
theorem dMo_arrive_30 : decode cMo_arrive 30 = .ok (.goto 4, 3) := by decide +kernel
theorem dMo_arrive_33 : decode cMo_arrive 33 = .ok (.iconst 1, 1) := by decide +kernel
theorem dMo_arrive_34 : decode cMo_arrive 34 = .ok (.iadd, 1) := by decide +kernel
theorem dMo_arrive_35 : decode cMo_arrive 35 = .ok (.goto 4, 3) := by decide +kernel
theorem dMo_arrive_38 : decode cMo_arrive 38 = .ok (.iconst 0, 1) := by decide +kernel
theorem dMo_arrive_39 : decode cMo_arrive 39 = .ok (.putfield 186, 3) := by decide +kernel
theorem dMo_arrive_42 : decode cMo_arrive 42 = .ok (.aload_n 0, 1) := by decide +kernel
theorem dMo_arrive_43 : decode cMo_arrive 43 = .ok (.invokevirtual 189, 3) := by decide +kernel
theorem dMo_arrive_46 : decode cMo_arrive 46 = .ok (.aload_n 0, 1) := by decide +kernel
theorem dMo_arrive_47 : decode cMo_arrive 47 = .ok (.invokevirtual 183, 3) := by decide +kernel
theorem dMo_arrive_50 : decode cMo_arrive 50 = .ok (.return_, 1) := by decide +kernel
theorem dMo_find_0 : decode cMo_find 0 = .ok (.iconst 0, 1) := by decide +kernel
theorem dMo_find_1 : decode cMo_find 1 = .ok (.istore_n 3, 1) := by decide +kernel
theorem dMo_find_2 : decode cMo_find 2 = .ok (.iload_n 3, 1) := by decide +kernel
theorem dMo_find_3 : decode cMo_find 3 = .ok (.aload_n 0, 1) := by decide +kernel
theorem dMo_find_4 : decode cMo_find 4 = .ok (.getfield 16, 3) := by decide +kernel
theorem dMo_find_7 : decode cMo_find 7 = .ok (.bipush 6, 2) := by decide +kernel
theorem dMo_find_9 : decode cMo_find 9 = .ok (.iload_n 1, 1) := by decide +kernel
theorem dMo_find_10 : decode cMo_find 10 = .ok (.imul, 1) := by decide +kernel
theorem dMo_find_11 : decode cMo_find 11 = .ok (.iload_n 2, 1) := by decide +kernel
theorem dMo_find_12 : decode cMo_find 12 = .ok (.iadd, 1) := by decide +kernel
theorem dMo_find_13 : decode cMo_find 13 = .ok (.iaload, 1) := by decide +kernel
theorem dMo_find_14 : decode cMo_find 14 = .ok (.if_icmp .ge 78, 3) := by decide +kernel
theorem dMo_find_17 : decode cMo_find 17 = .ok (.iconst 2, 1) := by decide +kernel
theorem dMo_find_18 : decode cMo_find 18 = .ok (.bipush 6, 2) := by decide +kernel
theorem dMo_find_20 : decode cMo_find 20 = .ok (.iload_n 1, 1) := by decide +kernel
theorem dMo_find_21 : decode cMo_find 21 = .ok (.imul, 1) := by decide +kernel
theorem dMo_find_22 : decode cMo_find 22 = .ok (.iload_n 2, 1) := by decide +kernel
theorem dMo_find_23 : decode cMo_find 23 = .ok (.iadd, 1) := by decide +kernel
theorem dMo_find_24 : decode cMo_find 24 = .ok (.imul, 1) := by decide +kernel
theorem dMo_find_25 : decode cMo_find 25 = .ok (.iload_n 3, 1) := by decide +kernel
theorem dMo_find_26 : decode cMo_find 26 = .ok (.iadd, 1) := by decide +kernel
theorem dMo_find_27 : decode cMo_find 27 = .ok (.istore 4, 2) := by decide +kernel
theorem dMo_find_29 : decode cMo_find 29 = .ok (.aload_n 0, 1) := by decide +kernel
theorem dMo_find_30 : decode cMo_find 30 = .ok (.getfield 22, 3) := by decide +kernel
theorem dMo_find_33 : decode cMo_find 33 = .ok (.iload 4, 2) := by decide +kernel
theorem dMo_find_35 : decode cMo_find 35 = .ok (.iaload, 1) := by decide +kernel
theorem dMo_find_36 : decode cMo_find 36 = .ok (.iconst 1, 1) := by decide +kernel
theorem dMo_find_37 : decode cMo_find 37 = .ok (.ishr, 1) := by decide +kernel
theorem dMo_find_38 : decode cMo_find 38 = .ok (.istore 5, 2) := by decide +kernel
theorem dMo_find_40 : decode cMo_find 40 = .ok (.aload_n 0, 1) := by decide +kernel
theorem dMo_find_41 : decode cMo_find 41 = .ok (.getfield 55, 3) := by decide +kernel
theorem dMo_find_44 : decode cMo_find 44 = .ok (.aload_n 0, 1) := by decide +kernel
theorem dMo_find_45 : decode cMo_find 45 = .ok (.getfield 19, 3) := by decide +kernel
theorem dMo_find_48 : decode cMo_find 48 = .ok (.iload 4, 2) := by decide +kernel
theorem dMo_find_50 : decode cMo_find 50 = .ok (.iaload, 1) := by decide +kernel
theorem dMo_find_51 : decode cMo_find 51 = .ok (.iload 5, 2) := by decide +kernel
theorem dMo_find_53 : decode cMo_find 53 = .ok (.aload_n 0, 1) := by decide +kernel
theorem dMo_find_54 : decode cMo_find 54 = .ok (.getfield 55, 3) := by decide +kernel
theorem dMo_find_57 : decode cMo_find 57 = .ok (.aload_n 0, 1) := by decide +kernel
theorem dMo_find_58 : decode cMo_find 58 = .ok (.getfield 19, 3) := by decide +kernel
theorem dMo_find_61 : decode cMo_find 61 = .ok (.iload 4, 2) := by decide +kernel
theorem dMo_find_63 : decode cMo_find 63 = .ok (.iaload, 1) := by decide +kernel
theorem dMo_find_64 : decode cMo_find 64 = .ok (.iaload, 1) := by decide +kernel
theorem dMo_find_65 : decode cMo_find 65 = .ok (.if_icmp .le 8, 3) := by decide +kernel
theorem dMo_find_68 : decode cMo_find 68 = .ok (.iload 5, 2) := by decide +kernel
theorem dMo_find_70 : decode cMo_find 70 = .ok (.goto 15, 3) := by decide +kernel
theorem dMo_find_73 : decode cMo_find 73 = .ok (.aload_n 0, 1) := by decide +kernel
theorem dMo_find_74 : decode cMo_find 74 = .ok (.getfield 55, 3) := by decide +kernel
theorem dMo_find_77 : decode cMo_find 77 = .ok (.aload_n 0, 1) := by decide +kernel
theorem dMo_find_78 : decode cMo_find 78 = .ok (.getfield 19, 3) := by decide +kernel
theorem dMo_find_81 : decode cMo_find 81 = .ok (.iload 4, 2) := by decide +kernel
theorem dMo_find_83 : decode cMo_find 83 = .ok (.iaload, 1) := by decide +kernel
theorem dMo_find_84 : decode cMo_find 84 = .ok (.iaload, 1) := by decide +kernel
theorem dMo_find_85 : decode cMo_find 85 = .ok (.iastore, 1) := by decide +kernel
theorem dMo_find_86 : decode cMo_find 86 = .ok (.iinc 3 1, 3) := by decide +kernel
theorem dMo_find_89 : decode cMo_find 89 = .ok (.goto (-87), 3) := by decide +kernel
theorem dMo_find_92 : decode cMo_find 92 = .ok (.return_, 1) := by decide +kernel
