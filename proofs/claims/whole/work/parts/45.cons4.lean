/-! RouteSpeakerModel.<init>()V : 38 cells -/
theorem d_Mo_init_0 : decode prog_12_method_1_code 0 = .ok (.aload_n 0, 1) := by decide +kernel
theorem d_Mo_init_1 : decode prog_12_method_1_code 1 = .ok (.invokespecial 1, 3) := by decide +kernel
theorem d_Mo_init_4 : decode prog_12_method_1_code 4 = .ok (.aload_n 0, 1) := by decide +kernel
theorem d_Mo_init_5 : decode prog_12_method_1_code 5 = .ok (.iconst 4, 1) := by decide +kernel
theorem d_Mo_init_6 : decode prog_12_method_1_code 6 = .ok (.newarray .int, 2) := by decide +kernel
theorem d_Mo_init_8 : decode prog_12_method_1_code 8 = .ok (.putfield 7, 3) := by decide +kernel
theorem d_Mo_init_11 : decode prog_12_method_1_code 11 = .ok (.aload_n 0, 1) := by decide +kernel
theorem d_Mo_init_12 : decode prog_12_method_1_code 12 = .ok (.iconst 4, 1) := by decide +kernel
theorem d_Mo_init_13 : decode prog_12_method_1_code 13 = .ok (.newarray .int, 2) := by decide +kernel
theorem d_Mo_init_15 : decode prog_12_method_1_code 15 = .ok (.putfield 13, 3) := by decide +kernel
theorem d_Mo_init_18 : decode prog_12_method_1_code 18 = .ok (.aload_n 0, 1) := by decide +kernel
theorem d_Mo_init_19 : decode prog_12_method_1_code 19 = .ok (.iconst 4, 1) := by decide +kernel
theorem d_Mo_init_20 : decode prog_12_method_1_code 20 = .ok (.newarray .int, 2) := by decide +kernel
theorem d_Mo_init_22 : decode prog_12_method_1_code 22 = .ok (.putfield 16, 3) := by decide +kernel
theorem d_Mo_init_25 : decode prog_12_method_1_code 25 = .ok (.aload_n 0, 1) := by decide +kernel
theorem d_Mo_init_26 : decode prog_12_method_1_code 26 = .ok (.iconst 4, 1) := by decide +kernel
theorem d_Mo_init_27 : decode prog_12_method_1_code 27 = .ok (.newarray .int, 2) := by decide +kernel
theorem d_Mo_init_29 : decode prog_12_method_1_code 29 = .ok (.putfield 19, 3) := by decide +kernel
theorem d_Mo_init_32 : decode prog_12_method_1_code 32 = .ok (.aload_n 0, 1) := by decide +kernel
theorem d_Mo_init_33 : decode prog_12_method_1_code 33 = .ok (.iconst 4, 1) := by decide +kernel
theorem d_Mo_init_34 : decode prog_12_method_1_code 34 = .ok (.newarray .int, 2) := by decide +kernel
theorem d_Mo_init_36 : decode prog_12_method_1_code 36 = .ok (.putfield 22, 3) := by decide +kernel
theorem d_Mo_init_39 : decode prog_12_method_1_code 39 = .ok (.aload_n 0, 1) := by decide +kernel
theorem d_Mo_init_40 : decode prog_12_method_1_code 40 = .ok (.iconst 4, 1) := by decide +kernel
theorem d_Mo_init_41 : decode prog_12_method_1_code 41 = .ok (.newarray .int, 2) := by decide +kernel
theorem d_Mo_init_43 : decode prog_12_method_1_code 43 = .ok (.putfield 25, 3) := by decide +kernel
theorem d_Mo_init_46 : decode prog_12_method_1_code 46 = .ok (.aload_n 0, 1) := by decide +kernel
theorem d_Mo_init_47 : decode prog_12_method_1_code 47 = .ok (.iconst 4, 1) := by decide +kernel
theorem d_Mo_init_48 : decode prog_12_method_1_code 48 = .ok (.newarray .int, 2) := by decide +kernel
theorem d_Mo_init_50 : decode prog_12_method_1_code 50 = .ok (.putfield 28, 3) := by decide +kernel
theorem d_Mo_init_53 : decode prog_12_method_1_code 53 = .ok (.aload_n 0, 1) := by decide +kernel
theorem d_Mo_init_54 : decode prog_12_method_1_code 54 = .ok (.iconst 4, 1) := by decide +kernel
theorem d_Mo_init_55 : decode prog_12_method_1_code 55 = .ok (.newarray .int, 2) := by decide +kernel
theorem d_Mo_init_57 : decode prog_12_method_1_code 57 = .ok (.putfield 31, 3) := by decide +kernel
theorem d_Mo_init_60 : decode prog_12_method_1_code 60 = .ok (.aload_n 0, 1) := by decide +kernel
theorem d_Mo_init_61 : decode prog_12_method_1_code 61 = .ok (.iconst 4, 1) := by decide +kernel
theorem d_Mo_init_62 : decode prog_12_method_1_code 62 = .ok (.newarray .int, 2) := by decide +kernel
theorem d_Mo_init_64 : decode prog_12_method_1_code 64 = .ok (.putfield 34, 3) := by decide +kernel
theorem d_Mo_init_67 : decode prog_12_method_1_code 67 = .ok (.aload_n 0, 1) := by decide +kernel
theorem d_Mo_init_68 : decode prog_12_method_1_code 68 = .ok (.iconst 4, 1) := by decide +kernel
theorem d_Mo_init_69 : decode prog_12_method_1_code 69 = .ok (.newarray .int, 2) := by decide +kernel
theorem d_Mo_init_71 : decode prog_12_method_1_code 71 = .ok (.putfield 37, 3) := by decide +kernel
theorem d_Mo_init_74 : decode prog_12_method_1_code 74 = .ok (.aload_n 0, 1) := by decide +kernel
theorem d_Mo_init_75 : decode prog_12_method_1_code 75 = .ok (.iconst 4, 1) := by decide +kernel
theorem d_Mo_init_76 : decode prog_12_method_1_code 76 = .ok (.newarray .int, 2) := by decide +kernel
theorem d_Mo_init_78 : decode prog_12_method_1_code 78 = .ok (.putfield 40, 3) := by decide +kernel
theorem d_Mo_init_81 : decode prog_12_method_1_code 81 = .ok (.aload_n 0, 1) := by decide +kernel
theorem d_Mo_init_82 : decode prog_12_method_1_code 82 = .ok (.bipush (12), 2) := by decide +kernel
theorem d_Mo_init_84 : decode prog_12_method_1_code 84 = .ok (.newarray .int, 2) := by decide +kernel
theorem d_Mo_init_86 : decode prog_12_method_1_code 86 = .ok (.putfield 43, 3) := by decide +kernel
theorem d_Mo_init_89 : decode prog_12_method_1_code 89 = .ok (.aload_n 0, 1) := by decide +kernel
theorem d_Mo_init_90 : decode prog_12_method_1_code 90 = .ok (.bipush (12), 2) := by decide +kernel
theorem d_Mo_init_92 : decode prog_12_method_1_code 92 = .ok (.newarray .int, 2) := by decide +kernel
theorem d_Mo_init_94 : decode prog_12_method_1_code 94 = .ok (.putfield 46, 3) := by decide +kernel
theorem d_Mo_init_97 : decode prog_12_method_1_code 97 = .ok (.aload_n 0, 1) := by decide +kernel
theorem d_Mo_init_98 : decode prog_12_method_1_code 98 = .ok (.bipush (12), 2) := by decide +kernel
theorem d_Mo_init_100 : decode prog_12_method_1_code 100 = .ok (.newarray .int, 2) := by decide +kernel
theorem d_Mo_init_102 : decode prog_12_method_1_code 102 = .ok (.putfield 49, 3) := by decide +kernel
theorem d_Mo_init_105 : decode prog_12_method_1_code 105 = .ok (.aload_n 0, 1) := by decide +kernel
theorem d_Mo_init_106 : decode prog_12_method_1_code 106 = .ok (.sipush (240), 3) := by decide +kernel
theorem d_Mo_init_109 : decode prog_12_method_1_code 109 = .ok (.newarray .int, 2) := by decide +kernel
theorem d_Mo_init_111 : decode prog_12_method_1_code 111 = .ok (.putfield 52, 3) := by decide +kernel
theorem d_Mo_init_114 : decode prog_12_method_1_code 114 = .ok (.aload_n 0, 1) := by decide +kernel
theorem d_Mo_init_115 : decode prog_12_method_1_code 115 = .ok (.iconst 4, 1) := by decide +kernel
theorem d_Mo_init_116 : decode prog_12_method_1_code 116 = .ok (.newarray .int, 2) := by decide +kernel
theorem d_Mo_init_118 : decode prog_12_method_1_code 118 = .ok (.putfield 55, 3) := by decide +kernel
theorem d_Mo_init_121 : decode prog_12_method_1_code 121 = .ok (.aload_n 0, 1) := by decide +kernel
theorem d_Mo_init_122 : decode prog_12_method_1_code 122 = .ok (.sipush (800), 3) := by decide +kernel
theorem d_Mo_init_125 : decode prog_12_method_1_code 125 = .ok (.newarray .int, 2) := by decide +kernel
theorem d_Mo_init_127 : decode prog_12_method_1_code 127 = .ok (.putfield 58, 3) := by decide +kernel
theorem d_Mo_init_130 : decode prog_12_method_1_code 130 = .ok (.aload_n 0, 1) := by decide +kernel
theorem d_Mo_init_131 : decode prog_12_method_1_code 131 = .ok (.iconst 4, 1) := by decide +kernel
theorem d_Mo_init_132 : decode prog_12_method_1_code 132 = .ok (.newarray .int, 2) := by decide +kernel
theorem d_Mo_init_134 : decode prog_12_method_1_code 134 = .ok (.putfield 61, 3) := by decide +kernel
theorem d_Mo_init_137 : decode prog_12_method_1_code 137 = .ok (.aload_n 0, 1) := by decide +kernel
theorem d_Mo_init_138 : decode prog_12_method_1_code 138 = .ok (.bipush (60), 2) := by decide +kernel
theorem d_Mo_init_140 : decode prog_12_method_1_code 140 = .ok (.newarray .int, 2) := by decide +kernel
theorem d_Mo_init_142 : decode prog_12_method_1_code 142 = .ok (.putfield 64, 3) := by decide +kernel
theorem d_Mo_init_145 : decode prog_12_method_1_code 145 = .ok (.aload_n 0, 1) := by decide +kernel
theorem d_Mo_init_146 : decode prog_12_method_1_code 146 = .ok (.bipush (12), 2) := by decide +kernel
theorem d_Mo_init_148 : decode prog_12_method_1_code 148 = .ok (.newarray .int, 2) := by decide +kernel
theorem d_Mo_init_150 : decode prog_12_method_1_code 150 = .ok (.putfield 67, 3) := by decide +kernel
theorem d_Mo_init_153 : decode prog_12_method_1_code 153 = .ok (.aload_n 0, 1) := by decide +kernel
theorem d_Mo_init_154 : decode prog_12_method_1_code 154 = .ok (.bipush (12), 2) := by decide +kernel
theorem d_Mo_init_156 : decode prog_12_method_1_code 156 = .ok (.newarray .int, 2) := by decide +kernel
theorem d_Mo_init_158 : decode prog_12_method_1_code 158 = .ok (.putfield 70, 3) := by decide +kernel
theorem d_Mo_init_161 : decode prog_12_method_1_code 161 = .ok (.aload_n 0, 1) := by decide +kernel
theorem d_Mo_init_162 : decode prog_12_method_1_code 162 = .ok (.bipush (61), 2) := by decide +kernel
theorem d_Mo_init_164 : decode prog_12_method_1_code 164 = .ok (.newarray .boolean, 2) := by decide +kernel
theorem d_Mo_init_166 : decode prog_12_method_1_code 166 = .ok (.putfield 73, 3) := by decide +kernel
theorem d_Mo_init_169 : decode prog_12_method_1_code 169 = .ok (.aload_n 0, 1) := by decide +kernel
theorem d_Mo_init_170 : decode prog_12_method_1_code 170 = .ok (.bipush (61), 2) := by decide +kernel
theorem d_Mo_init_172 : decode prog_12_method_1_code 172 = .ok (.newarray .int, 2) := by decide +kernel
theorem d_Mo_init_174 : decode prog_12_method_1_code 174 = .ok (.putfield 77, 3) := by decide +kernel
theorem d_Mo_init_177 : decode prog_12_method_1_code 177 = .ok (.aload_n 0, 1) := by decide +kernel
theorem d_Mo_init_178 : decode prog_12_method_1_code 178 = .ok (.bipush (61), 2) := by decide +kernel
theorem d_Mo_init_180 : decode prog_12_method_1_code 180 = .ok (.newarray .int, 2) := by decide +kernel
theorem d_Mo_init_182 : decode prog_12_method_1_code 182 = .ok (.putfield 80, 3) := by decide +kernel
theorem d_Mo_init_185 : decode prog_12_method_1_code 185 = .ok (.aload_n 0, 1) := by decide +kernel
theorem d_Mo_init_186 : decode prog_12_method_1_code 186 = .ok (.sipush (488), 3) := by decide +kernel
theorem d_Mo_init_189 : decode prog_12_method_1_code 189 = .ok (.newarray .int, 2) := by decide +kernel
theorem d_Mo_init_191 : decode prog_12_method_1_code 191 = .ok (.putfield 83, 3) := by decide +kernel
theorem d_Mo_init_194 : decode prog_12_method_1_code 194 = .ok (.aload_n 0, 1) := by decide +kernel
theorem d_Mo_init_195 : decode prog_12_method_1_code 195 = .ok (.bipush (61), 2) := by decide +kernel
theorem d_Mo_init_197 : decode prog_12_method_1_code 197 = .ok (.newarray .int, 2) := by decide +kernel
theorem d_Mo_init_199 : decode prog_12_method_1_code 199 = .ok (.putfield 86, 3) := by decide +kernel
theorem d_Mo_init_202 : decode prog_12_method_1_code 202 = .ok (.aload_n 0, 1) := by decide +kernel
theorem d_Mo_init_203 : decode prog_12_method_1_code 203 = .ok (.bipush (61), 2) := by decide +kernel
theorem d_Mo_init_205 : decode prog_12_method_1_code 205 = .ok (.newarray .int, 2) := by decide +kernel
theorem d_Mo_init_207 : decode prog_12_method_1_code 207 = .ok (.putfield 89, 3) := by decide +kernel
theorem d_Mo_init_210 : decode prog_12_method_1_code 210 = .ok (.aload_n 0, 1) := by decide +kernel
theorem d_Mo_init_211 : decode prog_12_method_1_code 211 = .ok (.bipush (61), 2) := by decide +kernel
theorem d_Mo_init_213 : decode prog_12_method_1_code 213 = .ok (.newarray .int, 2) := by decide +kernel
theorem d_Mo_init_215 : decode prog_12_method_1_code 215 = .ok (.putfield 92, 3) := by decide +kernel
theorem d_Mo_init_218 : decode prog_12_method_1_code 218 = .ok (.aload_n 0, 1) := by decide +kernel
theorem d_Mo_init_219 : decode prog_12_method_1_code 219 = .ok (.bipush (61), 2) := by decide +kernel
theorem d_Mo_init_221 : decode prog_12_method_1_code 221 = .ok (.newarray .int, 2) := by decide +kernel
theorem d_Mo_init_223 : decode prog_12_method_1_code 223 = .ok (.putfield 95, 3) := by decide +kernel
theorem d_Mo_init_226 : decode prog_12_method_1_code 226 = .ok (.aload_n 0, 1) := by decide +kernel
theorem d_Mo_init_227 : decode prog_12_method_1_code 227 = .ok (.bipush (61), 2) := by decide +kernel
theorem d_Mo_init_229 : decode prog_12_method_1_code 229 = .ok (.newarray .int, 2) := by decide +kernel
theorem d_Mo_init_231 : decode prog_12_method_1_code 231 = .ok (.putfield 98, 3) := by decide +kernel
theorem d_Mo_init_234 : decode prog_12_method_1_code 234 = .ok (.aload_n 0, 1) := by decide +kernel
theorem d_Mo_init_235 : decode prog_12_method_1_code 235 = .ok (.sipush (366), 3) := by decide +kernel
theorem d_Mo_init_238 : decode prog_12_method_1_code 238 = .ok (.newarray .int, 2) := by decide +kernel
theorem d_Mo_init_240 : decode prog_12_method_1_code 240 = .ok (.putfield 101, 3) := by decide +kernel
theorem d_Mo_init_243 : decode prog_12_method_1_code 243 = .ok (.aload_n 0, 1) := by decide +kernel
theorem d_Mo_init_244 : decode prog_12_method_1_code 244 = .ok (.bipush (48), 2) := by decide +kernel
theorem d_Mo_init_246 : decode prog_12_method_1_code 246 = .ok (.newarray .double, 2) := by decide +kernel
theorem d_Mo_init_248 : decode prog_12_method_1_code 248 = .ok (.putfield 104, 3) := by decide +kernel
theorem d_Mo_init_251 : decode prog_12_method_1_code 251 = .ok (.aload_n 0, 1) := by decide +kernel
theorem d_Mo_init_252 : decode prog_12_method_1_code 252 = .ok (.bipush (48), 2) := by decide +kernel
theorem d_Mo_init_254 : decode prog_12_method_1_code 254 = .ok (.newarray .boolean, 2) := by decide +kernel
theorem d_Mo_init_256 : decode prog_12_method_1_code 256 = .ok (.putfield 108, 3) := by decide +kernel
theorem d_Mo_init_259 : decode prog_12_method_1_code 259 = .ok (.aload_n 0, 1) := by decide +kernel
theorem d_Mo_init_260 : decode prog_12_method_1_code 260 = .ok (.bipush (48), 2) := by decide +kernel
theorem d_Mo_init_262 : decode prog_12_method_1_code 262 = .ok (.newarray .int, 2) := by decide +kernel
theorem d_Mo_init_264 : decode prog_12_method_1_code 264 = .ok (.putfield 111, 3) := by decide +kernel
theorem d_Mo_init_267 : decode prog_12_method_1_code 267 = .ok (.aload_n 0, 1) := by decide +kernel
theorem d_Mo_init_268 : decode prog_12_method_1_code 268 = .ok (.sipush (1920), 3) := by decide +kernel
theorem d_Mo_init_271 : decode prog_12_method_1_code 271 = .ok (.newarray .int, 2) := by decide +kernel
theorem d_Mo_init_273 : decode prog_12_method_1_code 273 = .ok (.putfield 114, 3) := by decide +kernel
theorem d_Mo_init_276 : decode prog_12_method_1_code 276 = .ok (.aload_n 0, 1) := by decide +kernel
theorem d_Mo_init_277 : decode prog_12_method_1_code 277 = .ok (.bipush (40), 2) := by decide +kernel
theorem d_Mo_init_279 : decode prog_12_method_1_code 279 = .ok (.newarray .int, 2) := by decide +kernel
theorem d_Mo_init_281 : decode prog_12_method_1_code 281 = .ok (.putfield 117, 3) := by decide +kernel
theorem d_Mo_init_284 : decode prog_12_method_1_code 284 = .ok (.aload_n 0, 1) := by decide +kernel
theorem d_Mo_init_285 : decode prog_12_method_1_code 285 = .ok (.bipush (11), 2) := by decide +kernel
theorem d_Mo_init_287 : decode prog_12_method_1_code 287 = .ok (.newarray .int, 2) := by decide +kernel
theorem d_Mo_init_289 : decode prog_12_method_1_code 289 = .ok (.putfield 120, 3) := by decide +kernel
theorem d_Mo_init_292 : decode prog_12_method_1_code 292 = .ok (.aload_n 0, 1) := by decide +kernel
theorem d_Mo_init_293 : decode prog_12_method_1_code 293 = .ok (.iconst 5, 1) := by decide +kernel
theorem d_Mo_init_294 : decode prog_12_method_1_code 294 = .ok (.newarray .boolean, 2) := by decide +kernel
theorem d_Mo_init_296 : decode prog_12_method_1_code 296 = .ok (.putfield 123, 3) := by decide +kernel
theorem d_Mo_init_299 : decode prog_12_method_1_code 299 = .ok (.iconst 0, 1) := by decide +kernel
theorem d_Mo_init_300 : decode prog_12_method_1_code 300 = .ok (.istore_n 1, 1) := by decide +kernel
theorem d_Mo_init_301 : decode prog_12_method_1_code 301 = .ok (.iload_n 1, 1) := by decide +kernel
theorem d_Mo_init_302 : decode prog_12_method_1_code 302 = .ok (.iconst 4, 1) := by decide +kernel
theorem d_Mo_init_303 : decode prog_12_method_1_code 303 = .ok (.if_icmp .ge (27), 3) := by decide +kernel
theorem d_Mo_init_306 : decode prog_12_method_1_code 306 = .ok (.aload_n 0, 1) := by decide +kernel
theorem d_Mo_init_307 : decode prog_12_method_1_code 307 = .ok (.getfield 13, 3) := by decide +kernel
theorem d_Mo_init_310 : decode prog_12_method_1_code 310 = .ok (.iload_n 1, 1) := by decide +kernel
theorem d_Mo_init_311 : decode prog_12_method_1_code 311 = .ok (.sipush (200), 3) := by decide +kernel
theorem d_Mo_init_314 : decode prog_12_method_1_code 314 = .ok (.iload_n 1, 1) := by decide +kernel
theorem d_Mo_init_315 : decode prog_12_method_1_code 315 = .ok (.iadd, 1) := by decide +kernel
theorem d_Mo_init_316 : decode prog_12_method_1_code 316 = .ok (.iastore, 1) := by decide +kernel
theorem d_Mo_init_317 : decode prog_12_method_1_code 317 = .ok (.aload_n 0, 1) := by decide +kernel
theorem d_Mo_init_318 : decode prog_12_method_1_code 318 = .ok (.getfield 34, 3) := by decide +kernel
theorem d_Mo_init_321 : decode prog_12_method_1_code 321 = .ok (.iload_n 1, 1) := by decide +kernel
theorem d_Mo_init_322 : decode prog_12_method_1_code 322 = .ok (.iconst (-1), 1) := by decide +kernel
theorem d_Mo_init_323 : decode prog_12_method_1_code 323 = .ok (.iastore, 1) := by decide +kernel
theorem d_Mo_init_324 : decode prog_12_method_1_code 324 = .ok (.iinc 1 (1), 3) := by decide +kernel
theorem d_Mo_init_327 : decode prog_12_method_1_code 327 = .ok (.goto (-26), 3) := by decide +kernel
theorem d_Mo_init_330 : decode prog_12_method_1_code 330 = .ok (.iconst 0, 1) := by decide +kernel
theorem d_Mo_init_331 : decode prog_12_method_1_code 331 = .ok (.istore_n 1, 1) := by decide +kernel
theorem d_Mo_init_332 : decode prog_12_method_1_code 332 = .ok (.iload_n 1, 1) := by decide +kernel
theorem d_Mo_init_333 : decode prog_12_method_1_code 333 = .ok (.bipush (48), 2) := by decide +kernel
theorem d_Mo_init_335 : decode prog_12_method_1_code 335 = .ok (.if_icmp .ge (16), 3) := by decide +kernel
theorem d_Mo_init_338 : decode prog_12_method_1_code 338 = .ok (.aload_n 0, 1) := by decide +kernel
theorem d_Mo_init_339 : decode prog_12_method_1_code 339 = .ok (.getfield 111, 3) := by decide +kernel
theorem d_Mo_init_342 : decode prog_12_method_1_code 342 = .ok (.iload_n 1, 1) := by decide +kernel
theorem d_Mo_init_343 : decode prog_12_method_1_code 343 = .ok (.iconst (-1), 1) := by decide +kernel
theorem d_Mo_init_344 : decode prog_12_method_1_code 344 = .ok (.iastore, 1) := by decide +kernel
theorem d_Mo_init_345 : decode prog_12_method_1_code 345 = .ok (.iinc 1 (1), 3) := by decide +kernel
theorem d_Mo_init_348 : decode prog_12_method_1_code 348 = .ok (.goto (-16), 3) := by decide +kernel
theorem d_Mo_init_351 : decode prog_12_method_1_code 351 = .ok (.return_, 1) := by decide +kernel
def KS_Mo (b : Nat) (S : rs_Shp) : rs_Shp := (rs_ad (b + 37) (rs_ad (b + 36) (rs_ad (b + 35) (rs_ad (b + 34) (rs_ad (b + 33) (rs_ad (b + 32) (rs_ad (b + 31) (rs_ad (b + 30) (rs_ad (b + 29) (rs_ad (b + 28) (rs_ad (b + 27) (rs_ad (b + 26) (rs_ad (b + 25) (rs_ad (b + 24) (rs_ad (b + 23) (rs_ad (b + 22) (rs_ad (b + 21) (rs_ad (b + 20) (rs_ad (b + 19) (rs_ad (b + 18) (rs_ad (b + 17) (rs_ad (b + 16) (rs_ad (b + 15) (rs_ad (b + 14) (rs_ad (b + 13) (rs_ad (b + 12) (rs_ad (b + 11) (rs_ad (b + 10) (rs_ad (b + 9) (rs_ad (b + 8) (rs_ad (b + 7) (rs_ad (b + 6) (rs_ad (b + 5) (rs_ad (b + 4) (rs_ad (b + 3) (rs_ad (b + 2) (rs_ad (b + 1) (rs_ad b S 20 4) 20 4) 20 4) 20 4) 20 4) 20 4) 20 4) 20 4) 20 4) 20 4) 20 4) 20 12) 20 12) 20 12) 20 240) 20 4) 20 800) 20 4) 20 60) 20 12) 20 12) 21 61) 20 61) 20 61) 20 488) 20 61) 20 61) 20 61) 20 61) 20 61) 20 366) 23 48) 21 48) 20 48) 20 1920) 20 40) 20 11) 21 5)
def KM_Mo (b : Nat) (σ : rs_Mem) : rs_Mem := (rs_sI (rs_sI (rs_sI (rs_sI (rs_sI (rs_sI (rs_sI (rs_sI (rs_sI (rs_sI (rs_sI (rs_sI (rs_sI (rs_sI (rs_sI (rs_sI (rs_sI (rs_sI (rs_sI (rs_sI (rs_sI (rs_sI (rs_sI (rs_sI (rs_sI (rs_sI (rs_sI (rs_sI (rs_sI (rs_sI (rs_sI (rs_sI (rs_sI (rs_sI (rs_sI (rs_sI (rs_sI (rs_sI (rs_sI (rs_sI (rs_sI (rs_sI (rs_sI (rs_sI (rs_sI (rs_sI (rs_sI (rs_sI (rs_sI (rs_sI (rs_sI (rs_sI (rs_sI (rs_sI (rs_sI (rs_sI (rs_sR (rs_sR (rs_sR (rs_sR (rs_sR (rs_sR (rs_sR (rs_sR (rs_sR (rs_sR (rs_sR (rs_sR (rs_sR (rs_sR (rs_sR (rs_sR (rs_sR (rs_sR (rs_sR (rs_sR (rs_sR (rs_sR (rs_sR (rs_sR (rs_sR (rs_sR (rs_sR (rs_sR (rs_sR (rs_sR (rs_sR (rs_sR (rs_sR (rs_sR (rs_sR (rs_sR (rs_sR (rs_sR σ b 1 (b + 1)) b 2 (b + 2)) b 3 (b + 3)) b 4 (b + 4)) b 5 (b + 5)) b 6 (b + 6)) b 7 (b + 7)) b 8 (b + 8)) b 9 (b + 9)) b 10 (b + 10)) b 11 (b + 11)) b 12 (b + 12)) b 13 (b + 13)) b 14 (b + 14)) b 15 (b + 15)) b 16 (b + 16)) b 17 (b + 17)) b 18 (b + 18)) b 19 (b + 19)) b 22 (b + 20)) b 23 (b + 21)) b 24 (b + 22)) b 25 (b + 23)) b 26 (b + 24)) b 27 (b + 25)) b 28 (b + 26)) b 29 (b + 27)) b 30 (b + 28)) b 31 (b + 29)) b 32 (b + 30)) b 33 (b + 31)) b 34 (b + 32)) b 35 (b + 33)) b 36 (b + 34)) b 37 (b + 35)) b 38 (b + 36)) b 39 (b + 37)) b 40 (b + 38)) (b + 2) 0 ((200 : Int32) + (0 : Int32))) (b + 9) 0 (-1 : Int32)) (b + 2) 1 ((200 : Int32) + (1 : Int32))) (b + 9) 1 (-1 : Int32)) (b + 2) 2 ((200 : Int32) + (2 : Int32))) (b + 9) 2 (-1 : Int32)) (b + 2) 3 ((200 : Int32) + (3 : Int32))) (b + 9) 3 (-1 : Int32)) (b + 34) 0 (-1 : Int32)) (b + 34) 1 (-1 : Int32)) (b + 34) 2 (-1 : Int32)) (b + 34) 3 (-1 : Int32)) (b + 34) 4 (-1 : Int32)) (b + 34) 5 (-1 : Int32)) (b + 34) 6 (-1 : Int32)) (b + 34) 7 (-1 : Int32)) (b + 34) 8 (-1 : Int32)) (b + 34) 9 (-1 : Int32)) (b + 34) 10 (-1 : Int32)) (b + 34) 11 (-1 : Int32)) (b + 34) 12 (-1 : Int32)) (b + 34) 13 (-1 : Int32)) (b + 34) 14 (-1 : Int32)) (b + 34) 15 (-1 : Int32)) (b + 34) 16 (-1 : Int32)) (b + 34) 17 (-1 : Int32)) (b + 34) 18 (-1 : Int32)) (b + 34) 19 (-1 : Int32)) (b + 34) 20 (-1 : Int32)) (b + 34) 21 (-1 : Int32)) (b + 34) 22 (-1 : Int32)) (b + 34) 23 (-1 : Int32)) (b + 34) 24 (-1 : Int32)) (b + 34) 25 (-1 : Int32)) (b + 34) 26 (-1 : Int32)) (b + 34) 27 (-1 : Int32)) (b + 34) 28 (-1 : Int32)) (b + 34) 29 (-1 : Int32)) (b + 34) 30 (-1 : Int32)) (b + 34) 31 (-1 : Int32)) (b + 34) 32 (-1 : Int32)) (b + 34) 33 (-1 : Int32)) (b + 34) 34 (-1 : Int32)) (b + 34) 35 (-1 : Int32)) (b + 34) 36 (-1 : Int32)) (b + 34) 37 (-1 : Int32)) (b + 34) 38 (-1 : Int32)) (b + 34) 39 (-1 : Int32)) (b + 34) 40 (-1 : Int32)) (b + 34) 41 (-1 : Int32)) (b + 34) 42 (-1 : Int32)) (b + 34) 43 (-1 : Int32)) (b + 34) 44 (-1 : Int32)) (b + 34) 45 (-1 : Int32)) (b + 34) 46 (-1 : Int32)) (b + 34) 47 (-1 : Int32))
theorem KE_Mo {b v : Nat} {S : rs_Shp} (h : v ≤ b) : (KS_Mo b S).2.1 v = S.2.1 v := by
  simp (disch := omega) only [KS_Mo, rs_ad_k, rs_adm_k]
theorem KF_Mo {b v : Nat} {S : rs_Shp} (h : v ≤ b) : (KS_Mo b S).2.2 v = S.2.2 v := by
  simp (disch := omega) only [KS_Mo, rs_ad_l, rs_adm_l]
theorem KO_Mo {b u j : Nat} {σ : rs_Mem} (h : u < b) : rs_R (KM_Mo b σ) u j = rs_R σ u j := by
  simp (disch := omega) only [KM_Mo, rs_Rother, rs_RI, rs_Rmul]
abbrev y_Mo_init : MethodName := ({ cls := "RouteSpeakerModel", name := "<init>", desc := "()V" } : Jvm.MethodName)
theorem rc_Mo_init : rs_Cal y_Mo_init prog_12_method_1_code 2 none 0 := ⟨tw_897, tw_11, by decide, by decide, by decide +kernel⟩
set_option maxRecDepth 100000 in
set_option maxHeartbeats 8000000 in
theorem J_Mo_init (l : Launch) {G : rs_G} {Bm b : Nat} {S : rs_Shp} {σ : rs_Mem} (eb0 : S.1 = b) (hk : rs_Ok S 11 b) :
    Met l y_Mo_init (rs_ws y_Mo_init prog_12_method_1_code 2 none) { frames := 1, cells := 38, slots := 4674, locals := 40 } (rs_PZ G Bm S σ [.ref (Bm + b)]) (rs_QZ G Bm (fun S1 σ1 => S1 = KS_Mo b S ∧ σ1 = KM_Mo b σ)) 38 4674 (rs_A Bm) := by
  refine rs_metZ (own := "RouteSpeakerModel") (by decide) rfl rfl (Nat.le_of_ble_eq_true rfl) (fun p e s m below meth c ls C hi hl hH hS => ?_)
  replace hl : lv_has ls 2 [(0, .ref (Bm + b))] := hl
  have hx := C.1
  have hb := C.2.1
  have b0 : 0 < b := hk.1
  refine lv_aload_n hx hb d_Mo_init_0 rfl (lv_at hl 0 rfl) ?_
  refine W.objInit hx hb C.2.2.2.2.1 (C.2.2.2.2.2.1 _ tw_898) (C.2.2.2.2.2.1 _ tw_26) (C.2.2.2.2.2.1 _ tw_27) rfl (by rw [C.2.2.1]; exact hl.1) rfl d_Mo_init_1 (Nat.le_of_ble_eq_true rfl) (Nat.le_of_ble_eq_true rfl) ?_
  refine W.eq (g2 := F0 m 4 ls []) rfl ?_
  refine lv_aload_n hx hb d_Mo_init_4 rfl (lv_at hl 0 rfl) ?_
  refine lv_iconst hx hb d_Mo_init_5 ki_4 ?_
  refine rs_newp C hH hS (kd := 20) (N := 4) (atype := .int) ⟨by decide, rfl⟩ tw_52 (by decide) (by decide) (by decide) (Nat.le_of_ble_eq_true rfl) (Nat.le_of_ble_eq_true rfl) d_Mo_init_6 (fun S1 vv H eS1 ev okv hH hS => ?_)
  replace eS1 : S1 = rs_ad b S 20 4 := rs_ad_of eS1 eb0
  have eb1 : S1.1 = (b + 1) := by rw [eS1]; rfl
  obtain rfl : vv = (b + 1) := rs_vv ev eb0
  clear ev
  have ln1_1 : S1.2.2 (b + 1) = 4 := by rw [eS1]; exact if_pos rfl
  have ok1_1 := okv
  clear okv
  have ok0_1 : rs_Ok S1 11 b := rs_okup (n := 0) (n' := 1) hk (by simp (disch := first | exact rs_n11 rfl | exact rs_n01 | exact Nat.le_refl _ | exact rs_m11 rfl | exact rs_m01 rfl | exact rs_q11 rfl | exact rs_q01 rfl | exact rs_q10 rfl | exact rs_q00 rfl | exact rs_p11 rfl | exact rs_p01 rfl | exact rs_p10 rfl) only [eS1, rs_ad_k, rs_adm_k]) eb0 eb1 rfl
  refine rs_putRZ C hi hH hS (kd := 11) (k := 1) (kr := 20) ok0_1 (by decide) rfl rfl rfl rfl ok1_1 tw_900 d_Mo_init_8 (fun σ1 H locs eM1 hH hS => ?_)
  have fd0_1 : rs_R σ1 b 1 = (b + 1) := by rw [eM1]; exact rs_Rsame ⟨rfl, rfl⟩
  refine lv_aload_n hx hb d_Mo_init_11 rfl (lv_at hl 0 rfl) ?_
  refine lv_iconst hx hb d_Mo_init_12 ki_4 ?_
  refine rs_newp C hH hS (kd := 20) (N := 4) (atype := .int) ⟨by decide, rfl⟩ tw_52 (by decide) (by decide) (by decide) (Nat.le_of_ble_eq_true rfl) (Nat.le_of_ble_eq_true rfl) d_Mo_init_13 (fun S2 vv H eS2 ev okv hH hS => ?_)
  replace eS2 : S2 = rs_ad (b + 1) S1 20 4 := rs_ad_of eS2 eb1
  have eb2 : S2.1 = (b + 2) := by rw [eS2]; rfl
  obtain rfl : vv = (b + 2) := rs_vv ev eb1
  clear ev
  have ln2_2 : S2.2.2 (b + 2) = 4 := by rw [eS2]; exact if_pos rfl
  have ok2_2 := okv
  clear okv
  have ok0_2 : rs_Ok S2 11 b := rs_okup (n := 1) (n' := 2) ok0_1 (by simp (disch := first | exact rs_n11 rfl | exact rs_n01 | exact Nat.le_refl _ | exact rs_m11 rfl | exact rs_m01 rfl | exact rs_q11 rfl | exact rs_q01 rfl | exact rs_q10 rfl | exact rs_q00 rfl | exact rs_p11 rfl | exact rs_p01 rfl | exact rs_p10 rfl) only [eS2, rs_ad_k, rs_adm_k]) eb1 eb2 rfl
  refine rs_putRZ C hi hH hS (kd := 11) (k := 2) (kr := 20) ok0_2 (by decide) rfl rfl rfl rfl ok2_2 tw_901 d_Mo_init_15 (fun σ2 H locs eM2 hH hS => ?_)
  have fd0_2 : rs_R σ2 b 2 = (b + 2) := by rw [eM2]; exact rs_Rsame ⟨rfl, rfl⟩
  refine lv_aload_n hx hb d_Mo_init_18 rfl (lv_at hl 0 rfl) ?_
  refine lv_iconst hx hb d_Mo_init_19 ki_4 ?_
  refine rs_newp C hH hS (kd := 20) (N := 4) (atype := .int) ⟨by decide, rfl⟩ tw_52 (by decide) (by decide) (by decide) (Nat.le_of_ble_eq_true rfl) (Nat.le_of_ble_eq_true rfl) d_Mo_init_20 (fun S3 vv H eS3 ev okv hH hS => ?_)
  replace eS3 : S3 = rs_ad (b + 2) S2 20 4 := rs_ad_of eS3 eb2
  have eb3 : S3.1 = (b + 3) := by rw [eS3]; rfl
  obtain rfl : vv = (b + 3) := rs_vv ev eb2
  clear ev
  have ln3_3 : S3.2.2 (b + 3) = 4 := by rw [eS3]; exact if_pos rfl
  have ok3_3 := okv
  clear okv
  have ok0_3 : rs_Ok S3 11 b := rs_okup (n := 2) (n' := 3) ok0_2 (by simp (disch := first | exact rs_n11 rfl | exact rs_n01 | exact Nat.le_refl _ | exact rs_m11 rfl | exact rs_m01 rfl | exact rs_q11 rfl | exact rs_q01 rfl | exact rs_q10 rfl | exact rs_q00 rfl | exact rs_p11 rfl | exact rs_p01 rfl | exact rs_p10 rfl) only [eS3, rs_ad_k, rs_adm_k]) eb2 eb3 rfl
  refine rs_putRZ C hi hH hS (kd := 11) (k := 3) (kr := 20) ok0_3 (by decide) rfl rfl rfl rfl ok3_3 tw_902 d_Mo_init_22 (fun σ3 H locs eM3 hH hS => ?_)
  have fd0_3 : rs_R σ3 b 3 = (b + 3) := by rw [eM3]; exact rs_Rsame ⟨rfl, rfl⟩
  refine lv_aload_n hx hb d_Mo_init_25 rfl (lv_at hl 0 rfl) ?_
  refine lv_iconst hx hb d_Mo_init_26 ki_4 ?_
  refine rs_newp C hH hS (kd := 20) (N := 4) (atype := .int) ⟨by decide, rfl⟩ tw_52 (by decide) (by decide) (by decide) (Nat.le_of_ble_eq_true rfl) (Nat.le_of_ble_eq_true rfl) d_Mo_init_27 (fun S4 vv H eS4 ev okv hH hS => ?_)
  replace eS4 : S4 = rs_ad (b + 3) S3 20 4 := rs_ad_of eS4 eb3
  have eb4 : S4.1 = (b + 4) := by rw [eS4]; rfl
  obtain rfl : vv = (b + 4) := rs_vv ev eb3
  clear ev
  have ln4_4 : S4.2.2 (b + 4) = 4 := by rw [eS4]; exact if_pos rfl
  have ok4_4 := okv
  clear okv
  have ok0_4 : rs_Ok S4 11 b := rs_okup (n := 3) (n' := 4) ok0_3 (by simp (disch := first | exact rs_n11 rfl | exact rs_n01 | exact Nat.le_refl _ | exact rs_m11 rfl | exact rs_m01 rfl | exact rs_q11 rfl | exact rs_q01 rfl | exact rs_q10 rfl | exact rs_q00 rfl | exact rs_p11 rfl | exact rs_p01 rfl | exact rs_p10 rfl) only [eS4, rs_ad_k, rs_adm_k]) eb3 eb4 rfl
  refine rs_putRZ C hi hH hS (kd := 11) (k := 4) (kr := 20) ok0_4 (by decide) rfl rfl rfl rfl ok4_4 tw_903 d_Mo_init_29 (fun σ4 H locs eM4 hH hS => ?_)
  have fd0_4 : rs_R σ4 b 4 = (b + 4) := by rw [eM4]; exact rs_Rsame ⟨rfl, rfl⟩
  refine lv_aload_n hx hb d_Mo_init_32 rfl (lv_at hl 0 rfl) ?_
  refine lv_iconst hx hb d_Mo_init_33 ki_4 ?_
  refine rs_newp C hH hS (kd := 20) (N := 4) (atype := .int) ⟨by decide, rfl⟩ tw_52 (by decide) (by decide) (by decide) (Nat.le_of_ble_eq_true rfl) (Nat.le_of_ble_eq_true rfl) d_Mo_init_34 (fun S5 vv H eS5 ev okv hH hS => ?_)
  replace eS5 : S5 = rs_ad (b + 4) S4 20 4 := rs_ad_of eS5 eb4
  have eb5 : S5.1 = (b + 5) := by rw [eS5]; rfl
  obtain rfl : vv = (b + 5) := rs_vv ev eb4
  clear ev
  have ln5_5 : S5.2.2 (b + 5) = 4 := by rw [eS5]; exact if_pos rfl
  have ok5_5 := okv
  clear okv
  have ok0_5 : rs_Ok S5 11 b := rs_okup (n := 4) (n' := 5) ok0_4 (by simp (disch := first | exact rs_n11 rfl | exact rs_n01 | exact Nat.le_refl _ | exact rs_m11 rfl | exact rs_m01 rfl | exact rs_q11 rfl | exact rs_q01 rfl | exact rs_q10 rfl | exact rs_q00 rfl | exact rs_p11 rfl | exact rs_p01 rfl | exact rs_p10 rfl) only [eS5, rs_ad_k, rs_adm_k]) eb4 eb5 rfl
  refine rs_putRZ C hi hH hS (kd := 11) (k := 5) (kr := 20) ok0_5 (by decide) rfl rfl rfl rfl ok5_5 tw_904 d_Mo_init_36 (fun σ5 H locs eM5 hH hS => ?_)
  have fd0_5 : rs_R σ5 b 5 = (b + 5) := by rw [eM5]; exact rs_Rsame ⟨rfl, rfl⟩
  refine lv_aload_n hx hb d_Mo_init_39 rfl (lv_at hl 0 rfl) ?_
  refine lv_iconst hx hb d_Mo_init_40 ki_4 ?_
  refine rs_newp C hH hS (kd := 20) (N := 4) (atype := .int) ⟨by decide, rfl⟩ tw_52 (by decide) (by decide) (by decide) (Nat.le_of_ble_eq_true rfl) (Nat.le_of_ble_eq_true rfl) d_Mo_init_41 (fun S6 vv H eS6 ev okv hH hS => ?_)
  replace eS6 : S6 = rs_ad (b + 5) S5 20 4 := rs_ad_of eS6 eb5
  have eb6 : S6.1 = (b + 6) := by rw [eS6]; rfl
  obtain rfl : vv = (b + 6) := rs_vv ev eb5
  clear ev
  have ln6_6 : S6.2.2 (b + 6) = 4 := by rw [eS6]; exact if_pos rfl
  have ok6_6 := okv
  clear okv
  have ok0_6 : rs_Ok S6 11 b := rs_okup (n := 5) (n' := 6) ok0_5 (by simp (disch := first | exact rs_n11 rfl | exact rs_n01 | exact Nat.le_refl _ | exact rs_m11 rfl | exact rs_m01 rfl | exact rs_q11 rfl | exact rs_q01 rfl | exact rs_q10 rfl | exact rs_q00 rfl | exact rs_p11 rfl | exact rs_p01 rfl | exact rs_p10 rfl) only [eS6, rs_ad_k, rs_adm_k]) eb5 eb6 rfl
  refine rs_putRZ C hi hH hS (kd := 11) (k := 6) (kr := 20) ok0_6 (by decide) rfl rfl rfl rfl ok6_6 tw_905 d_Mo_init_43 (fun σ6 H locs eM6 hH hS => ?_)
  have fd0_6 : rs_R σ6 b 6 = (b + 6) := by rw [eM6]; exact rs_Rsame ⟨rfl, rfl⟩
  refine lv_aload_n hx hb d_Mo_init_46 rfl (lv_at hl 0 rfl) ?_
  refine lv_iconst hx hb d_Mo_init_47 ki_4 ?_
  refine rs_newp C hH hS (kd := 20) (N := 4) (atype := .int) ⟨by decide, rfl⟩ tw_52 (by decide) (by decide) (by decide) (Nat.le_of_ble_eq_true rfl) (Nat.le_of_ble_eq_true rfl) d_Mo_init_48 (fun S7 vv H eS7 ev okv hH hS => ?_)
  replace eS7 : S7 = rs_ad (b + 6) S6 20 4 := rs_ad_of eS7 eb6
  have eb7 : S7.1 = (b + 7) := by rw [eS7]; rfl
  obtain rfl : vv = (b + 7) := rs_vv ev eb6
  clear ev
  have ln7_7 : S7.2.2 (b + 7) = 4 := by rw [eS7]; exact if_pos rfl
  have ok7_7 := okv
  clear okv
  have ok0_7 : rs_Ok S7 11 b := rs_okup (n := 6) (n' := 7) ok0_6 (by simp (disch := first | exact rs_n11 rfl | exact rs_n01 | exact Nat.le_refl _ | exact rs_m11 rfl | exact rs_m01 rfl | exact rs_q11 rfl | exact rs_q01 rfl | exact rs_q10 rfl | exact rs_q00 rfl | exact rs_p11 rfl | exact rs_p01 rfl | exact rs_p10 rfl) only [eS7, rs_ad_k, rs_adm_k]) eb6 eb7 rfl
  refine rs_putRZ C hi hH hS (kd := 11) (k := 7) (kr := 20) ok0_7 (by decide) rfl rfl rfl rfl ok7_7 tw_906 d_Mo_init_50 (fun σ7 H locs eM7 hH hS => ?_)
  have fd0_7 : rs_R σ7 b 7 = (b + 7) := by rw [eM7]; exact rs_Rsame ⟨rfl, rfl⟩
  refine lv_aload_n hx hb d_Mo_init_53 rfl (lv_at hl 0 rfl) ?_
  refine lv_iconst hx hb d_Mo_init_54 ki_4 ?_
  refine rs_newp C hH hS (kd := 20) (N := 4) (atype := .int) ⟨by decide, rfl⟩ tw_52 (by decide) (by decide) (by decide) (Nat.le_of_ble_eq_true rfl) (Nat.le_of_ble_eq_true rfl) d_Mo_init_55 (fun S8 vv H eS8 ev okv hH hS => ?_)
  replace eS8 : S8 = rs_ad (b + 7) S7 20 4 := rs_ad_of eS8 eb7
  have eb8 : S8.1 = (b + 8) := by rw [eS8]; rfl
  obtain rfl : vv = (b + 8) := rs_vv ev eb7
  clear ev
  have ln8_8 : S8.2.2 (b + 8) = 4 := by rw [eS8]; exact if_pos rfl
  have ok8_8 := okv
  clear okv
  have ok0_8 : rs_Ok S8 11 b := rs_okup (n := 7) (n' := 8) ok0_7 (by simp (disch := first | exact rs_n11 rfl | exact rs_n01 | exact Nat.le_refl _ | exact rs_m11 rfl | exact rs_m01 rfl | exact rs_q11 rfl | exact rs_q01 rfl | exact rs_q10 rfl | exact rs_q00 rfl | exact rs_p11 rfl | exact rs_p01 rfl | exact rs_p10 rfl) only [eS8, rs_ad_k, rs_adm_k]) eb7 eb8 rfl
  refine rs_putRZ C hi hH hS (kd := 11) (k := 8) (kr := 20) ok0_8 (by decide) rfl rfl rfl rfl ok8_8 tw_907 d_Mo_init_57 (fun σ8 H locs eM8 hH hS => ?_)
  have fd0_8 : rs_R σ8 b 8 = (b + 8) := by rw [eM8]; exact rs_Rsame ⟨rfl, rfl⟩
  refine lv_aload_n hx hb d_Mo_init_60 rfl (lv_at hl 0 rfl) ?_
  refine lv_iconst hx hb d_Mo_init_61 ki_4 ?_
  refine rs_newp C hH hS (kd := 20) (N := 4) (atype := .int) ⟨by decide, rfl⟩ tw_52 (by decide) (by decide) (by decide) (Nat.le_of_ble_eq_true rfl) (Nat.le_of_ble_eq_true rfl) d_Mo_init_62 (fun S9 vv H eS9 ev okv hH hS => ?_)
  replace eS9 : S9 = rs_ad (b + 8) S8 20 4 := rs_ad_of eS9 eb8
  have eb9 : S9.1 = (b + 9) := by rw [eS9]; rfl
  obtain rfl : vv = (b + 9) := rs_vv ev eb8
  clear ev
  have ln9_9 : S9.2.2 (b + 9) = 4 := by rw [eS9]; exact if_pos rfl
  have ok9_9 := okv
  clear okv
  have ok0_9 : rs_Ok S9 11 b := rs_okup (n := 8) (n' := 9) ok0_8 (by simp (disch := first | exact rs_n11 rfl | exact rs_n01 | exact Nat.le_refl _ | exact rs_m11 rfl | exact rs_m01 rfl | exact rs_q11 rfl | exact rs_q01 rfl | exact rs_q10 rfl | exact rs_q00 rfl | exact rs_p11 rfl | exact rs_p01 rfl | exact rs_p10 rfl) only [eS9, rs_ad_k, rs_adm_k]) eb8 eb9 rfl
  refine rs_putRZ C hi hH hS (kd := 11) (k := 9) (kr := 20) ok0_9 (by decide) rfl rfl rfl rfl ok9_9 tw_908 d_Mo_init_64 (fun σ9 H locs eM9 hH hS => ?_)
  have fd0_9 : rs_R σ9 b 9 = (b + 9) := by rw [eM9]; exact rs_Rsame ⟨rfl, rfl⟩
  refine lv_aload_n hx hb d_Mo_init_67 rfl (lv_at hl 0 rfl) ?_
  refine lv_iconst hx hb d_Mo_init_68 ki_4 ?_
  refine rs_newp C hH hS (kd := 20) (N := 4) (atype := .int) ⟨by decide, rfl⟩ tw_52 (by decide) (by decide) (by decide) (Nat.le_of_ble_eq_true rfl) (Nat.le_of_ble_eq_true rfl) d_Mo_init_69 (fun S10 vv H eS10 ev okv hH hS => ?_)
  replace eS10 : S10 = rs_ad (b + 9) S9 20 4 := rs_ad_of eS10 eb9
  have eb10 : S10.1 = (b + 10) := by rw [eS10]; rfl
  obtain rfl : vv = (b + 10) := rs_vv ev eb9
  clear ev
  have ln10_10 : S10.2.2 (b + 10) = 4 := by rw [eS10]; exact if_pos rfl
  have ok10_10 := okv
  clear okv
  have ok0_10 : rs_Ok S10 11 b := rs_okup (n := 9) (n' := 10) ok0_9 (by simp (disch := first | exact rs_n11 rfl | exact rs_n01 | exact Nat.le_refl _ | exact rs_m11 rfl | exact rs_m01 rfl | exact rs_q11 rfl | exact rs_q01 rfl | exact rs_q10 rfl | exact rs_q00 rfl | exact rs_p11 rfl | exact rs_p01 rfl | exact rs_p10 rfl) only [eS10, rs_ad_k, rs_adm_k]) eb9 eb10 rfl
  refine rs_putRZ C hi hH hS (kd := 11) (k := 10) (kr := 20) ok0_10 (by decide) rfl rfl rfl rfl ok10_10 tw_909 d_Mo_init_71 (fun σ10 H locs eM10 hH hS => ?_)
  have fd0_10 : rs_R σ10 b 10 = (b + 10) := by rw [eM10]; exact rs_Rsame ⟨rfl, rfl⟩
  refine lv_aload_n hx hb d_Mo_init_74 rfl (lv_at hl 0 rfl) ?_
  refine lv_iconst hx hb d_Mo_init_75 ki_4 ?_
  refine rs_newp C hH hS (kd := 20) (N := 4) (atype := .int) ⟨by decide, rfl⟩ tw_52 (by decide) (by decide) (by decide) (Nat.le_of_ble_eq_true rfl) (Nat.le_of_ble_eq_true rfl) d_Mo_init_76 (fun S11 vv H eS11 ev okv hH hS => ?_)
  replace eS11 : S11 = rs_ad (b + 10) S10 20 4 := rs_ad_of eS11 eb10
  have eb11 : S11.1 = (b + 11) := by rw [eS11]; rfl
  obtain rfl : vv = (b + 11) := rs_vv ev eb10
  clear ev
  have ln11_11 : S11.2.2 (b + 11) = 4 := by rw [eS11]; exact if_pos rfl
  have ok11_11 := okv
  clear okv
  have ok0_11 : rs_Ok S11 11 b := rs_okup (n := 10) (n' := 11) ok0_10 (by simp (disch := first | exact rs_n11 rfl | exact rs_n01 | exact Nat.le_refl _ | exact rs_m11 rfl | exact rs_m01 rfl | exact rs_q11 rfl | exact rs_q01 rfl | exact rs_q10 rfl | exact rs_q00 rfl | exact rs_p11 rfl | exact rs_p01 rfl | exact rs_p10 rfl) only [eS11, rs_ad_k, rs_adm_k]) eb10 eb11 rfl
  refine rs_putRZ C hi hH hS (kd := 11) (k := 11) (kr := 20) ok0_11 (by decide) rfl rfl rfl rfl ok11_11 tw_910 d_Mo_init_78 (fun σ11 H locs eM11 hH hS => ?_)
  have fd0_11 : rs_R σ11 b 11 = (b + 11) := by rw [eM11]; exact rs_Rsame ⟨rfl, rfl⟩
  refine lv_aload_n hx hb d_Mo_init_81 rfl (lv_at hl 0 rfl) ?_
  refine lv_bipush hx hb d_Mo_init_82 kb_12 ?_
  refine rs_newp C hH hS (kd := 20) (N := 12) (atype := .int) ⟨by decide, rfl⟩ tw_52 (by decide) (by decide) (by decide) (Nat.le_of_ble_eq_true rfl) (Nat.le_of_ble_eq_true rfl) d_Mo_init_84 (fun S12 vv H eS12 ev okv hH hS => ?_)
  replace eS12 : S12 = rs_ad (b + 11) S11 20 12 := rs_ad_of eS12 eb11
  have eb12 : S12.1 = (b + 12) := by rw [eS12]; rfl
  obtain rfl : vv = (b + 12) := rs_vv ev eb11
  clear ev
  have ln12_12 : S12.2.2 (b + 12) = 12 := by rw [eS12]; exact if_pos rfl
  have ok12_12 := okv
  clear okv
  have ok0_12 : rs_Ok S12 11 b := rs_okup (n := 11) (n' := 12) ok0_11 (by simp (disch := first | exact rs_n11 rfl | exact rs_n01 | exact Nat.le_refl _ | exact rs_m11 rfl | exact rs_m01 rfl | exact rs_q11 rfl | exact rs_q01 rfl | exact rs_q10 rfl | exact rs_q00 rfl | exact rs_p11 rfl | exact rs_p01 rfl | exact rs_p10 rfl) only [eS12, rs_ad_k, rs_adm_k]) eb11 eb12 rfl
  refine rs_putRZ C hi hH hS (kd := 11) (k := 12) (kr := 20) ok0_12 (by decide) rfl rfl rfl rfl ok12_12 tw_911 d_Mo_init_86 (fun σ12 H locs eM12 hH hS => ?_)
  have fd0_12 : rs_R σ12 b 12 = (b + 12) := by rw [eM12]; exact rs_Rsame ⟨rfl, rfl⟩
  refine lv_aload_n hx hb d_Mo_init_89 rfl (lv_at hl 0 rfl) ?_
  refine lv_bipush hx hb d_Mo_init_90 kb_12 ?_
  refine rs_newp C hH hS (kd := 20) (N := 12) (atype := .int) ⟨by decide, rfl⟩ tw_52 (by decide) (by decide) (by decide) (Nat.le_of_ble_eq_true rfl) (Nat.le_of_ble_eq_true rfl) d_Mo_init_92 (fun S13 vv H eS13 ev okv hH hS => ?_)
  replace eS13 : S13 = rs_ad (b + 12) S12 20 12 := rs_ad_of eS13 eb12
  have eb13 : S13.1 = (b + 13) := by rw [eS13]; rfl
  obtain rfl : vv = (b + 13) := rs_vv ev eb12
  clear ev
  have ln13_13 : S13.2.2 (b + 13) = 12 := by rw [eS13]; exact if_pos rfl
  have ok13_13 := okv
  clear okv
  have ok0_13 : rs_Ok S13 11 b := rs_okup (n := 12) (n' := 13) ok0_12 (by simp (disch := first | exact rs_n11 rfl | exact rs_n01 | exact Nat.le_refl _ | exact rs_m11 rfl | exact rs_m01 rfl | exact rs_q11 rfl | exact rs_q01 rfl | exact rs_q10 rfl | exact rs_q00 rfl | exact rs_p11 rfl | exact rs_p01 rfl | exact rs_p10 rfl) only [eS13, rs_ad_k, rs_adm_k]) eb12 eb13 rfl
  refine rs_putRZ C hi hH hS (kd := 11) (k := 13) (kr := 20) ok0_13 (by decide) rfl rfl rfl rfl ok13_13 tw_912 d_Mo_init_94 (fun σ13 H locs eM13 hH hS => ?_)
  have fd0_13 : rs_R σ13 b 13 = (b + 13) := by rw [eM13]; exact rs_Rsame ⟨rfl, rfl⟩
  refine lv_aload_n hx hb d_Mo_init_97 rfl (lv_at hl 0 rfl) ?_
  refine lv_bipush hx hb d_Mo_init_98 kb_12 ?_
  refine rs_newp C hH hS (kd := 20) (N := 12) (atype := .int) ⟨by decide, rfl⟩ tw_52 (by decide) (by decide) (by decide) (Nat.le_of_ble_eq_true rfl) (Nat.le_of_ble_eq_true rfl) d_Mo_init_100 (fun S14 vv H eS14 ev okv hH hS => ?_)
  replace eS14 : S14 = rs_ad (b + 13) S13 20 12 := rs_ad_of eS14 eb13
  have eb14 : S14.1 = (b + 14) := by rw [eS14]; rfl
  obtain rfl : vv = (b + 14) := rs_vv ev eb13
  clear ev
  have ln14_14 : S14.2.2 (b + 14) = 12 := by rw [eS14]; exact if_pos rfl
  have ok14_14 := okv
  clear okv
  have ok0_14 : rs_Ok S14 11 b := rs_okup (n := 13) (n' := 14) ok0_13 (by simp (disch := first | exact rs_n11 rfl | exact rs_n01 | exact Nat.le_refl _ | exact rs_m11 rfl | exact rs_m01 rfl | exact rs_q11 rfl | exact rs_q01 rfl | exact rs_q10 rfl | exact rs_q00 rfl | exact rs_p11 rfl | exact rs_p01 rfl | exact rs_p10 rfl) only [eS14, rs_ad_k, rs_adm_k]) eb13 eb14 rfl
  refine rs_putRZ C hi hH hS (kd := 11) (k := 14) (kr := 20) ok0_14 (by decide) rfl rfl rfl rfl ok14_14 tw_913 d_Mo_init_102 (fun σ14 H locs eM14 hH hS => ?_)
  have fd0_14 : rs_R σ14 b 14 = (b + 14) := by rw [eM14]; exact rs_Rsame ⟨rfl, rfl⟩
  refine lv_aload_n hx hb d_Mo_init_105 rfl (lv_at hl 0 rfl) ?_
  refine lv_sipush hx hb d_Mo_init_106 ks_240 ?_
  refine rs_newp C hH hS (kd := 20) (N := 240) (atype := .int) ⟨by decide, rfl⟩ tw_52 (by decide) (by decide) (by decide) (Nat.le_of_ble_eq_true rfl) (Nat.le_of_ble_eq_true rfl) d_Mo_init_109 (fun S15 vv H eS15 ev okv hH hS => ?_)
  replace eS15 : S15 = rs_ad (b + 14) S14 20 240 := rs_ad_of eS15 eb14
  have eb15 : S15.1 = (b + 15) := by rw [eS15]; rfl
  obtain rfl : vv = (b + 15) := rs_vv ev eb14
  clear ev
  have ln15_15 : S15.2.2 (b + 15) = 240 := by rw [eS15]; exact if_pos rfl
  have ok15_15 := okv
  clear okv
  have ok0_15 : rs_Ok S15 11 b := rs_okup (n := 14) (n' := 15) ok0_14 (by simp (disch := first | exact rs_n11 rfl | exact rs_n01 | exact Nat.le_refl _ | exact rs_m11 rfl | exact rs_m01 rfl | exact rs_q11 rfl | exact rs_q01 rfl | exact rs_q10 rfl | exact rs_q00 rfl | exact rs_p11 rfl | exact rs_p01 rfl | exact rs_p10 rfl) only [eS15, rs_ad_k, rs_adm_k]) eb14 eb15 rfl
  refine rs_putRZ C hi hH hS (kd := 11) (k := 15) (kr := 20) ok0_15 (by decide) rfl rfl rfl rfl ok15_15 tw_914 d_Mo_init_111 (fun σ15 H locs eM15 hH hS => ?_)
  have fd0_15 : rs_R σ15 b 15 = (b + 15) := by rw [eM15]; exact rs_Rsame ⟨rfl, rfl⟩
  refine lv_aload_n hx hb d_Mo_init_114 rfl (lv_at hl 0 rfl) ?_
  refine lv_iconst hx hb d_Mo_init_115 ki_4 ?_
  refine rs_newp C hH hS (kd := 20) (N := 4) (atype := .int) ⟨by decide, rfl⟩ tw_52 (by decide) (by decide) (by decide) (Nat.le_of_ble_eq_true rfl) (Nat.le_of_ble_eq_true rfl) d_Mo_init_116 (fun S16 vv H eS16 ev okv hH hS => ?_)
  replace eS16 : S16 = rs_ad (b + 15) S15 20 4 := rs_ad_of eS16 eb15
  have eb16 : S16.1 = (b + 16) := by rw [eS16]; rfl
  obtain rfl : vv = (b + 16) := rs_vv ev eb15
  clear ev
  have ln16_16 : S16.2.2 (b + 16) = 4 := by rw [eS16]; exact if_pos rfl
  have ok16_16 := okv
  clear okv
  have ok0_16 : rs_Ok S16 11 b := rs_okup (n := 15) (n' := 16) ok0_15 (by simp (disch := first | exact rs_n11 rfl | exact rs_n01 | exact Nat.le_refl _ | exact rs_m11 rfl | exact rs_m01 rfl | exact rs_q11 rfl | exact rs_q01 rfl | exact rs_q10 rfl | exact rs_q00 rfl | exact rs_p11 rfl | exact rs_p01 rfl | exact rs_p10 rfl) only [eS16, rs_ad_k, rs_adm_k]) eb15 eb16 rfl
  refine rs_putRZ C hi hH hS (kd := 11) (k := 16) (kr := 20) ok0_16 (by decide) rfl rfl rfl rfl ok16_16 tw_915 d_Mo_init_118 (fun σ16 H locs eM16 hH hS => ?_)
  have fd0_16 : rs_R σ16 b 16 = (b + 16) := by rw [eM16]; exact rs_Rsame ⟨rfl, rfl⟩
  refine lv_aload_n hx hb d_Mo_init_121 rfl (lv_at hl 0 rfl) ?_
  refine lv_sipush hx hb d_Mo_init_122 ks_800 ?_
  refine rs_newp C hH hS (kd := 20) (N := 800) (atype := .int) ⟨by decide, rfl⟩ tw_52 (by decide) (by decide) (by decide) (Nat.le_of_ble_eq_true rfl) (Nat.le_of_ble_eq_true rfl) d_Mo_init_125 (fun S17 vv H eS17 ev okv hH hS => ?_)
  replace eS17 : S17 = rs_ad (b + 16) S16 20 800 := rs_ad_of eS17 eb16
  have eb17 : S17.1 = (b + 17) := by rw [eS17]; rfl
  obtain rfl : vv = (b + 17) := rs_vv ev eb16
  clear ev
  have ln17_17 : S17.2.2 (b + 17) = 800 := by rw [eS17]; exact if_pos rfl
  have ok17_17 := okv
  clear okv
  have ok0_17 : rs_Ok S17 11 b := rs_okup (n := 16) (n' := 17) ok0_16 (by simp (disch := first | exact rs_n11 rfl | exact rs_n01 | exact Nat.le_refl _ | exact rs_m11 rfl | exact rs_m01 rfl | exact rs_q11 rfl | exact rs_q01 rfl | exact rs_q10 rfl | exact rs_q00 rfl | exact rs_p11 rfl | exact rs_p01 rfl | exact rs_p10 rfl) only [eS17, rs_ad_k, rs_adm_k]) eb16 eb17 rfl
  refine rs_putRZ C hi hH hS (kd := 11) (k := 17) (kr := 20) ok0_17 (by decide) rfl rfl rfl rfl ok17_17 tw_916 d_Mo_init_127 (fun σ17 H locs eM17 hH hS => ?_)
  have fd0_17 : rs_R σ17 b 17 = (b + 17) := by rw [eM17]; exact rs_Rsame ⟨rfl, rfl⟩
  refine lv_aload_n hx hb d_Mo_init_130 rfl (lv_at hl 0 rfl) ?_
  refine lv_iconst hx hb d_Mo_init_131 ki_4 ?_
  refine rs_newp C hH hS (kd := 20) (N := 4) (atype := .int) ⟨by decide, rfl⟩ tw_52 (by decide) (by decide) (by decide) (Nat.le_of_ble_eq_true rfl) (Nat.le_of_ble_eq_true rfl) d_Mo_init_132 (fun S18 vv H eS18 ev okv hH hS => ?_)
  replace eS18 : S18 = rs_ad (b + 17) S17 20 4 := rs_ad_of eS18 eb17
  have eb18 : S18.1 = (b + 18) := by rw [eS18]; rfl
  obtain rfl : vv = (b + 18) := rs_vv ev eb17
  clear ev
  have ln18_18 : S18.2.2 (b + 18) = 4 := by rw [eS18]; exact if_pos rfl
  have ok18_18 := okv
  clear okv
  have ok0_18 : rs_Ok S18 11 b := rs_okup (n := 17) (n' := 18) ok0_17 (by simp (disch := first | exact rs_n11 rfl | exact rs_n01 | exact Nat.le_refl _ | exact rs_m11 rfl | exact rs_m01 rfl | exact rs_q11 rfl | exact rs_q01 rfl | exact rs_q10 rfl | exact rs_q00 rfl | exact rs_p11 rfl | exact rs_p01 rfl | exact rs_p10 rfl) only [eS18, rs_ad_k, rs_adm_k]) eb17 eb18 rfl
  refine rs_putRZ C hi hH hS (kd := 11) (k := 18) (kr := 20) ok0_18 (by decide) rfl rfl rfl rfl ok18_18 tw_917 d_Mo_init_134 (fun σ18 H locs eM18 hH hS => ?_)
  have fd0_18 : rs_R σ18 b 18 = (b + 18) := by rw [eM18]; exact rs_Rsame ⟨rfl, rfl⟩
  refine lv_aload_n hx hb d_Mo_init_137 rfl (lv_at hl 0 rfl) ?_
  refine lv_bipush hx hb d_Mo_init_138 kb_60 ?_
  refine rs_newp C hH hS (kd := 20) (N := 60) (atype := .int) ⟨by decide, rfl⟩ tw_52 (by decide) (by decide) (by decide) (Nat.le_of_ble_eq_true rfl) (Nat.le_of_ble_eq_true rfl) d_Mo_init_140 (fun S19 vv H eS19 ev okv hH hS => ?_)
  replace eS19 : S19 = rs_ad (b + 18) S18 20 60 := rs_ad_of eS19 eb18
  have eb19 : S19.1 = (b + 19) := by rw [eS19]; rfl
  obtain rfl : vv = (b + 19) := rs_vv ev eb18
  clear ev
  have ln19_19 : S19.2.2 (b + 19) = 60 := by rw [eS19]; exact if_pos rfl
  have ok19_19 := okv
  clear okv
  have ok0_19 : rs_Ok S19 11 b := rs_okup (n := 18) (n' := 19) ok0_18 (by simp (disch := first | exact rs_n11 rfl | exact rs_n01 | exact Nat.le_refl _ | exact rs_m11 rfl | exact rs_m01 rfl | exact rs_q11 rfl | exact rs_q01 rfl | exact rs_q10 rfl | exact rs_q00 rfl | exact rs_p11 rfl | exact rs_p01 rfl | exact rs_p10 rfl) only [eS19, rs_ad_k, rs_adm_k]) eb18 eb19 rfl
  refine rs_putRZ C hi hH hS (kd := 11) (k := 19) (kr := 20) ok0_19 (by decide) rfl rfl rfl rfl ok19_19 tw_918 d_Mo_init_142 (fun σ19 H locs eM19 hH hS => ?_)
  have fd0_19 : rs_R σ19 b 19 = (b + 19) := by rw [eM19]; exact rs_Rsame ⟨rfl, rfl⟩
  refine lv_aload_n hx hb d_Mo_init_145 rfl (lv_at hl 0 rfl) ?_
  refine lv_bipush hx hb d_Mo_init_146 kb_12 ?_
  refine rs_newp C hH hS (kd := 20) (N := 12) (atype := .int) ⟨by decide, rfl⟩ tw_52 (by decide) (by decide) (by decide) (Nat.le_of_ble_eq_true rfl) (Nat.le_of_ble_eq_true rfl) d_Mo_init_148 (fun S20 vv H eS20 ev okv hH hS => ?_)
  replace eS20 : S20 = rs_ad (b + 19) S19 20 12 := rs_ad_of eS20 eb19
  have eb20 : S20.1 = (b + 20) := by rw [eS20]; rfl
  obtain rfl : vv = (b + 20) := rs_vv ev eb19
  clear ev
  have ln20_20 : S20.2.2 (b + 20) = 12 := by rw [eS20]; exact if_pos rfl
  have ok20_20 := okv
  clear okv
  have ok0_20 : rs_Ok S20 11 b := rs_okup (n := 19) (n' := 20) ok0_19 (by simp (disch := first | exact rs_n11 rfl | exact rs_n01 | exact Nat.le_refl _ | exact rs_m11 rfl | exact rs_m01 rfl | exact rs_q11 rfl | exact rs_q01 rfl | exact rs_q10 rfl | exact rs_q00 rfl | exact rs_p11 rfl | exact rs_p01 rfl | exact rs_p10 rfl) only [eS20, rs_ad_k, rs_adm_k]) eb19 eb20 rfl
  refine rs_putRZ C hi hH hS (kd := 11) (k := 22) (kr := 20) ok0_20 (by decide) rfl rfl rfl rfl ok20_20 tw_921 d_Mo_init_150 (fun σ20 H locs eM20 hH hS => ?_)
  have fd0_22 : rs_R σ20 b 22 = (b + 20) := by rw [eM20]; exact rs_Rsame ⟨rfl, rfl⟩
  refine lv_aload_n hx hb d_Mo_init_153 rfl (lv_at hl 0 rfl) ?_
  refine lv_bipush hx hb d_Mo_init_154 kb_12 ?_
  refine rs_newp C hH hS (kd := 20) (N := 12) (atype := .int) ⟨by decide, rfl⟩ tw_52 (by decide) (by decide) (by decide) (Nat.le_of_ble_eq_true rfl) (Nat.le_of_ble_eq_true rfl) d_Mo_init_156 (fun S21 vv H eS21 ev okv hH hS => ?_)
  replace eS21 : S21 = rs_ad (b + 20) S20 20 12 := rs_ad_of eS21 eb20
  have eb21 : S21.1 = (b + 21) := by rw [eS21]; rfl
  obtain rfl : vv = (b + 21) := rs_vv ev eb20
  clear ev
  have ln21_21 : S21.2.2 (b + 21) = 12 := by rw [eS21]; exact if_pos rfl
  have ok21_21 := okv
  clear okv
  have ok0_21 : rs_Ok S21 11 b := rs_okup (n := 20) (n' := 21) ok0_20 (by simp (disch := first | exact rs_n11 rfl | exact rs_n01 | exact Nat.le_refl _ | exact rs_m11 rfl | exact rs_m01 rfl | exact rs_q11 rfl | exact rs_q01 rfl | exact rs_q10 rfl | exact rs_q00 rfl | exact rs_p11 rfl | exact rs_p01 rfl | exact rs_p10 rfl) only [eS21, rs_ad_k, rs_adm_k]) eb20 eb21 rfl
  refine rs_putRZ C hi hH hS (kd := 11) (k := 23) (kr := 20) ok0_21 (by decide) rfl rfl rfl rfl ok21_21 tw_922 d_Mo_init_158 (fun σ21 H locs eM21 hH hS => ?_)
  have fd0_23 : rs_R σ21 b 23 = (b + 21) := by rw [eM21]; exact rs_Rsame ⟨rfl, rfl⟩
  refine lv_aload_n hx hb d_Mo_init_161 rfl (lv_at hl 0 rfl) ?_
  refine lv_bipush hx hb d_Mo_init_162 kb_61 ?_
  refine rs_newp C hH hS (kd := 21) (N := 61) (atype := .boolean) ⟨by decide, rfl⟩ tw_53 (by decide) (by decide) (by decide) (Nat.le_of_ble_eq_true rfl) (Nat.le_of_ble_eq_true rfl) d_Mo_init_164 (fun S22 vv H eS22 ev okv hH hS => ?_)
  replace eS22 : S22 = rs_ad (b + 21) S21 21 61 := rs_ad_of eS22 eb21
  have eb22 : S22.1 = (b + 22) := by rw [eS22]; rfl
  obtain rfl : vv = (b + 22) := rs_vv ev eb21
  clear ev
  have ln22_22 : S22.2.2 (b + 22) = 61 := by rw [eS22]; exact if_pos rfl
  have ok22_22 := okv
  clear okv
  have ok0_22 : rs_Ok S22 11 b := rs_okup (n := 21) (n' := 22) ok0_21 (by simp (disch := first | exact rs_n11 rfl | exact rs_n01 | exact Nat.le_refl _ | exact rs_m11 rfl | exact rs_m01 rfl | exact rs_q11 rfl | exact rs_q01 rfl | exact rs_q10 rfl | exact rs_q00 rfl | exact rs_p11 rfl | exact rs_p01 rfl | exact rs_p10 rfl) only [eS22, rs_ad_k, rs_adm_k]) eb21 eb22 rfl
  refine rs_putRZ C hi hH hS (kd := 11) (k := 24) (kr := 21) ok0_22 (by decide) rfl rfl rfl rfl ok22_22 tw_923 d_Mo_init_166 (fun σ22 H locs eM22 hH hS => ?_)
  have fd0_24 : rs_R σ22 b 24 = (b + 22) := by rw [eM22]; exact rs_Rsame ⟨rfl, rfl⟩
  refine lv_aload_n hx hb d_Mo_init_169 rfl (lv_at hl 0 rfl) ?_
  refine lv_bipush hx hb d_Mo_init_170 kb_61 ?_
  refine rs_newp C hH hS (kd := 20) (N := 61) (atype := .int) ⟨by decide, rfl⟩ tw_52 (by decide) (by decide) (by decide) (Nat.le_of_ble_eq_true rfl) (Nat.le_of_ble_eq_true rfl) d_Mo_init_172 (fun S23 vv H eS23 ev okv hH hS => ?_)
  replace eS23 : S23 = rs_ad (b + 22) S22 20 61 := rs_ad_of eS23 eb22
  have eb23 : S23.1 = (b + 23) := by rw [eS23]; rfl
  obtain rfl : vv = (b + 23) := rs_vv ev eb22
  clear ev
  have ln23_23 : S23.2.2 (b + 23) = 61 := by rw [eS23]; exact if_pos rfl
  have ok23_23 := okv
  clear okv
  have ok0_23 : rs_Ok S23 11 b := rs_okup (n := 22) (n' := 23) ok0_22 (by simp (disch := first | exact rs_n11 rfl | exact rs_n01 | exact Nat.le_refl _ | exact rs_m11 rfl | exact rs_m01 rfl | exact rs_q11 rfl | exact rs_q01 rfl | exact rs_q10 rfl | exact rs_q00 rfl | exact rs_p11 rfl | exact rs_p01 rfl | exact rs_p10 rfl) only [eS23, rs_ad_k, rs_adm_k]) eb22 eb23 rfl
  refine rs_putRZ C hi hH hS (kd := 11) (k := 25) (kr := 20) ok0_23 (by decide) rfl rfl rfl rfl ok23_23 tw_924 d_Mo_init_174 (fun σ23 H locs eM23 hH hS => ?_)
  have fd0_25 : rs_R σ23 b 25 = (b + 23) := by rw [eM23]; exact rs_Rsame ⟨rfl, rfl⟩
  refine lv_aload_n hx hb d_Mo_init_177 rfl (lv_at hl 0 rfl) ?_
  refine lv_bipush hx hb d_Mo_init_178 kb_61 ?_
  refine rs_newp C hH hS (kd := 20) (N := 61) (atype := .int) ⟨by decide, rfl⟩ tw_52 (by decide) (by decide) (by decide) (Nat.le_of_ble_eq_true rfl) (Nat.le_of_ble_eq_true rfl) d_Mo_init_180 (fun S24 vv H eS24 ev okv hH hS => ?_)
  replace eS24 : S24 = rs_ad (b + 23) S23 20 61 := rs_ad_of eS24 eb23
  have eb24 : S24.1 = (b + 24) := by rw [eS24]; rfl
  obtain rfl : vv = (b + 24) := rs_vv ev eb23
  clear ev
  have ln24_24 : S24.2.2 (b + 24) = 61 := by rw [eS24]; exact if_pos rfl
  have ok24_24 := okv
  clear okv
  have ok0_24 : rs_Ok S24 11 b := rs_okup (n := 23) (n' := 24) ok0_23 (by simp (disch := first | exact rs_n11 rfl | exact rs_n01 | exact Nat.le_refl _ | exact rs_m11 rfl | exact rs_m01 rfl | exact rs_q11 rfl | exact rs_q01 rfl | exact rs_q10 rfl | exact rs_q00 rfl | exact rs_p11 rfl | exact rs_p01 rfl | exact rs_p10 rfl) only [eS24, rs_ad_k, rs_adm_k]) eb23 eb24 rfl
  refine rs_putRZ C hi hH hS (kd := 11) (k := 26) (kr := 20) ok0_24 (by decide) rfl rfl rfl rfl ok24_24 tw_925 d_Mo_init_182 (fun σ24 H locs eM24 hH hS => ?_)
  have fd0_26 : rs_R σ24 b 26 = (b + 24) := by rw [eM24]; exact rs_Rsame ⟨rfl, rfl⟩
  refine lv_aload_n hx hb d_Mo_init_185 rfl (lv_at hl 0 rfl) ?_
  refine lv_sipush hx hb d_Mo_init_186 ks_488 ?_
  refine rs_newp C hH hS (kd := 20) (N := 488) (atype := .int) ⟨by decide, rfl⟩ tw_52 (by decide) (by decide) (by decide) (Nat.le_of_ble_eq_true rfl) (Nat.le_of_ble_eq_true rfl) d_Mo_init_189 (fun S25 vv H eS25 ev okv hH hS => ?_)
  replace eS25 : S25 = rs_ad (b + 24) S24 20 488 := rs_ad_of eS25 eb24
  have eb25 : S25.1 = (b + 25) := by rw [eS25]; rfl
  obtain rfl : vv = (b + 25) := rs_vv ev eb24
  clear ev
  have ln25_25 : S25.2.2 (b + 25) = 488 := by rw [eS25]; exact if_pos rfl
  have ok25_25 := okv
  clear okv
  have ok0_25 : rs_Ok S25 11 b := rs_okup (n := 24) (n' := 25) ok0_24 (by simp (disch := first | exact rs_n11 rfl | exact rs_n01 | exact Nat.le_refl _ | exact rs_m11 rfl | exact rs_m01 rfl | exact rs_q11 rfl | exact rs_q01 rfl | exact rs_q10 rfl | exact rs_q00 rfl | exact rs_p11 rfl | exact rs_p01 rfl | exact rs_p10 rfl) only [eS25, rs_ad_k, rs_adm_k]) eb24 eb25 rfl
  refine rs_putRZ C hi hH hS (kd := 11) (k := 27) (kr := 20) ok0_25 (by decide) rfl rfl rfl rfl ok25_25 tw_926 d_Mo_init_191 (fun σ25 H locs eM25 hH hS => ?_)
  have fd0_27 : rs_R σ25 b 27 = (b + 25) := by rw [eM25]; exact rs_Rsame ⟨rfl, rfl⟩
  refine lv_aload_n hx hb d_Mo_init_194 rfl (lv_at hl 0 rfl) ?_
  refine lv_bipush hx hb d_Mo_init_195 kb_61 ?_
  refine rs_newp C hH hS (kd := 20) (N := 61) (atype := .int) ⟨by decide, rfl⟩ tw_52 (by decide) (by decide) (by decide) (Nat.le_of_ble_eq_true rfl) (Nat.le_of_ble_eq_true rfl) d_Mo_init_197 (fun S26 vv H eS26 ev okv hH hS => ?_)
  replace eS26 : S26 = rs_ad (b + 25) S25 20 61 := rs_ad_of eS26 eb25
  have eb26 : S26.1 = (b + 26) := by rw [eS26]; rfl
  obtain rfl : vv = (b + 26) := rs_vv ev eb25
  clear ev
  have ln26_26 : S26.2.2 (b + 26) = 61 := by rw [eS26]; exact if_pos rfl
  have ok26_26 := okv
  clear okv
  have ok0_26 : rs_Ok S26 11 b := rs_okup (n := 25) (n' := 26) ok0_25 (by simp (disch := first | exact rs_n11 rfl | exact rs_n01 | exact Nat.le_refl _ | exact rs_m11 rfl | exact rs_m01 rfl | exact rs_q11 rfl | exact rs_q01 rfl | exact rs_q10 rfl | exact rs_q00 rfl | exact rs_p11 rfl | exact rs_p01 rfl | exact rs_p10 rfl) only [eS26, rs_ad_k, rs_adm_k]) eb25 eb26 rfl
  refine rs_putRZ C hi hH hS (kd := 11) (k := 28) (kr := 20) ok0_26 (by decide) rfl rfl rfl rfl ok26_26 tw_927 d_Mo_init_199 (fun σ26 H locs eM26 hH hS => ?_)
  have fd0_28 : rs_R σ26 b 28 = (b + 26) := by rw [eM26]; exact rs_Rsame ⟨rfl, rfl⟩
  refine lv_aload_n hx hb d_Mo_init_202 rfl (lv_at hl 0 rfl) ?_
  refine lv_bipush hx hb d_Mo_init_203 kb_61 ?_
  refine rs_newp C hH hS (kd := 20) (N := 61) (atype := .int) ⟨by decide, rfl⟩ tw_52 (by decide) (by decide) (by decide) (Nat.le_of_ble_eq_true rfl) (Nat.le_of_ble_eq_true rfl) d_Mo_init_205 (fun S27 vv H eS27 ev okv hH hS => ?_)
  replace eS27 : S27 = rs_ad (b + 26) S26 20 61 := rs_ad_of eS27 eb26
  have eb27 : S27.1 = (b + 27) := by rw [eS27]; rfl
  obtain rfl : vv = (b + 27) := rs_vv ev eb26
  clear ev
  have ln27_27 : S27.2.2 (b + 27) = 61 := by rw [eS27]; exact if_pos rfl
  have ok27_27 := okv
  clear okv
  have ok0_27 : rs_Ok S27 11 b := rs_okup (n := 26) (n' := 27) ok0_26 (by simp (disch := first | exact rs_n11 rfl | exact rs_n01 | exact Nat.le_refl _ | exact rs_m11 rfl | exact rs_m01 rfl | exact rs_q11 rfl | exact rs_q01 rfl | exact rs_q10 rfl | exact rs_q00 rfl | exact rs_p11 rfl | exact rs_p01 rfl | exact rs_p10 rfl) only [eS27, rs_ad_k, rs_adm_k]) eb26 eb27 rfl
  refine rs_putRZ C hi hH hS (kd := 11) (k := 29) (kr := 20) ok0_27 (by decide) rfl rfl rfl rfl ok27_27 tw_928 d_Mo_init_207 (fun σ27 H locs eM27 hH hS => ?_)
  have fd0_29 : rs_R σ27 b 29 = (b + 27) := by rw [eM27]; exact rs_Rsame ⟨rfl, rfl⟩
  refine lv_aload_n hx hb d_Mo_init_210 rfl (lv_at hl 0 rfl) ?_
  refine lv_bipush hx hb d_Mo_init_211 kb_61 ?_
  refine rs_newp C hH hS (kd := 20) (N := 61) (atype := .int) ⟨by decide, rfl⟩ tw_52 (by decide) (by decide) (by decide) (Nat.le_of_ble_eq_true rfl) (Nat.le_of_ble_eq_true rfl) d_Mo_init_213 (fun S28 vv H eS28 ev okv hH hS => ?_)
  replace eS28 : S28 = rs_ad (b + 27) S27 20 61 := rs_ad_of eS28 eb27
  have eb28 : S28.1 = (b + 28) := by rw [eS28]; rfl
  obtain rfl : vv = (b + 28) := rs_vv ev eb27
  clear ev
  have ln28_28 : S28.2.2 (b + 28) = 61 := by rw [eS28]; exact if_pos rfl
  have ok28_28 := okv
  clear okv
  have ok0_28 : rs_Ok S28 11 b := rs_okup (n := 27) (n' := 28) ok0_27 (by simp (disch := first | exact rs_n11 rfl | exact rs_n01 | exact Nat.le_refl _ | exact rs_m11 rfl | exact rs_m01 rfl | exact rs_q11 rfl | exact rs_q01 rfl | exact rs_q10 rfl | exact rs_q00 rfl | exact rs_p11 rfl | exact rs_p01 rfl | exact rs_p10 rfl) only [eS28, rs_ad_k, rs_adm_k]) eb27 eb28 rfl
  refine rs_putRZ C hi hH hS (kd := 11) (k := 30) (kr := 20) ok0_28 (by decide) rfl rfl rfl rfl ok28_28 tw_929 d_Mo_init_215 (fun σ28 H locs eM28 hH hS => ?_)
  have fd0_30 : rs_R σ28 b 30 = (b + 28) := by rw [eM28]; exact rs_Rsame ⟨rfl, rfl⟩
  refine lv_aload_n hx hb d_Mo_init_218 rfl (lv_at hl 0 rfl) ?_
  refine lv_bipush hx hb d_Mo_init_219 kb_61 ?_
  refine rs_newp C hH hS (kd := 20) (N := 61) (atype := .int) ⟨by decide, rfl⟩ tw_52 (by decide) (by decide) (by decide) (Nat.le_of_ble_eq_true rfl) (Nat.le_of_ble_eq_true rfl) d_Mo_init_221 (fun S29 vv H eS29 ev okv hH hS => ?_)
  replace eS29 : S29 = rs_ad (b + 28) S28 20 61 := rs_ad_of eS29 eb28
  have eb29 : S29.1 = (b + 29) := by rw [eS29]; rfl
  obtain rfl : vv = (b + 29) := rs_vv ev eb28
  clear ev
  have ln29_29 : S29.2.2 (b + 29) = 61 := by rw [eS29]; exact if_pos rfl
  have ok29_29 := okv
  clear okv
  have ok0_29 : rs_Ok S29 11 b := rs_okup (n := 28) (n' := 29) ok0_28 (by simp (disch := first | exact rs_n11 rfl | exact rs_n01 | exact Nat.le_refl _ | exact rs_m11 rfl | exact rs_m01 rfl | exact rs_q11 rfl | exact rs_q01 rfl | exact rs_q10 rfl | exact rs_q00 rfl | exact rs_p11 rfl | exact rs_p01 rfl | exact rs_p10 rfl) only [eS29, rs_ad_k, rs_adm_k]) eb28 eb29 rfl
  refine rs_putRZ C hi hH hS (kd := 11) (k := 31) (kr := 20) ok0_29 (by decide) rfl rfl rfl rfl ok29_29 tw_930 d_Mo_init_223 (fun σ29 H locs eM29 hH hS => ?_)
  have fd0_31 : rs_R σ29 b 31 = (b + 29) := by rw [eM29]; exact rs_Rsame ⟨rfl, rfl⟩
  refine lv_aload_n hx hb d_Mo_init_226 rfl (lv_at hl 0 rfl) ?_
  refine lv_bipush hx hb d_Mo_init_227 kb_61 ?_
  refine rs_newp C hH hS (kd := 20) (N := 61) (atype := .int) ⟨by decide, rfl⟩ tw_52 (by decide) (by decide) (by decide) (Nat.le_of_ble_eq_true rfl) (Nat.le_of_ble_eq_true rfl) d_Mo_init_229 (fun S30 vv H eS30 ev okv hH hS => ?_)
  replace eS30 : S30 = rs_ad (b + 29) S29 20 61 := rs_ad_of eS30 eb29
  have eb30 : S30.1 = (b + 30) := by rw [eS30]; rfl
  obtain rfl : vv = (b + 30) := rs_vv ev eb29
  clear ev
  have ln30_30 : S30.2.2 (b + 30) = 61 := by rw [eS30]; exact if_pos rfl
  have ok30_30 := okv
  clear okv
  have ok0_30 : rs_Ok S30 11 b := rs_okup (n := 29) (n' := 30) ok0_29 (by simp (disch := first | exact rs_n11 rfl | exact rs_n01 | exact Nat.le_refl _ | exact rs_m11 rfl | exact rs_m01 rfl | exact rs_q11 rfl | exact rs_q01 rfl | exact rs_q10 rfl | exact rs_q00 rfl | exact rs_p11 rfl | exact rs_p01 rfl | exact rs_p10 rfl) only [eS30, rs_ad_k, rs_adm_k]) eb29 eb30 rfl
  refine rs_putRZ C hi hH hS (kd := 11) (k := 32) (kr := 20) ok0_30 (by decide) rfl rfl rfl rfl ok30_30 tw_931 d_Mo_init_231 (fun σ30 H locs eM30 hH hS => ?_)
  have fd0_32 : rs_R σ30 b 32 = (b + 30) := by rw [eM30]; exact rs_Rsame ⟨rfl, rfl⟩
  refine lv_aload_n hx hb d_Mo_init_234 rfl (lv_at hl 0 rfl) ?_
  refine lv_sipush hx hb d_Mo_init_235 ks_366 ?_
  refine rs_newp C hH hS (kd := 20) (N := 366) (atype := .int) ⟨by decide, rfl⟩ tw_52 (by decide) (by decide) (by decide) (Nat.le_of_ble_eq_true rfl) (Nat.le_of_ble_eq_true rfl) d_Mo_init_238 (fun S31 vv H eS31 ev okv hH hS => ?_)
  replace eS31 : S31 = rs_ad (b + 30) S30 20 366 := rs_ad_of eS31 eb30
  have eb31 : S31.1 = (b + 31) := by rw [eS31]; rfl
  obtain rfl : vv = (b + 31) := rs_vv ev eb30
  clear ev
  have ln31_31 : S31.2.2 (b + 31) = 366 := by rw [eS31]; exact if_pos rfl
  have ok31_31 := okv
  clear okv
  have ok0_31 : rs_Ok S31 11 b := rs_okup (n := 30) (n' := 31) ok0_30 (by simp (disch := first | exact rs_n11 rfl | exact rs_n01 | exact Nat.le_refl _ | exact rs_m11 rfl | exact rs_m01 rfl | exact rs_q11 rfl | exact rs_q01 rfl | exact rs_q10 rfl | exact rs_q00 rfl | exact rs_p11 rfl | exact rs_p01 rfl | exact rs_p10 rfl) only [eS31, rs_ad_k, rs_adm_k]) eb30 eb31 rfl
  refine rs_putRZ C hi hH hS (kd := 11) (k := 33) (kr := 20) ok0_31 (by decide) rfl rfl rfl rfl ok31_31 tw_932 d_Mo_init_240 (fun σ31 H locs eM31 hH hS => ?_)
  have fd0_33 : rs_R σ31 b 33 = (b + 31) := by rw [eM31]; exact rs_Rsame ⟨rfl, rfl⟩
  refine lv_aload_n hx hb d_Mo_init_243 rfl (lv_at hl 0 rfl) ?_
  refine lv_bipush hx hb d_Mo_init_244 kb_48 ?_
  refine rs_newp C hH hS (kd := 23) (N := 48) (atype := .double) ⟨by decide, rfl⟩ tw_253 (by decide) (by decide) (by decide) (Nat.le_of_ble_eq_true rfl) (Nat.le_of_ble_eq_true rfl) d_Mo_init_246 (fun S32 vv H eS32 ev okv hH hS => ?_)
  replace eS32 : S32 = rs_ad (b + 31) S31 23 48 := rs_ad_of eS32 eb31
  have eb32 : S32.1 = (b + 32) := by rw [eS32]; rfl
  obtain rfl : vv = (b + 32) := rs_vv ev eb31
  clear ev
  have ln32_32 : S32.2.2 (b + 32) = 48 := by rw [eS32]; exact if_pos rfl
  have ok32_32 := okv
  clear okv
  have ok0_32 : rs_Ok S32 11 b := rs_okup (n := 31) (n' := 32) ok0_31 (by simp (disch := first | exact rs_n11 rfl | exact rs_n01 | exact Nat.le_refl _ | exact rs_m11 rfl | exact rs_m01 rfl | exact rs_q11 rfl | exact rs_q01 rfl | exact rs_q10 rfl | exact rs_q00 rfl | exact rs_p11 rfl | exact rs_p01 rfl | exact rs_p10 rfl) only [eS32, rs_ad_k, rs_adm_k]) eb31 eb32 rfl
  refine rs_putRZ C hi hH hS (kd := 11) (k := 34) (kr := 23) ok0_32 (by decide) rfl rfl rfl rfl ok32_32 tw_933 d_Mo_init_248 (fun σ32 H locs eM32 hH hS => ?_)
  have fd0_34 : rs_R σ32 b 34 = (b + 32) := by rw [eM32]; exact rs_Rsame ⟨rfl, rfl⟩
  refine lv_aload_n hx hb d_Mo_init_251 rfl (lv_at hl 0 rfl) ?_
  refine lv_bipush hx hb d_Mo_init_252 kb_48 ?_
  refine rs_newp C hH hS (kd := 21) (N := 48) (atype := .boolean) ⟨by decide, rfl⟩ tw_53 (by decide) (by decide) (by decide) (Nat.le_of_ble_eq_true rfl) (Nat.le_of_ble_eq_true rfl) d_Mo_init_254 (fun S33 vv H eS33 ev okv hH hS => ?_)
  replace eS33 : S33 = rs_ad (b + 32) S32 21 48 := rs_ad_of eS33 eb32
  have eb33 : S33.1 = (b + 33) := by rw [eS33]; rfl
  obtain rfl : vv = (b + 33) := rs_vv ev eb32
  clear ev
  have ln33_33 : S33.2.2 (b + 33) = 48 := by rw [eS33]; exact if_pos rfl
  have ok33_33 := okv
  clear okv
  have ok0_33 : rs_Ok S33 11 b := rs_okup (n := 32) (n' := 33) ok0_32 (by simp (disch := first | exact rs_n11 rfl | exact rs_n01 | exact Nat.le_refl _ | exact rs_m11 rfl | exact rs_m01 rfl | exact rs_q11 rfl | exact rs_q01 rfl | exact rs_q10 rfl | exact rs_q00 rfl | exact rs_p11 rfl | exact rs_p01 rfl | exact rs_p10 rfl) only [eS33, rs_ad_k, rs_adm_k]) eb32 eb33 rfl
  refine rs_putRZ C hi hH hS (kd := 11) (k := 35) (kr := 21) ok0_33 (by decide) rfl rfl rfl rfl ok33_33 tw_934 d_Mo_init_256 (fun σ33 H locs eM33 hH hS => ?_)
  have fd0_35 : rs_R σ33 b 35 = (b + 33) := by rw [eM33]; exact rs_Rsame ⟨rfl, rfl⟩
  refine lv_aload_n hx hb d_Mo_init_259 rfl (lv_at hl 0 rfl) ?_
  refine lv_bipush hx hb d_Mo_init_260 kb_48 ?_
  refine rs_newp C hH hS (kd := 20) (N := 48) (atype := .int) ⟨by decide, rfl⟩ tw_52 (by decide) (by decide) (by decide) (Nat.le_of_ble_eq_true rfl) (Nat.le_of_ble_eq_true rfl) d_Mo_init_262 (fun S34 vv H eS34 ev okv hH hS => ?_)
  replace eS34 : S34 = rs_ad (b + 33) S33 20 48 := rs_ad_of eS34 eb33
  have eb34 : S34.1 = (b + 34) := by rw [eS34]; rfl
  obtain rfl : vv = (b + 34) := rs_vv ev eb33
  clear ev
  have ln34_34 : S34.2.2 (b + 34) = 48 := by rw [eS34]; exact if_pos rfl
  have ok34_34 := okv
  clear okv
  have ok0_34 : rs_Ok S34 11 b := rs_okup (n := 33) (n' := 34) ok0_33 (by simp (disch := first | exact rs_n11 rfl | exact rs_n01 | exact Nat.le_refl _ | exact rs_m11 rfl | exact rs_m01 rfl | exact rs_q11 rfl | exact rs_q01 rfl | exact rs_q10 rfl | exact rs_q00 rfl | exact rs_p11 rfl | exact rs_p01 rfl | exact rs_p10 rfl) only [eS34, rs_ad_k, rs_adm_k]) eb33 eb34 rfl
  refine rs_putRZ C hi hH hS (kd := 11) (k := 36) (kr := 20) ok0_34 (by decide) rfl rfl rfl rfl ok34_34 tw_935 d_Mo_init_264 (fun σ34 H locs eM34 hH hS => ?_)
  have fd0_36 : rs_R σ34 b 36 = (b + 34) := by rw [eM34]; exact rs_Rsame ⟨rfl, rfl⟩
  refine lv_aload_n hx hb d_Mo_init_267 rfl (lv_at hl 0 rfl) ?_
  refine lv_sipush hx hb d_Mo_init_268 ks_1920 ?_
  refine rs_newp C hH hS (kd := 20) (N := 1920) (atype := .int) ⟨by decide, rfl⟩ tw_52 (by decide) (by decide) (by decide) (Nat.le_of_ble_eq_true rfl) (Nat.le_of_ble_eq_true rfl) d_Mo_init_271 (fun S35 vv H eS35 ev okv hH hS => ?_)
  replace eS35 : S35 = rs_ad (b + 34) S34 20 1920 := rs_ad_of eS35 eb34
  have eb35 : S35.1 = (b + 35) := by rw [eS35]; rfl
  obtain rfl : vv = (b + 35) := rs_vv ev eb34
  clear ev
  have ln35_35 : S35.2.2 (b + 35) = 1920 := by rw [eS35]; exact if_pos rfl
  have ok35_35 := okv
  clear okv
  have ok0_35 : rs_Ok S35 11 b := rs_okup (n := 34) (n' := 35) ok0_34 (by simp (disch := first | exact rs_n11 rfl | exact rs_n01 | exact Nat.le_refl _ | exact rs_m11 rfl | exact rs_m01 rfl | exact rs_q11 rfl | exact rs_q01 rfl | exact rs_q10 rfl | exact rs_q00 rfl | exact rs_p11 rfl | exact rs_p01 rfl | exact rs_p10 rfl) only [eS35, rs_ad_k, rs_adm_k]) eb34 eb35 rfl
  refine rs_putRZ C hi hH hS (kd := 11) (k := 37) (kr := 20) ok0_35 (by decide) rfl rfl rfl rfl ok35_35 tw_936 d_Mo_init_273 (fun σ35 H locs eM35 hH hS => ?_)
  have fd0_37 : rs_R σ35 b 37 = (b + 35) := by rw [eM35]; exact rs_Rsame ⟨rfl, rfl⟩
  refine lv_aload_n hx hb d_Mo_init_276 rfl (lv_at hl 0 rfl) ?_
  refine lv_bipush hx hb d_Mo_init_277 kb_40 ?_
  refine rs_newp C hH hS (kd := 20) (N := 40) (atype := .int) ⟨by decide, rfl⟩ tw_52 (by decide) (by decide) (by decide) (Nat.le_of_ble_eq_true rfl) (Nat.le_of_ble_eq_true rfl) d_Mo_init_279 (fun S36 vv H eS36 ev okv hH hS => ?_)
  replace eS36 : S36 = rs_ad (b + 35) S35 20 40 := rs_ad_of eS36 eb35
  have eb36 : S36.1 = (b + 36) := by rw [eS36]; rfl
  obtain rfl : vv = (b + 36) := rs_vv ev eb35
  clear ev
  have ln36_36 : S36.2.2 (b + 36) = 40 := by rw [eS36]; exact if_pos rfl
  have ok36_36 := okv
  clear okv
  have ok0_36 : rs_Ok S36 11 b := rs_okup (n := 35) (n' := 36) ok0_35 (by simp (disch := first | exact rs_n11 rfl | exact rs_n01 | exact Nat.le_refl _ | exact rs_m11 rfl | exact rs_m01 rfl | exact rs_q11 rfl | exact rs_q01 rfl | exact rs_q10 rfl | exact rs_q00 rfl | exact rs_p11 rfl | exact rs_p01 rfl | exact rs_p10 rfl) only [eS36, rs_ad_k, rs_adm_k]) eb35 eb36 rfl
  refine rs_putRZ C hi hH hS (kd := 11) (k := 38) (kr := 20) ok0_36 (by decide) rfl rfl rfl rfl ok36_36 tw_937 d_Mo_init_281 (fun σ36 H locs eM36 hH hS => ?_)
  have fd0_38 : rs_R σ36 b 38 = (b + 36) := by rw [eM36]; exact rs_Rsame ⟨rfl, rfl⟩
  refine lv_aload_n hx hb d_Mo_init_284 rfl (lv_at hl 0 rfl) ?_
  refine lv_bipush hx hb d_Mo_init_285 kb_11 ?_
  refine rs_newp C hH hS (kd := 20) (N := 11) (atype := .int) ⟨by decide, rfl⟩ tw_52 (by decide) (by decide) (by decide) (Nat.le_of_ble_eq_true rfl) (Nat.le_of_ble_eq_true rfl) d_Mo_init_287 (fun S37 vv H eS37 ev okv hH hS => ?_)
  replace eS37 : S37 = rs_ad (b + 36) S36 20 11 := rs_ad_of eS37 eb36
  have eb37 : S37.1 = (b + 37) := by rw [eS37]; rfl
  obtain rfl : vv = (b + 37) := rs_vv ev eb36
  clear ev
  have ln37_37 : S37.2.2 (b + 37) = 11 := by rw [eS37]; exact if_pos rfl
  have ok37_37 := okv
  clear okv
  have ok0_37 : rs_Ok S37 11 b := rs_okup (n := 36) (n' := 37) ok0_36 (by simp (disch := first | exact rs_n11 rfl | exact rs_n01 | exact Nat.le_refl _ | exact rs_m11 rfl | exact rs_m01 rfl | exact rs_q11 rfl | exact rs_q01 rfl | exact rs_q10 rfl | exact rs_q00 rfl | exact rs_p11 rfl | exact rs_p01 rfl | exact rs_p10 rfl) only [eS37, rs_ad_k, rs_adm_k]) eb36 eb37 rfl
  refine rs_putRZ C hi hH hS (kd := 11) (k := 39) (kr := 20) ok0_37 (by decide) rfl rfl rfl rfl ok37_37 tw_938 d_Mo_init_289 (fun σ37 H locs eM37 hH hS => ?_)
  have fd0_39 : rs_R σ37 b 39 = (b + 37) := by rw [eM37]; exact rs_Rsame ⟨rfl, rfl⟩
  refine lv_aload_n hx hb d_Mo_init_292 rfl (lv_at hl 0 rfl) ?_
  refine lv_iconst hx hb d_Mo_init_293 ki_5 ?_
  refine rs_newp C hH hS (kd := 21) (N := 5) (atype := .boolean) ⟨by decide, rfl⟩ tw_53 (by decide) (by decide) (by decide) (Nat.le_of_ble_eq_true rfl) (Nat.le_of_ble_eq_true rfl) d_Mo_init_294 (fun S38 vv H eS38 ev okv hH hS => ?_)
  replace eS38 : S38 = rs_ad (b + 37) S37 21 5 := rs_ad_of eS38 eb37
  have eb38 : S38.1 = (b + 38) := by rw [eS38]; rfl
  obtain rfl : vv = (b + 38) := rs_vv ev eb37
  clear ev
  have ln38_38 : S38.2.2 (b + 38) = 5 := by rw [eS38]; exact if_pos rfl
  have ok38_38 := okv
  clear okv
  have ok0_38 : rs_Ok S38 11 b := rs_okup (n := 37) (n' := 38) ok0_37 (by simp (disch := first | exact rs_n11 rfl | exact rs_n01 | exact Nat.le_refl _ | exact rs_m11 rfl | exact rs_m01 rfl | exact rs_q11 rfl | exact rs_q01 rfl | exact rs_q10 rfl | exact rs_q00 rfl | exact rs_p11 rfl | exact rs_p01 rfl | exact rs_p10 rfl) only [eS38, rs_ad_k, rs_adm_k]) eb37 eb38 rfl
  refine rs_putRZ C hi hH hS (kd := 11) (k := 40) (kr := 21) ok0_38 (by decide) rfl rfl rfl rfl ok38_38 tw_939 d_Mo_init_296 (fun σ38 H locs eM38 hH hS => ?_)
  have fd0_40 : rs_R σ38 b 40 = (b + 38) := by rw [eM38]; exact rs_Rsame ⟨rfl, rfl⟩
  refine lv_iconst hx hb d_Mo_init_299 ki_0 ?_
  refine lv_istore_n hx hb d_Mo_init_300 rfl hl (by decide) (lv' := [(1, .int (0 : Int32)), (0, .ref (Bm + b))]) rfl (fun ls hl => ?_)
  refine lv_iload_n hx hb d_Mo_init_301 rfl (lv_at hl 0 rfl) ?_
  refine lv_iconst hx hb d_Mo_init_302 ki_4 ?_
  refine lv_icmp_ge hx hb d_Mo_init_303 (tgt := 330) rfl (fun hc => absurd hc (by decide)) (fun _ => ?_)
  refine lv_aload_n hx hb d_Mo_init_306 rfl (lv_at hl 1 rfl) ?_
  have fd0_2_1 : rs_R σ38 b 2 = (b + 2) := by (simp (disch := first | exact rs_n11 rfl | exact rs_n01 | exact Nat.le_refl _ | exact rs_m11 rfl | exact rs_m01 rfl | exact rs_q11 rfl | exact rs_q01 rfl | exact rs_q10 rfl | exact rs_q00 rfl | exact rs_p11 rfl | exact rs_p01 rfl | exact rs_p10 rfl) only [eM38, eM37, eM36, eM35, eM34, eM33, eM32, eM31, eM30, eM29, eM28, eM27, eM26, eM25, eM24, eM23, eM22, eM21, eM20, eM19, eM18, eM17, eM16, eM15, eM14, eM13, eM12, eM11, eM10, eM9, eM8, eM7, eM6, eM5, eM4, eM3, rs_Rother, rs_RI, rs_Rmul]); exact fd0_2
  have ok2_38 : rs_Ok S38 20 (b + 2) := rs_okup (n := 2) (n' := 38) ok2_2 (by simp (disch := first | exact rs_n11 rfl | exact rs_n01 | exact Nat.le_refl _ | exact rs_m11 rfl | exact rs_m01 rfl | exact rs_q11 rfl | exact rs_q01 rfl | exact rs_q10 rfl | exact rs_q00 rfl | exact rs_p11 rfl | exact rs_p01 rfl | exact rs_p10 rfl) only [eS38, eS37, eS36, eS35, eS34, eS33, eS32, eS31, eS30, eS29, eS28, eS27, eS26, eS25, eS24, eS23, eS22, eS21, eS20, eS19, eS18, eS17, eS16, eS15, eS14, eS13, eS12, eS11, eS10, eS9, eS8, eS7, eS6, eS5, eS4, eS3, rs_ad_k, rs_adm_k]) eb2 eb38 rfl
  have ln2_38 : S38.2.2 (b + 2) = 4 := by (simp (disch := first | exact rs_n11 rfl | exact rs_n01 | exact Nat.le_refl _ | exact rs_m11 rfl | exact rs_m01 rfl | exact rs_q11 rfl | exact rs_q01 rfl | exact rs_q10 rfl | exact rs_q00 rfl | exact rs_p11 rfl | exact rs_p01 rfl | exact rs_p10 rfl) only [eS38, eS37, eS36, eS35, eS34, eS33, eS32, eS31, eS30, eS29, eS28, eS27, eS26, eS25, eS24, eS23, eS22, eS21, eS20, eS19, eS18, eS17, eS16, eS15, eS14, eS13, eS12, eS11, eS10, eS9, eS8, eS7, eS6, eS5, eS4, eS3, rs_ad_l, rs_adm_l]); exact ln2_2
  refine rs_getVZ C hH (kd := 11) (k := 2) (kr := 20) ok0_38 (by decide) fd0_2_1 ok2_38 tw_901 d_Mo_init_307 ?_
  refine lv_iload_n hx hb d_Mo_init_310 rfl (lv_at hl 0 rfl) ?_
  refine lv_sipush hx hb d_Mo_init_311 ks_200 ?_
  refine lv_iload_n hx hb d_Mo_init_314 rfl (lv_at hl 0 rfl) ?_
  refine lv_iadd hx hb d_Mo_init_315 ?_
  refine rs_iastZ C hH hS ok2_38 (show vp_in (0 : Int32) (S38.2.2 (b + 2)) by rw [ln2_38]; unfold vp_in; decide) d_Mo_init_316 (fun σ39 H locs eM39 hH hS => ?_)
  replace eM39 : σ39 = rs_sI σ38 (b + 2) 0 ((200 : Int32) + (0 : Int32)) := by rw [eM39, show ((0 : Int32)).toNatClampNeg = 0 from by decide]
  refine lv_aload_n hx hb d_Mo_init_317 rfl (lv_at hl 1 rfl) ?_
  have fd0_9_2 : rs_R σ39 b 9 = (b + 9) := by (simp (disch := first | exact rs_n11 rfl | exact rs_n01 | exact Nat.le_refl _ | exact rs_m11 rfl | exact rs_m01 rfl | exact rs_q11 rfl | exact rs_q01 rfl | exact rs_q10 rfl | exact rs_q00 rfl | exact rs_p11 rfl | exact rs_p01 rfl | exact rs_p10 rfl) only [eM39, eM38, eM37, eM36, eM35, eM34, eM33, eM32, eM31, eM30, eM29, eM28, eM27, eM26, eM25, eM24, eM23, eM22, eM21, eM20, eM19, eM18, eM17, eM16, eM15, eM14, eM13, eM12, eM11, eM10, rs_Rother, rs_RI, rs_Rmul]); exact fd0_9
  have ok9_38 : rs_Ok S38 20 (b + 9) := rs_okup (n := 9) (n' := 38) ok9_9 (by simp (disch := first | exact rs_n11 rfl | exact rs_n01 | exact Nat.le_refl _ | exact rs_m11 rfl | exact rs_m01 rfl | exact rs_q11 rfl | exact rs_q01 rfl | exact rs_q10 rfl | exact rs_q00 rfl | exact rs_p11 rfl | exact rs_p01 rfl | exact rs_p10 rfl) only [eS38, eS37, eS36, eS35, eS34, eS33, eS32, eS31, eS30, eS29, eS28, eS27, eS26, eS25, eS24, eS23, eS22, eS21, eS20, eS19, eS18, eS17, eS16, eS15, eS14, eS13, eS12, eS11, eS10, rs_ad_k, rs_adm_k]) eb9 eb38 rfl
  have ln9_38 : S38.2.2 (b + 9) = 4 := by (simp (disch := first | exact rs_n11 rfl | exact rs_n01 | exact Nat.le_refl _ | exact rs_m11 rfl | exact rs_m01 rfl | exact rs_q11 rfl | exact rs_q01 rfl | exact rs_q10 rfl | exact rs_q00 rfl | exact rs_p11 rfl | exact rs_p01 rfl | exact rs_p10 rfl) only [eS38, eS37, eS36, eS35, eS34, eS33, eS32, eS31, eS30, eS29, eS28, eS27, eS26, eS25, eS24, eS23, eS22, eS21, eS20, eS19, eS18, eS17, eS16, eS15, eS14, eS13, eS12, eS11, eS10, rs_ad_l, rs_adm_l]); exact ln9_9
  refine rs_getVZ C hH (kd := 11) (k := 9) (kr := 20) ok0_38 (by decide) fd0_9_2 ok9_38 tw_908 d_Mo_init_318 ?_
  refine lv_iload_n hx hb d_Mo_init_321 rfl (lv_at hl 0 rfl) ?_
  refine lv_iconst hx hb d_Mo_init_322 ki_m1 ?_
  refine rs_iastZ C hH hS ok9_38 (show vp_in (0 : Int32) (S38.2.2 (b + 9)) by rw [ln9_38]; unfold vp_in; decide) d_Mo_init_323 (fun σ40 H locs eM40 hH hS => ?_)
  replace eM40 : σ40 = rs_sI σ39 (b + 9) 0 (-1 : Int32) := by rw [eM40, show ((0 : Int32)).toNatClampNeg = 0 from by decide]
  refine lv_iinc hx hb d_Mo_init_324 hl (k := 0) rfl (v := (1 : Int32)) (by decide) (by decide) (lv' := [(1, .int (1 : Int32)), (0, .ref (Bm + b))]) rfl (fun ls hl => ?_)
  refine lv_goto hx hb d_Mo_init_327 (tgt := 301) rfl ?_
  refine lv_iload_n hx hb d_Mo_init_301 rfl (lv_at hl 0 rfl) ?_
  refine lv_iconst hx hb d_Mo_init_302 ki_4 ?_
  refine lv_icmp_ge hx hb d_Mo_init_303 (tgt := 330) rfl (fun hc => absurd hc (by decide)) (fun _ => ?_)
  refine lv_aload_n hx hb d_Mo_init_306 rfl (lv_at hl 1 rfl) ?_
  have fd0_2_3 : rs_R σ40 b 2 = (b + 2) := by (simp (disch := first | exact rs_n11 rfl | exact rs_n01 | exact Nat.le_refl _ | exact rs_m11 rfl | exact rs_m01 rfl | exact rs_q11 rfl | exact rs_q01 rfl | exact rs_q10 rfl | exact rs_q00 rfl | exact rs_p11 rfl | exact rs_p01 rfl | exact rs_p10 rfl) only [eM40, eM39, rs_Rother, rs_RI, rs_Rmul]); exact fd0_2_1
  refine rs_getVZ C hH (kd := 11) (k := 2) (kr := 20) ok0_38 (by decide) fd0_2_3 ok2_38 tw_901 d_Mo_init_307 ?_
  refine lv_iload_n hx hb d_Mo_init_310 rfl (lv_at hl 0 rfl) ?_
  refine lv_sipush hx hb d_Mo_init_311 ks_200 ?_
  refine lv_iload_n hx hb d_Mo_init_314 rfl (lv_at hl 0 rfl) ?_
  refine lv_iadd hx hb d_Mo_init_315 ?_
  refine rs_iastZ C hH hS ok2_38 (show vp_in (1 : Int32) (S38.2.2 (b + 2)) by rw [ln2_38]; unfold vp_in; decide) d_Mo_init_316 (fun σ41 H locs eM41 hH hS => ?_)
  replace eM41 : σ41 = rs_sI σ40 (b + 2) 1 ((200 : Int32) + (1 : Int32)) := by rw [eM41, show ((1 : Int32)).toNatClampNeg = 1 from by decide]
  refine lv_aload_n hx hb d_Mo_init_317 rfl (lv_at hl 1 rfl) ?_
  have fd0_9_4 : rs_R σ41 b 9 = (b + 9) := by (simp (disch := first | exact rs_n11 rfl | exact rs_n01 | exact Nat.le_refl _ | exact rs_m11 rfl | exact rs_m01 rfl | exact rs_q11 rfl | exact rs_q01 rfl | exact rs_q10 rfl | exact rs_q00 rfl | exact rs_p11 rfl | exact rs_p01 rfl | exact rs_p10 rfl) only [eM41, eM40, rs_Rother, rs_RI, rs_Rmul]); exact fd0_9_2
  refine rs_getVZ C hH (kd := 11) (k := 9) (kr := 20) ok0_38 (by decide) fd0_9_4 ok9_38 tw_908 d_Mo_init_318 ?_
  refine lv_iload_n hx hb d_Mo_init_321 rfl (lv_at hl 0 rfl) ?_
  refine lv_iconst hx hb d_Mo_init_322 ki_m1 ?_
  refine rs_iastZ C hH hS ok9_38 (show vp_in (1 : Int32) (S38.2.2 (b + 9)) by rw [ln9_38]; unfold vp_in; decide) d_Mo_init_323 (fun σ42 H locs eM42 hH hS => ?_)
  replace eM42 : σ42 = rs_sI σ41 (b + 9) 1 (-1 : Int32) := by rw [eM42, show ((1 : Int32)).toNatClampNeg = 1 from by decide]
  refine lv_iinc hx hb d_Mo_init_324 hl (k := 0) rfl (v := (2 : Int32)) (by decide) (by decide) (lv' := [(1, .int (2 : Int32)), (0, .ref (Bm + b))]) rfl (fun ls hl => ?_)
  refine lv_goto hx hb d_Mo_init_327 (tgt := 301) rfl ?_
  refine lv_iload_n hx hb d_Mo_init_301 rfl (lv_at hl 0 rfl) ?_
  refine lv_iconst hx hb d_Mo_init_302 ki_4 ?_
  refine lv_icmp_ge hx hb d_Mo_init_303 (tgt := 330) rfl (fun hc => absurd hc (by decide)) (fun _ => ?_)
  refine lv_aload_n hx hb d_Mo_init_306 rfl (lv_at hl 1 rfl) ?_
  have fd0_2_5 : rs_R σ42 b 2 = (b + 2) := by (simp (disch := first | exact rs_n11 rfl | exact rs_n01 | exact Nat.le_refl _ | exact rs_m11 rfl | exact rs_m01 rfl | exact rs_q11 rfl | exact rs_q01 rfl | exact rs_q10 rfl | exact rs_q00 rfl | exact rs_p11 rfl | exact rs_p01 rfl | exact rs_p10 rfl) only [eM42, eM41, rs_Rother, rs_RI, rs_Rmul]); exact fd0_2_3
  refine rs_getVZ C hH (kd := 11) (k := 2) (kr := 20) ok0_38 (by decide) fd0_2_5 ok2_38 tw_901 d_Mo_init_307 ?_
  refine lv_iload_n hx hb d_Mo_init_310 rfl (lv_at hl 0 rfl) ?_
  refine lv_sipush hx hb d_Mo_init_311 ks_200 ?_
  refine lv_iload_n hx hb d_Mo_init_314 rfl (lv_at hl 0 rfl) ?_
  refine lv_iadd hx hb d_Mo_init_315 ?_
  refine rs_iastZ C hH hS ok2_38 (show vp_in (2 : Int32) (S38.2.2 (b + 2)) by rw [ln2_38]; unfold vp_in; decide) d_Mo_init_316 (fun σ43 H locs eM43 hH hS => ?_)
  replace eM43 : σ43 = rs_sI σ42 (b + 2) 2 ((200 : Int32) + (2 : Int32)) := by rw [eM43, show ((2 : Int32)).toNatClampNeg = 2 from by decide]
  refine lv_aload_n hx hb d_Mo_init_317 rfl (lv_at hl 1 rfl) ?_
  have fd0_9_6 : rs_R σ43 b 9 = (b + 9) := by (simp (disch := first | exact rs_n11 rfl | exact rs_n01 | exact Nat.le_refl _ | exact rs_m11 rfl | exact rs_m01 rfl | exact rs_q11 rfl | exact rs_q01 rfl | exact rs_q10 rfl | exact rs_q00 rfl | exact rs_p11 rfl | exact rs_p01 rfl | exact rs_p10 rfl) only [eM43, eM42, rs_Rother, rs_RI, rs_Rmul]); exact fd0_9_4
  refine rs_getVZ C hH (kd := 11) (k := 9) (kr := 20) ok0_38 (by decide) fd0_9_6 ok9_38 tw_908 d_Mo_init_318 ?_
  refine lv_iload_n hx hb d_Mo_init_321 rfl (lv_at hl 0 rfl) ?_
  refine lv_iconst hx hb d_Mo_init_322 ki_m1 ?_
  refine rs_iastZ C hH hS ok9_38 (show vp_in (2 : Int32) (S38.2.2 (b + 9)) by rw [ln9_38]; unfold vp_in; decide) d_Mo_init_323 (fun σ44 H locs eM44 hH hS => ?_)
  replace eM44 : σ44 = rs_sI σ43 (b + 9) 2 (-1 : Int32) := by rw [eM44, show ((2 : Int32)).toNatClampNeg = 2 from by decide]
  refine lv_iinc hx hb d_Mo_init_324 hl (k := 0) rfl (v := (3 : Int32)) (by decide) (by decide) (lv' := [(1, .int (3 : Int32)), (0, .ref (Bm + b))]) rfl (fun ls hl => ?_)
  refine lv_goto hx hb d_Mo_init_327 (tgt := 301) rfl ?_
  refine lv_iload_n hx hb d_Mo_init_301 rfl (lv_at hl 0 rfl) ?_
  refine lv_iconst hx hb d_Mo_init_302 ki_4 ?_
  refine lv_icmp_ge hx hb d_Mo_init_303 (tgt := 330) rfl (fun hc => absurd hc (by decide)) (fun _ => ?_)
  refine lv_aload_n hx hb d_Mo_init_306 rfl (lv_at hl 1 rfl) ?_
  have fd0_2_7 : rs_R σ44 b 2 = (b + 2) := by (simp (disch := first | exact rs_n11 rfl | exact rs_n01 | exact Nat.le_refl _ | exact rs_m11 rfl | exact rs_m01 rfl | exact rs_q11 rfl | exact rs_q01 rfl | exact rs_q10 rfl | exact rs_q00 rfl | exact rs_p11 rfl | exact rs_p01 rfl | exact rs_p10 rfl) only [eM44, eM43, rs_Rother, rs_RI, rs_Rmul]); exact fd0_2_5
  refine rs_getVZ C hH (kd := 11) (k := 2) (kr := 20) ok0_38 (by decide) fd0_2_7 ok2_38 tw_901 d_Mo_init_307 ?_
  refine lv_iload_n hx hb d_Mo_init_310 rfl (lv_at hl 0 rfl) ?_
  refine lv_sipush hx hb d_Mo_init_311 ks_200 ?_
  refine lv_iload_n hx hb d_Mo_init_314 rfl (lv_at hl 0 rfl) ?_
  refine lv_iadd hx hb d_Mo_init_315 ?_
  refine rs_iastZ C hH hS ok2_38 (show vp_in (3 : Int32) (S38.2.2 (b + 2)) by rw [ln2_38]; unfold vp_in; decide) d_Mo_init_316 (fun σ45 H locs eM45 hH hS => ?_)
  replace eM45 : σ45 = rs_sI σ44 (b + 2) 3 ((200 : Int32) + (3 : Int32)) := by rw [eM45, show ((3 : Int32)).toNatClampNeg = 3 from by decide]
  refine lv_aload_n hx hb d_Mo_init_317 rfl (lv_at hl 1 rfl) ?_
  have fd0_9_8 : rs_R σ45 b 9 = (b + 9) := by (simp (disch := first | exact rs_n11 rfl | exact rs_n01 | exact Nat.le_refl _ | exact rs_m11 rfl | exact rs_m01 rfl | exact rs_q11 rfl | exact rs_q01 rfl | exact rs_q10 rfl | exact rs_q00 rfl | exact rs_p11 rfl | exact rs_p01 rfl | exact rs_p10 rfl) only [eM45, eM44, rs_Rother, rs_RI, rs_Rmul]); exact fd0_9_6
  refine rs_getVZ C hH (kd := 11) (k := 9) (kr := 20) ok0_38 (by decide) fd0_9_8 ok9_38 tw_908 d_Mo_init_318 ?_
  refine lv_iload_n hx hb d_Mo_init_321 rfl (lv_at hl 0 rfl) ?_
  refine lv_iconst hx hb d_Mo_init_322 ki_m1 ?_
  refine rs_iastZ C hH hS ok9_38 (show vp_in (3 : Int32) (S38.2.2 (b + 9)) by rw [ln9_38]; unfold vp_in; decide) d_Mo_init_323 (fun σ46 H locs eM46 hH hS => ?_)
  replace eM46 : σ46 = rs_sI σ45 (b + 9) 3 (-1 : Int32) := by rw [eM46, show ((3 : Int32)).toNatClampNeg = 3 from by decide]
  refine lv_iinc hx hb d_Mo_init_324 hl (k := 0) rfl (v := (4 : Int32)) (by decide) (by decide) (lv' := [(1, .int (4 : Int32)), (0, .ref (Bm + b))]) rfl (fun ls hl => ?_)
  refine lv_goto hx hb d_Mo_init_327 (tgt := 301) rfl ?_
  refine lv_iload_n hx hb d_Mo_init_301 rfl (lv_at hl 0 rfl) ?_
  refine lv_iconst hx hb d_Mo_init_302 ki_4 ?_
  refine lv_icmp_ge hx hb d_Mo_init_303 (tgt := 330) rfl (fun _ => ?_) (fun hc => absurd (by decide) hc)
  refine lv_iconst hx hb d_Mo_init_330 ki_0 ?_
  refine lv_istore_n hx hb d_Mo_init_331 rfl hl (by decide) (lv' := [(1, .int (0 : Int32)), (0, .ref (Bm + b))]) rfl (fun ls hl => ?_)
  refine lv_iload_n hx hb d_Mo_init_332 rfl (lv_at hl 0 rfl) ?_
  refine lv_bipush hx hb d_Mo_init_333 kb_48 ?_
  refine lv_icmp_ge hx hb d_Mo_init_335 (tgt := 351) rfl (fun hc => absurd hc (by decide)) (fun _ => ?_)
  refine lv_aload_n hx hb d_Mo_init_338 rfl (lv_at hl 1 rfl) ?_
  have fd0_36_9 : rs_R σ46 b 36 = (b + 34) := by (simp (disch := first | exact rs_n11 rfl | exact rs_n01 | exact Nat.le_refl _ | exact rs_m11 rfl | exact rs_m01 rfl | exact rs_q11 rfl | exact rs_q01 rfl | exact rs_q10 rfl | exact rs_q00 rfl | exact rs_p11 rfl | exact rs_p01 rfl | exact rs_p10 rfl) only [eM46, eM45, eM44, eM43, eM42, eM41, eM40, eM39, eM38, eM37, eM36, eM35, rs_Rother, rs_RI, rs_Rmul]); exact fd0_36
  have ok34_38 : rs_Ok S38 20 (b + 34) := rs_okup (n := 34) (n' := 38) ok34_34 (by simp (disch := first | exact rs_n11 rfl | exact rs_n01 | exact Nat.le_refl _ | exact rs_m11 rfl | exact rs_m01 rfl | exact rs_q11 rfl | exact rs_q01 rfl | exact rs_q10 rfl | exact rs_q00 rfl | exact rs_p11 rfl | exact rs_p01 rfl | exact rs_p10 rfl) only [eS38, eS37, eS36, eS35, rs_ad_k, rs_adm_k]) eb34 eb38 rfl
  have ln34_38 : S38.2.2 (b + 34) = 48 := by (simp (disch := first | exact rs_n11 rfl | exact rs_n01 | exact Nat.le_refl _ | exact rs_m11 rfl | exact rs_m01 rfl | exact rs_q11 rfl | exact rs_q01 rfl | exact rs_q10 rfl | exact rs_q00 rfl | exact rs_p11 rfl | exact rs_p01 rfl | exact rs_p10 rfl) only [eS38, eS37, eS36, eS35, rs_ad_l, rs_adm_l]); exact ln34_34
  refine rs_getVZ C hH (kd := 11) (k := 36) (kr := 20) ok0_38 (by decide) fd0_36_9 ok34_38 tw_935 d_Mo_init_339 ?_
  refine lv_iload_n hx hb d_Mo_init_342 rfl (lv_at hl 0 rfl) ?_
  refine lv_iconst hx hb d_Mo_init_343 ki_m1 ?_
  refine rs_iastZ C hH hS ok34_38 (show vp_in (0 : Int32) (S38.2.2 (b + 34)) by rw [ln34_38]; unfold vp_in; decide) d_Mo_init_344 (fun σ47 H locs eM47 hH hS => ?_)
  replace eM47 : σ47 = rs_sI σ46 (b + 34) 0 (-1 : Int32) := by rw [eM47, show ((0 : Int32)).toNatClampNeg = 0 from by decide]
  refine lv_iinc hx hb d_Mo_init_345 hl (k := 0) rfl (v := (1 : Int32)) (by decide) (by decide) (lv' := [(1, .int (1 : Int32)), (0, .ref (Bm + b))]) rfl (fun ls hl => ?_)
  refine lv_goto hx hb d_Mo_init_348 (tgt := 332) rfl ?_
  refine lv_iload_n hx hb d_Mo_init_332 rfl (lv_at hl 0 rfl) ?_
  refine lv_bipush hx hb d_Mo_init_333 kb_48 ?_
  refine lv_icmp_ge hx hb d_Mo_init_335 (tgt := 351) rfl (fun hc => absurd hc (by decide)) (fun _ => ?_)
  refine lv_aload_n hx hb d_Mo_init_338 rfl (lv_at hl 1 rfl) ?_
  have fd0_36_10 : rs_R σ47 b 36 = (b + 34) := by (simp (disch := first | exact rs_n11 rfl | exact rs_n01 | exact Nat.le_refl _ | exact rs_m11 rfl | exact rs_m01 rfl | exact rs_q11 rfl | exact rs_q01 rfl | exact rs_q10 rfl | exact rs_q00 rfl | exact rs_p11 rfl | exact rs_p01 rfl | exact rs_p10 rfl) only [eM47, rs_Rother, rs_RI, rs_Rmul]); exact fd0_36_9
  refine rs_getVZ C hH (kd := 11) (k := 36) (kr := 20) ok0_38 (by decide) fd0_36_10 ok34_38 tw_935 d_Mo_init_339 ?_
  refine lv_iload_n hx hb d_Mo_init_342 rfl (lv_at hl 0 rfl) ?_
  refine lv_iconst hx hb d_Mo_init_343 ki_m1 ?_
  refine rs_iastZ C hH hS ok34_38 (show vp_in (1 : Int32) (S38.2.2 (b + 34)) by rw [ln34_38]; unfold vp_in; decide) d_Mo_init_344 (fun σ48 H locs eM48 hH hS => ?_)
  replace eM48 : σ48 = rs_sI σ47 (b + 34) 1 (-1 : Int32) := by rw [eM48, show ((1 : Int32)).toNatClampNeg = 1 from by decide]
  refine lv_iinc hx hb d_Mo_init_345 hl (k := 0) rfl (v := (2 : Int32)) (by decide) (by decide) (lv' := [(1, .int (2 : Int32)), (0, .ref (Bm + b))]) rfl (fun ls hl => ?_)
  refine lv_goto hx hb d_Mo_init_348 (tgt := 332) rfl ?_
  refine lv_iload_n hx hb d_Mo_init_332 rfl (lv_at hl 0 rfl) ?_
  refine lv_bipush hx hb d_Mo_init_333 kb_48 ?_
  refine lv_icmp_ge hx hb d_Mo_init_335 (tgt := 351) rfl (fun hc => absurd hc (by decide)) (fun _ => ?_)
  refine lv_aload_n hx hb d_Mo_init_338 rfl (lv_at hl 1 rfl) ?_
  have fd0_36_11 : rs_R σ48 b 36 = (b + 34) := by (simp (disch := first | exact rs_n11 rfl | exact rs_n01 | exact Nat.le_refl _ | exact rs_m11 rfl | exact rs_m01 rfl | exact rs_q11 rfl | exact rs_q01 rfl | exact rs_q10 rfl | exact rs_q00 rfl | exact rs_p11 rfl | exact rs_p01 rfl | exact rs_p10 rfl) only [eM48, rs_Rother, rs_RI, rs_Rmul]); exact fd0_36_10
  refine rs_getVZ C hH (kd := 11) (k := 36) (kr := 20) ok0_38 (by decide) fd0_36_11 ok34_38 tw_935 d_Mo_init_339 ?_
  refine lv_iload_n hx hb d_Mo_init_342 rfl (lv_at hl 0 rfl) ?_
  refine lv_iconst hx hb d_Mo_init_343 ki_m1 ?_
  refine rs_iastZ C hH hS ok34_38 (show vp_in (2 : Int32) (S38.2.2 (b + 34)) by rw [ln34_38]; unfold vp_in; decide) d_Mo_init_344 (fun σ49 H locs eM49 hH hS => ?_)
  replace eM49 : σ49 = rs_sI σ48 (b + 34) 2 (-1 : Int32) := by rw [eM49, show ((2 : Int32)).toNatClampNeg = 2 from by decide]
  refine lv_iinc hx hb d_Mo_init_345 hl (k := 0) rfl (v := (3 : Int32)) (by decide) (by decide) (lv' := [(1, .int (3 : Int32)), (0, .ref (Bm + b))]) rfl (fun ls hl => ?_)
  refine lv_goto hx hb d_Mo_init_348 (tgt := 332) rfl ?_
  refine lv_iload_n hx hb d_Mo_init_332 rfl (lv_at hl 0 rfl) ?_
  refine lv_bipush hx hb d_Mo_init_333 kb_48 ?_
  refine lv_icmp_ge hx hb d_Mo_init_335 (tgt := 351) rfl (fun hc => absurd hc (by decide)) (fun _ => ?_)
  refine lv_aload_n hx hb d_Mo_init_338 rfl (lv_at hl 1 rfl) ?_
  have fd0_36_12 : rs_R σ49 b 36 = (b + 34) := by (simp (disch := first | exact rs_n11 rfl | exact rs_n01 | exact Nat.le_refl _ | exact rs_m11 rfl | exact rs_m01 rfl | exact rs_q11 rfl | exact rs_q01 rfl | exact rs_q10 rfl | exact rs_q00 rfl | exact rs_p11 rfl | exact rs_p01 rfl | exact rs_p10 rfl) only [eM49, rs_Rother, rs_RI, rs_Rmul]); exact fd0_36_11
  refine rs_getVZ C hH (kd := 11) (k := 36) (kr := 20) ok0_38 (by decide) fd0_36_12 ok34_38 tw_935 d_Mo_init_339 ?_
  refine lv_iload_n hx hb d_Mo_init_342 rfl (lv_at hl 0 rfl) ?_
  refine lv_iconst hx hb d_Mo_init_343 ki_m1 ?_
  refine rs_iastZ C hH hS ok34_38 (show vp_in (3 : Int32) (S38.2.2 (b + 34)) by rw [ln34_38]; unfold vp_in; decide) d_Mo_init_344 (fun σ50 H locs eM50 hH hS => ?_)
  replace eM50 : σ50 = rs_sI σ49 (b + 34) 3 (-1 : Int32) := by rw [eM50, show ((3 : Int32)).toNatClampNeg = 3 from by decide]
  refine lv_iinc hx hb d_Mo_init_345 hl (k := 0) rfl (v := (4 : Int32)) (by decide) (by decide) (lv' := [(1, .int (4 : Int32)), (0, .ref (Bm + b))]) rfl (fun ls hl => ?_)
  refine lv_goto hx hb d_Mo_init_348 (tgt := 332) rfl ?_
  refine lv_iload_n hx hb d_Mo_init_332 rfl (lv_at hl 0 rfl) ?_
  refine lv_bipush hx hb d_Mo_init_333 kb_48 ?_
  refine lv_icmp_ge hx hb d_Mo_init_335 (tgt := 351) rfl (fun hc => absurd hc (by decide)) (fun _ => ?_)
  refine lv_aload_n hx hb d_Mo_init_338 rfl (lv_at hl 1 rfl) ?_
  have fd0_36_13 : rs_R σ50 b 36 = (b + 34) := by (simp (disch := first | exact rs_n11 rfl | exact rs_n01 | exact Nat.le_refl _ | exact rs_m11 rfl | exact rs_m01 rfl | exact rs_q11 rfl | exact rs_q01 rfl | exact rs_q10 rfl | exact rs_q00 rfl | exact rs_p11 rfl | exact rs_p01 rfl | exact rs_p10 rfl) only [eM50, rs_Rother, rs_RI, rs_Rmul]); exact fd0_36_12
  refine rs_getVZ C hH (kd := 11) (k := 36) (kr := 20) ok0_38 (by decide) fd0_36_13 ok34_38 tw_935 d_Mo_init_339 ?_
  refine lv_iload_n hx hb d_Mo_init_342 rfl (lv_at hl 0 rfl) ?_
  refine lv_iconst hx hb d_Mo_init_343 ki_m1 ?_
  refine rs_iastZ C hH hS ok34_38 (show vp_in (4 : Int32) (S38.2.2 (b + 34)) by rw [ln34_38]; unfold vp_in; decide) d_Mo_init_344 (fun σ51 H locs eM51 hH hS => ?_)
  replace eM51 : σ51 = rs_sI σ50 (b + 34) 4 (-1 : Int32) := by rw [eM51, show ((4 : Int32)).toNatClampNeg = 4 from by decide]
  refine lv_iinc hx hb d_Mo_init_345 hl (k := 0) rfl (v := (5 : Int32)) (by decide) (by decide) (lv' := [(1, .int (5 : Int32)), (0, .ref (Bm + b))]) rfl (fun ls hl => ?_)
  refine lv_goto hx hb d_Mo_init_348 (tgt := 332) rfl ?_
  refine lv_iload_n hx hb d_Mo_init_332 rfl (lv_at hl 0 rfl) ?_
  refine lv_bipush hx hb d_Mo_init_333 kb_48 ?_
  refine lv_icmp_ge hx hb d_Mo_init_335 (tgt := 351) rfl (fun hc => absurd hc (by decide)) (fun _ => ?_)
  refine lv_aload_n hx hb d_Mo_init_338 rfl (lv_at hl 1 rfl) ?_
  have fd0_36_14 : rs_R σ51 b 36 = (b + 34) := by (simp (disch := first | exact rs_n11 rfl | exact rs_n01 | exact Nat.le_refl _ | exact rs_m11 rfl | exact rs_m01 rfl | exact rs_q11 rfl | exact rs_q01 rfl | exact rs_q10 rfl | exact rs_q00 rfl | exact rs_p11 rfl | exact rs_p01 rfl | exact rs_p10 rfl) only [eM51, rs_Rother, rs_RI, rs_Rmul]); exact fd0_36_13
  refine rs_getVZ C hH (kd := 11) (k := 36) (kr := 20) ok0_38 (by decide) fd0_36_14 ok34_38 tw_935 d_Mo_init_339 ?_
  refine lv_iload_n hx hb d_Mo_init_342 rfl (lv_at hl 0 rfl) ?_
  refine lv_iconst hx hb d_Mo_init_343 ki_m1 ?_
  refine rs_iastZ C hH hS ok34_38 (show vp_in (5 : Int32) (S38.2.2 (b + 34)) by rw [ln34_38]; unfold vp_in; decide) d_Mo_init_344 (fun σ52 H locs eM52 hH hS => ?_)
  replace eM52 : σ52 = rs_sI σ51 (b + 34) 5 (-1 : Int32) := by rw [eM52, show ((5 : Int32)).toNatClampNeg = 5 from by decide]
  refine lv_iinc hx hb d_Mo_init_345 hl (k := 0) rfl (v := (6 : Int32)) (by decide) (by decide) (lv' := [(1, .int (6 : Int32)), (0, .ref (Bm + b))]) rfl (fun ls hl => ?_)
  refine lv_goto hx hb d_Mo_init_348 (tgt := 332) rfl ?_
  refine lv_iload_n hx hb d_Mo_init_332 rfl (lv_at hl 0 rfl) ?_
  refine lv_bipush hx hb d_Mo_init_333 kb_48 ?_
  refine lv_icmp_ge hx hb d_Mo_init_335 (tgt := 351) rfl (fun hc => absurd hc (by decide)) (fun _ => ?_)
  refine lv_aload_n hx hb d_Mo_init_338 rfl (lv_at hl 1 rfl) ?_
  have fd0_36_15 : rs_R σ52 b 36 = (b + 34) := by (simp (disch := first | exact rs_n11 rfl | exact rs_n01 | exact Nat.le_refl _ | exact rs_m11 rfl | exact rs_m01 rfl | exact rs_q11 rfl | exact rs_q01 rfl | exact rs_q10 rfl | exact rs_q00 rfl | exact rs_p11 rfl | exact rs_p01 rfl | exact rs_p10 rfl) only [eM52, rs_Rother, rs_RI, rs_Rmul]); exact fd0_36_14
  refine rs_getVZ C hH (kd := 11) (k := 36) (kr := 20) ok0_38 (by decide) fd0_36_15 ok34_38 tw_935 d_Mo_init_339 ?_
  refine lv_iload_n hx hb d_Mo_init_342 rfl (lv_at hl 0 rfl) ?_
  refine lv_iconst hx hb d_Mo_init_343 ki_m1 ?_
  refine rs_iastZ C hH hS ok34_38 (show vp_in (6 : Int32) (S38.2.2 (b + 34)) by rw [ln34_38]; unfold vp_in; decide) d_Mo_init_344 (fun σ53 H locs eM53 hH hS => ?_)
  replace eM53 : σ53 = rs_sI σ52 (b + 34) 6 (-1 : Int32) := by rw [eM53, show ((6 : Int32)).toNatClampNeg = 6 from by decide]
  refine lv_iinc hx hb d_Mo_init_345 hl (k := 0) rfl (v := (7 : Int32)) (by decide) (by decide) (lv' := [(1, .int (7 : Int32)), (0, .ref (Bm + b))]) rfl (fun ls hl => ?_)
  refine lv_goto hx hb d_Mo_init_348 (tgt := 332) rfl ?_
  refine lv_iload_n hx hb d_Mo_init_332 rfl (lv_at hl 0 rfl) ?_
  refine lv_bipush hx hb d_Mo_init_333 kb_48 ?_
  refine lv_icmp_ge hx hb d_Mo_init_335 (tgt := 351) rfl (fun hc => absurd hc (by decide)) (fun _ => ?_)
  refine lv_aload_n hx hb d_Mo_init_338 rfl (lv_at hl 1 rfl) ?_
  have fd0_36_16 : rs_R σ53 b 36 = (b + 34) := by (simp (disch := first | exact rs_n11 rfl | exact rs_n01 | exact Nat.le_refl _ | exact rs_m11 rfl | exact rs_m01 rfl | exact rs_q11 rfl | exact rs_q01 rfl | exact rs_q10 rfl | exact rs_q00 rfl | exact rs_p11 rfl | exact rs_p01 rfl | exact rs_p10 rfl) only [eM53, rs_Rother, rs_RI, rs_Rmul]); exact fd0_36_15
  refine rs_getVZ C hH (kd := 11) (k := 36) (kr := 20) ok0_38 (by decide) fd0_36_16 ok34_38 tw_935 d_Mo_init_339 ?_
  refine lv_iload_n hx hb d_Mo_init_342 rfl (lv_at hl 0 rfl) ?_
  refine lv_iconst hx hb d_Mo_init_343 ki_m1 ?_
  refine rs_iastZ C hH hS ok34_38 (show vp_in (7 : Int32) (S38.2.2 (b + 34)) by rw [ln34_38]; unfold vp_in; decide) d_Mo_init_344 (fun σ54 H locs eM54 hH hS => ?_)
  replace eM54 : σ54 = rs_sI σ53 (b + 34) 7 (-1 : Int32) := by rw [eM54, show ((7 : Int32)).toNatClampNeg = 7 from by decide]
  refine lv_iinc hx hb d_Mo_init_345 hl (k := 0) rfl (v := (8 : Int32)) (by decide) (by decide) (lv' := [(1, .int (8 : Int32)), (0, .ref (Bm + b))]) rfl (fun ls hl => ?_)
  refine lv_goto hx hb d_Mo_init_348 (tgt := 332) rfl ?_
  refine lv_iload_n hx hb d_Mo_init_332 rfl (lv_at hl 0 rfl) ?_
  refine lv_bipush hx hb d_Mo_init_333 kb_48 ?_
  refine lv_icmp_ge hx hb d_Mo_init_335 (tgt := 351) rfl (fun hc => absurd hc (by decide)) (fun _ => ?_)
  refine lv_aload_n hx hb d_Mo_init_338 rfl (lv_at hl 1 rfl) ?_
  have fd0_36_17 : rs_R σ54 b 36 = (b + 34) := by (simp (disch := first | exact rs_n11 rfl | exact rs_n01 | exact Nat.le_refl _ | exact rs_m11 rfl | exact rs_m01 rfl | exact rs_q11 rfl | exact rs_q01 rfl | exact rs_q10 rfl | exact rs_q00 rfl | exact rs_p11 rfl | exact rs_p01 rfl | exact rs_p10 rfl) only [eM54, rs_Rother, rs_RI, rs_Rmul]); exact fd0_36_16
  refine rs_getVZ C hH (kd := 11) (k := 36) (kr := 20) ok0_38 (by decide) fd0_36_17 ok34_38 tw_935 d_Mo_init_339 ?_
  refine lv_iload_n hx hb d_Mo_init_342 rfl (lv_at hl 0 rfl) ?_
  refine lv_iconst hx hb d_Mo_init_343 ki_m1 ?_
  refine rs_iastZ C hH hS ok34_38 (show vp_in (8 : Int32) (S38.2.2 (b + 34)) by rw [ln34_38]; unfold vp_in; decide) d_Mo_init_344 (fun σ55 H locs eM55 hH hS => ?_)
  replace eM55 : σ55 = rs_sI σ54 (b + 34) 8 (-1 : Int32) := by rw [eM55, show ((8 : Int32)).toNatClampNeg = 8 from by decide]
  refine lv_iinc hx hb d_Mo_init_345 hl (k := 0) rfl (v := (9 : Int32)) (by decide) (by decide) (lv' := [(1, .int (9 : Int32)), (0, .ref (Bm + b))]) rfl (fun ls hl => ?_)
  refine lv_goto hx hb d_Mo_init_348 (tgt := 332) rfl ?_
  refine lv_iload_n hx hb d_Mo_init_332 rfl (lv_at hl 0 rfl) ?_
  refine lv_bipush hx hb d_Mo_init_333 kb_48 ?_
  refine lv_icmp_ge hx hb d_Mo_init_335 (tgt := 351) rfl (fun hc => absurd hc (by decide)) (fun _ => ?_)
  refine lv_aload_n hx hb d_Mo_init_338 rfl (lv_at hl 1 rfl) ?_
  have fd0_36_18 : rs_R σ55 b 36 = (b + 34) := by (simp (disch := first | exact rs_n11 rfl | exact rs_n01 | exact Nat.le_refl _ | exact rs_m11 rfl | exact rs_m01 rfl | exact rs_q11 rfl | exact rs_q01 rfl | exact rs_q10 rfl | exact rs_q00 rfl | exact rs_p11 rfl | exact rs_p01 rfl | exact rs_p10 rfl) only [eM55, rs_Rother, rs_RI, rs_Rmul]); exact fd0_36_17
  refine rs_getVZ C hH (kd := 11) (k := 36) (kr := 20) ok0_38 (by decide) fd0_36_18 ok34_38 tw_935 d_Mo_init_339 ?_
  refine lv_iload_n hx hb d_Mo_init_342 rfl (lv_at hl 0 rfl) ?_
  refine lv_iconst hx hb d_Mo_init_343 ki_m1 ?_
  refine rs_iastZ C hH hS ok34_38 (show vp_in (9 : Int32) (S38.2.2 (b + 34)) by rw [ln34_38]; unfold vp_in; decide) d_Mo_init_344 (fun σ56 H locs eM56 hH hS => ?_)
  replace eM56 : σ56 = rs_sI σ55 (b + 34) 9 (-1 : Int32) := by rw [eM56, show ((9 : Int32)).toNatClampNeg = 9 from by decide]
  refine lv_iinc hx hb d_Mo_init_345 hl (k := 0) rfl (v := (10 : Int32)) (by decide) (by decide) (lv' := [(1, .int (10 : Int32)), (0, .ref (Bm + b))]) rfl (fun ls hl => ?_)
  refine lv_goto hx hb d_Mo_init_348 (tgt := 332) rfl ?_
  refine lv_iload_n hx hb d_Mo_init_332 rfl (lv_at hl 0 rfl) ?_
  refine lv_bipush hx hb d_Mo_init_333 kb_48 ?_
  refine lv_icmp_ge hx hb d_Mo_init_335 (tgt := 351) rfl (fun hc => absurd hc (by decide)) (fun _ => ?_)
  refine lv_aload_n hx hb d_Mo_init_338 rfl (lv_at hl 1 rfl) ?_
  have fd0_36_19 : rs_R σ56 b 36 = (b + 34) := by (simp (disch := first | exact rs_n11 rfl | exact rs_n01 | exact Nat.le_refl _ | exact rs_m11 rfl | exact rs_m01 rfl | exact rs_q11 rfl | exact rs_q01 rfl | exact rs_q10 rfl | exact rs_q00 rfl | exact rs_p11 rfl | exact rs_p01 rfl | exact rs_p10 rfl) only [eM56, rs_Rother, rs_RI, rs_Rmul]); exact fd0_36_18
  refine rs_getVZ C hH (kd := 11) (k := 36) (kr := 20) ok0_38 (by decide) fd0_36_19 ok34_38 tw_935 d_Mo_init_339 ?_
  refine lv_iload_n hx hb d_Mo_init_342 rfl (lv_at hl 0 rfl) ?_
  refine lv_iconst hx hb d_Mo_init_343 ki_m1 ?_
  refine rs_iastZ C hH hS ok34_38 (show vp_in (10 : Int32) (S38.2.2 (b + 34)) by rw [ln34_38]; unfold vp_in; decide) d_Mo_init_344 (fun σ57 H locs eM57 hH hS => ?_)
  replace eM57 : σ57 = rs_sI σ56 (b + 34) 10 (-1 : Int32) := by rw [eM57, show ((10 : Int32)).toNatClampNeg = 10 from by decide]
  refine lv_iinc hx hb d_Mo_init_345 hl (k := 0) rfl (v := (11 : Int32)) (by decide) (by decide) (lv' := [(1, .int (11 : Int32)), (0, .ref (Bm + b))]) rfl (fun ls hl => ?_)
  refine lv_goto hx hb d_Mo_init_348 (tgt := 332) rfl ?_
  refine lv_iload_n hx hb d_Mo_init_332 rfl (lv_at hl 0 rfl) ?_
  refine lv_bipush hx hb d_Mo_init_333 kb_48 ?_
  refine lv_icmp_ge hx hb d_Mo_init_335 (tgt := 351) rfl (fun hc => absurd hc (by decide)) (fun _ => ?_)
  refine lv_aload_n hx hb d_Mo_init_338 rfl (lv_at hl 1 rfl) ?_
  have fd0_36_20 : rs_R σ57 b 36 = (b + 34) := by (simp (disch := first | exact rs_n11 rfl | exact rs_n01 | exact Nat.le_refl _ | exact rs_m11 rfl | exact rs_m01 rfl | exact rs_q11 rfl | exact rs_q01 rfl | exact rs_q10 rfl | exact rs_q00 rfl | exact rs_p11 rfl | exact rs_p01 rfl | exact rs_p10 rfl) only [eM57, rs_Rother, rs_RI, rs_Rmul]); exact fd0_36_19
  refine rs_getVZ C hH (kd := 11) (k := 36) (kr := 20) ok0_38 (by decide) fd0_36_20 ok34_38 tw_935 d_Mo_init_339 ?_
  refine lv_iload_n hx hb d_Mo_init_342 rfl (lv_at hl 0 rfl) ?_
  refine lv_iconst hx hb d_Mo_init_343 ki_m1 ?_
  refine rs_iastZ C hH hS ok34_38 (show vp_in (11 : Int32) (S38.2.2 (b + 34)) by rw [ln34_38]; unfold vp_in; decide) d_Mo_init_344 (fun σ58 H locs eM58 hH hS => ?_)
  replace eM58 : σ58 = rs_sI σ57 (b + 34) 11 (-1 : Int32) := by rw [eM58, show ((11 : Int32)).toNatClampNeg = 11 from by decide]
  refine lv_iinc hx hb d_Mo_init_345 hl (k := 0) rfl (v := (12 : Int32)) (by decide) (by decide) (lv' := [(1, .int (12 : Int32)), (0, .ref (Bm + b))]) rfl (fun ls hl => ?_)
  refine lv_goto hx hb d_Mo_init_348 (tgt := 332) rfl ?_
  refine lv_iload_n hx hb d_Mo_init_332 rfl (lv_at hl 0 rfl) ?_
  refine lv_bipush hx hb d_Mo_init_333 kb_48 ?_
  refine lv_icmp_ge hx hb d_Mo_init_335 (tgt := 351) rfl (fun hc => absurd hc (by decide)) (fun _ => ?_)
  refine lv_aload_n hx hb d_Mo_init_338 rfl (lv_at hl 1 rfl) ?_
  have fd0_36_21 : rs_R σ58 b 36 = (b + 34) := by (simp (disch := first | exact rs_n11 rfl | exact rs_n01 | exact Nat.le_refl _ | exact rs_m11 rfl | exact rs_m01 rfl | exact rs_q11 rfl | exact rs_q01 rfl | exact rs_q10 rfl | exact rs_q00 rfl | exact rs_p11 rfl | exact rs_p01 rfl | exact rs_p10 rfl) only [eM58, rs_Rother, rs_RI, rs_Rmul]); exact fd0_36_20
  refine rs_getVZ C hH (kd := 11) (k := 36) (kr := 20) ok0_38 (by decide) fd0_36_21 ok34_38 tw_935 d_Mo_init_339 ?_
  refine lv_iload_n hx hb d_Mo_init_342 rfl (lv_at hl 0 rfl) ?_
  refine lv_iconst hx hb d_Mo_init_343 ki_m1 ?_
  refine rs_iastZ C hH hS ok34_38 (show vp_in (12 : Int32) (S38.2.2 (b + 34)) by rw [ln34_38]; unfold vp_in; decide) d_Mo_init_344 (fun σ59 H locs eM59 hH hS => ?_)
  replace eM59 : σ59 = rs_sI σ58 (b + 34) 12 (-1 : Int32) := by rw [eM59, show ((12 : Int32)).toNatClampNeg = 12 from by decide]
  refine lv_iinc hx hb d_Mo_init_345 hl (k := 0) rfl (v := (13 : Int32)) (by decide) (by decide) (lv' := [(1, .int (13 : Int32)), (0, .ref (Bm + b))]) rfl (fun ls hl => ?_)
  refine lv_goto hx hb d_Mo_init_348 (tgt := 332) rfl ?_
  refine lv_iload_n hx hb d_Mo_init_332 rfl (lv_at hl 0 rfl) ?_
  refine lv_bipush hx hb d_Mo_init_333 kb_48 ?_
  refine lv_icmp_ge hx hb d_Mo_init_335 (tgt := 351) rfl (fun hc => absurd hc (by decide)) (fun _ => ?_)
  refine lv_aload_n hx hb d_Mo_init_338 rfl (lv_at hl 1 rfl) ?_
  have fd0_36_22 : rs_R σ59 b 36 = (b + 34) := by (simp (disch := first | exact rs_n11 rfl | exact rs_n01 | exact Nat.le_refl _ | exact rs_m11 rfl | exact rs_m01 rfl | exact rs_q11 rfl | exact rs_q01 rfl | exact rs_q10 rfl | exact rs_q00 rfl | exact rs_p11 rfl | exact rs_p01 rfl | exact rs_p10 rfl) only [eM59, rs_Rother, rs_RI, rs_Rmul]); exact fd0_36_21
  refine rs_getVZ C hH (kd := 11) (k := 36) (kr := 20) ok0_38 (by decide) fd0_36_22 ok34_38 tw_935 d_Mo_init_339 ?_
  refine lv_iload_n hx hb d_Mo_init_342 rfl (lv_at hl 0 rfl) ?_
  refine lv_iconst hx hb d_Mo_init_343 ki_m1 ?_
  refine rs_iastZ C hH hS ok34_38 (show vp_in (13 : Int32) (S38.2.2 (b + 34)) by rw [ln34_38]; unfold vp_in; decide) d_Mo_init_344 (fun σ60 H locs eM60 hH hS => ?_)
  replace eM60 : σ60 = rs_sI σ59 (b + 34) 13 (-1 : Int32) := by rw [eM60, show ((13 : Int32)).toNatClampNeg = 13 from by decide]
  refine lv_iinc hx hb d_Mo_init_345 hl (k := 0) rfl (v := (14 : Int32)) (by decide) (by decide) (lv' := [(1, .int (14 : Int32)), (0, .ref (Bm + b))]) rfl (fun ls hl => ?_)
  refine lv_goto hx hb d_Mo_init_348 (tgt := 332) rfl ?_
  refine lv_iload_n hx hb d_Mo_init_332 rfl (lv_at hl 0 rfl) ?_
  refine lv_bipush hx hb d_Mo_init_333 kb_48 ?_
  refine lv_icmp_ge hx hb d_Mo_init_335 (tgt := 351) rfl (fun hc => absurd hc (by decide)) (fun _ => ?_)
  refine lv_aload_n hx hb d_Mo_init_338 rfl (lv_at hl 1 rfl) ?_
  have fd0_36_23 : rs_R σ60 b 36 = (b + 34) := by (simp (disch := first | exact rs_n11 rfl | exact rs_n01 | exact Nat.le_refl _ | exact rs_m11 rfl | exact rs_m01 rfl | exact rs_q11 rfl | exact rs_q01 rfl | exact rs_q10 rfl | exact rs_q00 rfl | exact rs_p11 rfl | exact rs_p01 rfl | exact rs_p10 rfl) only [eM60, rs_Rother, rs_RI, rs_Rmul]); exact fd0_36_22
  refine rs_getVZ C hH (kd := 11) (k := 36) (kr := 20) ok0_38 (by decide) fd0_36_23 ok34_38 tw_935 d_Mo_init_339 ?_
  refine lv_iload_n hx hb d_Mo_init_342 rfl (lv_at hl 0 rfl) ?_
  refine lv_iconst hx hb d_Mo_init_343 ki_m1 ?_
  refine rs_iastZ C hH hS ok34_38 (show vp_in (14 : Int32) (S38.2.2 (b + 34)) by rw [ln34_38]; unfold vp_in; decide) d_Mo_init_344 (fun σ61 H locs eM61 hH hS => ?_)
  replace eM61 : σ61 = rs_sI σ60 (b + 34) 14 (-1 : Int32) := by rw [eM61, show ((14 : Int32)).toNatClampNeg = 14 from by decide]
  refine lv_iinc hx hb d_Mo_init_345 hl (k := 0) rfl (v := (15 : Int32)) (by decide) (by decide) (lv' := [(1, .int (15 : Int32)), (0, .ref (Bm + b))]) rfl (fun ls hl => ?_)
  refine lv_goto hx hb d_Mo_init_348 (tgt := 332) rfl ?_
  refine lv_iload_n hx hb d_Mo_init_332 rfl (lv_at hl 0 rfl) ?_
  refine lv_bipush hx hb d_Mo_init_333 kb_48 ?_
  refine lv_icmp_ge hx hb d_Mo_init_335 (tgt := 351) rfl (fun hc => absurd hc (by decide)) (fun _ => ?_)
  refine lv_aload_n hx hb d_Mo_init_338 rfl (lv_at hl 1 rfl) ?_
  have fd0_36_24 : rs_R σ61 b 36 = (b + 34) := by (simp (disch := first | exact rs_n11 rfl | exact rs_n01 | exact Nat.le_refl _ | exact rs_m11 rfl | exact rs_m01 rfl | exact rs_q11 rfl | exact rs_q01 rfl | exact rs_q10 rfl | exact rs_q00 rfl | exact rs_p11 rfl | exact rs_p01 rfl | exact rs_p10 rfl) only [eM61, rs_Rother, rs_RI, rs_Rmul]); exact fd0_36_23
  refine rs_getVZ C hH (kd := 11) (k := 36) (kr := 20) ok0_38 (by decide) fd0_36_24 ok34_38 tw_935 d_Mo_init_339 ?_
  refine lv_iload_n hx hb d_Mo_init_342 rfl (lv_at hl 0 rfl) ?_
  refine lv_iconst hx hb d_Mo_init_343 ki_m1 ?_
  refine rs_iastZ C hH hS ok34_38 (show vp_in (15 : Int32) (S38.2.2 (b + 34)) by rw [ln34_38]; unfold vp_in; decide) d_Mo_init_344 (fun σ62 H locs eM62 hH hS => ?_)
  replace eM62 : σ62 = rs_sI σ61 (b + 34) 15 (-1 : Int32) := by rw [eM62, show ((15 : Int32)).toNatClampNeg = 15 from by decide]
  refine lv_iinc hx hb d_Mo_init_345 hl (k := 0) rfl (v := (16 : Int32)) (by decide) (by decide) (lv' := [(1, .int (16 : Int32)), (0, .ref (Bm + b))]) rfl (fun ls hl => ?_)
  refine lv_goto hx hb d_Mo_init_348 (tgt := 332) rfl ?_
  refine lv_iload_n hx hb d_Mo_init_332 rfl (lv_at hl 0 rfl) ?_
  refine lv_bipush hx hb d_Mo_init_333 kb_48 ?_
  refine lv_icmp_ge hx hb d_Mo_init_335 (tgt := 351) rfl (fun hc => absurd hc (by decide)) (fun _ => ?_)
  refine lv_aload_n hx hb d_Mo_init_338 rfl (lv_at hl 1 rfl) ?_
  have fd0_36_25 : rs_R σ62 b 36 = (b + 34) := by (simp (disch := first | exact rs_n11 rfl | exact rs_n01 | exact Nat.le_refl _ | exact rs_m11 rfl | exact rs_m01 rfl | exact rs_q11 rfl | exact rs_q01 rfl | exact rs_q10 rfl | exact rs_q00 rfl | exact rs_p11 rfl | exact rs_p01 rfl | exact rs_p10 rfl) only [eM62, rs_Rother, rs_RI, rs_Rmul]); exact fd0_36_24
  refine rs_getVZ C hH (kd := 11) (k := 36) (kr := 20) ok0_38 (by decide) fd0_36_25 ok34_38 tw_935 d_Mo_init_339 ?_
  refine lv_iload_n hx hb d_Mo_init_342 rfl (lv_at hl 0 rfl) ?_
  refine lv_iconst hx hb d_Mo_init_343 ki_m1 ?_
  refine rs_iastZ C hH hS ok34_38 (show vp_in (16 : Int32) (S38.2.2 (b + 34)) by rw [ln34_38]; unfold vp_in; decide) d_Mo_init_344 (fun σ63 H locs eM63 hH hS => ?_)
  replace eM63 : σ63 = rs_sI σ62 (b + 34) 16 (-1 : Int32) := by rw [eM63, show ((16 : Int32)).toNatClampNeg = 16 from by decide]
  refine lv_iinc hx hb d_Mo_init_345 hl (k := 0) rfl (v := (17 : Int32)) (by decide) (by decide) (lv' := [(1, .int (17 : Int32)), (0, .ref (Bm + b))]) rfl (fun ls hl => ?_)
  refine lv_goto hx hb d_Mo_init_348 (tgt := 332) rfl ?_
  refine lv_iload_n hx hb d_Mo_init_332 rfl (lv_at hl 0 rfl) ?_
  refine lv_bipush hx hb d_Mo_init_333 kb_48 ?_
  refine lv_icmp_ge hx hb d_Mo_init_335 (tgt := 351) rfl (fun hc => absurd hc (by decide)) (fun _ => ?_)
  refine lv_aload_n hx hb d_Mo_init_338 rfl (lv_at hl 1 rfl) ?_
  have fd0_36_26 : rs_R σ63 b 36 = (b + 34) := by (simp (disch := first | exact rs_n11 rfl | exact rs_n01 | exact Nat.le_refl _ | exact rs_m11 rfl | exact rs_m01 rfl | exact rs_q11 rfl | exact rs_q01 rfl | exact rs_q10 rfl | exact rs_q00 rfl | exact rs_p11 rfl | exact rs_p01 rfl | exact rs_p10 rfl) only [eM63, rs_Rother, rs_RI, rs_Rmul]); exact fd0_36_25
  refine rs_getVZ C hH (kd := 11) (k := 36) (kr := 20) ok0_38 (by decide) fd0_36_26 ok34_38 tw_935 d_Mo_init_339 ?_
  refine lv_iload_n hx hb d_Mo_init_342 rfl (lv_at hl 0 rfl) ?_
  refine lv_iconst hx hb d_Mo_init_343 ki_m1 ?_
  refine rs_iastZ C hH hS ok34_38 (show vp_in (17 : Int32) (S38.2.2 (b + 34)) by rw [ln34_38]; unfold vp_in; decide) d_Mo_init_344 (fun σ64 H locs eM64 hH hS => ?_)
  replace eM64 : σ64 = rs_sI σ63 (b + 34) 17 (-1 : Int32) := by rw [eM64, show ((17 : Int32)).toNatClampNeg = 17 from by decide]
  refine lv_iinc hx hb d_Mo_init_345 hl (k := 0) rfl (v := (18 : Int32)) (by decide) (by decide) (lv' := [(1, .int (18 : Int32)), (0, .ref (Bm + b))]) rfl (fun ls hl => ?_)
  refine lv_goto hx hb d_Mo_init_348 (tgt := 332) rfl ?_
  refine lv_iload_n hx hb d_Mo_init_332 rfl (lv_at hl 0 rfl) ?_
  refine lv_bipush hx hb d_Mo_init_333 kb_48 ?_
  refine lv_icmp_ge hx hb d_Mo_init_335 (tgt := 351) rfl (fun hc => absurd hc (by decide)) (fun _ => ?_)
  refine lv_aload_n hx hb d_Mo_init_338 rfl (lv_at hl 1 rfl) ?_
  have fd0_36_27 : rs_R σ64 b 36 = (b + 34) := by (simp (disch := first | exact rs_n11 rfl | exact rs_n01 | exact Nat.le_refl _ | exact rs_m11 rfl | exact rs_m01 rfl | exact rs_q11 rfl | exact rs_q01 rfl | exact rs_q10 rfl | exact rs_q00 rfl | exact rs_p11 rfl | exact rs_p01 rfl | exact rs_p10 rfl) only [eM64, rs_Rother, rs_RI, rs_Rmul]); exact fd0_36_26
  refine rs_getVZ C hH (kd := 11) (k := 36) (kr := 20) ok0_38 (by decide) fd0_36_27 ok34_38 tw_935 d_Mo_init_339 ?_
  refine lv_iload_n hx hb d_Mo_init_342 rfl (lv_at hl 0 rfl) ?_
  refine lv_iconst hx hb d_Mo_init_343 ki_m1 ?_
  refine rs_iastZ C hH hS ok34_38 (show vp_in (18 : Int32) (S38.2.2 (b + 34)) by rw [ln34_38]; unfold vp_in; decide) d_Mo_init_344 (fun σ65 H locs eM65 hH hS => ?_)
  replace eM65 : σ65 = rs_sI σ64 (b + 34) 18 (-1 : Int32) := by rw [eM65, show ((18 : Int32)).toNatClampNeg = 18 from by decide]
  refine lv_iinc hx hb d_Mo_init_345 hl (k := 0) rfl (v := (19 : Int32)) (by decide) (by decide) (lv' := [(1, .int (19 : Int32)), (0, .ref (Bm + b))]) rfl (fun ls hl => ?_)
  refine lv_goto hx hb d_Mo_init_348 (tgt := 332) rfl ?_
  refine lv_iload_n hx hb d_Mo_init_332 rfl (lv_at hl 0 rfl) ?_
  refine lv_bipush hx hb d_Mo_init_333 kb_48 ?_
  refine lv_icmp_ge hx hb d_Mo_init_335 (tgt := 351) rfl (fun hc => absurd hc (by decide)) (fun _ => ?_)
  refine lv_aload_n hx hb d_Mo_init_338 rfl (lv_at hl 1 rfl) ?_
  have fd0_36_28 : rs_R σ65 b 36 = (b + 34) := by (simp (disch := first | exact rs_n11 rfl | exact rs_n01 | exact Nat.le_refl _ | exact rs_m11 rfl | exact rs_m01 rfl | exact rs_q11 rfl | exact rs_q01 rfl | exact rs_q10 rfl | exact rs_q00 rfl | exact rs_p11 rfl | exact rs_p01 rfl | exact rs_p10 rfl) only [eM65, rs_Rother, rs_RI, rs_Rmul]); exact fd0_36_27
  refine rs_getVZ C hH (kd := 11) (k := 36) (kr := 20) ok0_38 (by decide) fd0_36_28 ok34_38 tw_935 d_Mo_init_339 ?_
  refine lv_iload_n hx hb d_Mo_init_342 rfl (lv_at hl 0 rfl) ?_
  refine lv_iconst hx hb d_Mo_init_343 ki_m1 ?_
  refine rs_iastZ C hH hS ok34_38 (show vp_in (19 : Int32) (S38.2.2 (b + 34)) by rw [ln34_38]; unfold vp_in; decide) d_Mo_init_344 (fun σ66 H locs eM66 hH hS => ?_)
  replace eM66 : σ66 = rs_sI σ65 (b + 34) 19 (-1 : Int32) := by rw [eM66, show ((19 : Int32)).toNatClampNeg = 19 from by decide]
  refine lv_iinc hx hb d_Mo_init_345 hl (k := 0) rfl (v := (20 : Int32)) (by decide) (by decide) (lv' := [(1, .int (20 : Int32)), (0, .ref (Bm + b))]) rfl (fun ls hl => ?_)
  refine lv_goto hx hb d_Mo_init_348 (tgt := 332) rfl ?_
  refine lv_iload_n hx hb d_Mo_init_332 rfl (lv_at hl 0 rfl) ?_
  refine lv_bipush hx hb d_Mo_init_333 kb_48 ?_
  refine lv_icmp_ge hx hb d_Mo_init_335 (tgt := 351) rfl (fun hc => absurd hc (by decide)) (fun _ => ?_)
  refine lv_aload_n hx hb d_Mo_init_338 rfl (lv_at hl 1 rfl) ?_
  have fd0_36_29 : rs_R σ66 b 36 = (b + 34) := by (simp (disch := first | exact rs_n11 rfl | exact rs_n01 | exact Nat.le_refl _ | exact rs_m11 rfl | exact rs_m01 rfl | exact rs_q11 rfl | exact rs_q01 rfl | exact rs_q10 rfl | exact rs_q00 rfl | exact rs_p11 rfl | exact rs_p01 rfl | exact rs_p10 rfl) only [eM66, rs_Rother, rs_RI, rs_Rmul]); exact fd0_36_28
  refine rs_getVZ C hH (kd := 11) (k := 36) (kr := 20) ok0_38 (by decide) fd0_36_29 ok34_38 tw_935 d_Mo_init_339 ?_
  refine lv_iload_n hx hb d_Mo_init_342 rfl (lv_at hl 0 rfl) ?_
  refine lv_iconst hx hb d_Mo_init_343 ki_m1 ?_
  refine rs_iastZ C hH hS ok34_38 (show vp_in (20 : Int32) (S38.2.2 (b + 34)) by rw [ln34_38]; unfold vp_in; decide) d_Mo_init_344 (fun σ67 H locs eM67 hH hS => ?_)
  replace eM67 : σ67 = rs_sI σ66 (b + 34) 20 (-1 : Int32) := by rw [eM67, show ((20 : Int32)).toNatClampNeg = 20 from by decide]
  refine lv_iinc hx hb d_Mo_init_345 hl (k := 0) rfl (v := (21 : Int32)) (by decide) (by decide) (lv' := [(1, .int (21 : Int32)), (0, .ref (Bm + b))]) rfl (fun ls hl => ?_)
  refine lv_goto hx hb d_Mo_init_348 (tgt := 332) rfl ?_
  refine lv_iload_n hx hb d_Mo_init_332 rfl (lv_at hl 0 rfl) ?_
  refine lv_bipush hx hb d_Mo_init_333 kb_48 ?_
  refine lv_icmp_ge hx hb d_Mo_init_335 (tgt := 351) rfl (fun hc => absurd hc (by decide)) (fun _ => ?_)
  refine lv_aload_n hx hb d_Mo_init_338 rfl (lv_at hl 1 rfl) ?_
  have fd0_36_30 : rs_R σ67 b 36 = (b + 34) := by (simp (disch := first | exact rs_n11 rfl | exact rs_n01 | exact Nat.le_refl _ | exact rs_m11 rfl | exact rs_m01 rfl | exact rs_q11 rfl | exact rs_q01 rfl | exact rs_q10 rfl | exact rs_q00 rfl | exact rs_p11 rfl | exact rs_p01 rfl | exact rs_p10 rfl) only [eM67, rs_Rother, rs_RI, rs_Rmul]); exact fd0_36_29
  refine rs_getVZ C hH (kd := 11) (k := 36) (kr := 20) ok0_38 (by decide) fd0_36_30 ok34_38 tw_935 d_Mo_init_339 ?_
  refine lv_iload_n hx hb d_Mo_init_342 rfl (lv_at hl 0 rfl) ?_
  refine lv_iconst hx hb d_Mo_init_343 ki_m1 ?_
  refine rs_iastZ C hH hS ok34_38 (show vp_in (21 : Int32) (S38.2.2 (b + 34)) by rw [ln34_38]; unfold vp_in; decide) d_Mo_init_344 (fun σ68 H locs eM68 hH hS => ?_)
  replace eM68 : σ68 = rs_sI σ67 (b + 34) 21 (-1 : Int32) := by rw [eM68, show ((21 : Int32)).toNatClampNeg = 21 from by decide]
  refine lv_iinc hx hb d_Mo_init_345 hl (k := 0) rfl (v := (22 : Int32)) (by decide) (by decide) (lv' := [(1, .int (22 : Int32)), (0, .ref (Bm + b))]) rfl (fun ls hl => ?_)
  refine lv_goto hx hb d_Mo_init_348 (tgt := 332) rfl ?_
  refine lv_iload_n hx hb d_Mo_init_332 rfl (lv_at hl 0 rfl) ?_
  refine lv_bipush hx hb d_Mo_init_333 kb_48 ?_
  refine lv_icmp_ge hx hb d_Mo_init_335 (tgt := 351) rfl (fun hc => absurd hc (by decide)) (fun _ => ?_)
  refine lv_aload_n hx hb d_Mo_init_338 rfl (lv_at hl 1 rfl) ?_
  have fd0_36_31 : rs_R σ68 b 36 = (b + 34) := by (simp (disch := first | exact rs_n11 rfl | exact rs_n01 | exact Nat.le_refl _ | exact rs_m11 rfl | exact rs_m01 rfl | exact rs_q11 rfl | exact rs_q01 rfl | exact rs_q10 rfl | exact rs_q00 rfl | exact rs_p11 rfl | exact rs_p01 rfl | exact rs_p10 rfl) only [eM68, rs_Rother, rs_RI, rs_Rmul]); exact fd0_36_30
  refine rs_getVZ C hH (kd := 11) (k := 36) (kr := 20) ok0_38 (by decide) fd0_36_31 ok34_38 tw_935 d_Mo_init_339 ?_
  refine lv_iload_n hx hb d_Mo_init_342 rfl (lv_at hl 0 rfl) ?_
  refine lv_iconst hx hb d_Mo_init_343 ki_m1 ?_
  refine rs_iastZ C hH hS ok34_38 (show vp_in (22 : Int32) (S38.2.2 (b + 34)) by rw [ln34_38]; unfold vp_in; decide) d_Mo_init_344 (fun σ69 H locs eM69 hH hS => ?_)
  replace eM69 : σ69 = rs_sI σ68 (b + 34) 22 (-1 : Int32) := by rw [eM69, show ((22 : Int32)).toNatClampNeg = 22 from by decide]
  refine lv_iinc hx hb d_Mo_init_345 hl (k := 0) rfl (v := (23 : Int32)) (by decide) (by decide) (lv' := [(1, .int (23 : Int32)), (0, .ref (Bm + b))]) rfl (fun ls hl => ?_)
  refine lv_goto hx hb d_Mo_init_348 (tgt := 332) rfl ?_
  refine lv_iload_n hx hb d_Mo_init_332 rfl (lv_at hl 0 rfl) ?_
  refine lv_bipush hx hb d_Mo_init_333 kb_48 ?_
  refine lv_icmp_ge hx hb d_Mo_init_335 (tgt := 351) rfl (fun hc => absurd hc (by decide)) (fun _ => ?_)
  refine lv_aload_n hx hb d_Mo_init_338 rfl (lv_at hl 1 rfl) ?_
  have fd0_36_32 : rs_R σ69 b 36 = (b + 34) := by (simp (disch := first | exact rs_n11 rfl | exact rs_n01 | exact Nat.le_refl _ | exact rs_m11 rfl | exact rs_m01 rfl | exact rs_q11 rfl | exact rs_q01 rfl | exact rs_q10 rfl | exact rs_q00 rfl | exact rs_p11 rfl | exact rs_p01 rfl | exact rs_p10 rfl) only [eM69, rs_Rother, rs_RI, rs_Rmul]); exact fd0_36_31
  refine rs_getVZ C hH (kd := 11) (k := 36) (kr := 20) ok0_38 (by decide) fd0_36_32 ok34_38 tw_935 d_Mo_init_339 ?_
  refine lv_iload_n hx hb d_Mo_init_342 rfl (lv_at hl 0 rfl) ?_
  refine lv_iconst hx hb d_Mo_init_343 ki_m1 ?_
  refine rs_iastZ C hH hS ok34_38 (show vp_in (23 : Int32) (S38.2.2 (b + 34)) by rw [ln34_38]; unfold vp_in; decide) d_Mo_init_344 (fun σ70 H locs eM70 hH hS => ?_)
  replace eM70 : σ70 = rs_sI σ69 (b + 34) 23 (-1 : Int32) := by rw [eM70, show ((23 : Int32)).toNatClampNeg = 23 from by decide]
  refine lv_iinc hx hb d_Mo_init_345 hl (k := 0) rfl (v := (24 : Int32)) (by decide) (by decide) (lv' := [(1, .int (24 : Int32)), (0, .ref (Bm + b))]) rfl (fun ls hl => ?_)
  refine lv_goto hx hb d_Mo_init_348 (tgt := 332) rfl ?_
  refine lv_iload_n hx hb d_Mo_init_332 rfl (lv_at hl 0 rfl) ?_
  refine lv_bipush hx hb d_Mo_init_333 kb_48 ?_
  refine lv_icmp_ge hx hb d_Mo_init_335 (tgt := 351) rfl (fun hc => absurd hc (by decide)) (fun _ => ?_)
  refine lv_aload_n hx hb d_Mo_init_338 rfl (lv_at hl 1 rfl) ?_
  have fd0_36_33 : rs_R σ70 b 36 = (b + 34) := by (simp (disch := first | exact rs_n11 rfl | exact rs_n01 | exact Nat.le_refl _ | exact rs_m11 rfl | exact rs_m01 rfl | exact rs_q11 rfl | exact rs_q01 rfl | exact rs_q10 rfl | exact rs_q00 rfl | exact rs_p11 rfl | exact rs_p01 rfl | exact rs_p10 rfl) only [eM70, rs_Rother, rs_RI, rs_Rmul]); exact fd0_36_32
  refine rs_getVZ C hH (kd := 11) (k := 36) (kr := 20) ok0_38 (by decide) fd0_36_33 ok34_38 tw_935 d_Mo_init_339 ?_
  refine lv_iload_n hx hb d_Mo_init_342 rfl (lv_at hl 0 rfl) ?_
  refine lv_iconst hx hb d_Mo_init_343 ki_m1 ?_
  refine rs_iastZ C hH hS ok34_38 (show vp_in (24 : Int32) (S38.2.2 (b + 34)) by rw [ln34_38]; unfold vp_in; decide) d_Mo_init_344 (fun σ71 H locs eM71 hH hS => ?_)
  replace eM71 : σ71 = rs_sI σ70 (b + 34) 24 (-1 : Int32) := by rw [eM71, show ((24 : Int32)).toNatClampNeg = 24 from by decide]
  refine lv_iinc hx hb d_Mo_init_345 hl (k := 0) rfl (v := (25 : Int32)) (by decide) (by decide) (lv' := [(1, .int (25 : Int32)), (0, .ref (Bm + b))]) rfl (fun ls hl => ?_)
  refine lv_goto hx hb d_Mo_init_348 (tgt := 332) rfl ?_
  refine lv_iload_n hx hb d_Mo_init_332 rfl (lv_at hl 0 rfl) ?_
  refine lv_bipush hx hb d_Mo_init_333 kb_48 ?_
  refine lv_icmp_ge hx hb d_Mo_init_335 (tgt := 351) rfl (fun hc => absurd hc (by decide)) (fun _ => ?_)
  refine lv_aload_n hx hb d_Mo_init_338 rfl (lv_at hl 1 rfl) ?_
  have fd0_36_34 : rs_R σ71 b 36 = (b + 34) := by (simp (disch := first | exact rs_n11 rfl | exact rs_n01 | exact Nat.le_refl _ | exact rs_m11 rfl | exact rs_m01 rfl | exact rs_q11 rfl | exact rs_q01 rfl | exact rs_q10 rfl | exact rs_q00 rfl | exact rs_p11 rfl | exact rs_p01 rfl | exact rs_p10 rfl) only [eM71, rs_Rother, rs_RI, rs_Rmul]); exact fd0_36_33
  refine rs_getVZ C hH (kd := 11) (k := 36) (kr := 20) ok0_38 (by decide) fd0_36_34 ok34_38 tw_935 d_Mo_init_339 ?_
  refine lv_iload_n hx hb d_Mo_init_342 rfl (lv_at hl 0 rfl) ?_
  refine lv_iconst hx hb d_Mo_init_343 ki_m1 ?_
  refine rs_iastZ C hH hS ok34_38 (show vp_in (25 : Int32) (S38.2.2 (b + 34)) by rw [ln34_38]; unfold vp_in; decide) d_Mo_init_344 (fun σ72 H locs eM72 hH hS => ?_)
  replace eM72 : σ72 = rs_sI σ71 (b + 34) 25 (-1 : Int32) := by rw [eM72, show ((25 : Int32)).toNatClampNeg = 25 from by decide]
  refine lv_iinc hx hb d_Mo_init_345 hl (k := 0) rfl (v := (26 : Int32)) (by decide) (by decide) (lv' := [(1, .int (26 : Int32)), (0, .ref (Bm + b))]) rfl (fun ls hl => ?_)
  refine lv_goto hx hb d_Mo_init_348 (tgt := 332) rfl ?_
  refine lv_iload_n hx hb d_Mo_init_332 rfl (lv_at hl 0 rfl) ?_
  refine lv_bipush hx hb d_Mo_init_333 kb_48 ?_
  refine lv_icmp_ge hx hb d_Mo_init_335 (tgt := 351) rfl (fun hc => absurd hc (by decide)) (fun _ => ?_)
  refine lv_aload_n hx hb d_Mo_init_338 rfl (lv_at hl 1 rfl) ?_
  have fd0_36_35 : rs_R σ72 b 36 = (b + 34) := by (simp (disch := first | exact rs_n11 rfl | exact rs_n01 | exact Nat.le_refl _ | exact rs_m11 rfl | exact rs_m01 rfl | exact rs_q11 rfl | exact rs_q01 rfl | exact rs_q10 rfl | exact rs_q00 rfl | exact rs_p11 rfl | exact rs_p01 rfl | exact rs_p10 rfl) only [eM72, rs_Rother, rs_RI, rs_Rmul]); exact fd0_36_34
  refine rs_getVZ C hH (kd := 11) (k := 36) (kr := 20) ok0_38 (by decide) fd0_36_35 ok34_38 tw_935 d_Mo_init_339 ?_
  refine lv_iload_n hx hb d_Mo_init_342 rfl (lv_at hl 0 rfl) ?_
  refine lv_iconst hx hb d_Mo_init_343 ki_m1 ?_
  refine rs_iastZ C hH hS ok34_38 (show vp_in (26 : Int32) (S38.2.2 (b + 34)) by rw [ln34_38]; unfold vp_in; decide) d_Mo_init_344 (fun σ73 H locs eM73 hH hS => ?_)
  replace eM73 : σ73 = rs_sI σ72 (b + 34) 26 (-1 : Int32) := by rw [eM73, show ((26 : Int32)).toNatClampNeg = 26 from by decide]
  refine lv_iinc hx hb d_Mo_init_345 hl (k := 0) rfl (v := (27 : Int32)) (by decide) (by decide) (lv' := [(1, .int (27 : Int32)), (0, .ref (Bm + b))]) rfl (fun ls hl => ?_)
  refine lv_goto hx hb d_Mo_init_348 (tgt := 332) rfl ?_
  refine lv_iload_n hx hb d_Mo_init_332 rfl (lv_at hl 0 rfl) ?_
  refine lv_bipush hx hb d_Mo_init_333 kb_48 ?_
  refine lv_icmp_ge hx hb d_Mo_init_335 (tgt := 351) rfl (fun hc => absurd hc (by decide)) (fun _ => ?_)
  refine lv_aload_n hx hb d_Mo_init_338 rfl (lv_at hl 1 rfl) ?_
  have fd0_36_36 : rs_R σ73 b 36 = (b + 34) := by (simp (disch := first | exact rs_n11 rfl | exact rs_n01 | exact Nat.le_refl _ | exact rs_m11 rfl | exact rs_m01 rfl | exact rs_q11 rfl | exact rs_q01 rfl | exact rs_q10 rfl | exact rs_q00 rfl | exact rs_p11 rfl | exact rs_p01 rfl | exact rs_p10 rfl) only [eM73, rs_Rother, rs_RI, rs_Rmul]); exact fd0_36_35
  refine rs_getVZ C hH (kd := 11) (k := 36) (kr := 20) ok0_38 (by decide) fd0_36_36 ok34_38 tw_935 d_Mo_init_339 ?_
  refine lv_iload_n hx hb d_Mo_init_342 rfl (lv_at hl 0 rfl) ?_
  refine lv_iconst hx hb d_Mo_init_343 ki_m1 ?_
  refine rs_iastZ C hH hS ok34_38 (show vp_in (27 : Int32) (S38.2.2 (b + 34)) by rw [ln34_38]; unfold vp_in; decide) d_Mo_init_344 (fun σ74 H locs eM74 hH hS => ?_)
  replace eM74 : σ74 = rs_sI σ73 (b + 34) 27 (-1 : Int32) := by rw [eM74, show ((27 : Int32)).toNatClampNeg = 27 from by decide]
  refine lv_iinc hx hb d_Mo_init_345 hl (k := 0) rfl (v := (28 : Int32)) (by decide) (by decide) (lv' := [(1, .int (28 : Int32)), (0, .ref (Bm + b))]) rfl (fun ls hl => ?_)
  refine lv_goto hx hb d_Mo_init_348 (tgt := 332) rfl ?_
  refine lv_iload_n hx hb d_Mo_init_332 rfl (lv_at hl 0 rfl) ?_
  refine lv_bipush hx hb d_Mo_init_333 kb_48 ?_
  refine lv_icmp_ge hx hb d_Mo_init_335 (tgt := 351) rfl (fun hc => absurd hc (by decide)) (fun _ => ?_)
  refine lv_aload_n hx hb d_Mo_init_338 rfl (lv_at hl 1 rfl) ?_
  have fd0_36_37 : rs_R σ74 b 36 = (b + 34) := by (simp (disch := first | exact rs_n11 rfl | exact rs_n01 | exact Nat.le_refl _ | exact rs_m11 rfl | exact rs_m01 rfl | exact rs_q11 rfl | exact rs_q01 rfl | exact rs_q10 rfl | exact rs_q00 rfl | exact rs_p11 rfl | exact rs_p01 rfl | exact rs_p10 rfl) only [eM74, rs_Rother, rs_RI, rs_Rmul]); exact fd0_36_36
  refine rs_getVZ C hH (kd := 11) (k := 36) (kr := 20) ok0_38 (by decide) fd0_36_37 ok34_38 tw_935 d_Mo_init_339 ?_
  refine lv_iload_n hx hb d_Mo_init_342 rfl (lv_at hl 0 rfl) ?_
  refine lv_iconst hx hb d_Mo_init_343 ki_m1 ?_
  refine rs_iastZ C hH hS ok34_38 (show vp_in (28 : Int32) (S38.2.2 (b + 34)) by rw [ln34_38]; unfold vp_in; decide) d_Mo_init_344 (fun σ75 H locs eM75 hH hS => ?_)
  replace eM75 : σ75 = rs_sI σ74 (b + 34) 28 (-1 : Int32) := by rw [eM75, show ((28 : Int32)).toNatClampNeg = 28 from by decide]
  refine lv_iinc hx hb d_Mo_init_345 hl (k := 0) rfl (v := (29 : Int32)) (by decide) (by decide) (lv' := [(1, .int (29 : Int32)), (0, .ref (Bm + b))]) rfl (fun ls hl => ?_)
  refine lv_goto hx hb d_Mo_init_348 (tgt := 332) rfl ?_
  refine lv_iload_n hx hb d_Mo_init_332 rfl (lv_at hl 0 rfl) ?_
  refine lv_bipush hx hb d_Mo_init_333 kb_48 ?_
  refine lv_icmp_ge hx hb d_Mo_init_335 (tgt := 351) rfl (fun hc => absurd hc (by decide)) (fun _ => ?_)
  refine lv_aload_n hx hb d_Mo_init_338 rfl (lv_at hl 1 rfl) ?_
  have fd0_36_38 : rs_R σ75 b 36 = (b + 34) := by (simp (disch := first | exact rs_n11 rfl | exact rs_n01 | exact Nat.le_refl _ | exact rs_m11 rfl | exact rs_m01 rfl | exact rs_q11 rfl | exact rs_q01 rfl | exact rs_q10 rfl | exact rs_q00 rfl | exact rs_p11 rfl | exact rs_p01 rfl | exact rs_p10 rfl) only [eM75, rs_Rother, rs_RI, rs_Rmul]); exact fd0_36_37
  refine rs_getVZ C hH (kd := 11) (k := 36) (kr := 20) ok0_38 (by decide) fd0_36_38 ok34_38 tw_935 d_Mo_init_339 ?_
  refine lv_iload_n hx hb d_Mo_init_342 rfl (lv_at hl 0 rfl) ?_
  refine lv_iconst hx hb d_Mo_init_343 ki_m1 ?_
  refine rs_iastZ C hH hS ok34_38 (show vp_in (29 : Int32) (S38.2.2 (b + 34)) by rw [ln34_38]; unfold vp_in; decide) d_Mo_init_344 (fun σ76 H locs eM76 hH hS => ?_)
  replace eM76 : σ76 = rs_sI σ75 (b + 34) 29 (-1 : Int32) := by rw [eM76, show ((29 : Int32)).toNatClampNeg = 29 from by decide]
  refine lv_iinc hx hb d_Mo_init_345 hl (k := 0) rfl (v := (30 : Int32)) (by decide) (by decide) (lv' := [(1, .int (30 : Int32)), (0, .ref (Bm + b))]) rfl (fun ls hl => ?_)
  refine lv_goto hx hb d_Mo_init_348 (tgt := 332) rfl ?_
  refine lv_iload_n hx hb d_Mo_init_332 rfl (lv_at hl 0 rfl) ?_
  refine lv_bipush hx hb d_Mo_init_333 kb_48 ?_
  refine lv_icmp_ge hx hb d_Mo_init_335 (tgt := 351) rfl (fun hc => absurd hc (by decide)) (fun _ => ?_)
  refine lv_aload_n hx hb d_Mo_init_338 rfl (lv_at hl 1 rfl) ?_
  have fd0_36_39 : rs_R σ76 b 36 = (b + 34) := by (simp (disch := first | exact rs_n11 rfl | exact rs_n01 | exact Nat.le_refl _ | exact rs_m11 rfl | exact rs_m01 rfl | exact rs_q11 rfl | exact rs_q01 rfl | exact rs_q10 rfl | exact rs_q00 rfl | exact rs_p11 rfl | exact rs_p01 rfl | exact rs_p10 rfl) only [eM76, rs_Rother, rs_RI, rs_Rmul]); exact fd0_36_38
  refine rs_getVZ C hH (kd := 11) (k := 36) (kr := 20) ok0_38 (by decide) fd0_36_39 ok34_38 tw_935 d_Mo_init_339 ?_
  refine lv_iload_n hx hb d_Mo_init_342 rfl (lv_at hl 0 rfl) ?_
  refine lv_iconst hx hb d_Mo_init_343 ki_m1 ?_
  refine rs_iastZ C hH hS ok34_38 (show vp_in (30 : Int32) (S38.2.2 (b + 34)) by rw [ln34_38]; unfold vp_in; decide) d_Mo_init_344 (fun σ77 H locs eM77 hH hS => ?_)
  replace eM77 : σ77 = rs_sI σ76 (b + 34) 30 (-1 : Int32) := by rw [eM77, show ((30 : Int32)).toNatClampNeg = 30 from by decide]
  refine lv_iinc hx hb d_Mo_init_345 hl (k := 0) rfl (v := (31 : Int32)) (by decide) (by decide) (lv' := [(1, .int (31 : Int32)), (0, .ref (Bm + b))]) rfl (fun ls hl => ?_)
  refine lv_goto hx hb d_Mo_init_348 (tgt := 332) rfl ?_
  refine lv_iload_n hx hb d_Mo_init_332 rfl (lv_at hl 0 rfl) ?_
  refine lv_bipush hx hb d_Mo_init_333 kb_48 ?_
  refine lv_icmp_ge hx hb d_Mo_init_335 (tgt := 351) rfl (fun hc => absurd hc (by decide)) (fun _ => ?_)
  refine lv_aload_n hx hb d_Mo_init_338 rfl (lv_at hl 1 rfl) ?_
  have fd0_36_40 : rs_R σ77 b 36 = (b + 34) := by (simp (disch := first | exact rs_n11 rfl | exact rs_n01 | exact Nat.le_refl _ | exact rs_m11 rfl | exact rs_m01 rfl | exact rs_q11 rfl | exact rs_q01 rfl | exact rs_q10 rfl | exact rs_q00 rfl | exact rs_p11 rfl | exact rs_p01 rfl | exact rs_p10 rfl) only [eM77, rs_Rother, rs_RI, rs_Rmul]); exact fd0_36_39
  refine rs_getVZ C hH (kd := 11) (k := 36) (kr := 20) ok0_38 (by decide) fd0_36_40 ok34_38 tw_935 d_Mo_init_339 ?_
  refine lv_iload_n hx hb d_Mo_init_342 rfl (lv_at hl 0 rfl) ?_
  refine lv_iconst hx hb d_Mo_init_343 ki_m1 ?_
  refine rs_iastZ C hH hS ok34_38 (show vp_in (31 : Int32) (S38.2.2 (b + 34)) by rw [ln34_38]; unfold vp_in; decide) d_Mo_init_344 (fun σ78 H locs eM78 hH hS => ?_)
  replace eM78 : σ78 = rs_sI σ77 (b + 34) 31 (-1 : Int32) := by rw [eM78, show ((31 : Int32)).toNatClampNeg = 31 from by decide]
  refine lv_iinc hx hb d_Mo_init_345 hl (k := 0) rfl (v := (32 : Int32)) (by decide) (by decide) (lv' := [(1, .int (32 : Int32)), (0, .ref (Bm + b))]) rfl (fun ls hl => ?_)
  refine lv_goto hx hb d_Mo_init_348 (tgt := 332) rfl ?_
  refine lv_iload_n hx hb d_Mo_init_332 rfl (lv_at hl 0 rfl) ?_
  refine lv_bipush hx hb d_Mo_init_333 kb_48 ?_
  refine lv_icmp_ge hx hb d_Mo_init_335 (tgt := 351) rfl (fun hc => absurd hc (by decide)) (fun _ => ?_)
  refine lv_aload_n hx hb d_Mo_init_338 rfl (lv_at hl 1 rfl) ?_
  have fd0_36_41 : rs_R σ78 b 36 = (b + 34) := by (simp (disch := first | exact rs_n11 rfl | exact rs_n01 | exact Nat.le_refl _ | exact rs_m11 rfl | exact rs_m01 rfl | exact rs_q11 rfl | exact rs_q01 rfl | exact rs_q10 rfl | exact rs_q00 rfl | exact rs_p11 rfl | exact rs_p01 rfl | exact rs_p10 rfl) only [eM78, rs_Rother, rs_RI, rs_Rmul]); exact fd0_36_40
  refine rs_getVZ C hH (kd := 11) (k := 36) (kr := 20) ok0_38 (by decide) fd0_36_41 ok34_38 tw_935 d_Mo_init_339 ?_
  refine lv_iload_n hx hb d_Mo_init_342 rfl (lv_at hl 0 rfl) ?_
  refine lv_iconst hx hb d_Mo_init_343 ki_m1 ?_
  refine rs_iastZ C hH hS ok34_38 (show vp_in (32 : Int32) (S38.2.2 (b + 34)) by rw [ln34_38]; unfold vp_in; decide) d_Mo_init_344 (fun σ79 H locs eM79 hH hS => ?_)
  replace eM79 : σ79 = rs_sI σ78 (b + 34) 32 (-1 : Int32) := by rw [eM79, show ((32 : Int32)).toNatClampNeg = 32 from by decide]
  refine lv_iinc hx hb d_Mo_init_345 hl (k := 0) rfl (v := (33 : Int32)) (by decide) (by decide) (lv' := [(1, .int (33 : Int32)), (0, .ref (Bm + b))]) rfl (fun ls hl => ?_)
  refine lv_goto hx hb d_Mo_init_348 (tgt := 332) rfl ?_
  refine lv_iload_n hx hb d_Mo_init_332 rfl (lv_at hl 0 rfl) ?_
  refine lv_bipush hx hb d_Mo_init_333 kb_48 ?_
  refine lv_icmp_ge hx hb d_Mo_init_335 (tgt := 351) rfl (fun hc => absurd hc (by decide)) (fun _ => ?_)
  refine lv_aload_n hx hb d_Mo_init_338 rfl (lv_at hl 1 rfl) ?_
  have fd0_36_42 : rs_R σ79 b 36 = (b + 34) := by (simp (disch := first | exact rs_n11 rfl | exact rs_n01 | exact Nat.le_refl _ | exact rs_m11 rfl | exact rs_m01 rfl | exact rs_q11 rfl | exact rs_q01 rfl | exact rs_q10 rfl | exact rs_q00 rfl | exact rs_p11 rfl | exact rs_p01 rfl | exact rs_p10 rfl) only [eM79, rs_Rother, rs_RI, rs_Rmul]); exact fd0_36_41
  refine rs_getVZ C hH (kd := 11) (k := 36) (kr := 20) ok0_38 (by decide) fd0_36_42 ok34_38 tw_935 d_Mo_init_339 ?_
  refine lv_iload_n hx hb d_Mo_init_342 rfl (lv_at hl 0 rfl) ?_
  refine lv_iconst hx hb d_Mo_init_343 ki_m1 ?_
  refine rs_iastZ C hH hS ok34_38 (show vp_in (33 : Int32) (S38.2.2 (b + 34)) by rw [ln34_38]; unfold vp_in; decide) d_Mo_init_344 (fun σ80 H locs eM80 hH hS => ?_)
  replace eM80 : σ80 = rs_sI σ79 (b + 34) 33 (-1 : Int32) := by rw [eM80, show ((33 : Int32)).toNatClampNeg = 33 from by decide]
  refine lv_iinc hx hb d_Mo_init_345 hl (k := 0) rfl (v := (34 : Int32)) (by decide) (by decide) (lv' := [(1, .int (34 : Int32)), (0, .ref (Bm + b))]) rfl (fun ls hl => ?_)
  refine lv_goto hx hb d_Mo_init_348 (tgt := 332) rfl ?_
  refine lv_iload_n hx hb d_Mo_init_332 rfl (lv_at hl 0 rfl) ?_
  refine lv_bipush hx hb d_Mo_init_333 kb_48 ?_
  refine lv_icmp_ge hx hb d_Mo_init_335 (tgt := 351) rfl (fun hc => absurd hc (by decide)) (fun _ => ?_)
  refine lv_aload_n hx hb d_Mo_init_338 rfl (lv_at hl 1 rfl) ?_
  have fd0_36_43 : rs_R σ80 b 36 = (b + 34) := by (simp (disch := first | exact rs_n11 rfl | exact rs_n01 | exact Nat.le_refl _ | exact rs_m11 rfl | exact rs_m01 rfl | exact rs_q11 rfl | exact rs_q01 rfl | exact rs_q10 rfl | exact rs_q00 rfl | exact rs_p11 rfl | exact rs_p01 rfl | exact rs_p10 rfl) only [eM80, rs_Rother, rs_RI, rs_Rmul]); exact fd0_36_42
  refine rs_getVZ C hH (kd := 11) (k := 36) (kr := 20) ok0_38 (by decide) fd0_36_43 ok34_38 tw_935 d_Mo_init_339 ?_
  refine lv_iload_n hx hb d_Mo_init_342 rfl (lv_at hl 0 rfl) ?_
  refine lv_iconst hx hb d_Mo_init_343 ki_m1 ?_
  refine rs_iastZ C hH hS ok34_38 (show vp_in (34 : Int32) (S38.2.2 (b + 34)) by rw [ln34_38]; unfold vp_in; decide) d_Mo_init_344 (fun σ81 H locs eM81 hH hS => ?_)
  replace eM81 : σ81 = rs_sI σ80 (b + 34) 34 (-1 : Int32) := by rw [eM81, show ((34 : Int32)).toNatClampNeg = 34 from by decide]
  refine lv_iinc hx hb d_Mo_init_345 hl (k := 0) rfl (v := (35 : Int32)) (by decide) (by decide) (lv' := [(1, .int (35 : Int32)), (0, .ref (Bm + b))]) rfl (fun ls hl => ?_)
  refine lv_goto hx hb d_Mo_init_348 (tgt := 332) rfl ?_
  refine lv_iload_n hx hb d_Mo_init_332 rfl (lv_at hl 0 rfl) ?_
  refine lv_bipush hx hb d_Mo_init_333 kb_48 ?_
  refine lv_icmp_ge hx hb d_Mo_init_335 (tgt := 351) rfl (fun hc => absurd hc (by decide)) (fun _ => ?_)
  refine lv_aload_n hx hb d_Mo_init_338 rfl (lv_at hl 1 rfl) ?_
  have fd0_36_44 : rs_R σ81 b 36 = (b + 34) := by (simp (disch := first | exact rs_n11 rfl | exact rs_n01 | exact Nat.le_refl _ | exact rs_m11 rfl | exact rs_m01 rfl | exact rs_q11 rfl | exact rs_q01 rfl | exact rs_q10 rfl | exact rs_q00 rfl | exact rs_p11 rfl | exact rs_p01 rfl | exact rs_p10 rfl) only [eM81, rs_Rother, rs_RI, rs_Rmul]); exact fd0_36_43
  refine rs_getVZ C hH (kd := 11) (k := 36) (kr := 20) ok0_38 (by decide) fd0_36_44 ok34_38 tw_935 d_Mo_init_339 ?_
  refine lv_iload_n hx hb d_Mo_init_342 rfl (lv_at hl 0 rfl) ?_
  refine lv_iconst hx hb d_Mo_init_343 ki_m1 ?_
  refine rs_iastZ C hH hS ok34_38 (show vp_in (35 : Int32) (S38.2.2 (b + 34)) by rw [ln34_38]; unfold vp_in; decide) d_Mo_init_344 (fun σ82 H locs eM82 hH hS => ?_)
  replace eM82 : σ82 = rs_sI σ81 (b + 34) 35 (-1 : Int32) := by rw [eM82, show ((35 : Int32)).toNatClampNeg = 35 from by decide]
  refine lv_iinc hx hb d_Mo_init_345 hl (k := 0) rfl (v := (36 : Int32)) (by decide) (by decide) (lv' := [(1, .int (36 : Int32)), (0, .ref (Bm + b))]) rfl (fun ls hl => ?_)
  refine lv_goto hx hb d_Mo_init_348 (tgt := 332) rfl ?_
  refine lv_iload_n hx hb d_Mo_init_332 rfl (lv_at hl 0 rfl) ?_
  refine lv_bipush hx hb d_Mo_init_333 kb_48 ?_
  refine lv_icmp_ge hx hb d_Mo_init_335 (tgt := 351) rfl (fun hc => absurd hc (by decide)) (fun _ => ?_)
  refine lv_aload_n hx hb d_Mo_init_338 rfl (lv_at hl 1 rfl) ?_
  have fd0_36_45 : rs_R σ82 b 36 = (b + 34) := by (simp (disch := first | exact rs_n11 rfl | exact rs_n01 | exact Nat.le_refl _ | exact rs_m11 rfl | exact rs_m01 rfl | exact rs_q11 rfl | exact rs_q01 rfl | exact rs_q10 rfl | exact rs_q00 rfl | exact rs_p11 rfl | exact rs_p01 rfl | exact rs_p10 rfl) only [eM82, rs_Rother, rs_RI, rs_Rmul]); exact fd0_36_44
  refine rs_getVZ C hH (kd := 11) (k := 36) (kr := 20) ok0_38 (by decide) fd0_36_45 ok34_38 tw_935 d_Mo_init_339 ?_
  refine lv_iload_n hx hb d_Mo_init_342 rfl (lv_at hl 0 rfl) ?_
  refine lv_iconst hx hb d_Mo_init_343 ki_m1 ?_
  refine rs_iastZ C hH hS ok34_38 (show vp_in (36 : Int32) (S38.2.2 (b + 34)) by rw [ln34_38]; unfold vp_in; decide) d_Mo_init_344 (fun σ83 H locs eM83 hH hS => ?_)
  replace eM83 : σ83 = rs_sI σ82 (b + 34) 36 (-1 : Int32) := by rw [eM83, show ((36 : Int32)).toNatClampNeg = 36 from by decide]
  refine lv_iinc hx hb d_Mo_init_345 hl (k := 0) rfl (v := (37 : Int32)) (by decide) (by decide) (lv' := [(1, .int (37 : Int32)), (0, .ref (Bm + b))]) rfl (fun ls hl => ?_)
  refine lv_goto hx hb d_Mo_init_348 (tgt := 332) rfl ?_
  refine lv_iload_n hx hb d_Mo_init_332 rfl (lv_at hl 0 rfl) ?_
  refine lv_bipush hx hb d_Mo_init_333 kb_48 ?_
  refine lv_icmp_ge hx hb d_Mo_init_335 (tgt := 351) rfl (fun hc => absurd hc (by decide)) (fun _ => ?_)
  refine lv_aload_n hx hb d_Mo_init_338 rfl (lv_at hl 1 rfl) ?_
  have fd0_36_46 : rs_R σ83 b 36 = (b + 34) := by (simp (disch := first | exact rs_n11 rfl | exact rs_n01 | exact Nat.le_refl _ | exact rs_m11 rfl | exact rs_m01 rfl | exact rs_q11 rfl | exact rs_q01 rfl | exact rs_q10 rfl | exact rs_q00 rfl | exact rs_p11 rfl | exact rs_p01 rfl | exact rs_p10 rfl) only [eM83, rs_Rother, rs_RI, rs_Rmul]); exact fd0_36_45
  refine rs_getVZ C hH (kd := 11) (k := 36) (kr := 20) ok0_38 (by decide) fd0_36_46 ok34_38 tw_935 d_Mo_init_339 ?_
  refine lv_iload_n hx hb d_Mo_init_342 rfl (lv_at hl 0 rfl) ?_
  refine lv_iconst hx hb d_Mo_init_343 ki_m1 ?_
  refine rs_iastZ C hH hS ok34_38 (show vp_in (37 : Int32) (S38.2.2 (b + 34)) by rw [ln34_38]; unfold vp_in; decide) d_Mo_init_344 (fun σ84 H locs eM84 hH hS => ?_)
  replace eM84 : σ84 = rs_sI σ83 (b + 34) 37 (-1 : Int32) := by rw [eM84, show ((37 : Int32)).toNatClampNeg = 37 from by decide]
  refine lv_iinc hx hb d_Mo_init_345 hl (k := 0) rfl (v := (38 : Int32)) (by decide) (by decide) (lv' := [(1, .int (38 : Int32)), (0, .ref (Bm + b))]) rfl (fun ls hl => ?_)
  refine lv_goto hx hb d_Mo_init_348 (tgt := 332) rfl ?_
  refine lv_iload_n hx hb d_Mo_init_332 rfl (lv_at hl 0 rfl) ?_
  refine lv_bipush hx hb d_Mo_init_333 kb_48 ?_
  refine lv_icmp_ge hx hb d_Mo_init_335 (tgt := 351) rfl (fun hc => absurd hc (by decide)) (fun _ => ?_)
  refine lv_aload_n hx hb d_Mo_init_338 rfl (lv_at hl 1 rfl) ?_
  have fd0_36_47 : rs_R σ84 b 36 = (b + 34) := by (simp (disch := first | exact rs_n11 rfl | exact rs_n01 | exact Nat.le_refl _ | exact rs_m11 rfl | exact rs_m01 rfl | exact rs_q11 rfl | exact rs_q01 rfl | exact rs_q10 rfl | exact rs_q00 rfl | exact rs_p11 rfl | exact rs_p01 rfl | exact rs_p10 rfl) only [eM84, rs_Rother, rs_RI, rs_Rmul]); exact fd0_36_46
  refine rs_getVZ C hH (kd := 11) (k := 36) (kr := 20) ok0_38 (by decide) fd0_36_47 ok34_38 tw_935 d_Mo_init_339 ?_
  refine lv_iload_n hx hb d_Mo_init_342 rfl (lv_at hl 0 rfl) ?_
  refine lv_iconst hx hb d_Mo_init_343 ki_m1 ?_
  refine rs_iastZ C hH hS ok34_38 (show vp_in (38 : Int32) (S38.2.2 (b + 34)) by rw [ln34_38]; unfold vp_in; decide) d_Mo_init_344 (fun σ85 H locs eM85 hH hS => ?_)
  replace eM85 : σ85 = rs_sI σ84 (b + 34) 38 (-1 : Int32) := by rw [eM85, show ((38 : Int32)).toNatClampNeg = 38 from by decide]
  refine lv_iinc hx hb d_Mo_init_345 hl (k := 0) rfl (v := (39 : Int32)) (by decide) (by decide) (lv' := [(1, .int (39 : Int32)), (0, .ref (Bm + b))]) rfl (fun ls hl => ?_)
  refine lv_goto hx hb d_Mo_init_348 (tgt := 332) rfl ?_
  refine lv_iload_n hx hb d_Mo_init_332 rfl (lv_at hl 0 rfl) ?_
  refine lv_bipush hx hb d_Mo_init_333 kb_48 ?_
  refine lv_icmp_ge hx hb d_Mo_init_335 (tgt := 351) rfl (fun hc => absurd hc (by decide)) (fun _ => ?_)
  refine lv_aload_n hx hb d_Mo_init_338 rfl (lv_at hl 1 rfl) ?_
  have fd0_36_48 : rs_R σ85 b 36 = (b + 34) := by (simp (disch := first | exact rs_n11 rfl | exact rs_n01 | exact Nat.le_refl _ | exact rs_m11 rfl | exact rs_m01 rfl | exact rs_q11 rfl | exact rs_q01 rfl | exact rs_q10 rfl | exact rs_q00 rfl | exact rs_p11 rfl | exact rs_p01 rfl | exact rs_p10 rfl) only [eM85, rs_Rother, rs_RI, rs_Rmul]); exact fd0_36_47
  refine rs_getVZ C hH (kd := 11) (k := 36) (kr := 20) ok0_38 (by decide) fd0_36_48 ok34_38 tw_935 d_Mo_init_339 ?_
  refine lv_iload_n hx hb d_Mo_init_342 rfl (lv_at hl 0 rfl) ?_
  refine lv_iconst hx hb d_Mo_init_343 ki_m1 ?_
  refine rs_iastZ C hH hS ok34_38 (show vp_in (39 : Int32) (S38.2.2 (b + 34)) by rw [ln34_38]; unfold vp_in; decide) d_Mo_init_344 (fun σ86 H locs eM86 hH hS => ?_)
  replace eM86 : σ86 = rs_sI σ85 (b + 34) 39 (-1 : Int32) := by rw [eM86, show ((39 : Int32)).toNatClampNeg = 39 from by decide]
  refine lv_iinc hx hb d_Mo_init_345 hl (k := 0) rfl (v := (40 : Int32)) (by decide) (by decide) (lv' := [(1, .int (40 : Int32)), (0, .ref (Bm + b))]) rfl (fun ls hl => ?_)
  refine lv_goto hx hb d_Mo_init_348 (tgt := 332) rfl ?_
  refine lv_iload_n hx hb d_Mo_init_332 rfl (lv_at hl 0 rfl) ?_
  refine lv_bipush hx hb d_Mo_init_333 kb_48 ?_
  refine lv_icmp_ge hx hb d_Mo_init_335 (tgt := 351) rfl (fun hc => absurd hc (by decide)) (fun _ => ?_)
  refine lv_aload_n hx hb d_Mo_init_338 rfl (lv_at hl 1 rfl) ?_
  have fd0_36_49 : rs_R σ86 b 36 = (b + 34) := by (simp (disch := first | exact rs_n11 rfl | exact rs_n01 | exact Nat.le_refl _ | exact rs_m11 rfl | exact rs_m01 rfl | exact rs_q11 rfl | exact rs_q01 rfl | exact rs_q10 rfl | exact rs_q00 rfl | exact rs_p11 rfl | exact rs_p01 rfl | exact rs_p10 rfl) only [eM86, rs_Rother, rs_RI, rs_Rmul]); exact fd0_36_48
  refine rs_getVZ C hH (kd := 11) (k := 36) (kr := 20) ok0_38 (by decide) fd0_36_49 ok34_38 tw_935 d_Mo_init_339 ?_
  refine lv_iload_n hx hb d_Mo_init_342 rfl (lv_at hl 0 rfl) ?_
  refine lv_iconst hx hb d_Mo_init_343 ki_m1 ?_
  refine rs_iastZ C hH hS ok34_38 (show vp_in (40 : Int32) (S38.2.2 (b + 34)) by rw [ln34_38]; unfold vp_in; decide) d_Mo_init_344 (fun σ87 H locs eM87 hH hS => ?_)
  replace eM87 : σ87 = rs_sI σ86 (b + 34) 40 (-1 : Int32) := by rw [eM87, show ((40 : Int32)).toNatClampNeg = 40 from by decide]
  refine lv_iinc hx hb d_Mo_init_345 hl (k := 0) rfl (v := (41 : Int32)) (by decide) (by decide) (lv' := [(1, .int (41 : Int32)), (0, .ref (Bm + b))]) rfl (fun ls hl => ?_)
  refine lv_goto hx hb d_Mo_init_348 (tgt := 332) rfl ?_
  refine lv_iload_n hx hb d_Mo_init_332 rfl (lv_at hl 0 rfl) ?_
  refine lv_bipush hx hb d_Mo_init_333 kb_48 ?_
  refine lv_icmp_ge hx hb d_Mo_init_335 (tgt := 351) rfl (fun hc => absurd hc (by decide)) (fun _ => ?_)
  refine lv_aload_n hx hb d_Mo_init_338 rfl (lv_at hl 1 rfl) ?_
  have fd0_36_50 : rs_R σ87 b 36 = (b + 34) := by (simp (disch := first | exact rs_n11 rfl | exact rs_n01 | exact Nat.le_refl _ | exact rs_m11 rfl | exact rs_m01 rfl | exact rs_q11 rfl | exact rs_q01 rfl | exact rs_q10 rfl | exact rs_q00 rfl | exact rs_p11 rfl | exact rs_p01 rfl | exact rs_p10 rfl) only [eM87, rs_Rother, rs_RI, rs_Rmul]); exact fd0_36_49
  refine rs_getVZ C hH (kd := 11) (k := 36) (kr := 20) ok0_38 (by decide) fd0_36_50 ok34_38 tw_935 d_Mo_init_339 ?_
  refine lv_iload_n hx hb d_Mo_init_342 rfl (lv_at hl 0 rfl) ?_
  refine lv_iconst hx hb d_Mo_init_343 ki_m1 ?_
  refine rs_iastZ C hH hS ok34_38 (show vp_in (41 : Int32) (S38.2.2 (b + 34)) by rw [ln34_38]; unfold vp_in; decide) d_Mo_init_344 (fun σ88 H locs eM88 hH hS => ?_)
  replace eM88 : σ88 = rs_sI σ87 (b + 34) 41 (-1 : Int32) := by rw [eM88, show ((41 : Int32)).toNatClampNeg = 41 from by decide]
  refine lv_iinc hx hb d_Mo_init_345 hl (k := 0) rfl (v := (42 : Int32)) (by decide) (by decide) (lv' := [(1, .int (42 : Int32)), (0, .ref (Bm + b))]) rfl (fun ls hl => ?_)
  refine lv_goto hx hb d_Mo_init_348 (tgt := 332) rfl ?_
  refine lv_iload_n hx hb d_Mo_init_332 rfl (lv_at hl 0 rfl) ?_
  refine lv_bipush hx hb d_Mo_init_333 kb_48 ?_
  refine lv_icmp_ge hx hb d_Mo_init_335 (tgt := 351) rfl (fun hc => absurd hc (by decide)) (fun _ => ?_)
  refine lv_aload_n hx hb d_Mo_init_338 rfl (lv_at hl 1 rfl) ?_
  have fd0_36_51 : rs_R σ88 b 36 = (b + 34) := by (simp (disch := first | exact rs_n11 rfl | exact rs_n01 | exact Nat.le_refl _ | exact rs_m11 rfl | exact rs_m01 rfl | exact rs_q11 rfl | exact rs_q01 rfl | exact rs_q10 rfl | exact rs_q00 rfl | exact rs_p11 rfl | exact rs_p01 rfl | exact rs_p10 rfl) only [eM88, rs_Rother, rs_RI, rs_Rmul]); exact fd0_36_50
  refine rs_getVZ C hH (kd := 11) (k := 36) (kr := 20) ok0_38 (by decide) fd0_36_51 ok34_38 tw_935 d_Mo_init_339 ?_
  refine lv_iload_n hx hb d_Mo_init_342 rfl (lv_at hl 0 rfl) ?_
  refine lv_iconst hx hb d_Mo_init_343 ki_m1 ?_
  refine rs_iastZ C hH hS ok34_38 (show vp_in (42 : Int32) (S38.2.2 (b + 34)) by rw [ln34_38]; unfold vp_in; decide) d_Mo_init_344 (fun σ89 H locs eM89 hH hS => ?_)
  replace eM89 : σ89 = rs_sI σ88 (b + 34) 42 (-1 : Int32) := by rw [eM89, show ((42 : Int32)).toNatClampNeg = 42 from by decide]
  refine lv_iinc hx hb d_Mo_init_345 hl (k := 0) rfl (v := (43 : Int32)) (by decide) (by decide) (lv' := [(1, .int (43 : Int32)), (0, .ref (Bm + b))]) rfl (fun ls hl => ?_)
  refine lv_goto hx hb d_Mo_init_348 (tgt := 332) rfl ?_
  refine lv_iload_n hx hb d_Mo_init_332 rfl (lv_at hl 0 rfl) ?_
  refine lv_bipush hx hb d_Mo_init_333 kb_48 ?_
  refine lv_icmp_ge hx hb d_Mo_init_335 (tgt := 351) rfl (fun hc => absurd hc (by decide)) (fun _ => ?_)
  refine lv_aload_n hx hb d_Mo_init_338 rfl (lv_at hl 1 rfl) ?_
  have fd0_36_52 : rs_R σ89 b 36 = (b + 34) := by (simp (disch := first | exact rs_n11 rfl | exact rs_n01 | exact Nat.le_refl _ | exact rs_m11 rfl | exact rs_m01 rfl | exact rs_q11 rfl | exact rs_q01 rfl | exact rs_q10 rfl | exact rs_q00 rfl | exact rs_p11 rfl | exact rs_p01 rfl | exact rs_p10 rfl) only [eM89, rs_Rother, rs_RI, rs_Rmul]); exact fd0_36_51
  refine rs_getVZ C hH (kd := 11) (k := 36) (kr := 20) ok0_38 (by decide) fd0_36_52 ok34_38 tw_935 d_Mo_init_339 ?_
  refine lv_iload_n hx hb d_Mo_init_342 rfl (lv_at hl 0 rfl) ?_
  refine lv_iconst hx hb d_Mo_init_343 ki_m1 ?_
  refine rs_iastZ C hH hS ok34_38 (show vp_in (43 : Int32) (S38.2.2 (b + 34)) by rw [ln34_38]; unfold vp_in; decide) d_Mo_init_344 (fun σ90 H locs eM90 hH hS => ?_)
  replace eM90 : σ90 = rs_sI σ89 (b + 34) 43 (-1 : Int32) := by rw [eM90, show ((43 : Int32)).toNatClampNeg = 43 from by decide]
  refine lv_iinc hx hb d_Mo_init_345 hl (k := 0) rfl (v := (44 : Int32)) (by decide) (by decide) (lv' := [(1, .int (44 : Int32)), (0, .ref (Bm + b))]) rfl (fun ls hl => ?_)
  refine lv_goto hx hb d_Mo_init_348 (tgt := 332) rfl ?_
  refine lv_iload_n hx hb d_Mo_init_332 rfl (lv_at hl 0 rfl) ?_
  refine lv_bipush hx hb d_Mo_init_333 kb_48 ?_
  refine lv_icmp_ge hx hb d_Mo_init_335 (tgt := 351) rfl (fun hc => absurd hc (by decide)) (fun _ => ?_)
  refine lv_aload_n hx hb d_Mo_init_338 rfl (lv_at hl 1 rfl) ?_
  have fd0_36_53 : rs_R σ90 b 36 = (b + 34) := by (simp (disch := first | exact rs_n11 rfl | exact rs_n01 | exact Nat.le_refl _ | exact rs_m11 rfl | exact rs_m01 rfl | exact rs_q11 rfl | exact rs_q01 rfl | exact rs_q10 rfl | exact rs_q00 rfl | exact rs_p11 rfl | exact rs_p01 rfl | exact rs_p10 rfl) only [eM90, rs_Rother, rs_RI, rs_Rmul]); exact fd0_36_52
  refine rs_getVZ C hH (kd := 11) (k := 36) (kr := 20) ok0_38 (by decide) fd0_36_53 ok34_38 tw_935 d_Mo_init_339 ?_
  refine lv_iload_n hx hb d_Mo_init_342 rfl (lv_at hl 0 rfl) ?_
  refine lv_iconst hx hb d_Mo_init_343 ki_m1 ?_
  refine rs_iastZ C hH hS ok34_38 (show vp_in (44 : Int32) (S38.2.2 (b + 34)) by rw [ln34_38]; unfold vp_in; decide) d_Mo_init_344 (fun σ91 H locs eM91 hH hS => ?_)
  replace eM91 : σ91 = rs_sI σ90 (b + 34) 44 (-1 : Int32) := by rw [eM91, show ((44 : Int32)).toNatClampNeg = 44 from by decide]
  refine lv_iinc hx hb d_Mo_init_345 hl (k := 0) rfl (v := (45 : Int32)) (by decide) (by decide) (lv' := [(1, .int (45 : Int32)), (0, .ref (Bm + b))]) rfl (fun ls hl => ?_)
  refine lv_goto hx hb d_Mo_init_348 (tgt := 332) rfl ?_
  refine lv_iload_n hx hb d_Mo_init_332 rfl (lv_at hl 0 rfl) ?_
  refine lv_bipush hx hb d_Mo_init_333 kb_48 ?_
  refine lv_icmp_ge hx hb d_Mo_init_335 (tgt := 351) rfl (fun hc => absurd hc (by decide)) (fun _ => ?_)
  refine lv_aload_n hx hb d_Mo_init_338 rfl (lv_at hl 1 rfl) ?_
  have fd0_36_54 : rs_R σ91 b 36 = (b + 34) := by (simp (disch := first | exact rs_n11 rfl | exact rs_n01 | exact Nat.le_refl _ | exact rs_m11 rfl | exact rs_m01 rfl | exact rs_q11 rfl | exact rs_q01 rfl | exact rs_q10 rfl | exact rs_q00 rfl | exact rs_p11 rfl | exact rs_p01 rfl | exact rs_p10 rfl) only [eM91, rs_Rother, rs_RI, rs_Rmul]); exact fd0_36_53
  refine rs_getVZ C hH (kd := 11) (k := 36) (kr := 20) ok0_38 (by decide) fd0_36_54 ok34_38 tw_935 d_Mo_init_339 ?_
  refine lv_iload_n hx hb d_Mo_init_342 rfl (lv_at hl 0 rfl) ?_
  refine lv_iconst hx hb d_Mo_init_343 ki_m1 ?_
  refine rs_iastZ C hH hS ok34_38 (show vp_in (45 : Int32) (S38.2.2 (b + 34)) by rw [ln34_38]; unfold vp_in; decide) d_Mo_init_344 (fun σ92 H locs eM92 hH hS => ?_)
  replace eM92 : σ92 = rs_sI σ91 (b + 34) 45 (-1 : Int32) := by rw [eM92, show ((45 : Int32)).toNatClampNeg = 45 from by decide]
  refine lv_iinc hx hb d_Mo_init_345 hl (k := 0) rfl (v := (46 : Int32)) (by decide) (by decide) (lv' := [(1, .int (46 : Int32)), (0, .ref (Bm + b))]) rfl (fun ls hl => ?_)
  refine lv_goto hx hb d_Mo_init_348 (tgt := 332) rfl ?_
  refine lv_iload_n hx hb d_Mo_init_332 rfl (lv_at hl 0 rfl) ?_
  refine lv_bipush hx hb d_Mo_init_333 kb_48 ?_
  refine lv_icmp_ge hx hb d_Mo_init_335 (tgt := 351) rfl (fun hc => absurd hc (by decide)) (fun _ => ?_)
  refine lv_aload_n hx hb d_Mo_init_338 rfl (lv_at hl 1 rfl) ?_
  have fd0_36_55 : rs_R σ92 b 36 = (b + 34) := by (simp (disch := first | exact rs_n11 rfl | exact rs_n01 | exact Nat.le_refl _ | exact rs_m11 rfl | exact rs_m01 rfl | exact rs_q11 rfl | exact rs_q01 rfl | exact rs_q10 rfl | exact rs_q00 rfl | exact rs_p11 rfl | exact rs_p01 rfl | exact rs_p10 rfl) only [eM92, rs_Rother, rs_RI, rs_Rmul]); exact fd0_36_54
  refine rs_getVZ C hH (kd := 11) (k := 36) (kr := 20) ok0_38 (by decide) fd0_36_55 ok34_38 tw_935 d_Mo_init_339 ?_
  refine lv_iload_n hx hb d_Mo_init_342 rfl (lv_at hl 0 rfl) ?_
  refine lv_iconst hx hb d_Mo_init_343 ki_m1 ?_
  refine rs_iastZ C hH hS ok34_38 (show vp_in (46 : Int32) (S38.2.2 (b + 34)) by rw [ln34_38]; unfold vp_in; decide) d_Mo_init_344 (fun σ93 H locs eM93 hH hS => ?_)
  replace eM93 : σ93 = rs_sI σ92 (b + 34) 46 (-1 : Int32) := by rw [eM93, show ((46 : Int32)).toNatClampNeg = 46 from by decide]
  refine lv_iinc hx hb d_Mo_init_345 hl (k := 0) rfl (v := (47 : Int32)) (by decide) (by decide) (lv' := [(1, .int (47 : Int32)), (0, .ref (Bm + b))]) rfl (fun ls hl => ?_)
  refine lv_goto hx hb d_Mo_init_348 (tgt := 332) rfl ?_
  refine lv_iload_n hx hb d_Mo_init_332 rfl (lv_at hl 0 rfl) ?_
  refine lv_bipush hx hb d_Mo_init_333 kb_48 ?_
  refine lv_icmp_ge hx hb d_Mo_init_335 (tgt := 351) rfl (fun hc => absurd hc (by decide)) (fun _ => ?_)
  refine lv_aload_n hx hb d_Mo_init_338 rfl (lv_at hl 1 rfl) ?_
  have fd0_36_56 : rs_R σ93 b 36 = (b + 34) := by (simp (disch := first | exact rs_n11 rfl | exact rs_n01 | exact Nat.le_refl _ | exact rs_m11 rfl | exact rs_m01 rfl | exact rs_q11 rfl | exact rs_q01 rfl | exact rs_q10 rfl | exact rs_q00 rfl | exact rs_p11 rfl | exact rs_p01 rfl | exact rs_p10 rfl) only [eM93, rs_Rother, rs_RI, rs_Rmul]); exact fd0_36_55
  refine rs_getVZ C hH (kd := 11) (k := 36) (kr := 20) ok0_38 (by decide) fd0_36_56 ok34_38 tw_935 d_Mo_init_339 ?_
  refine lv_iload_n hx hb d_Mo_init_342 rfl (lv_at hl 0 rfl) ?_
  refine lv_iconst hx hb d_Mo_init_343 ki_m1 ?_
  refine rs_iastZ C hH hS ok34_38 (show vp_in (47 : Int32) (S38.2.2 (b + 34)) by rw [ln34_38]; unfold vp_in; decide) d_Mo_init_344 (fun σ94 H locs eM94 hH hS => ?_)
  replace eM94 : σ94 = rs_sI σ93 (b + 34) 47 (-1 : Int32) := by rw [eM94, show ((47 : Int32)).toNatClampNeg = 47 from by decide]
  refine lv_iinc hx hb d_Mo_init_345 hl (k := 0) rfl (v := (48 : Int32)) (by decide) (by decide) (lv' := [(1, .int (48 : Int32)), (0, .ref (Bm + b))]) rfl (fun ls hl => ?_)
  refine lv_goto hx hb d_Mo_init_348 (tgt := 332) rfl ?_
  refine lv_iload_n hx hb d_Mo_init_332 rfl (lv_at hl 0 rfl) ?_
  refine lv_bipush hx hb d_Mo_init_333 kb_48 ?_
  refine lv_icmp_ge hx hb d_Mo_init_335 (tgt := 351) rfl (fun _ => ?_) (fun hc => absurd (by decide) hc)
  exact rs_vretZ C hH hS ⟨by unfold KS_Mo; rw [eS38, eS37, eS36, eS35, eS34, eS33, eS32, eS31, eS30, eS29, eS28, eS27, eS26, eS25, eS24, eS23, eS22, eS21, eS20, eS19, eS18, eS17, eS16, eS15, eS14, eS13, eS12, eS11, eS10, eS9, eS8, eS7, eS6, eS5, eS4, eS3, eS2, eS1], by unfold KM_Mo; rw [eM94, eM93, eM92, eM91, eM90, eM89, eM88, eM87, eM86, eM85, eM84, eM83, eM82, eM81, eM80, eM79, eM78, eM77, eM76, eM75, eM74, eM73, eM72, eM71, eM70, eM69, eM68, eM67, eM66, eM65, eM64, eM63, eM62, eM61, eM60, eM59, eM58, eM57, eM56, eM55, eM54, eM53, eM52, eM51, eM50, eM49, eM48, eM47, eM46, eM45, eM44, eM43, eM42, eM41, eM40, eM39, eM38, eM37, eM36, eM35, eM34, eM33, eM32, eM31, eM30, eM29, eM28, eM27, eM26, eM25, eM24, eM23, eM22, eM21, eM20, eM19, eM18, eM17, eM16, eM15, eM14, eM13, eM12, eM11, eM10, eM9, eM8, eM7, eM6, eM5, eM4, eM3, eM2, eM1]⟩ (Nat.le_of_ble_eq_true rfl) (Nat.le_of_ble_eq_true rfl) d_Mo_init_351
