/-! RouteSpeakerModel.dueInternal(II)I -/
theorem d_Mo_dueInternal_0 : decode prog_12_method_58_code 0 = .ok (.bipush (12), 2) := by decide +kernel
theorem d_Mo_dueInternal_2 : decode prog_12_method_58_code 2 = .ok (.iload_n 1, 1) := by decide +kernel
theorem d_Mo_dueInternal_3 : decode prog_12_method_58_code 3 = .ok (.imul, 1) := by decide +kernel
theorem d_Mo_dueInternal_4 : decode prog_12_method_58_code 4 = .ok (.iload_n 2, 1) := by decide +kernel
theorem d_Mo_dueInternal_5 : decode prog_12_method_58_code 5 = .ok (.iadd, 1) := by decide +kernel
theorem d_Mo_dueInternal_6 : decode prog_12_method_58_code 6 = .ok (.istore_n 3, 1) := by decide +kernel
theorem d_Mo_dueInternal_7 : decode prog_12_method_58_code 7 = .ok (.iload_n 1, 1) := by decide +kernel
theorem d_Mo_dueInternal_8 : decode prog_12_method_58_code 8 = .ok (.iconst 4, 1) := by decide +kernel
theorem d_Mo_dueInternal_9 : decode prog_12_method_58_code 9 = .ok (.if_icmp .ge (15), 3) := by decide +kernel
theorem d_Mo_dueInternal_12 : decode prog_12_method_58_code 12 = .ok (.aload_n 0, 1) := by decide +kernel
theorem d_Mo_dueInternal_13 : decode prog_12_method_58_code 13 = .ok (.iload_n 1, 1) := by decide +kernel
theorem d_Mo_dueInternal_14 : decode prog_12_method_58_code 14 = .ok (.invokevirtual 225, 3) := by decide +kernel
theorem d_Mo_dueInternal_17 : decode prog_12_method_58_code 17 = .ok (.ifCond .eq (7), 3) := by decide +kernel
theorem d_Mo_dueInternal_20 : decode prog_12_method_58_code 20 = .ok (.iconst 1, 1) := by decide +kernel
theorem d_Mo_dueInternal_21 : decode prog_12_method_58_code 21 = .ok (.goto (4), 3) := by decide +kernel
theorem d_Mo_dueInternal_24 : decode prog_12_method_58_code 24 = .ok (.iconst 0, 1) := by decide +kernel
theorem d_Mo_dueInternal_25 : decode prog_12_method_58_code 25 = .ok (.istore 4, 2) := by decide +kernel
theorem d_Mo_dueInternal_27 : decode prog_12_method_58_code 27 = .ok (.iload 4, 2) := by decide +kernel
theorem d_Mo_dueInternal_29 : decode prog_12_method_58_code 29 = .ok (.ifCond .eq (18), 3) := by decide +kernel
theorem d_Mo_dueInternal_32 : decode prog_12_method_58_code 32 = .ok (.aload_n 0, 1) := by decide +kernel
theorem d_Mo_dueInternal_33 : decode prog_12_method_58_code 33 = .ok (.getfield 98, 3) := by decide +kernel
theorem d_Mo_dueInternal_36 : decode prog_12_method_58_code 36 = .ok (.iload_n 3, 1) := by decide +kernel
theorem d_Mo_dueInternal_37 : decode prog_12_method_58_code 37 = .ok (.iaload, 1) := by decide +kernel
theorem d_Mo_dueInternal_38 : decode prog_12_method_58_code 38 = .ok (.iconst 1, 1) := by decide +kernel
theorem d_Mo_dueInternal_39 : decode prog_12_method_58_code 39 = .ok (.iadd, 1) := by decide +kernel
theorem d_Mo_dueInternal_40 : decode prog_12_method_58_code 40 = .ok (.bipush (6), 2) := by decide +kernel
theorem d_Mo_dueInternal_42 : decode prog_12_method_58_code 42 = .ok (.if_icmp .le (5), 3) := by decide +kernel
theorem d_Mo_dueInternal_45 : decode prog_12_method_58_code 45 = .ok (.iconst (-1), 1) := by decide +kernel
theorem d_Mo_dueInternal_46 : decode prog_12_method_58_code 46 = .ok (.ireturn, 1) := by decide +kernel
theorem d_Mo_dueInternal_47 : decode prog_12_method_58_code 47 = .ok (.aload_n 0, 1) := by decide +kernel
theorem d_Mo_dueInternal_48 : decode prog_12_method_58_code 48 = .ok (.iconst 0, 1) := by decide +kernel
theorem d_Mo_dueInternal_49 : decode prog_12_method_58_code 49 = .ok (.iconst 1, 1) := by decide +kernel
theorem d_Mo_dueInternal_50 : decode prog_12_method_58_code 50 = .ok (.aload_n 0, 1) := by decide +kernel
theorem d_Mo_dueInternal_51 : decode prog_12_method_58_code 51 = .ok (.getfield 77, 3) := by decide +kernel
theorem d_Mo_dueInternal_54 : decode prog_12_method_58_code 54 = .ok (.iload_n 3, 1) := by decide +kernel
theorem d_Mo_dueInternal_55 : decode prog_12_method_58_code 55 = .ok (.iaload, 1) := by decide +kernel
theorem d_Mo_dueInternal_56 : decode prog_12_method_58_code 56 = .ok (.invokevirtual 292, 3) := by decide +kernel
theorem d_Mo_dueInternal_59 : decode prog_12_method_58_code 59 = .ok (.istore 5, 2) := by decide +kernel
theorem d_Mo_dueInternal_61 : decode prog_12_method_58_code 61 = .ok (.aload_n 0, 1) := by decide +kernel
theorem d_Mo_dueInternal_62 : decode prog_12_method_58_code 62 = .ok (.iload 5, 2) := by decide +kernel
theorem d_Mo_dueInternal_64 : decode prog_12_method_58_code 64 = .ok (.iconst 2, 1) := by decide +kernel
theorem d_Mo_dueInternal_65 : decode prog_12_method_58_code 65 = .ok (.invokevirtual 280, 3) := by decide +kernel
theorem d_Mo_dueInternal_68 : decode prog_12_method_58_code 68 = .ok (.aload_n 0, 1) := by decide +kernel
theorem d_Mo_dueInternal_69 : decode prog_12_method_58_code 69 = .ok (.iload 5, 2) := by decide +kernel
theorem d_Mo_dueInternal_71 : decode prog_12_method_58_code 71 = .ok (.iconst 1, 1) := by decide +kernel
theorem d_Mo_dueInternal_72 : decode prog_12_method_58_code 72 = .ok (.iadd, 1) := by decide +kernel
theorem d_Mo_dueInternal_73 : decode prog_12_method_58_code 73 = .ok (.aload_n 0, 1) := by decide +kernel
theorem d_Mo_dueInternal_74 : decode prog_12_method_58_code 74 = .ok (.getfield 80, 3) := by decide +kernel
theorem d_Mo_dueInternal_77 : decode prog_12_method_58_code 77 = .ok (.iload_n 3, 1) := by decide +kernel
theorem d_Mo_dueInternal_78 : decode prog_12_method_58_code 78 = .ok (.iaload, 1) := by decide +kernel
theorem d_Mo_dueInternal_79 : decode prog_12_method_58_code 79 = .ok (.invokevirtual 280, 3) := by decide +kernel
theorem d_Mo_dueInternal_82 : decode prog_12_method_58_code 82 = .ok (.iconst 0, 1) := by decide +kernel
theorem d_Mo_dueInternal_83 : decode prog_12_method_58_code 83 = .ok (.istore 6, 2) := by decide +kernel
theorem d_Mo_dueInternal_85 : decode prog_12_method_58_code 85 = .ok (.iload 6, 2) := by decide +kernel
theorem d_Mo_dueInternal_87 : decode prog_12_method_58_code 87 = .ok (.aload_n 0, 1) := by decide +kernel
theorem d_Mo_dueInternal_88 : decode prog_12_method_58_code 88 = .ok (.getfield 80, 3) := by decide +kernel
theorem d_Mo_dueInternal_91 : decode prog_12_method_58_code 91 = .ok (.iload_n 3, 1) := by decide +kernel
theorem d_Mo_dueInternal_92 : decode prog_12_method_58_code 92 = .ok (.iaload, 1) := by decide +kernel
theorem d_Mo_dueInternal_93 : decode prog_12_method_58_code 93 = .ok (.if_icmp .ge (32), 3) := by decide +kernel
theorem d_Mo_dueInternal_96 : decode prog_12_method_58_code 96 = .ok (.aload_n 0, 1) := by decide +kernel
theorem d_Mo_dueInternal_97 : decode prog_12_method_58_code 97 = .ok (.iload 5, 2) := by decide +kernel
theorem d_Mo_dueInternal_99 : decode prog_12_method_58_code 99 = .ok (.iconst 2, 1) := by decide +kernel
theorem d_Mo_dueInternal_100 : decode prog_12_method_58_code 100 = .ok (.iadd, 1) := by decide +kernel
theorem d_Mo_dueInternal_101 : decode prog_12_method_58_code 101 = .ok (.iload 6, 2) := by decide +kernel
theorem d_Mo_dueInternal_103 : decode prog_12_method_58_code 103 = .ok (.iadd, 1) := by decide +kernel
theorem d_Mo_dueInternal_104 : decode prog_12_method_58_code 104 = .ok (.aload_n 0, 1) := by decide +kernel
theorem d_Mo_dueInternal_105 : decode prog_12_method_58_code 105 = .ok (.getfield 83, 3) := by decide +kernel
theorem d_Mo_dueInternal_108 : decode prog_12_method_58_code 108 = .ok (.bipush (8), 2) := by decide +kernel
theorem d_Mo_dueInternal_110 : decode prog_12_method_58_code 110 = .ok (.iload_n 3, 1) := by decide +kernel
theorem d_Mo_dueInternal_111 : decode prog_12_method_58_code 111 = .ok (.imul, 1) := by decide +kernel
theorem d_Mo_dueInternal_112 : decode prog_12_method_58_code 112 = .ok (.iload 6, 2) := by decide +kernel
theorem d_Mo_dueInternal_114 : decode prog_12_method_58_code 114 = .ok (.iadd, 1) := by decide +kernel
theorem d_Mo_dueInternal_115 : decode prog_12_method_58_code 115 = .ok (.iaload, 1) := by decide +kernel
theorem d_Mo_dueInternal_116 : decode prog_12_method_58_code 116 = .ok (.invokevirtual 280, 3) := by decide +kernel
theorem d_Mo_dueInternal_119 : decode prog_12_method_58_code 119 = .ok (.iinc 6 (1), 3) := by decide +kernel
theorem d_Mo_dueInternal_122 : decode prog_12_method_58_code 122 = .ok (.goto (-37), 3) := by decide +kernel
theorem d_Mo_dueInternal_125 : decode prog_12_method_58_code 125 = .ok (.aload_n 0, 1) := by decide +kernel
theorem d_Mo_dueInternal_126 : decode prog_12_method_58_code 126 = .ok (.iload 5, 2) := by decide +kernel
theorem d_Mo_dueInternal_128 : decode prog_12_method_58_code 128 = .ok (.iconst 2, 1) := by decide +kernel
theorem d_Mo_dueInternal_129 : decode prog_12_method_58_code 129 = .ok (.iadd, 1) := by decide +kernel
theorem d_Mo_dueInternal_130 : decode prog_12_method_58_code 130 = .ok (.aload_n 0, 1) := by decide +kernel
theorem d_Mo_dueInternal_131 : decode prog_12_method_58_code 131 = .ok (.getfield 80, 3) := by decide +kernel
theorem d_Mo_dueInternal_134 : decode prog_12_method_58_code 134 = .ok (.iload_n 3, 1) := by decide +kernel
theorem d_Mo_dueInternal_135 : decode prog_12_method_58_code 135 = .ok (.iaload, 1) := by decide +kernel
theorem d_Mo_dueInternal_136 : decode prog_12_method_58_code 136 = .ok (.iadd, 1) := by decide +kernel
theorem d_Mo_dueInternal_137 : decode prog_12_method_58_code 137 = .ok (.iconst 3, 1) := by decide +kernel
theorem d_Mo_dueInternal_138 : decode prog_12_method_58_code 138 = .ok (.aload_n 0, 1) := by decide +kernel
theorem d_Mo_dueInternal_139 : decode prog_12_method_58_code 139 = .ok (.getfield 86, 3) := by decide +kernel
theorem d_Mo_dueInternal_142 : decode prog_12_method_58_code 142 = .ok (.iload_n 3, 1) := by decide +kernel
theorem d_Mo_dueInternal_143 : decode prog_12_method_58_code 143 = .ok (.iaload, 1) := by decide +kernel
theorem d_Mo_dueInternal_144 : decode prog_12_method_58_code 144 = .ok (.invokevirtual 292, 3) := by decide +kernel
theorem d_Mo_dueInternal_147 : decode prog_12_method_58_code 147 = .ok (.istore 5, 2) := by decide +kernel
theorem d_Mo_dueInternal_149 : decode prog_12_method_58_code 149 = .ok (.aload_n 0, 1) := by decide +kernel
theorem d_Mo_dueInternal_150 : decode prog_12_method_58_code 150 = .ok (.getfield 89, 3) := by decide +kernel
theorem d_Mo_dueInternal_153 : decode prog_12_method_58_code 153 = .ok (.iload_n 3, 1) := by decide +kernel
theorem d_Mo_dueInternal_154 : decode prog_12_method_58_code 154 = .ok (.iaload, 1) := by decide +kernel
theorem d_Mo_dueInternal_155 : decode prog_12_method_58_code 155 = .ok (.ifCond .lt (18), 3) := by decide +kernel
theorem d_Mo_dueInternal_158 : decode prog_12_method_58_code 158 = .ok (.aload_n 0, 1) := by decide +kernel
theorem d_Mo_dueInternal_159 : decode prog_12_method_58_code 159 = .ok (.iload 5, 2) := by decide +kernel
theorem d_Mo_dueInternal_161 : decode prog_12_method_58_code 161 = .ok (.iconst 4, 1) := by decide +kernel
theorem d_Mo_dueInternal_162 : decode prog_12_method_58_code 162 = .ok (.aload_n 0, 1) := by decide +kernel
theorem d_Mo_dueInternal_163 : decode prog_12_method_58_code 163 = .ok (.getfield 89, 3) := by decide +kernel
theorem d_Mo_dueInternal_166 : decode prog_12_method_58_code 166 = .ok (.iload_n 3, 1) := by decide +kernel
theorem d_Mo_dueInternal_167 : decode prog_12_method_58_code 167 = .ok (.iaload, 1) := by decide +kernel
theorem d_Mo_dueInternal_168 : decode prog_12_method_58_code 168 = .ok (.invokevirtual 292, 3) := by decide +kernel
theorem d_Mo_dueInternal_171 : decode prog_12_method_58_code 171 = .ok (.istore 5, 2) := by decide +kernel
theorem d_Mo_dueInternal_173 : decode prog_12_method_58_code 173 = .ok (.aload_n 0, 1) := by decide +kernel
theorem d_Mo_dueInternal_174 : decode prog_12_method_58_code 174 = .ok (.iload 5, 2) := by decide +kernel
theorem d_Mo_dueInternal_176 : decode prog_12_method_58_code 176 = .ok (.iconst 5, 1) := by decide +kernel
theorem d_Mo_dueInternal_177 : decode prog_12_method_58_code 177 = .ok (.aload_n 0, 1) := by decide +kernel
theorem d_Mo_dueInternal_178 : decode prog_12_method_58_code 178 = .ok (.iload_n 1, 1) := by decide +kernel
theorem d_Mo_dueInternal_179 : decode prog_12_method_58_code 179 = .ok (.iload_n 2, 1) := by decide +kernel
theorem d_Mo_dueInternal_180 : decode prog_12_method_58_code 180 = .ok (.invokevirtual 255, 3) := by decide +kernel
theorem d_Mo_dueInternal_183 : decode prog_12_method_58_code 183 = .ok (.invokevirtual 292, 3) := by decide +kernel
theorem d_Mo_dueInternal_186 : decode prog_12_method_58_code 186 = .ok (.istore 5, 2) := by decide +kernel
theorem d_Mo_dueInternal_188 : decode prog_12_method_58_code 188 = .ok (.iload 4, 2) := by decide +kernel
theorem d_Mo_dueInternal_190 : decode prog_12_method_58_code 190 = .ok (.ifCond .ne (6), 3) := by decide +kernel
theorem d_Mo_dueInternal_193 : decode prog_12_method_58_code 193 = .ok (.iload 5, 2) := by decide +kernel
theorem d_Mo_dueInternal_195 : decode prog_12_method_58_code 195 = .ok (.ireturn, 1) := by decide +kernel
theorem d_Mo_dueInternal_196 : decode prog_12_method_58_code 196 = .ok (.aload_n 0, 1) := by decide +kernel
theorem d_Mo_dueInternal_197 : decode prog_12_method_58_code 197 = .ok (.iload 5, 2) := by decide +kernel
theorem d_Mo_dueInternal_199 : decode prog_12_method_58_code 199 = .ok (.bipush (9), 2) := by decide +kernel
theorem d_Mo_dueInternal_201 : decode prog_12_method_58_code 201 = .ok (.aload_n 0, 1) := by decide +kernel
theorem d_Mo_dueInternal_202 : decode prog_12_method_58_code 202 = .ok (.getfield 95, 3) := by decide +kernel
theorem d_Mo_dueInternal_205 : decode prog_12_method_58_code 205 = .ok (.iload_n 3, 1) := by decide +kernel
theorem d_Mo_dueInternal_206 : decode prog_12_method_58_code 206 = .ok (.iaload, 1) := by decide +kernel
theorem d_Mo_dueInternal_207 : decode prog_12_method_58_code 207 = .ok (.ifCond .le (12), 3) := by decide +kernel
theorem d_Mo_dueInternal_210 : decode prog_12_method_58_code 210 = .ok (.aload_n 0, 1) := by decide +kernel
theorem d_Mo_dueInternal_211 : decode prog_12_method_58_code 211 = .ok (.getfield 95, 3) := by decide +kernel
theorem d_Mo_dueInternal_214 : decode prog_12_method_58_code 214 = .ok (.iload_n 3, 1) := by decide +kernel
theorem d_Mo_dueInternal_215 : decode prog_12_method_58_code 215 = .ok (.iaload, 1) := by decide +kernel
theorem d_Mo_dueInternal_216 : decode prog_12_method_58_code 216 = .ok (.goto (9), 3) := by decide +kernel
theorem d_Mo_dueInternal_219 : decode prog_12_method_58_code 219 = .ok (.aload_n 0, 1) := by decide +kernel
theorem d_Mo_dueInternal_220 : decode prog_12_method_58_code 220 = .ok (.getfield 28, 3) := by decide +kernel
theorem d_Mo_dueInternal_223 : decode prog_12_method_58_code 223 = .ok (.iload_n 1, 1) := by decide +kernel
theorem d_Mo_dueInternal_224 : decode prog_12_method_58_code 224 = .ok (.iaload, 1) := by decide +kernel
theorem d_Mo_dueInternal_225 : decode prog_12_method_58_code 225 = .ok (.invokevirtual 292, 3) := by decide +kernel
theorem d_Mo_dueInternal_228 : decode prog_12_method_58_code 228 = .ok (.istore 5, 2) := by decide +kernel
theorem d_Mo_dueInternal_230 : decode prog_12_method_58_code 230 = .ok (.aload_n 0, 1) := by decide +kernel
theorem d_Mo_dueInternal_231 : decode prog_12_method_58_code 231 = .ok (.iload 5, 2) := by decide +kernel
theorem d_Mo_dueInternal_233 : decode prog_12_method_58_code 233 = .ok (.bipush (10), 2) := by decide +kernel
theorem d_Mo_dueInternal_235 : decode prog_12_method_58_code 235 = .ok (.invokevirtual 280, 3) := by decide +kernel
theorem d_Mo_dueInternal_238 : decode prog_12_method_58_code 238 = .ok (.aload_n 0, 1) := by decide +kernel
theorem d_Mo_dueInternal_239 : decode prog_12_method_58_code 239 = .ok (.iload 5, 2) := by decide +kernel
theorem d_Mo_dueInternal_241 : decode prog_12_method_58_code 241 = .ok (.iconst 1, 1) := by decide +kernel
theorem d_Mo_dueInternal_242 : decode prog_12_method_58_code 242 = .ok (.iadd, 1) := by decide +kernel
theorem d_Mo_dueInternal_243 : decode prog_12_method_58_code 243 = .ok (.aload_n 0, 1) := by decide +kernel
theorem d_Mo_dueInternal_244 : decode prog_12_method_58_code 244 = .ok (.getfield 98, 3) := by decide +kernel
theorem d_Mo_dueInternal_247 : decode prog_12_method_58_code 247 = .ok (.iload_n 3, 1) := by decide +kernel
theorem d_Mo_dueInternal_248 : decode prog_12_method_58_code 248 = .ok (.iaload, 1) := by decide +kernel
theorem d_Mo_dueInternal_249 : decode prog_12_method_58_code 249 = .ok (.iconst 1, 1) := by decide +kernel
theorem d_Mo_dueInternal_250 : decode prog_12_method_58_code 250 = .ok (.iadd, 1) := by decide +kernel
theorem d_Mo_dueInternal_251 : decode prog_12_method_58_code 251 = .ok (.invokevirtual 280, 3) := by decide +kernel
theorem d_Mo_dueInternal_254 : decode prog_12_method_58_code 254 = .ok (.aload_n 0, 1) := by decide +kernel
theorem d_Mo_dueInternal_255 : decode prog_12_method_58_code 255 = .ok (.iload 5, 2) := by decide +kernel
theorem d_Mo_dueInternal_257 : decode prog_12_method_58_code 257 = .ok (.iconst 2, 1) := by decide +kernel
theorem d_Mo_dueInternal_258 : decode prog_12_method_58_code 258 = .ok (.iadd, 1) := by decide +kernel
theorem d_Mo_dueInternal_259 : decode prog_12_method_58_code 259 = .ok (.bipush (7), 2) := by decide +kernel
theorem d_Mo_dueInternal_261 : decode prog_12_method_58_code 261 = .ok (.invokevirtual 280, 3) := by decide +kernel
theorem d_Mo_dueInternal_264 : decode prog_12_method_58_code 264 = .ok (.iconst 0, 1) := by decide +kernel
theorem d_Mo_dueInternal_265 : decode prog_12_method_58_code 265 = .ok (.istore 6, 2) := by decide +kernel
theorem d_Mo_dueInternal_267 : decode prog_12_method_58_code 267 = .ok (.iload 6, 2) := by decide +kernel
theorem d_Mo_dueInternal_269 : decode prog_12_method_58_code 269 = .ok (.aload_n 0, 1) := by decide +kernel
theorem d_Mo_dueInternal_270 : decode prog_12_method_58_code 270 = .ok (.getfield 98, 3) := by decide +kernel
theorem d_Mo_dueInternal_273 : decode prog_12_method_58_code 273 = .ok (.iload_n 3, 1) := by decide +kernel
theorem d_Mo_dueInternal_274 : decode prog_12_method_58_code 274 = .ok (.iaload, 1) := by decide +kernel
theorem d_Mo_dueInternal_275 : decode prog_12_method_58_code 275 = .ok (.if_icmp .ge (32), 3) := by decide +kernel
theorem d_Mo_dueInternal_278 : decode prog_12_method_58_code 278 = .ok (.aload_n 0, 1) := by decide +kernel
theorem d_Mo_dueInternal_279 : decode prog_12_method_58_code 279 = .ok (.iload 5, 2) := by decide +kernel
theorem d_Mo_dueInternal_281 : decode prog_12_method_58_code 281 = .ok (.iconst 3, 1) := by decide +kernel
theorem d_Mo_dueInternal_282 : decode prog_12_method_58_code 282 = .ok (.iadd, 1) := by decide +kernel
theorem d_Mo_dueInternal_283 : decode prog_12_method_58_code 283 = .ok (.iload 6, 2) := by decide +kernel
theorem d_Mo_dueInternal_285 : decode prog_12_method_58_code 285 = .ok (.iadd, 1) := by decide +kernel
theorem d_Mo_dueInternal_286 : decode prog_12_method_58_code 286 = .ok (.aload_n 0, 1) := by decide +kernel
theorem d_Mo_dueInternal_287 : decode prog_12_method_58_code 287 = .ok (.getfield 101, 3) := by decide +kernel
theorem d_Mo_dueInternal_290 : decode prog_12_method_58_code 290 = .ok (.bipush (6), 2) := by decide +kernel
theorem d_Mo_dueInternal_292 : decode prog_12_method_58_code 292 = .ok (.iload_n 3, 1) := by decide +kernel
theorem d_Mo_dueInternal_293 : decode prog_12_method_58_code 293 = .ok (.imul, 1) := by decide +kernel
theorem d_Mo_dueInternal_294 : decode prog_12_method_58_code 294 = .ok (.iload 6, 2) := by decide +kernel
theorem d_Mo_dueInternal_296 : decode prog_12_method_58_code 296 = .ok (.iadd, 1) := by decide +kernel
theorem d_Mo_dueInternal_297 : decode prog_12_method_58_code 297 = .ok (.iaload, 1) := by decide +kernel
theorem d_Mo_dueInternal_298 : decode prog_12_method_58_code 298 = .ok (.invokevirtual 280, 3) := by decide +kernel
theorem d_Mo_dueInternal_301 : decode prog_12_method_58_code 301 = .ok (.iinc 6 (1), 3) := by decide +kernel
theorem d_Mo_dueInternal_304 : decode prog_12_method_58_code 304 = .ok (.goto (-37), 3) := by decide +kernel
theorem d_Mo_dueInternal_307 : decode prog_12_method_58_code 307 = .ok (.iload 5, 2) := by decide +kernel
theorem d_Mo_dueInternal_309 : decode prog_12_method_58_code 309 = .ok (.iconst 3, 1) := by decide +kernel
theorem d_Mo_dueInternal_310 : decode prog_12_method_58_code 310 = .ok (.iadd, 1) := by decide +kernel
theorem d_Mo_dueInternal_311 : decode prog_12_method_58_code 311 = .ok (.aload_n 0, 1) := by decide +kernel
theorem d_Mo_dueInternal_312 : decode prog_12_method_58_code 312 = .ok (.getfield 98, 3) := by decide +kernel
theorem d_Mo_dueInternal_315 : decode prog_12_method_58_code 315 = .ok (.iload_n 3, 1) := by decide +kernel
theorem d_Mo_dueInternal_316 : decode prog_12_method_58_code 316 = .ok (.iaload, 1) := by decide +kernel
theorem d_Mo_dueInternal_317 : decode prog_12_method_58_code 317 = .ok (.iadd, 1) := by decide +kernel
theorem d_Mo_dueInternal_318 : decode prog_12_method_58_code 318 = .ok (.ireturn, 1) := by decide +kernel
def G_Mo_dueInternal_267 (N : Nat → Nat) (Q : Int32 → rs_Mem → Prop) (K267 : Nat → Int32 → Int32 → Int32 → rs_Mem → Prop) (v0 : Nat) (x3 : Int32) (x5 : Int32) (x6 : Int32) (σ : rs_Mem) : Prop :=
  (vp_in x3 (N (rs_R σ v0 32)) ∧ (((rs_I σ (rs_R σ v0 32) x3.toNatClampNeg) ≤ x6 → (vp_in x3 (N (rs_R σ v0 32)) ∧ (Q ((x5 + (3 : Int32)) + (rs_I σ (rs_R σ v0 32) x3.toNatClampNeg)) σ))) ∧ (¬ ((rs_I σ (rs_R σ v0 32) x3.toNatClampNeg) ≤ x6) → (vp_in (((6 : Int32) * x3) + x6) (N (rs_R σ v0 33)) ∧ (F_Mo_want N v0 ((x5 + (3 : Int32)) + x6) (rs_I σ (rs_R σ v0 33) (((6 : Int32) * x3) + x6).toNatClampNeg) σ (fun σ55 => (∀ x56 : Int32, x56 = x6 + (1 : Int32) → (K267 v0 x3 x5 x56 σ55))))))))
noncomputable def L_Mo_dueInternal_267 (N : Nat → Nat) (Q : Int32 → rs_Mem → Prop) (n : Nat) : Nat → Int32 → Int32 → Int32 → rs_Mem → Prop := Nat.rec (motive := fun _ => Nat → Int32 → Int32 → Int32 → rs_Mem → Prop) (fun _ _ _ _ _ => False) (fun _ K => G_Mo_dueInternal_267 N Q K) n
def B_Mo_dueInternal_225 (N : Nat → Nat) (Q : Int32 → rs_Mem → Prop) (v0 : Nat) (x3 : Int32) (w0 : Nat) (y1 : Int32) (y2 : Int32) (y3 : Int32) (σ : rs_Mem) : Prop :=
  (F_Mo_one N w0 y1 y2 y3 σ (fun x52 σ51 => (F_Mo_want N v0 x52 (10 : Int32) σ51 (fun σ53 => (vp_in x3 (N (rs_R σ53 v0 32)) ∧ (F_Mo_want N v0 (x52 + (1 : Int32)) ((rs_I σ53 (rs_R σ53 v0 32) x3.toNatClampNeg) + (1 : Int32)) σ53 (fun σ56 => (F_Mo_want N v0 (x52 + (2 : Int32)) (7 : Int32) σ56 (fun σ57 => (∃ n : Nat, L_Mo_dueInternal_267 N Q n v0 x3 x52 (0 : Int32) σ57))))))))))
def B_Mo_dueInternal_173 (N : Nat → Nat) (Q : Int32 → rs_Mem → Prop) (v0 : Nat) (x1 : Int32) (x2 : Int32) (x3 : Int32) (x4 : Int32) (x5 : Int32) (σ : rs_Mem) : Prop :=
  (F_Mo_valued N v0 x1 x2 σ (fun x52 σ51 => (F_Mo_one N v0 x5 (5 : Int32) x52 σ51 (fun x54 σ53 => ((¬ (x4 = 0) → (vp_in x3 (N (rs_R σ53 v0 31)) ∧ (((rs_I σ53 (rs_R σ53 v0 31) x3.toNatClampNeg) ≤ 0 → (vp_in x1 (N (rs_R σ53 v0 7)) ∧ (B_Mo_dueInternal_225 N Q v0 x3 v0 x54 (9 : Int32) (rs_I σ53 (rs_R σ53 v0 7) x1.toNatClampNeg) σ53))) ∧ (¬ ((rs_I σ53 (rs_R σ53 v0 31) x3.toNatClampNeg) ≤ 0) → (vp_in x3 (N (rs_R σ53 v0 31)) ∧ (B_Mo_dueInternal_225 N Q v0 x3 v0 x54 (9 : Int32) (rs_I σ53 (rs_R σ53 v0 31) x3.toNatClampNeg) σ53)))))) ∧ (x4 = 0 → (Q x54 σ53)))))))
def G_Mo_dueInternal_85 (N : Nat → Nat) (Q : Int32 → rs_Mem → Prop) (K85 : Nat → Int32 → Int32 → Int32 → Int32 → Int32 → Int32 → rs_Mem → Prop) (v0 : Nat) (x1 : Int32) (x2 : Int32) (x3 : Int32) (x4 : Int32) (x5 : Int32) (x6 : Int32) (σ : rs_Mem) : Prop :=
  (vp_in x3 (N (rs_R σ v0 26)) ∧ (((rs_I σ (rs_R σ v0 26) x3.toNatClampNeg) ≤ x6 → (vp_in x3 (N (rs_R σ v0 26)) ∧ (vp_in x3 (N (rs_R σ v0 28)) ∧ (F_Mo_one N v0 ((x5 + (2 : Int32)) + (rs_I σ (rs_R σ v0 26) x3.toNatClampNeg)) (3 : Int32) (rs_I σ (rs_R σ v0 28) x3.toNatClampNeg) σ (fun x58 σ57 => (vp_in x3 (N (rs_R σ57 v0 29)) ∧ (((rs_I σ57 (rs_R σ57 v0 29) x3.toNatClampNeg) < 0 → (B_Mo_dueInternal_173 N Q v0 x1 x2 x3 x4 x58 σ57)) ∧ (¬ ((rs_I σ57 (rs_R σ57 v0 29) x3.toNatClampNeg) < 0) → (vp_in x3 (N (rs_R σ57 v0 29)) ∧ (F_Mo_one N v0 x58 (4 : Int32) (rs_I σ57 (rs_R σ57 v0 29) x3.toNatClampNeg) σ57 (fun x64 σ63 => (B_Mo_dueInternal_173 N Q v0 x1 x2 x3 x4 x64 σ63)))))))))))) ∧ (¬ ((rs_I σ (rs_R σ v0 26) x3.toNatClampNeg) ≤ x6) → (vp_in (((8 : Int32) * x3) + x6) (N (rs_R σ v0 27)) ∧ (F_Mo_want N v0 ((x5 + (2 : Int32)) + x6) (rs_I σ (rs_R σ v0 27) (((8 : Int32) * x3) + x6).toNatClampNeg) σ (fun σ55 => (∀ x56 : Int32, x56 = x6 + (1 : Int32) → (K85 v0 x1 x2 x3 x4 x5 x56 σ55))))))))
noncomputable def L_Mo_dueInternal_85 (N : Nat → Nat) (Q : Int32 → rs_Mem → Prop) (n : Nat) : Nat → Int32 → Int32 → Int32 → Int32 → Int32 → Int32 → rs_Mem → Prop := Nat.rec (motive := fun _ => Nat → Int32 → Int32 → Int32 → Int32 → Int32 → Int32 → rs_Mem → Prop) (fun _ _ _ _ _ _ _ _ => False) (fun _ K => G_Mo_dueInternal_85 N Q K) n
def B_Mo_dueInternal_47 (N : Nat → Nat) (Q : Int32 → rs_Mem → Prop) (v0 : Nat) (x1 : Int32) (x2 : Int32) (x3 : Int32) (x4 : Int32) (σ : rs_Mem) : Prop :=
  (vp_in x3 (N (rs_R σ v0 25)) ∧ (F_Mo_one N v0 (0 : Int32) (1 : Int32) (rs_I σ (rs_R σ v0 25) x3.toNatClampNeg) σ (fun x54 σ53 => (F_Mo_want N v0 x54 (2 : Int32) σ53 (fun σ55 => (vp_in x3 (N (rs_R σ55 v0 26)) ∧ (F_Mo_want N v0 (x54 + (1 : Int32)) (rs_I σ55 (rs_R σ55 v0 26) x3.toNatClampNeg) σ55 (fun σ58 => (∃ n : Nat, L_Mo_dueInternal_85 N Q n v0 x1 x2 x3 x4 x54 (0 : Int32) σ58)))))))))
def B_Mo_dueInternal_25 (N : Nat → Nat) (Q : Int32 → rs_Mem → Prop) (v0 : Nat) (x1 : Int32) (x2 : Int32) (x3 : Int32) (y0 : Int32) (σ : rs_Mem) : Prop :=
  ((y0 = 0 → (B_Mo_dueInternal_47 N Q v0 x1 x2 x3 y0 σ)) ∧ (¬ (y0 = 0) → (vp_in x3 (N (rs_R σ v0 32)) ∧ ((((rs_I σ (rs_R σ v0 32) x3.toNatClampNeg) + (1 : Int32)) ≤ (6 : Int32) → (B_Mo_dueInternal_47 N Q v0 x1 x2 x3 y0 σ)) ∧ (¬ (((rs_I σ (rs_R σ v0 32) x3.toNatClampNeg) + (1 : Int32)) ≤ (6 : Int32)) → (Q (-1 : Int32) σ))))))
def B_Mo_dueInternal_24 (N : Nat → Nat) (Q : Int32 → rs_Mem → Prop) (v0 : Nat) (x1 : Int32) (x2 : Int32) (x3 : Int32) (σ : rs_Mem) : Prop :=
  (B_Mo_dueInternal_25 N Q v0 x1 x2 x3 (0 : Int32) σ)
def F_Mo_dueInternal (N : Nat → Nat) (v0 : Nat) (x1 : Int32) (x2 : Int32) (σ : rs_Mem) (Q : Int32 → rs_Mem → Prop) : Prop :=
  (∀ x51 : Int32, x51 = (((12 : Int32) * x1) + x2) → (((4 : Int32) ≤ x1 → (B_Mo_dueInternal_24 N Q v0 x1 x2 x51 σ)) ∧ (¬ ((4 : Int32) ≤ x1) → (F_Mo_isInternal N v0 x1 σ (fun x53 σ52 => ((x53 = 0 → (B_Mo_dueInternal_24 N Q v0 x1 x2 x51 σ52)) ∧ (¬ (x53 = 0) → (B_Mo_dueInternal_25 N Q v0 x1 x2 x51 (1 : Int32) σ52))))))))
set_option maxRecDepth 20000 in
theorem JL_Mo_dueInternal_267 {p : Program} {l : Launch} {e : Env} {s : State} {m : MethodId} {args : Array Value} {below : List Frame} {meth : Method} {c : Code} {G : rs_G} {Bm : Nat} {S : rs_Shp} {Q : Int32 → rs_Mem → Prop} (C : rs_C "RouteSpeakerModel" prog_12_method_58_code 7 (some .int) G p s m meth c args) : ∀ n : Nat, ∀ (v0 : Nat) (x3 : Int32) (x5 : Int32) (x6 : Int32) (σ : rs_Mem) (H : Heap) (locs : List Loc) (ls : Array Slot), rs_Ok S 11 v0 → rs_H G Bm S σ H → rs_T S σ → va_S (rs_A Bm) s.heap H locs → lv_has ls 7 [(0, .ref (Bm + v0)), (3, .int x3), (5, .int x5), (6, .int x6)] → (L_Mo_dueInternal_267 S.2.2 Q n) v0 x3 x5 x6 σ → W p l e { frames := 3, cells := 0, slots := 0, locals := 66 } s m args below meth c H locs 0 0 (MQ below (rs_Qi G Bm S Q) args s 0 0 (rs_A Bm)) (F0 m 267 ls []) := by
  have hx := C.1
  have hb := C.2.1
  intro n
  induction n with
  | zero => intros; rename_i hF; exact hF.elim
  | succ n hK267 =>
    intro v0 x3 x5 x6 σ H locs ls h_v0 hH hT hS hl hF
    replace hF : G_Mo_dueInternal_267 S.2.2 Q (L_Mo_dueInternal_267 S.2.2 Q n) v0 x3 x5 x6 σ := hF
    unfold G_Mo_dueInternal_267 at hF
    refine lv_iload hx hb d_Mo_dueInternal_267 (lv_at hl 3 rfl) ?_
    refine lv_aload_n hx hb d_Mo_dueInternal_269 rfl (lv_at hl 0 rfl) ?_
    refine rs_getR C hH hT h_v0 fk_11_32 tw_931 d_Mo_dueInternal_270 (fun h51 => ?_)
    refine lv_iload_n hx hb d_Mo_dueInternal_273 rfl (lv_at hl 1 rfl) ?_
    obtain ⟨g52, hF⟩ := hF
    refine rs_iald C hH h51 g52 d_Mo_dueInternal_274 ?_
    refine lv_icmp_ge hx hb d_Mo_dueInternal_275 (tgt := 307) rfl (fun hc => ?_) (fun hc => ?_)
    · replace hF := hF.1 hc
      refine lv_iload hx hb d_Mo_dueInternal_307 (lv_at hl 2 rfl) ?_
      refine lv_iconst hx hb d_Mo_dueInternal_309 ki_3 ?_
      refine lv_iadd hx hb d_Mo_dueInternal_310 ?_
      refine lv_aload_n hx hb d_Mo_dueInternal_311 rfl (lv_at hl 0 rfl) ?_
      refine rs_getR C hH hT h_v0 fk_11_32 tw_931 d_Mo_dueInternal_312 (fun h53 => ?_)
      refine lv_iload_n hx hb d_Mo_dueInternal_315 rfl (lv_at hl 1 rfl) ?_
      obtain ⟨g54, hF⟩ := hF
      refine rs_iald C hH h53 g54 d_Mo_dueInternal_316 ?_
      refine lv_iadd hx hb d_Mo_dueInternal_317 ?_
      exact rs_iret C hH hT hS hF d_Mo_dueInternal_318
    · replace hF := hF.2 hc
      refine lv_aload_n hx hb d_Mo_dueInternal_278 rfl (lv_at hl 0 rfl) ?_
      refine lv_iload hx hb d_Mo_dueInternal_279 (lv_at hl 2 rfl) ?_
      refine lv_iconst hx hb d_Mo_dueInternal_281 ki_3 ?_
      refine lv_iadd hx hb d_Mo_dueInternal_282 ?_
      refine lv_iload hx hb d_Mo_dueInternal_283 (lv_at hl 3 rfl) ?_
      refine lv_iadd hx hb d_Mo_dueInternal_285 ?_
      refine lv_aload_n hx hb d_Mo_dueInternal_286 rfl (lv_at hl 0 rfl) ?_
      refine rs_getR C hH hT h_v0 fk_11_33 tw_932 d_Mo_dueInternal_287 (fun h53 => ?_)
      refine lv_bipush hx hb d_Mo_dueInternal_290 kb_6 ?_
      refine lv_iload_n hx hb d_Mo_dueInternal_292 rfl (lv_at hl 1 rfl) ?_
      refine lv_imul hx hb d_Mo_dueInternal_293 ?_
      refine lv_iload hx hb d_Mo_dueInternal_294 (lv_at hl 3 rfl) ?_
      refine lv_iadd hx hb d_Mo_dueInternal_296 ?_
      obtain ⟨g54, hF⟩ := hF
      refine rs_iald C hH h53 g54 d_Mo_dueInternal_297 ?_
      refine rs_cv (rs_runV C hH hT hl (J_Mo_want l h_v0 hF) rc_Mo_want tw_1104 tw_1106 ts_49 h_v0 ⟨rfl, by decide, by decide⟩ rfl ⟨⟨rfl, rfl⟩, by decide, by decide, by decide⟩ (Nat.le_of_ble_eq_true rfl) rfl d_Mo_dueInternal_298) hS (fun σ55 H locs hH hT hS hF => ?_)
      obtain ⟨x56, ex56⟩ : ∃ z : Int32, z = x6 + (1 : Int32) := ⟨_, rfl⟩
      replace hF := hF x56 ex56
      refine lv_iinc hx hb d_Mo_dueInternal_301 hl (k := 3) rfl (v := x56) (by rw [ki_1, ex56]) (by decide) (lv' := [(6, .int x56), (0, .ref (Bm + v0)), (3, .int x3), (5, .int x5)]) rfl (fun ls hl => ?_)
      refine lv_goto hx hb d_Mo_dueInternal_304 (tgt := 267) rfl ?_
      exact hK267 v0 x3 x5 x56 σ55 _ _ _ h_v0 hH hT hS (lv_sub hl [1, 2, 3, 0] rfl) hF
set_option maxRecDepth 20000 in
theorem JB_Mo_dueInternal_225 {p : Program} {l : Launch} {e : Env} {s : State} {m : MethodId} {args : Array Value} {below : List Frame} {meth : Method} {c : Code} {G : rs_G} {Bm : Nat} {S : rs_Shp} {Q : Int32 → rs_Mem → Prop} (C : rs_C "RouteSpeakerModel" prog_12_method_58_code 7 (some .int) G p s m meth c args) (v0 : Nat) (x3 : Int32) (w0 : Nat) (y1 : Int32) (y2 : Int32) (y3 : Int32) (σ : rs_Mem) (H : Heap) (locs : List Loc) (ls : Array Slot) (h_v0 : rs_Ok S 11 v0) (h_w0 : rs_Ok S 11 w0) (hH : rs_H G Bm S σ H) (hT : rs_T S σ) (hS : va_S (rs_A Bm) s.heap H locs) (hl : lv_has ls 7 [(0, .ref (Bm + v0)), (3, .int x3)]) (hF : B_Mo_dueInternal_225 S.2.2 Q v0 x3 w0 y1 y2 y3 σ) :
    W p l e { frames := 3, cells := 0, slots := 0, locals := 66 } s m args below meth c H locs 0 0 (MQ below (rs_Qi G Bm S Q) args s 0 0 (rs_A Bm)) (F0 m 225 ls [.int y3, .int y2, .int y1, .ref (Bm + w0)]) := by
  have hx := C.1
  have hb := C.2.1
  unfold B_Mo_dueInternal_225 at hF
  refine rs_ci (rs_runV C hH hT hl (J_Mo_one l h_w0 hF) rc_Mo_one tw_1100 tw_1102 ts_48 h_w0 ⟨rfl, by decide, by decide⟩ rfl ⟨⟨rfl, rfl⟩, by decide, by decide, by decide⟩ (Nat.le_of_ble_eq_true rfl) rfl d_Mo_dueInternal_225) hS (fun x52 σ51 H locs hH hT hS hF => ?_)
  refine lv_istore hx hb d_Mo_dueInternal_228 hl (by decide) (lv' := [(5, .int x52), (0, .ref (Bm + v0)), (3, .int x3)]) rfl (fun ls hl => ?_)
  refine lv_aload_n hx hb d_Mo_dueInternal_230 rfl (lv_at hl 1 rfl) ?_
  refine lv_iload hx hb d_Mo_dueInternal_231 (lv_at hl 0 rfl) ?_
  refine lv_bipush hx hb d_Mo_dueInternal_233 kb_10 ?_
  refine rs_cv (rs_runV C hH hT hl (J_Mo_want l h_v0 hF) rc_Mo_want tw_1104 tw_1106 ts_49 h_v0 ⟨rfl, by decide, by decide⟩ rfl ⟨⟨rfl, rfl⟩, by decide, by decide, by decide⟩ (Nat.le_of_ble_eq_true rfl) rfl d_Mo_dueInternal_235) hS (fun σ53 H locs hH hT hS hF => ?_)
  refine lv_aload_n hx hb d_Mo_dueInternal_238 rfl (lv_at hl 1 rfl) ?_
  refine lv_iload hx hb d_Mo_dueInternal_239 (lv_at hl 0 rfl) ?_
  refine lv_iconst hx hb d_Mo_dueInternal_241 ki_1 ?_
  refine lv_iadd hx hb d_Mo_dueInternal_242 ?_
  refine lv_aload_n hx hb d_Mo_dueInternal_243 rfl (lv_at hl 1 rfl) ?_
  refine rs_getR C hH hT h_v0 fk_11_32 tw_931 d_Mo_dueInternal_244 (fun h54 => ?_)
  refine lv_iload_n hx hb d_Mo_dueInternal_247 rfl (lv_at hl 2 rfl) ?_
  obtain ⟨g55, hF⟩ := hF
  refine rs_iald C hH h54 g55 d_Mo_dueInternal_248 ?_
  refine lv_iconst hx hb d_Mo_dueInternal_249 ki_1 ?_
  refine lv_iadd hx hb d_Mo_dueInternal_250 ?_
  refine rs_cv (rs_runV C hH hT hl (J_Mo_want l h_v0 hF) rc_Mo_want tw_1104 tw_1106 ts_49 h_v0 ⟨rfl, by decide, by decide⟩ rfl ⟨⟨rfl, rfl⟩, by decide, by decide, by decide⟩ (Nat.le_of_ble_eq_true rfl) rfl d_Mo_dueInternal_251) hS (fun σ56 H locs hH hT hS hF => ?_)
  refine lv_aload_n hx hb d_Mo_dueInternal_254 rfl (lv_at hl 1 rfl) ?_
  refine lv_iload hx hb d_Mo_dueInternal_255 (lv_at hl 0 rfl) ?_
  refine lv_iconst hx hb d_Mo_dueInternal_257 ki_2 ?_
  refine lv_iadd hx hb d_Mo_dueInternal_258 ?_
  refine lv_bipush hx hb d_Mo_dueInternal_259 kb_7 ?_
  refine rs_cv (rs_runV C hH hT hl (J_Mo_want l h_v0 hF) rc_Mo_want tw_1104 tw_1106 ts_49 h_v0 ⟨rfl, by decide, by decide⟩ rfl ⟨⟨rfl, rfl⟩, by decide, by decide, by decide⟩ (Nat.le_of_ble_eq_true rfl) rfl d_Mo_dueInternal_261) hS (fun σ57 H locs hH hT hS hF => ?_)
  refine lv_iconst hx hb d_Mo_dueInternal_264 ki_0 ?_
  refine lv_istore hx hb d_Mo_dueInternal_265 hl (by decide) (lv' := [(6, .int (0 : Int32)), (5, .int x52), (0, .ref (Bm + v0)), (3, .int x3)]) rfl (fun ls hl => ?_)
  obtain ⟨n, hF⟩ := hF
  exact JL_Mo_dueInternal_267 C n v0 x3 x52 (0 : Int32) σ57 _ _ _ h_v0 hH hT hS (lv_sub hl [2, 3, 1, 0] rfl) hF
set_option maxRecDepth 20000 in
theorem JB_Mo_dueInternal_173 {p : Program} {l : Launch} {e : Env} {s : State} {m : MethodId} {args : Array Value} {below : List Frame} {meth : Method} {c : Code} {G : rs_G} {Bm : Nat} {S : rs_Shp} {Q : Int32 → rs_Mem → Prop} (C : rs_C "RouteSpeakerModel" prog_12_method_58_code 7 (some .int) G p s m meth c args) (v0 : Nat) (x1 : Int32) (x2 : Int32) (x3 : Int32) (x4 : Int32) (x5 : Int32) (σ : rs_Mem) (H : Heap) (locs : List Loc) (ls : Array Slot) (h_v0 : rs_Ok S 11 v0) (hH : rs_H G Bm S σ H) (hT : rs_T S σ) (hS : va_S (rs_A Bm) s.heap H locs) (hl : lv_has ls 7 [(0, .ref (Bm + v0)), (1, .int x1), (2, .int x2), (3, .int x3), (4, .int x4), (5, .int x5)]) (hF : B_Mo_dueInternal_173 S.2.2 Q v0 x1 x2 x3 x4 x5 σ) :
    W p l e { frames := 3, cells := 0, slots := 0, locals := 66 } s m args below meth c H locs 0 0 (MQ below (rs_Qi G Bm S Q) args s 0 0 (rs_A Bm)) (F0 m 173 ls []) := by
  have hx := C.1
  have hb := C.2.1
  unfold B_Mo_dueInternal_173 at hF
  refine lv_aload_n hx hb d_Mo_dueInternal_173 rfl (lv_at hl 0 rfl) ?_
  refine lv_iload hx hb d_Mo_dueInternal_174 (lv_at hl 5 rfl) ?_
  refine lv_iconst hx hb d_Mo_dueInternal_176 ki_5 ?_
  refine lv_aload_n hx hb d_Mo_dueInternal_177 rfl (lv_at hl 0 rfl) ?_
  refine lv_iload_n hx hb d_Mo_dueInternal_178 rfl (lv_at hl 1 rfl) ?_
  refine lv_iload_n hx hb d_Mo_dueInternal_179 rfl (lv_at hl 2 rfl) ?_
  refine rs_ci (rs_runV C hH hT hl (J_Mo_valued l h_v0 hF) rc_Mo_valued tw_1088 tw_1090 ts_45 h_v0 ⟨rfl, by decide, by decide⟩ rfl ⟨⟨rfl, rfl⟩, by decide, by decide, by decide⟩ (Nat.le_of_ble_eq_true rfl) rfl d_Mo_dueInternal_180) hS (fun x52 σ51 H locs hH hT hS hF => ?_)
  refine rs_ci (rs_runV C hH hT hl (J_Mo_one l h_v0 hF) rc_Mo_one tw_1100 tw_1102 ts_48 h_v0 ⟨rfl, by decide, by decide⟩ rfl ⟨⟨rfl, rfl⟩, by decide, by decide, by decide⟩ (Nat.le_of_ble_eq_true rfl) rfl d_Mo_dueInternal_183) hS (fun x54 σ53 H locs hH hT hS hF => ?_)
  refine lv_istore hx hb d_Mo_dueInternal_186 hl (by decide) (lv' := [(5, .int x54), (0, .ref (Bm + v0)), (1, .int x1), (2, .int x2), (3, .int x3), (4, .int x4)]) rfl (fun ls hl => ?_)
  refine lv_iload hx hb d_Mo_dueInternal_188 (lv_at hl 5 rfl) ?_
  refine lv_if_ne hx hb d_Mo_dueInternal_190 (tgt := 196) rfl (fun hc => ?_) (fun hc => ?_)
  · replace hF := hF.1 hc
    refine lv_aload_n hx hb d_Mo_dueInternal_196 rfl (lv_at hl 1 rfl) ?_
    refine lv_iload hx hb d_Mo_dueInternal_197 (lv_at hl 0 rfl) ?_
    refine lv_bipush hx hb d_Mo_dueInternal_199 kb_9 ?_
    refine lv_aload_n hx hb d_Mo_dueInternal_201 rfl (lv_at hl 1 rfl) ?_
    refine rs_getR C hH hT h_v0 fk_11_31 tw_930 d_Mo_dueInternal_202 (fun h55 => ?_)
    refine lv_iload_n hx hb d_Mo_dueInternal_205 rfl (lv_at hl 4 rfl) ?_
    obtain ⟨g56, hF⟩ := hF
    refine rs_iald C hH h55 g56 d_Mo_dueInternal_206 ?_
    refine lv_if_le hx hb d_Mo_dueInternal_207 (tgt := 219) rfl (fun hc => ?_) (fun hc => ?_)
    · replace hF := hF.1 hc
      refine lv_aload_n hx hb d_Mo_dueInternal_219 rfl (lv_at hl 1 rfl) ?_
      refine rs_getR C hH hT h_v0 fk_11_7 tw_906 d_Mo_dueInternal_220 (fun h57 => ?_)
      refine lv_iload_n hx hb d_Mo_dueInternal_223 rfl (lv_at hl 2 rfl) ?_
      obtain ⟨g58, hF⟩ := hF
      refine rs_iald C hH h57 g58 d_Mo_dueInternal_224 ?_
      exact JB_Mo_dueInternal_225 C v0 x3 v0 x54 (9 : Int32) (rs_I σ53 (rs_R σ53 v0 7) x1.toNatClampNeg) σ53 _ _ _ h_v0 h_v0 hH hT hS (lv_sub hl [1, 4] rfl) hF
    · replace hF := hF.2 hc
      refine lv_aload_n hx hb d_Mo_dueInternal_210 rfl (lv_at hl 1 rfl) ?_
      refine rs_getR C hH hT h_v0 fk_11_31 tw_930 d_Mo_dueInternal_211 (fun h57 => ?_)
      refine lv_iload_n hx hb d_Mo_dueInternal_214 rfl (lv_at hl 4 rfl) ?_
      obtain ⟨g58, hF⟩ := hF
      refine rs_iald C hH h57 g58 d_Mo_dueInternal_215 ?_
      refine lv_goto hx hb d_Mo_dueInternal_216 (tgt := 225) rfl ?_
      exact JB_Mo_dueInternal_225 C v0 x3 v0 x54 (9 : Int32) (rs_I σ53 (rs_R σ53 v0 31) x3.toNatClampNeg) σ53 _ _ _ h_v0 h_v0 hH hT hS (lv_sub hl [1, 4] rfl) hF
  · replace hF := hF.2 hc
    refine lv_iload hx hb d_Mo_dueInternal_193 (lv_at hl 0 rfl) ?_
    exact rs_iret C hH hT hS hF d_Mo_dueInternal_195
set_option maxRecDepth 20000 in
theorem JL_Mo_dueInternal_85 {p : Program} {l : Launch} {e : Env} {s : State} {m : MethodId} {args : Array Value} {below : List Frame} {meth : Method} {c : Code} {G : rs_G} {Bm : Nat} {S : rs_Shp} {Q : Int32 → rs_Mem → Prop} (C : rs_C "RouteSpeakerModel" prog_12_method_58_code 7 (some .int) G p s m meth c args) : ∀ n : Nat, ∀ (v0 : Nat) (x1 : Int32) (x2 : Int32) (x3 : Int32) (x4 : Int32) (x5 : Int32) (x6 : Int32) (σ : rs_Mem) (H : Heap) (locs : List Loc) (ls : Array Slot), rs_Ok S 11 v0 → rs_H G Bm S σ H → rs_T S σ → va_S (rs_A Bm) s.heap H locs → lv_has ls 7 [(0, .ref (Bm + v0)), (1, .int x1), (2, .int x2), (3, .int x3), (4, .int x4), (5, .int x5), (6, .int x6)] → (L_Mo_dueInternal_85 S.2.2 Q n) v0 x1 x2 x3 x4 x5 x6 σ → W p l e { frames := 3, cells := 0, slots := 0, locals := 66 } s m args below meth c H locs 0 0 (MQ below (rs_Qi G Bm S Q) args s 0 0 (rs_A Bm)) (F0 m 85 ls []) := by
  have hx := C.1
  have hb := C.2.1
  intro n
  induction n with
  | zero => intros; rename_i hF; exact hF.elim
  | succ n hK85 =>
    intro v0 x1 x2 x3 x4 x5 x6 σ H locs ls h_v0 hH hT hS hl hF
    replace hF : G_Mo_dueInternal_85 S.2.2 Q (L_Mo_dueInternal_85 S.2.2 Q n) v0 x1 x2 x3 x4 x5 x6 σ := hF
    unfold G_Mo_dueInternal_85 at hF
    refine lv_iload hx hb d_Mo_dueInternal_85 (lv_at hl 6 rfl) ?_
    refine lv_aload_n hx hb d_Mo_dueInternal_87 rfl (lv_at hl 0 rfl) ?_
    refine rs_getR C hH hT h_v0 fk_11_26 tw_925 d_Mo_dueInternal_88 (fun h51 => ?_)
    refine lv_iload_n hx hb d_Mo_dueInternal_91 rfl (lv_at hl 3 rfl) ?_
    obtain ⟨g52, hF⟩ := hF
    refine rs_iald C hH h51 g52 d_Mo_dueInternal_92 ?_
    refine lv_icmp_ge hx hb d_Mo_dueInternal_93 (tgt := 125) rfl (fun hc => ?_) (fun hc => ?_)
    · replace hF := hF.1 hc
      refine lv_aload_n hx hb d_Mo_dueInternal_125 rfl (lv_at hl 0 rfl) ?_
      refine lv_iload hx hb d_Mo_dueInternal_126 (lv_at hl 5 rfl) ?_
      refine lv_iconst hx hb d_Mo_dueInternal_128 ki_2 ?_
      refine lv_iadd hx hb d_Mo_dueInternal_129 ?_
      refine lv_aload_n hx hb d_Mo_dueInternal_130 rfl (lv_at hl 0 rfl) ?_
      refine rs_getR C hH hT h_v0 fk_11_26 tw_925 d_Mo_dueInternal_131 (fun h53 => ?_)
      refine lv_iload_n hx hb d_Mo_dueInternal_134 rfl (lv_at hl 3 rfl) ?_
      obtain ⟨g54, hF⟩ := hF
      refine rs_iald C hH h53 g54 d_Mo_dueInternal_135 ?_
      refine lv_iadd hx hb d_Mo_dueInternal_136 ?_
      refine lv_iconst hx hb d_Mo_dueInternal_137 ki_3 ?_
      refine lv_aload_n hx hb d_Mo_dueInternal_138 rfl (lv_at hl 0 rfl) ?_
      refine rs_getR C hH hT h_v0 fk_11_28 tw_927 d_Mo_dueInternal_139 (fun h55 => ?_)
      refine lv_iload_n hx hb d_Mo_dueInternal_142 rfl (lv_at hl 3 rfl) ?_
      obtain ⟨g56, hF⟩ := hF
      refine rs_iald C hH h55 g56 d_Mo_dueInternal_143 ?_
      refine rs_ci (rs_runV C hH hT hl (J_Mo_one l h_v0 hF) rc_Mo_one tw_1100 tw_1102 ts_48 h_v0 ⟨rfl, by decide, by decide⟩ rfl ⟨⟨rfl, rfl⟩, by decide, by decide, by decide⟩ (Nat.le_of_ble_eq_true rfl) rfl d_Mo_dueInternal_144) hS (fun x58 σ57 H locs hH hT hS hF => ?_)
      refine lv_istore hx hb d_Mo_dueInternal_147 hl (by decide) (lv' := [(5, .int x58), (0, .ref (Bm + v0)), (1, .int x1), (2, .int x2), (3, .int x3), (4, .int x4), (6, .int x6)]) rfl (fun ls hl => ?_)
      refine lv_aload_n hx hb d_Mo_dueInternal_149 rfl (lv_at hl 1 rfl) ?_
      refine rs_getR C hH hT h_v0 fk_11_29 tw_928 d_Mo_dueInternal_150 (fun h59 => ?_)
      refine lv_iload_n hx hb d_Mo_dueInternal_153 rfl (lv_at hl 4 rfl) ?_
      obtain ⟨g60, hF⟩ := hF
      refine rs_iald C hH h59 g60 d_Mo_dueInternal_154 ?_
      refine lv_if_lt hx hb d_Mo_dueInternal_155 (tgt := 173) rfl (fun hc => ?_) (fun hc => ?_)
      · replace hF := hF.1 hc
        exact JB_Mo_dueInternal_173 C v0 x1 x2 x3 x4 x58 σ57 _ _ _ h_v0 hH hT hS (lv_sub hl [1, 2, 3, 4, 5, 0] rfl) hF
      · replace hF := hF.2 hc
        refine lv_aload_n hx hb d_Mo_dueInternal_158 rfl (lv_at hl 1 rfl) ?_
        refine lv_iload hx hb d_Mo_dueInternal_159 (lv_at hl 0 rfl) ?_
        refine lv_iconst hx hb d_Mo_dueInternal_161 ki_4 ?_
        refine lv_aload_n hx hb d_Mo_dueInternal_162 rfl (lv_at hl 1 rfl) ?_
        refine rs_getR C hH hT h_v0 fk_11_29 tw_928 d_Mo_dueInternal_163 (fun h61 => ?_)
        refine lv_iload_n hx hb d_Mo_dueInternal_166 rfl (lv_at hl 4 rfl) ?_
        obtain ⟨g62, hF⟩ := hF
        refine rs_iald C hH h61 g62 d_Mo_dueInternal_167 ?_
        refine rs_ci (rs_runV C hH hT hl (J_Mo_one l h_v0 hF) rc_Mo_one tw_1100 tw_1102 ts_48 h_v0 ⟨rfl, by decide, by decide⟩ rfl ⟨⟨rfl, rfl⟩, by decide, by decide, by decide⟩ (Nat.le_of_ble_eq_true rfl) rfl d_Mo_dueInternal_168) hS (fun x64 σ63 H locs hH hT hS hF => ?_)
        refine lv_istore hx hb d_Mo_dueInternal_171 hl (by decide) (lv' := [(5, .int x64), (0, .ref (Bm + v0)), (1, .int x1), (2, .int x2), (3, .int x3), (4, .int x4), (6, .int x6)]) rfl (fun ls hl => ?_)
        exact JB_Mo_dueInternal_173 C v0 x1 x2 x3 x4 x64 σ63 _ _ _ h_v0 hH hT hS (lv_sub hl [1, 2, 3, 4, 5, 0] rfl) hF
    · replace hF := hF.2 hc
      refine lv_aload_n hx hb d_Mo_dueInternal_96 rfl (lv_at hl 0 rfl) ?_
      refine lv_iload hx hb d_Mo_dueInternal_97 (lv_at hl 5 rfl) ?_
      refine lv_iconst hx hb d_Mo_dueInternal_99 ki_2 ?_
      refine lv_iadd hx hb d_Mo_dueInternal_100 ?_
      refine lv_iload hx hb d_Mo_dueInternal_101 (lv_at hl 6 rfl) ?_
      refine lv_iadd hx hb d_Mo_dueInternal_103 ?_
      refine lv_aload_n hx hb d_Mo_dueInternal_104 rfl (lv_at hl 0 rfl) ?_
      refine rs_getR C hH hT h_v0 fk_11_27 tw_926 d_Mo_dueInternal_105 (fun h53 => ?_)
      refine lv_bipush hx hb d_Mo_dueInternal_108 kb_8 ?_
      refine lv_iload_n hx hb d_Mo_dueInternal_110 rfl (lv_at hl 3 rfl) ?_
      refine lv_imul hx hb d_Mo_dueInternal_111 ?_
      refine lv_iload hx hb d_Mo_dueInternal_112 (lv_at hl 6 rfl) ?_
      refine lv_iadd hx hb d_Mo_dueInternal_114 ?_
      obtain ⟨g54, hF⟩ := hF
      refine rs_iald C hH h53 g54 d_Mo_dueInternal_115 ?_
      refine rs_cv (rs_runV C hH hT hl (J_Mo_want l h_v0 hF) rc_Mo_want tw_1104 tw_1106 ts_49 h_v0 ⟨rfl, by decide, by decide⟩ rfl ⟨⟨rfl, rfl⟩, by decide, by decide, by decide⟩ (Nat.le_of_ble_eq_true rfl) rfl d_Mo_dueInternal_116) hS (fun σ55 H locs hH hT hS hF => ?_)
      obtain ⟨x56, ex56⟩ : ∃ z : Int32, z = x6 + (1 : Int32) := ⟨_, rfl⟩
      replace hF := hF x56 ex56
      refine lv_iinc hx hb d_Mo_dueInternal_119 hl (k := 6) rfl (v := x56) (by rw [ki_1, ex56]) (by decide) (lv' := [(6, .int x56), (0, .ref (Bm + v0)), (1, .int x1), (2, .int x2), (3, .int x3), (4, .int x4), (5, .int x5)]) rfl (fun ls hl => ?_)
      refine lv_goto hx hb d_Mo_dueInternal_122 (tgt := 85) rfl ?_
      exact hK85 v0 x1 x2 x3 x4 x5 x56 σ55 _ _ _ h_v0 hH hT hS (lv_sub hl [1, 2, 3, 4, 5, 6, 0] rfl) hF
set_option maxRecDepth 20000 in
theorem JB_Mo_dueInternal_47 {p : Program} {l : Launch} {e : Env} {s : State} {m : MethodId} {args : Array Value} {below : List Frame} {meth : Method} {c : Code} {G : rs_G} {Bm : Nat} {S : rs_Shp} {Q : Int32 → rs_Mem → Prop} (C : rs_C "RouteSpeakerModel" prog_12_method_58_code 7 (some .int) G p s m meth c args) (v0 : Nat) (x1 : Int32) (x2 : Int32) (x3 : Int32) (x4 : Int32) (σ : rs_Mem) (H : Heap) (locs : List Loc) (ls : Array Slot) (h_v0 : rs_Ok S 11 v0) (hH : rs_H G Bm S σ H) (hT : rs_T S σ) (hS : va_S (rs_A Bm) s.heap H locs) (hl : lv_has ls 7 [(0, .ref (Bm + v0)), (1, .int x1), (2, .int x2), (3, .int x3), (4, .int x4)]) (hF : B_Mo_dueInternal_47 S.2.2 Q v0 x1 x2 x3 x4 σ) :
    W p l e { frames := 3, cells := 0, slots := 0, locals := 66 } s m args below meth c H locs 0 0 (MQ below (rs_Qi G Bm S Q) args s 0 0 (rs_A Bm)) (F0 m 47 ls []) := by
  have hx := C.1
  have hb := C.2.1
  unfold B_Mo_dueInternal_47 at hF
  refine lv_aload_n hx hb d_Mo_dueInternal_47 rfl (lv_at hl 0 rfl) ?_
  refine lv_iconst hx hb d_Mo_dueInternal_48 ki_0 ?_
  refine lv_iconst hx hb d_Mo_dueInternal_49 ki_1 ?_
  refine lv_aload_n hx hb d_Mo_dueInternal_50 rfl (lv_at hl 0 rfl) ?_
  refine rs_getR C hH hT h_v0 fk_11_25 tw_924 d_Mo_dueInternal_51 (fun h51 => ?_)
  refine lv_iload_n hx hb d_Mo_dueInternal_54 rfl (lv_at hl 3 rfl) ?_
  obtain ⟨g52, hF⟩ := hF
  refine rs_iald C hH h51 g52 d_Mo_dueInternal_55 ?_
  refine rs_ci (rs_runV C hH hT hl (J_Mo_one l h_v0 hF) rc_Mo_one tw_1100 tw_1102 ts_48 h_v0 ⟨rfl, by decide, by decide⟩ rfl ⟨⟨rfl, rfl⟩, by decide, by decide, by decide⟩ (Nat.le_of_ble_eq_true rfl) rfl d_Mo_dueInternal_56) hS (fun x54 σ53 H locs hH hT hS hF => ?_)
  refine lv_istore hx hb d_Mo_dueInternal_59 hl (by decide) (lv' := [(5, .int x54), (0, .ref (Bm + v0)), (1, .int x1), (2, .int x2), (3, .int x3), (4, .int x4)]) rfl (fun ls hl => ?_)
  refine lv_aload_n hx hb d_Mo_dueInternal_61 rfl (lv_at hl 1 rfl) ?_
  refine lv_iload hx hb d_Mo_dueInternal_62 (lv_at hl 0 rfl) ?_
  refine lv_iconst hx hb d_Mo_dueInternal_64 ki_2 ?_
  refine rs_cv (rs_runV C hH hT hl (J_Mo_want l h_v0 hF) rc_Mo_want tw_1104 tw_1106 ts_49 h_v0 ⟨rfl, by decide, by decide⟩ rfl ⟨⟨rfl, rfl⟩, by decide, by decide, by decide⟩ (Nat.le_of_ble_eq_true rfl) rfl d_Mo_dueInternal_65) hS (fun σ55 H locs hH hT hS hF => ?_)
  refine lv_aload_n hx hb d_Mo_dueInternal_68 rfl (lv_at hl 1 rfl) ?_
  refine lv_iload hx hb d_Mo_dueInternal_69 (lv_at hl 0 rfl) ?_
  refine lv_iconst hx hb d_Mo_dueInternal_71 ki_1 ?_
  refine lv_iadd hx hb d_Mo_dueInternal_72 ?_
  refine lv_aload_n hx hb d_Mo_dueInternal_73 rfl (lv_at hl 1 rfl) ?_
  refine rs_getR C hH hT h_v0 fk_11_26 tw_925 d_Mo_dueInternal_74 (fun h56 => ?_)
  refine lv_iload_n hx hb d_Mo_dueInternal_77 rfl (lv_at hl 4 rfl) ?_
  obtain ⟨g57, hF⟩ := hF
  refine rs_iald C hH h56 g57 d_Mo_dueInternal_78 ?_
  refine rs_cv (rs_runV C hH hT hl (J_Mo_want l h_v0 hF) rc_Mo_want tw_1104 tw_1106 ts_49 h_v0 ⟨rfl, by decide, by decide⟩ rfl ⟨⟨rfl, rfl⟩, by decide, by decide, by decide⟩ (Nat.le_of_ble_eq_true rfl) rfl d_Mo_dueInternal_79) hS (fun σ58 H locs hH hT hS hF => ?_)
  refine lv_iconst hx hb d_Mo_dueInternal_82 ki_0 ?_
  refine lv_istore hx hb d_Mo_dueInternal_83 hl (by decide) (lv' := [(6, .int (0 : Int32)), (5, .int x54), (0, .ref (Bm + v0)), (1, .int x1), (2, .int x2), (3, .int x3), (4, .int x4)]) rfl (fun ls hl => ?_)
  obtain ⟨n, hF⟩ := hF
  exact JL_Mo_dueInternal_85 C n v0 x1 x2 x3 x4 x54 (0 : Int32) σ58 _ _ _ h_v0 hH hT hS (lv_sub hl [2, 3, 4, 5, 6, 1, 0] rfl) hF
set_option maxRecDepth 20000 in
theorem JB_Mo_dueInternal_25 {p : Program} {l : Launch} {e : Env} {s : State} {m : MethodId} {args : Array Value} {below : List Frame} {meth : Method} {c : Code} {G : rs_G} {Bm : Nat} {S : rs_Shp} {Q : Int32 → rs_Mem → Prop} (C : rs_C "RouteSpeakerModel" prog_12_method_58_code 7 (some .int) G p s m meth c args) (v0 : Nat) (x1 : Int32) (x2 : Int32) (x3 : Int32) (y0 : Int32) (σ : rs_Mem) (H : Heap) (locs : List Loc) (ls : Array Slot) (h_v0 : rs_Ok S 11 v0) (hH : rs_H G Bm S σ H) (hT : rs_T S σ) (hS : va_S (rs_A Bm) s.heap H locs) (hl : lv_has ls 7 [(0, .ref (Bm + v0)), (1, .int x1), (2, .int x2), (3, .int x3)]) (hF : B_Mo_dueInternal_25 S.2.2 Q v0 x1 x2 x3 y0 σ) :
    W p l e { frames := 3, cells := 0, slots := 0, locals := 66 } s m args below meth c H locs 0 0 (MQ below (rs_Qi G Bm S Q) args s 0 0 (rs_A Bm)) (F0 m 25 ls [.int y0]) := by
  have hx := C.1
  have hb := C.2.1
  unfold B_Mo_dueInternal_25 at hF
  refine lv_istore hx hb d_Mo_dueInternal_25 hl (by decide) (lv' := [(4, .int y0), (0, .ref (Bm + v0)), (1, .int x1), (2, .int x2), (3, .int x3)]) rfl (fun ls hl => ?_)
  refine lv_iload hx hb d_Mo_dueInternal_27 (lv_at hl 0 rfl) ?_
  refine lv_if_eq hx hb d_Mo_dueInternal_29 (tgt := 47) rfl (fun hc => ?_) (fun hc => ?_)
  · replace hF := hF.1 hc
    exact JB_Mo_dueInternal_47 C v0 x1 x2 x3 y0 σ _ _ _ h_v0 hH hT hS (lv_sub hl [1, 2, 3, 4, 0] rfl) hF
  · replace hF := hF.2 hc
    refine lv_aload_n hx hb d_Mo_dueInternal_32 rfl (lv_at hl 1 rfl) ?_
    refine rs_getR C hH hT h_v0 fk_11_32 tw_931 d_Mo_dueInternal_33 (fun h51 => ?_)
    refine lv_iload_n hx hb d_Mo_dueInternal_36 rfl (lv_at hl 4 rfl) ?_
    obtain ⟨g52, hF⟩ := hF
    refine rs_iald C hH h51 g52 d_Mo_dueInternal_37 ?_
    refine lv_iconst hx hb d_Mo_dueInternal_38 ki_1 ?_
    refine lv_iadd hx hb d_Mo_dueInternal_39 ?_
    refine lv_bipush hx hb d_Mo_dueInternal_40 kb_6 ?_
    refine lv_icmp_le hx hb d_Mo_dueInternal_42 (tgt := 47) rfl (fun hc => ?_) (fun hc => ?_)
    · replace hF := hF.1 hc
      exact JB_Mo_dueInternal_47 C v0 x1 x2 x3 y0 σ _ _ _ h_v0 hH hT hS (lv_sub hl [1, 2, 3, 4, 0] rfl) hF
    · replace hF := hF.2 hc
      refine lv_iconst hx hb d_Mo_dueInternal_45 ki_m1 ?_
      exact rs_iret C hH hT hS hF d_Mo_dueInternal_46
set_option maxRecDepth 20000 in
theorem JB_Mo_dueInternal_24 {p : Program} {l : Launch} {e : Env} {s : State} {m : MethodId} {args : Array Value} {below : List Frame} {meth : Method} {c : Code} {G : rs_G} {Bm : Nat} {S : rs_Shp} {Q : Int32 → rs_Mem → Prop} (C : rs_C "RouteSpeakerModel" prog_12_method_58_code 7 (some .int) G p s m meth c args) (v0 : Nat) (x1 : Int32) (x2 : Int32) (x3 : Int32) (σ : rs_Mem) (H : Heap) (locs : List Loc) (ls : Array Slot) (h_v0 : rs_Ok S 11 v0) (hH : rs_H G Bm S σ H) (hT : rs_T S σ) (hS : va_S (rs_A Bm) s.heap H locs) (hl : lv_has ls 7 [(0, .ref (Bm + v0)), (1, .int x1), (2, .int x2), (3, .int x3)]) (hF : B_Mo_dueInternal_24 S.2.2 Q v0 x1 x2 x3 σ) :
    W p l e { frames := 3, cells := 0, slots := 0, locals := 66 } s m args below meth c H locs 0 0 (MQ below (rs_Qi G Bm S Q) args s 0 0 (rs_A Bm)) (F0 m 24 ls []) := by
  have hx := C.1
  have hb := C.2.1
  unfold B_Mo_dueInternal_24 at hF
  refine lv_iconst hx hb d_Mo_dueInternal_24 ki_0 ?_
  exact JB_Mo_dueInternal_25 C v0 x1 x2 x3 (0 : Int32) σ _ _ _ h_v0 hH hT hS (lv_sub hl [0, 1, 2, 3] rfl) hF
abbrev y_Mo_dueInternal : MethodName := ({ cls := "RouteSpeakerModel", name := "dueInternal", desc := "(II)I" } : Jvm.MethodName)
theorem rc_Mo_dueInternal : rs_Cal y_Mo_dueInternal prog_12_method_58_code 7 (some .int) 2 := ⟨tw_1099, tw_11, by decide, by decide, by decide +kernel⟩
set_option maxRecDepth 20000 in
theorem J_Mo_dueInternal (l : Launch) {G : rs_G} {Bm : Nat} {S : rs_Shp} {v0 : Nat} {x1 : Int32} {x2 : Int32} {σ : rs_Mem} {Q : Int32 → rs_Mem → Prop} (h_v0 : rs_Ok S 11 v0) (hF : F_Mo_dueInternal S.2.2 v0 x1 x2 σ Q) :
    Met l y_Mo_dueInternal (rs_ws y_Mo_dueInternal prog_12_method_58_code 7 (some .int)) { frames := 3, cells := 0, slots := 0, locals := 66 } (rs_P G Bm S σ [.ref (Bm + v0), .int x1, .int x2]) (rs_Qi G Bm S Q) 0 0 (rs_A Bm) := by
  refine rs_met (own := "RouteSpeakerModel") (by decide) rfl (Nat.le_of_ble_eq_true rfl) (fun p e s m below meth c ls C hl hH hT hS => ?_)
  replace hl : lv_has ls 7 [(0, .ref (Bm + v0)), (1, .int x1), (2, .int x2)] := hl
  have hx := C.1
  have hb := C.2.1
  unfold F_Mo_dueInternal at hF
  refine lv_bipush hx hb d_Mo_dueInternal_0 kb_12 ?_
  refine lv_iload_n hx hb d_Mo_dueInternal_2 rfl (lv_at hl 1 rfl) ?_
  refine lv_imul hx hb d_Mo_dueInternal_3 ?_
  refine lv_iload_n hx hb d_Mo_dueInternal_4 rfl (lv_at hl 2 rfl) ?_
  refine lv_iadd hx hb d_Mo_dueInternal_5 ?_
  refine lv_topi (fun x51 ex51 => ?_)
  replace hF := hF x51 ex51
  refine lv_istore_n hx hb d_Mo_dueInternal_6 rfl hl (by decide) (lv' := [(3, .int x51), (0, .ref (Bm + v0)), (1, .int x1), (2, .int x2)]) rfl (fun ls hl => ?_)
  refine lv_iload_n hx hb d_Mo_dueInternal_7 rfl (lv_at hl 2 rfl) ?_
  refine lv_iconst hx hb d_Mo_dueInternal_8 ki_4 ?_
  refine lv_icmp_ge hx hb d_Mo_dueInternal_9 (tgt := 24) rfl (fun hc => ?_) (fun hc => ?_)
  · replace hF := hF.1 hc
    exact JB_Mo_dueInternal_24 C v0 x1 x2 x51 σ _ _ _ h_v0 hH hT hS (lv_sub hl [1, 2, 3, 0] rfl) hF
  · replace hF := hF.2 hc
    refine lv_aload_n hx hb d_Mo_dueInternal_12 rfl (lv_at hl 1 rfl) ?_
    refine lv_iload_n hx hb d_Mo_dueInternal_13 rfl (lv_at hl 2 rfl) ?_
    refine rs_ci (rs_runV C hH hT hl (J_Mo_isInternal l h_v0 hF) rc_Mo_isInternal tw_1092 tw_1094 ts_46 h_v0 ⟨rfl, by decide, by decide⟩ rfl ⟨⟨rfl, rfl⟩, by decide, by decide, by decide⟩ (Nat.le_of_ble_eq_true rfl) rfl d_Mo_dueInternal_14) hS (fun x53 σ52 H locs hH hT hS hF => ?_)
    refine lv_if_eq hx hb d_Mo_dueInternal_17 (tgt := 24) rfl (fun hc => ?_) (fun hc => ?_)
    · replace hF := hF.1 hc
      exact JB_Mo_dueInternal_24 C v0 x1 x2 x51 σ52 _ _ _ h_v0 hH hT hS (lv_sub hl [1, 2, 3, 0] rfl) hF
    · replace hF := hF.2 hc
      refine lv_iconst hx hb d_Mo_dueInternal_20 ki_1 ?_
      refine lv_goto hx hb d_Mo_dueInternal_21 (tgt := 25) rfl ?_
      exact JB_Mo_dueInternal_25 C v0 x1 x2 x51 (1 : Int32) σ52 _ _ _ h_v0 hH hT hS (lv_sub hl [1, 2, 3, 0] rfl) hF
/-! RouteSpeakerModel.dueExternal(II)I -/
theorem d_Mo_dueExternal_0 : decode prog_12_method_57_code 0 = .ok (.aload_n 0, 1) := by decide +kernel
theorem d_Mo_dueExternal_1 : decode prog_12_method_57_code 1 = .ok (.getfield 80, 3) := by decide +kernel
theorem d_Mo_dueExternal_4 : decode prog_12_method_57_code 4 = .ok (.iload_n 2, 1) := by decide +kernel
theorem d_Mo_dueExternal_5 : decode prog_12_method_57_code 5 = .ok (.iaload, 1) := by decide +kernel
theorem d_Mo_dueExternal_6 : decode prog_12_method_57_code 6 = .ok (.iconst 1, 1) := by decide +kernel
theorem d_Mo_dueExternal_7 : decode prog_12_method_57_code 7 = .ok (.iadd, 1) := by decide +kernel
theorem d_Mo_dueExternal_8 : decode prog_12_method_57_code 8 = .ok (.aload_n 0, 1) := by decide +kernel
theorem d_Mo_dueExternal_9 : decode prog_12_method_57_code 9 = .ok (.getfield 31, 3) := by decide +kernel
theorem d_Mo_dueExternal_12 : decode prog_12_method_57_code 12 = .ok (.iload_n 1, 1) := by decide +kernel
theorem d_Mo_dueExternal_13 : decode prog_12_method_57_code 13 = .ok (.iaload, 1) := by decide +kernel
theorem d_Mo_dueExternal_14 : decode prog_12_method_57_code 14 = .ok (.iadd, 1) := by decide +kernel
theorem d_Mo_dueExternal_15 : decode prog_12_method_57_code 15 = .ok (.istore_n 3, 1) := by decide +kernel
theorem d_Mo_dueExternal_16 : decode prog_12_method_57_code 16 = .ok (.iload_n 3, 1) := by decide +kernel
theorem d_Mo_dueExternal_17 : decode prog_12_method_57_code 17 = .ok (.bipush (8), 2) := by decide +kernel
theorem d_Mo_dueExternal_19 : decode prog_12_method_57_code 19 = .ok (.if_icmp .le (5), 3) := by decide +kernel
theorem d_Mo_dueExternal_22 : decode prog_12_method_57_code 22 = .ok (.iconst (-1), 1) := by decide +kernel
theorem d_Mo_dueExternal_23 : decode prog_12_method_57_code 23 = .ok (.ireturn, 1) := by decide +kernel
theorem d_Mo_dueExternal_24 : decode prog_12_method_57_code 24 = .ok (.aload_n 0, 1) := by decide +kernel
theorem d_Mo_dueExternal_25 : decode prog_12_method_57_code 25 = .ok (.iconst 0, 1) := by decide +kernel
theorem d_Mo_dueExternal_26 : decode prog_12_method_57_code 26 = .ok (.iconst 1, 1) := by decide +kernel
theorem d_Mo_dueExternal_27 : decode prog_12_method_57_code 27 = .ok (.aload_n 0, 1) := by decide +kernel
theorem d_Mo_dueExternal_28 : decode prog_12_method_57_code 28 = .ok (.getfield 77, 3) := by decide +kernel
theorem d_Mo_dueExternal_31 : decode prog_12_method_57_code 31 = .ok (.iload_n 2, 1) := by decide +kernel
theorem d_Mo_dueExternal_32 : decode prog_12_method_57_code 32 = .ok (.iaload, 1) := by decide +kernel
theorem d_Mo_dueExternal_33 : decode prog_12_method_57_code 33 = .ok (.invokevirtual 292, 3) := by decide +kernel
theorem d_Mo_dueExternal_36 : decode prog_12_method_57_code 36 = .ok (.istore 4, 2) := by decide +kernel
theorem d_Mo_dueExternal_38 : decode prog_12_method_57_code 38 = .ok (.aload_n 0, 1) := by decide +kernel
theorem d_Mo_dueExternal_39 : decode prog_12_method_57_code 39 = .ok (.iload 4, 2) := by decide +kernel
theorem d_Mo_dueExternal_41 : decode prog_12_method_57_code 41 = .ok (.iconst 2, 1) := by decide +kernel
theorem d_Mo_dueExternal_42 : decode prog_12_method_57_code 42 = .ok (.invokevirtual 280, 3) := by decide +kernel
theorem d_Mo_dueExternal_45 : decode prog_12_method_57_code 45 = .ok (.aload_n 0, 1) := by decide +kernel
theorem d_Mo_dueExternal_46 : decode prog_12_method_57_code 46 = .ok (.iload 4, 2) := by decide +kernel
theorem d_Mo_dueExternal_48 : decode prog_12_method_57_code 48 = .ok (.iconst 1, 1) := by decide +kernel
theorem d_Mo_dueExternal_49 : decode prog_12_method_57_code 49 = .ok (.iadd, 1) := by decide +kernel
theorem d_Mo_dueExternal_50 : decode prog_12_method_57_code 50 = .ok (.iload_n 3, 1) := by decide +kernel
theorem d_Mo_dueExternal_51 : decode prog_12_method_57_code 51 = .ok (.invokevirtual 280, 3) := by decide +kernel
theorem d_Mo_dueExternal_54 : decode prog_12_method_57_code 54 = .ok (.iconst 0, 1) := by decide +kernel
theorem d_Mo_dueExternal_55 : decode prog_12_method_57_code 55 = .ok (.istore 5, 2) := by decide +kernel
theorem d_Mo_dueExternal_57 : decode prog_12_method_57_code 57 = .ok (.iload 5, 2) := by decide +kernel
theorem d_Mo_dueExternal_59 : decode prog_12_method_57_code 59 = .ok (.iload_n 3, 1) := by decide +kernel
theorem d_Mo_dueExternal_60 : decode prog_12_method_57_code 60 = .ok (.if_icmp .ge (57), 3) := by decide +kernel
theorem d_Mo_dueExternal_63 : decode prog_12_method_57_code 63 = .ok (.aload_n 0, 1) := by decide +kernel
theorem d_Mo_dueExternal_64 : decode prog_12_method_57_code 64 = .ok (.iload 4, 2) := by decide +kernel
theorem d_Mo_dueExternal_66 : decode prog_12_method_57_code 66 = .ok (.iconst 2, 1) := by decide +kernel
theorem d_Mo_dueExternal_67 : decode prog_12_method_57_code 67 = .ok (.iadd, 1) := by decide +kernel
theorem d_Mo_dueExternal_68 : decode prog_12_method_57_code 68 = .ok (.iload 5, 2) := by decide +kernel
theorem d_Mo_dueExternal_70 : decode prog_12_method_57_code 70 = .ok (.iadd, 1) := by decide +kernel
theorem d_Mo_dueExternal_71 : decode prog_12_method_57_code 71 = .ok (.iload 5, 2) := by decide +kernel
theorem d_Mo_dueExternal_73 : decode prog_12_method_57_code 73 = .ok (.aload_n 0, 1) := by decide +kernel
theorem d_Mo_dueExternal_74 : decode prog_12_method_57_code 74 = .ok (.getfield 31, 3) := by decide +kernel
theorem d_Mo_dueExternal_77 : decode prog_12_method_57_code 77 = .ok (.iload_n 1, 1) := by decide +kernel
theorem d_Mo_dueExternal_78 : decode prog_12_method_57_code 78 = .ok (.iaload, 1) := by decide +kernel
theorem d_Mo_dueExternal_79 : decode prog_12_method_57_code 79 = .ok (.if_icmp .gt (8), 3) := by decide +kernel
theorem d_Mo_dueExternal_82 : decode prog_12_method_57_code 82 = .ok (.bipush (100), 2) := by decide +kernel
theorem d_Mo_dueExternal_84 : decode prog_12_method_57_code 84 = .ok (.goto (24), 3) := by decide +kernel
theorem d_Mo_dueExternal_87 : decode prog_12_method_57_code 87 = .ok (.aload_n 0, 1) := by decide +kernel
theorem d_Mo_dueExternal_88 : decode prog_12_method_57_code 88 = .ok (.getfield 83, 3) := by decide +kernel
theorem d_Mo_dueExternal_91 : decode prog_12_method_57_code 91 = .ok (.bipush (8), 2) := by decide +kernel
theorem d_Mo_dueExternal_93 : decode prog_12_method_57_code 93 = .ok (.iload_n 2, 1) := by decide +kernel
theorem d_Mo_dueExternal_94 : decode prog_12_method_57_code 94 = .ok (.imul, 1) := by decide +kernel
theorem d_Mo_dueExternal_95 : decode prog_12_method_57_code 95 = .ok (.iload 5, 2) := by decide +kernel
theorem d_Mo_dueExternal_97 : decode prog_12_method_57_code 97 = .ok (.iadd, 1) := by decide +kernel
theorem d_Mo_dueExternal_98 : decode prog_12_method_57_code 98 = .ok (.iconst 1, 1) := by decide +kernel
theorem d_Mo_dueExternal_99 : decode prog_12_method_57_code 99 = .ok (.isub, 1) := by decide +kernel
theorem d_Mo_dueExternal_100 : decode prog_12_method_57_code 100 = .ok (.aload_n 0, 1) := by decide +kernel
theorem d_Mo_dueExternal_101 : decode prog_12_method_57_code 101 = .ok (.getfield 31, 3) := by decide +kernel
theorem d_Mo_dueExternal_104 : decode prog_12_method_57_code 104 = .ok (.iload_n 1, 1) := by decide +kernel
theorem d_Mo_dueExternal_105 : decode prog_12_method_57_code 105 = .ok (.iaload, 1) := by decide +kernel
theorem d_Mo_dueExternal_106 : decode prog_12_method_57_code 106 = .ok (.isub, 1) := by decide +kernel
theorem d_Mo_dueExternal_107 : decode prog_12_method_57_code 107 = .ok (.iaload, 1) := by decide +kernel
theorem d_Mo_dueExternal_108 : decode prog_12_method_57_code 108 = .ok (.invokevirtual 280, 3) := by decide +kernel
theorem d_Mo_dueExternal_111 : decode prog_12_method_57_code 111 = .ok (.iinc 5 (1), 3) := by decide +kernel
theorem d_Mo_dueExternal_114 : decode prog_12_method_57_code 114 = .ok (.goto (-57), 3) := by decide +kernel
theorem d_Mo_dueExternal_117 : decode prog_12_method_57_code 117 = .ok (.aload_n 0, 1) := by decide +kernel
theorem d_Mo_dueExternal_118 : decode prog_12_method_57_code 118 = .ok (.iload 4, 2) := by decide +kernel
theorem d_Mo_dueExternal_120 : decode prog_12_method_57_code 120 = .ok (.iconst 2, 1) := by decide +kernel
theorem d_Mo_dueExternal_121 : decode prog_12_method_57_code 121 = .ok (.iadd, 1) := by decide +kernel
theorem d_Mo_dueExternal_122 : decode prog_12_method_57_code 122 = .ok (.iload_n 3, 1) := by decide +kernel
theorem d_Mo_dueExternal_123 : decode prog_12_method_57_code 123 = .ok (.iadd, 1) := by decide +kernel
theorem d_Mo_dueExternal_124 : decode prog_12_method_57_code 124 = .ok (.iconst 3, 1) := by decide +kernel
theorem d_Mo_dueExternal_125 : decode prog_12_method_57_code 125 = .ok (.bipush (7), 2) := by decide +kernel
theorem d_Mo_dueExternal_127 : decode prog_12_method_57_code 127 = .ok (.invokevirtual 292, 3) := by decide +kernel
theorem d_Mo_dueExternal_130 : decode prog_12_method_57_code 130 = .ok (.ireturn, 1) := by decide +kernel
def B_Mo_dueExternal_108 (N : Nat → Nat) (K57 : Nat → Int32 → Int32 → Int32 → Int32 → Int32 → rs_Mem → Prop) (Q : Int32 → rs_Mem → Prop) (v0 : Nat) (x1 : Int32) (x2 : Int32) (x3 : Int32) (x4 : Int32) (x5 : Int32) (w0 : Nat) (y1 : Int32) (y2 : Int32) (σ : rs_Mem) : Prop :=
  (F_Mo_want N w0 y1 y2 σ (fun σ51 => (∀ x52 : Int32, x52 = x5 + (1 : Int32) → (K57 v0 x1 x2 x3 x4 x52 σ51))))
def G_Mo_dueExternal_57 (N : Nat → Nat) (Q : Int32 → rs_Mem → Prop) (K57 : Nat → Int32 → Int32 → Int32 → Int32 → Int32 → rs_Mem → Prop) (v0 : Nat) (x1 : Int32) (x2 : Int32) (x3 : Int32) (x4 : Int32) (x5 : Int32) (σ : rs_Mem) : Prop :=
  ((x3 ≤ x5 → (F_Mo_one N v0 ((x4 + (2 : Int32)) + x3) (3 : Int32) (7 : Int32) σ (fun x52 σ51 => (Q x52 σ51)))) ∧ (¬ (x3 ≤ x5) → (vp_in x1 (N (rs_R σ v0 8)) ∧ (((rs_I σ (rs_R σ v0 8) x1.toNatClampNeg) < x5 → (vp_in x1 (N (rs_R σ v0 8)) ∧ (vp_in (((((8 : Int32) * x2) + x5) - (1 : Int32)) - (rs_I σ (rs_R σ v0 8) x1.toNatClampNeg)) (N (rs_R σ v0 27)) ∧ (B_Mo_dueExternal_108 N K57 Q v0 x1 x2 x3 x4 x5 v0 ((x4 + (2 : Int32)) + x5) (rs_I σ (rs_R σ v0 27) (((((8 : Int32) * x2) + x5) - (1 : Int32)) - (rs_I σ (rs_R σ v0 8) x1.toNatClampNeg)).toNatClampNeg) σ)))) ∧ (¬ ((rs_I σ (rs_R σ v0 8) x1.toNatClampNeg) < x5) → (B_Mo_dueExternal_108 N K57 Q v0 x1 x2 x3 x4 x5 v0 ((x4 + (2 : Int32)) + x5) (100 : Int32) σ))))))
noncomputable def L_Mo_dueExternal_57 (N : Nat → Nat) (Q : Int32 → rs_Mem → Prop) (n : Nat) : Nat → Int32 → Int32 → Int32 → Int32 → Int32 → rs_Mem → Prop := Nat.rec (motive := fun _ => Nat → Int32 → Int32 → Int32 → Int32 → Int32 → rs_Mem → Prop) (fun _ _ _ _ _ _ _ => False) (fun _ K => G_Mo_dueExternal_57 N Q K) n
def F_Mo_dueExternal (N : Nat → Nat) (v0 : Nat) (x1 : Int32) (x2 : Int32) (σ : rs_Mem) (Q : Int32 → rs_Mem → Prop) : Prop :=
  (vp_in x2 (N (rs_R σ v0 26)) ∧ (vp_in x1 (N (rs_R σ v0 8)) ∧ (∀ x55 : Int32, x55 = (((rs_I σ (rs_R σ v0 26) x2.toNatClampNeg) + (1 : Int32)) + (rs_I σ (rs_R σ v0 8) x1.toNatClampNeg)) → ((x55 ≤ (8 : Int32) → (vp_in x2 (N (rs_R σ v0 25)) ∧ (F_Mo_one N v0 (0 : Int32) (1 : Int32) (rs_I σ (rs_R σ v0 25) x2.toNatClampNeg) σ (fun x59 σ58 => (F_Mo_want N v0 x59 (2 : Int32) σ58 (fun σ60 => (F_Mo_want N v0 (x59 + (1 : Int32)) x55 σ60 (fun σ61 => (∃ n : Nat, L_Mo_dueExternal_57 N Q n v0 x1 x2 x55 x59 (0 : Int32) σ61))))))))) ∧ (¬ (x55 ≤ (8 : Int32)) → (Q (-1 : Int32) σ))))))
set_option maxRecDepth 20000 in
theorem JB_Mo_dueExternal_108 {p : Program} {l : Launch} {e : Env} {s : State} {m : MethodId} {args : Array Value} {below : List Frame} {meth : Method} {c : Code} {G : rs_G} {Bm : Nat} {S : rs_Shp} {K57 : Nat → Int32 → Int32 → Int32 → Int32 → Int32 → rs_Mem → Prop} {Q : Int32 → rs_Mem → Prop} (C : rs_C "RouteSpeakerModel" prog_12_method_57_code 6 (some .int) G p s m meth c args) (hK57 : ∀ (v0 : Nat) (x1 : Int32) (x2 : Int32) (x3 : Int32) (x4 : Int32) (x5 : Int32) (σ : rs_Mem) (H : Heap) (locs : List Loc) (ls : Array Slot), rs_Ok S 11 v0 → rs_H G Bm S σ H → rs_T S σ → va_S (rs_A Bm) s.heap H locs → lv_has ls 6 [(0, .ref (Bm + v0)), (1, .int x1), (2, .int x2), (3, .int x3), (4, .int x4), (5, .int x5)] → K57 v0 x1 x2 x3 x4 x5 σ → W p l e { frames := 2, cells := 0, slots := 0, locals := 45 } s m args below meth c H locs 0 0 (MQ below (rs_Qi G Bm S Q) args s 0 0 (rs_A Bm)) (F0 m 57 ls [])) (v0 : Nat) (x1 : Int32) (x2 : Int32) (x3 : Int32) (x4 : Int32) (x5 : Int32) (w0 : Nat) (y1 : Int32) (y2 : Int32) (σ : rs_Mem) (H : Heap) (locs : List Loc) (ls : Array Slot) (h_v0 : rs_Ok S 11 v0) (h_w0 : rs_Ok S 11 w0) (hH : rs_H G Bm S σ H) (hT : rs_T S σ) (hS : va_S (rs_A Bm) s.heap H locs) (hl : lv_has ls 6 [(0, .ref (Bm + v0)), (1, .int x1), (2, .int x2), (3, .int x3), (4, .int x4), (5, .int x5)]) (hF : B_Mo_dueExternal_108 S.2.2 K57 Q v0 x1 x2 x3 x4 x5 w0 y1 y2 σ) :
    W p l e { frames := 2, cells := 0, slots := 0, locals := 45 } s m args below meth c H locs 0 0 (MQ below (rs_Qi G Bm S Q) args s 0 0 (rs_A Bm)) (F0 m 108 ls [.int y2, .int y1, .ref (Bm + w0)]) := by
  have hx := C.1
  have hb := C.2.1
  unfold B_Mo_dueExternal_108 at hF
  refine rs_cv (rs_runV C hH hT hl (J_Mo_want l h_w0 hF) rc_Mo_want tw_1104 tw_1106 ts_49 h_w0 ⟨rfl, by decide, by decide⟩ rfl ⟨⟨rfl, rfl⟩, by decide, by decide, by decide⟩ (Nat.le_of_ble_eq_true rfl) rfl d_Mo_dueExternal_108) hS (fun σ51 H locs hH hT hS hF => ?_)
  obtain ⟨x52, ex52⟩ : ∃ z : Int32, z = x5 + (1 : Int32) := ⟨_, rfl⟩
  replace hF := hF x52 ex52
  refine lv_iinc hx hb d_Mo_dueExternal_111 hl (k := 5) rfl (v := x52) (by rw [ki_1, ex52]) (by decide) (lv' := [(5, .int x52), (0, .ref (Bm + v0)), (1, .int x1), (2, .int x2), (3, .int x3), (4, .int x4)]) rfl (fun ls hl => ?_)
  refine lv_goto hx hb d_Mo_dueExternal_114 (tgt := 57) rfl ?_
  exact hK57 v0 x1 x2 x3 x4 x52 σ51 _ _ _ h_v0 hH hT hS (lv_sub hl [1, 2, 3, 4, 5, 0] rfl) hF
set_option maxRecDepth 20000 in
theorem JL_Mo_dueExternal_57 {p : Program} {l : Launch} {e : Env} {s : State} {m : MethodId} {args : Array Value} {below : List Frame} {meth : Method} {c : Code} {G : rs_G} {Bm : Nat} {S : rs_Shp} {Q : Int32 → rs_Mem → Prop} (C : rs_C "RouteSpeakerModel" prog_12_method_57_code 6 (some .int) G p s m meth c args) : ∀ n : Nat, ∀ (v0 : Nat) (x1 : Int32) (x2 : Int32) (x3 : Int32) (x4 : Int32) (x5 : Int32) (σ : rs_Mem) (H : Heap) (locs : List Loc) (ls : Array Slot), rs_Ok S 11 v0 → rs_H G Bm S σ H → rs_T S σ → va_S (rs_A Bm) s.heap H locs → lv_has ls 6 [(0, .ref (Bm + v0)), (1, .int x1), (2, .int x2), (3, .int x3), (4, .int x4), (5, .int x5)] → (L_Mo_dueExternal_57 S.2.2 Q n) v0 x1 x2 x3 x4 x5 σ → W p l e { frames := 2, cells := 0, slots := 0, locals := 45 } s m args below meth c H locs 0 0 (MQ below (rs_Qi G Bm S Q) args s 0 0 (rs_A Bm)) (F0 m 57 ls []) := by
  have hx := C.1
  have hb := C.2.1
  intro n
  induction n with
  | zero => intros; rename_i hF; exact hF.elim
  | succ n hK57 =>
    intro v0 x1 x2 x3 x4 x5 σ H locs ls h_v0 hH hT hS hl hF
    replace hF : G_Mo_dueExternal_57 S.2.2 Q (L_Mo_dueExternal_57 S.2.2 Q n) v0 x1 x2 x3 x4 x5 σ := hF
    unfold G_Mo_dueExternal_57 at hF
    refine lv_iload hx hb d_Mo_dueExternal_57 (lv_at hl 5 rfl) ?_
    refine lv_iload_n hx hb d_Mo_dueExternal_59 rfl (lv_at hl 3 rfl) ?_
    refine lv_icmp_ge hx hb d_Mo_dueExternal_60 (tgt := 117) rfl (fun hc => ?_) (fun hc => ?_)
    · replace hF := hF.1 hc
      refine lv_aload_n hx hb d_Mo_dueExternal_117 rfl (lv_at hl 0 rfl) ?_
      refine lv_iload hx hb d_Mo_dueExternal_118 (lv_at hl 4 rfl) ?_
      refine lv_iconst hx hb d_Mo_dueExternal_120 ki_2 ?_
      refine lv_iadd hx hb d_Mo_dueExternal_121 ?_
      refine lv_iload_n hx hb d_Mo_dueExternal_122 rfl (lv_at hl 3 rfl) ?_
      refine lv_iadd hx hb d_Mo_dueExternal_123 ?_
      refine lv_iconst hx hb d_Mo_dueExternal_124 ki_3 ?_
      refine lv_bipush hx hb d_Mo_dueExternal_125 kb_7 ?_
      refine rs_ci (rs_runV C hH hT hl (J_Mo_one l h_v0 hF) rc_Mo_one tw_1100 tw_1102 ts_48 h_v0 ⟨rfl, by decide, by decide⟩ rfl ⟨⟨rfl, rfl⟩, by decide, by decide, by decide⟩ (Nat.le_of_ble_eq_true rfl) rfl d_Mo_dueExternal_127) hS (fun x52 σ51 H locs hH hT hS hF => ?_)
      exact rs_iret C hH hT hS hF d_Mo_dueExternal_130
    · replace hF := hF.2 hc
      refine lv_aload_n hx hb d_Mo_dueExternal_63 rfl (lv_at hl 0 rfl) ?_
      refine lv_iload hx hb d_Mo_dueExternal_64 (lv_at hl 4 rfl) ?_
      refine lv_iconst hx hb d_Mo_dueExternal_66 ki_2 ?_
      refine lv_iadd hx hb d_Mo_dueExternal_67 ?_
      refine lv_iload hx hb d_Mo_dueExternal_68 (lv_at hl 5 rfl) ?_
      refine lv_iadd hx hb d_Mo_dueExternal_70 ?_
      refine lv_iload hx hb d_Mo_dueExternal_71 (lv_at hl 5 rfl) ?_
      refine lv_aload_n hx hb d_Mo_dueExternal_73 rfl (lv_at hl 0 rfl) ?_
      refine rs_getR C hH hT h_v0 fk_11_8 tw_907 d_Mo_dueExternal_74 (fun h51 => ?_)
      refine lv_iload_n hx hb d_Mo_dueExternal_77 rfl (lv_at hl 1 rfl) ?_
      obtain ⟨g52, hF⟩ := hF
      refine rs_iald C hH h51 g52 d_Mo_dueExternal_78 ?_
      refine lv_icmp_gt hx hb d_Mo_dueExternal_79 (tgt := 87) rfl (fun hc => ?_) (fun hc => ?_)
      · replace hF := hF.1 hc
        refine lv_aload_n hx hb d_Mo_dueExternal_87 rfl (lv_at hl 0 rfl) ?_
        refine rs_getR C hH hT h_v0 fk_11_27 tw_926 d_Mo_dueExternal_88 (fun h53 => ?_)
        refine lv_bipush hx hb d_Mo_dueExternal_91 kb_8 ?_
        refine lv_iload_n hx hb d_Mo_dueExternal_93 rfl (lv_at hl 2 rfl) ?_
        refine lv_imul hx hb d_Mo_dueExternal_94 ?_
        refine lv_iload hx hb d_Mo_dueExternal_95 (lv_at hl 5 rfl) ?_
        refine lv_iadd hx hb d_Mo_dueExternal_97 ?_
        refine lv_iconst hx hb d_Mo_dueExternal_98 ki_1 ?_
        refine lv_isub hx hb d_Mo_dueExternal_99 ?_
        refine lv_aload_n hx hb d_Mo_dueExternal_100 rfl (lv_at hl 0 rfl) ?_
        refine rs_getR C hH hT h_v0 fk_11_8 tw_907 d_Mo_dueExternal_101 (fun h54 => ?_)
        refine lv_iload_n hx hb d_Mo_dueExternal_104 rfl (lv_at hl 1 rfl) ?_
        obtain ⟨g55, hF⟩ := hF
        refine rs_iald C hH h54 g55 d_Mo_dueExternal_105 ?_
        refine lv_isub hx hb d_Mo_dueExternal_106 ?_
        obtain ⟨g56, hF⟩ := hF
        refine rs_iald C hH h53 g56 d_Mo_dueExternal_107 ?_
        exact JB_Mo_dueExternal_108 C hK57 v0 x1 x2 x3 x4 x5 v0 ((x4 + (2 : Int32)) + x5) (rs_I σ (rs_R σ v0 27) (((((8 : Int32) * x2) + x5) - (1 : Int32)) - (rs_I σ (rs_R σ v0 8) x1.toNatClampNeg)).toNatClampNeg) σ _ _ _ h_v0 h_v0 hH hT hS (lv_sub hl [0, 1, 2, 3, 4, 5] rfl) hF
      · replace hF := hF.2 hc
        refine lv_bipush hx hb d_Mo_dueExternal_82 kb_100 ?_
        refine lv_goto hx hb d_Mo_dueExternal_84 (tgt := 108) rfl ?_
        exact JB_Mo_dueExternal_108 C hK57 v0 x1 x2 x3 x4 x5 v0 ((x4 + (2 : Int32)) + x5) (100 : Int32) σ _ _ _ h_v0 h_v0 hH hT hS (lv_sub hl [0, 1, 2, 3, 4, 5] rfl) hF
abbrev y_Mo_dueExternal : MethodName := ({ cls := "RouteSpeakerModel", name := "dueExternal", desc := "(II)I" } : Jvm.MethodName)
theorem rc_Mo_dueExternal : rs_Cal y_Mo_dueExternal prog_12_method_57_code 6 (some .int) 2 := ⟨tw_1111, tw_11, by decide, by decide, by decide +kernel⟩
set_option maxRecDepth 20000 in
theorem J_Mo_dueExternal (l : Launch) {G : rs_G} {Bm : Nat} {S : rs_Shp} {v0 : Nat} {x1 : Int32} {x2 : Int32} {σ : rs_Mem} {Q : Int32 → rs_Mem → Prop} (h_v0 : rs_Ok S 11 v0) (hF : F_Mo_dueExternal S.2.2 v0 x1 x2 σ Q) :
    Met l y_Mo_dueExternal (rs_ws y_Mo_dueExternal prog_12_method_57_code 6 (some .int)) { frames := 2, cells := 0, slots := 0, locals := 45 } (rs_P G Bm S σ [.ref (Bm + v0), .int x1, .int x2]) (rs_Qi G Bm S Q) 0 0 (rs_A Bm) := by
  refine rs_met (own := "RouteSpeakerModel") (by decide) rfl (Nat.le_of_ble_eq_true rfl) (fun p e s m below meth c ls C hl hH hT hS => ?_)
  replace hl : lv_has ls 6 [(0, .ref (Bm + v0)), (1, .int x1), (2, .int x2)] := hl
  have hx := C.1
  have hb := C.2.1
  unfold F_Mo_dueExternal at hF
  refine lv_aload_n hx hb d_Mo_dueExternal_0 rfl (lv_at hl 0 rfl) ?_
  refine rs_getR C hH hT h_v0 fk_11_26 tw_925 d_Mo_dueExternal_1 (fun h51 => ?_)
  refine lv_iload_n hx hb d_Mo_dueExternal_4 rfl (lv_at hl 2 rfl) ?_
  obtain ⟨g52, hF⟩ := hF
  refine rs_iald C hH h51 g52 d_Mo_dueExternal_5 ?_
  refine lv_iconst hx hb d_Mo_dueExternal_6 ki_1 ?_
  refine lv_iadd hx hb d_Mo_dueExternal_7 ?_
  refine lv_aload_n hx hb d_Mo_dueExternal_8 rfl (lv_at hl 0 rfl) ?_
  refine rs_getR C hH hT h_v0 fk_11_8 tw_907 d_Mo_dueExternal_9 (fun h53 => ?_)
  refine lv_iload_n hx hb d_Mo_dueExternal_12 rfl (lv_at hl 1 rfl) ?_
  obtain ⟨g54, hF⟩ := hF
  refine rs_iald C hH h53 g54 d_Mo_dueExternal_13 ?_
  refine lv_iadd hx hb d_Mo_dueExternal_14 ?_
  refine lv_topi (fun x55 ex55 => ?_)
  replace hF := hF x55 ex55
  refine lv_istore_n hx hb d_Mo_dueExternal_15 rfl hl (by decide) (lv' := [(3, .int x55), (0, .ref (Bm + v0)), (1, .int x1), (2, .int x2)]) rfl (fun ls hl => ?_)
  refine lv_iload_n hx hb d_Mo_dueExternal_16 rfl (lv_at hl 0 rfl) ?_
  refine lv_bipush hx hb d_Mo_dueExternal_17 kb_8 ?_
  refine lv_icmp_le hx hb d_Mo_dueExternal_19 (tgt := 24) rfl (fun hc => ?_) (fun hc => ?_)
  · replace hF := hF.1 hc
    refine lv_aload_n hx hb d_Mo_dueExternal_24 rfl (lv_at hl 1 rfl) ?_
    refine lv_iconst hx hb d_Mo_dueExternal_25 ki_0 ?_
    refine lv_iconst hx hb d_Mo_dueExternal_26 ki_1 ?_
    refine lv_aload_n hx hb d_Mo_dueExternal_27 rfl (lv_at hl 1 rfl) ?_
    refine rs_getR C hH hT h_v0 fk_11_25 tw_924 d_Mo_dueExternal_28 (fun h56 => ?_)
    refine lv_iload_n hx hb d_Mo_dueExternal_31 rfl (lv_at hl 3 rfl) ?_
    obtain ⟨g57, hF⟩ := hF
    refine rs_iald C hH h56 g57 d_Mo_dueExternal_32 ?_
    refine rs_ci (rs_runV C hH hT hl (J_Mo_one l h_v0 hF) rc_Mo_one tw_1100 tw_1102 ts_48 h_v0 ⟨rfl, by decide, by decide⟩ rfl ⟨⟨rfl, rfl⟩, by decide, by decide, by decide⟩ (Nat.le_of_ble_eq_true rfl) rfl d_Mo_dueExternal_33) hS (fun x59 σ58 H locs hH hT hS hF => ?_)
    refine lv_istore hx hb d_Mo_dueExternal_36 hl (by decide) (lv' := [(4, .int x59), (3, .int x55), (0, .ref (Bm + v0)), (1, .int x1), (2, .int x2)]) rfl (fun ls hl => ?_)
    refine lv_aload_n hx hb d_Mo_dueExternal_38 rfl (lv_at hl 2 rfl) ?_
    refine lv_iload hx hb d_Mo_dueExternal_39 (lv_at hl 0 rfl) ?_
    refine lv_iconst hx hb d_Mo_dueExternal_41 ki_2 ?_
    refine rs_cv (rs_runV C hH hT hl (J_Mo_want l h_v0 hF) rc_Mo_want tw_1104 tw_1106 ts_49 h_v0 ⟨rfl, by decide, by decide⟩ rfl ⟨⟨rfl, rfl⟩, by decide, by decide, by decide⟩ (Nat.le_of_ble_eq_true rfl) rfl d_Mo_dueExternal_42) hS (fun σ60 H locs hH hT hS hF => ?_)
    refine lv_aload_n hx hb d_Mo_dueExternal_45 rfl (lv_at hl 2 rfl) ?_
    refine lv_iload hx hb d_Mo_dueExternal_46 (lv_at hl 0 rfl) ?_
    refine lv_iconst hx hb d_Mo_dueExternal_48 ki_1 ?_
    refine lv_iadd hx hb d_Mo_dueExternal_49 ?_
    refine lv_iload_n hx hb d_Mo_dueExternal_50 rfl (lv_at hl 1 rfl) ?_
    refine rs_cv (rs_runV C hH hT hl (J_Mo_want l h_v0 hF) rc_Mo_want tw_1104 tw_1106 ts_49 h_v0 ⟨rfl, by decide, by decide⟩ rfl ⟨⟨rfl, rfl⟩, by decide, by decide, by decide⟩ (Nat.le_of_ble_eq_true rfl) rfl d_Mo_dueExternal_51) hS (fun σ61 H locs hH hT hS hF => ?_)
    refine lv_iconst hx hb d_Mo_dueExternal_54 ki_0 ?_
    refine lv_istore hx hb d_Mo_dueExternal_55 hl (by decide) (lv' := [(5, .int (0 : Int32)), (4, .int x59), (3, .int x55), (0, .ref (Bm + v0)), (1, .int x1), (2, .int x2)]) rfl (fun ls hl => ?_)
    obtain ⟨n, hF⟩ := hF
    exact JL_Mo_dueExternal_57 C n v0 x1 x2 x55 x59 (0 : Int32) σ61 _ _ _ h_v0 hH hT hS (lv_sub hl [3, 4, 5, 2, 1, 0] rfl) hF
  · replace hF := hF.2 hc
    refine lv_iconst hx hb d_Mo_dueExternal_22 ki_m1 ?_
    exact rs_iret C hH hT hS hF d_Mo_dueExternal_23
/-! RouteSpeakerModel.due(II)I -/
theorem d_Mo_due_0 : decode prog_12_method_56_code 0 = .ok (.aload_n 0, 1) := by decide +kernel
theorem d_Mo_due_1 : decode prog_12_method_56_code 1 = .ok (.getfield 16, 3) := by decide +kernel
theorem d_Mo_due_4 : decode prog_12_method_56_code 4 = .ok (.iload_n 1, 1) := by decide +kernel
theorem d_Mo_due_5 : decode prog_12_method_56_code 5 = .ok (.iaload, 1) := by decide +kernel
theorem d_Mo_due_6 : decode prog_12_method_56_code 6 = .ok (.iconst 3, 1) := by decide +kernel
theorem d_Mo_due_7 : decode prog_12_method_56_code 7 = .ok (.if_icmp .ne (11), 3) := by decide +kernel
theorem d_Mo_due_10 : decode prog_12_method_56_code 10 = .ok (.aload_n 0, 1) := by decide +kernel
theorem d_Mo_due_11 : decode prog_12_method_56_code 11 = .ok (.iload_n 2, 1) := by decide +kernel
theorem d_Mo_due_12 : decode prog_12_method_56_code 12 = .ok (.invokevirtual 283, 3) := by decide +kernel
theorem d_Mo_due_15 : decode prog_12_method_56_code 15 = .ok (.goto (4), 3) := by decide +kernel
theorem d_Mo_due_18 : decode prog_12_method_56_code 18 = .ok (.iconst (-1), 1) := by decide +kernel
theorem d_Mo_due_19 : decode prog_12_method_56_code 19 = .ok (.istore_n 3, 1) := by decide +kernel
theorem d_Mo_due_20 : decode prog_12_method_56_code 20 = .ok (.iload_n 3, 1) := by decide +kernel
theorem d_Mo_due_21 : decode prog_12_method_56_code 21 = .ok (.ifCond .lt (33), 3) := by decide +kernel
theorem d_Mo_due_24 : decode prog_12_method_56_code 24 = .ok (.iload_n 3, 1) := by decide +kernel
theorem d_Mo_due_25 : decode prog_12_method_56_code 25 = .ok (.iload_n 1, 1) := by decide +kernel
theorem d_Mo_due_26 : decode prog_12_method_56_code 26 = .ok (.if_icmp .eq (28), 3) := by decide +kernel
theorem d_Mo_due_29 : decode prog_12_method_56_code 29 = .ok (.iload_n 3, 1) := by decide +kernel
theorem d_Mo_due_30 : decode prog_12_method_56_code 30 = .ok (.iconst 4, 1) := by decide +kernel
theorem d_Mo_due_31 : decode prog_12_method_56_code 31 = .ok (.if_icmp .ge (25), 3) := by decide +kernel
theorem d_Mo_due_34 : decode prog_12_method_56_code 34 = .ok (.aload_n 0, 1) := by decide +kernel
theorem d_Mo_due_35 : decode prog_12_method_56_code 35 = .ok (.getfield 7, 3) := by decide +kernel
theorem d_Mo_due_38 : decode prog_12_method_56_code 38 = .ok (.iload_n 3, 1) := by decide +kernel
theorem d_Mo_due_39 : decode prog_12_method_56_code 39 = .ok (.iaload, 1) := by decide +kernel
theorem d_Mo_due_40 : decode prog_12_method_56_code 40 = .ok (.iconst 2, 1) := by decide +kernel
theorem d_Mo_due_41 : decode prog_12_method_56_code 41 = .ok (.if_icmp .ne (15), 3) := by decide +kernel
theorem d_Mo_due_44 : decode prog_12_method_56_code 44 = .ok (.aload_n 0, 1) := by decide +kernel
theorem d_Mo_due_45 : decode prog_12_method_56_code 45 = .ok (.getfield 7, 3) := by decide +kernel
theorem d_Mo_due_48 : decode prog_12_method_56_code 48 = .ok (.iload_n 1, 1) := by decide +kernel
theorem d_Mo_due_49 : decode prog_12_method_56_code 49 = .ok (.iaload, 1) := by decide +kernel
theorem d_Mo_due_50 : decode prog_12_method_56_code 50 = .ok (.iconst 2, 1) := by decide +kernel
theorem d_Mo_due_51 : decode prog_12_method_56_code 51 = .ok (.if_icmp .ne (5), 3) := by decide +kernel
theorem d_Mo_due_54 : decode prog_12_method_56_code 54 = .ok (.iconst (-1), 1) := by decide +kernel
theorem d_Mo_due_55 : decode prog_12_method_56_code 55 = .ok (.ireturn, 1) := by decide +kernel
theorem d_Mo_due_56 : decode prog_12_method_56_code 56 = .ok (.aload_n 0, 1) := by decide +kernel
theorem d_Mo_due_57 : decode prog_12_method_56_code 57 = .ok (.getfield 34, 3) := by decide +kernel
theorem d_Mo_due_60 : decode prog_12_method_56_code 60 = .ok (.iload_n 1, 1) := by decide +kernel
theorem d_Mo_due_61 : decode prog_12_method_56_code 61 = .ok (.iaload, 1) := by decide +kernel
theorem d_Mo_due_62 : decode prog_12_method_56_code 62 = .ok (.ifCond .lt (35), 3) := by decide +kernel
theorem d_Mo_due_65 : decode prog_12_method_56_code 65 = .ok (.aload_n 0, 1) := by decide +kernel
theorem d_Mo_due_66 : decode prog_12_method_56_code 66 = .ok (.getfield 67, 3) := by decide +kernel
theorem d_Mo_due_69 : decode prog_12_method_56_code 69 = .ok (.iload_n 2, 1) := by decide +kernel
theorem d_Mo_due_70 : decode prog_12_method_56_code 70 = .ok (.iaload, 1) := by decide +kernel
theorem d_Mo_due_71 : decode prog_12_method_56_code 71 = .ok (.aload_n 0, 1) := by decide +kernel
theorem d_Mo_due_72 : decode prog_12_method_56_code 72 = .ok (.getfield 70, 3) := by decide +kernel
theorem d_Mo_due_75 : decode prog_12_method_56_code 75 = .ok (.iload_n 2, 1) := by decide +kernel
theorem d_Mo_due_76 : decode prog_12_method_56_code 76 = .ok (.iaload, 1) := by decide +kernel
theorem d_Mo_due_77 : decode prog_12_method_56_code 77 = .ok (.aload_n 0, 1) := by decide +kernel
theorem d_Mo_due_78 : decode prog_12_method_56_code 78 = .ok (.getfield 34, 3) := by decide +kernel
theorem d_Mo_due_81 : decode prog_12_method_56_code 81 = .ok (.iload_n 1, 1) := by decide +kernel
theorem d_Mo_due_82 : decode prog_12_method_56_code 82 = .ok (.iaload, 1) := by decide +kernel
theorem d_Mo_due_83 : decode prog_12_method_56_code 83 = .ok (.aload_n 0, 1) := by decide +kernel
theorem d_Mo_due_84 : decode prog_12_method_56_code 84 = .ok (.getfield 37, 3) := by decide +kernel
theorem d_Mo_due_87 : decode prog_12_method_56_code 87 = .ok (.iload_n 1, 1) := by decide +kernel
theorem d_Mo_due_88 : decode prog_12_method_56_code 88 = .ok (.iaload, 1) := by decide +kernel
theorem d_Mo_due_89 : decode prog_12_method_56_code 89 = .ok (.invokestatic 251, 3) := by decide +kernel
theorem d_Mo_due_92 : decode prog_12_method_56_code 92 = .ok (.ifCond .eq (5), 3) := by decide +kernel
theorem d_Mo_due_95 : decode prog_12_method_56_code 95 = .ok (.iconst (-1), 1) := by decide +kernel
theorem d_Mo_due_96 : decode prog_12_method_56_code 96 = .ok (.ireturn, 1) := by decide +kernel
theorem d_Mo_due_97 : decode prog_12_method_56_code 97 = .ok (.aload_n 0, 1) := by decide +kernel
theorem d_Mo_due_98 : decode prog_12_method_56_code 98 = .ok (.iload_n 1, 1) := by decide +kernel
theorem d_Mo_due_99 : decode prog_12_method_56_code 99 = .ok (.invokevirtual 225, 3) := by decide +kernel
theorem d_Mo_due_102 : decode prog_12_method_56_code 102 = .ok (.ifCond .eq (12), 3) := by decide +kernel
theorem d_Mo_due_105 : decode prog_12_method_56_code 105 = .ok (.aload_n 0, 1) := by decide +kernel
theorem d_Mo_due_106 : decode prog_12_method_56_code 106 = .ok (.iload_n 3, 1) := by decide +kernel
theorem d_Mo_due_107 : decode prog_12_method_56_code 107 = .ok (.iload_n 2, 1) := by decide +kernel
theorem d_Mo_due_108 : decode prog_12_method_56_code 108 = .ok (.invokevirtual 286, 3) := by decide +kernel
theorem d_Mo_due_111 : decode prog_12_method_56_code 111 = .ok (.goto (14), 3) := by decide +kernel
theorem d_Mo_due_114 : decode prog_12_method_56_code 114 = .ok (.aload_n 0, 1) := by decide +kernel
theorem d_Mo_due_115 : decode prog_12_method_56_code 115 = .ok (.iload_n 1, 1) := by decide +kernel
theorem d_Mo_due_116 : decode prog_12_method_56_code 116 = .ok (.bipush (12), 2) := by decide +kernel
theorem d_Mo_due_118 : decode prog_12_method_56_code 118 = .ok (.iload_n 3, 1) := by decide +kernel
theorem d_Mo_due_119 : decode prog_12_method_56_code 119 = .ok (.imul, 1) := by decide +kernel
theorem d_Mo_due_120 : decode prog_12_method_56_code 120 = .ok (.iload_n 2, 1) := by decide +kernel
theorem d_Mo_due_121 : decode prog_12_method_56_code 121 = .ok (.iadd, 1) := by decide +kernel
theorem d_Mo_due_122 : decode prog_12_method_56_code 122 = .ok (.invokevirtual 289, 3) := by decide +kernel
theorem d_Mo_due_125 : decode prog_12_method_56_code 125 = .ok (.ireturn, 1) := by decide +kernel
def B_Mo_due_97 (N : Nat → Nat) (Q : Int32 → rs_Mem → Prop) (v0 : Nat) (x1 : Int32) (x2 : Int32) (x3 : Int32) (σ : rs_Mem) : Prop :=
  (F_Mo_isInternal N v0 x1 σ (fun x52 σ51 => ((x52 = 0 → (F_Mo_dueExternal N v0 x1 (((12 : Int32) * x3) + x2) σ51 (fun x54 σ53 => (Q x54 σ53)))) ∧ (¬ (x52 = 0) → (F_Mo_dueInternal N v0 x3 x2 σ51 (fun x54 σ53 => (Q x54 σ53)))))))
def B_Mo_due_56 (N : Nat → Nat) (Q : Int32 → rs_Mem → Prop) (v0 : Nat) (x1 : Int32) (x2 : Int32) (x3 : Int32) (σ : rs_Mem) : Prop :=
  (vp_in x1 (N (rs_R σ v0 9)) ∧ (((rs_I σ (rs_R σ v0 9) x1.toNatClampNeg) < 0 → (B_Mo_due_97 N Q v0 x1 x2 x3 σ)) ∧ (¬ ((rs_I σ (rs_R σ v0 9) x1.toNatClampNeg) < 0) → (vp_in x2 (N (rs_R σ v0 22)) ∧ (vp_in x2 (N (rs_R σ v0 23)) ∧ (vp_in x1 (N (rs_R σ v0 9)) ∧ (vp_in x1 (N (rs_R σ v0 10)) ∧ (F_Mo_isWithin N (rs_I σ (rs_R σ v0 22) x2.toNatClampNeg) (rs_I σ (rs_R σ v0 23) x2.toNatClampNeg) (rs_I σ (rs_R σ v0 9) x1.toNatClampNeg) (rs_I σ (rs_R σ v0 10) x1.toNatClampNeg) σ (fun x62 σ61 => ((x62 = 0 → (B_Mo_due_97 N Q v0 x1 x2 x3 σ61)) ∧ (¬ (x62 = 0) → (Q (-1 : Int32) σ61))))))))))))
def B_Mo_due_19 (N : Nat → Nat) (Q : Int32 → rs_Mem → Prop) (v0 : Nat) (x1 : Int32) (x2 : Int32) (y0 : Int32) (σ : rs_Mem) : Prop :=
  ((y0 < 0 → (Q (-1 : Int32) σ)) ∧ (¬ (y0 < 0) → ((y0 = x1 → (Q (-1 : Int32) σ)) ∧ (¬ (y0 = x1) → (((4 : Int32) ≤ y0 → (B_Mo_due_56 N Q v0 x1 x2 y0 σ)) ∧ (¬ ((4 : Int32) ≤ y0) → (vp_in y0 (N (rs_R σ v0 1)) ∧ ((¬ ((rs_I σ (rs_R σ v0 1) y0.toNatClampNeg) = (2 : Int32)) → (B_Mo_due_56 N Q v0 x1 x2 y0 σ)) ∧ ((rs_I σ (rs_R σ v0 1) y0.toNatClampNeg) = (2 : Int32) → (vp_in x1 (N (rs_R σ v0 1)) ∧ ((¬ ((rs_I σ (rs_R σ v0 1) x1.toNatClampNeg) = (2 : Int32)) → (B_Mo_due_56 N Q v0 x1 x2 y0 σ)) ∧ ((rs_I σ (rs_R σ v0 1) x1.toNatClampNeg) = (2 : Int32) → (Q (-1 : Int32) σ)))))))))))))
def F_Mo_due (N : Nat → Nat) (v0 : Nat) (x1 : Int32) (x2 : Int32) (σ : rs_Mem) (Q : Int32 → rs_Mem → Prop) : Prop :=
  (vp_in x1 (N (rs_R σ v0 3)) ∧ ((¬ ((rs_I σ (rs_R σ v0 3) x1.toNatClampNeg) = (3 : Int32)) → (B_Mo_due_19 N Q v0 x1 x2 (-1 : Int32) σ)) ∧ ((rs_I σ (rs_R σ v0 3) x1.toNatClampNeg) = (3 : Int32) → (F_Mo_bestOf N v0 x2 σ (fun x54 σ53 => (B_Mo_due_19 N Q v0 x1 x2 x54 σ53))))))
set_option maxRecDepth 20000 in
theorem JB_Mo_due_97 {p : Program} {l : Launch} {e : Env} {s : State} {m : MethodId} {args : Array Value} {below : List Frame} {meth : Method} {c : Code} {G : rs_G} {Bm : Nat} {S : rs_Shp} {Q : Int32 → rs_Mem → Prop} (C : rs_C "RouteSpeakerModel" prog_12_method_56_code 4 (some .int) G p s m meth c args) (v0 : Nat) (x1 : Int32) (x2 : Int32) (x3 : Int32) (σ : rs_Mem) (H : Heap) (locs : List Loc) (ls : Array Slot) (h_v0 : rs_Ok S 11 v0) (hH : rs_H G Bm S σ H) (hT : rs_T S σ) (hS : va_S (rs_A Bm) s.heap H locs) (hl : lv_has ls 4 [(0, .ref (Bm + v0)), (1, .int x1), (2, .int x2), (3, .int x3)]) (hF : B_Mo_due_97 S.2.2 Q v0 x1 x2 x3 σ) :
    W p l e { frames := 6, cells := 0, slots := 0, locals := 138 } s m args below meth c H locs 0 0 (MQ below (rs_Qi G Bm S Q) args s 0 0 (rs_A Bm)) (F0 m 97 ls []) := by
  have hx := C.1
  have hb := C.2.1
  unfold B_Mo_due_97 at hF
  refine lv_aload_n hx hb d_Mo_due_97 rfl (lv_at hl 0 rfl) ?_
  refine lv_iload_n hx hb d_Mo_due_98 rfl (lv_at hl 1 rfl) ?_
  refine rs_ci (rs_runV C hH hT hl (J_Mo_isInternal l h_v0 hF) rc_Mo_isInternal tw_1092 tw_1094 ts_46 h_v0 ⟨rfl, by decide, by decide⟩ rfl ⟨⟨rfl, rfl⟩, by decide, by decide, by decide⟩ (Nat.le_of_ble_eq_true rfl) rfl d_Mo_due_99) hS (fun x52 σ51 H locs hH hT hS hF => ?_)
  refine lv_if_eq hx hb d_Mo_due_102 (tgt := 114) rfl (fun hc => ?_) (fun hc => ?_)
  · replace hF := hF.1 hc
    refine lv_aload_n hx hb d_Mo_due_114 rfl (lv_at hl 0 rfl) ?_
    refine lv_iload_n hx hb d_Mo_due_115 rfl (lv_at hl 1 rfl) ?_
    refine lv_bipush hx hb d_Mo_due_116 kb_12 ?_
    refine lv_iload_n hx hb d_Mo_due_118 rfl (lv_at hl 3 rfl) ?_
    refine lv_imul hx hb d_Mo_due_119 ?_
    refine lv_iload_n hx hb d_Mo_due_120 rfl (lv_at hl 2 rfl) ?_
    refine lv_iadd hx hb d_Mo_due_121 ?_
    refine rs_ci (rs_runV C hH hT hl (J_Mo_dueExternal l h_v0 hF) rc_Mo_dueExternal tw_1108 tw_1110 ts_50 h_v0 ⟨rfl, by decide, by decide⟩ rfl ⟨⟨rfl, rfl⟩, by decide, by decide, by decide⟩ (Nat.le_of_ble_eq_true rfl) rfl d_Mo_due_122) hS (fun x54 σ53 H locs hH hT hS hF => ?_)
    exact rs_iret C hH hT hS hF d_Mo_due_125
  · replace hF := hF.2 hc
    refine lv_aload_n hx hb d_Mo_due_105 rfl (lv_at hl 0 rfl) ?_
    refine lv_iload_n hx hb d_Mo_due_106 rfl (lv_at hl 3 rfl) ?_
    refine lv_iload_n hx hb d_Mo_due_107 rfl (lv_at hl 2 rfl) ?_
    refine rs_ci (rs_runV C hH hT hl (J_Mo_dueInternal l h_v0 hF) rc_Mo_dueInternal tw_1096 tw_1098 ts_47 h_v0 ⟨rfl, by decide, by decide⟩ rfl ⟨⟨rfl, rfl⟩, by decide, by decide, by decide⟩ (Nat.le_of_ble_eq_true rfl) rfl d_Mo_due_108) hS (fun x54 σ53 H locs hH hT hS hF => ?_)
    refine lv_goto hx hb d_Mo_due_111 (tgt := 125) rfl ?_
    exact rs_iret C hH hT hS hF d_Mo_due_125
set_option maxRecDepth 20000 in
theorem JB_Mo_due_56 {p : Program} {l : Launch} {e : Env} {s : State} {m : MethodId} {args : Array Value} {below : List Frame} {meth : Method} {c : Code} {G : rs_G} {Bm : Nat} {S : rs_Shp} {Q : Int32 → rs_Mem → Prop} (C : rs_C "RouteSpeakerModel" prog_12_method_56_code 4 (some .int) G p s m meth c args) (v0 : Nat) (x1 : Int32) (x2 : Int32) (x3 : Int32) (σ : rs_Mem) (H : Heap) (locs : List Loc) (ls : Array Slot) (h_v0 : rs_Ok S 11 v0) (hH : rs_H G Bm S σ H) (hT : rs_T S σ) (hS : va_S (rs_A Bm) s.heap H locs) (hl : lv_has ls 4 [(0, .ref (Bm + v0)), (1, .int x1), (2, .int x2), (3, .int x3)]) (hF : B_Mo_due_56 S.2.2 Q v0 x1 x2 x3 σ) :
    W p l e { frames := 6, cells := 0, slots := 0, locals := 138 } s m args below meth c H locs 0 0 (MQ below (rs_Qi G Bm S Q) args s 0 0 (rs_A Bm)) (F0 m 56 ls []) := by
  have hx := C.1
  have hb := C.2.1
  unfold B_Mo_due_56 at hF
  refine lv_aload_n hx hb d_Mo_due_56 rfl (lv_at hl 0 rfl) ?_
  refine rs_getR C hH hT h_v0 fk_11_9 tw_908 d_Mo_due_57 (fun h51 => ?_)
  refine lv_iload_n hx hb d_Mo_due_60 rfl (lv_at hl 1 rfl) ?_
  obtain ⟨g52, hF⟩ := hF
  refine rs_iald C hH h51 g52 d_Mo_due_61 ?_
  refine lv_if_lt hx hb d_Mo_due_62 (tgt := 97) rfl (fun hc => ?_) (fun hc => ?_)
  · replace hF := hF.1 hc
    exact JB_Mo_due_97 C v0 x1 x2 x3 σ _ _ _ h_v0 hH hT hS (lv_sub hl [0, 1, 2, 3] rfl) hF
  · replace hF := hF.2 hc
    refine lv_aload_n hx hb d_Mo_due_65 rfl (lv_at hl 0 rfl) ?_
    refine rs_getR C hH hT h_v0 fk_11_22 tw_921 d_Mo_due_66 (fun h53 => ?_)
    refine lv_iload_n hx hb d_Mo_due_69 rfl (lv_at hl 2 rfl) ?_
    obtain ⟨g54, hF⟩ := hF
    refine rs_iald C hH h53 g54 d_Mo_due_70 ?_
    refine lv_aload_n hx hb d_Mo_due_71 rfl (lv_at hl 0 rfl) ?_
    refine rs_getR C hH hT h_v0 fk_11_23 tw_922 d_Mo_due_72 (fun h55 => ?_)
    refine lv_iload_n hx hb d_Mo_due_75 rfl (lv_at hl 2 rfl) ?_
    obtain ⟨g56, hF⟩ := hF
    refine rs_iald C hH h55 g56 d_Mo_due_76 ?_
    refine lv_aload_n hx hb d_Mo_due_77 rfl (lv_at hl 0 rfl) ?_
    refine rs_getR C hH hT h_v0 fk_11_9 tw_908 d_Mo_due_78 (fun h57 => ?_)
    refine lv_iload_n hx hb d_Mo_due_81 rfl (lv_at hl 1 rfl) ?_
    obtain ⟨g58, hF⟩ := hF
    refine rs_iald C hH h57 g58 d_Mo_due_82 ?_
    refine lv_aload_n hx hb d_Mo_due_83 rfl (lv_at hl 0 rfl) ?_
    refine rs_getR C hH hT h_v0 fk_11_10 tw_909 d_Mo_due_84 (fun h59 => ?_)
    refine lv_iload_n hx hb d_Mo_due_87 rfl (lv_at hl 1 rfl) ?_
    obtain ⟨g60, hF⟩ := hF
    refine rs_iald C hH h59 g60 d_Mo_due_88 ?_
    refine rs_ci (rs_runS C hH hT hl (J_Mo_isWithin l hF) rc_Mo_isWithin tw_1061 tw_1062 rfl ⟨⟨rfl, rfl⟩, by decide, by decide, by decide⟩ (Nat.le_of_ble_eq_true rfl) rfl d_Mo_due_89) hS (fun x62 σ61 H locs hH hT hS hF => ?_)
    refine lv_if_eq hx hb d_Mo_due_92 (tgt := 97) rfl (fun hc => ?_) (fun hc => ?_)
    · replace hF := hF.1 hc
      exact JB_Mo_due_97 C v0 x1 x2 x3 σ61 _ _ _ h_v0 hH hT hS (lv_sub hl [0, 1, 2, 3] rfl) hF
    · replace hF := hF.2 hc
      refine lv_iconst hx hb d_Mo_due_95 ki_m1 ?_
      exact rs_iret C hH hT hS hF d_Mo_due_96
set_option maxRecDepth 20000 in
theorem JB_Mo_due_19 {p : Program} {l : Launch} {e : Env} {s : State} {m : MethodId} {args : Array Value} {below : List Frame} {meth : Method} {c : Code} {G : rs_G} {Bm : Nat} {S : rs_Shp} {Q : Int32 → rs_Mem → Prop} (C : rs_C "RouteSpeakerModel" prog_12_method_56_code 4 (some .int) G p s m meth c args) (v0 : Nat) (x1 : Int32) (x2 : Int32) (y0 : Int32) (σ : rs_Mem) (H : Heap) (locs : List Loc) (ls : Array Slot) (h_v0 : rs_Ok S 11 v0) (hH : rs_H G Bm S σ H) (hT : rs_T S σ) (hS : va_S (rs_A Bm) s.heap H locs) (hl : lv_has ls 4 [(0, .ref (Bm + v0)), (1, .int x1), (2, .int x2)]) (hF : B_Mo_due_19 S.2.2 Q v0 x1 x2 y0 σ) :
    W p l e { frames := 6, cells := 0, slots := 0, locals := 138 } s m args below meth c H locs 0 0 (MQ below (rs_Qi G Bm S Q) args s 0 0 (rs_A Bm)) (F0 m 19 ls [.int y0]) := by
  have hx := C.1
  have hb := C.2.1
  unfold B_Mo_due_19 at hF
  refine lv_istore_n hx hb d_Mo_due_19 rfl hl (by decide) (lv' := [(3, .int y0), (0, .ref (Bm + v0)), (1, .int x1), (2, .int x2)]) rfl (fun ls hl => ?_)
  refine lv_iload_n hx hb d_Mo_due_20 rfl (lv_at hl 0 rfl) ?_
  refine lv_if_lt hx hb d_Mo_due_21 (tgt := 54) rfl (fun hc => ?_) (fun hc => ?_)
  · replace hF := hF.1 hc
    refine lv_iconst hx hb d_Mo_due_54 ki_m1 ?_
    exact rs_iret C hH hT hS hF d_Mo_due_55
  · replace hF := hF.2 hc
    refine lv_iload_n hx hb d_Mo_due_24 rfl (lv_at hl 0 rfl) ?_
    refine lv_iload_n hx hb d_Mo_due_25 rfl (lv_at hl 2 rfl) ?_
    refine lv_icmp_eq hx hb d_Mo_due_26 (tgt := 54) rfl (fun hc => ?_) (fun hc => ?_)
    · replace hF := hF.1 hc
      refine lv_iconst hx hb d_Mo_due_54 ki_m1 ?_
      exact rs_iret C hH hT hS hF d_Mo_due_55
    · replace hF := hF.2 hc
      refine lv_iload_n hx hb d_Mo_due_29 rfl (lv_at hl 0 rfl) ?_
      refine lv_iconst hx hb d_Mo_due_30 ki_4 ?_
      refine lv_icmp_ge hx hb d_Mo_due_31 (tgt := 56) rfl (fun hc => ?_) (fun hc => ?_)
      · replace hF := hF.1 hc
        exact JB_Mo_due_56 C v0 x1 x2 y0 σ _ _ _ h_v0 hH hT hS (lv_sub hl [1, 2, 3, 0] rfl) hF
      · replace hF := hF.2 hc
        refine lv_aload_n hx hb d_Mo_due_34 rfl (lv_at hl 1 rfl) ?_
        refine rs_getR C hH hT h_v0 fk_11_1 tw_900 d_Mo_due_35 (fun h51 => ?_)
        refine lv_iload_n hx hb d_Mo_due_38 rfl (lv_at hl 0 rfl) ?_
        obtain ⟨g52, hF⟩ := hF
        refine rs_iald C hH h51 g52 d_Mo_due_39 ?_
        refine lv_iconst hx hb d_Mo_due_40 ki_2 ?_
        refine lv_icmp_ne hx hb d_Mo_due_41 (tgt := 56) rfl (fun hc => ?_) (fun hc => ?_)
        · replace hF := hF.1 hc
          exact JB_Mo_due_56 C v0 x1 x2 y0 σ _ _ _ h_v0 hH hT hS (lv_sub hl [1, 2, 3, 0] rfl) hF
        · replace hF := hF.2 hc
          refine lv_aload_n hx hb d_Mo_due_44 rfl (lv_at hl 1 rfl) ?_
          refine rs_getR C hH hT h_v0 fk_11_1 tw_900 d_Mo_due_45 (fun h53 => ?_)
          refine lv_iload_n hx hb d_Mo_due_48 rfl (lv_at hl 2 rfl) ?_
          obtain ⟨g54, hF⟩ := hF
          refine rs_iald C hH h53 g54 d_Mo_due_49 ?_
          refine lv_iconst hx hb d_Mo_due_50 ki_2 ?_
          refine lv_icmp_ne hx hb d_Mo_due_51 (tgt := 56) rfl (fun hc => ?_) (fun hc => ?_)
          · replace hF := hF.1 hc
            exact JB_Mo_due_56 C v0 x1 x2 y0 σ _ _ _ h_v0 hH hT hS (lv_sub hl [1, 2, 3, 0] rfl) hF
          · replace hF := hF.2 hc
            refine lv_iconst hx hb d_Mo_due_54 ki_m1 ?_
            exact rs_iret C hH hT hS hF d_Mo_due_55
abbrev y_Mo_due : MethodName := ({ cls := "RouteSpeakerModel", name := "due", desc := "(II)I" } : Jvm.MethodName)
theorem rc_Mo_due : rs_Cal y_Mo_due prog_12_method_56_code 4 (some .int) 2 := ⟨tw_1048, tw_11, by decide, by decide, by decide +kernel⟩
set_option maxRecDepth 20000 in
theorem J_Mo_due (l : Launch) {G : rs_G} {Bm : Nat} {S : rs_Shp} {v0 : Nat} {x1 : Int32} {x2 : Int32} {σ : rs_Mem} {Q : Int32 → rs_Mem → Prop} (h_v0 : rs_Ok S 11 v0) (hF : F_Mo_due S.2.2 v0 x1 x2 σ Q) :
    Met l y_Mo_due (rs_ws y_Mo_due prog_12_method_56_code 4 (some .int)) { frames := 6, cells := 0, slots := 0, locals := 138 } (rs_P G Bm S σ [.ref (Bm + v0), .int x1, .int x2]) (rs_Qi G Bm S Q) 0 0 (rs_A Bm) := by
  refine rs_met (own := "RouteSpeakerModel") (by decide) rfl (Nat.le_of_ble_eq_true rfl) (fun p e s m below meth c ls C hl hH hT hS => ?_)
  replace hl : lv_has ls 4 [(0, .ref (Bm + v0)), (1, .int x1), (2, .int x2)] := hl
  have hx := C.1
  have hb := C.2.1
  unfold F_Mo_due at hF
  refine lv_aload_n hx hb d_Mo_due_0 rfl (lv_at hl 0 rfl) ?_
  refine rs_getR C hH hT h_v0 fk_11_3 tw_902 d_Mo_due_1 (fun h51 => ?_)
  refine lv_iload_n hx hb d_Mo_due_4 rfl (lv_at hl 1 rfl) ?_
  obtain ⟨g52, hF⟩ := hF
  refine rs_iald C hH h51 g52 d_Mo_due_5 ?_
  refine lv_iconst hx hb d_Mo_due_6 ki_3 ?_
  refine lv_icmp_ne hx hb d_Mo_due_7 (tgt := 18) rfl (fun hc => ?_) (fun hc => ?_)
  · replace hF := hF.1 hc
    refine lv_iconst hx hb d_Mo_due_18 ki_m1 ?_
    exact JB_Mo_due_19 C v0 x1 x2 (-1 : Int32) σ _ _ _ h_v0 hH hT hS (lv_sub hl [0, 1, 2] rfl) hF
  · replace hF := hF.2 hc
    refine lv_aload_n hx hb d_Mo_due_10 rfl (lv_at hl 0 rfl) ?_
    refine lv_iload_n hx hb d_Mo_due_11 rfl (lv_at hl 2 rfl) ?_
    refine rs_ci (rs_runV C hH hT hl (J_Mo_bestOf l h_v0 hF) rc_Mo_bestOf tw_1049 tw_1051 ts_37 h_v0 ⟨rfl, by decide, by decide⟩ rfl ⟨⟨rfl, rfl⟩, by decide, by decide, by decide⟩ (Nat.le_of_ble_eq_true rfl) rfl d_Mo_due_12) hS (fun x54 σ53 H locs hH hT hS hF => ?_)
    refine lv_goto hx hb d_Mo_due_15 (tgt := 19) rfl ?_
    exact JB_Mo_due_19 C v0 x1 x2 x54 σ53 _ _ _ h_v0 hH hT hS (lv_sub hl [0, 1, 2] rfl) hF
/-! RouteSpeakerModel.isTold(II)Z -/
theorem d_Mo_isTold_0 : decode prog_12_method_59_code 0 = .ok (.aload_n 0, 1) := by decide +kernel
theorem d_Mo_isTold_1 : decode prog_12_method_59_code 1 = .ok (.getfield 111, 3) := by decide +kernel
theorem d_Mo_isTold_4 : decode prog_12_method_59_code 4 = .ok (.iload_n 1, 1) := by decide +kernel
theorem d_Mo_isTold_5 : decode prog_12_method_59_code 5 = .ok (.iaload, 1) := by decide +kernel
theorem d_Mo_isTold_6 : decode prog_12_method_59_code 6 = .ok (.iload_n 2, 1) := by decide +kernel
theorem d_Mo_isTold_7 : decode prog_12_method_59_code 7 = .ok (.if_icmp .ne (7), 3) := by decide +kernel
theorem d_Mo_isTold_10 : decode prog_12_method_59_code 10 = .ok (.iconst 1, 1) := by decide +kernel
theorem d_Mo_isTold_11 : decode prog_12_method_59_code 11 = .ok (.goto (4), 3) := by decide +kernel
theorem d_Mo_isTold_14 : decode prog_12_method_59_code 14 = .ok (.iconst 0, 1) := by decide +kernel
theorem d_Mo_isTold_15 : decode prog_12_method_59_code 15 = .ok (.istore_n 3, 1) := by decide +kernel
theorem d_Mo_isTold_16 : decode prog_12_method_59_code 16 = .ok (.iconst 0, 1) := by decide +kernel
theorem d_Mo_isTold_17 : decode prog_12_method_59_code 17 = .ok (.istore 4, 2) := by decide +kernel
theorem d_Mo_isTold_19 : decode prog_12_method_59_code 19 = .ok (.iload 4, 2) := by decide +kernel
theorem d_Mo_isTold_21 : decode prog_12_method_59_code 21 = .ok (.iload_n 2, 1) := by decide +kernel
theorem d_Mo_isTold_22 : decode prog_12_method_59_code 22 = .ok (.if_icmp .ge (41), 3) := by decide +kernel
theorem d_Mo_isTold_25 : decode prog_12_method_59_code 25 = .ok (.iload_n 3, 1) := by decide +kernel
theorem d_Mo_isTold_26 : decode prog_12_method_59_code 26 = .ok (.ifCond .eq (37), 3) := by decide +kernel
theorem d_Mo_isTold_29 : decode prog_12_method_59_code 29 = .ok (.aload_n 0, 1) := by decide +kernel
theorem d_Mo_isTold_30 : decode prog_12_method_59_code 30 = .ok (.getfield 114, 3) := by decide +kernel
theorem d_Mo_isTold_33 : decode prog_12_method_59_code 33 = .ok (.bipush (40), 2) := by decide +kernel
theorem d_Mo_isTold_35 : decode prog_12_method_59_code 35 = .ok (.iload_n 1, 1) := by decide +kernel
theorem d_Mo_isTold_36 : decode prog_12_method_59_code 36 = .ok (.imul, 1) := by decide +kernel
theorem d_Mo_isTold_37 : decode prog_12_method_59_code 37 = .ok (.iload 4, 2) := by decide +kernel
theorem d_Mo_isTold_39 : decode prog_12_method_59_code 39 = .ok (.iadd, 1) := by decide +kernel
theorem d_Mo_isTold_40 : decode prog_12_method_59_code 40 = .ok (.iaload, 1) := by decide +kernel
theorem d_Mo_isTold_41 : decode prog_12_method_59_code 41 = .ok (.aload_n 0, 1) := by decide +kernel
theorem d_Mo_isTold_42 : decode prog_12_method_59_code 42 = .ok (.getfield 117, 3) := by decide +kernel
theorem d_Mo_isTold_45 : decode prog_12_method_59_code 45 = .ok (.iload 4, 2) := by decide +kernel
theorem d_Mo_isTold_47 : decode prog_12_method_59_code 47 = .ok (.iaload, 1) := by decide +kernel
theorem d_Mo_isTold_48 : decode prog_12_method_59_code 48 = .ok (.if_icmp .ne (7), 3) := by decide +kernel
theorem d_Mo_isTold_51 : decode prog_12_method_59_code 51 = .ok (.iconst 1, 1) := by decide +kernel
theorem d_Mo_isTold_52 : decode prog_12_method_59_code 52 = .ok (.goto (4), 3) := by decide +kernel
theorem d_Mo_isTold_55 : decode prog_12_method_59_code 55 = .ok (.iconst 0, 1) := by decide +kernel
theorem d_Mo_isTold_56 : decode prog_12_method_59_code 56 = .ok (.istore_n 3, 1) := by decide +kernel
theorem d_Mo_isTold_57 : decode prog_12_method_59_code 57 = .ok (.iinc 4 (1), 3) := by decide +kernel
theorem d_Mo_isTold_60 : decode prog_12_method_59_code 60 = .ok (.goto (-41), 3) := by decide +kernel
theorem d_Mo_isTold_63 : decode prog_12_method_59_code 63 = .ok (.iload_n 3, 1) := by decide +kernel
theorem d_Mo_isTold_64 : decode prog_12_method_59_code 64 = .ok (.ireturn, 1) := by decide +kernel
def G_Mo_isTold_19 (N : Nat → Nat) (Q : Int32 → rs_Mem → Prop) (K19 : Nat → Int32 → Int32 → Int32 → Int32 → rs_Mem → Prop) (v0 : Nat) (x1 : Int32) (x2 : Int32) (x3 : Int32) (x4 : Int32) (σ : rs_Mem) : Prop :=
  ((x2 ≤ x4 → ((x3 &&& 1 = x3) ∧ Q x3 σ)) ∧ (¬ (x2 ≤ x4) → ((x3 = 0 → ((x3 &&& 1 = x3) ∧ Q x3 σ)) ∧ (¬ (x3 = 0) → (vp_in (((40 : Int32) * x1) + x4) (N (rs_R σ v0 37)) ∧ (vp_in x4 (N (rs_R σ v0 38)) ∧ ((¬ ((rs_I σ (rs_R σ v0 37) (((40 : Int32) * x1) + x4).toNatClampNeg) = (rs_I σ (rs_R σ v0 38) x4.toNatClampNeg)) → (∀ x55 : Int32, x55 = x4 + (1 : Int32) → (K19 v0 x1 x2 (0 : Int32) x55 σ))) ∧ ((rs_I σ (rs_R σ v0 37) (((40 : Int32) * x1) + x4).toNatClampNeg) = (rs_I σ (rs_R σ v0 38) x4.toNatClampNeg) → (∀ x55 : Int32, x55 = x4 + (1 : Int32) → (K19 v0 x1 x2 (1 : Int32) x55 σ))))))))))
noncomputable def L_Mo_isTold_19 (N : Nat → Nat) (Q : Int32 → rs_Mem → Prop) (n : Nat) : Nat → Int32 → Int32 → Int32 → Int32 → rs_Mem → Prop := Nat.rec (motive := fun _ => Nat → Int32 → Int32 → Int32 → Int32 → rs_Mem → Prop) (fun _ _ _ _ _ _ => False) (fun _ K => G_Mo_isTold_19 N Q K) n
def F_Mo_isTold (N : Nat → Nat) (v0 : Nat) (x1 : Int32) (x2 : Int32) (σ : rs_Mem) (Q : Int32 → rs_Mem → Prop) : Prop :=
  (vp_in x1 (N (rs_R σ v0 36)) ∧ ((¬ ((rs_I σ (rs_R σ v0 36) x1.toNatClampNeg) = x2) → (∃ n : Nat, L_Mo_isTold_19 N Q n v0 x1 x2 (0 : Int32) (0 : Int32) σ)) ∧ ((rs_I σ (rs_R σ v0 36) x1.toNatClampNeg) = x2 → (∃ n : Nat, L_Mo_isTold_19 N Q n v0 x1 x2 (1 : Int32) (0 : Int32) σ))))
set_option maxRecDepth 20000 in
theorem JL_Mo_isTold_19 {p : Program} {l : Launch} {e : Env} {s : State} {m : MethodId} {args : Array Value} {below : List Frame} {meth : Method} {c : Code} {G : rs_G} {Bm : Nat} {S : rs_Shp} {Q : Int32 → rs_Mem → Prop} (C : rs_C "RouteSpeakerModel" prog_12_method_59_code 5 (some .boolean) G p s m meth c args) : ∀ n : Nat, ∀ (v0 : Nat) (x1 : Int32) (x2 : Int32) (x3 : Int32) (x4 : Int32) (σ : rs_Mem) (H : Heap) (locs : List Loc) (ls : Array Slot), rs_Ok S 11 v0 → rs_H G Bm S σ H → rs_T S σ → va_S (rs_A Bm) s.heap H locs → lv_has ls 5 [(0, .ref (Bm + v0)), (1, .int x1), (2, .int x2), (3, .int x3), (4, .int x4)] → (L_Mo_isTold_19 S.2.2 Q n) v0 x1 x2 x3 x4 σ → W p l e { frames := 0, cells := 0, slots := 0, locals := 0 } s m args below meth c H locs 0 0 (MQ below (rs_Qi G Bm S Q) args s 0 0 (rs_A Bm)) (F0 m 19 ls []) := by
  have hx := C.1
  have hb := C.2.1
  intro n
  induction n with
  | zero => intros; rename_i hF; exact hF.elim
  | succ n hK19 =>
    intro v0 x1 x2 x3 x4 σ H locs ls h_v0 hH hT hS hl hF
    replace hF : G_Mo_isTold_19 S.2.2 Q (L_Mo_isTold_19 S.2.2 Q n) v0 x1 x2 x3 x4 σ := hF
    unfold G_Mo_isTold_19 at hF
    refine lv_iload hx hb d_Mo_isTold_19 (lv_at hl 4 rfl) ?_
    refine lv_iload_n hx hb d_Mo_isTold_21 rfl (lv_at hl 2 rfl) ?_
    refine lv_icmp_ge hx hb d_Mo_isTold_22 (tgt := 63) rfl (fun hc => ?_) (fun hc => ?_)
    · replace hF := hF.1 hc
      refine lv_iload_n hx hb d_Mo_isTold_63 rfl (lv_at hl 3 rfl) ?_
      exact rs_zret C hH hT hS hF.1 hF.2 d_Mo_isTold_64
    · replace hF := hF.2 hc
      refine lv_iload_n hx hb d_Mo_isTold_25 rfl (lv_at hl 3 rfl) ?_
      refine lv_if_eq hx hb d_Mo_isTold_26 (tgt := 63) rfl (fun hc => ?_) (fun hc => ?_)
      · replace hF := hF.1 hc
        refine lv_iload_n hx hb d_Mo_isTold_63 rfl (lv_at hl 3 rfl) ?_
        exact rs_zret C hH hT hS hF.1 hF.2 d_Mo_isTold_64
      · replace hF := hF.2 hc
        refine lv_aload_n hx hb d_Mo_isTold_29 rfl (lv_at hl 0 rfl) ?_
        refine rs_getR C hH hT h_v0 fk_11_37 tw_936 d_Mo_isTold_30 (fun h51 => ?_)
        refine lv_bipush hx hb d_Mo_isTold_33 kb_40 ?_
        refine lv_iload_n hx hb d_Mo_isTold_35 rfl (lv_at hl 1 rfl) ?_
        refine lv_imul hx hb d_Mo_isTold_36 ?_
        refine lv_iload hx hb d_Mo_isTold_37 (lv_at hl 4 rfl) ?_
        refine lv_iadd hx hb d_Mo_isTold_39 ?_
        obtain ⟨g52, hF⟩ := hF
        refine rs_iald C hH h51 g52 d_Mo_isTold_40 ?_
        refine lv_aload_n hx hb d_Mo_isTold_41 rfl (lv_at hl 0 rfl) ?_
        refine rs_getR C hH hT h_v0 fk_11_38 tw_937 d_Mo_isTold_42 (fun h53 => ?_)
        refine lv_iload hx hb d_Mo_isTold_45 (lv_at hl 4 rfl) ?_
        obtain ⟨g54, hF⟩ := hF
        refine rs_iald C hH h53 g54 d_Mo_isTold_47 ?_
        refine lv_icmp_ne hx hb d_Mo_isTold_48 (tgt := 55) rfl (fun hc => ?_) (fun hc => ?_)
        · replace hF := hF.1 hc
          refine lv_iconst hx hb d_Mo_isTold_55 ki_0 ?_
          refine lv_istore_n hx hb d_Mo_isTold_56 rfl hl (by decide) (lv' := [(3, .int (0 : Int32)), (0, .ref (Bm + v0)), (1, .int x1), (2, .int x2), (4, .int x4)]) rfl (fun ls hl => ?_)
          obtain ⟨x55, ex55⟩ : ∃ z : Int32, z = x4 + (1 : Int32) := ⟨_, rfl⟩
          replace hF := hF x55 ex55
          refine lv_iinc hx hb d_Mo_isTold_57 hl (k := 4) rfl (v := x55) (by rw [ki_1, ex55]) (by decide) (lv' := [(4, .int x55), (3, .int (0 : Int32)), (0, .ref (Bm + v0)), (1, .int x1), (2, .int x2)]) rfl (fun ls hl => ?_)
          refine lv_goto hx hb d_Mo_isTold_60 (tgt := 19) rfl ?_
          exact hK19 v0 x1 x2 (0 : Int32) x55 σ _ _ _ h_v0 hH hT hS (lv_sub hl [2, 3, 4, 1, 0] rfl) hF
        · replace hF := hF.2 hc
          refine lv_iconst hx hb d_Mo_isTold_51 ki_1 ?_
          refine lv_goto hx hb d_Mo_isTold_52 (tgt := 56) rfl ?_
          refine lv_istore_n hx hb d_Mo_isTold_56 rfl hl (by decide) (lv' := [(3, .int (1 : Int32)), (0, .ref (Bm + v0)), (1, .int x1), (2, .int x2), (4, .int x4)]) rfl (fun ls hl => ?_)
          obtain ⟨x55, ex55⟩ : ∃ z : Int32, z = x4 + (1 : Int32) := ⟨_, rfl⟩
          replace hF := hF x55 ex55
          refine lv_iinc hx hb d_Mo_isTold_57 hl (k := 4) rfl (v := x55) (by rw [ki_1, ex55]) (by decide) (lv' := [(4, .int x55), (3, .int (1 : Int32)), (0, .ref (Bm + v0)), (1, .int x1), (2, .int x2)]) rfl (fun ls hl => ?_)
          refine lv_goto hx hb d_Mo_isTold_60 (tgt := 19) rfl ?_
          exact hK19 v0 x1 x2 (1 : Int32) x55 σ _ _ _ h_v0 hH hT hS (lv_sub hl [2, 3, 4, 1, 0] rfl) hF
abbrev y_Mo_isTold : MethodName := ({ cls := "RouteSpeakerModel", name := "isTold", desc := "(II)Z" } : Jvm.MethodName)
theorem rc_Mo_isTold : rs_Cal y_Mo_isTold prog_12_method_59_code 5 (some .boolean) 2 := ⟨tw_1115, tw_11, by decide, by decide, by decide +kernel⟩
set_option maxRecDepth 20000 in
theorem J_Mo_isTold (l : Launch) {G : rs_G} {Bm : Nat} {S : rs_Shp} {v0 : Nat} {x1 : Int32} {x2 : Int32} {σ : rs_Mem} {Q : Int32 → rs_Mem → Prop} (h_v0 : rs_Ok S 11 v0) (hF : F_Mo_isTold S.2.2 v0 x1 x2 σ Q) :
    Met l y_Mo_isTold (rs_ws y_Mo_isTold prog_12_method_59_code 5 (some .boolean)) { frames := 0, cells := 0, slots := 0, locals := 0 } (rs_P G Bm S σ [.ref (Bm + v0), .int x1, .int x2]) (rs_Qi G Bm S Q) 0 0 (rs_A Bm) := by
  refine rs_met (own := "RouteSpeakerModel") (by decide) rfl (Nat.le_of_ble_eq_true rfl) (fun p e s m below meth c ls C hl hH hT hS => ?_)
  replace hl : lv_has ls 5 [(0, .ref (Bm + v0)), (1, .int x1), (2, .int x2)] := hl
  have hx := C.1
  have hb := C.2.1
  unfold F_Mo_isTold at hF
  refine lv_aload_n hx hb d_Mo_isTold_0 rfl (lv_at hl 0 rfl) ?_
  refine rs_getR C hH hT h_v0 fk_11_36 tw_935 d_Mo_isTold_1 (fun h51 => ?_)
  refine lv_iload_n hx hb d_Mo_isTold_4 rfl (lv_at hl 1 rfl) ?_
  obtain ⟨g52, hF⟩ := hF
  refine rs_iald C hH h51 g52 d_Mo_isTold_5 ?_
  refine lv_iload_n hx hb d_Mo_isTold_6 rfl (lv_at hl 2 rfl) ?_
  refine lv_icmp_ne hx hb d_Mo_isTold_7 (tgt := 14) rfl (fun hc => ?_) (fun hc => ?_)
  · replace hF := hF.1 hc
    refine lv_iconst hx hb d_Mo_isTold_14 ki_0 ?_
    refine lv_istore_n hx hb d_Mo_isTold_15 rfl hl (by decide) (lv' := [(3, .int (0 : Int32)), (0, .ref (Bm + v0)), (1, .int x1), (2, .int x2)]) rfl (fun ls hl => ?_)
    refine lv_iconst hx hb d_Mo_isTold_16 ki_0 ?_
    refine lv_istore hx hb d_Mo_isTold_17 hl (by decide) (lv' := [(4, .int (0 : Int32)), (3, .int (0 : Int32)), (0, .ref (Bm + v0)), (1, .int x1), (2, .int x2)]) rfl (fun ls hl => ?_)
    obtain ⟨n, hF⟩ := hF
    exact JL_Mo_isTold_19 C n v0 x1 x2 (0 : Int32) (0 : Int32) σ _ _ _ h_v0 hH hT hS (lv_sub hl [2, 3, 4, 1, 0] rfl) hF
  · replace hF := hF.2 hc
    refine lv_iconst hx hb d_Mo_isTold_10 ki_1 ?_
    refine lv_goto hx hb d_Mo_isTold_11 (tgt := 15) rfl ?_
    refine lv_istore_n hx hb d_Mo_isTold_15 rfl hl (by decide) (lv' := [(3, .int (1 : Int32)), (0, .ref (Bm + v0)), (1, .int x1), (2, .int x2)]) rfl (fun ls hl => ?_)
    refine lv_iconst hx hb d_Mo_isTold_16 ki_0 ?_
    refine lv_istore hx hb d_Mo_isTold_17 hl (by decide) (lv' := [(4, .int (0 : Int32)), (3, .int (1 : Int32)), (0, .ref (Bm + v0)), (1, .int x1), (2, .int x2)]) rfl (fun ls hl => ?_)
    obtain ⟨n, hF⟩ := hF
    exact JL_Mo_isTold_19 C n v0 x1 x2 (1 : Int32) (0 : Int32) σ _ _ _ h_v0 hH hT hS (lv_sub hl [2, 3, 4, 1, 0] rfl) hF
