theorem dL_law_0 : decode bL_law 0 = .ok (.new 7, 3) := by decide +kernel
theorem dL_law_3 : decode bL_law 3 = .ok (.dup, 1) := by decide +kernel
theorem dL_law_4 : decode bL_law 4 = .ok (.invokespecial 9, 3) := by decide +kernel
theorem dL_law_7 : decode bL_law 7 = .ok (.astore_n 1, 1) := by decide +kernel
theorem dL_law_8 : decode bL_law 8 = .ok (.new 10, 3) := by decide +kernel
theorem dL_law_11 : decode bL_law 11 = .ok (.dup, 1) := by decide +kernel
theorem dL_law_12 : decode bL_law 12 = .ok (.invokespecial 12, 3) := by decide +kernel
theorem dL_law_15 : decode bL_law 15 = .ok (.astore_n 2, 1) := by decide +kernel
theorem dL_law_16 : decode bL_law 16 = .ok (.iconst 0, 1) := by decide +kernel
theorem dL_law_17 : decode bL_law 17 = .ok (.istore_n 3, 1) := by decide +kernel
theorem dL_law_18 : decode bL_law 18 = .ok (.iload_n 3, 1) := by decide +kernel
theorem dL_law_19 : decode bL_law 19 = .ok (.aload_n 0, 1) := by decide +kernel
theorem dL_law_20 : decode bL_law 20 = .ok (.arraylength, 1) := by decide +kernel
theorem dL_law_21 : decode bL_law 21 = .ok (.iconst 5, 1) := by decide +kernel
theorem dL_law_22 : decode bL_law 22 = .ok (.isub, 1) := by decide +kernel
theorem dL_law_23 : decode bL_law 23 = .ok (.if_icmp .gt 538, 3) := by decide +kernel
theorem dL_law_26 : decode bL_law 26 = .ok (.aload_n 0, 1) := by decide +kernel
theorem dL_law_27 : decode bL_law 27 = .ok (.iload_n 3, 1) := by decide +kernel
theorem dL_law_28 : decode bL_law 28 = .ok (.iaload, 1) := by decide +kernel
theorem dL_law_29 : decode bL_law 29 = .ok (.bipush 15, 2) := by decide +kernel
theorem dL_law_31 : decode bL_law 31 = .ok (.iand, 1) := by decide +kernel
theorem dL_law_32 : decode bL_law 32 = .ok (.tableswitch 523 0 10 #[60, 123, 196, 229, 282, 325, 348, 371, 394, 437, 490], 60) := by decide +kernel
theorem dL_law_92 : decode bL_law 92 = .ok (.aload_n 1, 1) := by decide +kernel
theorem dL_law_93 : decode bL_law 93 = .ok (.aload_n 0, 1) := by decide +kernel
theorem dL_law_94 : decode bL_law 94 = .ok (.iload_n 3, 1) := by decide +kernel
theorem dL_law_95 : decode bL_law 95 = .ok (.iconst 1, 1) := by decide +kernel
theorem dL_law_96 : decode bL_law 96 = .ok (.iadd, 1) := by decide +kernel
theorem dL_law_97 : decode bL_law 97 = .ok (.iaload, 1) := by decide +kernel
theorem dL_law_98 : decode bL_law 98 = .ok (.aload_n 0, 1) := by decide +kernel
theorem dL_law_99 : decode bL_law 99 = .ok (.iload_n 3, 1) := by decide +kernel
theorem dL_law_100 : decode bL_law 100 = .ok (.iconst 2, 1) := by decide +kernel
theorem dL_law_101 : decode bL_law 101 = .ok (.iadd, 1) := by decide +kernel
theorem dL_law_102 : decode bL_law 102 = .ok (.iaload, 1) := by decide +kernel
theorem dL_law_103 : decode bL_law 103 = .ok (.i2l, 1) := by decide +kernel
theorem dL_law_104 : decode bL_law 104 = .ok (.bipush 32, 2) := by decide +kernel
theorem dL_law_106 : decode bL_law 106 = .ok (.lshl, 1) := by decide +kernel
theorem dL_law_107 : decode bL_law 107 = .ok (.aload_n 0, 1) := by decide +kernel
theorem dL_law_108 : decode bL_law 108 = .ok (.iload_n 3, 1) := by decide +kernel
theorem dL_law_109 : decode bL_law 109 = .ok (.iconst 3, 1) := by decide +kernel
theorem dL_law_110 : decode bL_law 110 = .ok (.iadd, 1) := by decide +kernel
theorem dL_law_111 : decode bL_law 111 = .ok (.iaload, 1) := by decide +kernel
theorem dL_law_112 : decode bL_law 112 = .ok (.i2l, 1) := by decide +kernel
theorem dL_law_113 : decode bL_law 113 = .ok (.ldc2_w 13, 3) := by decide +kernel
theorem dL_law_116 : decode bL_law 116 = .ok (.land, 1) := by decide +kernel
theorem dL_law_117 : decode bL_law 117 = .ok (.lor, 1) := by decide +kernel
theorem dL_law_118 : decode bL_law 118 = .ok (.invokevirtual 15, 3) := by decide +kernel
theorem dL_law_121 : decode bL_law 121 = .ok (.pop, 1) := by decide +kernel
theorem dL_law_122 : decode bL_law 122 = .ok (.aload_n 2, 1) := by decide +kernel
theorem dL_law_123 : decode bL_law 123 = .ok (.aload_n 0, 1) := by decide +kernel
theorem dL_law_124 : decode bL_law 124 = .ok (.iload_n 3, 1) := by decide +kernel
theorem dL_law_125 : decode bL_law 125 = .ok (.iconst 1, 1) := by decide +kernel
theorem dL_law_126 : decode bL_law 126 = .ok (.iadd, 1) := by decide +kernel
theorem dL_law_127 : decode bL_law 127 = .ok (.iaload, 1) := by decide +kernel
theorem dL_law_128 : decode bL_law 128 = .ok (.aload_n 0, 1) := by decide +kernel
theorem dL_law_129 : decode bL_law 129 = .ok (.iload_n 3, 1) := by decide +kernel
theorem dL_law_130 : decode bL_law 130 = .ok (.iconst 2, 1) := by decide +kernel
theorem dL_law_131 : decode bL_law 131 = .ok (.iadd, 1) := by decide +kernel
theorem dL_law_132 : decode bL_law 132 = .ok (.iaload, 1) := by decide +kernel
theorem dL_law_133 : decode bL_law 133 = .ok (.i2l, 1) := by decide +kernel
theorem dL_law_134 : decode bL_law 134 = .ok (.bipush 32, 2) := by decide +kernel
theorem dL_law_136 : decode bL_law 136 = .ok (.lshl, 1) := by decide +kernel
theorem dL_law_137 : decode bL_law 137 = .ok (.aload_n 0, 1) := by decide +kernel
theorem dL_law_138 : decode bL_law 138 = .ok (.iload_n 3, 1) := by decide +kernel
theorem dL_law_139 : decode bL_law 139 = .ok (.iconst 3, 1) := by decide +kernel
theorem dL_law_140 : decode bL_law 140 = .ok (.iadd, 1) := by decide +kernel
theorem dL_law_141 : decode bL_law 141 = .ok (.iaload, 1) := by decide +kernel
theorem dL_law_142 : decode bL_law 142 = .ok (.i2l, 1) := by decide +kernel
theorem dL_law_143 : decode bL_law 143 = .ok (.ldc2_w 13, 3) := by decide +kernel
theorem dL_law_146 : decode bL_law 146 = .ok (.land, 1) := by decide +kernel
theorem dL_law_147 : decode bL_law 147 = .ok (.lor, 1) := by decide +kernel
theorem dL_law_148 : decode bL_law 148 = .ok (.invokevirtual 19, 3) := by decide +kernel
theorem dL_law_151 : decode bL_law 151 = .ok (.pop, 1) := by decide +kernel
theorem dL_law_152 : decode bL_law 152 = .ok (.goto 403, 3) := by decide +kernel
theorem dL_law_155 : decode bL_law 155 = .ok (.aload_n 1, 1) := by decide +kernel
theorem dL_law_156 : decode bL_law 156 = .ok (.aload_n 0, 1) := by decide +kernel
theorem dL_law_157 : decode bL_law 157 = .ok (.iload_n 3, 1) := by decide +kernel
theorem dL_law_158 : decode bL_law 158 = .ok (.iconst 1, 1) := by decide +kernel
theorem dL_law_159 : decode bL_law 159 = .ok (.iadd, 1) := by decide +kernel
theorem dL_law_160 : decode bL_law 160 = .ok (.iaload, 1) := by decide +kernel
theorem dL_law_161 : decode bL_law 161 = .ok (.aload_n 0, 1) := by decide +kernel
theorem dL_law_162 : decode bL_law 162 = .ok (.iload_n 3, 1) := by decide +kernel
theorem dL_law_163 : decode bL_law 163 = .ok (.iconst 2, 1) := by decide +kernel
theorem dL_law_164 : decode bL_law 164 = .ok (.iadd, 1) := by decide +kernel
theorem dL_law_165 : decode bL_law 165 = .ok (.iaload, 1) := by decide +kernel
theorem dL_law_166 : decode bL_law 166 = .ok (.i2l, 1) := by decide +kernel
theorem dL_law_167 : decode bL_law 167 = .ok (.bipush 32, 2) := by decide +kernel
theorem dL_law_169 : decode bL_law 169 = .ok (.lshl, 1) := by decide +kernel
theorem dL_law_170 : decode bL_law 170 = .ok (.aload_n 0, 1) := by decide +kernel
theorem dL_law_171 : decode bL_law 171 = .ok (.iload_n 3, 1) := by decide +kernel
theorem dL_law_172 : decode bL_law 172 = .ok (.iconst 3, 1) := by decide +kernel
theorem dL_law_173 : decode bL_law 173 = .ok (.iadd, 1) := by decide +kernel
theorem dL_law_174 : decode bL_law 174 = .ok (.iaload, 1) := by decide +kernel
theorem dL_law_175 : decode bL_law 175 = .ok (.i2l, 1) := by decide +kernel
theorem dL_law_176 : decode bL_law 176 = .ok (.ldc2_w 13, 3) := by decide +kernel
theorem dL_law_179 : decode bL_law 179 = .ok (.land, 1) := by decide +kernel
theorem dL_law_180 : decode bL_law 180 = .ok (.lor, 1) := by decide +kernel
theorem dL_law_181 : decode bL_law 181 = .ok (.aload_n 0, 1) := by decide +kernel
theorem dL_law_182 : decode bL_law 182 = .ok (.iload_n 3, 1) := by decide +kernel
theorem dL_law_183 : decode bL_law 183 = .ok (.iconst 4, 1) := by decide +kernel
theorem dL_law_184 : decode bL_law 184 = .ok (.iadd, 1) := by decide +kernel
theorem dL_law_185 : decode bL_law 185 = .ok (.iaload, 1) := by decide +kernel
theorem dL_law_186 : decode bL_law 186 = .ok (.invokevirtual 20, 3) := by decide +kernel
theorem dL_law_189 : decode bL_law 189 = .ok (.pop, 1) := by decide +kernel
theorem dL_law_190 : decode bL_law 190 = .ok (.aload_n 2, 1) := by decide +kernel
theorem dL_law_191 : decode bL_law 191 = .ok (.aload_n 0, 1) := by decide +kernel
theorem dL_law_192 : decode bL_law 192 = .ok (.iload_n 3, 1) := by decide +kernel
theorem dL_law_193 : decode bL_law 193 = .ok (.iconst 1, 1) := by decide +kernel
theorem dL_law_194 : decode bL_law 194 = .ok (.iadd, 1) := by decide +kernel
theorem dL_law_195 : decode bL_law 195 = .ok (.iaload, 1) := by decide +kernel
theorem dL_law_196 : decode bL_law 196 = .ok (.aload_n 0, 1) := by decide +kernel
theorem dL_law_197 : decode bL_law 197 = .ok (.iload_n 3, 1) := by decide +kernel
theorem dL_law_198 : decode bL_law 198 = .ok (.iconst 2, 1) := by decide +kernel
theorem dL_law_199 : decode bL_law 199 = .ok (.iadd, 1) := by decide +kernel
theorem dL_law_200 : decode bL_law 200 = .ok (.iaload, 1) := by decide +kernel
theorem dL_law_201 : decode bL_law 201 = .ok (.i2l, 1) := by decide +kernel
theorem dL_law_202 : decode bL_law 202 = .ok (.bipush 32, 2) := by decide +kernel
theorem dL_law_204 : decode bL_law 204 = .ok (.lshl, 1) := by decide +kernel
theorem dL_law_205 : decode bL_law 205 = .ok (.aload_n 0, 1) := by decide +kernel
theorem dL_law_206 : decode bL_law 206 = .ok (.iload_n 3, 1) := by decide +kernel
theorem dL_law_207 : decode bL_law 207 = .ok (.iconst 3, 1) := by decide +kernel
theorem dL_law_208 : decode bL_law 208 = .ok (.iadd, 1) := by decide +kernel
theorem dL_law_209 : decode bL_law 209 = .ok (.iaload, 1) := by decide +kernel
theorem dL_law_210 : decode bL_law 210 = .ok (.i2l, 1) := by decide +kernel
theorem dL_law_211 : decode bL_law 211 = .ok (.ldc2_w 13, 3) := by decide +kernel
theorem dL_law_214 : decode bL_law 214 = .ok (.land, 1) := by decide +kernel
theorem dL_law_215 : decode bL_law 215 = .ok (.lor, 1) := by decide +kernel
theorem dL_law_216 : decode bL_law 216 = .ok (.aload_n 0, 1) := by decide +kernel
theorem dL_law_217 : decode bL_law 217 = .ok (.iload_n 3, 1) := by decide +kernel
theorem dL_law_218 : decode bL_law 218 = .ok (.iconst 4, 1) := by decide +kernel
theorem dL_law_219 : decode bL_law 219 = .ok (.iadd, 1) := by decide +kernel
theorem dL_law_220 : decode bL_law 220 = .ok (.iaload, 1) := by decide +kernel
theorem dL_law_221 : decode bL_law 221 = .ok (.invokevirtual 24, 3) := by decide +kernel
theorem dL_law_224 : decode bL_law 224 = .ok (.pop, 1) := by decide +kernel
theorem dL_law_225 : decode bL_law 225 = .ok (.goto 330, 3) := by decide +kernel
theorem dL_law_228 : decode bL_law 228 = .ok (.aload_n 1, 1) := by decide +kernel
theorem dL_law_229 : decode bL_law 229 = .ok (.aload_n 0, 1) := by decide +kernel
theorem dL_law_230 : decode bL_law 230 = .ok (.iload_n 3, 1) := by decide +kernel
theorem dL_law_231 : decode bL_law 231 = .ok (.iconst 1, 1) := by decide +kernel
theorem dL_law_232 : decode bL_law 232 = .ok (.iadd, 1) := by decide +kernel
theorem dL_law_233 : decode bL_law 233 = .ok (.iaload, 1) := by decide +kernel
theorem dL_law_234 : decode bL_law 234 = .ok (.aload_n 0, 1) := by decide +kernel
theorem dL_law_235 : decode bL_law 235 = .ok (.iload_n 3, 1) := by decide +kernel
theorem dL_law_236 : decode bL_law 236 = .ok (.iconst 2, 1) := by decide +kernel
theorem dL_law_237 : decode bL_law 237 = .ok (.iadd, 1) := by decide +kernel
theorem dL_law_238 : decode bL_law 238 = .ok (.iaload, 1) := by decide +kernel
theorem dL_law_239 : decode bL_law 239 = .ok (.invokevirtual 25, 3) := by decide +kernel
theorem dL_law_242 : decode bL_law 242 = .ok (.pop, 1) := by decide +kernel
theorem dL_law_243 : decode bL_law 243 = .ok (.aload_n 2, 1) := by decide +kernel
theorem dL_law_244 : decode bL_law 244 = .ok (.aload_n 0, 1) := by decide +kernel
theorem dL_law_245 : decode bL_law 245 = .ok (.iload_n 3, 1) := by decide +kernel
theorem dL_law_246 : decode bL_law 246 = .ok (.iconst 1, 1) := by decide +kernel
theorem dL_law_247 : decode bL_law 247 = .ok (.iadd, 1) := by decide +kernel
theorem dL_law_248 : decode bL_law 248 = .ok (.iaload, 1) := by decide +kernel
theorem dL_law_249 : decode bL_law 249 = .ok (.aload_n 0, 1) := by decide +kernel
theorem dL_law_250 : decode bL_law 250 = .ok (.iload_n 3, 1) := by decide +kernel
theorem dL_law_251 : decode bL_law 251 = .ok (.iconst 2, 1) := by decide +kernel
theorem dL_law_252 : decode bL_law 252 = .ok (.iadd, 1) := by decide +kernel
theorem dL_law_253 : decode bL_law 253 = .ok (.iaload, 1) := by decide +kernel
theorem dL_law_254 : decode bL_law 254 = .ok (.invokevirtual 29, 3) := by decide +kernel
theorem dL_law_257 : decode bL_law 257 = .ok (.pop, 1) := by decide +kernel
theorem dL_law_258 : decode bL_law 258 = .ok (.goto 297, 3) := by decide +kernel
theorem dL_law_261 : decode bL_law 261 = .ok (.aload_n 1, 1) := by decide +kernel
theorem dL_law_262 : decode bL_law 262 = .ok (.aload_n 0, 1) := by decide +kernel
theorem dL_law_263 : decode bL_law 263 = .ok (.iload_n 3, 1) := by decide +kernel
theorem dL_law_264 : decode bL_law 264 = .ok (.iconst 1, 1) := by decide +kernel
theorem dL_law_265 : decode bL_law 265 = .ok (.iadd, 1) := by decide +kernel
theorem dL_law_266 : decode bL_law 266 = .ok (.iaload, 1) := by decide +kernel
theorem dL_law_267 : decode bL_law 267 = .ok (.aload_n 0, 1) := by decide +kernel
theorem dL_law_268 : decode bL_law 268 = .ok (.iload_n 3, 1) := by decide +kernel
theorem dL_law_269 : decode bL_law 269 = .ok (.iconst 2, 1) := by decide +kernel
theorem dL_law_270 : decode bL_law 270 = .ok (.iadd, 1) := by decide +kernel
theorem dL_law_271 : decode bL_law 271 = .ok (.iaload, 1) := by decide +kernel
theorem dL_law_272 : decode bL_law 272 = .ok (.aload_n 0, 1) := by decide +kernel
theorem dL_law_273 : decode bL_law 273 = .ok (.iload_n 3, 1) := by decide +kernel
theorem dL_law_274 : decode bL_law 274 = .ok (.iconst 3, 1) := by decide +kernel
theorem dL_law_275 : decode bL_law 275 = .ok (.iadd, 1) := by decide +kernel
theorem dL_law_276 : decode bL_law 276 = .ok (.iaload, 1) := by decide +kernel
theorem dL_law_277 : decode bL_law 277 = .ok (.aload_n 0, 1) := by decide +kernel
theorem dL_law_278 : decode bL_law 278 = .ok (.iload_n 3, 1) := by decide +kernel
theorem dL_law_279 : decode bL_law 279 = .ok (.iconst 4, 1) := by decide +kernel
theorem dL_law_280 : decode bL_law 280 = .ok (.iadd, 1) := by decide +kernel
theorem dL_law_281 : decode bL_law 281 = .ok (.iaload, 1) := by decide +kernel
theorem dL_law_282 : decode bL_law 282 = .ok (.invokevirtual 30, 3) := by decide +kernel
theorem dL_law_285 : decode bL_law 285 = .ok (.pop, 1) := by decide +kernel
theorem dL_law_286 : decode bL_law 286 = .ok (.aload_n 2, 1) := by decide +kernel
theorem dL_law_287 : decode bL_law 287 = .ok (.aload_n 0, 1) := by decide +kernel
theorem dL_law_288 : decode bL_law 288 = .ok (.iload_n 3, 1) := by decide +kernel
theorem dL_law_289 : decode bL_law 289 = .ok (.iconst 1, 1) := by decide +kernel
theorem dL_law_290 : decode bL_law 290 = .ok (.iadd, 1) := by decide +kernel
theorem dL_law_291 : decode bL_law 291 = .ok (.iaload, 1) := by decide +kernel
theorem dL_law_292 : decode bL_law 292 = .ok (.aload_n 0, 1) := by decide +kernel
theorem dL_law_293 : decode bL_law 293 = .ok (.iload_n 3, 1) := by decide +kernel
theorem dL_law_294 : decode bL_law 294 = .ok (.iconst 2, 1) := by decide +kernel
theorem dL_law_295 : decode bL_law 295 = .ok (.iadd, 1) := by decide +kernel
theorem dL_law_296 : decode bL_law 296 = .ok (.iaload, 1) := by decide +kernel
theorem dL_law_297 : decode bL_law 297 = .ok (.aload_n 0, 1) := by decide +kernel
theorem dL_law_298 : decode bL_law 298 = .ok (.iload_n 3, 1) := by decide +kernel
theorem dL_law_299 : decode bL_law 299 = .ok (.iconst 3, 1) := by decide +kernel
theorem dL_law_300 : decode bL_law 300 = .ok (.iadd, 1) := by decide +kernel
theorem dL_law_301 : decode bL_law 301 = .ok (.iaload, 1) := by decide +kernel
theorem dL_law_302 : decode bL_law 302 = .ok (.aload_n 0, 1) := by decide +kernel
theorem dL_law_303 : decode bL_law 303 = .ok (.iload_n 3, 1) := by decide +kernel
theorem dL_law_304 : decode bL_law 304 = .ok (.iconst 4, 1) := by decide +kernel
theorem dL_law_305 : decode bL_law 305 = .ok (.iadd, 1) := by decide +kernel
theorem dL_law_306 : decode bL_law 306 = .ok (.iaload, 1) := by decide +kernel
theorem dL_law_307 : decode bL_law 307 = .ok (.invokevirtual 34, 3) := by decide +kernel
theorem dL_law_310 : decode bL_law 310 = .ok (.pop, 1) := by decide +kernel
theorem dL_law_311 : decode bL_law 311 = .ok (.goto 244, 3) := by decide +kernel
theorem dL_law_314 : decode bL_law 314 = .ok (.aload_n 1, 1) := by decide +kernel
theorem dL_law_315 : decode bL_law 315 = .ok (.aload_n 0, 1) := by decide +kernel
theorem dL_law_316 : decode bL_law 316 = .ok (.iload_n 3, 1) := by decide +kernel
theorem dL_law_317 : decode bL_law 317 = .ok (.iconst 1, 1) := by decide +kernel
theorem dL_law_318 : decode bL_law 318 = .ok (.iadd, 1) := by decide +kernel
theorem dL_law_319 : decode bL_law 319 = .ok (.iaload, 1) := by decide +kernel
theorem dL_law_320 : decode bL_law 320 = .ok (.aload_n 0, 1) := by decide +kernel
theorem dL_law_321 : decode bL_law 321 = .ok (.iload_n 3, 1) := by decide +kernel
theorem dL_law_322 : decode bL_law 322 = .ok (.iconst 2, 1) := by decide +kernel
theorem dL_law_323 : decode bL_law 323 = .ok (.iadd, 1) := by decide +kernel
theorem dL_law_324 : decode bL_law 324 = .ok (.iaload, 1) := by decide +kernel
theorem dL_law_325 : decode bL_law 325 = .ok (.aload_n 0, 1) := by decide +kernel
theorem dL_law_326 : decode bL_law 326 = .ok (.iload_n 3, 1) := by decide +kernel
theorem dL_law_327 : decode bL_law 327 = .ok (.iconst 3, 1) := by decide +kernel
theorem dL_law_328 : decode bL_law 328 = .ok (.iadd, 1) := by decide +kernel
theorem dL_law_329 : decode bL_law 329 = .ok (.iaload, 1) := by decide +kernel
theorem dL_law_330 : decode bL_law 330 = .ok (.invokevirtual 35, 3) := by decide +kernel
theorem dL_law_333 : decode bL_law 333 = .ok (.pop, 1) := by decide +kernel
theorem dL_law_334 : decode bL_law 334 = .ok (.aload_n 2, 1) := by decide +kernel
theorem dL_law_335 : decode bL_law 335 = .ok (.aload_n 0, 1) := by decide +kernel
theorem dL_law_336 : decode bL_law 336 = .ok (.iload_n 3, 1) := by decide +kernel
theorem dL_law_337 : decode bL_law 337 = .ok (.iconst 1, 1) := by decide +kernel
theorem dL_law_338 : decode bL_law 338 = .ok (.iadd, 1) := by decide +kernel
theorem dL_law_339 : decode bL_law 339 = .ok (.iaload, 1) := by decide +kernel
theorem dL_law_340 : decode bL_law 340 = .ok (.aload_n 0, 1) := by decide +kernel
theorem dL_law_341 : decode bL_law 341 = .ok (.iload_n 3, 1) := by decide +kernel
theorem dL_law_342 : decode bL_law 342 = .ok (.iconst 2, 1) := by decide +kernel
theorem dL_law_343 : decode bL_law 343 = .ok (.iadd, 1) := by decide +kernel
theorem dL_law_344 : decode bL_law 344 = .ok (.iaload, 1) := by decide +kernel
theorem dL_law_345 : decode bL_law 345 = .ok (.aload_n 0, 1) := by decide +kernel
theorem dL_law_346 : decode bL_law 346 = .ok (.iload_n 3, 1) := by decide +kernel
theorem dL_law_347 : decode bL_law 347 = .ok (.iconst 3, 1) := by decide +kernel
theorem dL_law_348 : decode bL_law 348 = .ok (.iadd, 1) := by decide +kernel
theorem dL_law_349 : decode bL_law 349 = .ok (.iaload, 1) := by decide +kernel
theorem dL_law_350 : decode bL_law 350 = .ok (.invokevirtual 39, 3) := by decide +kernel
theorem dL_law_353 : decode bL_law 353 = .ok (.pop, 1) := by decide +kernel
theorem dL_law_354 : decode bL_law 354 = .ok (.goto 201, 3) := by decide +kernel
theorem dL_law_357 : decode bL_law 357 = .ok (.aload_n 1, 1) := by decide +kernel
theorem dL_law_358 : decode bL_law 358 = .ok (.aload_n 0, 1) := by decide +kernel
theorem dL_law_359 : decode bL_law 359 = .ok (.iload_n 3, 1) := by decide +kernel
theorem dL_law_360 : decode bL_law 360 = .ok (.iconst 1, 1) := by decide +kernel
theorem dL_law_361 : decode bL_law 361 = .ok (.iadd, 1) := by decide +kernel
theorem dL_law_362 : decode bL_law 362 = .ok (.iaload, 1) := by decide +kernel
theorem dL_law_363 : decode bL_law 363 = .ok (.invokevirtual 40, 3) := by decide +kernel
theorem dL_law_366 : decode bL_law 366 = .ok (.aload_n 2, 1) := by decide +kernel
theorem dL_law_367 : decode bL_law 367 = .ok (.aload_n 0, 1) := by decide +kernel
theorem dL_law_368 : decode bL_law 368 = .ok (.iload_n 3, 1) := by decide +kernel
theorem dL_law_369 : decode bL_law 369 = .ok (.iconst 1, 1) := by decide +kernel
theorem dL_law_370 : decode bL_law 370 = .ok (.iadd, 1) := by decide +kernel
theorem dL_law_371 : decode bL_law 371 = .ok (.iaload, 1) := by decide +kernel
theorem dL_law_372 : decode bL_law 372 = .ok (.invokevirtual 44, 3) := by decide +kernel
theorem dL_law_375 : decode bL_law 375 = .ok (.if_icmp .eq 180, 3) := by decide +kernel
theorem dL_law_378 : decode bL_law 378 = .ok (.iconst 0, 1) := by decide +kernel
theorem dL_law_379 : decode bL_law 379 = .ok (.ireturn, 1) := by decide +kernel
theorem dL_law_380 : decode bL_law 380 = .ok (.aload_n 1, 1) := by decide +kernel
theorem dL_law_381 : decode bL_law 381 = .ok (.aload_n 0, 1) := by decide +kernel
theorem dL_law_382 : decode bL_law 382 = .ok (.iload_n 3, 1) := by decide +kernel
theorem dL_law_383 : decode bL_law 383 = .ok (.iconst 1, 1) := by decide +kernel
theorem dL_law_384 : decode bL_law 384 = .ok (.iadd, 1) := by decide +kernel
theorem dL_law_385 : decode bL_law 385 = .ok (.iaload, 1) := by decide +kernel
theorem dL_law_386 : decode bL_law 386 = .ok (.invokevirtual 45, 3) := by decide +kernel
theorem dL_law_389 : decode bL_law 389 = .ok (.pop2, 1) := by decide +kernel
theorem dL_law_390 : decode bL_law 390 = .ok (.aload_n 2, 1) := by decide +kernel
theorem dL_law_391 : decode bL_law 391 = .ok (.aload_n 0, 1) := by decide +kernel
theorem dL_law_392 : decode bL_law 392 = .ok (.iload_n 3, 1) := by decide +kernel
theorem dL_law_393 : decode bL_law 393 = .ok (.iconst 1, 1) := by decide +kernel
theorem dL_law_394 : decode bL_law 394 = .ok (.iadd, 1) := by decide +kernel
theorem dL_law_395 : decode bL_law 395 = .ok (.iaload, 1) := by decide +kernel
theorem dL_law_396 : decode bL_law 396 = .ok (.invokevirtual 49, 3) := by decide +kernel
theorem dL_law_399 : decode bL_law 399 = .ok (.pop2, 1) := by decide +kernel
theorem dL_law_400 : decode bL_law 400 = .ok (.goto 155, 3) := by decide +kernel
theorem dL_law_403 : decode bL_law 403 = .ok (.aload_n 1, 1) := by decide +kernel
theorem dL_law_404 : decode bL_law 404 = .ok (.aload_n 0, 1) := by decide +kernel
theorem dL_law_405 : decode bL_law 405 = .ok (.iload_n 3, 1) := by decide +kernel
theorem dL_law_406 : decode bL_law 406 = .ok (.iconst 1, 1) := by decide +kernel
theorem dL_law_407 : decode bL_law 407 = .ok (.iadd, 1) := by decide +kernel
theorem dL_law_408 : decode bL_law 408 = .ok (.iaload, 1) := by decide +kernel
theorem dL_law_409 : decode bL_law 409 = .ok (.invokevirtual 50, 3) := by decide +kernel
theorem dL_law_412 : decode bL_law 412 = .ok (.pop, 1) := by decide +kernel
theorem dL_law_413 : decode bL_law 413 = .ok (.aload_n 2, 1) := by decide +kernel
theorem dL_law_414 : decode bL_law 414 = .ok (.aload_n 0, 1) := by decide +kernel
theorem dL_law_415 : decode bL_law 415 = .ok (.iload_n 3, 1) := by decide +kernel
theorem dL_law_416 : decode bL_law 416 = .ok (.iconst 1, 1) := by decide +kernel
theorem dL_law_417 : decode bL_law 417 = .ok (.iadd, 1) := by decide +kernel
theorem dL_law_418 : decode bL_law 418 = .ok (.iaload, 1) := by decide +kernel
theorem dL_law_419 : decode bL_law 419 = .ok (.invokevirtual 53, 3) := by decide +kernel
theorem dL_law_422 : decode bL_law 422 = .ok (.pop, 1) := by decide +kernel
theorem dL_law_423 : decode bL_law 423 = .ok (.goto 132, 3) := by decide +kernel
theorem dL_law_426 : decode bL_law 426 = .ok (.aload_n 1, 1) := by decide +kernel
theorem dL_law_427 : decode bL_law 427 = .ok (.aload_n 0, 1) := by decide +kernel
theorem dL_law_428 : decode bL_law 428 = .ok (.iload_n 3, 1) := by decide +kernel
theorem dL_law_429 : decode bL_law 429 = .ok (.iconst 1, 1) := by decide +kernel
theorem dL_law_430 : decode bL_law 430 = .ok (.iadd, 1) := by decide +kernel
theorem dL_law_431 : decode bL_law 431 = .ok (.iaload, 1) := by decide +kernel
theorem dL_law_432 : decode bL_law 432 = .ok (.aload_n 0, 1) := by decide +kernel
theorem dL_law_433 : decode bL_law 433 = .ok (.iload_n 3, 1) := by decide +kernel
theorem dL_law_434 : decode bL_law 434 = .ok (.iconst 2, 1) := by decide +kernel
theorem dL_law_435 : decode bL_law 435 = .ok (.iadd, 1) := by decide +kernel
theorem dL_law_436 : decode bL_law 436 = .ok (.iaload, 1) := by decide +kernel
theorem dL_law_437 : decode bL_law 437 = .ok (.aload_n 0, 1) := by decide +kernel
theorem dL_law_438 : decode bL_law 438 = .ok (.iload_n 3, 1) := by decide +kernel
theorem dL_law_439 : decode bL_law 439 = .ok (.iconst 3, 1) := by decide +kernel
theorem dL_law_440 : decode bL_law 440 = .ok (.iadd, 1) := by decide +kernel
theorem dL_law_441 : decode bL_law 441 = .ok (.iaload, 1) := by decide +kernel
theorem dL_law_442 : decode bL_law 442 = .ok (.invokevirtual 54, 3) := by decide +kernel
theorem dL_law_445 : decode bL_law 445 = .ok (.pop, 1) := by decide +kernel
theorem dL_law_446 : decode bL_law 446 = .ok (.aload_n 2, 1) := by decide +kernel
theorem dL_law_447 : decode bL_law 447 = .ok (.aload_n 0, 1) := by decide +kernel
theorem dL_law_448 : decode bL_law 448 = .ok (.iload_n 3, 1) := by decide +kernel
theorem dL_law_449 : decode bL_law 449 = .ok (.iconst 1, 1) := by decide +kernel
theorem dL_law_450 : decode bL_law 450 = .ok (.iadd, 1) := by decide +kernel
theorem dL_law_451 : decode bL_law 451 = .ok (.iaload, 1) := by decide +kernel
theorem dL_law_452 : decode bL_law 452 = .ok (.aload_n 0, 1) := by decide +kernel
theorem dL_law_453 : decode bL_law 453 = .ok (.iload_n 3, 1) := by decide +kernel
theorem dL_law_454 : decode bL_law 454 = .ok (.iconst 2, 1) := by decide +kernel
theorem dL_law_455 : decode bL_law 455 = .ok (.iadd, 1) := by decide +kernel
theorem dL_law_456 : decode bL_law 456 = .ok (.iaload, 1) := by decide +kernel
theorem dL_law_457 : decode bL_law 457 = .ok (.aload_n 0, 1) := by decide +kernel
theorem dL_law_458 : decode bL_law 458 = .ok (.iload_n 3, 1) := by decide +kernel
theorem dL_law_459 : decode bL_law 459 = .ok (.iconst 3, 1) := by decide +kernel
theorem dL_law_460 : decode bL_law 460 = .ok (.iadd, 1) := by decide +kernel
theorem dL_law_461 : decode bL_law 461 = .ok (.iaload, 1) := by decide +kernel
theorem dL_law_462 : decode bL_law 462 = .ok (.invokevirtual 58, 3) := by decide +kernel
theorem dL_law_465 : decode bL_law 465 = .ok (.pop, 1) := by decide +kernel
theorem dL_law_466 : decode bL_law 466 = .ok (.goto 89, 3) := by decide +kernel
theorem dL_law_469 : decode bL_law 469 = .ok (.aload_n 1, 1) := by decide +kernel
theorem dL_law_470 : decode bL_law 470 = .ok (.aload_n 0, 1) := by decide +kernel
theorem dL_law_471 : decode bL_law 471 = .ok (.iload_n 3, 1) := by decide +kernel
theorem dL_law_472 : decode bL_law 472 = .ok (.iconst 1, 1) := by decide +kernel
theorem dL_law_473 : decode bL_law 473 = .ok (.iadd, 1) := by decide +kernel
theorem dL_law_474 : decode bL_law 474 = .ok (.iaload, 1) := by decide +kernel
theorem dL_law_475 : decode bL_law 475 = .ok (.aload_n 0, 1) := by decide +kernel
theorem dL_law_476 : decode bL_law 476 = .ok (.iload_n 3, 1) := by decide +kernel
theorem dL_law_477 : decode bL_law 477 = .ok (.iconst 2, 1) := by decide +kernel
theorem dL_law_478 : decode bL_law 478 = .ok (.iadd, 1) := by decide +kernel
theorem dL_law_479 : decode bL_law 479 = .ok (.iaload, 1) := by decide +kernel
theorem dL_law_480 : decode bL_law 480 = .ok (.aload_n 0, 1) := by decide +kernel
theorem dL_law_481 : decode bL_law 481 = .ok (.iload_n 3, 1) := by decide +kernel
theorem dL_law_482 : decode bL_law 482 = .ok (.iconst 3, 1) := by decide +kernel
theorem dL_law_483 : decode bL_law 483 = .ok (.iadd, 1) := by decide +kernel
theorem dL_law_484 : decode bL_law 484 = .ok (.iaload, 1) := by decide +kernel
theorem dL_law_485 : decode bL_law 485 = .ok (.aload_n 0, 1) := by decide +kernel
theorem dL_law_486 : decode bL_law 486 = .ok (.iload_n 3, 1) := by decide +kernel
theorem dL_law_487 : decode bL_law 487 = .ok (.iconst 4, 1) := by decide +kernel
theorem dL_law_488 : decode bL_law 488 = .ok (.iadd, 1) := by decide +kernel
theorem dL_law_489 : decode bL_law 489 = .ok (.iaload, 1) := by decide +kernel
theorem dL_law_490 : decode bL_law 490 = .ok (.invokevirtual 59, 3) := by decide +kernel
theorem dL_law_493 : decode bL_law 493 = .ok (.pop, 1) := by decide +kernel
theorem dL_law_494 : decode bL_law 494 = .ok (.aload_n 2, 1) := by decide +kernel
theorem dL_law_495 : decode bL_law 495 = .ok (.aload_n 0, 1) := by decide +kernel
theorem dL_law_496 : decode bL_law 496 = .ok (.iload_n 3, 1) := by decide +kernel
theorem dL_law_497 : decode bL_law 497 = .ok (.iconst 1, 1) := by decide +kernel
theorem dL_law_498 : decode bL_law 498 = .ok (.iadd, 1) := by decide +kernel
theorem dL_law_499 : decode bL_law 499 = .ok (.iaload, 1) := by decide +kernel
theorem dL_law_500 : decode bL_law 500 = .ok (.aload_n 0, 1) := by decide +kernel
theorem dL_law_501 : decode bL_law 501 = .ok (.iload_n 3, 1) := by decide +kernel
theorem dL_law_502 : decode bL_law 502 = .ok (.iconst 2, 1) := by decide +kernel
theorem dL_law_503 : decode bL_law 503 = .ok (.iadd, 1) := by decide +kernel
theorem dL_law_504 : decode bL_law 504 = .ok (.iaload, 1) := by decide +kernel
theorem dL_law_505 : decode bL_law 505 = .ok (.aload_n 0, 1) := by decide +kernel
theorem dL_law_506 : decode bL_law 506 = .ok (.iload_n 3, 1) := by decide +kernel
theorem dL_law_507 : decode bL_law 507 = .ok (.iconst 3, 1) := by decide +kernel
theorem dL_law_508 : decode bL_law 508 = .ok (.iadd, 1) := by decide +kernel
theorem dL_law_509 : decode bL_law 509 = .ok (.iaload, 1) := by decide +kernel
theorem dL_law_510 : decode bL_law 510 = .ok (.aload_n 0, 1) := by decide +kernel
theorem dL_law_511 : decode bL_law 511 = .ok (.iload_n 3, 1) := by decide +kernel
theorem dL_law_512 : decode bL_law 512 = .ok (.iconst 4, 1) := by decide +kernel
theorem dL_law_513 : decode bL_law 513 = .ok (.iadd, 1) := by decide +kernel
theorem dL_law_514 : decode bL_law 514 = .ok (.iaload, 1) := by decide +kernel
theorem dL_law_515 : decode bL_law 515 = .ok (.invokevirtual 63, 3) := by decide +kernel
theorem dL_law_518 : decode bL_law 518 = .ok (.pop, 1) := by decide +kernel
theorem dL_law_519 : decode bL_law 519 = .ok (.goto 36, 3) := by decide +kernel
theorem dL_law_522 : decode bL_law 522 = .ok (.aload_n 1, 1) := by decide +kernel
theorem dL_law_523 : decode bL_law 523 = .ok (.aload_n 0, 1) := by decide +kernel
theorem dL_law_524 : decode bL_law 524 = .ok (.iload_n 3, 1) := by decide +kernel
theorem dL_law_525 : decode bL_law 525 = .ok (.iconst 1, 1) := by decide +kernel
theorem dL_law_526 : decode bL_law 526 = .ok (.iadd, 1) := by decide +kernel
theorem dL_law_527 : decode bL_law 527 = .ok (.iaload, 1) := by decide +kernel
theorem dL_law_528 : decode bL_law 528 = .ok (.aload_n 0, 1) := by decide +kernel
theorem dL_law_529 : decode bL_law 529 = .ok (.iload_n 3, 1) := by decide +kernel
theorem dL_law_530 : decode bL_law 530 = .ok (.iconst 2, 1) := by decide +kernel
theorem dL_law_531 : decode bL_law 531 = .ok (.iadd, 1) := by decide +kernel
theorem dL_law_532 : decode bL_law 532 = .ok (.iaload, 1) := by decide +kernel
theorem dL_law_533 : decode bL_law 533 = .ok (.invokevirtual 64, 3) := by decide +kernel
theorem dL_law_536 : decode bL_law 536 = .ok (.pop, 1) := by decide +kernel
theorem dL_law_537 : decode bL_law 537 = .ok (.aload_n 2, 1) := by decide +kernel
theorem dL_law_538 : decode bL_law 538 = .ok (.aload_n 0, 1) := by decide +kernel
theorem dL_law_539 : decode bL_law 539 = .ok (.iload_n 3, 1) := by decide +kernel
theorem dL_law_540 : decode bL_law 540 = .ok (.iconst 1, 1) := by decide +kernel
theorem dL_law_541 : decode bL_law 541 = .ok (.iadd, 1) := by decide +kernel
theorem dL_law_542 : decode bL_law 542 = .ok (.iaload, 1) := by decide +kernel
theorem dL_law_543 : decode bL_law 543 = .ok (.aload_n 0, 1) := by decide +kernel
theorem dL_law_544 : decode bL_law 544 = .ok (.iload_n 3, 1) := by decide +kernel
theorem dL_law_545 : decode bL_law 545 = .ok (.iconst 2, 1) := by decide +kernel
theorem dL_law_546 : decode bL_law 546 = .ok (.iadd, 1) := by decide +kernel
theorem dL_law_547 : decode bL_law 547 = .ok (.iaload, 1) := by decide +kernel
theorem dL_law_548 : decode bL_law 548 = .ok (.invokevirtual 67, 3) := by decide +kernel
theorem dL_law_551 : decode bL_law 551 = .ok (.pop, 1) := by decide +kernel
theorem dL_law_552 : decode bL_law 552 = .ok (.goto 3, 3) := by decide +kernel
theorem dL_law_555 : decode bL_law 555 = .ok (.iinc 3 5, 3) := by decide +kernel
theorem dL_law_558 : decode bL_law 558 = .ok (.goto (-540), 3) := by decide +kernel
theorem dL_law_561 : decode bL_law 561 = .ok (.iconst 1, 1) := by decide +kernel
theorem dL_law_562 : decode bL_law 562 = .ok (.ireturn, 1) := by decide +kernel
