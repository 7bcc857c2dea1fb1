/-! the law's code; written by wip/tools/gen_law.py -/
theorem d_law_0 : decode code 0 = .ok (.new 7, 3) := by decide +kernel
theorem d_law_3 : decode code 3 = .ok (.dup, 1) := by decide +kernel
theorem d_law_4 : decode code 4 = .ok (.invokespecial 9, 3) := by decide +kernel
theorem d_law_7 : decode code 7 = .ok (.astore_n 1, 1) := by decide +kernel
theorem d_law_8 : decode code 8 = .ok (.new 10, 3) := by decide +kernel
theorem d_law_11 : decode code 11 = .ok (.dup, 1) := by decide +kernel
theorem d_law_12 : decode code 12 = .ok (.invokespecial 12, 3) := by decide +kernel
theorem d_law_15 : decode code 15 = .ok (.astore_n 2, 1) := by decide +kernel
theorem d_law_16 : decode code 16 = .ok (.iconst 0, 1) := by decide +kernel
theorem d_law_17 : decode code 17 = .ok (.istore_n 3, 1) := by decide +kernel
theorem d_law_18 : decode code 18 = .ok (.iload_n 3, 1) := by decide +kernel
theorem d_law_19 : decode code 19 = .ok (.aload_n 0, 1) := by decide +kernel
theorem d_law_20 : decode code 20 = .ok (.arraylength, 1) := by decide +kernel
theorem d_law_21 : decode code 21 = .ok (.bipush 6, 2) := by decide +kernel
theorem d_law_23 : decode code 23 = .ok (.isub, 1) := by decide +kernel
theorem d_law_24 : decode code 24 = .ok (.if_icmp .gt 593, 3) := by decide +kernel
theorem d_law_27 : decode code 27 = .ok (.aload_n 0, 1) := by decide +kernel
theorem d_law_28 : decode code 28 = .ok (.iload_n 3, 1) := by decide +kernel
theorem d_law_29 : decode code 29 = .ok (.iaload, 1) := by decide +kernel
theorem d_law_30 : decode code 30 = .ok (.bipush 31, 2) := by decide +kernel
theorem d_law_32 : decode code 32 = .ok (.iand, 1) := by decide +kernel
theorem d_law_33 : decode code 33 = .ok (.tableswitch 578 0 17 #[87, 150, 174, 207, 256, 279, 302, 315, 328, 351, 374, 397, 410, 443, 466, 489, 522, 555], 87) := by decide +kernel
theorem d_law_120 : decode code 120 = .ok (.aload_n 1, 1) := by decide +kernel
theorem d_law_121 : decode code 121 = .ok (.aload_n 0, 1) := by decide +kernel
theorem d_law_122 : decode code 122 = .ok (.iload_n 3, 1) := by decide +kernel
theorem d_law_123 : decode code 123 = .ok (.iconst 1, 1) := by decide +kernel
theorem d_law_124 : decode code 124 = .ok (.iadd, 1) := by decide +kernel
theorem d_law_125 : decode code 125 = .ok (.iaload, 1) := by decide +kernel
theorem d_law_126 : decode code 126 = .ok (.aload_n 0, 1) := by decide +kernel
theorem d_law_127 : decode code 127 = .ok (.iload_n 3, 1) := by decide +kernel
theorem d_law_128 : decode code 128 = .ok (.iconst 2, 1) := by decide +kernel
theorem d_law_129 : decode code 129 = .ok (.iadd, 1) := by decide +kernel
theorem d_law_130 : decode code 130 = .ok (.iaload, 1) := by decide +kernel
theorem d_law_131 : decode code 131 = .ok (.aload_n 0, 1) := by decide +kernel
theorem d_law_132 : decode code 132 = .ok (.iload_n 3, 1) := by decide +kernel
theorem d_law_133 : decode code 133 = .ok (.iconst 3, 1) := by decide +kernel
theorem d_law_134 : decode code 134 = .ok (.iadd, 1) := by decide +kernel
theorem d_law_135 : decode code 135 = .ok (.iaload, 1) := by decide +kernel
theorem d_law_136 : decode code 136 = .ok (.aload_n 0, 1) := by decide +kernel
theorem d_law_137 : decode code 137 = .ok (.iload_n 3, 1) := by decide +kernel
theorem d_law_138 : decode code 138 = .ok (.iconst 4, 1) := by decide +kernel
theorem d_law_139 : decode code 139 = .ok (.iadd, 1) := by decide +kernel
theorem d_law_140 : decode code 140 = .ok (.iaload, 1) := by decide +kernel
theorem d_law_141 : decode code 141 = .ok (.aload_n 0, 1) := by decide +kernel
theorem d_law_142 : decode code 142 = .ok (.iload_n 3, 1) := by decide +kernel
theorem d_law_143 : decode code 143 = .ok (.iconst 5, 1) := by decide +kernel
theorem d_law_144 : decode code 144 = .ok (.iadd, 1) := by decide +kernel
theorem d_law_145 : decode code 145 = .ok (.iaload, 1) := by decide +kernel
theorem d_law_146 : decode code 146 = .ok (.invokevirtual 13, 3) := by decide +kernel
theorem d_law_149 : decode code 149 = .ok (.aload_n 2, 1) := by decide +kernel
theorem d_law_150 : decode code 150 = .ok (.aload_n 0, 1) := by decide +kernel
theorem d_law_151 : decode code 151 = .ok (.iload_n 3, 1) := by decide +kernel
theorem d_law_152 : decode code 152 = .ok (.iconst 1, 1) := by decide +kernel
theorem d_law_153 : decode code 153 = .ok (.iadd, 1) := by decide +kernel
theorem d_law_154 : decode code 154 = .ok (.iaload, 1) := by decide +kernel
theorem d_law_155 : decode code 155 = .ok (.aload_n 0, 1) := by decide +kernel
theorem d_law_156 : decode code 156 = .ok (.iload_n 3, 1) := by decide +kernel
theorem d_law_157 : decode code 157 = .ok (.iconst 2, 1) := by decide +kernel
theorem d_law_158 : decode code 158 = .ok (.iadd, 1) := by decide +kernel
theorem d_law_159 : decode code 159 = .ok (.iaload, 1) := by decide +kernel
theorem d_law_160 : decode code 160 = .ok (.aload_n 0, 1) := by decide +kernel
theorem d_law_161 : decode code 161 = .ok (.iload_n 3, 1) := by decide +kernel
theorem d_law_162 : decode code 162 = .ok (.iconst 3, 1) := by decide +kernel
theorem d_law_163 : decode code 163 = .ok (.iadd, 1) := by decide +kernel
theorem d_law_164 : decode code 164 = .ok (.iaload, 1) := by decide +kernel
theorem d_law_165 : decode code 165 = .ok (.aload_n 0, 1) := by decide +kernel
theorem d_law_166 : decode code 166 = .ok (.iload_n 3, 1) := by decide +kernel
theorem d_law_167 : decode code 167 = .ok (.iconst 4, 1) := by decide +kernel
theorem d_law_168 : decode code 168 = .ok (.iadd, 1) := by decide +kernel
theorem d_law_169 : decode code 169 = .ok (.iaload, 1) := by decide +kernel
theorem d_law_170 : decode code 170 = .ok (.aload_n 0, 1) := by decide +kernel
theorem d_law_171 : decode code 171 = .ok (.iload_n 3, 1) := by decide +kernel
theorem d_law_172 : decode code 172 = .ok (.iconst 5, 1) := by decide +kernel
theorem d_law_173 : decode code 173 = .ok (.iadd, 1) := by decide +kernel
theorem d_law_174 : decode code 174 = .ok (.iaload, 1) := by decide +kernel
theorem d_law_175 : decode code 175 = .ok (.invokevirtual 17, 3) := by decide +kernel
theorem d_law_178 : decode code 178 = .ok (.if_icmp .eq 433, 3) := by decide +kernel
theorem d_law_181 : decode code 181 = .ok (.iconst 0, 1) := by decide +kernel
theorem d_law_182 : decode code 182 = .ok (.ireturn, 1) := by decide +kernel
theorem d_law_183 : decode code 183 = .ok (.aload_n 1, 1) := by decide +kernel
theorem d_law_184 : decode code 184 = .ok (.aload_n 0, 1) := by decide +kernel
theorem d_law_185 : decode code 185 = .ok (.iload_n 3, 1) := by decide +kernel
theorem d_law_186 : decode code 186 = .ok (.iconst 1, 1) := by decide +kernel
theorem d_law_187 : decode code 187 = .ok (.iadd, 1) := by decide +kernel
theorem d_law_188 : decode code 188 = .ok (.iaload, 1) := by decide +kernel
theorem d_law_189 : decode code 189 = .ok (.invokevirtual 18, 3) := by decide +kernel
theorem d_law_192 : decode code 192 = .ok (.aload_n 2, 1) := by decide +kernel
theorem d_law_193 : decode code 193 = .ok (.aload_n 0, 1) := by decide +kernel
theorem d_law_194 : decode code 194 = .ok (.iload_n 3, 1) := by decide +kernel
theorem d_law_195 : decode code 195 = .ok (.iconst 1, 1) := by decide +kernel
theorem d_law_196 : decode code 196 = .ok (.iadd, 1) := by decide +kernel
theorem d_law_197 : decode code 197 = .ok (.iaload, 1) := by decide +kernel
theorem d_law_198 : decode code 198 = .ok (.invokevirtual 22, 3) := by decide +kernel
theorem d_law_201 : decode code 201 = .ok (.lcmp, 1) := by decide +kernel
theorem d_law_202 : decode code 202 = .ok (.ifCond .eq 409, 3) := by decide +kernel
theorem d_law_205 : decode code 205 = .ok (.iconst 0, 1) := by decide +kernel
theorem d_law_206 : decode code 206 = .ok (.ireturn, 1) := by decide +kernel
theorem d_law_207 : decode code 207 = .ok (.aload_n 1, 1) := by decide +kernel
theorem d_law_208 : decode code 208 = .ok (.aload_n 0, 1) := by decide +kernel
theorem d_law_209 : decode code 209 = .ok (.iload_n 3, 1) := by decide +kernel
theorem d_law_210 : decode code 210 = .ok (.iconst 1, 1) := by decide +kernel
theorem d_law_211 : decode code 211 = .ok (.iadd, 1) := by decide +kernel
theorem d_law_212 : decode code 212 = .ok (.iaload, 1) := by decide +kernel
theorem d_law_213 : decode code 213 = .ok (.aload_n 0, 1) := by decide +kernel
theorem d_law_214 : decode code 214 = .ok (.iload_n 3, 1) := by decide +kernel
theorem d_law_215 : decode code 215 = .ok (.iconst 2, 1) := by decide +kernel
theorem d_law_216 : decode code 216 = .ok (.iadd, 1) := by decide +kernel
theorem d_law_217 : decode code 217 = .ok (.iaload, 1) := by decide +kernel
theorem d_law_218 : decode code 218 = .ok (.invokevirtual 23, 3) := by decide +kernel
theorem d_law_221 : decode code 221 = .ok (.aload_n 2, 1) := by decide +kernel
theorem d_law_222 : decode code 222 = .ok (.aload_n 0, 1) := by decide +kernel
theorem d_law_223 : decode code 223 = .ok (.iload_n 3, 1) := by decide +kernel
theorem d_law_224 : decode code 224 = .ok (.iconst 1, 1) := by decide +kernel
theorem d_law_225 : decode code 225 = .ok (.iadd, 1) := by decide +kernel
theorem d_law_226 : decode code 226 = .ok (.iaload, 1) := by decide +kernel
theorem d_law_227 : decode code 227 = .ok (.aload_n 0, 1) := by decide +kernel
theorem d_law_228 : decode code 228 = .ok (.iload_n 3, 1) := by decide +kernel
theorem d_law_229 : decode code 229 = .ok (.iconst 2, 1) := by decide +kernel
theorem d_law_230 : decode code 230 = .ok (.iadd, 1) := by decide +kernel
theorem d_law_231 : decode code 231 = .ok (.iaload, 1) := by decide +kernel
theorem d_law_232 : decode code 232 = .ok (.invokevirtual 27, 3) := by decide +kernel
theorem d_law_235 : decode code 235 = .ok (.if_icmp .eq 376, 3) := by decide +kernel
theorem d_law_238 : decode code 238 = .ok (.iconst 0, 1) := by decide +kernel
theorem d_law_239 : decode code 239 = .ok (.ireturn, 1) := by decide +kernel
theorem d_law_240 : decode code 240 = .ok (.aload_n 1, 1) := by decide +kernel
theorem d_law_241 : decode code 241 = .ok (.aload_n 0, 1) := by decide +kernel
theorem d_law_242 : decode code 242 = .ok (.iload_n 3, 1) := by decide +kernel
theorem d_law_243 : decode code 243 = .ok (.iconst 1, 1) := by decide +kernel
theorem d_law_244 : decode code 244 = .ok (.iadd, 1) := by decide +kernel
theorem d_law_245 : decode code 245 = .ok (.iaload, 1) := by decide +kernel
theorem d_law_246 : decode code 246 = .ok (.aload_n 0, 1) := by decide +kernel
theorem d_law_247 : decode code 247 = .ok (.iload_n 3, 1) := by decide +kernel
theorem d_law_248 : decode code 248 = .ok (.iconst 2, 1) := by decide +kernel
theorem d_law_249 : decode code 249 = .ok (.iadd, 1) := by decide +kernel
theorem d_law_250 : decode code 250 = .ok (.iaload, 1) := by decide +kernel
theorem d_law_251 : decode code 251 = .ok (.ifCond .eq 7, 3) := by decide +kernel
theorem d_law_254 : decode code 254 = .ok (.iconst 1, 1) := by decide +kernel
theorem d_law_255 : decode code 255 = .ok (.goto 4, 3) := by decide +kernel
theorem d_law_258 : decode code 258 = .ok (.iconst 0, 1) := by decide +kernel
theorem d_law_259 : decode code 259 = .ok (.invokevirtual 28, 3) := by decide +kernel
theorem d_law_262 : decode code 262 = .ok (.aload_n 2, 1) := by decide +kernel
theorem d_law_263 : decode code 263 = .ok (.aload_n 0, 1) := by decide +kernel
theorem d_law_264 : decode code 264 = .ok (.iload_n 3, 1) := by decide +kernel
theorem d_law_265 : decode code 265 = .ok (.iconst 1, 1) := by decide +kernel
theorem d_law_266 : decode code 266 = .ok (.iadd, 1) := by decide +kernel
theorem d_law_267 : decode code 267 = .ok (.iaload, 1) := by decide +kernel
theorem d_law_268 : decode code 268 = .ok (.aload_n 0, 1) := by decide +kernel
theorem d_law_269 : decode code 269 = .ok (.iload_n 3, 1) := by decide +kernel
theorem d_law_270 : decode code 270 = .ok (.iconst 2, 1) := by decide +kernel
theorem d_law_271 : decode code 271 = .ok (.iadd, 1) := by decide +kernel
theorem d_law_272 : decode code 272 = .ok (.iaload, 1) := by decide +kernel
theorem d_law_273 : decode code 273 = .ok (.ifCond .eq 7, 3) := by decide +kernel
theorem d_law_276 : decode code 276 = .ok (.iconst 1, 1) := by decide +kernel
theorem d_law_277 : decode code 277 = .ok (.goto 4, 3) := by decide +kernel
theorem d_law_280 : decode code 280 = .ok (.iconst 0, 1) := by decide +kernel
theorem d_law_281 : decode code 281 = .ok (.invokevirtual 32, 3) := by decide +kernel
theorem d_law_284 : decode code 284 = .ok (.if_icmp .eq 327, 3) := by decide +kernel
theorem d_law_287 : decode code 287 = .ok (.iconst 0, 1) := by decide +kernel
theorem d_law_288 : decode code 288 = .ok (.ireturn, 1) := by decide +kernel
theorem d_law_289 : decode code 289 = .ok (.aload_n 1, 1) := by decide +kernel
theorem d_law_290 : decode code 290 = .ok (.aload_n 0, 1) := by decide +kernel
theorem d_law_291 : decode code 291 = .ok (.iload_n 3, 1) := by decide +kernel
theorem d_law_292 : decode code 292 = .ok (.iconst 1, 1) := by decide +kernel
theorem d_law_293 : decode code 293 = .ok (.iadd, 1) := by decide +kernel
theorem d_law_294 : decode code 294 = .ok (.iaload, 1) := by decide +kernel
theorem d_law_295 : decode code 295 = .ok (.invokevirtual 33, 3) := by decide +kernel
theorem d_law_298 : decode code 298 = .ok (.aload_n 2, 1) := by decide +kernel
theorem d_law_299 : decode code 299 = .ok (.aload_n 0, 1) := by decide +kernel
theorem d_law_300 : decode code 300 = .ok (.iload_n 3, 1) := by decide +kernel
theorem d_law_301 : decode code 301 = .ok (.iconst 1, 1) := by decide +kernel
theorem d_law_302 : decode code 302 = .ok (.iadd, 1) := by decide +kernel
theorem d_law_303 : decode code 303 = .ok (.iaload, 1) := by decide +kernel
theorem d_law_304 : decode code 304 = .ok (.invokevirtual 37, 3) := by decide +kernel
theorem d_law_307 : decode code 307 = .ok (.if_icmp .eq 304, 3) := by decide +kernel
theorem d_law_310 : decode code 310 = .ok (.iconst 0, 1) := by decide +kernel
theorem d_law_311 : decode code 311 = .ok (.ireturn, 1) := by decide +kernel
theorem d_law_312 : decode code 312 = .ok (.aload_n 1, 1) := by decide +kernel
theorem d_law_313 : decode code 313 = .ok (.aload_n 0, 1) := by decide +kernel
theorem d_law_314 : decode code 314 = .ok (.iload_n 3, 1) := by decide +kernel
theorem d_law_315 : decode code 315 = .ok (.iconst 1, 1) := by decide +kernel
theorem d_law_316 : decode code 316 = .ok (.iadd, 1) := by decide +kernel
theorem d_law_317 : decode code 317 = .ok (.iaload, 1) := by decide +kernel
theorem d_law_318 : decode code 318 = .ok (.invokevirtual 38, 3) := by decide +kernel
theorem d_law_321 : decode code 321 = .ok (.aload_n 2, 1) := by decide +kernel
theorem d_law_322 : decode code 322 = .ok (.aload_n 0, 1) := by decide +kernel
theorem d_law_323 : decode code 323 = .ok (.iload_n 3, 1) := by decide +kernel
theorem d_law_324 : decode code 324 = .ok (.iconst 1, 1) := by decide +kernel
theorem d_law_325 : decode code 325 = .ok (.iadd, 1) := by decide +kernel
theorem d_law_326 : decode code 326 = .ok (.iaload, 1) := by decide +kernel
theorem d_law_327 : decode code 327 = .ok (.invokevirtual 41, 3) := by decide +kernel
theorem d_law_330 : decode code 330 = .ok (.if_icmp .eq 281, 3) := by decide +kernel
theorem d_law_333 : decode code 333 = .ok (.iconst 0, 1) := by decide +kernel
theorem d_law_334 : decode code 334 = .ok (.ireturn, 1) := by decide +kernel
theorem d_law_335 : decode code 335 = .ok (.aload_n 1, 1) := by decide +kernel
theorem d_law_336 : decode code 336 = .ok (.invokevirtual 42, 3) := by decide +kernel
theorem d_law_339 : decode code 339 = .ok (.aload_n 2, 1) := by decide +kernel
theorem d_law_340 : decode code 340 = .ok (.invokevirtual 46, 3) := by decide +kernel
theorem d_law_343 : decode code 343 = .ok (.if_icmp .eq 268, 3) := by decide +kernel
theorem d_law_346 : decode code 346 = .ok (.iconst 0, 1) := by decide +kernel
theorem d_law_347 : decode code 347 = .ok (.ireturn, 1) := by decide +kernel
theorem d_law_348 : decode code 348 = .ok (.aload_n 1, 1) := by decide +kernel
theorem d_law_349 : decode code 349 = .ok (.invokevirtual 47, 3) := by decide +kernel
theorem d_law_352 : decode code 352 = .ok (.aload_n 2, 1) := by decide +kernel
theorem d_law_353 : decode code 353 = .ok (.invokevirtual 50, 3) := by decide +kernel
theorem d_law_356 : decode code 356 = .ok (.if_icmp .eq 255, 3) := by decide +kernel
theorem d_law_359 : decode code 359 = .ok (.iconst 0, 1) := by decide +kernel
theorem d_law_360 : decode code 360 = .ok (.ireturn, 1) := by decide +kernel
theorem d_law_361 : decode code 361 = .ok (.aload_n 1, 1) := by decide +kernel
theorem d_law_362 : decode code 362 = .ok (.aload_n 0, 1) := by decide +kernel
theorem d_law_363 : decode code 363 = .ok (.iload_n 3, 1) := by decide +kernel
theorem d_law_364 : decode code 364 = .ok (.iconst 1, 1) := by decide +kernel
theorem d_law_365 : decode code 365 = .ok (.iadd, 1) := by decide +kernel
theorem d_law_366 : decode code 366 = .ok (.iaload, 1) := by decide +kernel
theorem d_law_367 : decode code 367 = .ok (.invokevirtual 51, 3) := by decide +kernel
theorem d_law_370 : decode code 370 = .ok (.aload_n 2, 1) := by decide +kernel
theorem d_law_371 : decode code 371 = .ok (.aload_n 0, 1) := by decide +kernel
theorem d_law_372 : decode code 372 = .ok (.iload_n 3, 1) := by decide +kernel
theorem d_law_373 : decode code 373 = .ok (.iconst 1, 1) := by decide +kernel
theorem d_law_374 : decode code 374 = .ok (.iadd, 1) := by decide +kernel
theorem d_law_375 : decode code 375 = .ok (.iaload, 1) := by decide +kernel
theorem d_law_376 : decode code 376 = .ok (.invokevirtual 54, 3) := by decide +kernel
theorem d_law_379 : decode code 379 = .ok (.if_icmp .eq 232, 3) := by decide +kernel
theorem d_law_382 : decode code 382 = .ok (.iconst 0, 1) := by decide +kernel
theorem d_law_383 : decode code 383 = .ok (.ireturn, 1) := by decide +kernel
theorem d_law_384 : decode code 384 = .ok (.aload_n 1, 1) := by decide +kernel
theorem d_law_385 : decode code 385 = .ok (.aload_n 0, 1) := by decide +kernel
theorem d_law_386 : decode code 386 = .ok (.iload_n 3, 1) := by decide +kernel
theorem d_law_387 : decode code 387 = .ok (.iconst 1, 1) := by decide +kernel
theorem d_law_388 : decode code 388 = .ok (.iadd, 1) := by decide +kernel
theorem d_law_389 : decode code 389 = .ok (.iaload, 1) := by decide +kernel
theorem d_law_390 : decode code 390 = .ok (.invokevirtual 55, 3) := by decide +kernel
theorem d_law_393 : decode code 393 = .ok (.aload_n 2, 1) := by decide +kernel
theorem d_law_394 : decode code 394 = .ok (.aload_n 0, 1) := by decide +kernel
theorem d_law_395 : decode code 395 = .ok (.iload_n 3, 1) := by decide +kernel
theorem d_law_396 : decode code 396 = .ok (.iconst 1, 1) := by decide +kernel
theorem d_law_397 : decode code 397 = .ok (.iadd, 1) := by decide +kernel
theorem d_law_398 : decode code 398 = .ok (.iaload, 1) := by decide +kernel
theorem d_law_399 : decode code 399 = .ok (.invokevirtual 58, 3) := by decide +kernel
theorem d_law_402 : decode code 402 = .ok (.if_icmp .eq 209, 3) := by decide +kernel
theorem d_law_405 : decode code 405 = .ok (.iconst 0, 1) := by decide +kernel
theorem d_law_406 : decode code 406 = .ok (.ireturn, 1) := by decide +kernel
theorem d_law_407 : decode code 407 = .ok (.aload_n 1, 1) := by decide +kernel
theorem d_law_408 : decode code 408 = .ok (.aload_n 0, 1) := by decide +kernel
theorem d_law_409 : decode code 409 = .ok (.iload_n 3, 1) := by decide +kernel
theorem d_law_410 : decode code 410 = .ok (.iconst 1, 1) := by decide +kernel
theorem d_law_411 : decode code 411 = .ok (.iadd, 1) := by decide +kernel
theorem d_law_412 : decode code 412 = .ok (.iaload, 1) := by decide +kernel
theorem d_law_413 : decode code 413 = .ok (.invokevirtual 59, 3) := by decide +kernel
theorem d_law_416 : decode code 416 = .ok (.aload_n 2, 1) := by decide +kernel
theorem d_law_417 : decode code 417 = .ok (.aload_n 0, 1) := by decide +kernel
theorem d_law_418 : decode code 418 = .ok (.iload_n 3, 1) := by decide +kernel
theorem d_law_419 : decode code 419 = .ok (.iconst 1, 1) := by decide +kernel
theorem d_law_420 : decode code 420 = .ok (.iadd, 1) := by decide +kernel
theorem d_law_421 : decode code 421 = .ok (.iaload, 1) := by decide +kernel
theorem d_law_422 : decode code 422 = .ok (.invokevirtual 62, 3) := by decide +kernel
theorem d_law_425 : decode code 425 = .ok (.if_icmp .eq 186, 3) := by decide +kernel
theorem d_law_428 : decode code 428 = .ok (.iconst 0, 1) := by decide +kernel
theorem d_law_429 : decode code 429 = .ok (.ireturn, 1) := by decide +kernel
theorem d_law_430 : decode code 430 = .ok (.aload_n 1, 1) := by decide +kernel
theorem d_law_431 : decode code 431 = .ok (.invokevirtual 63, 3) := by decide +kernel
theorem d_law_434 : decode code 434 = .ok (.aload_n 2, 1) := by decide +kernel
theorem d_law_435 : decode code 435 = .ok (.invokevirtual 66, 3) := by decide +kernel
theorem d_law_438 : decode code 438 = .ok (.if_icmp .eq 173, 3) := by decide +kernel
theorem d_law_441 : decode code 441 = .ok (.iconst 0, 1) := by decide +kernel
theorem d_law_442 : decode code 442 = .ok (.ireturn, 1) := by decide +kernel
theorem d_law_443 : decode code 443 = .ok (.aload_n 1, 1) := by decide +kernel
theorem d_law_444 : decode code 444 = .ok (.aload_n 0, 1) := by decide +kernel
theorem d_law_445 : decode code 445 = .ok (.iload_n 3, 1) := by decide +kernel
theorem d_law_446 : decode code 446 = .ok (.iconst 1, 1) := by decide +kernel
theorem d_law_447 : decode code 447 = .ok (.iadd, 1) := by decide +kernel
theorem d_law_448 : decode code 448 = .ok (.iaload, 1) := by decide +kernel
theorem d_law_449 : decode code 449 = .ok (.aload_n 0, 1) := by decide +kernel
theorem d_law_450 : decode code 450 = .ok (.iload_n 3, 1) := by decide +kernel
theorem d_law_451 : decode code 451 = .ok (.iconst 2, 1) := by decide +kernel
theorem d_law_452 : decode code 452 = .ok (.iadd, 1) := by decide +kernel
theorem d_law_453 : decode code 453 = .ok (.iaload, 1) := by decide +kernel
theorem d_law_454 : decode code 454 = .ok (.invokevirtual 67, 3) := by decide +kernel
theorem d_law_457 : decode code 457 = .ok (.aload_n 2, 1) := by decide +kernel
theorem d_law_458 : decode code 458 = .ok (.aload_n 0, 1) := by decide +kernel
theorem d_law_459 : decode code 459 = .ok (.iload_n 3, 1) := by decide +kernel
theorem d_law_460 : decode code 460 = .ok (.iconst 1, 1) := by decide +kernel
theorem d_law_461 : decode code 461 = .ok (.iadd, 1) := by decide +kernel
theorem d_law_462 : decode code 462 = .ok (.iaload, 1) := by decide +kernel
theorem d_law_463 : decode code 463 = .ok (.aload_n 0, 1) := by decide +kernel
theorem d_law_464 : decode code 464 = .ok (.iload_n 3, 1) := by decide +kernel
theorem d_law_465 : decode code 465 = .ok (.iconst 2, 1) := by decide +kernel
theorem d_law_466 : decode code 466 = .ok (.iadd, 1) := by decide +kernel
theorem d_law_467 : decode code 467 = .ok (.iaload, 1) := by decide +kernel
theorem d_law_468 : decode code 468 = .ok (.invokevirtual 70, 3) := by decide +kernel
theorem d_law_471 : decode code 471 = .ok (.if_icmp .eq 140, 3) := by decide +kernel
theorem d_law_474 : decode code 474 = .ok (.iconst 0, 1) := by decide +kernel
theorem d_law_475 : decode code 475 = .ok (.ireturn, 1) := by decide +kernel
theorem d_law_476 : decode code 476 = .ok (.aload_n 1, 1) := by decide +kernel
theorem d_law_477 : decode code 477 = .ok (.aload_n 0, 1) := by decide +kernel
theorem d_law_478 : decode code 478 = .ok (.iload_n 3, 1) := by decide +kernel
theorem d_law_479 : decode code 479 = .ok (.iconst 1, 1) := by decide +kernel
theorem d_law_480 : decode code 480 = .ok (.iadd, 1) := by decide +kernel
theorem d_law_481 : decode code 481 = .ok (.iaload, 1) := by decide +kernel
theorem d_law_482 : decode code 482 = .ok (.invokevirtual 71, 3) := by decide +kernel
theorem d_law_485 : decode code 485 = .ok (.aload_n 2, 1) := by decide +kernel
theorem d_law_486 : decode code 486 = .ok (.aload_n 0, 1) := by decide +kernel
theorem d_law_487 : decode code 487 = .ok (.iload_n 3, 1) := by decide +kernel
theorem d_law_488 : decode code 488 = .ok (.iconst 1, 1) := by decide +kernel
theorem d_law_489 : decode code 489 = .ok (.iadd, 1) := by decide +kernel
theorem d_law_490 : decode code 490 = .ok (.iaload, 1) := by decide +kernel
theorem d_law_491 : decode code 491 = .ok (.invokevirtual 74, 3) := by decide +kernel
theorem d_law_494 : decode code 494 = .ok (.if_icmp .eq 117, 3) := by decide +kernel
theorem d_law_497 : decode code 497 = .ok (.iconst 0, 1) := by decide +kernel
theorem d_law_498 : decode code 498 = .ok (.ireturn, 1) := by decide +kernel
theorem d_law_499 : decode code 499 = .ok (.aload_n 1, 1) := by decide +kernel
theorem d_law_500 : decode code 500 = .ok (.aload_n 0, 1) := by decide +kernel
theorem d_law_501 : decode code 501 = .ok (.iload_n 3, 1) := by decide +kernel
theorem d_law_502 : decode code 502 = .ok (.iconst 1, 1) := by decide +kernel
theorem d_law_503 : decode code 503 = .ok (.iadd, 1) := by decide +kernel
theorem d_law_504 : decode code 504 = .ok (.iaload, 1) := by decide +kernel
theorem d_law_505 : decode code 505 = .ok (.invokevirtual 75, 3) := by decide +kernel
theorem d_law_508 : decode code 508 = .ok (.aload_n 2, 1) := by decide +kernel
theorem d_law_509 : decode code 509 = .ok (.aload_n 0, 1) := by decide +kernel
theorem d_law_510 : decode code 510 = .ok (.iload_n 3, 1) := by decide +kernel
theorem d_law_511 : decode code 511 = .ok (.iconst 1, 1) := by decide +kernel
theorem d_law_512 : decode code 512 = .ok (.iadd, 1) := by decide +kernel
theorem d_law_513 : decode code 513 = .ok (.iaload, 1) := by decide +kernel
theorem d_law_514 : decode code 514 = .ok (.invokevirtual 78, 3) := by decide +kernel
theorem d_law_517 : decode code 517 = .ok (.if_icmp .eq 94, 3) := by decide +kernel
theorem d_law_520 : decode code 520 = .ok (.iconst 0, 1) := by decide +kernel
theorem d_law_521 : decode code 521 = .ok (.ireturn, 1) := by decide +kernel
theorem d_law_522 : decode code 522 = .ok (.aload_n 1, 1) := by decide +kernel
theorem d_law_523 : decode code 523 = .ok (.aload_n 0, 1) := by decide +kernel
theorem d_law_524 : decode code 524 = .ok (.iload_n 3, 1) := by decide +kernel
theorem d_law_525 : decode code 525 = .ok (.iconst 1, 1) := by decide +kernel
theorem d_law_526 : decode code 526 = .ok (.iadd, 1) := by decide +kernel
theorem d_law_527 : decode code 527 = .ok (.iaload, 1) := by decide +kernel
theorem d_law_528 : decode code 528 = .ok (.aload_n 0, 1) := by decide +kernel
theorem d_law_529 : decode code 529 = .ok (.iload_n 3, 1) := by decide +kernel
theorem d_law_530 : decode code 530 = .ok (.iconst 2, 1) := by decide +kernel
theorem d_law_531 : decode code 531 = .ok (.iadd, 1) := by decide +kernel
theorem d_law_532 : decode code 532 = .ok (.iaload, 1) := by decide +kernel
theorem d_law_533 : decode code 533 = .ok (.invokevirtual 79, 3) := by decide +kernel
theorem d_law_536 : decode code 536 = .ok (.aload_n 2, 1) := by decide +kernel
theorem d_law_537 : decode code 537 = .ok (.aload_n 0, 1) := by decide +kernel
theorem d_law_538 : decode code 538 = .ok (.iload_n 3, 1) := by decide +kernel
theorem d_law_539 : decode code 539 = .ok (.iconst 1, 1) := by decide +kernel
theorem d_law_540 : decode code 540 = .ok (.iadd, 1) := by decide +kernel
theorem d_law_541 : decode code 541 = .ok (.iaload, 1) := by decide +kernel
theorem d_law_542 : decode code 542 = .ok (.aload_n 0, 1) := by decide +kernel
theorem d_law_543 : decode code 543 = .ok (.iload_n 3, 1) := by decide +kernel
theorem d_law_544 : decode code 544 = .ok (.iconst 2, 1) := by decide +kernel
theorem d_law_545 : decode code 545 = .ok (.iadd, 1) := by decide +kernel
theorem d_law_546 : decode code 546 = .ok (.iaload, 1) := by decide +kernel
theorem d_law_547 : decode code 547 = .ok (.invokevirtual 82, 3) := by decide +kernel
theorem d_law_550 : decode code 550 = .ok (.if_icmp .eq 61, 3) := by decide +kernel
theorem d_law_553 : decode code 553 = .ok (.iconst 0, 1) := by decide +kernel
theorem d_law_554 : decode code 554 = .ok (.ireturn, 1) := by decide +kernel
theorem d_law_555 : decode code 555 = .ok (.aload_n 1, 1) := by decide +kernel
theorem d_law_556 : decode code 556 = .ok (.aload_n 0, 1) := by decide +kernel
theorem d_law_557 : decode code 557 = .ok (.iload_n 3, 1) := by decide +kernel
theorem d_law_558 : decode code 558 = .ok (.iconst 1, 1) := by decide +kernel
theorem d_law_559 : decode code 559 = .ok (.iadd, 1) := by decide +kernel
theorem d_law_560 : decode code 560 = .ok (.iaload, 1) := by decide +kernel
theorem d_law_561 : decode code 561 = .ok (.aload_n 0, 1) := by decide +kernel
theorem d_law_562 : decode code 562 = .ok (.iload_n 3, 1) := by decide +kernel
theorem d_law_563 : decode code 563 = .ok (.iconst 2, 1) := by decide +kernel
theorem d_law_564 : decode code 564 = .ok (.iadd, 1) := by decide +kernel
theorem d_law_565 : decode code 565 = .ok (.iaload, 1) := by decide +kernel
theorem d_law_566 : decode code 566 = .ok (.invokevirtual 83, 3) := by decide +kernel
theorem d_law_569 : decode code 569 = .ok (.aload_n 2, 1) := by decide +kernel
theorem d_law_570 : decode code 570 = .ok (.aload_n 0, 1) := by decide +kernel
theorem d_law_571 : decode code 571 = .ok (.iload_n 3, 1) := by decide +kernel
theorem d_law_572 : decode code 572 = .ok (.iconst 1, 1) := by decide +kernel
theorem d_law_573 : decode code 573 = .ok (.iadd, 1) := by decide +kernel
theorem d_law_574 : decode code 574 = .ok (.iaload, 1) := by decide +kernel
theorem d_law_575 : decode code 575 = .ok (.aload_n 0, 1) := by decide +kernel
theorem d_law_576 : decode code 576 = .ok (.iload_n 3, 1) := by decide +kernel
theorem d_law_577 : decode code 577 = .ok (.iconst 2, 1) := by decide +kernel
theorem d_law_578 : decode code 578 = .ok (.iadd, 1) := by decide +kernel
theorem d_law_579 : decode code 579 = .ok (.iaload, 1) := by decide +kernel
theorem d_law_580 : decode code 580 = .ok (.invokevirtual 86, 3) := by decide +kernel
theorem d_law_583 : decode code 583 = .ok (.if_icmp .eq 28, 3) := by decide +kernel
theorem d_law_586 : decode code 586 = .ok (.iconst 0, 1) := by decide +kernel
theorem d_law_587 : decode code 587 = .ok (.ireturn, 1) := by decide +kernel
theorem d_law_588 : decode code 588 = .ok (.aload_n 1, 1) := by decide +kernel
theorem d_law_589 : decode code 589 = .ok (.aload_n 0, 1) := by decide +kernel
theorem d_law_590 : decode code 590 = .ok (.iload_n 3, 1) := by decide +kernel
theorem d_law_591 : decode code 591 = .ok (.iconst 1, 1) := by decide +kernel
theorem d_law_592 : decode code 592 = .ok (.iadd, 1) := by decide +kernel
theorem d_law_593 : decode code 593 = .ok (.iaload, 1) := by decide +kernel
theorem d_law_594 : decode code 594 = .ok (.invokevirtual 87, 3) := by decide +kernel
theorem d_law_597 : decode code 597 = .ok (.aload_n 2, 1) := by decide +kernel
theorem d_law_598 : decode code 598 = .ok (.aload_n 0, 1) := by decide +kernel
theorem d_law_599 : decode code 599 = .ok (.iload_n 3, 1) := by decide +kernel
theorem d_law_600 : decode code 600 = .ok (.iconst 1, 1) := by decide +kernel
theorem d_law_601 : decode code 601 = .ok (.iadd, 1) := by decide +kernel
theorem d_law_602 : decode code 602 = .ok (.iaload, 1) := by decide +kernel
theorem d_law_603 : decode code 603 = .ok (.invokevirtual 90, 3) := by decide +kernel
theorem d_law_606 : decode code 606 = .ok (.if_icmp .eq 5, 3) := by decide +kernel
theorem d_law_609 : decode code 609 = .ok (.iconst 0, 1) := by decide +kernel
theorem d_law_610 : decode code 610 = .ok (.ireturn, 1) := by decide +kernel
theorem d_law_611 : decode code 611 = .ok (.iinc 3 6, 3) := by decide +kernel
theorem d_law_614 : decode code 614 = .ok (.goto (-596), 3) := by decide +kernel
theorem d_law_617 : decode code 617 = .ok (.iconst 1, 1) := by decide +kernel
theorem d_law_618 : decode code 618 = .ok (.ireturn, 1) := by decide +kernel
def claw_588 (b L : Nat) (xs : Nat → Int32) (X : Nat → xm_PT) (Rh : Option Value → xm_M → Prop) : xm_PT := (xo_aload 1 (xo_aload 0 (xo_iload 3 (xo_push (.int 1) (xo_ibin (fun x y => x + y) (xo_sld b L xs (xo_callV 0 1 0 0 cp_V_count (xo_aload 2 (xo_aload 0 (xo_iload 3 (xo_push (.int 1) (xo_ibin (fun x y => x + y) (xo_sld b L xs (xo_callV 5 1 0 0 cp_M_count (xo_icmp (fun x y => x = y) (xo_iinc 3 (nI 6) (xo_jmp [0, 1, 2, 3] (X 18))) (xo_push (.int 0) (xo_zret Rh)))))))))))))))))
def claw_555 (b L : Nat) (xs : Nat → Int32) (X : Nat → xm_PT) (Rh : Option Value → xm_M → Prop) : xm_PT := (xo_aload 1 (xo_aload 0 (xo_iload 3 (xo_push (.int 1) (xo_ibin (fun x y => x + y) (xo_sld b L xs (xo_aload 0 (xo_iload 3 (xo_push (.int (nI 2)) (xo_ibin (fun x y => x + y) (xo_sld b L xs (xo_callV 0 2 0 0 cp_V_image (xo_aload 2 (xo_aload 0 (xo_iload 3 (xo_push (.int 1) (xo_ibin (fun x y => x + y) (xo_sld b L xs (xo_aload 0 (xo_iload 3 (xo_push (.int (nI 2)) (xo_ibin (fun x y => x + y) (xo_sld b L xs (xo_callV 5 2 0 0 cp_M_image (xo_icmp (fun x y => x = y) (xo_iinc 3 (nI 6) (xo_jmp [0, 1, 2, 3] (X 18))) (xo_push (.int 0) (xo_zret Rh)))))))))))))))))))))))))))
def claw_522 (b L : Nat) (xs : Nat → Int32) (X : Nat → xm_PT) (Rh : Option Value → xm_M → Prop) : xm_PT := (xo_aload 1 (xo_aload 0 (xo_iload 3 (xo_push (.int 1) (xo_ibin (fun x y => x + y) (xo_sld b L xs (xo_aload 0 (xo_iload 3 (xo_push (.int (nI 2)) (xo_ibin (fun x y => x + y) (xo_sld b L xs (xo_callV 0 2 0 0 cp_V_block (xo_aload 2 (xo_aload 0 (xo_iload 3 (xo_push (.int 1) (xo_ibin (fun x y => x + y) (xo_sld b L xs (xo_aload 0 (xo_iload 3 (xo_push (.int (nI 2)) (xo_ibin (fun x y => x + y) (xo_sld b L xs (xo_callV 5 2 0 0 cp_M_block (xo_icmp (fun x y => x = y) (xo_iinc 3 (nI 6) (xo_jmp [0, 1, 2, 3] (X 18))) (xo_push (.int 0) (xo_zret Rh)))))))))))))))))))))))))))
def claw_499 (b L : Nat) (xs : Nat → Int32) (X : Nat → xm_PT) (Rh : Option Value → xm_M → Prop) : xm_PT := (xo_aload 1 (xo_aload 0 (xo_iload 3 (xo_push (.int 1) (xo_ibin (fun x y => x + y) (xo_sld b L xs (xo_callV 0 1 0 0 cp_V_rank (xo_aload 2 (xo_aload 0 (xo_iload 3 (xo_push (.int 1) (xo_ibin (fun x y => x + y) (xo_sld b L xs (xo_callV 5 1 0 0 cp_M_rank (xo_icmp (fun x y => x = y) (xo_iinc 3 (nI 6) (xo_jmp [0, 1, 2, 3] (X 18))) (xo_push (.int 0) (xo_zret Rh)))))))))))))))))
def claw_476 (b L : Nat) (xs : Nat → Int32) (X : Nat → xm_PT) (Rh : Option Value → xm_M → Prop) : xm_PT := (xo_aload 1 (xo_aload 0 (xo_iload 3 (xo_push (.int 1) (xo_ibin (fun x y => x + y) (xo_sld b L xs (xo_callV 0 1 0 0 cp_V_next (xo_aload 2 (xo_aload 0 (xo_iload 3 (xo_push (.int 1) (xo_ibin (fun x y => x + y) (xo_sld b L xs (xo_callV 5 1 0 0 cp_M_next (xo_icmp (fun x y => x = y) (xo_iinc 3 (nI 6) (xo_jmp [0, 1, 2, 3] (X 18))) (xo_push (.int 0) (xo_zret Rh)))))))))))))))))
def claw_443 (b L : Nat) (xs : Nat → Int32) (X : Nat → xm_PT) (Rh : Option Value → xm_M → Prop) : xm_PT := (xo_aload 1 (xo_aload 0 (xo_iload 3 (xo_push (.int 1) (xo_ibin (fun x y => x + y) (xo_sld b L xs (xo_aload 0 (xo_iload 3 (xo_push (.int (nI 2)) (xo_ibin (fun x y => x + y) (xo_sld b L xs (xo_callV 0 2 0 0 cp_V_entry (xo_aload 2 (xo_aload 0 (xo_iload 3 (xo_push (.int 1) (xo_ibin (fun x y => x + y) (xo_sld b L xs (xo_aload 0 (xo_iload 3 (xo_push (.int (nI 2)) (xo_ibin (fun x y => x + y) (xo_sld b L xs (xo_callV 5 2 0 0 cp_M_entry (xo_icmp (fun x y => x = y) (xo_iinc 3 (nI 6) (xo_jmp [0, 1, 2, 3] (X 18))) (xo_push (.int 0) (xo_zret Rh)))))))))))))))))))))))))))
def claw_430 (b L : Nat) (xs : Nat → Int32) (X : Nat → xm_PT) (Rh : Option Value → xm_M → Prop) : xm_PT := (xo_aload 1 (xo_callV 0 0 0 0 cp_V_start (xo_aload 2 (xo_callV 5 0 0 0 cp_M_start (xo_icmp (fun x y => x = y) (xo_iinc 3 (nI 6) (xo_jmp [0, 1, 2, 3] (X 18))) (xo_push (.int 0) (xo_zret Rh)))))))
def claw_407 (b L : Nat) (xs : Nat → Int32) (X : Nat → xm_PT) (Rh : Option Value → xm_M → Prop) : xm_PT := (xo_aload 1 (xo_aload 0 (xo_iload 3 (xo_push (.int 1) (xo_ibin (fun x y => x + y) (xo_sld b L xs (xo_callV 0 1 0 0 cp_V_crash (xo_aload 2 (xo_aload 0 (xo_iload 3 (xo_push (.int 1) (xo_ibin (fun x y => x + y) (xo_sld b L xs (xo_callV 5 1 0 0 cp_M_crash (xo_icmp (fun x y => x = y) (xo_iinc 3 (nI 6) (xo_jmp [0, 1, 2, 3] (X 18))) (xo_push (.int 0) (xo_zret Rh)))))))))))))))))
def claw_384 (b L : Nat) (xs : Nat → Int32) (X : Nat → xm_PT) (Rh : Option Value → xm_M → Prop) : xm_PT := (xo_aload 1 (xo_aload 0 (xo_iload 3 (xo_push (.int 1) (xo_ibin (fun x y => x + y) (xo_sld b L xs (xo_callV 0 1 0 0 cp_V_compact (xo_aload 2 (xo_aload 0 (xo_iload 3 (xo_push (.int 1) (xo_ibin (fun x y => x + y) (xo_sld b L xs (xo_callV 5 1 0 0 cp_M_compact (xo_icmp (fun x y => x = y) (xo_iinc 3 (nI 6) (xo_jmp [0, 1, 2, 3] (X 18))) (xo_push (.int 0) (xo_zret Rh)))))))))))))))))
def claw_361 (b L : Nat) (xs : Nat → Int32) (X : Nat → xm_PT) (Rh : Option Value → xm_M → Prop) : xm_PT := (xo_aload 1 (xo_aload 0 (xo_iload 3 (xo_push (.int 1) (xo_ibin (fun x y => x + y) (xo_sld b L xs (xo_callV 0 1 0 0 cp_V_flush (xo_aload 2 (xo_aload 0 (xo_iload 3 (xo_push (.int 1) (xo_ibin (fun x y => x + y) (xo_sld b L xs (xo_callV 5 1 0 0 cp_M_flush (xo_icmp (fun x y => x = y) (xo_iinc 3 (nI 6) (xo_jmp [0, 1, 2, 3] (X 18))) (xo_push (.int 0) (xo_zret Rh)))))))))))))))))
def claw_348 (b L : Nat) (xs : Nat → Int32) (X : Nat → xm_PT) (Rh : Option Value → xm_M → Prop) : xm_PT := (xo_aload 1 (xo_callV 0 0 0 0 cp_V_seal (xo_aload 2 (xo_callV 5 0 0 0 cp_M_seal (xo_icmp (fun x y => x = y) (xo_iinc 3 (nI 6) (xo_jmp [0, 1, 2, 3] (X 18))) (xo_push (.int 0) (xo_zret Rh)))))))
def claw_335 (b L : Nat) (xs : Nat → Int32) (X : Nat → xm_PT) (Rh : Option Value → xm_M → Prop) : xm_PT := (xo_aload 1 (xo_callV 0 0 0 0 cp_V_sweep (xo_aload 2 (xo_callV 5 0 0 0 cp_M_sweep (xo_icmp (fun x y => x = y) (xo_iinc 3 (nI 6) (xo_jmp [0, 1, 2, 3] (X 18))) (xo_push (.int 0) (xo_zret Rh)))))))
def claw_312 (b L : Nat) (xs : Nat → Int32) (X : Nat → xm_PT) (Rh : Option Value → xm_M → Prop) : xm_PT := (xo_aload 1 (xo_aload 0 (xo_iload 3 (xo_push (.int 1) (xo_ibin (fun x y => x + y) (xo_sld b L xs (xo_callV 0 1 0 0 cp_V_tick (xo_aload 2 (xo_aload 0 (xo_iload 3 (xo_push (.int 1) (xo_ibin (fun x y => x + y) (xo_sld b L xs (xo_callV 5 1 0 0 cp_M_tick (xo_icmp (fun x y => x = y) (xo_iinc 3 (nI 6) (xo_jmp [0, 1, 2, 3] (X 18))) (xo_push (.int 0) (xo_zret Rh)))))))))))))))))
def claw_289 (b L : Nat) (xs : Nat → Int32) (X : Nat → xm_PT) (Rh : Option Value → xm_M → Prop) : xm_PT := (xo_aload 1 (xo_aload 0 (xo_iload 3 (xo_push (.int 1) (xo_ibin (fun x y => x + y) (xo_sld b L xs (xo_callV 0 1 16 112 cp_V_evict (xo_aload 2 (xo_aload 0 (xo_iload 3 (xo_push (.int 1) (xo_ibin (fun x y => x + y) (xo_sld b L xs (xo_callV 5 1 0 0 cp_M_evict (xo_icmp (fun x y => x = y) (xo_iinc 3 (nI 6) (xo_jmp [0, 1, 2, 3] (X 18))) (xo_push (.int 0) (xo_zret Rh)))))))))))))))))
def claw_281 (b L : Nat) (xs : Nat → Int32) (X : Nat → xm_PT) (Rh : Option Value → xm_M → Prop) : xm_PT := (xo_callV 5 2 0 0 cp_M_remove (xo_icmp (fun x y => x = y) (xo_iinc 3 (nI 6) (xo_jmp [0, 1, 2, 3] (X 18))) (xo_push (.int 0) (xo_zret Rh))))
def claw_259 (b L : Nat) (xs : Nat → Int32) (X : Nat → xm_PT) (Rh : Option Value → xm_M → Prop) : xm_PT := (xo_callV 0 2 1 7 cp_V_remove (xo_aload 2 (xo_aload 0 (xo_iload 3 (xo_push (.int 1) (xo_ibin (fun x y => x + y) (xo_sld b L xs (xo_aload 0 (xo_iload 3 (xo_push (.int (nI 2)) (xo_ibin (fun x y => x + y) (xo_sld b L xs (xo_if (fun x => x = 0) (xo_push (.int 0) (xo_jmp [0, 1, 2, 3] (claw_281 b L xs X Rh))) (xo_push (.int 1) (xo_jmp [0, 1, 2, 3] (claw_281 b L xs X Rh))))))))))))))))
def claw_240 (b L : Nat) (xs : Nat → Int32) (X : Nat → xm_PT) (Rh : Option Value → xm_M → Prop) : xm_PT := (xo_aload 1 (xo_aload 0 (xo_iload 3 (xo_push (.int 1) (xo_ibin (fun x y => x + y) (xo_sld b L xs (xo_aload 0 (xo_iload 3 (xo_push (.int (nI 2)) (xo_ibin (fun x y => x + y) (xo_sld b L xs (xo_if (fun x => x = 0) (xo_push (.int 0) (xo_jmp [0, 1, 2, 3] (claw_259 b L xs X Rh))) (xo_push (.int 1) (xo_jmp [0, 1, 2, 3] (claw_259 b L xs X Rh)))))))))))))))
def claw_207 (b L : Nat) (xs : Nat → Int32) (X : Nat → xm_PT) (Rh : Option Value → xm_M → Prop) : xm_PT := (xo_aload 1 (xo_aload 0 (xo_iload 3 (xo_push (.int 1) (xo_ibin (fun x y => x + y) (xo_sld b L xs (xo_aload 0 (xo_iload 3 (xo_push (.int (nI 2)) (xo_ibin (fun x y => x + y) (xo_sld b L xs (xo_callV 0 2 1 7 cp_V_touch (xo_aload 2 (xo_aload 0 (xo_iload 3 (xo_push (.int 1) (xo_ibin (fun x y => x + y) (xo_sld b L xs (xo_aload 0 (xo_iload 3 (xo_push (.int (nI 2)) (xo_ibin (fun x y => x + y) (xo_sld b L xs (xo_callV 5 2 0 0 cp_M_touch (xo_icmp (fun x y => x = y) (xo_iinc 3 (nI 6) (xo_jmp [0, 1, 2, 3] (X 18))) (xo_push (.int 0) (xo_zret Rh)))))))))))))))))))))))))))
def claw_183 (b L : Nat) (xs : Nat → Int32) (X : Nat → xm_PT) (Rh : Option Value → xm_M → Prop) : xm_PT := (xo_aload 1 (xo_aload 0 (xo_iload 3 (xo_push (.int 1) (xo_ibin (fun x y => x + y) (xo_sld b L xs (xo_callV 0 1 0 0 cp_V_get (xo_aload 2 (xo_aload 0 (xo_iload 3 (xo_push (.int 1) (xo_ibin (fun x y => x + y) (xo_sld b L xs (xo_callV 5 1 0 0 cp_M_get (xo_lcmp (xo_if (fun x => x = 0) (xo_iinc 3 (nI 6) (xo_jmp [0, 1, 2, 3] (X 18))) (xo_push (.int 0) (xo_zret Rh))))))))))))))))))
def claw_120 (b L : Nat) (xs : Nat → Int32) (X : Nat → xm_PT) (Rh : Option Value → xm_M → Prop) : xm_PT := (xo_aload 1 (xo_aload 0 (xo_iload 3 (xo_push (.int 1) (xo_ibin (fun x y => x + y) (xo_sld b L xs (xo_aload 0 (xo_iload 3 (xo_push (.int (nI 2)) (xo_ibin (fun x y => x + y) (xo_sld b L xs (xo_aload 0 (xo_iload 3 (xo_push (.int (nI 3)) (xo_ibin (fun x y => x + y) (xo_sld b L xs (xo_aload 0 (xo_iload 3 (xo_push (.int (nI 4)) (xo_ibin (fun x y => x + y) (xo_sld b L xs (xo_aload 0 (xo_iload 3 (xo_push (.int (nI 5)) (xo_ibin (fun x y => x + y) (xo_sld b L xs (xo_callV 0 5 1 7 cp_V_put (xo_aload 2 (xo_aload 0 (xo_iload 3 (xo_push (.int 1) (xo_ibin (fun x y => x + y) (xo_sld b L xs (xo_aload 0 (xo_iload 3 (xo_push (.int (nI 2)) (xo_ibin (fun x y => x + y) (xo_sld b L xs (xo_aload 0 (xo_iload 3 (xo_push (.int (nI 3)) (xo_ibin (fun x y => x + y) (xo_sld b L xs (xo_aload 0 (xo_iload 3 (xo_push (.int (nI 4)) (xo_ibin (fun x y => x + y) (xo_sld b L xs (xo_aload 0 (xo_iload 3 (xo_push (.int (nI 5)) (xo_ibin (fun x y => x + y) (xo_sld b L xs (xo_callV 5 5 0 0 cp_M_put (xo_icmp (fun x y => x = y) (xo_iinc 3 (nI 6) (xo_jmp [0, 1, 2, 3] (X 18))) (xo_push (.int 0) (xo_zret Rh)))))))))))))))))))))))))))))))))))))))))))))))))))))))))
def claw_18 (b L : Nat) (xs : Nat → Int32) (X : Nat → xm_PT) (Rh : Option Value → xm_M → Prop) : xm_PT := (xo_iload 3 (xo_aload 0 (xo_slen b L (xo_push (.int (nI 6)) (xo_ibin (fun x y => x - y) (xo_icmp (fun x y => y < x) (xo_push (.int 1) (xo_zret Rh)) (xo_aload 0 (xo_iload 3 (xo_sld b L xs (xo_push (.int (nI 31)) (xo_ibin (fun x y => x &&& y) (xo_tsw 0 [(xo_jmp [0, 1, 2, 3] (claw_120 b L xs X Rh)), (xo_jmp [0, 1, 2, 3] (claw_183 b L xs X Rh)), (xo_jmp [0, 1, 2, 3] (claw_207 b L xs X Rh)), (xo_jmp [0, 1, 2, 3] (claw_240 b L xs X Rh)), (xo_jmp [0, 1, 2, 3] (claw_289 b L xs X Rh)), (xo_jmp [0, 1, 2, 3] (claw_312 b L xs X Rh)), (xo_jmp [0, 1, 2, 3] (claw_335 b L xs X Rh)), (xo_jmp [0, 1, 2, 3] (claw_348 b L xs X Rh)), (xo_jmp [0, 1, 2, 3] (claw_361 b L xs X Rh)), (xo_jmp [0, 1, 2, 3] (claw_384 b L xs X Rh)), (xo_jmp [0, 1, 2, 3] (claw_407 b L xs X Rh)), (xo_jmp [0, 1, 2, 3] (claw_430 b L xs X Rh)), (xo_jmp [0, 1, 2, 3] (claw_443 b L xs X Rh)), (xo_jmp [0, 1, 2, 3] (claw_476 b L xs X Rh)), (xo_jmp [0, 1, 2, 3] (claw_499 b L xs X Rh)), (xo_jmp [0, 1, 2, 3] (claw_522 b L xs X Rh)), (xo_jmp [0, 1, 2, 3] (claw_555 b L xs X Rh)), (xo_jmp [0, 1, 2, 3] (claw_588 b L xs X Rh))] (xo_iinc 3 (nI 6) (xo_jmp [0, 1, 2, 3] (X 18)))))))))))))))
def claw_0 (b L : Nat) (xs : Nat → Int32) (X : Nat → xm_PT) (Rh : Option Value → xm_M → Prop) : xm_PT := (xo_new 0 8 [.null, .null, .int 0, .int 0, .int 0, .int 0, .int 0, .int 0] (xo_dup (xo_callI 0 58 336 cp_V_init (xo_astore 1 (xo_new 5 18 [.null, .null, .null, .null, .null, .null, .null, .null, .null, .null, .null, .null, .int 0, .int 0, .int 0, .int 0, .int 0, .int 0] (xo_dup (xo_callI 0 12 1407 cp_M_init (xo_astore 2 (xo_push (.int 0) (xo_istore 3 (xo_jmp [0, 1, 2, 3] (X 18))))))))))))
set_option maxRecDepth 20000 in
set_option maxHeartbeats 4000000 in
theorem slaw_588 {p : Program} {l : Launch} {e : Env} {s : State} {mm : MethodId} {args : Array Value} {below : List Frame} {meth : Method} {c : Code} {D : va_G} {A : Nat → Prop} {Rh : Option Value → xm_M → Prop} {Q : State → Prop} {b L : Nat} {xs : Nat → Int32} (C : xm_C p s mm args c code 4 "BlockVaultLaw" lw_gt D classes ats A) (hX : va_X b L xs s s.heap) (hbl : b < s.heap.size) (hbA : ¬ A b) (hz : ∀ pc, decode code pc = .ok (.ireturn, 1) → xm_le (xo_zret Rh) ((xm_A p l e room_1 s mm args below meth c 4 D classes A Q) pc)) : xm_le (claw_588 b L xs (xm_A p l e room_1 s mm args below meth c 4 D classes A Q) Rh) ((xm_A p l e room_1 s mm args below meth c 4 D classes A Q) 588) :=
  (xs_aload_n C d_law_588 rfl (xs_aload_n C d_law_589 rfl (xs_iload_n C d_law_590 rfl (xs_iconst C d_law_591 (by decide) (xs_iadd C d_law_592 (xs_sld C hX hbl hbA d_law_593 (xs_callV C (CN := "BlockVault") (T := F_V) (N := 8) d_law_594 (met_V_count l D) ⟨callB_of (ws := w_V_count) (rm := rm_V_count) 1 C.1.2.2.2.2 (gG_l tw_406) rfl rfl rfl (C.1.2.2.2.2 _ tw_1) (C.1.2.2.2.2 _ tw_403) ⟨by decide, by decide, by decide +kernel⟩ ⟨Nat.le_of_ble_eq_true rfl, Nat.le_of_ble_eq_true rfl⟩, (C.1.2.2.2.2 _ tw_404), (C.1.2.2.2.2 _ tw_405)⟩ (ci := 0) rfl (xs_aload_n C d_law_597 rfl (xs_aload_n C d_law_598 rfl (xs_iload_n C d_law_599 rfl (xs_iconst C d_law_600 (by decide) (xs_iadd C d_law_601 (xs_sld C hX hbl hbA d_law_602 (xs_callV C (CN := "BlockVaultModel") (T := F_M) (N := 18) d_law_603 (met_M_count l D) ⟨callB_of (ws := w_M_count) (rm := rm_M_count) 1 C.1.2.2.2.2 (gG_l tw_593) rfl rfl rfl (C.1.2.2.2.2 _ tw_5) (C.1.2.2.2.2 _ tw_614) ⟨by decide, by decide, by decide +kernel⟩ ⟨Nat.le_of_ble_eq_true rfl, Nat.le_of_ble_eq_true rfl⟩, (C.1.2.2.2.2 _ tw_591), (C.1.2.2.2.2 _ tw_592)⟩ (ci := 5) rfl (xs_icmp_eq C d_law_606 (by decide) (xs_iinc C d_law_611 (by decide) (by decide) (xs_goto C d_law_614 (by decide) (xs_jmp (fun _ _ _ _ _ h => h)))) (xs_iconst C d_law_609 (by decide) (hz _ d_law_610)))))))))))))))))
set_option maxRecDepth 20000 in
set_option maxHeartbeats 4000000 in
theorem slaw_555 {p : Program} {l : Launch} {e : Env} {s : State} {mm : MethodId} {args : Array Value} {below : List Frame} {meth : Method} {c : Code} {D : va_G} {A : Nat → Prop} {Rh : Option Value → xm_M → Prop} {Q : State → Prop} {b L : Nat} {xs : Nat → Int32} (C : xm_C p s mm args c code 4 "BlockVaultLaw" lw_gt D classes ats A) (hX : va_X b L xs s s.heap) (hbl : b < s.heap.size) (hbA : ¬ A b) (hz : ∀ pc, decode code pc = .ok (.ireturn, 1) → xm_le (xo_zret Rh) ((xm_A p l e room_1 s mm args below meth c 4 D classes A Q) pc)) : xm_le (claw_555 b L xs (xm_A p l e room_1 s mm args below meth c 4 D classes A Q) Rh) ((xm_A p l e room_1 s mm args below meth c 4 D classes A Q) 555) :=
  (xs_aload_n C d_law_555 rfl (xs_aload_n C d_law_556 rfl (xs_iload_n C d_law_557 rfl (xs_iconst C d_law_558 (by decide) (xs_iadd C d_law_559 (xs_sld C hX hbl hbA d_law_560 (xs_aload_n C d_law_561 rfl (xs_iload_n C d_law_562 rfl (xs_iconst C d_law_563 (by decide) (xs_iadd C d_law_564 (xs_sld C hX hbl hbA d_law_565 (xs_callV C (CN := "BlockVault") (T := F_V) (N := 8) d_law_566 (met_V_image l D) ⟨callB_of (ws := w_V_image) (rm := rm_V_image) 2 C.1.2.2.2.2 (gG_l tw_402) rfl rfl rfl (C.1.2.2.2.2 _ tw_1) (C.1.2.2.2.2 _ tw_399) ⟨by decide, by decide, by decide +kernel⟩ ⟨Nat.le_of_ble_eq_true rfl, Nat.le_of_ble_eq_true rfl⟩, (C.1.2.2.2.2 _ tw_400), (C.1.2.2.2.2 _ tw_401)⟩ (ci := 0) rfl (xs_aload_n C d_law_569 rfl (xs_aload_n C d_law_570 rfl (xs_iload_n C d_law_571 rfl (xs_iconst C d_law_572 (by decide) (xs_iadd C d_law_573 (xs_sld C hX hbl hbA d_law_574 (xs_aload_n C d_law_575 rfl (xs_iload_n C d_law_576 rfl (xs_iconst C d_law_577 (by decide) (xs_iadd C d_law_578 (xs_sld C hX hbl hbA d_law_579 (xs_callV C (CN := "BlockVaultModel") (T := F_M) (N := 18) d_law_580 (met_M_image l D) ⟨callB_of (ws := w_M_image) (rm := rm_M_image) 2 C.1.2.2.2.2 (gG_l tw_613) rfl rfl rfl (C.1.2.2.2.2 _ tw_5) (C.1.2.2.2.2 _ tw_610) ⟨by decide, by decide, by decide +kernel⟩ ⟨Nat.le_of_ble_eq_true rfl, Nat.le_of_ble_eq_true rfl⟩, (C.1.2.2.2.2 _ tw_611), (C.1.2.2.2.2 _ tw_612)⟩ (ci := 5) rfl (xs_icmp_eq C d_law_583 (by decide) (xs_iinc C d_law_611 (by decide) (by decide) (xs_goto C d_law_614 (by decide) (xs_jmp (fun _ _ _ _ _ h => h)))) (xs_iconst C d_law_586 (by decide) (hz _ d_law_587)))))))))))))))))))))))))))
set_option maxRecDepth 20000 in
set_option maxHeartbeats 4000000 in
theorem slaw_522 {p : Program} {l : Launch} {e : Env} {s : State} {mm : MethodId} {args : Array Value} {below : List Frame} {meth : Method} {c : Code} {D : va_G} {A : Nat → Prop} {Rh : Option Value → xm_M → Prop} {Q : State → Prop} {b L : Nat} {xs : Nat → Int32} (C : xm_C p s mm args c code 4 "BlockVaultLaw" lw_gt D classes ats A) (hX : va_X b L xs s s.heap) (hbl : b < s.heap.size) (hbA : ¬ A b) (hz : ∀ pc, decode code pc = .ok (.ireturn, 1) → xm_le (xo_zret Rh) ((xm_A p l e room_1 s mm args below meth c 4 D classes A Q) pc)) : xm_le (claw_522 b L xs (xm_A p l e room_1 s mm args below meth c 4 D classes A Q) Rh) ((xm_A p l e room_1 s mm args below meth c 4 D classes A Q) 522) :=
  (xs_aload_n C d_law_522 rfl (xs_aload_n C d_law_523 rfl (xs_iload_n C d_law_524 rfl (xs_iconst C d_law_525 (by decide) (xs_iadd C d_law_526 (xs_sld C hX hbl hbA d_law_527 (xs_aload_n C d_law_528 rfl (xs_iload_n C d_law_529 rfl (xs_iconst C d_law_530 (by decide) (xs_iadd C d_law_531 (xs_sld C hX hbl hbA d_law_532 (xs_callV C (CN := "BlockVault") (T := F_V) (N := 8) d_law_533 (met_V_block l D) ⟨callB_of (ws := w_V_block) (rm := rm_V_block) 2 C.1.2.2.2.2 (gG_l tw_392) rfl rfl rfl (C.1.2.2.2.2 _ tw_1) (C.1.2.2.2.2 _ tw_389) ⟨by decide, by decide, by decide +kernel⟩ ⟨Nat.le_of_ble_eq_true rfl, Nat.le_of_ble_eq_true rfl⟩, (C.1.2.2.2.2 _ tw_390), (C.1.2.2.2.2 _ tw_391)⟩ (ci := 0) rfl (xs_aload_n C d_law_536 rfl (xs_aload_n C d_law_537 rfl (xs_iload_n C d_law_538 rfl (xs_iconst C d_law_539 (by decide) (xs_iadd C d_law_540 (xs_sld C hX hbl hbA d_law_541 (xs_aload_n C d_law_542 rfl (xs_iload_n C d_law_543 rfl (xs_iconst C d_law_544 (by decide) (xs_iadd C d_law_545 (xs_sld C hX hbl hbA d_law_546 (xs_callV C (CN := "BlockVaultModel") (T := F_M) (N := 18) d_law_547 (met_M_block l D) ⟨callB_of (ws := w_M_block) (rm := rm_M_block) 2 C.1.2.2.2.2 (gG_l tw_609) rfl rfl rfl (C.1.2.2.2.2 _ tw_5) (C.1.2.2.2.2 _ tw_606) ⟨by decide, by decide, by decide +kernel⟩ ⟨Nat.le_of_ble_eq_true rfl, Nat.le_of_ble_eq_true rfl⟩, (C.1.2.2.2.2 _ tw_607), (C.1.2.2.2.2 _ tw_608)⟩ (ci := 5) rfl (xs_icmp_eq C d_law_550 (by decide) (xs_iinc C d_law_611 (by decide) (by decide) (xs_goto C d_law_614 (by decide) (xs_jmp (fun _ _ _ _ _ h => h)))) (xs_iconst C d_law_553 (by decide) (hz _ d_law_554)))))))))))))))))))))))))))
set_option maxRecDepth 20000 in
set_option maxHeartbeats 4000000 in
theorem slaw_499 {p : Program} {l : Launch} {e : Env} {s : State} {mm : MethodId} {args : Array Value} {below : List Frame} {meth : Method} {c : Code} {D : va_G} {A : Nat → Prop} {Rh : Option Value → xm_M → Prop} {Q : State → Prop} {b L : Nat} {xs : Nat → Int32} (C : xm_C p s mm args c code 4 "BlockVaultLaw" lw_gt D classes ats A) (hX : va_X b L xs s s.heap) (hbl : b < s.heap.size) (hbA : ¬ A b) (hz : ∀ pc, decode code pc = .ok (.ireturn, 1) → xm_le (xo_zret Rh) ((xm_A p l e room_1 s mm args below meth c 4 D classes A Q) pc)) : xm_le (claw_499 b L xs (xm_A p l e room_1 s mm args below meth c 4 D classes A Q) Rh) ((xm_A p l e room_1 s mm args below meth c 4 D classes A Q) 499) :=
  (xs_aload_n C d_law_499 rfl (xs_aload_n C d_law_500 rfl (xs_iload_n C d_law_501 rfl (xs_iconst C d_law_502 (by decide) (xs_iadd C d_law_503 (xs_sld C hX hbl hbA d_law_504 (xs_callV C (CN := "BlockVault") (T := F_V) (N := 8) d_law_505 (met_V_rank l D) ⟨callB_of (ws := w_V_rank) (rm := rm_V_rank) 1 C.1.2.2.2.2 (gG_l tw_388) rfl rfl rfl (C.1.2.2.2.2 _ tw_1) (C.1.2.2.2.2 _ tw_385) ⟨by decide, by decide, by decide +kernel⟩ ⟨Nat.le_of_ble_eq_true rfl, Nat.le_of_ble_eq_true rfl⟩, (C.1.2.2.2.2 _ tw_386), (C.1.2.2.2.2 _ tw_387)⟩ (ci := 0) rfl (xs_aload_n C d_law_508 rfl (xs_aload_n C d_law_509 rfl (xs_iload_n C d_law_510 rfl (xs_iconst C d_law_511 (by decide) (xs_iadd C d_law_512 (xs_sld C hX hbl hbA d_law_513 (xs_callV C (CN := "BlockVaultModel") (T := F_M) (N := 18) d_law_514 (met_M_rank l D) ⟨callB_of (ws := w_M_rank) (rm := rm_M_rank) 1 C.1.2.2.2.2 (gG_l tw_605) rfl rfl rfl (C.1.2.2.2.2 _ tw_5) (C.1.2.2.2.2 _ tw_602) ⟨by decide, by decide, by decide +kernel⟩ ⟨Nat.le_of_ble_eq_true rfl, Nat.le_of_ble_eq_true rfl⟩, (C.1.2.2.2.2 _ tw_603), (C.1.2.2.2.2 _ tw_604)⟩ (ci := 5) rfl (xs_icmp_eq C d_law_517 (by decide) (xs_iinc C d_law_611 (by decide) (by decide) (xs_goto C d_law_614 (by decide) (xs_jmp (fun _ _ _ _ _ h => h)))) (xs_iconst C d_law_520 (by decide) (hz _ d_law_521)))))))))))))))))
set_option maxRecDepth 20000 in
set_option maxHeartbeats 4000000 in
theorem slaw_476 {p : Program} {l : Launch} {e : Env} {s : State} {mm : MethodId} {args : Array Value} {below : List Frame} {meth : Method} {c : Code} {D : va_G} {A : Nat → Prop} {Rh : Option Value → xm_M → Prop} {Q : State → Prop} {b L : Nat} {xs : Nat → Int32} (C : xm_C p s mm args c code 4 "BlockVaultLaw" lw_gt D classes ats A) (hX : va_X b L xs s s.heap) (hbl : b < s.heap.size) (hbA : ¬ A b) (hz : ∀ pc, decode code pc = .ok (.ireturn, 1) → xm_le (xo_zret Rh) ((xm_A p l e room_1 s mm args below meth c 4 D classes A Q) pc)) : xm_le (claw_476 b L xs (xm_A p l e room_1 s mm args below meth c 4 D classes A Q) Rh) ((xm_A p l e room_1 s mm args below meth c 4 D classes A Q) 476) :=
  (xs_aload_n C d_law_476 rfl (xs_aload_n C d_law_477 rfl (xs_iload_n C d_law_478 rfl (xs_iconst C d_law_479 (by decide) (xs_iadd C d_law_480 (xs_sld C hX hbl hbA d_law_481 (xs_callV C (CN := "BlockVault") (T := F_V) (N := 8) d_law_482 (met_V_next l D) ⟨callB_of (ws := w_V_next) (rm := rm_V_next) 1 C.1.2.2.2.2 (gG_l tw_384) rfl rfl rfl (C.1.2.2.2.2 _ tw_1) (C.1.2.2.2.2 _ tw_381) ⟨by decide, by decide, by decide +kernel⟩ ⟨Nat.le_of_ble_eq_true rfl, Nat.le_of_ble_eq_true rfl⟩, (C.1.2.2.2.2 _ tw_382), (C.1.2.2.2.2 _ tw_383)⟩ (ci := 0) rfl (xs_aload_n C d_law_485 rfl (xs_aload_n C d_law_486 rfl (xs_iload_n C d_law_487 rfl (xs_iconst C d_law_488 (by decide) (xs_iadd C d_law_489 (xs_sld C hX hbl hbA d_law_490 (xs_callV C (CN := "BlockVaultModel") (T := F_M) (N := 18) d_law_491 (met_M_next l D) ⟨callB_of (ws := w_M_next) (rm := rm_M_next) 1 C.1.2.2.2.2 (gG_l tw_601) rfl rfl rfl (C.1.2.2.2.2 _ tw_5) (C.1.2.2.2.2 _ tw_598) ⟨by decide, by decide, by decide +kernel⟩ ⟨Nat.le_of_ble_eq_true rfl, Nat.le_of_ble_eq_true rfl⟩, (C.1.2.2.2.2 _ tw_599), (C.1.2.2.2.2 _ tw_600)⟩ (ci := 5) rfl (xs_icmp_eq C d_law_494 (by decide) (xs_iinc C d_law_611 (by decide) (by decide) (xs_goto C d_law_614 (by decide) (xs_jmp (fun _ _ _ _ _ h => h)))) (xs_iconst C d_law_497 (by decide) (hz _ d_law_498)))))))))))))))))
set_option maxRecDepth 20000 in
set_option maxHeartbeats 4000000 in
theorem slaw_443 {p : Program} {l : Launch} {e : Env} {s : State} {mm : MethodId} {args : Array Value} {below : List Frame} {meth : Method} {c : Code} {D : va_G} {A : Nat → Prop} {Rh : Option Value → xm_M → Prop} {Q : State → Prop} {b L : Nat} {xs : Nat → Int32} (C : xm_C p s mm args c code 4 "BlockVaultLaw" lw_gt D classes ats A) (hX : va_X b L xs s s.heap) (hbl : b < s.heap.size) (hbA : ¬ A b) (hz : ∀ pc, decode code pc = .ok (.ireturn, 1) → xm_le (xo_zret Rh) ((xm_A p l e room_1 s mm args below meth c 4 D classes A Q) pc)) : xm_le (claw_443 b L xs (xm_A p l e room_1 s mm args below meth c 4 D classes A Q) Rh) ((xm_A p l e room_1 s mm args below meth c 4 D classes A Q) 443) :=
  (xs_aload_n C d_law_443 rfl (xs_aload_n C d_law_444 rfl (xs_iload_n C d_law_445 rfl (xs_iconst C d_law_446 (by decide) (xs_iadd C d_law_447 (xs_sld C hX hbl hbA d_law_448 (xs_aload_n C d_law_449 rfl (xs_iload_n C d_law_450 rfl (xs_iconst C d_law_451 (by decide) (xs_iadd C d_law_452 (xs_sld C hX hbl hbA d_law_453 (xs_callV C (CN := "BlockVault") (T := F_V) (N := 8) d_law_454 (met_V_entry l D) ⟨callB_of (ws := w_V_entry) (rm := rm_V_entry) 2 C.1.2.2.2.2 (gG_l tw_380) rfl rfl rfl (C.1.2.2.2.2 _ tw_1) (C.1.2.2.2.2 _ tw_377) ⟨by decide, by decide, by decide +kernel⟩ ⟨Nat.le_of_ble_eq_true rfl, Nat.le_of_ble_eq_true rfl⟩, (C.1.2.2.2.2 _ tw_378), (C.1.2.2.2.2 _ tw_379)⟩ (ci := 0) rfl (xs_aload_n C d_law_457 rfl (xs_aload_n C d_law_458 rfl (xs_iload_n C d_law_459 rfl (xs_iconst C d_law_460 (by decide) (xs_iadd C d_law_461 (xs_sld C hX hbl hbA d_law_462 (xs_aload_n C d_law_463 rfl (xs_iload_n C d_law_464 rfl (xs_iconst C d_law_465 (by decide) (xs_iadd C d_law_466 (xs_sld C hX hbl hbA d_law_467 (xs_callV C (CN := "BlockVaultModel") (T := F_M) (N := 18) d_law_468 (met_M_entry l D) ⟨callB_of (ws := w_M_entry) (rm := rm_M_entry) 2 C.1.2.2.2.2 (gG_l tw_597) rfl rfl rfl (C.1.2.2.2.2 _ tw_5) (C.1.2.2.2.2 _ tw_594) ⟨by decide, by decide, by decide +kernel⟩ ⟨Nat.le_of_ble_eq_true rfl, Nat.le_of_ble_eq_true rfl⟩, (C.1.2.2.2.2 _ tw_595), (C.1.2.2.2.2 _ tw_596)⟩ (ci := 5) rfl (xs_icmp_eq C d_law_471 (by decide) (xs_iinc C d_law_611 (by decide) (by decide) (xs_goto C d_law_614 (by decide) (xs_jmp (fun _ _ _ _ _ h => h)))) (xs_iconst C d_law_474 (by decide) (hz _ d_law_475)))))))))))))))))))))))))))
set_option maxRecDepth 20000 in
set_option maxHeartbeats 4000000 in
theorem slaw_430 {p : Program} {l : Launch} {e : Env} {s : State} {mm : MethodId} {args : Array Value} {below : List Frame} {meth : Method} {c : Code} {D : va_G} {A : Nat → Prop} {Rh : Option Value → xm_M → Prop} {Q : State → Prop} {b L : Nat} {xs : Nat → Int32} (C : xm_C p s mm args c code 4 "BlockVaultLaw" lw_gt D classes ats A) (hX : va_X b L xs s s.heap) (hbl : b < s.heap.size) (hbA : ¬ A b) (hz : ∀ pc, decode code pc = .ok (.ireturn, 1) → xm_le (xo_zret Rh) ((xm_A p l e room_1 s mm args below meth c 4 D classes A Q) pc)) : xm_le (claw_430 b L xs (xm_A p l e room_1 s mm args below meth c 4 D classes A Q) Rh) ((xm_A p l e room_1 s mm args below meth c 4 D classes A Q) 430) :=
  (xs_aload_n C d_law_430 rfl (xs_callV C (CN := "BlockVault") (T := F_V) (N := 8) d_law_431 (met_V_start l D) ⟨callB_of (ws := w_V_start) (rm := rm_V_start) 0 C.1.2.2.2.2 (gG_l tw_344) rfl rfl rfl (C.1.2.2.2.2 _ tw_1) (C.1.2.2.2.2 _ tw_341) ⟨by decide, by decide, by decide +kernel⟩ ⟨Nat.le_of_ble_eq_true rfl, Nat.le_of_ble_eq_true rfl⟩, (C.1.2.2.2.2 _ tw_342), (C.1.2.2.2.2 _ tw_343)⟩ (ci := 0) rfl (xs_aload_n C d_law_434 rfl (xs_callV C (CN := "BlockVaultModel") (T := F_M) (N := 18) d_law_435 (met_M_start l D) ⟨callB_of (ws := w_M_start) (rm := rm_M_start) 0 C.1.2.2.2.2 (gG_l tw_589) rfl rfl rfl (C.1.2.2.2.2 _ tw_5) (C.1.2.2.2.2 _ tw_586) ⟨by decide, by decide, by decide +kernel⟩ ⟨Nat.le_of_ble_eq_true rfl, Nat.le_of_ble_eq_true rfl⟩, (C.1.2.2.2.2 _ tw_587), (C.1.2.2.2.2 _ tw_588)⟩ (ci := 5) rfl (xs_icmp_eq C d_law_438 (by decide) (xs_iinc C d_law_611 (by decide) (by decide) (xs_goto C d_law_614 (by decide) (xs_jmp (fun _ _ _ _ _ h => h)))) (xs_iconst C d_law_441 (by decide) (hz _ d_law_442)))))))
set_option maxRecDepth 20000 in
set_option maxHeartbeats 4000000 in
theorem slaw_407 {p : Program} {l : Launch} {e : Env} {s : State} {mm : MethodId} {args : Array Value} {below : List Frame} {meth : Method} {c : Code} {D : va_G} {A : Nat → Prop} {Rh : Option Value → xm_M → Prop} {Q : State → Prop} {b L : Nat} {xs : Nat → Int32} (C : xm_C p s mm args c code 4 "BlockVaultLaw" lw_gt D classes ats A) (hX : va_X b L xs s s.heap) (hbl : b < s.heap.size) (hbA : ¬ A b) (hz : ∀ pc, decode code pc = .ok (.ireturn, 1) → xm_le (xo_zret Rh) ((xm_A p l e room_1 s mm args below meth c 4 D classes A Q) pc)) : xm_le (claw_407 b L xs (xm_A p l e room_1 s mm args below meth c 4 D classes A Q) Rh) ((xm_A p l e room_1 s mm args below meth c 4 D classes A Q) 407) :=
  (xs_aload_n C d_law_407 rfl (xs_aload_n C d_law_408 rfl (xs_iload_n C d_law_409 rfl (xs_iconst C d_law_410 (by decide) (xs_iadd C d_law_411 (xs_sld C hX hbl hbA d_law_412 (xs_callV C (CN := "BlockVault") (T := F_V) (N := 8) d_law_413 (met_V_crash l D) ⟨callB_of (ws := w_V_crash) (rm := rm_V_crash) 1 C.1.2.2.2.2 (gG_l tw_336) rfl rfl rfl (C.1.2.2.2.2 _ tw_1) (C.1.2.2.2.2 _ tw_333) ⟨by decide, by decide, by decide +kernel⟩ ⟨Nat.le_of_ble_eq_true rfl, Nat.le_of_ble_eq_true rfl⟩, (C.1.2.2.2.2 _ tw_334), (C.1.2.2.2.2 _ tw_335)⟩ (ci := 0) rfl (xs_aload_n C d_law_416 rfl (xs_aload_n C d_law_417 rfl (xs_iload_n C d_law_418 rfl (xs_iconst C d_law_419 (by decide) (xs_iadd C d_law_420 (xs_sld C hX hbl hbA d_law_421 (xs_callV C (CN := "BlockVaultModel") (T := F_M) (N := 18) d_law_422 (met_M_crash l D) ⟨callB_of (ws := w_M_crash) (rm := rm_M_crash) 1 C.1.2.2.2.2 (gG_l tw_585) rfl rfl rfl (C.1.2.2.2.2 _ tw_5) (C.1.2.2.2.2 _ tw_582) ⟨by decide, by decide, by decide +kernel⟩ ⟨Nat.le_of_ble_eq_true rfl, Nat.le_of_ble_eq_true rfl⟩, (C.1.2.2.2.2 _ tw_583), (C.1.2.2.2.2 _ tw_584)⟩ (ci := 5) rfl (xs_icmp_eq C d_law_425 (by decide) (xs_iinc C d_law_611 (by decide) (by decide) (xs_goto C d_law_614 (by decide) (xs_jmp (fun _ _ _ _ _ h => h)))) (xs_iconst C d_law_428 (by decide) (hz _ d_law_429)))))))))))))))))
set_option maxRecDepth 20000 in
set_option maxHeartbeats 4000000 in
theorem slaw_384 {p : Program} {l : Launch} {e : Env} {s : State} {mm : MethodId} {args : Array Value} {below : List Frame} {meth : Method} {c : Code} {D : va_G} {A : Nat → Prop} {Rh : Option Value → xm_M → Prop} {Q : State → Prop} {b L : Nat} {xs : Nat → Int32} (C : xm_C p s mm args c code 4 "BlockVaultLaw" lw_gt D classes ats A) (hX : va_X b L xs s s.heap) (hbl : b < s.heap.size) (hbA : ¬ A b) (hz : ∀ pc, decode code pc = .ok (.ireturn, 1) → xm_le (xo_zret Rh) ((xm_A p l e room_1 s mm args below meth c 4 D classes A Q) pc)) : xm_le (claw_384 b L xs (xm_A p l e room_1 s mm args below meth c 4 D classes A Q) Rh) ((xm_A p l e room_1 s mm args below meth c 4 D classes A Q) 384) :=
  (xs_aload_n C d_law_384 rfl (xs_aload_n C d_law_385 rfl (xs_iload_n C d_law_386 rfl (xs_iconst C d_law_387 (by decide) (xs_iadd C d_law_388 (xs_sld C hX hbl hbA d_law_389 (xs_callV C (CN := "BlockVault") (T := F_V) (N := 8) d_law_390 (met_V_compact l D) ⟨callB_of (ws := w_V_compact) (rm := rm_V_compact) 1 C.1.2.2.2.2 (gG_l tw_312) rfl rfl rfl (C.1.2.2.2.2 _ tw_1) (C.1.2.2.2.2 _ tw_309) ⟨by decide, by decide, by decide +kernel⟩ ⟨Nat.le_of_ble_eq_true rfl, Nat.le_of_ble_eq_true rfl⟩, (C.1.2.2.2.2 _ tw_310), (C.1.2.2.2.2 _ tw_311)⟩ (ci := 0) rfl (xs_aload_n C d_law_393 rfl (xs_aload_n C d_law_394 rfl (xs_iload_n C d_law_395 rfl (xs_iconst C d_law_396 (by decide) (xs_iadd C d_law_397 (xs_sld C hX hbl hbA d_law_398 (xs_callV C (CN := "BlockVaultModel") (T := F_M) (N := 18) d_law_399 (met_M_compact l D) ⟨callB_of (ws := w_M_compact) (rm := rm_M_compact) 1 C.1.2.2.2.2 (gG_l tw_581) rfl rfl rfl (C.1.2.2.2.2 _ tw_5) (C.1.2.2.2.2 _ tw_578) ⟨by decide, by decide, by decide +kernel⟩ ⟨Nat.le_of_ble_eq_true rfl, Nat.le_of_ble_eq_true rfl⟩, (C.1.2.2.2.2 _ tw_579), (C.1.2.2.2.2 _ tw_580)⟩ (ci := 5) rfl (xs_icmp_eq C d_law_402 (by decide) (xs_iinc C d_law_611 (by decide) (by decide) (xs_goto C d_law_614 (by decide) (xs_jmp (fun _ _ _ _ _ h => h)))) (xs_iconst C d_law_405 (by decide) (hz _ d_law_406)))))))))))))))))
set_option maxRecDepth 20000 in
set_option maxHeartbeats 4000000 in
theorem slaw_361 {p : Program} {l : Launch} {e : Env} {s : State} {mm : MethodId} {args : Array Value} {below : List Frame} {meth : Method} {c : Code} {D : va_G} {A : Nat → Prop} {Rh : Option Value → xm_M → Prop} {Q : State → Prop} {b L : Nat} {xs : Nat → Int32} (C : xm_C p s mm args c code 4 "BlockVaultLaw" lw_gt D classes ats A) (hX : va_X b L xs s s.heap) (hbl : b < s.heap.size) (hbA : ¬ A b) (hz : ∀ pc, decode code pc = .ok (.ireturn, 1) → xm_le (xo_zret Rh) ((xm_A p l e room_1 s mm args below meth c 4 D classes A Q) pc)) : xm_le (claw_361 b L xs (xm_A p l e room_1 s mm args below meth c 4 D classes A Q) Rh) ((xm_A p l e room_1 s mm args below meth c 4 D classes A Q) 361) :=
  (xs_aload_n C d_law_361 rfl (xs_aload_n C d_law_362 rfl (xs_iload_n C d_law_363 rfl (xs_iconst C d_law_364 (by decide) (xs_iadd C d_law_365 (xs_sld C hX hbl hbA d_law_366 (xs_callV C (CN := "BlockVault") (T := F_V) (N := 8) d_law_367 (met_V_flush l D) ⟨callB_of (ws := w_V_flush) (rm := rm_V_flush) 1 C.1.2.2.2.2 (gG_l tw_290) rfl rfl rfl (C.1.2.2.2.2 _ tw_1) (C.1.2.2.2.2 _ tw_287) ⟨by decide, by decide, by decide +kernel⟩ ⟨Nat.le_of_ble_eq_true rfl, Nat.le_of_ble_eq_true rfl⟩, (C.1.2.2.2.2 _ tw_288), (C.1.2.2.2.2 _ tw_289)⟩ (ci := 0) rfl (xs_aload_n C d_law_370 rfl (xs_aload_n C d_law_371 rfl (xs_iload_n C d_law_372 rfl (xs_iconst C d_law_373 (by decide) (xs_iadd C d_law_374 (xs_sld C hX hbl hbA d_law_375 (xs_callV C (CN := "BlockVaultModel") (T := F_M) (N := 18) d_law_376 (met_M_flush l D) ⟨callB_of (ws := w_M_flush) (rm := rm_M_flush) 1 C.1.2.2.2.2 (gG_l tw_573) rfl rfl rfl (C.1.2.2.2.2 _ tw_5) (C.1.2.2.2.2 _ tw_570) ⟨by decide, by decide, by decide +kernel⟩ ⟨Nat.le_of_ble_eq_true rfl, Nat.le_of_ble_eq_true rfl⟩, (C.1.2.2.2.2 _ tw_571), (C.1.2.2.2.2 _ tw_572)⟩ (ci := 5) rfl (xs_icmp_eq C d_law_379 (by decide) (xs_iinc C d_law_611 (by decide) (by decide) (xs_goto C d_law_614 (by decide) (xs_jmp (fun _ _ _ _ _ h => h)))) (xs_iconst C d_law_382 (by decide) (hz _ d_law_383)))))))))))))))))
set_option maxRecDepth 20000 in
set_option maxHeartbeats 4000000 in
theorem slaw_348 {p : Program} {l : Launch} {e : Env} {s : State} {mm : MethodId} {args : Array Value} {below : List Frame} {meth : Method} {c : Code} {D : va_G} {A : Nat → Prop} {Rh : Option Value → xm_M → Prop} {Q : State → Prop} {b L : Nat} {xs : Nat → Int32} (C : xm_C p s mm args c code 4 "BlockVaultLaw" lw_gt D classes ats A) (hX : va_X b L xs s s.heap) (hbl : b < s.heap.size) (hbA : ¬ A b) (hz : ∀ pc, decode code pc = .ok (.ireturn, 1) → xm_le (xo_zret Rh) ((xm_A p l e room_1 s mm args below meth c 4 D classes A Q) pc)) : xm_le (claw_348 b L xs (xm_A p l e room_1 s mm args below meth c 4 D classes A Q) Rh) ((xm_A p l e room_1 s mm args below meth c 4 D classes A Q) 348) :=
  (xs_aload_n C d_law_348 rfl (xs_callV C (CN := "BlockVault") (T := F_V) (N := 8) d_law_349 (met_V_seal l D) ⟨callB_of (ws := w_V_seal) (rm := rm_V_seal) 0 C.1.2.2.2.2 (gG_l tw_286) rfl rfl rfl (C.1.2.2.2.2 _ tw_1) (C.1.2.2.2.2 _ tw_283) ⟨by decide, by decide, by decide +kernel⟩ ⟨Nat.le_of_ble_eq_true rfl, Nat.le_of_ble_eq_true rfl⟩, (C.1.2.2.2.2 _ tw_284), (C.1.2.2.2.2 _ tw_285)⟩ (ci := 0) rfl (xs_aload_n C d_law_352 rfl (xs_callV C (CN := "BlockVaultModel") (T := F_M) (N := 18) d_law_353 (met_M_seal l D) ⟨callB_of (ws := w_M_seal) (rm := rm_M_seal) 0 C.1.2.2.2.2 (gG_l tw_569) rfl rfl rfl (C.1.2.2.2.2 _ tw_5) (C.1.2.2.2.2 _ tw_566) ⟨by decide, by decide, by decide +kernel⟩ ⟨Nat.le_of_ble_eq_true rfl, Nat.le_of_ble_eq_true rfl⟩, (C.1.2.2.2.2 _ tw_567), (C.1.2.2.2.2 _ tw_568)⟩ (ci := 5) rfl (xs_icmp_eq C d_law_356 (by decide) (xs_iinc C d_law_611 (by decide) (by decide) (xs_goto C d_law_614 (by decide) (xs_jmp (fun _ _ _ _ _ h => h)))) (xs_iconst C d_law_359 (by decide) (hz _ d_law_360)))))))
set_option maxRecDepth 20000 in
set_option maxHeartbeats 4000000 in
theorem slaw_335 {p : Program} {l : Launch} {e : Env} {s : State} {mm : MethodId} {args : Array Value} {below : List Frame} {meth : Method} {c : Code} {D : va_G} {A : Nat → Prop} {Rh : Option Value → xm_M → Prop} {Q : State → Prop} {b L : Nat} {xs : Nat → Int32} (C : xm_C p s mm args c code 4 "BlockVaultLaw" lw_gt D classes ats A) (hX : va_X b L xs s s.heap) (hbl : b < s.heap.size) (hbA : ¬ A b) (hz : ∀ pc, decode code pc = .ok (.ireturn, 1) → xm_le (xo_zret Rh) ((xm_A p l e room_1 s mm args below meth c 4 D classes A Q) pc)) : xm_le (claw_335 b L xs (xm_A p l e room_1 s mm args below meth c 4 D classes A Q) Rh) ((xm_A p l e room_1 s mm args below meth c 4 D classes A Q) 335) :=
  (xs_aload_n C d_law_335 rfl (xs_callV C (CN := "BlockVault") (T := F_V) (N := 8) d_law_336 (met_V_sweep l D) ⟨callB_of (ws := w_V_sweep) (rm := rm_V_sweep) 0 C.1.2.2.2.2 (gG_l tw_270) rfl rfl rfl (C.1.2.2.2.2 _ tw_1) (C.1.2.2.2.2 _ tw_267) ⟨by decide, by decide, by decide +kernel⟩ ⟨Nat.le_of_ble_eq_true rfl, Nat.le_of_ble_eq_true rfl⟩, (C.1.2.2.2.2 _ tw_268), (C.1.2.2.2.2 _ tw_269)⟩ (ci := 0) rfl (xs_aload_n C d_law_339 rfl (xs_callV C (CN := "BlockVaultModel") (T := F_M) (N := 18) d_law_340 (met_M_sweep l D) ⟨callB_of (ws := w_M_sweep) (rm := rm_M_sweep) 0 C.1.2.2.2.2 (gG_l tw_561) rfl rfl rfl (C.1.2.2.2.2 _ tw_5) (C.1.2.2.2.2 _ tw_558) ⟨by decide, by decide, by decide +kernel⟩ ⟨Nat.le_of_ble_eq_true rfl, Nat.le_of_ble_eq_true rfl⟩, (C.1.2.2.2.2 _ tw_559), (C.1.2.2.2.2 _ tw_560)⟩ (ci := 5) rfl (xs_icmp_eq C d_law_343 (by decide) (xs_iinc C d_law_611 (by decide) (by decide) (xs_goto C d_law_614 (by decide) (xs_jmp (fun _ _ _ _ _ h => h)))) (xs_iconst C d_law_346 (by decide) (hz _ d_law_347)))))))
set_option maxRecDepth 20000 in
set_option maxHeartbeats 4000000 in
theorem slaw_312 {p : Program} {l : Launch} {e : Env} {s : State} {mm : MethodId} {args : Array Value} {below : List Frame} {meth : Method} {c : Code} {D : va_G} {A : Nat → Prop} {Rh : Option Value → xm_M → Prop} {Q : State → Prop} {b L : Nat} {xs : Nat → Int32} (C : xm_C p s mm args c code 4 "BlockVaultLaw" lw_gt D classes ats A) (hX : va_X b L xs s s.heap) (hbl : b < s.heap.size) (hbA : ¬ A b) (hz : ∀ pc, decode code pc = .ok (.ireturn, 1) → xm_le (xo_zret Rh) ((xm_A p l e room_1 s mm args below meth c 4 D classes A Q) pc)) : xm_le (claw_312 b L xs (xm_A p l e room_1 s mm args below meth c 4 D classes A Q) Rh) ((xm_A p l e room_1 s mm args below meth c 4 D classes A Q) 312) :=
  (xs_aload_n C d_law_312 rfl (xs_aload_n C d_law_313 rfl (xs_iload_n C d_law_314 rfl (xs_iconst C d_law_315 (by decide) (xs_iadd C d_law_316 (xs_sld C hX hbl hbA d_law_317 (xs_callV C (CN := "BlockVault") (T := F_V) (N := 8) d_law_318 (met_V_tick l D) ⟨callB_of (ws := w_V_tick) (rm := rm_V_tick) 1 C.1.2.2.2.2 (gG_l tw_266) rfl rfl rfl (C.1.2.2.2.2 _ tw_1) (C.1.2.2.2.2 _ tw_263) ⟨by decide, by decide, by decide +kernel⟩ ⟨Nat.le_of_ble_eq_true rfl, Nat.le_of_ble_eq_true rfl⟩, (C.1.2.2.2.2 _ tw_264), (C.1.2.2.2.2 _ tw_265)⟩ (ci := 0) rfl (xs_aload_n C d_law_321 rfl (xs_aload_n C d_law_322 rfl (xs_iload_n C d_law_323 rfl (xs_iconst C d_law_324 (by decide) (xs_iadd C d_law_325 (xs_sld C hX hbl hbA d_law_326 (xs_callV C (CN := "BlockVaultModel") (T := F_M) (N := 18) d_law_327 (met_M_tick l D) ⟨callB_of (ws := w_M_tick) (rm := rm_M_tick) 1 C.1.2.2.2.2 (gG_l tw_557) rfl rfl rfl (C.1.2.2.2.2 _ tw_5) (C.1.2.2.2.2 _ tw_554) ⟨by decide, by decide, by decide +kernel⟩ ⟨Nat.le_of_ble_eq_true rfl, Nat.le_of_ble_eq_true rfl⟩, (C.1.2.2.2.2 _ tw_555), (C.1.2.2.2.2 _ tw_556)⟩ (ci := 5) rfl (xs_icmp_eq C d_law_330 (by decide) (xs_iinc C d_law_611 (by decide) (by decide) (xs_goto C d_law_614 (by decide) (xs_jmp (fun _ _ _ _ _ h => h)))) (xs_iconst C d_law_333 (by decide) (hz _ d_law_334)))))))))))))))))
set_option maxRecDepth 20000 in
set_option maxHeartbeats 4000000 in
theorem slaw_289 {p : Program} {l : Launch} {e : Env} {s : State} {mm : MethodId} {args : Array Value} {below : List Frame} {meth : Method} {c : Code} {D : va_G} {A : Nat → Prop} {Rh : Option Value → xm_M → Prop} {Q : State → Prop} {b L : Nat} {xs : Nat → Int32} (C : xm_C p s mm args c code 4 "BlockVaultLaw" lw_gt D classes ats A) (hX : va_X b L xs s s.heap) (hbl : b < s.heap.size) (hbA : ¬ A b) (hz : ∀ pc, decode code pc = .ok (.ireturn, 1) → xm_le (xo_zret Rh) ((xm_A p l e room_1 s mm args below meth c 4 D classes A Q) pc)) : xm_le (claw_289 b L xs (xm_A p l e room_1 s mm args below meth c 4 D classes A Q) Rh) ((xm_A p l e room_1 s mm args below meth c 4 D classes A Q) 289) :=
  (xs_aload_n C d_law_289 rfl (xs_aload_n C d_law_290 rfl (xs_iload_n C d_law_291 rfl (xs_iconst C d_law_292 (by decide) (xs_iadd C d_law_293 (xs_sld C hX hbl hbA d_law_294 (xs_callV C (CN := "BlockVault") (T := F_V) (N := 8) d_law_295 (met_V_evict l D) ⟨callB_of (ws := w_V_evict) (rm := rm_V_evict) 1 C.1.2.2.2.2 (gG_l tw_258) rfl rfl rfl (C.1.2.2.2.2 _ tw_1) (C.1.2.2.2.2 _ tw_255) ⟨by decide, by decide, by decide +kernel⟩ ⟨Nat.le_of_ble_eq_true rfl, Nat.le_of_ble_eq_true rfl⟩, (C.1.2.2.2.2 _ tw_256), (C.1.2.2.2.2 _ tw_257)⟩ (ci := 0) rfl (xs_aload_n C d_law_298 rfl (xs_aload_n C d_law_299 rfl (xs_iload_n C d_law_300 rfl (xs_iconst C d_law_301 (by decide) (xs_iadd C d_law_302 (xs_sld C hX hbl hbA d_law_303 (xs_callV C (CN := "BlockVaultModel") (T := F_M) (N := 18) d_law_304 (met_M_evict l D) ⟨callB_of (ws := w_M_evict) (rm := rm_M_evict) 1 C.1.2.2.2.2 (gG_l tw_553) rfl rfl rfl (C.1.2.2.2.2 _ tw_5) (C.1.2.2.2.2 _ tw_550) ⟨by decide, by decide, by decide +kernel⟩ ⟨Nat.le_of_ble_eq_true rfl, Nat.le_of_ble_eq_true rfl⟩, (C.1.2.2.2.2 _ tw_551), (C.1.2.2.2.2 _ tw_552)⟩ (ci := 5) rfl (xs_icmp_eq C d_law_307 (by decide) (xs_iinc C d_law_611 (by decide) (by decide) (xs_goto C d_law_614 (by decide) (xs_jmp (fun _ _ _ _ _ h => h)))) (xs_iconst C d_law_310 (by decide) (hz _ d_law_311)))))))))))))))))
set_option maxRecDepth 20000 in
set_option maxHeartbeats 4000000 in
theorem slaw_281 {p : Program} {l : Launch} {e : Env} {s : State} {mm : MethodId} {args : Array Value} {below : List Frame} {meth : Method} {c : Code} {D : va_G} {A : Nat → Prop} {Rh : Option Value → xm_M → Prop} {Q : State → Prop} {b L : Nat} {xs : Nat → Int32} (C : xm_C p s mm args c code 4 "BlockVaultLaw" lw_gt D classes ats A) (hX : va_X b L xs s s.heap) (hbl : b < s.heap.size) (hbA : ¬ A b) (hz : ∀ pc, decode code pc = .ok (.ireturn, 1) → xm_le (xo_zret Rh) ((xm_A p l e room_1 s mm args below meth c 4 D classes A Q) pc)) : xm_le (claw_281 b L xs (xm_A p l e room_1 s mm args below meth c 4 D classes A Q) Rh) ((xm_A p l e room_1 s mm args below meth c 4 D classes A Q) 281) :=
  (xs_callV C (CN := "BlockVaultModel") (T := F_M) (N := 18) d_law_281 (met_M_remove l D) ⟨callB_of (ws := w_M_remove) (rm := rm_M_remove) 2 C.1.2.2.2.2 (gG_l tw_545) rfl rfl rfl (C.1.2.2.2.2 _ tw_5) (C.1.2.2.2.2 _ tw_542) ⟨by decide, by decide, by decide +kernel⟩ ⟨Nat.le_of_ble_eq_true rfl, Nat.le_of_ble_eq_true rfl⟩, (C.1.2.2.2.2 _ tw_543), (C.1.2.2.2.2 _ tw_544)⟩ (ci := 5) rfl (xs_icmp_eq C d_law_284 (by decide) (xs_iinc C d_law_611 (by decide) (by decide) (xs_goto C d_law_614 (by decide) (xs_jmp (fun _ _ _ _ _ h => h)))) (xs_iconst C d_law_287 (by decide) (hz _ d_law_288))))
set_option maxRecDepth 20000 in
set_option maxHeartbeats 4000000 in
theorem slaw_259 {p : Program} {l : Launch} {e : Env} {s : State} {mm : MethodId} {args : Array Value} {below : List Frame} {meth : Method} {c : Code} {D : va_G} {A : Nat → Prop} {Rh : Option Value → xm_M → Prop} {Q : State → Prop} {b L : Nat} {xs : Nat → Int32} (C : xm_C p s mm args c code 4 "BlockVaultLaw" lw_gt D classes ats A) (hX : va_X b L xs s s.heap) (hbl : b < s.heap.size) (hbA : ¬ A b) (hz : ∀ pc, decode code pc = .ok (.ireturn, 1) → xm_le (xo_zret Rh) ((xm_A p l e room_1 s mm args below meth c 4 D classes A Q) pc)) : xm_le (claw_259 b L xs (xm_A p l e room_1 s mm args below meth c 4 D classes A Q) Rh) ((xm_A p l e room_1 s mm args below meth c 4 D classes A Q) 259) :=
  (xs_callV C (CN := "BlockVault") (T := F_V) (N := 8) d_law_259 (met_V_remove l D) ⟨callB_of (ws := w_V_remove) (rm := rm_V_remove) 2 C.1.2.2.2.2 (gG_l tw_241) rfl rfl rfl (C.1.2.2.2.2 _ tw_1) (C.1.2.2.2.2 _ tw_238) ⟨by decide, by decide, by decide +kernel⟩ ⟨Nat.le_of_ble_eq_true rfl, Nat.le_of_ble_eq_true rfl⟩, (C.1.2.2.2.2 _ tw_239), (C.1.2.2.2.2 _ tw_240)⟩ (ci := 0) rfl (xs_aload_n C d_law_262 rfl (xs_aload_n C d_law_263 rfl (xs_iload_n C d_law_264 rfl (xs_iconst C d_law_265 (by decide) (xs_iadd C d_law_266 (xs_sld C hX hbl hbA d_law_267 (xs_aload_n C d_law_268 rfl (xs_iload_n C d_law_269 rfl (xs_iconst C d_law_270 (by decide) (xs_iadd C d_law_271 (xs_sld C hX hbl hbA d_law_272 (xs_if_eq C d_law_273 (by decide) (xs_iconst C d_law_280 (by decide) (xs_jmp (slaw_281 C hX hbl hbA hz))) (xs_iconst C d_law_276 (by decide) (xs_goto C d_law_277 (by decide) (xs_jmp (slaw_281 C hX hbl hbA hz)))))))))))))))))
set_option maxRecDepth 20000 in
set_option maxHeartbeats 4000000 in
theorem slaw_240 {p : Program} {l : Launch} {e : Env} {s : State} {mm : MethodId} {args : Array Value} {below : List Frame} {meth : Method} {c : Code} {D : va_G} {A : Nat → Prop} {Rh : Option Value → xm_M → Prop} {Q : State → Prop} {b L : Nat} {xs : Nat → Int32} (C : xm_C p s mm args c code 4 "BlockVaultLaw" lw_gt D classes ats A) (hX : va_X b L xs s s.heap) (hbl : b < s.heap.size) (hbA : ¬ A b) (hz : ∀ pc, decode code pc = .ok (.ireturn, 1) → xm_le (xo_zret Rh) ((xm_A p l e room_1 s mm args below meth c 4 D classes A Q) pc)) : xm_le (claw_240 b L xs (xm_A p l e room_1 s mm args below meth c 4 D classes A Q) Rh) ((xm_A p l e room_1 s mm args below meth c 4 D classes A Q) 240) :=
  (xs_aload_n C d_law_240 rfl (xs_aload_n C d_law_241 rfl (xs_iload_n C d_law_242 rfl (xs_iconst C d_law_243 (by decide) (xs_iadd C d_law_244 (xs_sld C hX hbl hbA d_law_245 (xs_aload_n C d_law_246 rfl (xs_iload_n C d_law_247 rfl (xs_iconst C d_law_248 (by decide) (xs_iadd C d_law_249 (xs_sld C hX hbl hbA d_law_250 (xs_if_eq C d_law_251 (by decide) (xs_iconst C d_law_258 (by decide) (xs_jmp (slaw_259 C hX hbl hbA hz))) (xs_iconst C d_law_254 (by decide) (xs_goto C d_law_255 (by decide) (xs_jmp (slaw_259 C hX hbl hbA hz))))))))))))))))
set_option maxRecDepth 20000 in
set_option maxHeartbeats 4000000 in
theorem slaw_207 {p : Program} {l : Launch} {e : Env} {s : State} {mm : MethodId} {args : Array Value} {below : List Frame} {meth : Method} {c : Code} {D : va_G} {A : Nat → Prop} {Rh : Option Value → xm_M → Prop} {Q : State → Prop} {b L : Nat} {xs : Nat → Int32} (C : xm_C p s mm args c code 4 "BlockVaultLaw" lw_gt D classes ats A) (hX : va_X b L xs s s.heap) (hbl : b < s.heap.size) (hbA : ¬ A b) (hz : ∀ pc, decode code pc = .ok (.ireturn, 1) → xm_le (xo_zret Rh) ((xm_A p l e room_1 s mm args below meth c 4 D classes A Q) pc)) : xm_le (claw_207 b L xs (xm_A p l e room_1 s mm args below meth c 4 D classes A Q) Rh) ((xm_A p l e room_1 s mm args below meth c 4 D classes A Q) 207) :=
  (xs_aload_n C d_law_207 rfl (xs_aload_n C d_law_208 rfl (xs_iload_n C d_law_209 rfl (xs_iconst C d_law_210 (by decide) (xs_iadd C d_law_211 (xs_sld C hX hbl hbA d_law_212 (xs_aload_n C d_law_213 rfl (xs_iload_n C d_law_214 rfl (xs_iconst C d_law_215 (by decide) (xs_iadd C d_law_216 (xs_sld C hX hbl hbA d_law_217 (xs_callV C (CN := "BlockVault") (T := F_V) (N := 8) d_law_218 (met_V_touch l D) ⟨callB_of (ws := w_V_touch) (rm := rm_V_touch) 2 C.1.2.2.2.2 (gG_l tw_237) rfl rfl rfl (C.1.2.2.2.2 _ tw_1) (C.1.2.2.2.2 _ tw_234) ⟨by decide, by decide, by decide +kernel⟩ ⟨Nat.le_of_ble_eq_true rfl, Nat.le_of_ble_eq_true rfl⟩, (C.1.2.2.2.2 _ tw_235), (C.1.2.2.2.2 _ tw_236)⟩ (ci := 0) rfl (xs_aload_n C d_law_221 rfl (xs_aload_n C d_law_222 rfl (xs_iload_n C d_law_223 rfl (xs_iconst C d_law_224 (by decide) (xs_iadd C d_law_225 (xs_sld C hX hbl hbA d_law_226 (xs_aload_n C d_law_227 rfl (xs_iload_n C d_law_228 rfl (xs_iconst C d_law_229 (by decide) (xs_iadd C d_law_230 (xs_sld C hX hbl hbA d_law_231 (xs_callV C (CN := "BlockVaultModel") (T := F_M) (N := 18) d_law_232 (met_M_touch l D) ⟨callB_of (ws := w_M_touch) (rm := rm_M_touch) 2 C.1.2.2.2.2 (gG_l tw_541) rfl rfl rfl (C.1.2.2.2.2 _ tw_5) (C.1.2.2.2.2 _ tw_538) ⟨by decide, by decide, by decide +kernel⟩ ⟨Nat.le_of_ble_eq_true rfl, Nat.le_of_ble_eq_true rfl⟩, (C.1.2.2.2.2 _ tw_539), (C.1.2.2.2.2 _ tw_540)⟩ (ci := 5) rfl (xs_icmp_eq C d_law_235 (by decide) (xs_iinc C d_law_611 (by decide) (by decide) (xs_goto C d_law_614 (by decide) (xs_jmp (fun _ _ _ _ _ h => h)))) (xs_iconst C d_law_238 (by decide) (hz _ d_law_239)))))))))))))))))))))))))))
set_option maxRecDepth 20000 in
set_option maxHeartbeats 4000000 in
theorem slaw_183 {p : Program} {l : Launch} {e : Env} {s : State} {mm : MethodId} {args : Array Value} {below : List Frame} {meth : Method} {c : Code} {D : va_G} {A : Nat → Prop} {Rh : Option Value → xm_M → Prop} {Q : State → Prop} {b L : Nat} {xs : Nat → Int32} (C : xm_C p s mm args c code 4 "BlockVaultLaw" lw_gt D classes ats A) (hX : va_X b L xs s s.heap) (hbl : b < s.heap.size) (hbA : ¬ A b) (hz : ∀ pc, decode code pc = .ok (.ireturn, 1) → xm_le (xo_zret Rh) ((xm_A p l e room_1 s mm args below meth c 4 D classes A Q) pc)) : xm_le (claw_183 b L xs (xm_A p l e room_1 s mm args below meth c 4 D classes A Q) Rh) ((xm_A p l e room_1 s mm args below meth c 4 D classes A Q) 183) :=
  (xs_aload_n C d_law_183 rfl (xs_aload_n C d_law_184 rfl (xs_iload_n C d_law_185 rfl (xs_iconst C d_law_186 (by decide) (xs_iadd C d_law_187 (xs_sld C hX hbl hbA d_law_188 (xs_callV C (CN := "BlockVault") (T := F_V) (N := 8) d_law_189 (met_V_get l D) ⟨callB_of (ws := w_V_get) (rm := rm_V_get) 1 C.1.2.2.2.2 (gG_l tw_232) rfl rfl rfl (C.1.2.2.2.2 _ tw_1) (C.1.2.2.2.2 _ tw_229) ⟨by decide, by decide, by decide +kernel⟩ ⟨Nat.le_of_ble_eq_true rfl, Nat.le_of_ble_eq_true rfl⟩, (C.1.2.2.2.2 _ tw_230), (C.1.2.2.2.2 _ tw_231)⟩ (ci := 0) rfl (xs_aload_n C d_law_192 rfl (xs_aload_n C d_law_193 rfl (xs_iload_n C d_law_194 rfl (xs_iconst C d_law_195 (by decide) (xs_iadd C d_law_196 (xs_sld C hX hbl hbA d_law_197 (xs_callV C (CN := "BlockVaultModel") (T := F_M) (N := 18) d_law_198 (met_M_get l D) ⟨callB_of (ws := w_M_get) (rm := rm_M_get) 1 C.1.2.2.2.2 (gG_l tw_536) rfl rfl rfl (C.1.2.2.2.2 _ tw_5) (C.1.2.2.2.2 _ tw_533) ⟨by decide, by decide, by decide +kernel⟩ ⟨Nat.le_of_ble_eq_true rfl, Nat.le_of_ble_eq_true rfl⟩, (C.1.2.2.2.2 _ tw_534), (C.1.2.2.2.2 _ tw_535)⟩ (ci := 5) rfl (xs_lcmp C d_law_201 (xs_if_eq C d_law_202 (by decide) (xs_iinc C d_law_611 (by decide) (by decide) (xs_goto C d_law_614 (by decide) (xs_jmp (fun _ _ _ _ _ h => h)))) (xs_iconst C d_law_205 (by decide) (hz _ d_law_206))))))))))))))))))
set_option maxRecDepth 20000 in
set_option maxHeartbeats 4000000 in
theorem slaw_120 {p : Program} {l : Launch} {e : Env} {s : State} {mm : MethodId} {args : Array Value} {below : List Frame} {meth : Method} {c : Code} {D : va_G} {A : Nat → Prop} {Rh : Option Value → xm_M → Prop} {Q : State → Prop} {b L : Nat} {xs : Nat → Int32} (C : xm_C p s mm args c code 4 "BlockVaultLaw" lw_gt D classes ats A) (hX : va_X b L xs s s.heap) (hbl : b < s.heap.size) (hbA : ¬ A b) (hz : ∀ pc, decode code pc = .ok (.ireturn, 1) → xm_le (xo_zret Rh) ((xm_A p l e room_1 s mm args below meth c 4 D classes A Q) pc)) : xm_le (claw_120 b L xs (xm_A p l e room_1 s mm args below meth c 4 D classes A Q) Rh) ((xm_A p l e room_1 s mm args below meth c 4 D classes A Q) 120) :=
  (xs_aload_n C d_law_120 rfl (xs_aload_n C d_law_121 rfl (xs_iload_n C d_law_122 rfl (xs_iconst C d_law_123 (by decide) (xs_iadd C d_law_124 (xs_sld C hX hbl hbA d_law_125 (xs_aload_n C d_law_126 rfl (xs_iload_n C d_law_127 rfl (xs_iconst C d_law_128 (by decide) (xs_iadd C d_law_129 (xs_sld C hX hbl hbA d_law_130 (xs_aload_n C d_law_131 rfl (xs_iload_n C d_law_132 rfl (xs_iconst C d_law_133 (by decide) (xs_iadd C d_law_134 (xs_sld C hX hbl hbA d_law_135 (xs_aload_n C d_law_136 rfl (xs_iload_n C d_law_137 rfl (xs_iconst C d_law_138 (by decide) (xs_iadd C d_law_139 (xs_sld C hX hbl hbA d_law_140 (xs_aload_n C d_law_141 rfl (xs_iload_n C d_law_142 rfl (xs_iconst C d_law_143 (by decide) (xs_iadd C d_law_144 (xs_sld C hX hbl hbA d_law_145 (xs_callV C (CN := "BlockVault") (T := F_V) (N := 8) d_law_146 (met_V_put l D) ⟨callB_of (ws := w_V_put) (rm := rm_V_put) 5 C.1.2.2.2.2 (gG_l tw_109) rfl rfl rfl (C.1.2.2.2.2 _ tw_1) (C.1.2.2.2.2 _ tw_106) ⟨by decide, by decide, by decide +kernel⟩ ⟨Nat.le_of_ble_eq_true rfl, Nat.le_of_ble_eq_true rfl⟩, (C.1.2.2.2.2 _ tw_107), (C.1.2.2.2.2 _ tw_108)⟩ (ci := 0) rfl (xs_aload_n C d_law_149 rfl (xs_aload_n C d_law_150 rfl (xs_iload_n C d_law_151 rfl (xs_iconst C d_law_152 (by decide) (xs_iadd C d_law_153 (xs_sld C hX hbl hbA d_law_154 (xs_aload_n C d_law_155 rfl (xs_iload_n C d_law_156 rfl (xs_iconst C d_law_157 (by decide) (xs_iadd C d_law_158 (xs_sld C hX hbl hbA d_law_159 (xs_aload_n C d_law_160 rfl (xs_iload_n C d_law_161 rfl (xs_iconst C d_law_162 (by decide) (xs_iadd C d_law_163 (xs_sld C hX hbl hbA d_law_164 (xs_aload_n C d_law_165 rfl (xs_iload_n C d_law_166 rfl (xs_iconst C d_law_167 (by decide) (xs_iadd C d_law_168 (xs_sld C hX hbl hbA d_law_169 (xs_aload_n C d_law_170 rfl (xs_iload_n C d_law_171 rfl (xs_iconst C d_law_172 (by decide) (xs_iadd C d_law_173 (xs_sld C hX hbl hbA d_law_174 (xs_callV C (CN := "BlockVaultModel") (T := F_M) (N := 18) d_law_175 (met_M_put l D) ⟨callB_of (ws := w_M_put) (rm := rm_M_put) 5 C.1.2.2.2.2 (gG_l tw_481) rfl rfl rfl (C.1.2.2.2.2 _ tw_5) (C.1.2.2.2.2 _ tw_478) ⟨by decide, by decide, by decide +kernel⟩ ⟨Nat.le_of_ble_eq_true rfl, Nat.le_of_ble_eq_true rfl⟩, (C.1.2.2.2.2 _ tw_479), (C.1.2.2.2.2 _ tw_480)⟩ (ci := 5) rfl (xs_icmp_eq C d_law_178 (by decide) (xs_iinc C d_law_611 (by decide) (by decide) (xs_goto C d_law_614 (by decide) (xs_jmp (fun _ _ _ _ _ h => h)))) (xs_iconst C d_law_181 (by decide) (hz _ d_law_182)))))))))))))))))))))))))))))))))))))))))))))))))))))))))
set_option maxRecDepth 20000 in
set_option maxHeartbeats 4000000 in
theorem slaw_18 {p : Program} {l : Launch} {e : Env} {s : State} {mm : MethodId} {args : Array Value} {below : List Frame} {meth : Method} {c : Code} {D : va_G} {A : Nat → Prop} {Rh : Option Value → xm_M → Prop} {Q : State → Prop} {b L : Nat} {xs : Nat → Int32} (C : xm_C p s mm args c code 4 "BlockVaultLaw" lw_gt D classes ats A) (hX : va_X b L xs s s.heap) (hbl : b < s.heap.size) (hbA : ¬ A b) (hz : ∀ pc, decode code pc = .ok (.ireturn, 1) → xm_le (xo_zret Rh) ((xm_A p l e room_1 s mm args below meth c 4 D classes A Q) pc)) : xm_le (claw_18 b L xs (xm_A p l e room_1 s mm args below meth c 4 D classes A Q) Rh) ((xm_A p l e room_1 s mm args below meth c 4 D classes A Q) 18) :=
  (xs_iload_n C d_law_18 rfl (xs_aload_n C d_law_19 rfl (xs_slen C hX hbl hbA d_law_20 (xs_bipush C d_law_21 (by decide) (xs_isub C d_law_23 (xs_icmp_gt C d_law_24 (by decide) (xs_iconst C d_law_617 (by decide) (hz _ d_law_618)) (xs_aload_n C d_law_27 rfl (xs_iload_n C d_law_28 rfl (xs_sld C hX hbl hbA d_law_29 (xs_bipush C d_law_30 (by decide) (xs_iand C d_law_32 (xs_tsw C d_law_33 rfl ⟨⟨120, by decide, (xs_jmp (slaw_120 C hX hbl hbA hz))⟩, ⟨⟨183, by decide, (xs_jmp (slaw_183 C hX hbl hbA hz))⟩, ⟨⟨207, by decide, (xs_jmp (slaw_207 C hX hbl hbA hz))⟩, ⟨⟨240, by decide, (xs_jmp (slaw_240 C hX hbl hbA hz))⟩, ⟨⟨289, by decide, (xs_jmp (slaw_289 C hX hbl hbA hz))⟩, ⟨⟨312, by decide, (xs_jmp (slaw_312 C hX hbl hbA hz))⟩, ⟨⟨335, by decide, (xs_jmp (slaw_335 C hX hbl hbA hz))⟩, ⟨⟨348, by decide, (xs_jmp (slaw_348 C hX hbl hbA hz))⟩, ⟨⟨361, by decide, (xs_jmp (slaw_361 C hX hbl hbA hz))⟩, ⟨⟨384, by decide, (xs_jmp (slaw_384 C hX hbl hbA hz))⟩, ⟨⟨407, by decide, (xs_jmp (slaw_407 C hX hbl hbA hz))⟩, ⟨⟨430, by decide, (xs_jmp (slaw_430 C hX hbl hbA hz))⟩, ⟨⟨443, by decide, (xs_jmp (slaw_443 C hX hbl hbA hz))⟩, ⟨⟨476, by decide, (xs_jmp (slaw_476 C hX hbl hbA hz))⟩, ⟨⟨499, by decide, (xs_jmp (slaw_499 C hX hbl hbA hz))⟩, ⟨⟨522, by decide, (xs_jmp (slaw_522 C hX hbl hbA hz))⟩, ⟨⟨555, by decide, (xs_jmp (slaw_555 C hX hbl hbA hz))⟩, ⟨⟨588, by decide, (xs_jmp (slaw_588 C hX hbl hbA hz))⟩, trivial⟩⟩⟩⟩⟩⟩⟩⟩⟩⟩⟩⟩⟩⟩⟩⟩⟩⟩ (tgd := 611) (by decide) (xs_iinc C d_law_611 (by decide) (by decide) (xs_goto C d_law_614 (by decide) (xs_jmp (fun _ _ _ _ _ h => h))))))))))))))))
set_option maxRecDepth 20000 in
set_option maxHeartbeats 4000000 in
theorem slaw_0 {p : Program} {l : Launch} {e : Env} {s : State} {mm : MethodId} {args : Array Value} {below : List Frame} {meth : Method} {c : Code} {D : va_G} {A : Nat → Prop} {Rh : Option Value → xm_M → Prop} {Q : State → Prop} {b L : Nat} {xs : Nat → Int32} (C : xm_C p s mm args c code 4 "BlockVaultLaw" lw_gt D classes ats A) (hX : va_X b L xs s s.heap) (hbl : b < s.heap.size) (hbA : ¬ A b) (hz : ∀ pc, decode code pc = .ok (.ireturn, 1) → xm_le (xo_zret Rh) ((xm_A p l e room_1 s mm args below meth c 4 D classes A Q) pc)) : xm_le (claw_0 b L xs (xm_A p l e room_1 s mm args below meth c 4 D classes A Q) Rh) ((xm_A p l e room_1 s mm args below meth c 4 D classes A Q) 0) :=
  (xs_new C d_law_0 hL_V t_V t_V_ok (ci := 0) rfl tw_9 tw_10 tw_1 (by decide +kernel) (xs_dup C d_law_3 (xs_callI C d_law_4 (met_V_init l D) ⟨callB_of (ws := w_V_init) (rm := rm_V_init) 0 C.1.2.2.2.2 (gG_l tw_13) rfl rfl rfl (C.1.2.2.2.2 _ tw_1) (C.1.2.2.2.2 _ tw_11) ⟨by decide, by decide, by decide +kernel⟩ ⟨Nat.le_of_ble_eq_true rfl, Nat.le_of_ble_eq_true rfl⟩, rfl, (C.1.2.2.2.2 _ tw_12)⟩ (xs_astore_n C d_law_7 rfl (by decide) (xs_new C d_law_8 hL_M t_M t_M_ok (ci := 5) rfl tw_415 tw_416 tw_5 (by decide +kernel) (xs_dup C d_law_11 (xs_callI C d_law_12 (met_M_init l D) ⟨callB_of (ws := w_M_init) (rm := rm_M_init) 0 C.1.2.2.2.2 (gG_l tw_419) rfl rfl rfl (C.1.2.2.2.2 _ tw_5) (C.1.2.2.2.2 _ tw_417) ⟨by decide, by decide, by decide +kernel⟩ ⟨Nat.le_of_ble_eq_true rfl, Nat.le_of_ble_eq_true rfl⟩, rfl, (C.1.2.2.2.2 _ tw_418)⟩ (xs_astore_n C d_law_15 rfl (by decide) (xs_iconst C d_law_16 (by decide) (xs_istore_n C d_law_17 rfl (by decide) (xs_jmp (fun _ _ _ _ _ h => h))))))))))))
