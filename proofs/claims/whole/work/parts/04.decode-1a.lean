theorem d_LA_law_0 : decode c_LA_law 0 = .ok (.new 7, 3) := by decide +kernel
theorem d_LA_law_3 : decode c_LA_law 3 = .ok (.dup, 1) := by decide +kernel
theorem d_LA_law_4 : decode c_LA_law 4 = .ok (.aload_n 0, 1) := by decide +kernel
theorem d_LA_law_5 : decode c_LA_law 5 = .ok (.iconst 0, 1) := by decide +kernel
theorem d_LA_law_6 : decode c_LA_law 6 = .ok (.invokestatic 9, 3) := by decide +kernel
theorem d_LA_law_9 : decode c_LA_law 9 = .ok (.aload_n 0, 1) := by decide +kernel
theorem d_LA_law_10 : decode c_LA_law 10 = .ok (.iconst 1, 1) := by decide +kernel
theorem d_LA_law_11 : decode c_LA_law 11 = .ok (.invokestatic 9, 3) := by decide +kernel
theorem d_LA_law_14 : decode c_LA_law 14 = .ok (.invokespecial 15, 3) := by decide +kernel
theorem d_LA_law_17 : decode c_LA_law 17 = .ok (.astore_n 1, 1) := by decide +kernel
theorem d_LA_law_18 : decode c_LA_law 18 = .ok (.new 18, 3) := by decide +kernel
theorem d_LA_law_21 : decode c_LA_law 21 = .ok (.dup, 1) := by decide +kernel
theorem d_LA_law_22 : decode c_LA_law 22 = .ok (.aload_n 0, 1) := by decide +kernel
theorem d_LA_law_23 : decode c_LA_law 23 = .ok (.iconst 0, 1) := by decide +kernel
theorem d_LA_law_24 : decode c_LA_law 24 = .ok (.invokestatic 9, 3) := by decide +kernel
theorem d_LA_law_27 : decode c_LA_law 27 = .ok (.aload_n 0, 1) := by decide +kernel
theorem d_LA_law_28 : decode c_LA_law 28 = .ok (.iconst 1, 1) := by decide +kernel
theorem d_LA_law_29 : decode c_LA_law 29 = .ok (.invokestatic 9, 3) := by decide +kernel
theorem d_LA_law_32 : decode c_LA_law 32 = .ok (.invokespecial 20, 3) := by decide +kernel
theorem d_LA_law_35 : decode c_LA_law 35 = .ok (.astore_n 2, 1) := by decide +kernel
theorem d_LA_law_36 : decode c_LA_law 36 = .ok (.iconst 2, 1) := by decide +kernel
theorem d_LA_law_37 : decode c_LA_law 37 = .ok (.istore_n 3, 1) := by decide +kernel
theorem d_LA_law_38 : decode c_LA_law 38 = .ok (.iload_n 3, 1) := by decide +kernel
theorem d_LA_law_39 : decode c_LA_law 39 = .ok (.aload_n 0, 1) := by decide +kernel
theorem d_LA_law_40 : decode c_LA_law 40 = .ok (.arraylength, 1) := by decide +kernel
theorem d_LA_law_41 : decode c_LA_law 41 = .ok (.iconst 3, 1) := by decide +kernel
theorem d_LA_law_42 : decode c_LA_law 42 = .ok (.isub, 1) := by decide +kernel
theorem d_LA_law_43 : decode c_LA_law 43 = .ok (.if_icmp .gt 415, 3) := by decide +kernel
theorem d_LA_law_46 : decode c_LA_law 46 = .ok (.aload_n 0, 1) := by decide +kernel
theorem d_LA_law_47 : decode c_LA_law 47 = .ok (.iload_n 3, 1) := by decide +kernel
theorem d_LA_law_48 : decode c_LA_law 48 = .ok (.iaload, 1) := by decide +kernel
theorem d_LA_law_49 : decode c_LA_law 49 = .ok (.bipush 15, 2) := by decide +kernel
theorem d_LA_law_51 : decode c_LA_law 51 = .ok (.iand, 1) := by decide +kernel
theorem d_LA_law_52 : decode c_LA_law 52 = .ok (.tableswitch 400 0 13 #[72, 125, 148, 171, 194, 217, 240, 273, 286, 319, 332, 355, 378, 389], 72) := by decide +kernel
theorem d_LA_law_124 : decode c_LA_law 124 = .ok (.aload_n 1, 1) := by decide +kernel
theorem d_LA_law_125 : decode c_LA_law 125 = .ok (.aload_n 0, 1) := by decide +kernel
theorem d_LA_law_126 : decode c_LA_law 126 = .ok (.iload_n 3, 1) := by decide +kernel
theorem d_LA_law_127 : decode c_LA_law 127 = .ok (.iconst 1, 1) := by decide +kernel
theorem d_LA_law_128 : decode c_LA_law 128 = .ok (.iadd, 1) := by decide +kernel
theorem d_LA_law_129 : decode c_LA_law 129 = .ok (.iaload, 1) := by decide +kernel
theorem d_LA_law_130 : decode c_LA_law 130 = .ok (.i2l, 1) := by decide +kernel
theorem d_LA_law_131 : decode c_LA_law 131 = .ok (.bipush 32, 2) := by decide +kernel
theorem d_LA_law_133 : decode c_LA_law 133 = .ok (.lshl, 1) := by decide +kernel
theorem d_LA_law_134 : decode c_LA_law 134 = .ok (.aload_n 0, 1) := by decide +kernel
theorem d_LA_law_135 : decode c_LA_law 135 = .ok (.iload_n 3, 1) := by decide +kernel
theorem d_LA_law_136 : decode c_LA_law 136 = .ok (.iconst 2, 1) := by decide +kernel
theorem d_LA_law_137 : decode c_LA_law 137 = .ok (.iadd, 1) := by decide +kernel
theorem d_LA_law_138 : decode c_LA_law 138 = .ok (.iaload, 1) := by decide +kernel
theorem d_LA_law_139 : decode c_LA_law 139 = .ok (.i2l, 1) := by decide +kernel
theorem d_LA_law_140 : decode c_LA_law 140 = .ok (.ldc2_w 21, 3) := by decide +kernel
theorem d_LA_law_143 : decode c_LA_law 143 = .ok (.land, 1) := by decide +kernel
theorem d_LA_law_144 : decode c_LA_law 144 = .ok (.lor, 1) := by decide +kernel
theorem d_LA_law_145 : decode c_LA_law 145 = .ok (.invokevirtual 23, 3) := by decide +kernel
theorem d_LA_law_148 : decode c_LA_law 148 = .ok (.aload_n 2, 1) := by decide +kernel
theorem d_LA_law_149 : decode c_LA_law 149 = .ok (.aload_n 0, 1) := by decide +kernel
theorem d_LA_law_150 : decode c_LA_law 150 = .ok (.iload_n 3, 1) := by decide +kernel
theorem d_LA_law_151 : decode c_LA_law 151 = .ok (.iconst 1, 1) := by decide +kernel
theorem d_LA_law_152 : decode c_LA_law 152 = .ok (.iadd, 1) := by decide +kernel
theorem d_LA_law_153 : decode c_LA_law 153 = .ok (.iaload, 1) := by decide +kernel
theorem d_LA_law_154 : decode c_LA_law 154 = .ok (.i2l, 1) := by decide +kernel
theorem d_LA_law_155 : decode c_LA_law 155 = .ok (.bipush 32, 2) := by decide +kernel
theorem d_LA_law_157 : decode c_LA_law 157 = .ok (.lshl, 1) := by decide +kernel
theorem d_LA_law_158 : decode c_LA_law 158 = .ok (.aload_n 0, 1) := by decide +kernel
theorem d_LA_law_159 : decode c_LA_law 159 = .ok (.iload_n 3, 1) := by decide +kernel
theorem d_LA_law_160 : decode c_LA_law 160 = .ok (.iconst 2, 1) := by decide +kernel
theorem d_LA_law_161 : decode c_LA_law 161 = .ok (.iadd, 1) := by decide +kernel
theorem d_LA_law_162 : decode c_LA_law 162 = .ok (.iaload, 1) := by decide +kernel
theorem d_LA_law_163 : decode c_LA_law 163 = .ok (.i2l, 1) := by decide +kernel
theorem d_LA_law_164 : decode c_LA_law 164 = .ok (.ldc2_w 21, 3) := by decide +kernel
theorem d_LA_law_167 : decode c_LA_law 167 = .ok (.land, 1) := by decide +kernel
theorem d_LA_law_168 : decode c_LA_law 168 = .ok (.lor, 1) := by decide +kernel
theorem d_LA_law_169 : decode c_LA_law 169 = .ok (.invokevirtual 27, 3) := by decide +kernel
theorem d_LA_law_172 : decode c_LA_law 172 = .ok (.if_icmp .eq 280, 3) := by decide +kernel
theorem d_LA_law_175 : decode c_LA_law 175 = .ok (.iconst 0, 1) := by decide +kernel
theorem d_LA_law_176 : decode c_LA_law 176 = .ok (.ireturn, 1) := by decide +kernel
theorem d_LA_law_177 : decode c_LA_law 177 = .ok (.aload_n 1, 1) := by decide +kernel
theorem d_LA_law_178 : decode c_LA_law 178 = .ok (.aload_n 0, 1) := by decide +kernel
theorem d_LA_law_179 : decode c_LA_law 179 = .ok (.iload_n 3, 1) := by decide +kernel
theorem d_LA_law_180 : decode c_LA_law 180 = .ok (.iconst 1, 1) := by decide +kernel
theorem d_LA_law_181 : decode c_LA_law 181 = .ok (.iadd, 1) := by decide +kernel
theorem d_LA_law_182 : decode c_LA_law 182 = .ok (.iaload, 1) := by decide +kernel
theorem d_LA_law_183 : decode c_LA_law 183 = .ok (.invokevirtual 28, 3) := by decide +kernel
theorem d_LA_law_186 : decode c_LA_law 186 = .ok (.aload_n 2, 1) := by decide +kernel
theorem d_LA_law_187 : decode c_LA_law 187 = .ok (.aload_n 0, 1) := by decide +kernel
theorem d_LA_law_188 : decode c_LA_law 188 = .ok (.iload_n 3, 1) := by decide +kernel
theorem d_LA_law_189 : decode c_LA_law 189 = .ok (.iconst 1, 1) := by decide +kernel
theorem d_LA_law_190 : decode c_LA_law 190 = .ok (.iadd, 1) := by decide +kernel
theorem d_LA_law_191 : decode c_LA_law 191 = .ok (.iaload, 1) := by decide +kernel
theorem d_LA_law_192 : decode c_LA_law 192 = .ok (.invokevirtual 32, 3) := by decide +kernel
theorem d_LA_law_195 : decode c_LA_law 195 = .ok (.if_icmp .eq 257, 3) := by decide +kernel
theorem d_LA_law_198 : decode c_LA_law 198 = .ok (.iconst 0, 1) := by decide +kernel
theorem d_LA_law_199 : decode c_LA_law 199 = .ok (.ireturn, 1) := by decide +kernel
theorem d_LA_law_200 : decode c_LA_law 200 = .ok (.aload_n 1, 1) := by decide +kernel
theorem d_LA_law_201 : decode c_LA_law 201 = .ok (.aload_n 0, 1) := by decide +kernel
theorem d_LA_law_202 : decode c_LA_law 202 = .ok (.iload_n 3, 1) := by decide +kernel
theorem d_LA_law_203 : decode c_LA_law 203 = .ok (.iconst 1, 1) := by decide +kernel
theorem d_LA_law_204 : decode c_LA_law 204 = .ok (.iadd, 1) := by decide +kernel
theorem d_LA_law_205 : decode c_LA_law 205 = .ok (.iaload, 1) := by decide +kernel
theorem d_LA_law_206 : decode c_LA_law 206 = .ok (.invokevirtual 33, 3) := by decide +kernel
theorem d_LA_law_209 : decode c_LA_law 209 = .ok (.aload_n 2, 1) := by decide +kernel
theorem d_LA_law_210 : decode c_LA_law 210 = .ok (.aload_n 0, 1) := by decide +kernel
theorem d_LA_law_211 : decode c_LA_law 211 = .ok (.iload_n 3, 1) := by decide +kernel
theorem d_LA_law_212 : decode c_LA_law 212 = .ok (.iconst 1, 1) := by decide +kernel
theorem d_LA_law_213 : decode c_LA_law 213 = .ok (.iadd, 1) := by decide +kernel
theorem d_LA_law_214 : decode c_LA_law 214 = .ok (.iaload, 1) := by decide +kernel
theorem d_LA_law_215 : decode c_LA_law 215 = .ok (.invokevirtual 36, 3) := by decide +kernel
theorem d_LA_law_218 : decode c_LA_law 218 = .ok (.if_icmp .eq 234, 3) := by decide +kernel
theorem d_LA_law_221 : decode c_LA_law 221 = .ok (.iconst 0, 1) := by decide +kernel
theorem d_LA_law_222 : decode c_LA_law 222 = .ok (.ireturn, 1) := by decide +kernel
theorem d_LA_law_223 : decode c_LA_law 223 = .ok (.aload_n 1, 1) := by decide +kernel
theorem d_LA_law_224 : decode c_LA_law 224 = .ok (.aload_n 0, 1) := by decide +kernel
theorem d_LA_law_225 : decode c_LA_law 225 = .ok (.iload_n 3, 1) := by decide +kernel
theorem d_LA_law_226 : decode c_LA_law 226 = .ok (.iconst 1, 1) := by decide +kernel
theorem d_LA_law_227 : decode c_LA_law 227 = .ok (.iadd, 1) := by decide +kernel
theorem d_LA_law_228 : decode c_LA_law 228 = .ok (.iaload, 1) := by decide +kernel
theorem d_LA_law_229 : decode c_LA_law 229 = .ok (.invokevirtual 37, 3) := by decide +kernel
theorem d_LA_law_232 : decode c_LA_law 232 = .ok (.aload_n 2, 1) := by decide +kernel
theorem d_LA_law_233 : decode c_LA_law 233 = .ok (.aload_n 0, 1) := by decide +kernel
theorem d_LA_law_234 : decode c_LA_law 234 = .ok (.iload_n 3, 1) := by decide +kernel
theorem d_LA_law_235 : decode c_LA_law 235 = .ok (.iconst 1, 1) := by decide +kernel
theorem d_LA_law_236 : decode c_LA_law 236 = .ok (.iadd, 1) := by decide +kernel
theorem d_LA_law_237 : decode c_LA_law 237 = .ok (.iaload, 1) := by decide +kernel
theorem d_LA_law_238 : decode c_LA_law 238 = .ok (.invokevirtual 41, 3) := by decide +kernel
theorem d_LA_law_241 : decode c_LA_law 241 = .ok (.if_icmp .eq 211, 3) := by decide +kernel
theorem d_LA_law_244 : decode c_LA_law 244 = .ok (.iconst 0, 1) := by decide +kernel
theorem d_LA_law_245 : decode c_LA_law 245 = .ok (.ireturn, 1) := by decide +kernel
theorem d_LA_law_246 : decode c_LA_law 246 = .ok (.aload_n 1, 1) := by decide +kernel
theorem d_LA_law_247 : decode c_LA_law 247 = .ok (.aload_n 0, 1) := by decide +kernel
theorem d_LA_law_248 : decode c_LA_law 248 = .ok (.iload_n 3, 1) := by decide +kernel
theorem d_LA_law_249 : decode c_LA_law 249 = .ok (.iconst 1, 1) := by decide +kernel
theorem d_LA_law_250 : decode c_LA_law 250 = .ok (.iadd, 1) := by decide +kernel
theorem d_LA_law_251 : decode c_LA_law 251 = .ok (.iaload, 1) := by decide +kernel
theorem d_LA_law_252 : decode c_LA_law 252 = .ok (.invokevirtual 42, 3) := by decide +kernel
theorem d_LA_law_255 : decode c_LA_law 255 = .ok (.aload_n 2, 1) := by decide +kernel
theorem d_LA_law_256 : decode c_LA_law 256 = .ok (.aload_n 0, 1) := by decide +kernel
theorem d_LA_law_257 : decode c_LA_law 257 = .ok (.iload_n 3, 1) := by decide +kernel
theorem d_LA_law_258 : decode c_LA_law 258 = .ok (.iconst 1, 1) := by decide +kernel
theorem d_LA_law_259 : decode c_LA_law 259 = .ok (.iadd, 1) := by decide +kernel
theorem d_LA_law_260 : decode c_LA_law 260 = .ok (.iaload, 1) := by decide +kernel
theorem d_LA_law_261 : decode c_LA_law 261 = .ok (.invokevirtual 45, 3) := by decide +kernel
theorem d_LA_law_264 : decode c_LA_law 264 = .ok (.if_icmp .eq 188, 3) := by decide +kernel
theorem d_LA_law_267 : decode c_LA_law 267 = .ok (.iconst 0, 1) := by decide +kernel
theorem d_LA_law_268 : decode c_LA_law 268 = .ok (.ireturn, 1) := by decide +kernel
theorem d_LA_law_269 : decode c_LA_law 269 = .ok (.aload_n 1, 1) := by decide +kernel
theorem d_LA_law_270 : decode c_LA_law 270 = .ok (.aload_n 0, 1) := by decide +kernel
theorem d_LA_law_271 : decode c_LA_law 271 = .ok (.iload_n 3, 1) := by decide +kernel
theorem d_LA_law_272 : decode c_LA_law 272 = .ok (.iconst 1, 1) := by decide +kernel
theorem d_LA_law_273 : decode c_LA_law 273 = .ok (.iadd, 1) := by decide +kernel
theorem d_LA_law_274 : decode c_LA_law 274 = .ok (.iaload, 1) := by decide +kernel
theorem d_LA_law_275 : decode c_LA_law 275 = .ok (.invokevirtual 46, 3) := by decide +kernel
theorem d_LA_law_278 : decode c_LA_law 278 = .ok (.aload_n 2, 1) := by decide +kernel
theorem d_LA_law_279 : decode c_LA_law 279 = .ok (.aload_n 0, 1) := by decide +kernel
theorem d_LA_law_280 : decode c_LA_law 280 = .ok (.iload_n 3, 1) := by decide +kernel
theorem d_LA_law_281 : decode c_LA_law 281 = .ok (.iconst 1, 1) := by decide +kernel
theorem d_LA_law_282 : decode c_LA_law 282 = .ok (.iadd, 1) := by decide +kernel
theorem d_LA_law_283 : decode c_LA_law 283 = .ok (.iaload, 1) := by decide +kernel
theorem d_LA_law_284 : decode c_LA_law 284 = .ok (.invokevirtual 49, 3) := by decide +kernel
theorem d_LA_law_287 : decode c_LA_law 287 = .ok (.if_icmp .eq 165, 3) := by decide +kernel
theorem d_LA_law_290 : decode c_LA_law 290 = .ok (.iconst 0, 1) := by decide +kernel
theorem d_LA_law_291 : decode c_LA_law 291 = .ok (.ireturn, 1) := by decide +kernel
theorem d_LA_law_292 : decode c_LA_law 292 = .ok (.aload_n 1, 1) := by decide +kernel
theorem d_LA_law_293 : decode c_LA_law 293 = .ok (.aload_n 0, 1) := by decide +kernel
theorem d_LA_law_294 : decode c_LA_law 294 = .ok (.iload_n 3, 1) := by decide +kernel
theorem d_LA_law_295 : decode c_LA_law 295 = .ok (.iconst 1, 1) := by decide +kernel
theorem d_LA_law_296 : decode c_LA_law 296 = .ok (.iadd, 1) := by decide +kernel
theorem d_LA_law_297 : decode c_LA_law 297 = .ok (.iaload, 1) := by decide +kernel
theorem d_LA_law_298 : decode c_LA_law 298 = .ok (.aload_n 0, 1) := by decide +kernel
theorem d_LA_law_299 : decode c_LA_law 299 = .ok (.iload_n 3, 1) := by decide +kernel
theorem d_LA_law_300 : decode c_LA_law 300 = .ok (.iconst 2, 1) := by decide +kernel
theorem d_LA_law_301 : decode c_LA_law 301 = .ok (.iadd, 1) := by decide +kernel
theorem d_LA_law_302 : decode c_LA_law 302 = .ok (.iaload, 1) := by decide +kernel
theorem d_LA_law_303 : decode c_LA_law 303 = .ok (.invokevirtual 50, 3) := by decide +kernel
theorem d_LA_law_306 : decode c_LA_law 306 = .ok (.aload_n 2, 1) := by decide +kernel
theorem d_LA_law_307 : decode c_LA_law 307 = .ok (.aload_n 0, 1) := by decide +kernel
theorem d_LA_law_308 : decode c_LA_law 308 = .ok (.iload_n 3, 1) := by decide +kernel
theorem d_LA_law_309 : decode c_LA_law 309 = .ok (.iconst 1, 1) := by decide +kernel
theorem d_LA_law_310 : decode c_LA_law 310 = .ok (.iadd, 1) := by decide +kernel
theorem d_LA_law_311 : decode c_LA_law 311 = .ok (.iaload, 1) := by decide +kernel
theorem d_LA_law_312 : decode c_LA_law 312 = .ok (.aload_n 0, 1) := by decide +kernel
theorem d_LA_law_313 : decode c_LA_law 313 = .ok (.iload_n 3, 1) := by decide +kernel
theorem d_LA_law_314 : decode c_LA_law 314 = .ok (.iconst 2, 1) := by decide +kernel
theorem d_LA_law_315 : decode c_LA_law 315 = .ok (.iadd, 1) := by decide +kernel
theorem d_LA_law_316 : decode c_LA_law 316 = .ok (.iaload, 1) := by decide +kernel
theorem d_LA_law_317 : decode c_LA_law 317 = .ok (.invokevirtual 54, 3) := by decide +kernel
theorem d_LA_law_320 : decode c_LA_law 320 = .ok (.if_icmp .eq 132, 3) := by decide +kernel
theorem d_LA_law_323 : decode c_LA_law 323 = .ok (.iconst 0, 1) := by decide +kernel
theorem d_LA_law_324 : decode c_LA_law 324 = .ok (.ireturn, 1) := by decide +kernel
theorem d_LA_law_325 : decode c_LA_law 325 = .ok (.aload_n 1, 1) := by decide +kernel
theorem d_LA_law_326 : decode c_LA_law 326 = .ok (.invokevirtual 55, 3) := by decide +kernel
theorem d_LA_law_329 : decode c_LA_law 329 = .ok (.aload_n 2, 1) := by decide +kernel
theorem d_LA_law_330 : decode c_LA_law 330 = .ok (.invokevirtual 59, 3) := by decide +kernel
theorem d_LA_law_333 : decode c_LA_law 333 = .ok (.if_icmp .eq 119, 3) := by decide +kernel
theorem d_LA_law_336 : decode c_LA_law 336 = .ok (.iconst 0, 1) := by decide +kernel
theorem d_LA_law_337 : decode c_LA_law 337 = .ok (.ireturn, 1) := by decide +kernel
theorem d_LA_law_338 : decode c_LA_law 338 = .ok (.aload_n 1, 1) := by decide +kernel
theorem d_LA_law_339 : decode c_LA_law 339 = .ok (.aload_n 0, 1) := by decide +kernel
theorem d_LA_law_340 : decode c_LA_law 340 = .ok (.iload_n 3, 1) := by decide +kernel
theorem d_LA_law_341 : decode c_LA_law 341 = .ok (.iconst 1, 1) := by decide +kernel
theorem d_LA_law_342 : decode c_LA_law 342 = .ok (.iadd, 1) := by decide +kernel
theorem d_LA_law_343 : decode c_LA_law 343 = .ok (.iaload, 1) := by decide +kernel
theorem d_LA_law_344 : decode c_LA_law 344 = .ok (.aload_n 0, 1) := by decide +kernel
theorem d_LA_law_345 : decode c_LA_law 345 = .ok (.iload_n 3, 1) := by decide +kernel
theorem d_LA_law_346 : decode c_LA_law 346 = .ok (.iconst 2, 1) := by decide +kernel
theorem d_LA_law_347 : decode c_LA_law 347 = .ok (.iadd, 1) := by decide +kernel
theorem d_LA_law_348 : decode c_LA_law 348 = .ok (.iaload, 1) := by decide +kernel
theorem d_LA_law_349 : decode c_LA_law 349 = .ok (.invokevirtual 60, 3) := by decide +kernel
theorem d_LA_law_352 : decode c_LA_law 352 = .ok (.aload_n 2, 1) := by decide +kernel
theorem d_LA_law_353 : decode c_LA_law 353 = .ok (.aload_n 0, 1) := by decide +kernel
theorem d_LA_law_354 : decode c_LA_law 354 = .ok (.iload_n 3, 1) := by decide +kernel
theorem d_LA_law_355 : decode c_LA_law 355 = .ok (.iconst 1, 1) := by decide +kernel
theorem d_LA_law_356 : decode c_LA_law 356 = .ok (.iadd, 1) := by decide +kernel
theorem d_LA_law_357 : decode c_LA_law 357 = .ok (.iaload, 1) := by decide +kernel
theorem d_LA_law_358 : decode c_LA_law 358 = .ok (.aload_n 0, 1) := by decide +kernel
theorem d_LA_law_359 : decode c_LA_law 359 = .ok (.iload_n 3, 1) := by decide +kernel
theorem d_LA_law_360 : decode c_LA_law 360 = .ok (.iconst 2, 1) := by decide +kernel
theorem d_LA_law_361 : decode c_LA_law 361 = .ok (.iadd, 1) := by decide +kernel
theorem d_LA_law_362 : decode c_LA_law 362 = .ok (.iaload, 1) := by decide +kernel
theorem d_LA_law_363 : decode c_LA_law 363 = .ok (.invokevirtual 63, 3) := by decide +kernel
theorem d_LA_law_366 : decode c_LA_law 366 = .ok (.if_icmp .eq 86, 3) := by decide +kernel
theorem d_LA_law_369 : decode c_LA_law 369 = .ok (.iconst 0, 1) := by decide +kernel
theorem d_LA_law_370 : decode c_LA_law 370 = .ok (.ireturn, 1) := by decide +kernel
theorem d_LA_law_371 : decode c_LA_law 371 = .ok (.aload_n 1, 1) := by decide +kernel
theorem d_LA_law_372 : decode c_LA_law 372 = .ok (.invokevirtual 64, 3) := by decide +kernel
theorem d_LA_law_375 : decode c_LA_law 375 = .ok (.aload_n 2, 1) := by decide +kernel
theorem d_LA_law_376 : decode c_LA_law 376 = .ok (.invokevirtual 67, 3) := by decide +kernel
theorem d_LA_law_379 : decode c_LA_law 379 = .ok (.if_icmp .eq 73, 3) := by decide +kernel
theorem d_LA_law_382 : decode c_LA_law 382 = .ok (.iconst 0, 1) := by decide +kernel
theorem d_LA_law_383 : decode c_LA_law 383 = .ok (.ireturn, 1) := by decide +kernel
theorem d_LA_law_384 : decode c_LA_law 384 = .ok (.aload_n 1, 1) := by decide +kernel
theorem d_LA_law_385 : decode c_LA_law 385 = .ok (.aload_n 0, 1) := by decide +kernel
theorem d_LA_law_386 : decode c_LA_law 386 = .ok (.iload_n 3, 1) := by decide +kernel
theorem d_LA_law_387 : decode c_LA_law 387 = .ok (.iconst 1, 1) := by decide +kernel
theorem d_LA_law_388 : decode c_LA_law 388 = .ok (.iadd, 1) := by decide +kernel
theorem d_LA_law_389 : decode c_LA_law 389 = .ok (.iaload, 1) := by decide +kernel
theorem d_LA_law_390 : decode c_LA_law 390 = .ok (.invokevirtual 68, 3) := by decide +kernel
theorem d_LA_law_393 : decode c_LA_law 393 = .ok (.aload_n 2, 1) := by decide +kernel
theorem d_LA_law_394 : decode c_LA_law 394 = .ok (.aload_n 0, 1) := by decide +kernel
theorem d_LA_law_395 : decode c_LA_law 395 = .ok (.iload_n 3, 1) := by decide +kernel
theorem d_LA_law_396 : decode c_LA_law 396 = .ok (.iconst 1, 1) := by decide +kernel
theorem d_LA_law_397 : decode c_LA_law 397 = .ok (.iadd, 1) := by decide +kernel
theorem d_LA_law_398 : decode c_LA_law 398 = .ok (.iaload, 1) := by decide +kernel
theorem d_LA_law_399 : decode c_LA_law 399 = .ok (.invokevirtual 71, 3) := by decide +kernel
theorem d_LA_law_402 : decode c_LA_law 402 = .ok (.if_icmp .eq 50, 3) := by decide +kernel
theorem d_LA_law_405 : decode c_LA_law 405 = .ok (.iconst 0, 1) := by decide +kernel
theorem d_LA_law_406 : decode c_LA_law 406 = .ok (.ireturn, 1) := by decide +kernel
theorem d_LA_law_407 : decode c_LA_law 407 = .ok (.aload_n 1, 1) := by decide +kernel
theorem d_LA_law_408 : decode c_LA_law 408 = .ok (.aload_n 0, 1) := by decide +kernel
theorem d_LA_law_409 : decode c_LA_law 409 = .ok (.iload_n 3, 1) := by decide +kernel
theorem d_LA_law_410 : decode c_LA_law 410 = .ok (.iconst 1, 1) := by decide +kernel
theorem d_LA_law_411 : decode c_LA_law 411 = .ok (.iadd, 1) := by decide +kernel
theorem d_LA_law_412 : decode c_LA_law 412 = .ok (.iaload, 1) := by decide +kernel
theorem d_LA_law_413 : decode c_LA_law 413 = .ok (.invokevirtual 72, 3) := by decide +kernel
theorem d_LA_law_416 : decode c_LA_law 416 = .ok (.aload_n 2, 1) := by decide +kernel
theorem d_LA_law_417 : decode c_LA_law 417 = .ok (.aload_n 0, 1) := by decide +kernel
theorem d_LA_law_418 : decode c_LA_law 418 = .ok (.iload_n 3, 1) := by decide +kernel
theorem d_LA_law_419 : decode c_LA_law 419 = .ok (.iconst 1, 1) := by decide +kernel
theorem d_LA_law_420 : decode c_LA_law 420 = .ok (.iadd, 1) := by decide +kernel
theorem d_LA_law_421 : decode c_LA_law 421 = .ok (.iaload, 1) := by decide +kernel
theorem d_LA_law_422 : decode c_LA_law 422 = .ok (.invokevirtual 75, 3) := by decide +kernel
theorem d_LA_law_425 : decode c_LA_law 425 = .ok (.if_icmp .eq 27, 3) := by decide +kernel
theorem d_LA_law_428 : decode c_LA_law 428 = .ok (.iconst 0, 1) := by decide +kernel
theorem d_LA_law_429 : decode c_LA_law 429 = .ok (.ireturn, 1) := by decide +kernel
theorem d_LA_law_430 : decode c_LA_law 430 = .ok (.aload_n 1, 1) := by decide +kernel
theorem d_LA_law_431 : decode c_LA_law 431 = .ok (.invokevirtual 76, 3) := by decide +kernel
theorem d_LA_law_434 : decode c_LA_law 434 = .ok (.aload_n 2, 1) := by decide +kernel
theorem d_LA_law_435 : decode c_LA_law 435 = .ok (.invokevirtual 79, 3) := by decide +kernel
theorem d_LA_law_438 : decode c_LA_law 438 = .ok (.goto 14, 3) := by decide +kernel
theorem d_LA_law_441 : decode c_LA_law 441 = .ok (.aload_n 1, 1) := by decide +kernel
theorem d_LA_law_442 : decode c_LA_law 442 = .ok (.invokevirtual 80, 3) := by decide +kernel
theorem d_LA_law_445 : decode c_LA_law 445 = .ok (.aload_n 2, 1) := by decide +kernel
theorem d_LA_law_446 : decode c_LA_law 446 = .ok (.invokevirtual 83, 3) := by decide +kernel
theorem d_LA_law_449 : decode c_LA_law 449 = .ok (.goto 3, 3) := by decide +kernel
theorem d_LA_law_452 : decode c_LA_law 452 = .ok (.iinc 3 3, 3) := by decide +kernel
theorem d_LA_law_455 : decode c_LA_law 455 = .ok (.goto (-417), 3) := by decide +kernel
theorem d_LA_law_458 : decode c_LA_law 458 = .ok (.iconst 1, 1) := by decide +kernel
theorem d_LA_law_459 : decode c_LA_law 459 = .ok (.ireturn, 1) := by decide +kernel
theorem d_PS_init_0 : decode c_PS_init 0 = .ok (.aload_n 0, 1) := by decide +kernel
theorem d_PS_init_1 : decode c_PS_init 1 = .ok (.invokespecial 1, 3) := by decide +kernel
theorem d_PS_init_4 : decode c_PS_init 4 = .ok (.aload_n 0, 1) := by decide +kernel
theorem d_PS_init_5 : decode c_PS_init 5 = .ok (.sipush 160, 3) := by decide +kernel
theorem d_PS_init_8 : decode c_PS_init 8 = .ok (.newarray .char, 2) := by decide +kernel
theorem d_PS_init_10 : decode c_PS_init 10 = .ok (.putfield 9, 3) := by decide +kernel
theorem d_PS_init_13 : decode c_PS_init 13 = .ok (.aload_n 0, 1) := by decide +kernel
theorem d_PS_init_14 : decode c_PS_init 14 = .ok (.iconst 0, 1) := by decide +kernel
theorem d_PS_init_15 : decode c_PS_init 15 = .ok (.putfield 13, 3) := by decide +kernel
theorem d_PS_init_18 : decode c_PS_init 18 = .ok (.aload_n 0, 1) := by decide +kernel
theorem d_PS_init_19 : decode c_PS_init 19 = .ok (.new 17, 3) := by decide +kernel
theorem d_PS_init_22 : decode c_PS_init 22 = .ok (.dup, 1) := by decide +kernel
theorem d_PS_init_23 : decode c_PS_init 23 = .ok (.invokespecial 19, 3) := by decide +kernel
theorem d_PS_init_26 : decode c_PS_init 26 = .ok (.putfield 20, 3) := by decide +kernel
theorem d_PS_init_29 : decode c_PS_init 29 = .ok (.aload_n 0, 1) := by decide +kernel
theorem d_PS_init_30 : decode c_PS_init 30 = .ok (.iconst 3, 1) := by decide +kernel
theorem d_PS_init_31 : decode c_PS_init 31 = .ok (.anewarray 24, 3) := by decide +kernel
theorem d_PS_init_34 : decode c_PS_init 34 = .ok (.putfield 26, 3) := by decide +kernel
theorem d_PS_init_37 : decode c_PS_init 37 = .ok (.aload_n 0, 1) := by decide +kernel
theorem d_PS_init_38 : decode c_PS_init 38 = .ok (.iconst 3, 1) := by decide +kernel
theorem d_PS_init_39 : decode c_PS_init 39 = .ok (.anewarray 24, 3) := by decide +kernel
theorem d_PS_init_42 : decode c_PS_init 42 = .ok (.putfield 30, 3) := by decide +kernel
theorem d_PS_init_45 : decode c_PS_init 45 = .ok (.aload_n 0, 1) := by decide +kernel
theorem d_PS_init_46 : decode c_PS_init 46 = .ok (.new 33, 3) := by decide +kernel
theorem d_PS_init_49 : decode c_PS_init 49 = .ok (.dup, 1) := by decide +kernel
theorem d_PS_init_50 : decode c_PS_init 50 = .ok (.invokespecial 35, 3) := by decide +kernel
theorem d_PS_init_53 : decode c_PS_init 53 = .ok (.putfield 36, 3) := by decide +kernel
theorem d_PS_init_56 : decode c_PS_init 56 = .ok (.aload_n 0, 1) := by decide +kernel
theorem d_PS_init_57 : decode c_PS_init 57 = .ok (.iconst 1, 1) := by decide +kernel
theorem d_PS_init_58 : decode c_PS_init 58 = .ok (.iload_n 1, 1) := by decide +kernel
theorem d_PS_init_59 : decode c_PS_init 59 = .ok (.bipush 7, 2) := by decide +kernel
theorem d_PS_init_61 : decode c_PS_init 61 = .ok (.iand, 1) := by decide +kernel
theorem d_PS_init_62 : decode c_PS_init 62 = .ok (.iadd, 1) := by decide +kernel
theorem d_PS_init_63 : decode c_PS_init 63 = .ok (.putfield 40, 3) := by decide +kernel
theorem d_PS_init_66 : decode c_PS_init 66 = .ok (.aload_n 0, 1) := by decide +kernel
theorem d_PS_init_67 : decode c_PS_init 67 = .ok (.iconst 1, 1) := by decide +kernel
theorem d_PS_init_68 : decode c_PS_init 68 = .ok (.iload_n 2, 1) := by decide +kernel
theorem d_PS_init_69 : decode c_PS_init 69 = .ok (.bipush 31, 2) := by decide +kernel
theorem d_PS_init_71 : decode c_PS_init 71 = .ok (.iand, 1) := by decide +kernel
theorem d_PS_init_72 : decode c_PS_init 72 = .ok (.iadd, 1) := by decide +kernel
theorem d_PS_init_73 : decode c_PS_init 73 = .ok (.putfield 43, 3) := by decide +kernel
theorem d_PS_init_76 : decode c_PS_init 76 = .ok (.return_, 1) := by decide +kernel
def ws_PS_init : List Cond := .code y_PS_init c_PS_init 3 none :: TBL
theorem d_SB_init_0 : decode c_SB_init 0 = .ok (.aload_n 0, 1) := by decide +kernel
theorem d_SB_init_1 : decode c_SB_init 1 = .ok (.bipush 16, 2) := by decide +kernel
theorem d_SB_init_3 : decode c_SB_init 3 = .ok (.invokespecial 1, 3) := by decide +kernel
theorem d_SB_init_6 : decode c_SB_init 6 = .ok (.return_, 1) := by decide +kernel
def ws_SB_init : List Cond := .code y_SB_init c_SB_init 1 none :: TBL
theorem d_AB_init_0 : decode c_AB_init 0 = .ok (.aload_n 0, 1) := by decide +kernel
theorem d_AB_init_1 : decode c_AB_init 1 = .ok (.invokespecial 3, 3) := by decide +kernel
theorem d_AB_init_4 : decode c_AB_init 4 = .ok (.getstatic 18, 3) := by decide +kernel
theorem d_AB_init_7 : decode c_AB_init 7 = .ok (.ifCond .eq 18, 3) := by decide +kernel
theorem d_AB_init_10 : decode c_AB_init 10 = .ok (.aload_n 0, 1) := by decide +kernel
theorem d_AB_init_11 : decode c_AB_init 11 = .ok (.iload_n 1, 1) := by decide +kernel
theorem d_AB_init_12 : decode c_AB_init 12 = .ok (.newarray .byte, 2) := by decide +kernel
theorem d_AB_init_14 : decode c_AB_init 14 = .ok (.putfield 15, 3) := by decide +kernel
theorem d_AB_init_17 : decode c_AB_init 17 = .ok (.aload_n 0, 1) := by decide +kernel
theorem d_AB_init_18 : decode c_AB_init 18 = .ok (.iconst 0, 1) := by decide +kernel
theorem d_AB_init_19 : decode c_AB_init 19 = .ok (.putfield 22, 3) := by decide +kernel
theorem d_AB_init_22 : decode c_AB_init 22 = .ok (.goto 16, 3) := by decide +kernel
theorem d_AB_init_25 : decode c_AB_init 25 = .ok (.aload_n 0, 1) := by decide +kernel
theorem d_AB_init_26 : decode c_AB_init 26 = .ok (.iload_n 1, 1) := by decide +kernel
theorem d_AB_init_27 : decode c_AB_init 27 = .ok (.invokestatic 26, 3) := by decide +kernel
theorem d_AB_init_30 : decode c_AB_init 30 = .ok (.putfield 15, 3) := by decide +kernel
theorem d_AB_init_33 : decode c_AB_init 33 = .ok (.aload_n 0, 1) := by decide +kernel
theorem d_AB_init_34 : decode c_AB_init 34 = .ok (.iconst 1, 1) := by decide +kernel
theorem d_AB_init_35 : decode c_AB_init 35 = .ok (.putfield 22, 3) := by decide +kernel
theorem d_AB_init_38 : decode c_AB_init 38 = .ok (.return_, 1) := by decide +kernel
def ws_AB_init : List Cond := .code y_AB_init c_AB_init 2 none :: TBL
theorem d_UT_newBytesFor_0 : decode c_UT_newBytesFor 0 = .ok (.iload_n 0, 1) := by decide +kernel
theorem d_UT_newBytesFor_1 : decode c_UT_newBytesFor 1 = .ok (.invokestatic 11, 3) := by decide +kernel
theorem d_UT_newBytesFor_4 : decode c_UT_newBytesFor 4 = .ok (.newarray .byte, 2) := by decide +kernel
theorem d_UT_newBytesFor_6 : decode c_UT_newBytesFor 6 = .ok (.areturn, 1) := by decide +kernel
def ws_UT_newBytesFor : List Cond := .code y_UT_newBytesFor c_UT_newBytesFor 1 (some (.array .byte)) :: TBL
theorem d_UT_newBytesLength_0 : decode c_UT_newBytesLength 0 = .ok (.iload_n 0, 1) := by decide +kernel
theorem d_UT_newBytesLength_1 : decode c_UT_newBytesLength 1 = .ok (.ifCond .ge 11, 3) := by decide +kernel
theorem d_UT_newBytesLength_4 : decode c_UT_newBytesLength 4 = .ok (.new 17, 3) := by decide +kernel
theorem d_UT_newBytesLength_7 : decode c_UT_newBytesLength 7 = .ok (.dup, 1) := by decide +kernel
theorem d_UT_newBytesLength_8 : decode c_UT_newBytesLength 8 = .ok (.invokespecial 19, 3) := by decide +kernel
theorem d_UT_newBytesLength_11 : decode c_UT_newBytesLength 11 = .ok (.athrow, 1) := by decide +kernel
theorem d_UT_newBytesLength_12 : decode c_UT_newBytesLength 12 = .ok (.iload_n 0, 1) := by decide +kernel
theorem d_UT_newBytesLength_13 : decode c_UT_newBytesLength 13 = .ok (.ldc 20, 2) := by decide +kernel
theorem d_UT_newBytesLength_15 : decode c_UT_newBytesLength 15 = .ok (.if_icmp .lt 40, 3) := by decide +kernel
theorem d_UT_newBytesLength_18 : decode c_UT_newBytesLength 18 = .ok (.new 21, 3) := by decide +kernel
theorem d_UT_newBytesLength_21 : decode c_UT_newBytesLength 21 = .ok (.dup, 1) := by decide +kernel
theorem d_UT_newBytesLength_22 : decode c_UT_newBytesLength 22 = .ok (.new 23, 3) := by decide +kernel
theorem d_UT_newBytesLength_25 : decode c_UT_newBytesLength 25 = .ok (.dup, 1) := by decide +kernel
theorem d_UT_newBytesLength_26 : decode c_UT_newBytesLength 26 = .ok (.invokespecial 25, 3) := by decide +kernel
theorem d_UT_newBytesLength_29 : decode c_UT_newBytesLength 29 = .ok (.ldc 26, 2) := by decide +kernel
theorem d_UT_newBytesLength_31 : decode c_UT_newBytesLength 31 = .ok (.invokevirtual 28, 3) := by decide +kernel
theorem d_UT_newBytesLength_34 : decode c_UT_newBytesLength 34 = .ok (.iload_n 0, 1) := by decide +kernel
theorem d_UT_newBytesLength_35 : decode c_UT_newBytesLength 35 = .ok (.invokevirtual 32, 3) := by decide +kernel
theorem d_UT_newBytesLength_38 : decode c_UT_newBytesLength 38 = .ok (.ldc 35, 2) := by decide +kernel
theorem d_UT_newBytesLength_40 : decode c_UT_newBytesLength 40 = .ok (.invokevirtual 28, 3) := by decide +kernel
theorem d_UT_newBytesLength_43 : decode c_UT_newBytesLength 43 = .ok (.ldc 20, 2) := by decide +kernel
theorem d_UT_newBytesLength_45 : decode c_UT_newBytesLength 45 = .ok (.invokevirtual 32, 3) := by decide +kernel
theorem d_UT_newBytesLength_48 : decode c_UT_newBytesLength 48 = .ok (.invokevirtual 37, 3) := by decide +kernel
theorem d_UT_newBytesLength_51 : decode c_UT_newBytesLength 51 = .ok (.invokespecial 41, 3) := by decide +kernel
theorem d_UT_newBytesLength_54 : decode c_UT_newBytesLength 54 = .ok (.athrow, 1) := by decide +kernel
theorem d_UT_newBytesLength_55 : decode c_UT_newBytesLength 55 = .ok (.iload_n 0, 1) := by decide +kernel
theorem d_UT_newBytesLength_56 : decode c_UT_newBytesLength 56 = .ok (.iconst 1, 1) := by decide +kernel
theorem d_UT_newBytesLength_57 : decode c_UT_newBytesLength 57 = .ok (.ishl, 1) := by decide +kernel
theorem d_UT_newBytesLength_58 : decode c_UT_newBytesLength 58 = .ok (.ireturn, 1) := by decide +kernel
def ws_UT_newBytesLength : List Cond := .code y_UT_newBytesLength c_UT_newBytesLength 1 (some .int) :: TBL
theorem d_AL_init_0 : decode c_AL_init 0 = .ok (.aload_n 0, 1) := by decide +kernel
theorem d_AL_init_1 : decode c_AL_init 1 = .ok (.invokespecial 1, 3) := by decide +kernel
theorem d_AL_init_4 : decode c_AL_init 4 = .ok (.aload_n 0, 1) := by decide +kernel
theorem d_AL_init_5 : decode c_AL_init 5 = .ok (.getstatic 39, 3) := by decide +kernel
theorem d_AL_init_8 : decode c_AL_init 8 = .ok (.putfield 9, 3) := by decide +kernel
theorem d_AL_init_11 : decode c_AL_init 11 = .ok (.return_, 1) := by decide +kernel
def ws_AL_init : List Cond := .code y_AL_init c_AL_init 1 none :: TBL
theorem d_LI_init_0 : decode c_LI_init 0 = .ok (.aload_n 0, 1) := by decide +kernel
theorem d_LI_init_1 : decode c_LI_init 1 = .ok (.invokespecial 1, 3) := by decide +kernel
theorem d_LI_init_4 : decode c_LI_init 4 = .ok (.aload_n 0, 1) := by decide +kernel
theorem d_LI_init_5 : decode c_LI_init 5 = .ok (.iconst 0, 1) := by decide +kernel
theorem d_LI_init_6 : decode c_LI_init 6 = .ok (.putfield 7, 3) := by decide +kernel
theorem d_LI_init_9 : decode c_LI_init 9 = .ok (.return_, 1) := by decide +kernel
def ws_LI_init : List Cond := .code y_LI_init c_LI_init 1 none :: TBL
theorem d_CO_init_0 : decode c_CO_init 0 = .ok (.aload_n 0, 1) := by decide +kernel
theorem d_CO_init_1 : decode c_CO_init 1 = .ok (.invokespecial 1, 3) := by decide +kernel
theorem d_CO_init_4 : decode c_CO_init 4 = .ok (.return_, 1) := by decide +kernel
def ws_CO_init : List Cond := .code y_CO_init c_CO_init 1 none :: TBL
theorem d_PS_write_0 : decode c_PS_write 0 = .ok (.aload_n 0, 1) := by decide +kernel
theorem d_PS_write_1 : decode c_PS_write 1 = .ok (.getfield 13, 3) := by decide +kernel
theorem d_PS_write_4 : decode c_PS_write 4 = .ok (.istore_n 3, 1) := by decide +kernel
theorem d_PS_write_5 : decode c_PS_write 5 = .ok (.bipush 56, 2) := by decide +kernel
theorem d_PS_write_7 : decode c_PS_write 7 = .ok (.istore 4, 2) := by decide +kernel
theorem d_PS_write_9 : decode c_PS_write 9 = .ok (.iload 4, 2) := by decide +kernel
theorem d_PS_write_11 : decode c_PS_write 11 = .ok (.ifCond .lt 63, 3) := by decide +kernel
theorem d_PS_write_14 : decode c_PS_write 14 = .ok (.lload_n 1, 1) := by decide +kernel
theorem d_PS_write_15 : decode c_PS_write 15 = .ok (.iload 4, 2) := by decide +kernel
theorem d_PS_write_17 : decode c_PS_write 17 = .ok (.lushr, 1) := by decide +kernel
theorem d_PS_write_18 : decode c_PS_write 18 = .ok (.l2i, 1) := by decide +kernel
theorem d_PS_write_19 : decode c_PS_write 19 = .ok (.sipush 255, 3) := by decide +kernel
theorem d_PS_write_22 : decode c_PS_write 22 = .ok (.iand, 1) := by decide +kernel
theorem d_PS_write_23 : decode c_PS_write 23 = .ok (.istore 5, 2) := by decide +kernel
theorem d_PS_write_25 : decode c_PS_write 25 = .ok (.iload 5, 2) := by decide +kernel
theorem d_PS_write_27 : decode c_PS_write 27 = .ok (.ifCond .ne 6, 3) := by decide +kernel
theorem d_PS_write_30 : decode c_PS_write 30 = .ok (.goto 38, 3) := by decide +kernel
theorem d_PS_write_33 : decode c_PS_write 33 = .ok (.iload 5, 2) := by decide +kernel
theorem d_PS_write_35 : decode c_PS_write 35 = .ok (.bipush 32, 2) := by decide +kernel
theorem d_PS_write_37 : decode c_PS_write 37 = .ok (.if_icmp .lt 17, 3) := by decide +kernel
theorem d_PS_write_40 : decode c_PS_write 40 = .ok (.iload 5, 2) := by decide +kernel
theorem d_PS_write_42 : decode c_PS_write 42 = .ok (.bipush 126, 2) := by decide +kernel
theorem d_PS_write_44 : decode c_PS_write 44 = .ok (.if_icmp .gt 10, 3) := by decide +kernel
theorem d_PS_write_47 : decode c_PS_write 47 = .ok (.iload_n 3, 1) := by decide +kernel
theorem d_PS_write_48 : decode c_PS_write 48 = .ok (.sipush 160, 3) := by decide +kernel
theorem d_PS_write_51 : decode c_PS_write 51 = .ok (.if_icmp .lt 5, 3) := by decide +kernel
theorem d_PS_write_54 : decode c_PS_write 54 = .ok (.iconst 0, 1) := by decide +kernel
theorem d_PS_write_55 : decode c_PS_write 55 = .ok (.ireturn, 1) := by decide +kernel
theorem d_PS_write_56 : decode c_PS_write 56 = .ok (.aload_n 0, 1) := by decide +kernel
theorem d_PS_write_57 : decode c_PS_write 57 = .ok (.getfield 9, 3) := by decide +kernel
theorem d_PS_write_60 : decode c_PS_write 60 = .ok (.iload_n 3, 1) := by decide +kernel
theorem d_PS_write_61 : decode c_PS_write 61 = .ok (.iload 5, 2) := by decide +kernel
theorem d_PS_write_63 : decode c_PS_write 63 = .ok (.i2c, 1) := by decide +kernel
theorem d_PS_write_64 : decode c_PS_write 64 = .ok (.castore, 1) := by decide +kernel
theorem d_PS_write_65 : decode c_PS_write 65 = .ok (.iinc 3 1, 3) := by decide +kernel
theorem d_PS_write_68 : decode c_PS_write 68 = .ok (.iinc 4 (-8), 3) := by decide +kernel
theorem d_PS_write_71 : decode c_PS_write 71 = .ok (.goto (-62), 3) := by decide +kernel
theorem d_PS_write_74 : decode c_PS_write 74 = .ok (.aload_n 0, 1) := by decide +kernel
theorem d_PS_write_75 : decode c_PS_write 75 = .ok (.iload_n 3, 1) := by decide +kernel
theorem d_PS_write_76 : decode c_PS_write 76 = .ok (.putfield 13, 3) := by decide +kernel
theorem d_PS_write_79 : decode c_PS_write 79 = .ok (.iconst 1, 1) := by decide +kernel
theorem d_PS_write_80 : decode c_PS_write 80 = .ok (.ireturn, 1) := by decide +kernel
def ws_PS_write : List Cond := .code y_PS_write c_PS_write 6 (some .boolean) :: TBL
theorem d_PS_put_0 : decode c_PS_put 0 = .ok (.aload_n 0, 1) := by decide +kernel
theorem d_PS_put_1 : decode c_PS_put 1 = .ok (.invokevirtual 46, 3) := by decide +kernel
theorem d_PS_put_4 : decode c_PS_put 4 = .ok (.astore_n 2, 1) := by decide +kernel
theorem d_PS_put_5 : decode c_PS_put 5 = .ok (.iload_n 1, 1) := by decide +kernel
theorem d_PS_put_6 : decode c_PS_put 6 = .ok (.ifCond .lt 8, 3) := by decide +kernel
theorem d_PS_put_9 : decode c_PS_put 9 = .ok (.iload_n 1, 1) := by decide +kernel
theorem d_PS_put_10 : decode c_PS_put 10 = .ok (.iconst 3, 1) := by decide +kernel
theorem d_PS_put_11 : decode c_PS_put 11 = .ok (.if_icmp .lt 5, 3) := by decide +kernel
theorem d_PS_put_14 : decode c_PS_put 14 = .ok (.iconst (-1), 1) := by decide +kernel
theorem d_PS_put_15 : decode c_PS_put 15 = .ok (.ireturn, 1) := by decide +kernel
theorem d_PS_put_16 : decode c_PS_put 16 = .ok (.new 50, 3) := by decide +kernel
theorem d_PS_put_19 : decode c_PS_put 19 = .ok (.dup, 1) := by decide +kernel
theorem d_PS_put_20 : decode c_PS_put 20 = .ok (.aload_n 2, 1) := by decide +kernel
theorem d_PS_put_21 : decode c_PS_put 21 = .ok (.aload_n 0, 1) := by decide +kernel
theorem d_PS_put_22 : decode c_PS_put 22 = .ok (.getfield 40, 3) := by decide +kernel
theorem d_PS_put_25 : decode c_PS_put 25 = .ok (.invokespecial 52, 3) := by decide +kernel
theorem d_PS_put_28 : decode c_PS_put 28 = .ok (.astore_n 3, 1) := by decide +kernel
theorem d_PS_put_29 : decode c_PS_put 29 = .ok (.aload_n 3, 1) := by decide +kernel
theorem d_PS_put_30 : decode c_PS_put 30 = .ok (.invokevirtual 55, 3) := by decide +kernel
theorem d_PS_put_33 : decode c_PS_put 33 = .ok (.astore 4, 2) := by decide +kernel
theorem d_PS_put_35 : decode c_PS_put 35 = .ok (.aload 4, 2) := by decide +kernel
theorem d_PS_put_37 : decode c_PS_put 37 = .ok (.ifnonnull 8, 3) := by decide +kernel
theorem d_PS_put_40 : decode c_PS_put 40 = .ok (.aload_n 3, 1) := by decide +kernel
theorem d_PS_put_41 : decode c_PS_put 41 = .ok (.getfield 59, 3) := by decide +kernel
theorem d_PS_put_44 : decode c_PS_put 44 = .ok (.ireturn, 1) := by decide +kernel
theorem d_PS_put_45 : decode c_PS_put 45 = .ok (.aload 4, 2) := by decide +kernel
theorem d_PS_put_47 : decode c_PS_put 47 = .ok (.getfield 62, 3) := by decide +kernel
theorem d_PS_put_50 : decode c_PS_put 50 = .ok (.aload_n 0, 1) := by decide +kernel
theorem d_PS_put_51 : decode c_PS_put 51 = .ok (.getfield 43, 3) := by decide +kernel
theorem d_PS_put_54 : decode c_PS_put 54 = .ok (.if_icmp .le 5, 3) := by decide +kernel
theorem d_PS_put_57 : decode c_PS_put 57 = .ok (.iconst 4, 1) := by decide +kernel
theorem d_PS_put_58 : decode c_PS_put 58 = .ok (.ireturn, 1) := by decide +kernel
theorem d_PS_put_59 : decode c_PS_put 59 = .ok (.aload_n 0, 1) := by decide +kernel
theorem d_PS_put_60 : decode c_PS_put 60 = .ok (.getfield 26, 3) := by decide +kernel
theorem d_PS_put_63 : decode c_PS_put 63 = .ok (.iload_n 1, 1) := by decide +kernel
theorem d_PS_put_64 : decode c_PS_put 64 = .ok (.aload 4, 2) := by decide +kernel
theorem d_PS_put_66 : decode c_PS_put 66 = .ok (.aastore, 1) := by decide +kernel
theorem d_PS_put_67 : decode c_PS_put 67 = .ok (.iconst 0, 1) := by decide +kernel
theorem d_PS_put_68 : decode c_PS_put 68 = .ok (.ireturn, 1) := by decide +kernel
def ws_PS_put : List Cond := .code y_PS_put c_PS_put 5 (some .int) :: TBL
theorem d_PS_takeDraft_0 : decode c_PS_takeDraft 0 = .ok (.new 133, 3) := by decide +kernel
theorem d_PS_takeDraft_3 : decode c_PS_takeDraft 3 = .ok (.dup, 1) := by decide +kernel
theorem d_PS_takeDraft_4 : decode c_PS_takeDraft 4 = .ok (.aload_n 0, 1) := by decide +kernel
theorem d_PS_takeDraft_5 : decode c_PS_takeDraft 5 = .ok (.getfield 9, 3) := by decide +kernel
theorem d_PS_takeDraft_8 : decode c_PS_takeDraft 8 = .ok (.aload_n 0, 1) := by decide +kernel
theorem d_PS_takeDraft_9 : decode c_PS_takeDraft 9 = .ok (.getfield 13, 3) := by decide +kernel
theorem d_PS_takeDraft_12 : decode c_PS_takeDraft 12 = .ok (.aload_n 0, 1) := by decide +kernel
theorem d_PS_takeDraft_13 : decode c_PS_takeDraft 13 = .ok (.getfield 20, 3) := by decide +kernel
theorem d_PS_takeDraft_16 : decode c_PS_takeDraft 16 = .ok (.invokespecial 135, 3) := by decide +kernel
theorem d_PS_takeDraft_19 : decode c_PS_takeDraft 19 = .ok (.astore_n 1, 1) := by decide +kernel
theorem d_PS_takeDraft_20 : decode c_PS_takeDraft 20 = .ok (.aload_n 0, 1) := by decide +kernel
theorem d_PS_takeDraft_21 : decode c_PS_takeDraft 21 = .ok (.iconst 0, 1) := by decide +kernel
theorem d_PS_takeDraft_22 : decode c_PS_takeDraft 22 = .ok (.putfield 13, 3) := by decide +kernel
theorem d_PS_takeDraft_25 : decode c_PS_takeDraft 25 = .ok (.aload_n 1, 1) := by decide +kernel
theorem d_PS_takeDraft_26 : decode c_PS_takeDraft 26 = .ok (.areturn, 1) := by decide +kernel
def ws_PS_takeDraft : List Cond := .code y_PS_takeDraft c_PS_takeDraft 2 (some (.object "PatchStore$Cursor")) :: TBL
theorem d_CU_init_0 : decode c_CU_init 0 = .ok (.aload_n 0, 1) := by decide +kernel
theorem d_CU_init_1 : decode c_CU_init 1 = .ok (.invokespecial 3, 3) := by decide +kernel
theorem d_CU_init_4 : decode c_CU_init 4 = .ok (.aload_n 0, 1) := by decide +kernel
theorem d_CU_init_5 : decode c_CU_init 5 = .ok (.iconst 0, 1) := by decide +kernel
theorem d_CU_init_6 : decode c_CU_init 6 = .ok (.putfield 9, 3) := by decide +kernel
theorem d_CU_init_9 : decode c_CU_init 9 = .ok (.aload_n 0, 1) := by decide +kernel
theorem d_CU_init_10 : decode c_CU_init 10 = .ok (.aload_n 1, 1) := by decide +kernel
theorem d_CU_init_11 : decode c_CU_init 11 = .ok (.putfield 15, 3) := by decide +kernel
theorem d_CU_init_14 : decode c_CU_init 14 = .ok (.aload_n 0, 1) := by decide +kernel
theorem d_CU_init_15 : decode c_CU_init 15 = .ok (.iload_n 2, 1) := by decide +kernel
theorem d_CU_init_16 : decode c_CU_init 16 = .ok (.putfield 19, 3) := by decide +kernel
theorem d_CU_init_19 : decode c_CU_init 19 = .ok (.aload_n 0, 1) := by decide +kernel
theorem d_CU_init_20 : decode c_CU_init 20 = .ok (.aload_n 3, 1) := by decide +kernel
theorem d_CU_init_21 : decode c_CU_init 21 = .ok (.putfield 22, 3) := by decide +kernel
theorem d_CU_init_24 : decode c_CU_init 24 = .ok (.return_, 1) := by decide +kernel
def ws_CU_init : List Cond := .code y_CU_init c_CU_init 4 none :: TBL
theorem d_JR_init_0 : decode c_JR_init 0 = .ok (.aload_n 0, 1) := by decide +kernel
theorem d_JR_init_1 : decode c_JR_init 1 = .ok (.invokespecial 3, 3) := by decide +kernel
theorem d_JR_init_4 : decode c_JR_init 4 = .ok (.aload_n 0, 1) := by decide +kernel
theorem d_JR_init_5 : decode c_JR_init 5 = .ok (.iconst 1, 1) := by decide +kernel
theorem d_JR_init_6 : decode c_JR_init 6 = .ok (.putfield 9, 3) := by decide +kernel
theorem d_JR_init_9 : decode c_JR_init 9 = .ok (.aload_n 0, 1) := by decide +kernel
theorem d_JR_init_10 : decode c_JR_init 10 = .ok (.aload_n 1, 1) := by decide +kernel
theorem d_JR_init_11 : decode c_JR_init 11 = .ok (.putfield 15, 3) := by decide +kernel
theorem d_JR_init_14 : decode c_JR_init 14 = .ok (.aload_n 0, 1) := by decide +kernel
theorem d_JR_init_15 : decode c_JR_init 15 = .ok (.iload_n 2, 1) := by decide +kernel
theorem d_JR_init_16 : decode c_JR_init 16 = .ok (.putfield 19, 3) := by decide +kernel
theorem d_JR_init_19 : decode c_JR_init 19 = .ok (.return_, 1) := by decide +kernel
def ws_JR_init : List Cond := .code y_JR_init c_JR_init 3 none :: TBL
theorem d_JR_whole_0 : decode c_JR_whole 0 = .ok (.aload_n 0, 1) := by decide +kernel
theorem d_JR_whole_1 : decode c_JR_whole 1 = .ok (.getfield 15, 3) := by decide +kernel
theorem d_JR_whole_4 : decode c_JR_whole 4 = .ok (.invokevirtual 22, 3) := by decide +kernel
theorem d_JR_whole_7 : decode c_JR_whole 7 = .ok (.aload_n 0, 1) := by decide +kernel
theorem d_JR_whole_8 : decode c_JR_whole 8 = .ok (.iconst 0, 1) := by decide +kernel
theorem d_JR_whole_9 : decode c_JR_whole 9 = .ok (.invokevirtual 27, 3) := by decide +kernel
theorem d_JR_whole_12 : decode c_JR_whole 12 = .ok (.astore_n 1, 1) := by decide +kernel
theorem d_JR_whole_13 : decode c_JR_whole 13 = .ok (.aload_n 0, 1) := by decide +kernel
theorem d_JR_whole_14 : decode c_JR_whole 14 = .ok (.getfield 15, 3) := by decide +kernel
theorem d_JR_whole_17 : decode c_JR_whole 17 = .ok (.invokevirtual 22, 3) := by decide +kernel
theorem d_JR_whole_20 : decode c_JR_whole 20 = .ok (.aload_n 0, 1) := by decide +kernel
theorem d_JR_whole_21 : decode c_JR_whole 21 = .ok (.getfield 15, 3) := by decide +kernel
theorem d_JR_whole_24 : decode c_JR_whole 24 = .ok (.invokevirtual 31, 3) := by decide +kernel
theorem d_JR_whole_27 : decode c_JR_whole 27 = .ok (.ifCond .ne 7, 3) := by decide +kernel
theorem d_JR_whole_30 : decode c_JR_whole 30 = .ok (.aload_n 1, 1) := by decide +kernel
theorem d_JR_whole_31 : decode c_JR_whole 31 = .ok (.goto 4, 3) := by decide +kernel
theorem d_JR_whole_34 : decode c_JR_whole 34 = .ok (.aconst_null, 1) := by decide +kernel
theorem d_JR_whole_35 : decode c_JR_whole 35 = .ok (.areturn, 1) := by decide +kernel
def ws_JR_whole : List Cond := .code y_JR_whole c_JR_whole 2 (some (.object "PatchStore$Value")) :: TBL
theorem d_CU_skipBlanks_0 : decode c_CU_skipBlanks 0 = .ok (.aload_n 0, 1) := by decide +kernel
theorem d_CU_skipBlanks_1 : decode c_CU_skipBlanks 1 = .ok (.getfield 9, 3) := by decide +kernel
theorem d_CU_skipBlanks_4 : decode c_CU_skipBlanks 4 = .ok (.aload_n 0, 1) := by decide +kernel
theorem d_CU_skipBlanks_5 : decode c_CU_skipBlanks 5 = .ok (.getfield 19, 3) := by decide +kernel
theorem d_CU_skipBlanks_8 : decode c_CU_skipBlanks 8 = .ok (.if_icmp .ge 30, 3) := by decide +kernel
theorem d_CU_skipBlanks_11 : decode c_CU_skipBlanks 11 = .ok (.aload_n 0, 1) := by decide +kernel
theorem d_CU_skipBlanks_12 : decode c_CU_skipBlanks 12 = .ok (.getfield 15, 3) := by decide +kernel
theorem d_CU_skipBlanks_15 : decode c_CU_skipBlanks 15 = .ok (.aload_n 0, 1) := by decide +kernel
theorem d_CU_skipBlanks_16 : decode c_CU_skipBlanks 16 = .ok (.getfield 9, 3) := by decide +kernel
theorem d_CU_skipBlanks_19 : decode c_CU_skipBlanks 19 = .ok (.caload, 1) := by decide +kernel
theorem d_CU_skipBlanks_20 : decode c_CU_skipBlanks 20 = .ok (.bipush 32, 2) := by decide +kernel
theorem d_CU_skipBlanks_22 : decode c_CU_skipBlanks 22 = .ok (.if_icmp .ne 16, 3) := by decide +kernel
theorem d_CU_skipBlanks_25 : decode c_CU_skipBlanks 25 = .ok (.aload_n 0, 1) := by decide +kernel
theorem d_CU_skipBlanks_26 : decode c_CU_skipBlanks 26 = .ok (.dup, 1) := by decide +kernel
theorem d_CU_skipBlanks_27 : decode c_CU_skipBlanks 27 = .ok (.getfield 9, 3) := by decide +kernel
theorem d_CU_skipBlanks_30 : decode c_CU_skipBlanks 30 = .ok (.iconst 1, 1) := by decide +kernel
theorem d_CU_skipBlanks_31 : decode c_CU_skipBlanks 31 = .ok (.iadd, 1) := by decide +kernel
theorem d_CU_skipBlanks_32 : decode c_CU_skipBlanks 32 = .ok (.putfield 9, 3) := by decide +kernel
theorem d_CU_skipBlanks_35 : decode c_CU_skipBlanks 35 = .ok (.goto (-35), 3) := by decide +kernel
theorem d_CU_skipBlanks_38 : decode c_CU_skipBlanks 38 = .ok (.return_, 1) := by decide +kernel
def ws_CU_skipBlanks : List Cond := .code y_CU_skipBlanks c_CU_skipBlanks 1 none :: TBL
theorem d_JR_value_0 : decode c_JR_value 0 = .ok (.aload_n 0, 1) := by decide +kernel
theorem d_JR_value_1 : decode c_JR_value 1 = .ok (.getfield 15, 3) := by decide +kernel
theorem d_JR_value_4 : decode c_JR_value 4 = .ok (.invokevirtual 31, 3) := by decide +kernel
theorem d_JR_value_7 : decode c_JR_value 7 = .ok (.istore_n 2, 1) := by decide +kernel
theorem d_JR_value_8 : decode c_JR_value 8 = .ok (.iload_n 2, 1) := by decide +kernel
theorem d_JR_value_9 : decode c_JR_value 9 = .ok (.bipush 34, 2) := by decide +kernel
theorem d_JR_value_11 : decode c_JR_value 11 = .ok (.if_icmp .ne 30, 3) := by decide +kernel
theorem d_JR_value_14 : decode c_JR_value 14 = .ok (.aload_n 0, 1) := by decide +kernel
theorem d_JR_value_15 : decode c_JR_value 15 = .ok (.getfield 15, 3) := by decide +kernel
theorem d_JR_value_18 : decode c_JR_value 18 = .ok (.invokevirtual 35, 3) := by decide +kernel
theorem d_JR_value_21 : decode c_JR_value 21 = .ok (.astore_n 3, 1) := by decide +kernel
theorem d_JR_value_22 : decode c_JR_value 22 = .ok (.aload_n 3, 1) := by decide +kernel
theorem d_JR_value_23 : decode c_JR_value 23 = .ok (.ifnonnull 7, 3) := by decide +kernel
theorem d_JR_value_26 : decode c_JR_value 26 = .ok (.aconst_null, 1) := by decide +kernel
theorem d_JR_value_27 : decode c_JR_value 27 = .ok (.goto 13, 3) := by decide +kernel
theorem d_JR_value_30 : decode c_JR_value 30 = .ok (.new 39, 3) := by decide +kernel
theorem d_JR_value_33 : decode c_JR_value 33 = .ok (.dup, 1) := by decide +kernel
theorem d_JR_value_34 : decode c_JR_value 34 = .ok (.iconst 2, 1) := by decide +kernel
theorem d_JR_value_35 : decode c_JR_value 35 = .ok (.aload_n 3, 1) := by decide +kernel
theorem d_JR_value_36 : decode c_JR_value 36 = .ok (.lconst 0, 1) := by decide +kernel
theorem d_JR_value_37 : decode c_JR_value 37 = .ok (.invokespecial 41, 3) := by decide +kernel
theorem d_JR_value_40 : decode c_JR_value 40 = .ok (.areturn, 1) := by decide +kernel
theorem d_JR_value_41 : decode c_JR_value 41 = .ok (.iload_n 2, 1) := by decide +kernel
theorem d_JR_value_42 : decode c_JR_value 42 = .ok (.bipush 91, 2) := by decide +kernel
theorem d_JR_value_44 : decode c_JR_value 44 = .ok (.if_icmp .eq 37, 3) := by decide +kernel
theorem d_JR_value_47 : decode c_JR_value 47 = .ok (.iload_n 2, 1) := by decide +kernel
theorem d_JR_value_48 : decode c_JR_value 48 = .ok (.bipush 123, 2) := by decide +kernel
theorem d_JR_value_50 : decode c_JR_value 50 = .ok (.if_icmp .eq 31, 3) := by decide +kernel
theorem d_JR_value_53 : decode c_JR_value 53 = .ok (.aload_n 0, 1) := by decide +kernel
theorem d_JR_value_54 : decode c_JR_value 54 = .ok (.getfield 15, 3) := by decide +kernel
theorem d_JR_value_57 : decode c_JR_value 57 = .ok (.invokevirtual 44, 3) := by decide +kernel
theorem d_JR_value_60 : decode c_JR_value 60 = .ok (.ifCond .eq 13, 3) := by decide +kernel
theorem d_JR_value_63 : decode c_JR_value 63 = .ok (.aload_n 0, 1) := by decide +kernel
theorem d_JR_value_64 : decode c_JR_value 64 = .ok (.getfield 15, 3) := by decide +kernel
theorem d_JR_value_67 : decode c_JR_value 67 = .ok (.invokevirtual 48, 3) := by decide +kernel
theorem d_JR_value_70 : decode c_JR_value 70 = .ok (.goto 10, 3) := by decide +kernel
theorem d_JR_value_73 : decode c_JR_value 73 = .ok (.aload_n 0, 1) := by decide +kernel
theorem d_JR_value_74 : decode c_JR_value 74 = .ok (.getfield 15, 3) := by decide +kernel
theorem d_JR_value_77 : decode c_JR_value 77 = .ok (.invokevirtual 52, 3) := by decide +kernel
theorem d_JR_value_80 : decode c_JR_value 80 = .ok (.areturn, 1) := by decide +kernel
theorem d_JR_value_81 : decode c_JR_value 81 = .ok (.iload_n 1, 1) := by decide +kernel
theorem d_JR_value_82 : decode c_JR_value 82 = .ok (.aload_n 0, 1) := by decide +kernel
theorem d_JR_value_83 : decode c_JR_value 83 = .ok (.getfield 19, 3) := by decide +kernel
theorem d_JR_value_86 : decode c_JR_value 86 = .ok (.if_icmp .lt 10, 3) := by decide +kernel
theorem d_JR_value_89 : decode c_JR_value 89 = .ok (.aload_n 0, 1) := by decide +kernel
theorem d_JR_value_90 : decode c_JR_value 90 = .ok (.iconst 2, 1) := by decide +kernel
theorem d_JR_value_91 : decode c_JR_value 91 = .ok (.putfield 9, 3) := by decide +kernel
theorem d_JR_value_94 : decode c_JR_value 94 = .ok (.aconst_null, 1) := by decide +kernel
theorem d_JR_value_95 : decode c_JR_value 95 = .ok (.areturn, 1) := by decide +kernel
theorem d_JR_value_96 : decode c_JR_value 96 = .ok (.aload_n 0, 1) := by decide +kernel
theorem d_JR_value_97 : decode c_JR_value 97 = .ok (.getfield 15, 3) := by decide +kernel
theorem d_JR_value_100 : decode c_JR_value 100 = .ok (.iload_n 2, 1) := by decide +kernel
theorem d_JR_value_101 : decode c_JR_value 101 = .ok (.invokevirtual 55, 3) := by decide +kernel
theorem d_JR_value_104 : decode c_JR_value 104 = .ok (.pop, 1) := by decide +kernel
theorem d_JR_value_105 : decode c_JR_value 105 = .ok (.aload_n 0, 1) := by decide +kernel
theorem d_JR_value_106 : decode c_JR_value 106 = .ok (.getfield 15, 3) := by decide +kernel
theorem d_JR_value_109 : decode c_JR_value 109 = .ok (.invokevirtual 22, 3) := by decide +kernel
theorem d_JR_value_112 : decode c_JR_value 112 = .ok (.iload_n 2, 1) := by decide +kernel
theorem d_JR_value_113 : decode c_JR_value 113 = .ok (.bipush 91, 2) := by decide +kernel
theorem d_JR_value_115 : decode c_JR_value 115 = .ok (.if_icmp .ne 16, 3) := by decide +kernel
theorem d_JR_value_118 : decode c_JR_value 118 = .ok (.aload_n 0, 1) := by decide +kernel
theorem d_JR_value_119 : decode c_JR_value 119 = .ok (.iconst 3, 1) := by decide +kernel
theorem d_JR_value_120 : decode c_JR_value 120 = .ok (.bipush 93, 2) := by decide +kernel
theorem d_JR_value_122 : decode c_JR_value 122 = .ok (.iload_n 1, 1) := by decide +kernel
theorem d_JR_value_123 : decode c_JR_value 123 = .ok (.iconst 1, 1) := by decide +kernel
theorem d_JR_value_124 : decode c_JR_value 124 = .ok (.iadd, 1) := by decide +kernel
theorem d_JR_value_125 : decode c_JR_value 125 = .ok (.invokevirtual 59, 3) := by decide +kernel
theorem d_JR_value_128 : decode c_JR_value 128 = .ok (.goto 13, 3) := by decide +kernel
theorem d_JR_value_131 : decode c_JR_value 131 = .ok (.aload_n 0, 1) := by decide +kernel
theorem d_JR_value_132 : decode c_JR_value 132 = .ok (.iconst 4, 1) := by decide +kernel
theorem d_JR_value_133 : decode c_JR_value 133 = .ok (.bipush 125, 2) := by decide +kernel
theorem d_JR_value_135 : decode c_JR_value 135 = .ok (.iload_n 1, 1) := by decide +kernel
theorem d_JR_value_136 : decode c_JR_value 136 = .ok (.iconst 1, 1) := by decide +kernel
theorem d_JR_value_137 : decode c_JR_value 137 = .ok (.iadd, 1) := by decide +kernel
theorem d_JR_value_138 : decode c_JR_value 138 = .ok (.invokevirtual 59, 3) := by decide +kernel
theorem d_JR_value_141 : decode c_JR_value 141 = .ok (.areturn, 1) := by decide +kernel
def ws_JR_value : List Cond := .code y_JR_value c_JR_value 4 (some (.object "PatchStore$Value")) :: TBL
theorem d_CU_ahead_0 : decode c_CU_ahead 0 = .ok (.aload_n 0, 1) := by decide +kernel
theorem d_CU_ahead_1 : decode c_CU_ahead 1 = .ok (.getfield 9, 3) := by decide +kernel
theorem d_CU_ahead_4 : decode c_CU_ahead 4 = .ok (.aload_n 0, 1) := by decide +kernel
theorem d_CU_ahead_5 : decode c_CU_ahead 5 = .ok (.getfield 19, 3) := by decide +kernel
theorem d_CU_ahead_8 : decode c_CU_ahead 8 = .ok (.if_icmp .ge 15, 3) := by decide +kernel
theorem d_CU_ahead_11 : decode c_CU_ahead 11 = .ok (.aload_n 0, 1) := by decide +kernel
theorem d_CU_ahead_12 : decode c_CU_ahead 12 = .ok (.getfield 15, 3) := by decide +kernel
theorem d_CU_ahead_15 : decode c_CU_ahead 15 = .ok (.aload_n 0, 1) := by decide +kernel
theorem d_CU_ahead_16 : decode c_CU_ahead 16 = .ok (.getfield 9, 3) := by decide +kernel
theorem d_CU_ahead_19 : decode c_CU_ahead 19 = .ok (.caload, 1) := by decide +kernel
theorem d_CU_ahead_20 : decode c_CU_ahead 20 = .ok (.goto 4, 3) := by decide +kernel
theorem d_CU_ahead_23 : decode c_CU_ahead 23 = .ok (.iconst 0, 1) := by decide +kernel
theorem d_CU_ahead_24 : decode c_CU_ahead 24 = .ok (.ireturn, 1) := by decide +kernel
def ws_CU_ahead : List Cond := .code y_CU_ahead c_CU_ahead 1 (some .char) :: TBL
theorem d_CU_quoted_0 : decode c_CU_quoted 0 = .ok (.aload_n 0, 1) := by decide +kernel
theorem d_CU_quoted_1 : decode c_CU_quoted 1 = .ok (.invokevirtual 26, 3) := by decide +kernel
theorem d_CU_quoted_4 : decode c_CU_quoted 4 = .ok (.istore_n 1, 1) := by decide +kernel
theorem d_CU_quoted_5 : decode c_CU_quoted 5 = .ok (.aload_n 0, 1) := by decide +kernel
theorem d_CU_quoted_6 : decode c_CU_quoted 6 = .ok (.dup, 1) := by decide +kernel
theorem d_CU_quoted_7 : decode c_CU_quoted 7 = .ok (.getfield 9, 3) := by decide +kernel
theorem d_CU_quoted_10 : decode c_CU_quoted 10 = .ok (.iconst 1, 1) := by decide +kernel
theorem d_CU_quoted_11 : decode c_CU_quoted 11 = .ok (.iadd, 1) := by decide +kernel
theorem d_CU_quoted_12 : decode c_CU_quoted 12 = .ok (.putfield 9, 3) := by decide +kernel
theorem d_CU_quoted_15 : decode c_CU_quoted 15 = .ok (.aload_n 0, 1) := by decide +kernel
theorem d_CU_quoted_16 : decode c_CU_quoted 16 = .ok (.getfield 22, 3) := by decide +kernel
theorem d_CU_quoted_19 : decode c_CU_quoted 19 = .ok (.iconst 0, 1) := by decide +kernel
theorem d_CU_quoted_20 : decode c_CU_quoted 20 = .ok (.invokevirtual 30, 3) := by decide +kernel
theorem d_CU_quoted_23 : decode c_CU_quoted 23 = .ok (.aload_n 0, 1) := by decide +kernel
theorem d_CU_quoted_24 : decode c_CU_quoted 24 = .ok (.getfield 9, 3) := by decide +kernel
theorem d_CU_quoted_27 : decode c_CU_quoted 27 = .ok (.aload_n 0, 1) := by decide +kernel
theorem d_CU_quoted_28 : decode c_CU_quoted 28 = .ok (.getfield 19, 3) := by decide +kernel
theorem d_CU_quoted_31 : decode c_CU_quoted 31 = .ok (.if_icmp .ge 88, 3) := by decide +kernel
theorem d_CU_quoted_34 : decode c_CU_quoted 34 = .ok (.aload_n 0, 1) := by decide +kernel
theorem d_CU_quoted_35 : decode c_CU_quoted 35 = .ok (.getfield 15, 3) := by decide +kernel
theorem d_CU_quoted_38 : decode c_CU_quoted 38 = .ok (.aload_n 0, 1) := by decide +kernel
theorem d_CU_quoted_39 : decode c_CU_quoted 39 = .ok (.getfield 9, 3) := by decide +kernel
theorem d_CU_quoted_42 : decode c_CU_quoted 42 = .ok (.caload, 1) := by decide +kernel
theorem d_CU_quoted_43 : decode c_CU_quoted 43 = .ok (.istore_n 2, 1) := by decide +kernel
theorem d_CU_quoted_44 : decode c_CU_quoted 44 = .ok (.aload_n 0, 1) := by decide +kernel
theorem d_CU_quoted_45 : decode c_CU_quoted 45 = .ok (.dup, 1) := by decide +kernel
theorem d_CU_quoted_46 : decode c_CU_quoted 46 = .ok (.getfield 9, 3) := by decide +kernel
theorem d_CU_quoted_49 : decode c_CU_quoted 49 = .ok (.iconst 1, 1) := by decide +kernel
theorem d_CU_quoted_50 : decode c_CU_quoted 50 = .ok (.iadd, 1) := by decide +kernel
theorem d_CU_quoted_51 : decode c_CU_quoted 51 = .ok (.putfield 9, 3) := by decide +kernel
theorem d_CU_quoted_54 : decode c_CU_quoted 54 = .ok (.iload_n 2, 1) := by decide +kernel
theorem d_CU_quoted_55 : decode c_CU_quoted 55 = .ok (.iload_n 1, 1) := by decide +kernel
theorem d_CU_quoted_56 : decode c_CU_quoted 56 = .ok (.if_icmp .ne 11, 3) := by decide +kernel
theorem d_CU_quoted_59 : decode c_CU_quoted 59 = .ok (.aload_n 0, 1) := by decide +kernel
theorem d_CU_quoted_60 : decode c_CU_quoted 60 = .ok (.getfield 22, 3) := by decide +kernel
theorem d_CU_quoted_63 : decode c_CU_quoted 63 = .ok (.invokevirtual 36, 3) := by decide +kernel
theorem d_CU_quoted_66 : decode c_CU_quoted 66 = .ok (.areturn, 1) := by decide +kernel
theorem d_CU_quoted_67 : decode c_CU_quoted 67 = .ok (.iload_n 2, 1) := by decide +kernel
theorem d_CU_quoted_68 : decode c_CU_quoted 68 = .ok (.bipush 92, 2) := by decide +kernel
theorem d_CU_quoted_70 : decode c_CU_quoted 70 = .ok (.if_icmp .ne 37, 3) := by decide +kernel
theorem d_CU_quoted_73 : decode c_CU_quoted 73 = .ok (.aload_n 0, 1) := by decide +kernel
theorem d_CU_quoted_74 : decode c_CU_quoted 74 = .ok (.invokevirtual 26, 3) := by decide +kernel
theorem d_CU_quoted_77 : decode c_CU_quoted 77 = .ok (.istore_n 2, 1) := by decide +kernel
theorem d_CU_quoted_78 : decode c_CU_quoted 78 = .ok (.iload_n 2, 1) := by decide +kernel
theorem d_CU_quoted_79 : decode c_CU_quoted 79 = .ok (.iload_n 1, 1) := by decide +kernel
theorem d_CU_quoted_80 : decode c_CU_quoted 80 = .ok (.if_icmp .eq 17, 3) := by decide +kernel
theorem d_CU_quoted_83 : decode c_CU_quoted 83 = .ok (.iload_n 2, 1) := by decide +kernel
theorem d_CU_quoted_84 : decode c_CU_quoted 84 = .ok (.bipush 92, 2) := by decide +kernel
theorem d_CU_quoted_86 : decode c_CU_quoted 86 = .ok (.if_icmp .eq 11, 3) := by decide +kernel
theorem d_CU_quoted_89 : decode c_CU_quoted 89 = .ok (.iload_n 2, 1) := by decide +kernel
theorem d_CU_quoted_90 : decode c_CU_quoted 90 = .ok (.bipush 47, 2) := by decide +kernel
theorem d_CU_quoted_92 : decode c_CU_quoted 92 = .ok (.if_icmp .eq 5, 3) := by decide +kernel
theorem d_CU_quoted_95 : decode c_CU_quoted 95 = .ok (.aconst_null, 1) := by decide +kernel
theorem d_CU_quoted_96 : decode c_CU_quoted 96 = .ok (.areturn, 1) := by decide +kernel
theorem d_CU_quoted_97 : decode c_CU_quoted 97 = .ok (.aload_n 0, 1) := by decide +kernel
theorem d_CU_quoted_98 : decode c_CU_quoted 98 = .ok (.dup, 1) := by decide +kernel
theorem d_CU_quoted_99 : decode c_CU_quoted 99 = .ok (.getfield 9, 3) := by decide +kernel
theorem d_CU_quoted_102 : decode c_CU_quoted 102 = .ok (.iconst 1, 1) := by decide +kernel
theorem d_CU_quoted_103 : decode c_CU_quoted 103 = .ok (.iadd, 1) := by decide +kernel
theorem d_CU_quoted_104 : decode c_CU_quoted 104 = .ok (.putfield 9, 3) := by decide +kernel
theorem d_CU_quoted_107 : decode c_CU_quoted 107 = .ok (.aload_n 0, 1) := by decide +kernel
theorem d_CU_quoted_108 : decode c_CU_quoted 108 = .ok (.getfield 22, 3) := by decide +kernel
theorem d_CU_quoted_111 : decode c_CU_quoted 111 = .ok (.iload_n 2, 1) := by decide +kernel
theorem d_CU_quoted_112 : decode c_CU_quoted 112 = .ok (.invokevirtual 40, 3) := by decide +kernel
theorem d_CU_quoted_115 : decode c_CU_quoted 115 = .ok (.pop, 1) := by decide +kernel
theorem d_CU_quoted_116 : decode c_CU_quoted 116 = .ok (.goto (-93), 3) := by decide +kernel
theorem d_CU_quoted_119 : decode c_CU_quoted 119 = .ok (.aconst_null, 1) := by decide +kernel
theorem d_CU_quoted_120 : decode c_CU_quoted 120 = .ok (.areturn, 1) := by decide +kernel
def ws_CU_quoted : List Cond := .code y_CU_quoted c_CU_quoted 3 (some (.object "java/lang/String")) :: TBL
theorem d_SB_setLength_0 : decode c_SB_setLength 0 = .ok (.aload_n 0, 1) := by decide +kernel
theorem d_SB_setLength_1 : decode c_SB_setLength 1 = .ok (.iload_n 1, 1) := by decide +kernel
theorem d_SB_setLength_2 : decode c_SB_setLength 2 = .ok (.invokespecial 333, 3) := by decide +kernel
theorem d_SB_setLength_5 : decode c_SB_setLength 5 = .ok (.return_, 1) := by decide +kernel
def ws_SB_setLength : List Cond := .code y_SB_setLength c_SB_setLength 2 none :: TBL
theorem d_AB_setLength_0 : decode c_AB_setLength 0 = .ok (.iload_n 1, 1) := by decide +kernel
theorem d_AB_setLength_1 : decode c_AB_setLength 1 = .ok (.ifCond .ge 12, 3) := by decide +kernel
theorem d_AB_setLength_4 : decode c_AB_setLength 4 = .ok (.new 129, 3) := by decide +kernel
theorem d_AB_setLength_7 : decode c_AB_setLength 7 = .ok (.dup, 1) := by decide +kernel
theorem d_AB_setLength_8 : decode c_AB_setLength 8 = .ok (.iload_n 1, 1) := by decide +kernel
theorem d_AB_setLength_9 : decode c_AB_setLength 9 = .ok (.invokespecial 131, 3) := by decide +kernel
theorem d_AB_setLength_12 : decode c_AB_setLength 12 = .ok (.athrow, 1) := by decide +kernel
theorem d_AB_setLength_13 : decode c_AB_setLength 13 = .ok (.aload_n 0, 1) := by decide +kernel
theorem d_AB_setLength_14 : decode c_AB_setLength 14 = .ok (.iload_n 1, 1) := by decide +kernel
theorem d_AB_setLength_15 : decode c_AB_setLength 15 = .ok (.invokevirtual 100, 3) := by decide +kernel
theorem d_AB_setLength_18 : decode c_AB_setLength 18 = .ok (.aload_n 0, 1) := by decide +kernel
theorem d_AB_setLength_19 : decode c_AB_setLength 19 = .ok (.getfield 79, 3) := by decide +kernel
theorem d_AB_setLength_22 : decode c_AB_setLength 22 = .ok (.iload_n 1, 1) := by decide +kernel
theorem d_AB_setLength_23 : decode c_AB_setLength 23 = .ok (.if_icmp .ge 40, 3) := by decide +kernel
theorem d_AB_setLength_26 : decode c_AB_setLength 26 = .ok (.aload_n 0, 1) := by decide +kernel
theorem d_AB_setLength_27 : decode c_AB_setLength 27 = .ok (.invokevirtual 83, 3) := by decide +kernel
theorem d_AB_setLength_30 : decode c_AB_setLength 30 = .ok (.ifCond .eq 18, 3) := by decide +kernel
theorem d_AB_setLength_33 : decode c_AB_setLength 33 = .ok (.aload_n 0, 1) := by decide +kernel
theorem d_AB_setLength_34 : decode c_AB_setLength 34 = .ok (.getfield 15, 3) := by decide +kernel
theorem d_AB_setLength_37 : decode c_AB_setLength 37 = .ok (.aload_n 0, 1) := by decide +kernel
theorem d_AB_setLength_38 : decode c_AB_setLength 38 = .ok (.getfield 79, 3) := by decide +kernel
theorem d_AB_setLength_41 : decode c_AB_setLength 41 = .ok (.iload_n 1, 1) := by decide +kernel
theorem d_AB_setLength_42 : decode c_AB_setLength 42 = .ok (.invokestatic 133, 3) := by decide +kernel
theorem d_AB_setLength_45 : decode c_AB_setLength 45 = .ok (.goto 31, 3) := by decide +kernel
theorem d_AB_setLength_48 : decode c_AB_setLength 48 = .ok (.aload_n 0, 1) := by decide +kernel
theorem d_AB_setLength_49 : decode c_AB_setLength 49 = .ok (.getfield 15, 3) := by decide +kernel
theorem d_AB_setLength_52 : decode c_AB_setLength 52 = .ok (.aload_n 0, 1) := by decide +kernel
theorem d_AB_setLength_53 : decode c_AB_setLength 53 = .ok (.getfield 79, 3) := by decide +kernel
theorem d_AB_setLength_56 : decode c_AB_setLength 56 = .ok (.iload_n 1, 1) := by decide +kernel
theorem d_AB_setLength_57 : decode c_AB_setLength 57 = .ok (.invokestatic 137, 3) := by decide +kernel
theorem d_AB_setLength_60 : decode c_AB_setLength 60 = .ok (.goto 16, 3) := by decide +kernel
theorem d_AB_setLength_63 : decode c_AB_setLength 63 = .ok (.aload_n 0, 1) := by decide +kernel
theorem d_AB_setLength_64 : decode c_AB_setLength 64 = .ok (.getfield 79, 3) := by decide +kernel
theorem d_AB_setLength_67 : decode c_AB_setLength 67 = .ok (.iload_n 1, 1) := by decide +kernel
theorem d_AB_setLength_68 : decode c_AB_setLength 68 = .ok (.if_icmp .le 8, 3) := by decide +kernel
theorem d_AB_setLength_71 : decode c_AB_setLength 71 = .ok (.aload_n 0, 1) := by decide +kernel
theorem d_AB_setLength_72 : decode c_AB_setLength 72 = .ok (.iconst 1, 1) := by decide +kernel
theorem d_AB_setLength_73 : decode c_AB_setLength 73 = .ok (.putfield 73, 3) := by decide +kernel
theorem d_AB_setLength_76 : decode c_AB_setLength 76 = .ok (.aload_n 0, 1) := by decide +kernel
theorem d_AB_setLength_77 : decode c_AB_setLength 77 = .ok (.iload_n 1, 1) := by decide +kernel
theorem d_AB_setLength_78 : decode c_AB_setLength 78 = .ok (.putfield 79, 3) := by decide +kernel
theorem d_AB_setLength_81 : decode c_AB_setLength 81 = .ok (.return_, 1) := by decide +kernel
def ws_AB_setLength : List Cond := .code y_AB_setLength c_AB_setLength 2 none :: TBL
theorem d_AB_ensureCapacityInternal_0 : decode c_AB_ensureCapacityInternal 0 = .ok (.aload_n 0, 1) := by decide +kernel
theorem d_AB_ensureCapacityInternal_1 : decode c_AB_ensureCapacityInternal 1 = .ok (.getfield 15, 3) := by decide +kernel
theorem d_AB_ensureCapacityInternal_4 : decode c_AB_ensureCapacityInternal 4 = .ok (.arraylength, 1) := by decide +kernel
theorem d_AB_ensureCapacityInternal_5 : decode c_AB_ensureCapacityInternal 5 = .ok (.aload_n 0, 1) := by decide +kernel
theorem d_AB_ensureCapacityInternal_6 : decode c_AB_ensureCapacityInternal 6 = .ok (.getfield 22, 3) := by decide +kernel
theorem d_AB_ensureCapacityInternal_9 : decode c_AB_ensureCapacityInternal 9 = .ok (.ishr, 1) := by decide +kernel
theorem d_AB_ensureCapacityInternal_10 : decode c_AB_ensureCapacityInternal 10 = .ok (.istore_n 2, 1) := by decide +kernel
theorem d_AB_ensureCapacityInternal_11 : decode c_AB_ensureCapacityInternal 11 = .ok (.iload_n 1, 1) := by decide +kernel
theorem d_AB_ensureCapacityInternal_12 : decode c_AB_ensureCapacityInternal 12 = .ok (.iload_n 2, 1) := by decide +kernel
theorem d_AB_ensureCapacityInternal_13 : decode c_AB_ensureCapacityInternal 13 = .ok (.isub, 1) := by decide +kernel
theorem d_AB_ensureCapacityInternal_14 : decode c_AB_ensureCapacityInternal 14 = .ok (.ifCond .le 24, 3) := by decide +kernel
theorem d_AB_ensureCapacityInternal_17 : decode c_AB_ensureCapacityInternal 17 = .ok (.aload_n 0, 1) := by decide +kernel
theorem d_AB_ensureCapacityInternal_18 : decode c_AB_ensureCapacityInternal 18 = .ok (.aload_n 0, 1) := by decide +kernel
theorem d_AB_ensureCapacityInternal_19 : decode c_AB_ensureCapacityInternal 19 = .ok (.getfield 15, 3) := by decide +kernel
theorem d_AB_ensureCapacityInternal_22 : decode c_AB_ensureCapacityInternal 22 = .ok (.aload_n 0, 1) := by decide +kernel
theorem d_AB_ensureCapacityInternal_23 : decode c_AB_ensureCapacityInternal 23 = .ok (.iload_n 1, 1) := by decide +kernel
theorem d_AB_ensureCapacityInternal_24 : decode c_AB_ensureCapacityInternal 24 = .ok (.invokevirtual 104, 3) := by decide +kernel
theorem d_AB_ensureCapacityInternal_27 : decode c_AB_ensureCapacityInternal 27 = .ok (.aload_n 0, 1) := by decide +kernel
theorem d_AB_ensureCapacityInternal_28 : decode c_AB_ensureCapacityInternal 28 = .ok (.getfield 22, 3) := by decide +kernel
theorem d_AB_ensureCapacityInternal_31 : decode c_AB_ensureCapacityInternal 31 = .ok (.ishl, 1) := by decide +kernel
theorem d_AB_ensureCapacityInternal_32 : decode c_AB_ensureCapacityInternal 32 = .ok (.invokestatic 108, 3) := by decide +kernel
theorem d_AB_ensureCapacityInternal_35 : decode c_AB_ensureCapacityInternal 35 = .ok (.putfield 15, 3) := by decide +kernel
theorem d_AB_ensureCapacityInternal_38 : decode c_AB_ensureCapacityInternal 38 = .ok (.return_, 1) := by decide +kernel
def ws_AB_ensureCapacityInternal : List Cond := .code y_AB_ensureCapacityInternal c_AB_ensureCapacityInternal 3 none :: TBL
theorem d_AB_newCapacity_0 : decode c_AB_newCapacity 0 = .ok (.aload_n 0, 1) := by decide +kernel
theorem d_AB_newCapacity_1 : decode c_AB_newCapacity 1 = .ok (.getfield 15, 3) := by decide +kernel
theorem d_AB_newCapacity_4 : decode c_AB_newCapacity 4 = .ok (.arraylength, 1) := by decide +kernel
theorem d_AB_newCapacity_5 : decode c_AB_newCapacity 5 = .ok (.istore_n 2, 1) := by decide +kernel
theorem d_AB_newCapacity_6 : decode c_AB_newCapacity 6 = .ok (.iload_n 1, 1) := by decide +kernel
theorem d_AB_newCapacity_7 : decode c_AB_newCapacity 7 = .ok (.aload_n 0, 1) := by decide +kernel
theorem d_AB_newCapacity_8 : decode c_AB_newCapacity 8 = .ok (.getfield 22, 3) := by decide +kernel
theorem d_AB_newCapacity_11 : decode c_AB_newCapacity 11 = .ok (.ishl, 1) := by decide +kernel
theorem d_AB_newCapacity_12 : decode c_AB_newCapacity 12 = .ok (.istore_n 3, 1) := by decide +kernel
theorem d_AB_newCapacity_13 : decode c_AB_newCapacity 13 = .ok (.iload_n 3, 1) := by decide +kernel
theorem d_AB_newCapacity_14 : decode c_AB_newCapacity 14 = .ok (.iload_n 2, 1) := by decide +kernel
theorem d_AB_newCapacity_15 : decode c_AB_newCapacity 15 = .ok (.isub, 1) := by decide +kernel
theorem d_AB_newCapacity_16 : decode c_AB_newCapacity 16 = .ok (.istore 4, 2) := by decide +kernel
theorem d_AB_newCapacity_18 : decode c_AB_newCapacity 18 = .ok (.iload_n 2, 1) := by decide +kernel
theorem d_AB_newCapacity_19 : decode c_AB_newCapacity 19 = .ok (.iload 4, 2) := by decide +kernel
theorem d_AB_newCapacity_21 : decode c_AB_newCapacity 21 = .ok (.iload_n 2, 1) := by decide +kernel
theorem d_AB_newCapacity_22 : decode c_AB_newCapacity 22 = .ok (.iconst 2, 1) := by decide +kernel
theorem d_AB_newCapacity_23 : decode c_AB_newCapacity 23 = .ok (.aload_n 0, 1) := by decide +kernel
theorem d_AB_newCapacity_24 : decode c_AB_newCapacity 24 = .ok (.getfield 22, 3) := by decide +kernel
theorem d_AB_newCapacity_27 : decode c_AB_newCapacity 27 = .ok (.ishl, 1) := by decide +kernel
theorem d_AB_newCapacity_28 : decode c_AB_newCapacity 28 = .ok (.iadd, 1) := by decide +kernel
theorem d_AB_newCapacity_29 : decode c_AB_newCapacity 29 = .ok (.invokestatic 114, 3) := by decide +kernel
theorem d_AB_newCapacity_32 : decode c_AB_newCapacity 32 = .ok (.istore 5, 2) := by decide +kernel
theorem d_AB_newCapacity_34 : decode c_AB_newCapacity 34 = .ok (.iload 5, 2) := by decide +kernel
theorem d_AB_newCapacity_36 : decode c_AB_newCapacity 36 = .ok (.ldc 39, 2) := by decide +kernel
theorem d_AB_newCapacity_38 : decode c_AB_newCapacity 38 = .ok (.if_icmp .ne 13, 3) := by decide +kernel
theorem d_AB_newCapacity_41 : decode c_AB_newCapacity 41 = .ok (.new 120, 3) := by decide +kernel
theorem d_AB_newCapacity_44 : decode c_AB_newCapacity 44 = .ok (.dup, 1) := by decide +kernel
theorem d_AB_newCapacity_45 : decode c_AB_newCapacity 45 = .ok (.ldc 122, 2) := by decide +kernel
theorem d_AB_newCapacity_47 : decode c_AB_newCapacity 47 = .ok (.invokespecial 124, 3) := by decide +kernel
theorem d_AB_newCapacity_50 : decode c_AB_newCapacity 50 = .ok (.athrow, 1) := by decide +kernel
theorem d_AB_newCapacity_51 : decode c_AB_newCapacity 51 = .ok (.iload 5, 2) := by decide +kernel
theorem d_AB_newCapacity_53 : decode c_AB_newCapacity 53 = .ok (.aload_n 0, 1) := by decide +kernel
theorem d_AB_newCapacity_54 : decode c_AB_newCapacity 54 = .ok (.getfield 22, 3) := by decide +kernel
theorem d_AB_newCapacity_57 : decode c_AB_newCapacity 57 = .ok (.ishr, 1) := by decide +kernel
theorem d_AB_newCapacity_58 : decode c_AB_newCapacity 58 = .ok (.ireturn, 1) := by decide +kernel
def ws_AB_newCapacity : List Cond := .code y_AB_newCapacity c_AB_newCapacity 6 (some .int) :: TBL
theorem d_AS_newLength_0 : decode c_AS_newLength 0 = .ok (.iload_n 0, 1) := by decide +kernel
theorem d_AS_newLength_1 : decode c_AS_newLength 1 = .ok (.iload_n 1, 1) := by decide +kernel
theorem d_AS_newLength_2 : decode c_AS_newLength 2 = .ok (.iload_n 2, 1) := by decide +kernel
theorem d_AS_newLength_3 : decode c_AS_newLength 3 = .ok (.invokestatic 194, 3) := by decide +kernel
theorem d_AS_newLength_6 : decode c_AS_newLength 6 = .ok (.iadd, 1) := by decide +kernel
theorem d_AS_newLength_7 : decode c_AS_newLength 7 = .ok (.istore_n 3, 1) := by decide +kernel
theorem d_AS_newLength_8 : decode c_AS_newLength 8 = .ok (.iconst 0, 1) := by decide +kernel
theorem d_AS_newLength_9 : decode c_AS_newLength 9 = .ok (.iload_n 3, 1) := by decide +kernel
theorem d_AS_newLength_10 : decode c_AS_newLength 10 = .ok (.if_icmp .ge 11, 3) := by decide +kernel
theorem d_AS_newLength_13 : decode c_AS_newLength 13 = .ok (.iload_n 3, 1) := by decide +kernel
theorem d_AS_newLength_14 : decode c_AS_newLength 14 = .ok (.ldc 200, 2) := by decide +kernel
theorem d_AS_newLength_16 : decode c_AS_newLength 16 = .ok (.if_icmp .gt 5, 3) := by decide +kernel
theorem d_AS_newLength_19 : decode c_AS_newLength 19 = .ok (.iload_n 3, 1) := by decide +kernel
theorem d_AS_newLength_20 : decode c_AS_newLength 20 = .ok (.ireturn, 1) := by decide +kernel
theorem d_AS_newLength_21 : decode c_AS_newLength 21 = .ok (.iload_n 0, 1) := by decide +kernel
theorem d_AS_newLength_22 : decode c_AS_newLength 22 = .ok (.iload_n 1, 1) := by decide +kernel
theorem d_AS_newLength_23 : decode c_AS_newLength 23 = .ok (.invokestatic 201, 3) := by decide +kernel
theorem d_AS_newLength_26 : decode c_AS_newLength 26 = .ok (.ireturn, 1) := by decide +kernel
def ws_AS_newLength : List Cond := .code y_AS_newLength c_AS_newLength 4 (some .int) :: TBL
theorem d_MA_max_0 : decode c_MA_max 0 = .ok (.iload_n 0, 1) := by decide +kernel
theorem d_MA_max_1 : decode c_MA_max 1 = .ok (.iload_n 1, 1) := by decide +kernel
theorem d_MA_max_2 : decode c_MA_max 2 = .ok (.if_icmp .lt 7, 3) := by decide +kernel
theorem d_MA_max_5 : decode c_MA_max 5 = .ok (.iload_n 0, 1) := by decide +kernel
theorem d_MA_max_6 : decode c_MA_max 6 = .ok (.goto 4, 3) := by decide +kernel
theorem d_MA_max_9 : decode c_MA_max 9 = .ok (.iload_n 1, 1) := by decide +kernel
theorem d_MA_max_10 : decode c_MA_max 10 = .ok (.ireturn, 1) := by decide +kernel
def ws_MA_max : List Cond := .code y_MA_max c_MA_max 2 (some .int) :: TBL
theorem d_AS_hugeLength_0 : decode c_AS_hugeLength 0 = .ok (.iload_n 0, 1) := by decide +kernel
theorem d_AS_hugeLength_1 : decode c_AS_hugeLength 1 = .ok (.iload_n 1, 1) := by decide +kernel
theorem d_AS_hugeLength_2 : decode c_AS_hugeLength 2 = .ok (.iadd, 1) := by decide +kernel
theorem d_AS_hugeLength_3 : decode c_AS_hugeLength 3 = .ok (.istore_n 2, 1) := by decide +kernel
theorem d_AS_hugeLength_4 : decode c_AS_hugeLength 4 = .ok (.iload_n 2, 1) := by decide +kernel
theorem d_AS_hugeLength_5 : decode c_AS_hugeLength 5 = .ok (.ifCond .ge 44, 3) := by decide +kernel
theorem d_AS_hugeLength_8 : decode c_AS_hugeLength 8 = .ok (.new 204, 3) := by decide +kernel
theorem d_AS_hugeLength_11 : decode c_AS_hugeLength 11 = .ok (.dup, 1) := by decide +kernel
theorem d_AS_hugeLength_12 : decode c_AS_hugeLength 12 = .ok (.new 89, 3) := by decide +kernel
theorem d_AS_hugeLength_15 : decode c_AS_hugeLength 15 = .ok (.dup, 1) := by decide +kernel
theorem d_AS_hugeLength_16 : decode c_AS_hugeLength 16 = .ok (.invokespecial 91, 3) := by decide +kernel
theorem d_AS_hugeLength_19 : decode c_AS_hugeLength 19 = .ok (.ldc 206, 2) := by decide +kernel
theorem d_AS_hugeLength_21 : decode c_AS_hugeLength 21 = .ok (.invokevirtual 94, 3) := by decide +kernel
theorem d_AS_hugeLength_24 : decode c_AS_hugeLength 24 = .ok (.iload_n 0, 1) := by decide +kernel
theorem d_AS_hugeLength_25 : decode c_AS_hugeLength 25 = .ok (.invokevirtual 98, 3) := by decide +kernel
theorem d_AS_hugeLength_28 : decode c_AS_hugeLength 28 = .ok (.ldc 208, 2) := by decide +kernel
theorem d_AS_hugeLength_30 : decode c_AS_hugeLength 30 = .ok (.invokevirtual 94, 3) := by decide +kernel
theorem d_AS_hugeLength_33 : decode c_AS_hugeLength 33 = .ok (.iload_n 1, 1) := by decide +kernel
theorem d_AS_hugeLength_34 : decode c_AS_hugeLength 34 = .ok (.invokevirtual 98, 3) := by decide +kernel
theorem d_AS_hugeLength_37 : decode c_AS_hugeLength 37 = .ok (.ldc 210, 2) := by decide +kernel
theorem d_AS_hugeLength_39 : decode c_AS_hugeLength 39 = .ok (.invokevirtual 94, 3) := by decide +kernel
theorem d_AS_hugeLength_42 : decode c_AS_hugeLength 42 = .ok (.invokevirtual 101, 3) := by decide +kernel
theorem d_AS_hugeLength_45 : decode c_AS_hugeLength 45 = .ok (.invokespecial 212, 3) := by decide +kernel
theorem d_AS_hugeLength_48 : decode c_AS_hugeLength 48 = .ok (.athrow, 1) := by decide +kernel
theorem d_AS_hugeLength_49 : decode c_AS_hugeLength 49 = .ok (.iload_n 2, 1) := by decide +kernel
theorem d_AS_hugeLength_50 : decode c_AS_hugeLength 50 = .ok (.ldc 200, 2) := by decide +kernel
theorem d_AS_hugeLength_52 : decode c_AS_hugeLength 52 = .ok (.if_icmp .gt 6, 3) := by decide +kernel
theorem d_AS_hugeLength_55 : decode c_AS_hugeLength 55 = .ok (.ldc 200, 2) := by decide +kernel
theorem d_AS_hugeLength_57 : decode c_AS_hugeLength 57 = .ok (.ireturn, 1) := by decide +kernel
theorem d_AS_hugeLength_58 : decode c_AS_hugeLength 58 = .ok (.iload_n 2, 1) := by decide +kernel
theorem d_AS_hugeLength_59 : decode c_AS_hugeLength 59 = .ok (.ireturn, 1) := by decide +kernel
def ws_AS_hugeLength : List Cond := .code y_AS_hugeLength c_AS_hugeLength 3 (some .int) :: TBL
theorem d_AR_copyOf_0 : decode c_AR_copyOf 0 = .ok (.iload_n 1, 1) := by decide +kernel
theorem d_AR_copyOf_1 : decode c_AR_copyOf 1 = .ok (.aload_n 0, 1) := by decide +kernel
theorem d_AR_copyOf_2 : decode c_AR_copyOf 2 = .ok (.arraylength, 1) := by decide +kernel
theorem d_AR_copyOf_3 : decode c_AR_copyOf 3 = .ok (.if_icmp .ne 11, 3) := by decide +kernel
theorem d_AR_copyOf_6 : decode c_AR_copyOf 6 = .ok (.aload_n 0, 1) := by decide +kernel
theorem d_AR_copyOf_7 : decode c_AR_copyOf 7 = .ok (.invokevirtual 310, 3) := by decide +kernel
theorem d_AR_copyOf_10 : decode c_AR_copyOf 10 = .ok (.checkcast 311, 3) := by decide +kernel
theorem d_AR_copyOf_13 : decode c_AR_copyOf 13 = .ok (.areturn, 1) := by decide +kernel
theorem d_AR_copyOf_14 : decode c_AR_copyOf 14 = .ok (.iload_n 1, 1) := by decide +kernel
theorem d_AR_copyOf_15 : decode c_AR_copyOf 15 = .ok (.newarray .byte, 2) := by decide +kernel
theorem d_AR_copyOf_17 : decode c_AR_copyOf 17 = .ok (.astore_n 2, 1) := by decide +kernel
theorem d_AR_copyOf_18 : decode c_AR_copyOf 18 = .ok (.aload_n 0, 1) := by decide +kernel
theorem d_AR_copyOf_19 : decode c_AR_copyOf 19 = .ok (.iconst 0, 1) := by decide +kernel
theorem d_AR_copyOf_20 : decode c_AR_copyOf 20 = .ok (.aload_n 2, 1) := by decide +kernel
theorem d_AR_copyOf_21 : decode c_AR_copyOf 21 = .ok (.iconst 0, 1) := by decide +kernel
theorem d_AR_copyOf_22 : decode c_AR_copyOf 22 = .ok (.aload_n 0, 1) := by decide +kernel
theorem d_AR_copyOf_23 : decode c_AR_copyOf 23 = .ok (.arraylength, 1) := by decide +kernel
theorem d_AR_copyOf_24 : decode c_AR_copyOf 24 = .ok (.iload_n 1, 1) := by decide +kernel
theorem d_AR_copyOf_25 : decode c_AR_copyOf 25 = .ok (.invokestatic 304, 3) := by decide +kernel
theorem d_AR_copyOf_28 : decode c_AR_copyOf 28 = .ok (.invokestatic 150, 3) := by decide +kernel
theorem d_AR_copyOf_31 : decode c_AR_copyOf 31 = .ok (.aload_n 2, 1) := by decide +kernel
theorem d_AR_copyOf_32 : decode c_AR_copyOf 32 = .ok (.areturn, 1) := by decide +kernel
def ws_AR_copyOf : List Cond := .code y_AR_copyOf c_AR_copyOf 3 (some (.array .byte)) :: TBL
theorem d_MA_min_0 : decode c_MA_min 0 = .ok (.iload_n 0, 1) := by decide +kernel
theorem d_MA_min_1 : decode c_MA_min 1 = .ok (.iload_n 1, 1) := by decide +kernel
theorem d_MA_min_2 : decode c_MA_min 2 = .ok (.if_icmp .gt 7, 3) := by decide +kernel
theorem d_MA_min_5 : decode c_MA_min 5 = .ok (.iload_n 0, 1) := by decide +kernel
theorem d_MA_min_6 : decode c_MA_min 6 = .ok (.goto 4, 3) := by decide +kernel
theorem d_MA_min_9 : decode c_MA_min 9 = .ok (.iload_n 1, 1) := by decide +kernel
theorem d_MA_min_10 : decode c_MA_min 10 = .ok (.ireturn, 1) := by decide +kernel
def ws_MA_min : List Cond := .code y_MA_min c_MA_min 2 (some .int) :: TBL
theorem d_AB_isLatin1_0 : decode c_AB_isLatin1 0 = .ok (.getstatic 18, 3) := by decide +kernel
theorem d_AB_isLatin1_3 : decode c_AB_isLatin1 3 = .ok (.ifCond .eq 14, 3) := by decide +kernel
theorem d_AB_isLatin1_6 : decode c_AB_isLatin1 6 = .ok (.aload_n 0, 1) := by decide +kernel
theorem d_AB_isLatin1_7 : decode c_AB_isLatin1 7 = .ok (.getfield 22, 3) := by decide +kernel
theorem d_AB_isLatin1_10 : decode c_AB_isLatin1 10 = .ok (.ifCond .ne 7, 3) := by decide +kernel
theorem d_AB_isLatin1_13 : decode c_AB_isLatin1 13 = .ok (.iconst 1, 1) := by decide +kernel
theorem d_AB_isLatin1_14 : decode c_AB_isLatin1 14 = .ok (.goto 4, 3) := by decide +kernel
theorem d_AB_isLatin1_17 : decode c_AB_isLatin1 17 = .ok (.iconst 0, 1) := by decide +kernel
theorem d_AB_isLatin1_18 : decode c_AB_isLatin1 18 = .ok (.ireturn, 1) := by decide +kernel
def ws_AB_isLatin1 : List Cond := .code y_AB_isLatin1 c_AB_isLatin1 1 (some .boolean) :: TBL
theorem d_LT_fillNull_0 : decode c_LT_fillNull 0 = .ok (.aload_n 0, 1) := by decide +kernel
theorem d_LT_fillNull_1 : decode c_LT_fillNull 1 = .ok (.iload_n 1, 1) := by decide +kernel
theorem d_LT_fillNull_2 : decode c_LT_fillNull 2 = .ok (.iload_n 2, 1) := by decide +kernel
theorem d_LT_fillNull_3 : decode c_LT_fillNull 3 = .ok (.iconst 0, 1) := by decide +kernel
theorem d_LT_fillNull_4 : decode c_LT_fillNull 4 = .ok (.invokestatic 236, 3) := by decide +kernel
theorem d_LT_fillNull_7 : decode c_LT_fillNull 7 = .ok (.return_, 1) := by decide +kernel
def ws_LT_fillNull : List Cond := .code y_LT_fillNull c_LT_fillNull 3 none :: TBL
theorem d_AR_fill_0 : decode c_AR_fill 0 = .ok (.aload_n 0, 1) := by decide +kernel
theorem d_AR_fill_1 : decode c_AR_fill 1 = .ok (.arraylength, 1) := by decide +kernel
theorem d_AR_fill_2 : decode c_AR_fill 2 = .ok (.iload_n 1, 1) := by decide +kernel
theorem d_AR_fill_3 : decode c_AR_fill 3 = .ok (.iload_n 2, 1) := by decide +kernel
theorem d_AR_fill_4 : decode c_AR_fill 4 = .ok (.invokestatic 13, 3) := by decide +kernel
theorem d_AR_fill_7 : decode c_AR_fill 7 = .ok (.iload_n 1, 1) := by decide +kernel
theorem d_AR_fill_8 : decode c_AR_fill 8 = .ok (.istore 4, 2) := by decide +kernel
theorem d_AR_fill_10 : decode c_AR_fill 10 = .ok (.iload 4, 2) := by decide +kernel
theorem d_AR_fill_12 : decode c_AR_fill 12 = .ok (.iload_n 2, 1) := by decide +kernel
theorem d_AR_fill_13 : decode c_AR_fill 13 = .ok (.if_icmp .ge 14, 3) := by decide +kernel
theorem d_AR_fill_16 : decode c_AR_fill 16 = .ok (.aload_n 0, 1) := by decide +kernel
theorem d_AR_fill_17 : decode c_AR_fill 17 = .ok (.iload 4, 2) := by decide +kernel
theorem d_AR_fill_19 : decode c_AR_fill 19 = .ok (.iload_n 3, 1) := by decide +kernel
theorem d_AR_fill_20 : decode c_AR_fill 20 = .ok (.bastore, 1) := by decide +kernel
theorem d_AR_fill_21 : decode c_AR_fill 21 = .ok (.iinc 4 1, 3) := by decide +kernel
theorem d_AR_fill_24 : decode c_AR_fill 24 = .ok (.goto (-14), 3) := by decide +kernel
theorem d_AR_fill_27 : decode c_AR_fill 27 = .ok (.return_, 1) := by decide +kernel
def ws_AR_fill : List Cond := .code y_AR_fill c_AR_fill 5 none :: TBL
theorem d_AR_rangeCheck_0 : decode c_AR_rangeCheck 0 = .ok (.iload_n 1, 1) := by decide +kernel
theorem d_AR_rangeCheck_1 : decode c_AR_rangeCheck 1 = .ok (.iload_n 2, 1) := by decide +kernel
theorem d_AR_rangeCheck_2 : decode c_AR_rangeCheck 2 = .ok (.if_icmp .le 44, 3) := by decide +kernel
theorem d_AR_rangeCheck_5 : decode c_AR_rangeCheck 5 = .ok (.new 43, 3) := by decide +kernel
theorem d_AR_rangeCheck_8 : decode c_AR_rangeCheck 8 = .ok (.dup, 1) := by decide +kernel
theorem d_AR_rangeCheck_9 : decode c_AR_rangeCheck 9 = .ok (.new 45, 3) := by decide +kernel
theorem d_AR_rangeCheck_12 : decode c_AR_rangeCheck 12 = .ok (.dup, 1) := by decide +kernel
theorem d_AR_rangeCheck_13 : decode c_AR_rangeCheck 13 = .ok (.invokespecial 47, 3) := by decide +kernel
theorem d_AR_rangeCheck_16 : decode c_AR_rangeCheck 16 = .ok (.ldc 48, 2) := by decide +kernel
theorem d_AR_rangeCheck_18 : decode c_AR_rangeCheck 18 = .ok (.invokevirtual 50, 3) := by decide +kernel
theorem d_AR_rangeCheck_21 : decode c_AR_rangeCheck 21 = .ok (.iload_n 1, 1) := by decide +kernel
theorem d_AR_rangeCheck_22 : decode c_AR_rangeCheck 22 = .ok (.invokevirtual 54, 3) := by decide +kernel
theorem d_AR_rangeCheck_25 : decode c_AR_rangeCheck 25 = .ok (.ldc 57, 2) := by decide +kernel
theorem d_AR_rangeCheck_27 : decode c_AR_rangeCheck 27 = .ok (.invokevirtual 50, 3) := by decide +kernel
theorem d_AR_rangeCheck_30 : decode c_AR_rangeCheck 30 = .ok (.iload_n 2, 1) := by decide +kernel
theorem d_AR_rangeCheck_31 : decode c_AR_rangeCheck 31 = .ok (.invokevirtual 54, 3) := by decide +kernel
theorem d_AR_rangeCheck_34 : decode c_AR_rangeCheck 34 = .ok (.ldc 59, 2) := by decide +kernel
theorem d_AR_rangeCheck_36 : decode c_AR_rangeCheck 36 = .ok (.invokevirtual 50, 3) := by decide +kernel
theorem d_AR_rangeCheck_39 : decode c_AR_rangeCheck 39 = .ok (.invokevirtual 61, 3) := by decide +kernel
theorem d_AR_rangeCheck_42 : decode c_AR_rangeCheck 42 = .ok (.invokespecial 65, 3) := by decide +kernel
theorem d_AR_rangeCheck_45 : decode c_AR_rangeCheck 45 = .ok (.athrow, 1) := by decide +kernel
theorem d_AR_rangeCheck_46 : decode c_AR_rangeCheck 46 = .ok (.iload_n 1, 1) := by decide +kernel
theorem d_AR_rangeCheck_47 : decode c_AR_rangeCheck 47 = .ok (.ifCond .ge 12, 3) := by decide +kernel
theorem d_AR_rangeCheck_50 : decode c_AR_rangeCheck 50 = .ok (.new 68, 3) := by decide +kernel
theorem d_AR_rangeCheck_53 : decode c_AR_rangeCheck 53 = .ok (.dup, 1) := by decide +kernel
theorem d_AR_rangeCheck_54 : decode c_AR_rangeCheck 54 = .ok (.iload_n 1, 1) := by decide +kernel
theorem d_AR_rangeCheck_55 : decode c_AR_rangeCheck 55 = .ok (.invokespecial 70, 3) := by decide +kernel
theorem d_AR_rangeCheck_58 : decode c_AR_rangeCheck 58 = .ok (.athrow, 1) := by decide +kernel
theorem d_AR_rangeCheck_59 : decode c_AR_rangeCheck 59 = .ok (.iload_n 2, 1) := by decide +kernel
theorem d_AR_rangeCheck_60 : decode c_AR_rangeCheck 60 = .ok (.iload_n 0, 1) := by decide +kernel
theorem d_AR_rangeCheck_61 : decode c_AR_rangeCheck 61 = .ok (.if_icmp .le 12, 3) := by decide +kernel
theorem d_AR_rangeCheck_64 : decode c_AR_rangeCheck 64 = .ok (.new 68, 3) := by decide +kernel
theorem d_AR_rangeCheck_67 : decode c_AR_rangeCheck 67 = .ok (.dup, 1) := by decide +kernel
theorem d_AR_rangeCheck_68 : decode c_AR_rangeCheck 68 = .ok (.iload_n 2, 1) := by decide +kernel
theorem d_AR_rangeCheck_69 : decode c_AR_rangeCheck 69 = .ok (.invokespecial 70, 3) := by decide +kernel
theorem d_AR_rangeCheck_72 : decode c_AR_rangeCheck 72 = .ok (.athrow, 1) := by decide +kernel
theorem d_AR_rangeCheck_73 : decode c_AR_rangeCheck 73 = .ok (.return_, 1) := by decide +kernel
def ws_AR_rangeCheck : List Cond := .code y_AR_rangeCheck c_AR_rangeCheck 3 none :: TBL
theorem d_UT_fillNull_0 : decode c_UT_fillNull 0 = .ok (.aload_n 0, 1) := by decide +kernel
theorem d_UT_fillNull_1 : decode c_UT_fillNull 1 = .ok (.iload_n 1, 1) := by decide +kernel
theorem d_UT_fillNull_2 : decode c_UT_fillNull 2 = .ok (.iconst 1, 1) := by decide +kernel
theorem d_UT_fillNull_3 : decode c_UT_fillNull 3 = .ok (.ishl, 1) := by decide +kernel
theorem d_UT_fillNull_4 : decode c_UT_fillNull 4 = .ok (.iload_n 2, 1) := by decide +kernel
theorem d_UT_fillNull_5 : decode c_UT_fillNull 5 = .ok (.iconst 1, 1) := by decide +kernel
theorem d_UT_fillNull_6 : decode c_UT_fillNull 6 = .ok (.ishl, 1) := by decide +kernel
theorem d_UT_fillNull_7 : decode c_UT_fillNull 7 = .ok (.iconst 0, 1) := by decide +kernel
theorem d_UT_fillNull_8 : decode c_UT_fillNull 8 = .ok (.invokestatic 380, 3) := by decide +kernel
theorem d_UT_fillNull_11 : decode c_UT_fillNull 11 = .ok (.return_, 1) := by decide +kernel
def ws_UT_fillNull : List Cond := .code y_UT_fillNull c_UT_fillNull 3 none :: TBL
theorem d_SB_toString_0 : decode c_SB_toString 0 = .ok (.new 18, 3) := by decide +kernel
theorem d_SB_toString_3 : decode c_SB_toString 3 = .ok (.dup, 1) := by decide +kernel
theorem d_SB_toString_4 : decode c_SB_toString 4 = .ok (.aload_n 0, 1) := by decide +kernel
theorem d_SB_toString_5 : decode c_SB_toString 5 = .ok (.invokespecial 137, 3) := by decide +kernel
theorem d_SB_toString_8 : decode c_SB_toString 8 = .ok (.areturn, 1) := by decide +kernel
def ws_SB_toString : List Cond := .code y_SB_toString c_SB_toString 1 (some (.object "java/lang/String")) :: TBL
theorem d_ST_init_0 : decode c_ST_init 0 = .ok (.aload_n 0, 1) := by decide +kernel
theorem d_ST_init_1 : decode c_ST_init 1 = .ok (.aload_n 1, 1) := by decide +kernel
theorem d_ST_init_2 : decode c_ST_init 2 = .ok (.aconst_null, 1) := by decide +kernel
theorem d_ST_init_3 : decode c_ST_init 3 = .ok (.invokespecial 489, 3) := by decide +kernel
theorem d_ST_init_6 : decode c_ST_init 6 = .ok (.return_, 1) := by decide +kernel
def ws_ST_init : List Cond := .code y_ST_init c_ST_init 2 none :: TBL
theorem d_ST_init2_0 : decode c_ST_init2 0 = .ok (.aload_n 0, 1) := by decide +kernel
theorem d_ST_init2_1 : decode c_ST_init2 1 = .ok (.invokespecial 1, 3) := by decide +kernel
theorem d_ST_init2_4 : decode c_ST_init2 4 = .ok (.aload_n 1, 1) := by decide +kernel
theorem d_ST_init2_5 : decode c_ST_init2 5 = .ok (.invokevirtual 552, 3) := by decide +kernel
theorem d_ST_init2_8 : decode c_ST_init2 8 = .ok (.astore_n 3, 1) := by decide +kernel
theorem d_ST_init2_9 : decode c_ST_init2 9 = .ok (.aload_n 1, 1) := by decide +kernel
theorem d_ST_init2_10 : decode c_ST_init2 10 = .ok (.invokevirtual 549, 3) := by decide +kernel
theorem d_ST_init2_13 : decode c_ST_init2 13 = .ok (.istore 4, 2) := by decide +kernel
theorem d_ST_init2_15 : decode c_ST_init2 15 = .ok (.aload_n 1, 1) := by decide +kernel
theorem d_ST_init2_16 : decode c_ST_init2 16 = .ok (.invokevirtual 1047, 3) := by decide +kernel
theorem d_ST_init2_19 : decode c_ST_init2 19 = .ok (.ifCond .eq 22, 3) := by decide +kernel
theorem d_ST_init2_22 : decode c_ST_init2 22 = .ok (.aload_n 0, 1) := by decide +kernel
theorem d_ST_init2_23 : decode c_ST_init2 23 = .ok (.iconst 0, 1) := by decide +kernel
theorem d_ST_init2_24 : decode c_ST_init2 24 = .ok (.putfield 15, 3) := by decide +kernel
theorem d_ST_init2_27 : decode c_ST_init2 27 = .ok (.aload_n 0, 1) := by decide +kernel
theorem d_ST_init2_28 : decode c_ST_init2 28 = .ok (.aload_n 3, 1) := by decide +kernel
theorem d_ST_init2_29 : decode c_ST_init2 29 = .ok (.iconst 0, 1) := by decide +kernel
theorem d_ST_init2_30 : decode c_ST_init2 30 = .ok (.iload 4, 2) := by decide +kernel
theorem d_ST_init2_32 : decode c_ST_init2 32 = .ok (.invokestatic 54, 3) := by decide +kernel
theorem d_ST_init2_35 : decode c_ST_init2 35 = .ok (.putfield 9, 3) := by decide +kernel
theorem d_ST_init2_38 : decode c_ST_init2 38 = .ok (.goto 59, 3) := by decide +kernel
theorem d_ST_init2_41 : decode c_ST_init2 41 = .ok (.getstatic 38, 3) := by decide +kernel
theorem d_ST_init2_44 : decode c_ST_init2 44 = .ok (.ifCond .eq 35, 3) := by decide +kernel
theorem d_ST_init2_47 : decode c_ST_init2 47 = .ok (.aload_n 1, 1) := by decide +kernel
theorem d_ST_init2_48 : decode c_ST_init2 48 = .ok (.getfield 1048, 3) := by decide +kernel
theorem d_ST_init2_51 : decode c_ST_init2 51 = .ok (.ifCond .eq 28, 3) := by decide +kernel
theorem d_ST_init2_54 : decode c_ST_init2 54 = .ok (.aload_n 0, 1) := by decide +kernel
theorem d_ST_init2_55 : decode c_ST_init2 55 = .ok (.aload_n 3, 1) := by decide +kernel
theorem d_ST_init2_56 : decode c_ST_init2 56 = .ok (.iconst 0, 1) := by decide +kernel
theorem d_ST_init2_57 : decode c_ST_init2 57 = .ok (.iload 4, 2) := by decide +kernel
theorem d_ST_init2_59 : decode c_ST_init2 59 = .ok (.invokestatic 1051, 3) := by decide +kernel
theorem d_ST_init2_62 : decode c_ST_init2 62 = .ok (.putfield 9, 3) := by decide +kernel
theorem d_ST_init2_65 : decode c_ST_init2 65 = .ok (.aload_n 0, 1) := by decide +kernel
theorem d_ST_init2_66 : decode c_ST_init2 66 = .ok (.aload_n 0, 1) := by decide +kernel
theorem d_ST_init2_67 : decode c_ST_init2 67 = .ok (.getfield 9, 3) := by decide +kernel
theorem d_ST_init2_70 : decode c_ST_init2 70 = .ok (.iload 4, 2) := by decide +kernel
theorem d_ST_init2_72 : decode c_ST_init2 72 = .ok (.invokestatic 47, 3) := by decide +kernel
theorem d_ST_init2_75 : decode c_ST_init2 75 = .ok (.putfield 15, 3) := by decide +kernel
theorem d_ST_init2_78 : decode c_ST_init2 78 = .ok (.return_, 1) := by decide +kernel
theorem d_ST_init2_79 : decode c_ST_init2 79 = .ok (.aload_n 0, 1) := by decide +kernel
theorem d_ST_init2_80 : decode c_ST_init2 80 = .ok (.iconst 1, 1) := by decide +kernel
theorem d_ST_init2_81 : decode c_ST_init2 81 = .ok (.putfield 15, 3) := by decide +kernel
theorem d_ST_init2_84 : decode c_ST_init2 84 = .ok (.aload_n 0, 1) := by decide +kernel
theorem d_ST_init2_85 : decode c_ST_init2 85 = .ok (.aload_n 3, 1) := by decide +kernel
theorem d_ST_init2_86 : decode c_ST_init2 86 = .ok (.iconst 0, 1) := by decide +kernel
theorem d_ST_init2_87 : decode c_ST_init2 87 = .ok (.iload 4, 2) := by decide +kernel
theorem d_ST_init2_89 : decode c_ST_init2 89 = .ok (.iconst 1, 1) := by decide +kernel
theorem d_ST_init2_90 : decode c_ST_init2 90 = .ok (.ishl, 1) := by decide +kernel
theorem d_ST_init2_91 : decode c_ST_init2 91 = .ok (.invokestatic 54, 3) := by decide +kernel
theorem d_ST_init2_94 : decode c_ST_init2 94 = .ok (.putfield 9, 3) := by decide +kernel
theorem d_ST_init2_97 : decode c_ST_init2 97 = .ok (.return_, 1) := by decide +kernel
def ws_ST_init2 : List Cond := .code y_ST_init2 c_ST_init2 5 none :: TBL
theorem d_AB_getValue_0 : decode c_AB_getValue 0 = .ok (.aload_n 0, 1) := by decide +kernel
theorem d_AB_getValue_1 : decode c_AB_getValue 1 = .ok (.getfield 15, 3) := by decide +kernel
theorem d_AB_getValue_4 : decode c_AB_getValue 4 = .ok (.areturn, 1) := by decide +kernel
def ws_AB_getValue : List Cond := .code y_AB_getValue c_AB_getValue 1 (some (.array .byte)) :: TBL
theorem d_SB_length_0 : decode c_SB_length 0 = .ok (.aload_n 0, 1) := by decide +kernel
theorem d_SB_length_1 : decode c_SB_length 1 = .ok (.invokespecial 343, 3) := by decide +kernel
theorem d_SB_length_4 : decode c_SB_length 4 = .ok (.ireturn, 1) := by decide +kernel
def ws_SB_length : List Cond := .code y_SB_length c_SB_length 1 (some .int) :: TBL
theorem d_AB_length_0 : decode c_AB_length 0 = .ok (.aload_n 0, 1) := by decide +kernel
theorem d_AB_length_1 : decode c_AB_length 1 = .ok (.getfield 79, 3) := by decide +kernel
theorem d_AB_length_4 : decode c_AB_length 4 = .ok (.ireturn, 1) := by decide +kernel
def ws_AB_length : List Cond := .code y_AB_length c_AB_length 1 (some .int) :: TBL
theorem d_AR_copyOfRange_0 : decode c_AR_copyOfRange 0 = .ok (.iload_n 1, 1) := by decide +kernel
theorem d_AR_copyOfRange_1 : decode c_AR_copyOfRange 1 = .ok (.ifCond .ne 9, 3) := by decide +kernel
theorem d_AR_copyOfRange_4 : decode c_AR_copyOfRange 4 = .ok (.iload_n 2, 1) := by decide +kernel
theorem d_AR_copyOfRange_5 : decode c_AR_copyOfRange 5 = .ok (.aload_n 0, 1) := by decide +kernel
theorem d_AR_copyOfRange_6 : decode c_AR_copyOfRange 6 = .ok (.arraylength, 1) := by decide +kernel
theorem d_AR_copyOfRange_7 : decode c_AR_copyOfRange 7 = .ok (.if_icmp .eq 10, 3) := by decide +kernel
theorem d_AR_copyOfRange_10 : decode c_AR_copyOfRange 10 = .ok (.aload_n 0, 1) := by decide +kernel
theorem d_AR_copyOfRange_11 : decode c_AR_copyOfRange 11 = .ok (.iload_n 1, 1) := by decide +kernel
theorem d_AR_copyOfRange_12 : decode c_AR_copyOfRange 12 = .ok (.iload_n 2, 1) := by decide +kernel
theorem d_AR_copyOfRange_13 : decode c_AR_copyOfRange 13 = .ok (.invokestatic 339, 3) := by decide +kernel
theorem d_AR_copyOfRange_16 : decode c_AR_copyOfRange 16 = .ok (.areturn, 1) := by decide +kernel
theorem d_AR_copyOfRange_17 : decode c_AR_copyOfRange 17 = .ok (.aload_n 0, 1) := by decide +kernel
theorem d_AR_copyOfRange_18 : decode c_AR_copyOfRange 18 = .ok (.invokevirtual 310, 3) := by decide +kernel
theorem d_AR_copyOfRange_21 : decode c_AR_copyOfRange 21 = .ok (.checkcast 311, 3) := by decide +kernel
theorem d_AR_copyOfRange_24 : decode c_AR_copyOfRange 24 = .ok (.areturn, 1) := by decide +kernel
def ws_AR_copyOfRange : List Cond := .code y_AR_copyOfRange c_AR_copyOfRange 3 (some (.array .byte)) :: TBL
theorem d_AR_copyOfRangeByte_0 : decode c_AR_copyOfRangeByte 0 = .ok (.iload_n 1, 1) := by decide +kernel
theorem d_AR_copyOfRangeByte_1 : decode c_AR_copyOfRangeByte 1 = .ok (.iload_n 2, 1) := by decide +kernel
theorem d_AR_copyOfRangeByte_2 : decode c_AR_copyOfRangeByte 2 = .ok (.invokestatic 343, 3) := by decide +kernel
theorem d_AR_copyOfRangeByte_5 : decode c_AR_copyOfRangeByte 5 = .ok (.iload_n 2, 1) := by decide +kernel
theorem d_AR_copyOfRangeByte_6 : decode c_AR_copyOfRangeByte 6 = .ok (.iload_n 1, 1) := by decide +kernel
theorem d_AR_copyOfRangeByte_7 : decode c_AR_copyOfRangeByte 7 = .ok (.isub, 1) := by decide +kernel
theorem d_AR_copyOfRangeByte_8 : decode c_AR_copyOfRangeByte 8 = .ok (.istore_n 3, 1) := by decide +kernel
theorem d_AR_copyOfRangeByte_9 : decode c_AR_copyOfRangeByte 9 = .ok (.iload_n 3, 1) := by decide +kernel
theorem d_AR_copyOfRangeByte_10 : decode c_AR_copyOfRangeByte 10 = .ok (.newarray .byte, 2) := by decide +kernel
theorem d_AR_copyOfRangeByte_12 : decode c_AR_copyOfRangeByte 12 = .ok (.astore 4, 2) := by decide +kernel
theorem d_AR_copyOfRangeByte_14 : decode c_AR_copyOfRangeByte 14 = .ok (.aload_n 0, 1) := by decide +kernel
theorem d_AR_copyOfRangeByte_15 : decode c_AR_copyOfRangeByte 15 = .ok (.iload_n 1, 1) := by decide +kernel
theorem d_AR_copyOfRangeByte_16 : decode c_AR_copyOfRangeByte 16 = .ok (.aload 4, 2) := by decide +kernel
theorem d_AR_copyOfRangeByte_18 : decode c_AR_copyOfRangeByte 18 = .ok (.iconst 0, 1) := by decide +kernel
theorem d_AR_copyOfRangeByte_19 : decode c_AR_copyOfRangeByte 19 = .ok (.aload_n 0, 1) := by decide +kernel
theorem d_AR_copyOfRangeByte_20 : decode c_AR_copyOfRangeByte 20 = .ok (.arraylength, 1) := by decide +kernel
theorem d_AR_copyOfRangeByte_21 : decode c_AR_copyOfRangeByte 21 = .ok (.iload_n 1, 1) := by decide +kernel
theorem d_AR_copyOfRangeByte_22 : decode c_AR_copyOfRangeByte 22 = .ok (.isub, 1) := by decide +kernel
theorem d_AR_copyOfRangeByte_23 : decode c_AR_copyOfRangeByte 23 = .ok (.iload_n 3, 1) := by decide +kernel
theorem d_AR_copyOfRangeByte_24 : decode c_AR_copyOfRangeByte 24 = .ok (.invokestatic 304, 3) := by decide +kernel
theorem d_AR_copyOfRangeByte_27 : decode c_AR_copyOfRangeByte 27 = .ok (.invokestatic 150, 3) := by decide +kernel
theorem d_AR_copyOfRangeByte_30 : decode c_AR_copyOfRangeByte 30 = .ok (.aload 4, 2) := by decide +kernel
theorem d_AR_copyOfRangeByte_32 : decode c_AR_copyOfRangeByte 32 = .ok (.areturn, 1) := by decide +kernel
def ws_AR_copyOfRangeByte : List Cond := .code y_AR_copyOfRangeByte c_AR_copyOfRangeByte 5 (some (.array .byte)) :: TBL
theorem d_AR_checkLength_0 : decode c_AR_checkLength 0 = .ok (.iload_n 1, 1) := by decide +kernel
theorem d_AR_checkLength_1 : decode c_AR_checkLength 1 = .ok (.iload_n 0, 1) := by decide +kernel
theorem d_AR_checkLength_2 : decode c_AR_checkLength 2 = .ok (.if_icmp .ge 35, 3) := by decide +kernel
theorem d_AR_checkLength_5 : decode c_AR_checkLength 5 = .ok (.new 43, 3) := by decide +kernel
theorem d_AR_checkLength_8 : decode c_AR_checkLength 8 = .ok (.dup, 1) := by decide +kernel
theorem d_AR_checkLength_9 : decode c_AR_checkLength 9 = .ok (.new 45, 3) := by decide +kernel
theorem d_AR_checkLength_12 : decode c_AR_checkLength 12 = .ok (.dup, 1) := by decide +kernel
theorem d_AR_checkLength_13 : decode c_AR_checkLength 13 = .ok (.invokespecial 47, 3) := by decide +kernel
theorem d_AR_checkLength_16 : decode c_AR_checkLength 16 = .ok (.iload_n 0, 1) := by decide +kernel
theorem d_AR_checkLength_17 : decode c_AR_checkLength 17 = .ok (.invokevirtual 54, 3) := by decide +kernel
theorem d_AR_checkLength_20 : decode c_AR_checkLength 20 = .ok (.ldc_w 337, 3) := by decide +kernel
theorem d_AR_checkLength_23 : decode c_AR_checkLength 23 = .ok (.invokevirtual 50, 3) := by decide +kernel
theorem d_AR_checkLength_26 : decode c_AR_checkLength 26 = .ok (.iload_n 1, 1) := by decide +kernel
theorem d_AR_checkLength_27 : decode c_AR_checkLength 27 = .ok (.invokevirtual 54, 3) := by decide +kernel
theorem d_AR_checkLength_30 : decode c_AR_checkLength 30 = .ok (.invokevirtual 61, 3) := by decide +kernel
theorem d_AR_checkLength_33 : decode c_AR_checkLength 33 = .ok (.invokespecial 65, 3) := by decide +kernel
theorem d_AR_checkLength_36 : decode c_AR_checkLength 36 = .ok (.athrow, 1) := by decide +kernel
theorem d_AR_checkLength_37 : decode c_AR_checkLength 37 = .ok (.return_, 1) := by decide +kernel
def ws_AR_checkLength : List Cond := .code y_AR_checkLength c_AR_checkLength 2 none :: TBL
theorem d_UT_compress_0 : decode c_UT_compress 0 = .ok (.iload_n 2, 1) := by decide +kernel
theorem d_UT_compress_1 : decode c_UT_compress 1 = .ok (.newarray .byte, 2) := by decide +kernel
theorem d_UT_compress_3 : decode c_UT_compress 3 = .ok (.astore_n 3, 1) := by decide +kernel
theorem d_UT_compress_4 : decode c_UT_compress 4 = .ok (.aload_n 0, 1) := by decide +kernel
theorem d_UT_compress_5 : decode c_UT_compress 5 = .ok (.iload_n 1, 1) := by decide +kernel
theorem d_UT_compress_6 : decode c_UT_compress 6 = .ok (.aload_n 3, 1) := by decide +kernel
theorem d_UT_compress_7 : decode c_UT_compress 7 = .ok (.iconst 0, 1) := by decide +kernel
theorem d_UT_compress_8 : decode c_UT_compress 8 = .ok (.iload_n 2, 1) := by decide +kernel
theorem d_UT_compress_9 : decode c_UT_compress 9 = .ok (.invokestatic 123, 3) := by decide +kernel
theorem d_UT_compress_12 : decode c_UT_compress 12 = .ok (.istore 4, 2) := by decide +kernel
theorem d_UT_compress_14 : decode c_UT_compress 14 = .ok (.iload 4, 2) := by decide +kernel
theorem d_UT_compress_16 : decode c_UT_compress 16 = .ok (.iload_n 2, 1) := by decide +kernel
theorem d_UT_compress_17 : decode c_UT_compress 17 = .ok (.if_icmp .eq 47, 3) := by decide +kernel
theorem d_UT_compress_20 : decode c_UT_compress 20 = .ok (.aload_n 0, 1) := by decide +kernel
theorem d_UT_compress_21 : decode c_UT_compress 21 = .ok (.iload_n 1, 1) := by decide +kernel
theorem d_UT_compress_22 : decode c_UT_compress 22 = .ok (.iconst 1, 1) := by decide +kernel
theorem d_UT_compress_23 : decode c_UT_compress 23 = .ok (.ishl, 1) := by decide +kernel
theorem d_UT_compress_24 : decode c_UT_compress 24 = .ok (.iload_n 1, 1) := by decide +kernel
theorem d_UT_compress_25 : decode c_UT_compress 25 = .ok (.iload_n 2, 1) := by decide +kernel
theorem d_UT_compress_26 : decode c_UT_compress 26 = .ok (.iadd, 1) := by decide +kernel
theorem d_UT_compress_27 : decode c_UT_compress 27 = .ok (.invokestatic 11, 3) := by decide +kernel
theorem d_UT_compress_30 : decode c_UT_compress 30 = .ok (.invokestatic 126, 3) := by decide +kernel
theorem d_UT_compress_33 : decode c_UT_compress 33 = .ok (.astore 5, 2) := by decide +kernel
theorem d_UT_compress_35 : decode c_UT_compress 35 = .ok (.aload 5, 2) := by decide +kernel
theorem d_UT_compress_37 : decode c_UT_compress 37 = .ok (.iload 4, 2) := by decide +kernel
theorem d_UT_compress_39 : decode c_UT_compress 39 = .ok (.invokestatic 71, 3) := by decide +kernel
theorem d_UT_compress_42 : decode c_UT_compress 42 = .ok (.sipush 255, 3) := by decide +kernel
theorem d_UT_compress_45 : decode c_UT_compress 45 = .ok (.if_icmp .gt 16, 3) := by decide +kernel
theorem d_UT_compress_48 : decode c_UT_compress 48 = .ok (.aload 5, 2) := by decide +kernel
theorem d_UT_compress_50 : decode c_UT_compress 50 = .ok (.iconst 0, 1) := by decide +kernel
theorem d_UT_compress_51 : decode c_UT_compress 51 = .ok (.aload_n 3, 1) := by decide +kernel
theorem d_UT_compress_52 : decode c_UT_compress 52 = .ok (.iconst 0, 1) := by decide +kernel
theorem d_UT_compress_53 : decode c_UT_compress 53 = .ok (.iload_n 2, 1) := by decide +kernel
theorem d_UT_compress_54 : decode c_UT_compress 54 = .ok (.invokestatic 123, 3) := by decide +kernel
theorem d_UT_compress_57 : decode c_UT_compress 57 = .ok (.iload_n 2, 1) := by decide +kernel
theorem d_UT_compress_58 : decode c_UT_compress 58 = .ok (.if_icmp .eq 6, 3) := by decide +kernel
theorem d_UT_compress_61 : decode c_UT_compress 61 = .ok (.aload 5, 2) := by decide +kernel
theorem d_UT_compress_63 : decode c_UT_compress 63 = .ok (.areturn, 1) := by decide +kernel
theorem d_UT_compress_64 : decode c_UT_compress 64 = .ok (.aload_n 3, 1) := by decide +kernel
theorem d_UT_compress_65 : decode c_UT_compress 65 = .ok (.areturn, 1) := by decide +kernel
def ws_UT_compress : List Cond := .code y_UT_compress c_UT_compress 6 (some (.array .byte)) :: TBL
theorem d_UT_compress2_0 : decode c_UT_compress2 0 = .ok (.iload_n 1, 1) := by decide +kernel
theorem d_UT_compress2_1 : decode c_UT_compress2 1 = .ok (.iload 4, 2) := by decide +kernel
theorem d_UT_compress2_3 : decode c_UT_compress2 3 = .ok (.aload_n 0, 1) := by decide +kernel
theorem d_UT_compress2_4 : decode c_UT_compress2 4 = .ok (.invokestatic 173, 3) := by decide +kernel
theorem d_UT_compress2_7 : decode c_UT_compress2 7 = .ok (.iconst 0, 1) := by decide +kernel
theorem d_UT_compress2_8 : decode c_UT_compress2 8 = .ok (.istore 5, 2) := by decide +kernel
theorem d_UT_compress2_10 : decode c_UT_compress2 10 = .ok (.iload 5, 2) := by decide +kernel
theorem d_UT_compress2_12 : decode c_UT_compress2 12 = .ok (.iload 4, 2) := by decide +kernel
theorem d_UT_compress2_14 : decode c_UT_compress2 14 = .ok (.if_icmp .ge 39, 3) := by decide +kernel
theorem d_UT_compress2_17 : decode c_UT_compress2 17 = .ok (.aload_n 0, 1) := by decide +kernel
theorem d_UT_compress2_18 : decode c_UT_compress2 18 = .ok (.iload_n 1, 1) := by decide +kernel
theorem d_UT_compress2_19 : decode c_UT_compress2 19 = .ok (.invokestatic 71, 3) := by decide +kernel
theorem d_UT_compress2_22 : decode c_UT_compress2 22 = .ok (.istore 6, 2) := by decide +kernel
theorem d_UT_compress2_24 : decode c_UT_compress2 24 = .ok (.iload 6, 2) := by decide +kernel
theorem d_UT_compress2_26 : decode c_UT_compress2 26 = .ok (.sipush 255, 3) := by decide +kernel
theorem d_UT_compress2_29 : decode c_UT_compress2 29 = .ok (.if_icmp .le 6, 3) := by decide +kernel
theorem d_UT_compress2_32 : decode c_UT_compress2 32 = .ok (.iload 5, 2) := by decide +kernel
theorem d_UT_compress2_34 : decode c_UT_compress2 34 = .ok (.ireturn, 1) := by decide +kernel
theorem d_UT_compress2_35 : decode c_UT_compress2 35 = .ok (.aload_n 2, 1) := by decide +kernel
theorem d_UT_compress2_36 : decode c_UT_compress2 36 = .ok (.iload_n 3, 1) := by decide +kernel
theorem d_UT_compress2_37 : decode c_UT_compress2 37 = .ok (.iload 6, 2) := by decide +kernel
theorem d_UT_compress2_39 : decode c_UT_compress2 39 = .ok (.i2b, 1) := by decide +kernel
theorem d_UT_compress2_40 : decode c_UT_compress2 40 = .ok (.bastore, 1) := by decide +kernel
theorem d_UT_compress2_41 : decode c_UT_compress2 41 = .ok (.iinc 1 1, 3) := by decide +kernel
theorem d_UT_compress2_44 : decode c_UT_compress2 44 = .ok (.iinc 3 1, 3) := by decide +kernel
theorem d_UT_compress2_47 : decode c_UT_compress2 47 = .ok (.iinc 5 1, 3) := by decide +kernel
theorem d_UT_compress2_50 : decode c_UT_compress2 50 = .ok (.goto (-40), 3) := by decide +kernel
theorem d_UT_compress2_53 : decode c_UT_compress2 53 = .ok (.iload 4, 2) := by decide +kernel
theorem d_UT_compress2_55 : decode c_UT_compress2 55 = .ok (.ireturn, 1) := by decide +kernel
def ws_UT_compress2 : List Cond := .code y_UT_compress2 c_UT_compress2 7 (some .int) :: TBL
theorem d_UT_checkBoundsOffCount_0 : decode c_UT_checkBoundsOffCount 0 = .ok (.iload_n 0, 1) := by decide +kernel
theorem d_UT_checkBoundsOffCount_1 : decode c_UT_checkBoundsOffCount 1 = .ok (.iload_n 1, 1) := by decide +kernel
theorem d_UT_checkBoundsOffCount_2 : decode c_UT_checkBoundsOffCount 2 = .ok (.aload_n 2, 1) := by decide +kernel
theorem d_UT_checkBoundsOffCount_3 : decode c_UT_checkBoundsOffCount 3 = .ok (.invokestatic 48, 3) := by decide +kernel
theorem d_UT_checkBoundsOffCount_6 : decode c_UT_checkBoundsOffCount 6 = .ok (.invokestatic 419, 3) := by decide +kernel
theorem d_UT_checkBoundsOffCount_9 : decode c_UT_checkBoundsOffCount 9 = .ok (.pop, 1) := by decide +kernel
theorem d_UT_checkBoundsOffCount_10 : decode c_UT_checkBoundsOffCount 10 = .ok (.return_, 1) := by decide +kernel
def ws_UT_checkBoundsOffCount : List Cond := .code y_UT_checkBoundsOffCount c_UT_checkBoundsOffCount 3 none :: TBL
theorem d_UT_length_0 : decode c_UT_length 0 = .ok (.aload_n 0, 1) := by decide +kernel
theorem d_UT_length_1 : decode c_UT_length 1 = .ok (.arraylength, 1) := by decide +kernel
theorem d_UT_length_2 : decode c_UT_length 2 = .ok (.iconst 1, 1) := by decide +kernel
theorem d_UT_length_3 : decode c_UT_length 3 = .ok (.ishr, 1) := by decide +kernel
theorem d_UT_length_4 : decode c_UT_length 4 = .ok (.ireturn, 1) := by decide +kernel
def ws_UT_length : List Cond := .code y_UT_length c_UT_length 1 (some .int) :: TBL
theorem d_ST_checkBoundsOffCount_0 : decode c_ST_checkBoundsOffCount 0 = .ok (.iload_n 0, 1) := by decide +kernel
theorem d_ST_checkBoundsOffCount_1 : decode c_ST_checkBoundsOffCount 1 = .ok (.iload_n 1, 1) := by decide +kernel
theorem d_ST_checkBoundsOffCount_2 : decode c_ST_checkBoundsOffCount 2 = .ok (.iload_n 2, 1) := by decide +kernel
theorem d_ST_checkBoundsOffCount_3 : decode c_ST_checkBoundsOffCount 3 = .ok (.getstatic 1053, 3) := by decide +kernel
theorem d_ST_checkBoundsOffCount_6 : decode c_ST_checkBoundsOffCount 6 = .ok (.invokestatic 1065, 3) := by decide +kernel
theorem d_ST_checkBoundsOffCount_9 : decode c_ST_checkBoundsOffCount 9 = .ok (.ireturn, 1) := by decide +kernel
def ws_ST_checkBoundsOffCount : List Cond := .code y_ST_checkBoundsOffCount c_ST_checkBoundsOffCount 3 (some .int) :: TBL
theorem d_PC_checkFromIndexSize_0 : decode c_PC_checkFromIndexSize 0 = .ok (.iload_n 2, 1) := by decide +kernel
theorem d_PC_checkFromIndexSize_1 : decode c_PC_checkFromIndexSize 1 = .ok (.iload_n 0, 1) := by decide +kernel
theorem d_PC_checkFromIndexSize_2 : decode c_PC_checkFromIndexSize 2 = .ok (.ior, 1) := by decide +kernel
theorem d_PC_checkFromIndexSize_3 : decode c_PC_checkFromIndexSize 3 = .ok (.iload_n 1, 1) := by decide +kernel
theorem d_PC_checkFromIndexSize_4 : decode c_PC_checkFromIndexSize 4 = .ok (.ior, 1) := by decide +kernel
theorem d_PC_checkFromIndexSize_5 : decode c_PC_checkFromIndexSize 5 = .ok (.ifCond .lt 10, 3) := by decide +kernel
theorem d_PC_checkFromIndexSize_8 : decode c_PC_checkFromIndexSize 8 = .ok (.iload_n 1, 1) := by decide +kernel
theorem d_PC_checkFromIndexSize_9 : decode c_PC_checkFromIndexSize 9 = .ok (.iload_n 2, 1) := by decide +kernel
theorem d_PC_checkFromIndexSize_10 : decode c_PC_checkFromIndexSize 10 = .ok (.iload_n 0, 1) := by decide +kernel
theorem d_PC_checkFromIndexSize_11 : decode c_PC_checkFromIndexSize 11 = .ok (.isub, 1) := by decide +kernel
theorem d_PC_checkFromIndexSize_12 : decode c_PC_checkFromIndexSize 12 = .ok (.if_icmp .le 11, 3) := by decide +kernel
theorem d_PC_checkFromIndexSize_15 : decode c_PC_checkFromIndexSize 15 = .ok (.aload_n 3, 1) := by decide +kernel
theorem d_PC_checkFromIndexSize_16 : decode c_PC_checkFromIndexSize 16 = .ok (.iload_n 0, 1) := by decide +kernel
theorem d_PC_checkFromIndexSize_17 : decode c_PC_checkFromIndexSize 17 = .ok (.iload_n 1, 1) := by decide +kernel
theorem d_PC_checkFromIndexSize_18 : decode c_PC_checkFromIndexSize 18 = .ok (.iload_n 2, 1) := by decide +kernel
theorem d_PC_checkFromIndexSize_19 : decode c_PC_checkFromIndexSize 19 = .ok (.invokestatic 103, 3) := by decide +kernel
theorem d_PC_checkFromIndexSize_22 : decode c_PC_checkFromIndexSize 22 = .ok (.athrow, 1) := by decide +kernel
theorem d_PC_checkFromIndexSize_23 : decode c_PC_checkFromIndexSize 23 = .ok (.iload_n 0, 1) := by decide +kernel
theorem d_PC_checkFromIndexSize_24 : decode c_PC_checkFromIndexSize 24 = .ok (.ireturn, 1) := by decide +kernel
def ws_PC_checkFromIndexSize : List Cond := .code y_PC_checkFromIndexSize c_PC_checkFromIndexSize 4 (some .int) :: TBL
theorem d_UT_getChar_0 : decode c_UT_getChar 0 = .ok (.getstatic 44, 3) := by decide +kernel
theorem d_UT_getChar_3 : decode c_UT_getChar 3 = .ok (.ifCond .ne 25, 3) := by decide +kernel
theorem d_UT_getChar_6 : decode c_UT_getChar 6 = .ok (.iload_n 1, 1) := by decide +kernel
theorem d_UT_getChar_7 : decode c_UT_getChar 7 = .ok (.ifCond .lt 11, 3) := by decide +kernel
theorem d_UT_getChar_10 : decode c_UT_getChar 10 = .ok (.iload_n 1, 1) := by decide +kernel
theorem d_UT_getChar_11 : decode c_UT_getChar 11 = .ok (.aload_n 0, 1) := by decide +kernel
theorem d_UT_getChar_12 : decode c_UT_getChar 12 = .ok (.invokestatic 48, 3) := by decide +kernel
theorem d_UT_getChar_15 : decode c_UT_getChar 15 = .ok (.if_icmp .lt 13, 3) := by decide +kernel
theorem d_UT_getChar_18 : decode c_UT_getChar 18 = .ok (.new 52, 3) := by decide +kernel
theorem d_UT_getChar_21 : decode c_UT_getChar 21 = .ok (.dup, 1) := by decide +kernel
theorem d_UT_getChar_22 : decode c_UT_getChar 22 = .ok (.ldc 54, 2) := by decide +kernel
theorem d_UT_getChar_24 : decode c_UT_getChar 24 = .ok (.invokespecial 56, 3) := by decide +kernel
theorem d_UT_getChar_27 : decode c_UT_getChar 27 = .ok (.athrow, 1) := by decide +kernel
theorem d_UT_getChar_28 : decode c_UT_getChar 28 = .ok (.iload_n 1, 1) := by decide +kernel
theorem d_UT_getChar_29 : decode c_UT_getChar 29 = .ok (.iconst 1, 1) := by decide +kernel
theorem d_UT_getChar_30 : decode c_UT_getChar 30 = .ok (.ishl, 1) := by decide +kernel
theorem d_UT_getChar_31 : decode c_UT_getChar 31 = .ok (.istore_n 1, 1) := by decide +kernel
theorem d_UT_getChar_32 : decode c_UT_getChar 32 = .ok (.aload_n 0, 1) := by decide +kernel
theorem d_UT_getChar_33 : decode c_UT_getChar 33 = .ok (.iload_n 1, 1) := by decide +kernel
theorem d_UT_getChar_34 : decode c_UT_getChar 34 = .ok (.iinc 1 1, 3) := by decide +kernel
theorem d_UT_getChar_37 : decode c_UT_getChar 37 = .ok (.baload, 1) := by decide +kernel
theorem d_UT_getChar_38 : decode c_UT_getChar 38 = .ok (.sipush 255, 3) := by decide +kernel
theorem d_UT_getChar_41 : decode c_UT_getChar 41 = .ok (.iand, 1) := by decide +kernel
theorem d_UT_getChar_42 : decode c_UT_getChar 42 = .ok (.getstatic 59, 3) := by decide +kernel
theorem d_UT_getChar_45 : decode c_UT_getChar 45 = .ok (.ishl, 1) := by decide +kernel
theorem d_UT_getChar_46 : decode c_UT_getChar 46 = .ok (.aload_n 0, 1) := by decide +kernel
theorem d_UT_getChar_47 : decode c_UT_getChar 47 = .ok (.iload_n 1, 1) := by decide +kernel
theorem d_UT_getChar_48 : decode c_UT_getChar 48 = .ok (.baload, 1) := by decide +kernel
theorem d_UT_getChar_49 : decode c_UT_getChar 49 = .ok (.sipush 255, 3) := by decide +kernel
theorem d_UT_getChar_52 : decode c_UT_getChar 52 = .ok (.iand, 1) := by decide +kernel
theorem d_UT_getChar_53 : decode c_UT_getChar 53 = .ok (.getstatic 63, 3) := by decide +kernel
theorem d_UT_getChar_56 : decode c_UT_getChar 56 = .ok (.ishl, 1) := by decide +kernel
theorem d_UT_getChar_57 : decode c_UT_getChar 57 = .ok (.ior, 1) := by decide +kernel
theorem d_UT_getChar_58 : decode c_UT_getChar 58 = .ok (.i2c, 1) := by decide +kernel
theorem d_UT_getChar_59 : decode c_UT_getChar 59 = .ok (.ireturn, 1) := by decide +kernel
def ws_UT_getChar : List Cond := .code y_UT_getChar c_UT_getChar 2 (some .char) :: TBL
theorem d_UT_coderFromArrayLen_0 : decode c_UT_coderFromArrayLen 0 = .ok (.iload_n 1, 1) := by decide +kernel
theorem d_UT_coderFromArrayLen_1 : decode c_UT_coderFromArrayLen 1 = .ok (.aload_n 0, 1) := by decide +kernel
theorem d_UT_coderFromArrayLen_2 : decode c_UT_coderFromArrayLen 2 = .ok (.arraylength, 1) := by decide +kernel
theorem d_UT_coderFromArrayLen_3 : decode c_UT_coderFromArrayLen 3 = .ok (.isub, 1) := by decide +kernel
theorem d_UT_coderFromArrayLen_4 : decode c_UT_coderFromArrayLen 4 = .ok (.bipush 31, 2) := by decide +kernel
theorem d_UT_coderFromArrayLen_6 : decode c_UT_coderFromArrayLen 6 = .ok (.iushr, 1) := by decide +kernel
theorem d_UT_coderFromArrayLen_7 : decode c_UT_coderFromArrayLen 7 = .ok (.i2b, 1) := by decide +kernel
theorem d_UT_coderFromArrayLen_8 : decode c_UT_coderFromArrayLen 8 = .ok (.ireturn, 1) := by decide +kernel
def ws_UT_coderFromArrayLen : List Cond := .code y_UT_coderFromArrayLen c_UT_coderFromArrayLen 2 (some .byte) :: TBL
theorem d_SB_append_0 : decode c_SB_append 0 = .ok (.aload_n 0, 1) := by decide +kernel
theorem d_SB_append_1 : decode c_SB_append 1 = .ok (.iload_n 1, 1) := by decide +kernel
theorem d_SB_append_2 : decode c_SB_append 2 = .ok (.invokespecial 50, 3) := by decide +kernel
theorem d_SB_append_5 : decode c_SB_append 5 = .ok (.pop, 1) := by decide +kernel
theorem d_SB_append_6 : decode c_SB_append 6 = .ok (.aload_n 0, 1) := by decide +kernel
theorem d_SB_append_7 : decode c_SB_append 7 = .ok (.areturn, 1) := by decide +kernel
def ws_SB_append : List Cond := .code y_SB_append c_SB_append 2 (some (.object "java/lang/StringBuilder")) :: TBL
theorem d_AB_append_0 : decode c_AB_append 0 = .ok (.aload_n 0, 1) := by decide +kernel
theorem d_AB_append_1 : decode c_AB_append 1 = .ok (.aload_n 0, 1) := by decide +kernel
theorem d_AB_append_2 : decode c_AB_append 2 = .ok (.getfield 79, 3) := by decide +kernel
theorem d_AB_append_5 : decode c_AB_append 5 = .ok (.iconst 1, 1) := by decide +kernel
theorem d_AB_append_6 : decode c_AB_append 6 = .ok (.iadd, 1) := by decide +kernel
theorem d_AB_append_7 : decode c_AB_append 7 = .ok (.invokevirtual 100, 3) := by decide +kernel
theorem d_AB_append_10 : decode c_AB_append 10 = .ok (.aload_n 0, 1) := by decide +kernel
theorem d_AB_append_11 : decode c_AB_append 11 = .ok (.invokevirtual 83, 3) := by decide +kernel
theorem d_AB_append_14 : decode c_AB_append 14 = .ok (.ifCond .eq 31, 3) := by decide +kernel
theorem d_AB_append_17 : decode c_AB_append 17 = .ok (.iload_n 1, 1) := by decide +kernel
theorem d_AB_append_18 : decode c_AB_append 18 = .ok (.invokestatic 191, 3) := by decide +kernel
theorem d_AB_append_21 : decode c_AB_append 21 = .ok (.ifCond .eq 24, 3) := by decide +kernel
theorem d_AB_append_24 : decode c_AB_append 24 = .ok (.aload_n 0, 1) := by decide +kernel
theorem d_AB_append_25 : decode c_AB_append 25 = .ok (.getfield 15, 3) := by decide +kernel
theorem d_AB_append_28 : decode c_AB_append 28 = .ok (.aload_n 0, 1) := by decide +kernel
theorem d_AB_append_29 : decode c_AB_append 29 = .ok (.dup, 1) := by decide +kernel
theorem d_AB_append_30 : decode c_AB_append 30 = .ok (.getfield 79, 3) := by decide +kernel
theorem d_AB_append_33 : decode c_AB_append 33 = .ok (.dup_x1, 1) := by decide +kernel
theorem d_AB_append_34 : decode c_AB_append 34 = .ok (.iconst 1, 1) := by decide +kernel
theorem d_AB_append_35 : decode c_AB_append 35 = .ok (.iadd, 1) := by decide +kernel
theorem d_AB_append_36 : decode c_AB_append 36 = .ok (.putfield 79, 3) := by decide +kernel
theorem d_AB_append_39 : decode c_AB_append 39 = .ok (.iload_n 1, 1) := by decide +kernel
theorem d_AB_append_40 : decode c_AB_append 40 = .ok (.i2b, 1) := by decide +kernel
theorem d_AB_append_41 : decode c_AB_append 41 = .ok (.bastore, 1) := by decide +kernel
theorem d_AB_append_42 : decode c_AB_append 42 = .ok (.goto 33, 3) := by decide +kernel
theorem d_AB_append_45 : decode c_AB_append 45 = .ok (.aload_n 0, 1) := by decide +kernel
theorem d_AB_append_46 : decode c_AB_append 46 = .ok (.invokevirtual 83, 3) := by decide +kernel
theorem d_AB_append_49 : decode c_AB_append 49 = .ok (.ifCond .eq 7, 3) := by decide +kernel
theorem d_AB_append_52 : decode c_AB_append 52 = .ok (.aload_n 0, 1) := by decide +kernel
theorem d_AB_append_53 : decode c_AB_append 53 = .ok (.invokevirtual 195, 3) := by decide +kernel
theorem d_AB_append_56 : decode c_AB_append 56 = .ok (.aload_n 0, 1) := by decide +kernel
theorem d_AB_append_57 : decode c_AB_append 57 = .ok (.getfield 15, 3) := by decide +kernel
theorem d_AB_append_60 : decode c_AB_append 60 = .ok (.aload_n 0, 1) := by decide +kernel
theorem d_AB_append_61 : decode c_AB_append 61 = .ok (.dup, 1) := by decide +kernel
theorem d_AB_append_62 : decode c_AB_append 62 = .ok (.getfield 79, 3) := by decide +kernel
theorem d_AB_append_65 : decode c_AB_append 65 = .ok (.dup_x1, 1) := by decide +kernel
theorem d_AB_append_66 : decode c_AB_append 66 = .ok (.iconst 1, 1) := by decide +kernel
theorem d_AB_append_67 : decode c_AB_append 67 = .ok (.iadd, 1) := by decide +kernel
theorem d_AB_append_68 : decode c_AB_append 68 = .ok (.putfield 79, 3) := by decide +kernel
theorem d_AB_append_71 : decode c_AB_append 71 = .ok (.iload_n 1, 1) := by decide +kernel
theorem d_AB_append_72 : decode c_AB_append 72 = .ok (.invokestatic 197, 3) := by decide +kernel
theorem d_AB_append_75 : decode c_AB_append 75 = .ok (.aload_n 0, 1) := by decide +kernel
theorem d_AB_append_76 : decode c_AB_append 76 = .ok (.areturn, 1) := by decide +kernel
def ws_AB_append : List Cond := .code y_AB_append c_AB_append 2 (some (.object "java/lang/AbstractStringBuilder")) :: TBL
theorem d_LT_canEncode_0 : decode c_LT_canEncode 0 = .ok (.iload_n 0, 1) := by decide +kernel
theorem d_LT_canEncode_1 : decode c_LT_canEncode 1 = .ok (.sipush 255, 3) := by decide +kernel
theorem d_LT_canEncode_4 : decode c_LT_canEncode 4 = .ok (.if_icmp .gt 7, 3) := by decide +kernel
theorem d_LT_canEncode_7 : decode c_LT_canEncode 7 = .ok (.iconst 1, 1) := by decide +kernel
theorem d_LT_canEncode_8 : decode c_LT_canEncode 8 = .ok (.goto 4, 3) := by decide +kernel
theorem d_LT_canEncode_11 : decode c_LT_canEncode 11 = .ok (.iconst 0, 1) := by decide +kernel
theorem d_LT_canEncode_12 : decode c_LT_canEncode 12 = .ok (.ireturn, 1) := by decide +kernel
def ws_LT_canEncode : List Cond := .code y_LT_canEncode c_LT_canEncode 1 (some .boolean) :: TBL
theorem d_AB_inflate_0 : decode c_AB_inflate 0 = .ok (.aload_n 0, 1) := by decide +kernel
theorem d_AB_inflate_1 : decode c_AB_inflate 1 = .ok (.invokevirtual 83, 3) := by decide +kernel
theorem d_AB_inflate_4 : decode c_AB_inflate 4 = .ok (.ifCond .ne 4, 3) := by decide +kernel
theorem d_AB_inflate_7 : decode c_AB_inflate 7 = .ok (.return_, 1) := by decide +kernel
theorem d_AB_inflate_8 : decode c_AB_inflate 8 = .ok (.aload_n 0, 1) := by decide +kernel
theorem d_AB_inflate_9 : decode c_AB_inflate 9 = .ok (.getfield 15, 3) := by decide +kernel
theorem d_AB_inflate_12 : decode c_AB_inflate 12 = .ok (.arraylength, 1) := by decide +kernel
theorem d_AB_inflate_13 : decode c_AB_inflate 13 = .ok (.invokestatic 26, 3) := by decide +kernel
theorem d_AB_inflate_16 : decode c_AB_inflate 16 = .ok (.astore_n 1, 1) := by decide +kernel
theorem d_AB_inflate_17 : decode c_AB_inflate 17 = .ok (.aload_n 0, 1) := by decide +kernel
theorem d_AB_inflate_18 : decode c_AB_inflate 18 = .ok (.getfield 15, 3) := by decide +kernel
theorem d_AB_inflate_21 : decode c_AB_inflate 21 = .ok (.iconst 0, 1) := by decide +kernel
theorem d_AB_inflate_22 : decode c_AB_inflate 22 = .ok (.aload_n 1, 1) := by decide +kernel
theorem d_AB_inflate_23 : decode c_AB_inflate 23 = .ok (.iconst 0, 1) := by decide +kernel
theorem d_AB_inflate_24 : decode c_AB_inflate 24 = .ok (.aload_n 0, 1) := by decide +kernel
theorem d_AB_inflate_25 : decode c_AB_inflate 25 = .ok (.getfield 79, 3) := by decide +kernel
theorem d_AB_inflate_28 : decode c_AB_inflate 28 = .ok (.invokestatic 125, 3) := by decide +kernel
theorem d_AB_inflate_31 : decode c_AB_inflate 31 = .ok (.aload_n 0, 1) := by decide +kernel
theorem d_AB_inflate_32 : decode c_AB_inflate 32 = .ok (.aload_n 1, 1) := by decide +kernel
theorem d_AB_inflate_33 : decode c_AB_inflate 33 = .ok (.putfield 15, 3) := by decide +kernel
theorem d_AB_inflate_36 : decode c_AB_inflate 36 = .ok (.aload_n 0, 1) := by decide +kernel
theorem d_AB_inflate_37 : decode c_AB_inflate 37 = .ok (.iconst 1, 1) := by decide +kernel
theorem d_AB_inflate_38 : decode c_AB_inflate 38 = .ok (.putfield 22, 3) := by decide +kernel
theorem d_AB_inflate_41 : decode c_AB_inflate 41 = .ok (.return_, 1) := by decide +kernel
def ws_AB_inflate : List Cond := .code y_AB_inflate c_AB_inflate 2 none :: TBL
theorem d_LT_inflate_0 : decode c_LT_inflate 0 = .ok (.aload_n 0, 1) := by decide +kernel
theorem d_LT_inflate_1 : decode c_LT_inflate 1 = .ok (.iload_n 1, 1) := by decide +kernel
theorem d_LT_inflate_2 : decode c_LT_inflate 2 = .ok (.aload_n 2, 1) := by decide +kernel
theorem d_LT_inflate_3 : decode c_LT_inflate 3 = .ok (.iload_n 3, 1) := by decide +kernel
theorem d_LT_inflate_4 : decode c_LT_inflate 4 = .ok (.iload 4, 2) := by decide +kernel
theorem d_LT_inflate_6 : decode c_LT_inflate 6 = .ok (.invokestatic 240, 3) := by decide +kernel
theorem d_LT_inflate_9 : decode c_LT_inflate 9 = .ok (.return_, 1) := by decide +kernel
def ws_LT_inflate : List Cond := .code y_LT_inflate c_LT_inflate 5 none :: TBL
theorem d_UT_inflate_0 : decode c_UT_inflate 0 = .ok (.iload_n 3, 1) := by decide +kernel
theorem d_UT_inflate_1 : decode c_UT_inflate 1 = .ok (.iload 4, 2) := by decide +kernel
theorem d_UT_inflate_3 : decode c_UT_inflate 3 = .ok (.aload_n 2, 1) := by decide +kernel
theorem d_UT_inflate_4 : decode c_UT_inflate 4 = .ok (.invokestatic 173, 3) := by decide +kernel
theorem d_UT_inflate_7 : decode c_UT_inflate 7 = .ok (.iconst 0, 1) := by decide +kernel
theorem d_UT_inflate_8 : decode c_UT_inflate 8 = .ok (.istore 5, 2) := by decide +kernel
theorem d_UT_inflate_10 : decode c_UT_inflate 10 = .ok (.iload 5, 2) := by decide +kernel
theorem d_UT_inflate_12 : decode c_UT_inflate 12 = .ok (.iload 4, 2) := by decide +kernel
theorem d_UT_inflate_14 : decode c_UT_inflate 14 = .ok (.if_icmp .ge 27, 3) := by decide +kernel
theorem d_UT_inflate_17 : decode c_UT_inflate 17 = .ok (.aload_n 2, 1) := by decide +kernel
theorem d_UT_inflate_18 : decode c_UT_inflate 18 = .ok (.iload_n 3, 1) := by decide +kernel
theorem d_UT_inflate_19 : decode c_UT_inflate 19 = .ok (.iinc 3 1, 3) := by decide +kernel
theorem d_UT_inflate_22 : decode c_UT_inflate 22 = .ok (.aload_n 0, 1) := by decide +kernel
theorem d_UT_inflate_23 : decode c_UT_inflate 23 = .ok (.iload_n 1, 1) := by decide +kernel
theorem d_UT_inflate_24 : decode c_UT_inflate 24 = .ok (.iinc 1 1, 3) := by decide +kernel
theorem d_UT_inflate_27 : decode c_UT_inflate 27 = .ok (.baload, 1) := by decide +kernel
theorem d_UT_inflate_28 : decode c_UT_inflate 28 = .ok (.sipush 255, 3) := by decide +kernel
theorem d_UT_inflate_31 : decode c_UT_inflate 31 = .ok (.iand, 1) := by decide +kernel
theorem d_UT_inflate_32 : decode c_UT_inflate 32 = .ok (.invokestatic 111, 3) := by decide +kernel
theorem d_UT_inflate_35 : decode c_UT_inflate 35 = .ok (.iinc 5 1, 3) := by decide +kernel
theorem d_UT_inflate_38 : decode c_UT_inflate 38 = .ok (.goto (-28), 3) := by decide +kernel
theorem d_UT_inflate_41 : decode c_UT_inflate 41 = .ok (.return_, 1) := by decide +kernel
def ws_UT_inflate : List Cond := .code y_UT_inflate c_UT_inflate 6 none :: TBL
theorem d_UT_putChar_0 : decode c_UT_putChar 0 = .ok (.getstatic 44, 3) := by decide +kernel
theorem d_UT_putChar_3 : decode c_UT_putChar 3 = .ok (.ifCond .ne 25, 3) := by decide +kernel
theorem d_UT_putChar_6 : decode c_UT_putChar 6 = .ok (.iload_n 1, 1) := by decide +kernel
theorem d_UT_putChar_7 : decode c_UT_putChar 7 = .ok (.ifCond .lt 11, 3) := by decide +kernel
theorem d_UT_putChar_10 : decode c_UT_putChar 10 = .ok (.iload_n 1, 1) := by decide +kernel
theorem d_UT_putChar_11 : decode c_UT_putChar 11 = .ok (.aload_n 0, 1) := by decide +kernel
theorem d_UT_putChar_12 : decode c_UT_putChar 12 = .ok (.invokestatic 48, 3) := by decide +kernel
theorem d_UT_putChar_15 : decode c_UT_putChar 15 = .ok (.if_icmp .lt 13, 3) := by decide +kernel
theorem d_UT_putChar_18 : decode c_UT_putChar 18 = .ok (.new 52, 3) := by decide +kernel
theorem d_UT_putChar_21 : decode c_UT_putChar 21 = .ok (.dup, 1) := by decide +kernel
theorem d_UT_putChar_22 : decode c_UT_putChar 22 = .ok (.ldc 54, 2) := by decide +kernel
theorem d_UT_putChar_24 : decode c_UT_putChar 24 = .ok (.invokespecial 56, 3) := by decide +kernel
theorem d_UT_putChar_27 : decode c_UT_putChar 27 = .ok (.athrow, 1) := by decide +kernel
theorem d_UT_putChar_28 : decode c_UT_putChar 28 = .ok (.iload_n 1, 1) := by decide +kernel
theorem d_UT_putChar_29 : decode c_UT_putChar 29 = .ok (.iconst 1, 1) := by decide +kernel
theorem d_UT_putChar_30 : decode c_UT_putChar 30 = .ok (.ishl, 1) := by decide +kernel
theorem d_UT_putChar_31 : decode c_UT_putChar 31 = .ok (.istore_n 1, 1) := by decide +kernel
theorem d_UT_putChar_32 : decode c_UT_putChar 32 = .ok (.aload_n 0, 1) := by decide +kernel
theorem d_UT_putChar_33 : decode c_UT_putChar 33 = .ok (.iload_n 1, 1) := by decide +kernel
theorem d_UT_putChar_34 : decode c_UT_putChar 34 = .ok (.iinc 1 1, 3) := by decide +kernel
theorem d_UT_putChar_37 : decode c_UT_putChar 37 = .ok (.iload_n 2, 1) := by decide +kernel
theorem d_UT_putChar_38 : decode c_UT_putChar 38 = .ok (.getstatic 59, 3) := by decide +kernel
theorem d_UT_putChar_41 : decode c_UT_putChar 41 = .ok (.ishr, 1) := by decide +kernel
theorem d_UT_putChar_42 : decode c_UT_putChar 42 = .ok (.i2b, 1) := by decide +kernel
theorem d_UT_putChar_43 : decode c_UT_putChar 43 = .ok (.bastore, 1) := by decide +kernel
theorem d_UT_putChar_44 : decode c_UT_putChar 44 = .ok (.aload_n 0, 1) := by decide +kernel
theorem d_UT_putChar_45 : decode c_UT_putChar 45 = .ok (.iload_n 1, 1) := by decide +kernel
theorem d_UT_putChar_46 : decode c_UT_putChar 46 = .ok (.iload_n 2, 1) := by decide +kernel
theorem d_UT_putChar_47 : decode c_UT_putChar 47 = .ok (.getstatic 63, 3) := by decide +kernel
theorem d_UT_putChar_50 : decode c_UT_putChar 50 = .ok (.ishr, 1) := by decide +kernel
theorem d_UT_putChar_51 : decode c_UT_putChar 51 = .ok (.i2b, 1) := by decide +kernel
theorem d_UT_putChar_52 : decode c_UT_putChar 52 = .ok (.bastore, 1) := by decide +kernel
theorem d_UT_putChar_53 : decode c_UT_putChar 53 = .ok (.return_, 1) := by decide +kernel
def ws_UT_putChar : List Cond := .code y_UT_putChar c_UT_putChar 3 none :: TBL
theorem d_UT_putCharSB_0 : decode c_UT_putCharSB 0 = .ok (.iload_n 1, 1) := by decide +kernel
theorem d_UT_putCharSB_1 : decode c_UT_putCharSB 1 = .ok (.aload_n 0, 1) := by decide +kernel
theorem d_UT_putCharSB_2 : decode c_UT_putCharSB 2 = .ok (.invokestatic 67, 3) := by decide +kernel
theorem d_UT_putCharSB_5 : decode c_UT_putCharSB 5 = .ok (.aload_n 0, 1) := by decide +kernel
theorem d_UT_putCharSB_6 : decode c_UT_putCharSB 6 = .ok (.iload_n 1, 1) := by decide +kernel
theorem d_UT_putCharSB_7 : decode c_UT_putCharSB 7 = .ok (.iload_n 2, 1) := by decide +kernel
theorem d_UT_putCharSB_8 : decode c_UT_putCharSB 8 = .ok (.invokestatic 111, 3) := by decide +kernel
theorem d_UT_putCharSB_11 : decode c_UT_putCharSB 11 = .ok (.return_, 1) := by decide +kernel
def ws_UT_putCharSB : List Cond := .code y_UT_putCharSB c_UT_putCharSB 3 none :: TBL
theorem d_UT_checkIndex_0 : decode c_UT_checkIndex 0 = .ok (.iload_n 0, 1) := by decide +kernel
theorem d_UT_checkIndex_1 : decode c_UT_checkIndex 1 = .ok (.aload_n 1, 1) := by decide +kernel
theorem d_UT_checkIndex_2 : decode c_UT_checkIndex 2 = .ok (.invokestatic 48, 3) := by decide +kernel
theorem d_UT_checkIndex_5 : decode c_UT_checkIndex 5 = .ok (.invokestatic 414, 3) := by decide +kernel
theorem d_UT_checkIndex_8 : decode c_UT_checkIndex 8 = .ok (.return_, 1) := by decide +kernel
def ws_UT_checkIndex : List Cond := .code y_UT_checkIndex c_UT_checkIndex 2 none :: TBL
theorem d_ST_checkIndex_0 : decode c_ST_checkIndex 0 = .ok (.iload_n 0, 1) := by decide +kernel
theorem d_ST_checkIndex_1 : decode c_ST_checkIndex 1 = .ok (.iload_n 1, 1) := by decide +kernel
theorem d_ST_checkIndex_2 : decode c_ST_checkIndex 2 = .ok (.getstatic 1053, 3) := by decide +kernel
theorem d_ST_checkIndex_5 : decode c_ST_checkIndex 5 = .ok (.invokestatic 1059, 3) := by decide +kernel
theorem d_ST_checkIndex_8 : decode c_ST_checkIndex 8 = .ok (.pop, 1) := by decide +kernel
theorem d_ST_checkIndex_9 : decode c_ST_checkIndex 9 = .ok (.return_, 1) := by decide +kernel
def ws_ST_checkIndex : List Cond := .code y_ST_checkIndex c_ST_checkIndex 2 none :: TBL
theorem d_PC_checkIndex_0 : decode c_PC_checkIndex 0 = .ok (.iload_n 0, 1) := by decide +kernel
theorem d_PC_checkIndex_1 : decode c_PC_checkIndex 1 = .ok (.ifCond .lt 8, 3) := by decide +kernel
theorem d_PC_checkIndex_4 : decode c_PC_checkIndex 4 = .ok (.iload_n 0, 1) := by decide +kernel
theorem d_PC_checkIndex_5 : decode c_PC_checkIndex 5 = .ok (.iload_n 1, 1) := by decide +kernel
theorem d_PC_checkIndex_6 : decode c_PC_checkIndex 6 = .ok (.if_icmp .lt 10, 3) := by decide +kernel
theorem d_PC_checkIndex_9 : decode c_PC_checkIndex 9 = .ok (.aload_n 2, 1) := by decide +kernel
theorem d_PC_checkIndex_10 : decode c_PC_checkIndex 10 = .ok (.iload_n 0, 1) := by decide +kernel
theorem d_PC_checkIndex_11 : decode c_PC_checkIndex 11 = .ok (.iload_n 1, 1) := by decide +kernel
theorem d_PC_checkIndex_12 : decode c_PC_checkIndex 12 = .ok (.invokestatic 95, 3) := by decide +kernel
theorem d_PC_checkIndex_15 : decode c_PC_checkIndex 15 = .ok (.athrow, 1) := by decide +kernel
theorem d_PC_checkIndex_16 : decode c_PC_checkIndex 16 = .ok (.iload_n 0, 1) := by decide +kernel
theorem d_PC_checkIndex_17 : decode c_PC_checkIndex 17 = .ok (.ireturn, 1) := by decide +kernel
def ws_PC_checkIndex : List Cond := .code y_PC_checkIndex c_PC_checkIndex 3 (some .int) :: TBL
theorem d_VA_init_0 : decode c_VA_init 0 = .ok (.aload_n 0, 1) := by decide +kernel
theorem d_VA_init_1 : decode c_VA_init 1 = .ok (.invokespecial 3, 3) := by decide +kernel
theorem d_VA_init_4 : decode c_VA_init 4 = .ok (.aload_n 0, 1) := by decide +kernel
theorem d_VA_init_5 : decode c_VA_init 5 = .ok (.iload_n 1, 1) := by decide +kernel
theorem d_VA_init_6 : decode c_VA_init 6 = .ok (.putfield 9, 3) := by decide +kernel
theorem d_VA_init_9 : decode c_VA_init 9 = .ok (.aload_n 0, 1) := by decide +kernel
theorem d_VA_init_10 : decode c_VA_init 10 = .ok (.aload_n 2, 1) := by decide +kernel
theorem d_VA_init_11 : decode c_VA_init 11 = .ok (.putfield 15, 3) := by decide +kernel
theorem d_VA_init_14 : decode c_VA_init 14 = .ok (.aload_n 0, 1) := by decide +kernel
theorem d_VA_init_15 : decode c_VA_init 15 = .ok (.lload_n 3, 1) := by decide +kernel
theorem d_VA_init_16 : decode c_VA_init 16 = .ok (.putfield 19, 3) := by decide +kernel
theorem d_VA_init_19 : decode c_VA_init 19 = .ok (.aload_n 0, 1) := by decide +kernel
theorem d_VA_init_20 : decode c_VA_init 20 = .ok (.ldc 23, 2) := by decide +kernel
theorem d_VA_init_22 : decode c_VA_init 22 = .ok (.putfield 25, 3) := by decide +kernel
theorem d_VA_init_25 : decode c_VA_init 25 = .ok (.aload_n 0, 1) := by decide +kernel
theorem d_VA_init_26 : decode c_VA_init 26 = .ok (.new 28, 3) := by decide +kernel
theorem d_VA_init_29 : decode c_VA_init 29 = .ok (.dup, 1) := by decide +kernel
theorem d_VA_init_30 : decode c_VA_init 30 = .ok (.invokespecial 30, 3) := by decide +kernel
theorem d_VA_init_33 : decode c_VA_init 33 = .ok (.putfield 31, 3) := by decide +kernel
theorem d_VA_init_36 : decode c_VA_init 36 = .ok (.aload_n 0, 1) := by decide +kernel
theorem d_VA_init_37 : decode c_VA_init 37 = .ok (.iconst 0, 1) := by decide +kernel
theorem d_VA_init_38 : decode c_VA_init 38 = .ok (.putfield 35, 3) := by decide +kernel
theorem d_VA_init_41 : decode c_VA_init 41 = .ok (.aload_n 0, 1) := by decide +kernel
theorem d_VA_init_42 : decode c_VA_init 42 = .ok (.iconst 1, 1) := by decide +kernel
theorem d_VA_init_43 : decode c_VA_init 43 = .ok (.putfield 38, 3) := by decide +kernel
theorem d_VA_init_46 : decode c_VA_init 46 = .ok (.return_, 1) := by decide +kernel
def ws_VA_init : List Cond := .code y_VA_init c_VA_init 5 none :: TBL
theorem d_CU_isAtNumber_0 : decode c_CU_isAtNumber 0 = .ok (.aload_n 0, 1) := by decide +kernel
theorem d_CU_isAtNumber_1 : decode c_CU_isAtNumber 1 = .ok (.getfield 9, 3) := by decide +kernel
theorem d_CU_isAtNumber_4 : decode c_CU_isAtNumber 4 = .ok (.aload_n 0, 1) := by decide +kernel
theorem d_CU_isAtNumber_5 : decode c_CU_isAtNumber 5 = .ok (.getfield 19, 3) := by decide +kernel
theorem d_CU_isAtNumber_8 : decode c_CU_isAtNumber 8 = .ok (.if_icmp .ge 36, 3) := by decide +kernel
theorem d_CU_isAtNumber_11 : decode c_CU_isAtNumber 11 = .ok (.aload_n 0, 1) := by decide +kernel
theorem d_CU_isAtNumber_12 : decode c_CU_isAtNumber 12 = .ok (.getfield 15, 3) := by decide +kernel
theorem d_CU_isAtNumber_15 : decode c_CU_isAtNumber 15 = .ok (.aload_n 0, 1) := by decide +kernel
theorem d_CU_isAtNumber_16 : decode c_CU_isAtNumber 16 = .ok (.getfield 9, 3) := by decide +kernel
theorem d_CU_isAtNumber_19 : decode c_CU_isAtNumber 19 = .ok (.caload, 1) := by decide +kernel
theorem d_CU_isAtNumber_20 : decode c_CU_isAtNumber 20 = .ok (.bipush 45, 2) := by decide +kernel
theorem d_CU_isAtNumber_22 : decode c_CU_isAtNumber 22 = .ok (.if_icmp .eq 18, 3) := by decide +kernel
theorem d_CU_isAtNumber_25 : decode c_CU_isAtNumber 25 = .ok (.aload_n 0, 1) := by decide +kernel
theorem d_CU_isAtNumber_26 : decode c_CU_isAtNumber 26 = .ok (.getfield 15, 3) := by decide +kernel
theorem d_CU_isAtNumber_29 : decode c_CU_isAtNumber 29 = .ok (.aload_n 0, 1) := by decide +kernel
theorem d_CU_isAtNumber_30 : decode c_CU_isAtNumber 30 = .ok (.getfield 9, 3) := by decide +kernel
theorem d_CU_isAtNumber_33 : decode c_CU_isAtNumber 33 = .ok (.caload, 1) := by decide +kernel
theorem d_CU_isAtNumber_34 : decode c_CU_isAtNumber 34 = .ok (.invokestatic 48, 3) := by decide +kernel
theorem d_CU_isAtNumber_37 : decode c_CU_isAtNumber 37 = .ok (.ifCond .eq 7, 3) := by decide +kernel
theorem d_CU_isAtNumber_40 : decode c_CU_isAtNumber 40 = .ok (.iconst 1, 1) := by decide +kernel
theorem d_CU_isAtNumber_41 : decode c_CU_isAtNumber 41 = .ok (.goto 4, 3) := by decide +kernel
theorem d_CU_isAtNumber_44 : decode c_CU_isAtNumber 44 = .ok (.iconst 0, 1) := by decide +kernel
theorem d_CU_isAtNumber_45 : decode c_CU_isAtNumber 45 = .ok (.ireturn, 1) := by decide +kernel
def ws_CU_isAtNumber : List Cond := .code y_CU_isAtNumber c_CU_isAtNumber 1 (some .boolean) :: TBL
theorem d_PS_isDigit_0 : decode c_PS_isDigit 0 = .ok (.iload_n 0, 1) := by decide +kernel
theorem d_PS_isDigit_1 : decode c_PS_isDigit 1 = .ok (.bipush 48, 2) := by decide +kernel
theorem d_PS_isDigit_3 : decode c_PS_isDigit 3 = .ok (.if_icmp .lt 13, 3) := by decide +kernel
theorem d_PS_isDigit_6 : decode c_PS_isDigit 6 = .ok (.iload_n 0, 1) := by decide +kernel
theorem d_PS_isDigit_7 : decode c_PS_isDigit 7 = .ok (.bipush 57, 2) := by decide +kernel
theorem d_PS_isDigit_9 : decode c_PS_isDigit 9 = .ok (.if_icmp .gt 7, 3) := by decide +kernel
theorem d_PS_isDigit_12 : decode c_PS_isDigit 12 = .ok (.iconst 1, 1) := by decide +kernel
theorem d_PS_isDigit_13 : decode c_PS_isDigit 13 = .ok (.goto 4, 3) := by decide +kernel
theorem d_PS_isDigit_16 : decode c_PS_isDigit 16 = .ok (.iconst 0, 1) := by decide +kernel
theorem d_PS_isDigit_17 : decode c_PS_isDigit 17 = .ok (.ireturn, 1) := by decide +kernel
def ws_PS_isDigit : List Cond := .code y_PS_isDigit c_PS_isDigit 1 (some .boolean) :: TBL
theorem d_CU_number_0 : decode c_CU_number 0 = .ok (.aload_n 0, 1) := by decide +kernel
theorem d_CU_number_1 : decode c_CU_number 1 = .ok (.bipush 45, 2) := by decide +kernel
theorem d_CU_number_3 : decode c_CU_number 3 = .ok (.invokevirtual 68, 3) := by decide +kernel
theorem d_CU_number_6 : decode c_CU_number 6 = .ok (.istore_n 1, 1) := by decide +kernel
theorem d_CU_number_7 : decode c_CU_number 7 = .ok (.aload_n 0, 1) := by decide +kernel
theorem d_CU_number_8 : decode c_CU_number 8 = .ok (.bipush 48, 2) := by decide +kernel
theorem d_CU_number_10 : decode c_CU_number 10 = .ok (.invokevirtual 68, 3) := by decide +kernel
theorem d_CU_number_13 : decode c_CU_number 13 = .ok (.ifCond .eq 15, 3) := by decide +kernel
theorem d_CU_number_16 : decode c_CU_number 16 = .ok (.new 71, 3) := by decide +kernel
theorem d_CU_number_19 : decode c_CU_number 19 = .ok (.dup, 1) := by decide +kernel
theorem d_CU_number_20 : decode c_CU_number 20 = .ok (.iconst 1, 1) := by decide +kernel
theorem d_CU_number_21 : decode c_CU_number 21 = .ok (.ldc 76, 2) := by decide +kernel
theorem d_CU_number_23 : decode c_CU_number 23 = .ok (.lconst 0, 1) := by decide +kernel
theorem d_CU_number_24 : decode c_CU_number 24 = .ok (.invokespecial 73, 3) := by decide +kernel
theorem d_CU_number_27 : decode c_CU_number 27 = .ok (.areturn, 1) := by decide +kernel
theorem d_CU_number_28 : decode c_CU_number 28 = .ok (.aload_n 0, 1) := by decide +kernel
theorem d_CU_number_29 : decode c_CU_number 29 = .ok (.getfield 22, 3) := by decide +kernel
theorem d_CU_number_32 : decode c_CU_number 32 = .ok (.iconst 0, 1) := by decide +kernel
theorem d_CU_number_33 : decode c_CU_number 33 = .ok (.invokevirtual 30, 3) := by decide +kernel
theorem d_CU_number_36 : decode c_CU_number 36 = .ok (.iload_n 1, 1) := by decide +kernel
theorem d_CU_number_37 : decode c_CU_number 37 = .ok (.ifCond .eq 13, 3) := by decide +kernel
theorem d_CU_number_40 : decode c_CU_number 40 = .ok (.aload_n 0, 1) := by decide +kernel
theorem d_CU_number_41 : decode c_CU_number 41 = .ok (.getfield 22, 3) := by decide +kernel
theorem d_CU_number_44 : decode c_CU_number 44 = .ok (.bipush 45, 2) := by decide +kernel
theorem d_CU_number_46 : decode c_CU_number 46 = .ok (.invokevirtual 40, 3) := by decide +kernel
theorem d_CU_number_49 : decode c_CU_number 49 = .ok (.pop, 1) := by decide +kernel
theorem d_CU_number_50 : decode c_CU_number 50 = .ok (.lconst 0, 1) := by decide +kernel
theorem d_CU_number_51 : decode c_CU_number 51 = .ok (.lstore_n 2, 1) := by decide +kernel
theorem d_CU_number_52 : decode c_CU_number 52 = .ok (.iconst 0, 1) := by decide +kernel
theorem d_CU_number_53 : decode c_CU_number 53 = .ok (.istore 4, 2) := by decide +kernel
theorem d_CU_number_55 : decode c_CU_number 55 = .ok (.aload_n 0, 1) := by decide +kernel
theorem d_CU_number_56 : decode c_CU_number 56 = .ok (.getfield 9, 3) := by decide +kernel
theorem d_CU_number_59 : decode c_CU_number 59 = .ok (.aload_n 0, 1) := by decide +kernel
theorem d_CU_number_60 : decode c_CU_number 60 = .ok (.getfield 19, 3) := by decide +kernel
theorem d_CU_number_63 : decode c_CU_number 63 = .ok (.if_icmp .ge 101, 3) := by decide +kernel
theorem d_CU_number_66 : decode c_CU_number 66 = .ok (.aload_n 0, 1) := by decide +kernel
theorem d_CU_number_67 : decode c_CU_number 67 = .ok (.getfield 15, 3) := by decide +kernel
theorem d_CU_number_70 : decode c_CU_number 70 = .ok (.aload_n 0, 1) := by decide +kernel
theorem d_CU_number_71 : decode c_CU_number 71 = .ok (.getfield 9, 3) := by decide +kernel
theorem d_CU_number_74 : decode c_CU_number 74 = .ok (.caload, 1) := by decide +kernel
theorem d_CU_number_75 : decode c_CU_number 75 = .ok (.invokestatic 48, 3) := by decide +kernel
theorem d_CU_number_78 : decode c_CU_number 78 = .ok (.ifCond .eq 86, 3) := by decide +kernel
theorem d_CU_number_81 : decode c_CU_number 81 = .ok (.aload_n 0, 1) := by decide +kernel
theorem d_CU_number_82 : decode c_CU_number 82 = .ok (.getfield 15, 3) := by decide +kernel
theorem d_CU_number_85 : decode c_CU_number 85 = .ok (.aload_n 0, 1) := by decide +kernel
theorem d_CU_number_86 : decode c_CU_number 86 = .ok (.getfield 9, 3) := by decide +kernel
theorem d_CU_number_89 : decode c_CU_number 89 = .ok (.caload, 1) := by decide +kernel
theorem d_CU_number_90 : decode c_CU_number 90 = .ok (.bipush 48, 2) := by decide +kernel
theorem d_CU_number_92 : decode c_CU_number 92 = .ok (.isub, 1) := by decide +kernel
theorem d_CU_number_93 : decode c_CU_number 93 = .ok (.istore 5, 2) := by decide +kernel
theorem d_CU_number_95 : decode c_CU_number 95 = .ok (.lload_n 2, 1) := by decide +kernel
theorem d_CU_number_96 : decode c_CU_number 96 = .ok (.ldc2_w 78, 3) := by decide +kernel
theorem d_CU_number_99 : decode c_CU_number 99 = .ok (.lcmp, 1) := by decide +kernel
theorem d_CU_number_100 : decode c_CU_number 100 = .ok (.ifCond .lt 19, 3) := by decide +kernel
theorem d_CU_number_103 : decode c_CU_number 103 = .ok (.lload_n 2, 1) := by decide +kernel
theorem d_CU_number_104 : decode c_CU_number 104 = .ok (.ldc2_w 80, 3) := by decide +kernel
theorem d_CU_number_107 : decode c_CU_number 107 = .ok (.lmul, 1) := by decide +kernel
theorem d_CU_number_108 : decode c_CU_number 108 = .ok (.ldc2_w 82, 3) := by decide +kernel
theorem d_CU_number_111 : decode c_CU_number 111 = .ok (.iload 5, 2) := by decide +kernel
theorem d_CU_number_113 : decode c_CU_number 113 = .ok (.i2l, 1) := by decide +kernel
theorem d_CU_number_114 : decode c_CU_number 114 = .ok (.ladd, 1) := by decide +kernel
theorem d_CU_number_115 : decode c_CU_number 115 = .ok (.lcmp, 1) := by decide +kernel
theorem d_CU_number_116 : decode c_CU_number 116 = .ok (.ifCond .ge 5, 3) := by decide +kernel
theorem d_CU_number_119 : decode c_CU_number 119 = .ok (.aconst_null, 1) := by decide +kernel
theorem d_CU_number_120 : decode c_CU_number 120 = .ok (.areturn, 1) := by decide +kernel
theorem d_CU_number_121 : decode c_CU_number 121 = .ok (.lload_n 2, 1) := by decide +kernel
theorem d_CU_number_122 : decode c_CU_number 122 = .ok (.ldc2_w 80, 3) := by decide +kernel
theorem d_CU_number_125 : decode c_CU_number 125 = .ok (.lmul, 1) := by decide +kernel
theorem d_CU_number_126 : decode c_CU_number 126 = .ok (.iload 5, 2) := by decide +kernel
theorem d_CU_number_128 : decode c_CU_number 128 = .ok (.i2l, 1) := by decide +kernel
theorem d_CU_number_129 : decode c_CU_number 129 = .ok (.lsub, 1) := by decide +kernel
theorem d_CU_number_130 : decode c_CU_number 130 = .ok (.lstore_n 2, 1) := by decide +kernel
theorem d_CU_number_131 : decode c_CU_number 131 = .ok (.aload_n 0, 1) := by decide +kernel
theorem d_CU_number_132 : decode c_CU_number 132 = .ok (.getfield 22, 3) := by decide +kernel
theorem d_CU_number_135 : decode c_CU_number 135 = .ok (.aload_n 0, 1) := by decide +kernel
theorem d_CU_number_136 : decode c_CU_number 136 = .ok (.getfield 15, 3) := by decide +kernel
theorem d_CU_number_139 : decode c_CU_number 139 = .ok (.aload_n 0, 1) := by decide +kernel
theorem d_CU_number_140 : decode c_CU_number 140 = .ok (.getfield 9, 3) := by decide +kernel
theorem d_CU_number_143 : decode c_CU_number 143 = .ok (.caload, 1) := by decide +kernel
theorem d_CU_number_144 : decode c_CU_number 144 = .ok (.invokevirtual 40, 3) := by decide +kernel
theorem d_CU_number_147 : decode c_CU_number 147 = .ok (.pop, 1) := by decide +kernel
theorem d_CU_number_148 : decode c_CU_number 148 = .ok (.iinc 4 1, 3) := by decide +kernel
theorem d_CU_number_151 : decode c_CU_number 151 = .ok (.aload_n 0, 1) := by decide +kernel
theorem d_CU_number_152 : decode c_CU_number 152 = .ok (.dup, 1) := by decide +kernel
theorem d_CU_number_153 : decode c_CU_number 153 = .ok (.getfield 9, 3) := by decide +kernel
theorem d_CU_number_156 : decode c_CU_number 156 = .ok (.iconst 1, 1) := by decide +kernel
theorem d_CU_number_157 : decode c_CU_number 157 = .ok (.iadd, 1) := by decide +kernel
theorem d_CU_number_158 : decode c_CU_number 158 = .ok (.putfield 9, 3) := by decide +kernel
theorem d_CU_number_161 : decode c_CU_number 161 = .ok (.goto (-106), 3) := by decide +kernel
theorem d_CU_number_164 : decode c_CU_number 164 = .ok (.iload 4, 2) := by decide +kernel
theorem d_CU_number_166 : decode c_CU_number 166 = .ok (.ifCond .eq 15, 3) := by decide +kernel
theorem d_CU_number_169 : decode c_CU_number 169 = .ok (.iload_n 1, 1) := by decide +kernel
theorem d_CU_number_170 : decode c_CU_number 170 = .ok (.ifCond .ne 13, 3) := by decide +kernel
theorem d_CU_number_173 : decode c_CU_number 173 = .ok (.lload_n 2, 1) := by decide +kernel
theorem d_CU_number_174 : decode c_CU_number 174 = .ok (.ldc2_w 82, 3) := by decide +kernel
theorem d_CU_number_177 : decode c_CU_number 177 = .ok (.lcmp, 1) := by decide +kernel
theorem d_CU_number_178 : decode c_CU_number 178 = .ok (.ifCond .ne 5, 3) := by decide +kernel
theorem d_CU_number_181 : decode c_CU_number 181 = .ok (.aconst_null, 1) := by decide +kernel
theorem d_CU_number_182 : decode c_CU_number 182 = .ok (.areturn, 1) := by decide +kernel
theorem d_CU_number_183 : decode c_CU_number 183 = .ok (.new 71, 3) := by decide +kernel
theorem d_CU_number_186 : decode c_CU_number 186 = .ok (.dup, 1) := by decide +kernel
theorem d_CU_number_187 : decode c_CU_number 187 = .ok (.iconst 1, 1) := by decide +kernel
theorem d_CU_number_188 : decode c_CU_number 188 = .ok (.aload_n 0, 1) := by decide +kernel
theorem d_CU_number_189 : decode c_CU_number 189 = .ok (.getfield 22, 3) := by decide +kernel
theorem d_CU_number_192 : decode c_CU_number 192 = .ok (.invokevirtual 36, 3) := by decide +kernel
theorem d_CU_number_195 : decode c_CU_number 195 = .ok (.iload_n 1, 1) := by decide +kernel
theorem d_CU_number_196 : decode c_CU_number 196 = .ok (.ifCond .eq 7, 3) := by decide +kernel
theorem d_CU_number_199 : decode c_CU_number 199 = .ok (.lload_n 2, 1) := by decide +kernel
theorem d_CU_number_200 : decode c_CU_number 200 = .ok (.goto 5, 3) := by decide +kernel
theorem d_CU_number_203 : decode c_CU_number 203 = .ok (.lload_n 2, 1) := by decide +kernel
theorem d_CU_number_204 : decode c_CU_number 204 = .ok (.lneg, 1) := by decide +kernel
theorem d_CU_number_205 : decode c_CU_number 205 = .ok (.invokespecial 73, 3) := by decide +kernel
theorem d_CU_number_208 : decode c_CU_number 208 = .ok (.areturn, 1) := by decide +kernel
def ws_CU_number : List Cond := .code y_CU_number c_CU_number 6 (some (.object "PatchStore$Value")) :: TBL
theorem d_CU_took_0 : decode c_CU_took 0 = .ok (.aload_n 0, 1) := by decide +kernel
theorem d_CU_took_1 : decode c_CU_took 1 = .ok (.getfield 9, 3) := by decide +kernel
theorem d_CU_took_4 : decode c_CU_took 4 = .ok (.aload_n 0, 1) := by decide +kernel
theorem d_CU_took_5 : decode c_CU_took 5 = .ok (.getfield 19, 3) := by decide +kernel
theorem d_CU_took_8 : decode c_CU_took 8 = .ok (.if_icmp .ge 16, 3) := by decide +kernel
theorem d_CU_took_11 : decode c_CU_took 11 = .ok (.aload_n 0, 1) := by decide +kernel
theorem d_CU_took_12 : decode c_CU_took 12 = .ok (.getfield 15, 3) := by decide +kernel
theorem d_CU_took_15 : decode c_CU_took 15 = .ok (.aload_n 0, 1) := by decide +kernel
theorem d_CU_took_16 : decode c_CU_took 16 = .ok (.getfield 9, 3) := by decide +kernel
theorem d_CU_took_19 : decode c_CU_took 19 = .ok (.caload, 1) := by decide +kernel
theorem d_CU_took_20 : decode c_CU_took 20 = .ok (.iload_n 1, 1) := by decide +kernel
theorem d_CU_took_21 : decode c_CU_took 21 = .ok (.if_icmp .eq 5, 3) := by decide +kernel
theorem d_CU_took_24 : decode c_CU_took 24 = .ok (.iconst 0, 1) := by decide +kernel
theorem d_CU_took_25 : decode c_CU_took 25 = .ok (.ireturn, 1) := by decide +kernel
theorem d_CU_took_26 : decode c_CU_took 26 = .ok (.aload_n 0, 1) := by decide +kernel
theorem d_CU_took_27 : decode c_CU_took 27 = .ok (.dup, 1) := by decide +kernel
theorem d_CU_took_28 : decode c_CU_took 28 = .ok (.getfield 9, 3) := by decide +kernel
theorem d_CU_took_31 : decode c_CU_took 31 = .ok (.iconst 1, 1) := by decide +kernel
theorem d_CU_took_32 : decode c_CU_took 32 = .ok (.iadd, 1) := by decide +kernel
theorem d_CU_took_33 : decode c_CU_took 33 = .ok (.putfield 9, 3) := by decide +kernel
theorem d_CU_took_36 : decode c_CU_took 36 = .ok (.iconst 1, 1) := by decide +kernel
theorem d_CU_took_37 : decode c_CU_took 37 = .ok (.ireturn, 1) := by decide +kernel
def ws_CU_took : List Cond := .code y_CU_took c_CU_took 2 (some .boolean) :: TBL
theorem d_CU_word_0 : decode c_CU_word 0 = .ok (.aload_n 0, 1) := by decide +kernel
theorem d_CU_word_1 : decode c_CU_word 1 = .ok (.invokevirtual 26, 3) := by decide +kernel
theorem d_CU_word_4 : decode c_CU_word 4 = .ok (.bipush 110, 2) := by decide +kernel
theorem d_CU_word_6 : decode c_CU_word 6 = .ok (.if_icmp .ne 8, 3) := by decide +kernel
theorem d_CU_word_9 : decode c_CU_word 9 = .ok (.ldc 55, 2) := by decide +kernel
theorem d_CU_word_11 : decode c_CU_word 11 = .ok (.goto 19, 3) := by decide +kernel
theorem d_CU_word_14 : decode c_CU_word 14 = .ok (.aload_n 0, 1) := by decide +kernel
theorem d_CU_word_15 : decode c_CU_word 15 = .ok (.invokevirtual 26, 3) := by decide +kernel
theorem d_CU_word_18 : decode c_CU_word 18 = .ok (.bipush 116, 2) := by decide +kernel
theorem d_CU_word_20 : decode c_CU_word 20 = .ok (.if_icmp .ne 8, 3) := by decide +kernel
theorem d_CU_word_23 : decode c_CU_word 23 = .ok (.ldc 57, 2) := by decide +kernel
theorem d_CU_word_25 : decode c_CU_word 25 = .ok (.goto 5, 3) := by decide +kernel
theorem d_CU_word_28 : decode c_CU_word 28 = .ok (.ldc 59, 2) := by decide +kernel
theorem d_CU_word_30 : decode c_CU_word 30 = .ok (.astore_n 1, 1) := by decide +kernel
theorem d_CU_word_31 : decode c_CU_word 31 = .ok (.iconst 0, 1) := by decide +kernel
theorem d_CU_word_32 : decode c_CU_word 32 = .ok (.istore_n 2, 1) := by decide +kernel
theorem d_CU_word_33 : decode c_CU_word 33 = .ok (.iload_n 2, 1) := by decide +kernel
theorem d_CU_word_34 : decode c_CU_word 34 = .ok (.aload_n 1, 1) := by decide +kernel
theorem d_CU_word_35 : decode c_CU_word 35 = .ok (.invokevirtual 61, 3) := by decide +kernel
theorem d_CU_word_38 : decode c_CU_word 38 = .ok (.if_icmp .ge 23, 3) := by decide +kernel
theorem d_CU_word_41 : decode c_CU_word 41 = .ok (.aload_n 0, 1) := by decide +kernel
theorem d_CU_word_42 : decode c_CU_word 42 = .ok (.aload_n 1, 1) := by decide +kernel
theorem d_CU_word_43 : decode c_CU_word 43 = .ok (.iload_n 2, 1) := by decide +kernel
theorem d_CU_word_44 : decode c_CU_word 44 = .ok (.invokevirtual 64, 3) := by decide +kernel
theorem d_CU_word_47 : decode c_CU_word 47 = .ok (.invokevirtual 68, 3) := by decide +kernel
theorem d_CU_word_50 : decode c_CU_word 50 = .ok (.ifCond .ne 5, 3) := by decide +kernel
theorem d_CU_word_53 : decode c_CU_word 53 = .ok (.aconst_null, 1) := by decide +kernel
theorem d_CU_word_54 : decode c_CU_word 54 = .ok (.areturn, 1) := by decide +kernel
theorem d_CU_word_55 : decode c_CU_word 55 = .ok (.iinc 2 1, 3) := by decide +kernel
theorem d_CU_word_58 : decode c_CU_word 58 = .ok (.goto (-25), 3) := by decide +kernel
theorem d_CU_word_61 : decode c_CU_word 61 = .ok (.new 71, 3) := by decide +kernel
theorem d_CU_word_64 : decode c_CU_word 64 = .ok (.dup, 1) := by decide +kernel
theorem d_CU_word_65 : decode c_CU_word 65 = .ok (.iconst 0, 1) := by decide +kernel
theorem d_CU_word_66 : decode c_CU_word 66 = .ok (.aload_n 1, 1) := by decide +kernel
theorem d_CU_word_67 : decode c_CU_word 67 = .ok (.lconst 0, 1) := by decide +kernel
theorem d_CU_word_68 : decode c_CU_word 68 = .ok (.invokespecial 73, 3) := by decide +kernel
theorem d_CU_word_71 : decode c_CU_word 71 = .ok (.areturn, 1) := by decide +kernel
def ws_CU_word : List Cond := .code y_CU_word c_CU_word 3 (some (.object "PatchStore$Value")) :: TBL
theorem d_ST_length_0 : decode c_ST_length 0 = .ok (.aload_n 0, 1) := by decide +kernel
theorem d_ST_length_1 : decode c_ST_length 1 = .ok (.getfield 9, 3) := by decide +kernel
theorem d_ST_length_4 : decode c_ST_length 4 = .ok (.arraylength, 1) := by decide +kernel
theorem d_ST_length_5 : decode c_ST_length 5 = .ok (.aload_n 0, 1) := by decide +kernel
theorem d_ST_length_6 : decode c_ST_length 6 = .ok (.invokevirtual 335, 3) := by decide +kernel
theorem d_ST_length_9 : decode c_ST_length 9 = .ok (.ishr, 1) := by decide +kernel
theorem d_ST_length_10 : decode c_ST_length 10 = .ok (.ireturn, 1) := by decide +kernel
def ws_ST_length : List Cond := .code y_ST_length c_ST_length 1 (some .int) :: TBL
theorem d_ST_coder_0 : decode c_ST_coder 0 = .ok (.getstatic 38, 3) := by decide +kernel
theorem d_ST_coder_3 : decode c_ST_coder 3 = .ok (.ifCond .eq 10, 3) := by decide +kernel
theorem d_ST_coder_6 : decode c_ST_coder 6 = .ok (.aload_n 0, 1) := by decide +kernel
theorem d_ST_coder_7 : decode c_ST_coder 7 = .ok (.getfield 15, 3) := by decide +kernel
theorem d_ST_coder_10 : decode c_ST_coder 10 = .ok (.goto 4, 3) := by decide +kernel
theorem d_ST_coder_13 : decode c_ST_coder 13 = .ok (.iconst 1, 1) := by decide +kernel
theorem d_ST_coder_14 : decode c_ST_coder 14 = .ok (.ireturn, 1) := by decide +kernel
def ws_ST_coder : List Cond := .code y_ST_coder c_ST_coder 1 (some .byte) :: TBL
theorem d_ST_charAt_0 : decode c_ST_charAt 0 = .ok (.aload_n 0, 1) := by decide +kernel
theorem d_ST_charAt_1 : decode c_ST_charAt 1 = .ok (.invokevirtual 492, 3) := by decide +kernel
theorem d_ST_charAt_4 : decode c_ST_charAt 4 = .ok (.ifCond .eq 12, 3) := by decide +kernel
theorem d_ST_charAt_7 : decode c_ST_charAt 7 = .ok (.aload_n 0, 1) := by decide +kernel
theorem d_ST_charAt_8 : decode c_ST_charAt 8 = .ok (.getfield 9, 3) := by decide +kernel
theorem d_ST_charAt_11 : decode c_ST_charAt 11 = .ok (.iload_n 1, 1) := by decide +kernel
theorem d_ST_charAt_12 : decode c_ST_charAt 12 = .ok (.invokestatic 495, 3) := by decide +kernel
theorem d_ST_charAt_15 : decode c_ST_charAt 15 = .ok (.ireturn, 1) := by decide +kernel
theorem d_ST_charAt_16 : decode c_ST_charAt 16 = .ok (.aload_n 0, 1) := by decide +kernel
theorem d_ST_charAt_17 : decode c_ST_charAt 17 = .ok (.getfield 9, 3) := by decide +kernel
theorem d_ST_charAt_20 : decode c_ST_charAt 20 = .ok (.iload_n 1, 1) := by decide +kernel
theorem d_ST_charAt_21 : decode c_ST_charAt 21 = .ok (.invokestatic 498, 3) := by decide +kernel
theorem d_ST_charAt_24 : decode c_ST_charAt 24 = .ok (.ireturn, 1) := by decide +kernel
def ws_ST_charAt : List Cond := .code y_ST_charAt c_ST_charAt 2 (some .char) :: TBL
theorem d_ST_isLatin1_0 : decode c_ST_isLatin1 0 = .ok (.getstatic 38, 3) := by decide +kernel
theorem d_ST_isLatin1_3 : decode c_ST_isLatin1 3 = .ok (.ifCond .eq 14, 3) := by decide +kernel
theorem d_ST_isLatin1_6 : decode c_ST_isLatin1 6 = .ok (.aload_n 0, 1) := by decide +kernel
theorem d_ST_isLatin1_7 : decode c_ST_isLatin1 7 = .ok (.getfield 15, 3) := by decide +kernel
theorem d_ST_isLatin1_10 : decode c_ST_isLatin1 10 = .ok (.ifCond .ne 7, 3) := by decide +kernel
theorem d_ST_isLatin1_13 : decode c_ST_isLatin1 13 = .ok (.iconst 1, 1) := by decide +kernel
theorem d_ST_isLatin1_14 : decode c_ST_isLatin1 14 = .ok (.goto 4, 3) := by decide +kernel
theorem d_ST_isLatin1_17 : decode c_ST_isLatin1 17 = .ok (.iconst 0, 1) := by decide +kernel
theorem d_ST_isLatin1_18 : decode c_ST_isLatin1 18 = .ok (.ireturn, 1) := by decide +kernel
def ws_ST_isLatin1 : List Cond := .code y_ST_isLatin1 c_ST_isLatin1 1 (some .boolean) :: TBL
theorem d_LT_charAt_0 : decode c_LT_charAt 0 = .ok (.iload_n 1, 1) := by decide +kernel
theorem d_LT_charAt_1 : decode c_LT_charAt 1 = .ok (.aload_n 0, 1) := by decide +kernel
theorem d_LT_charAt_2 : decode c_LT_charAt 2 = .ok (.arraylength, 1) := by decide +kernel
theorem d_LT_charAt_3 : decode c_LT_charAt 3 = .ok (.invokestatic 9, 3) := by decide +kernel
theorem d_LT_charAt_6 : decode c_LT_charAt 6 = .ok (.aload_n 0, 1) := by decide +kernel
theorem d_LT_charAt_7 : decode c_LT_charAt 7 = .ok (.iload_n 1, 1) := by decide +kernel
theorem d_LT_charAt_8 : decode c_LT_charAt 8 = .ok (.baload, 1) := by decide +kernel
theorem d_LT_charAt_9 : decode c_LT_charAt 9 = .ok (.sipush 255, 3) := by decide +kernel
theorem d_LT_charAt_12 : decode c_LT_charAt 12 = .ok (.iand, 1) := by decide +kernel
theorem d_LT_charAt_13 : decode c_LT_charAt 13 = .ok (.i2c, 1) := by decide +kernel
theorem d_LT_charAt_14 : decode c_LT_charAt 14 = .ok (.ireturn, 1) := by decide +kernel
def ws_LT_charAt : List Cond := .code y_LT_charAt c_LT_charAt 2 (some .char) :: TBL
theorem d_UT_charAt_0 : decode c_UT_charAt 0 = .ok (.iload_n 1, 1) := by decide +kernel
theorem d_UT_charAt_1 : decode c_UT_charAt 1 = .ok (.aload_n 0, 1) := by decide +kernel
theorem d_UT_charAt_2 : decode c_UT_charAt 2 = .ok (.invokestatic 67, 3) := by decide +kernel
theorem d_UT_charAt_5 : decode c_UT_charAt 5 = .ok (.aload_n 0, 1) := by decide +kernel
theorem d_UT_charAt_6 : decode c_UT_charAt 6 = .ok (.iload_n 1, 1) := by decide +kernel
theorem d_UT_charAt_7 : decode c_UT_charAt 7 = .ok (.invokestatic 71, 3) := by decide +kernel
theorem d_UT_charAt_10 : decode c_UT_charAt 10 = .ok (.ireturn, 1) := by decide +kernel
def ws_UT_charAt : List Cond := .code y_UT_charAt c_UT_charAt 2 (some .char) :: TBL
theorem d_JR_branch_0 : decode c_JR_branch 0 = .ok (.new 63, 3) := by decide +kernel
theorem d_JR_branch_3 : decode c_JR_branch 3 = .ok (.dup, 1) := by decide +kernel
theorem d_JR_branch_4 : decode c_JR_branch 4 = .ok (.invokespecial 65, 3) := by decide +kernel
theorem d_JR_branch_7 : decode c_JR_branch 7 = .ok (.astore 4, 2) := by decide +kernel
theorem d_JR_branch_9 : decode c_JR_branch 9 = .ok (.aload_n 0, 1) := by decide +kernel
theorem d_JR_branch_10 : decode c_JR_branch 10 = .ok (.getfield 15, 3) := by decide +kernel
theorem d_JR_branch_13 : decode c_JR_branch 13 = .ok (.iload_n 2, 1) := by decide +kernel
theorem d_JR_branch_14 : decode c_JR_branch 14 = .ok (.invokevirtual 55, 3) := by decide +kernel
theorem d_JR_branch_17 : decode c_JR_branch 17 = .ok (.ifCond .eq 16, 3) := by decide +kernel
theorem d_JR_branch_20 : decode c_JR_branch 20 = .ok (.new 39, 3) := by decide +kernel
theorem d_JR_branch_23 : decode c_JR_branch 23 = .ok (.dup, 1) := by decide +kernel
theorem d_JR_branch_24 : decode c_JR_branch 24 = .ok (.iload_n 1, 1) := by decide +kernel
theorem d_JR_branch_25 : decode c_JR_branch 25 = .ok (.aload 4, 2) := by decide +kernel
theorem d_JR_branch_27 : decode c_JR_branch 27 = .ok (.ldc 66, 2) := by decide +kernel
theorem d_JR_branch_29 : decode c_JR_branch 29 = .ok (.invokespecial 68, 3) := by decide +kernel
theorem d_JR_branch_32 : decode c_JR_branch 32 = .ok (.areturn, 1) := by decide +kernel
theorem d_JR_branch_33 : decode c_JR_branch 33 = .ok (.iconst 0, 1) := by decide +kernel
theorem d_JR_branch_34 : decode c_JR_branch 34 = .ok (.istore 5, 2) := by decide +kernel
theorem d_JR_branch_36 : decode c_JR_branch 36 = .ok (.iload 5, 2) := by decide +kernel
theorem d_JR_branch_38 : decode c_JR_branch 38 = .ok (.sipush 160, 3) := by decide +kernel
theorem d_JR_branch_41 : decode c_JR_branch 41 = .ok (.if_icmp .ge 98, 3) := by decide +kernel
theorem d_JR_branch_44 : decode c_JR_branch 44 = .ok (.aload_n 0, 1) := by decide +kernel
theorem d_JR_branch_45 : decode c_JR_branch 45 = .ok (.getfield 15, 3) := by decide +kernel
theorem d_JR_branch_48 : decode c_JR_branch 48 = .ok (.invokevirtual 22, 3) := by decide +kernel
theorem d_JR_branch_51 : decode c_JR_branch 51 = .ok (.iload_n 1, 1) := by decide +kernel
theorem d_JR_branch_52 : decode c_JR_branch 52 = .ok (.iconst 4, 1) := by decide +kernel
theorem d_JR_branch_53 : decode c_JR_branch 53 = .ok (.if_icmp .ne 13, 3) := by decide +kernel
theorem d_JR_branch_56 : decode c_JR_branch 56 = .ok (.aload_n 0, 1) := by decide +kernel
theorem d_JR_branch_57 : decode c_JR_branch 57 = .ok (.aload 4, 2) := by decide +kernel
theorem d_JR_branch_59 : decode c_JR_branch 59 = .ok (.iload_n 3, 1) := by decide +kernel
theorem d_JR_branch_60 : decode c_JR_branch 60 = .ok (.invokevirtual 71, 3) := by decide +kernel
theorem d_JR_branch_63 : decode c_JR_branch 63 = .ok (.goto 8, 3) := by decide +kernel
theorem d_JR_branch_66 : decode c_JR_branch 66 = .ok (.aload_n 0, 1) := by decide +kernel
theorem d_JR_branch_67 : decode c_JR_branch 67 = .ok (.iload_n 3, 1) := by decide +kernel
theorem d_JR_branch_68 : decode c_JR_branch 68 = .ok (.invokevirtual 27, 3) := by decide +kernel
theorem d_JR_branch_71 : decode c_JR_branch 71 = .ok (.astore 6, 2) := by decide +kernel
theorem d_JR_branch_73 : decode c_JR_branch 73 = .ok (.aload 6, 2) := by decide +kernel
theorem d_JR_branch_75 : decode c_JR_branch 75 = .ok (.ifnonnull 5, 3) := by decide +kernel
theorem d_JR_branch_78 : decode c_JR_branch 78 = .ok (.aconst_null, 1) := by decide +kernel
theorem d_JR_branch_79 : decode c_JR_branch 79 = .ok (.areturn, 1) := by decide +kernel
theorem d_JR_branch_80 : decode c_JR_branch 80 = .ok (.aload 4, 2) := by decide +kernel
theorem d_JR_branch_82 : decode c_JR_branch 82 = .ok (.aload 6, 2) := by decide +kernel
theorem d_JR_branch_84 : decode c_JR_branch 84 = .ok (.invokevirtual 75, 3) := by decide +kernel
theorem d_JR_branch_87 : decode c_JR_branch 87 = .ok (.pop, 1) := by decide +kernel
theorem d_JR_branch_88 : decode c_JR_branch 88 = .ok (.aload_n 0, 1) := by decide +kernel
theorem d_JR_branch_89 : decode c_JR_branch 89 = .ok (.getfield 15, 3) := by decide +kernel
theorem d_JR_branch_92 : decode c_JR_branch 92 = .ok (.invokevirtual 22, 3) := by decide +kernel
theorem d_JR_branch_95 : decode c_JR_branch 95 = .ok (.aload_n 0, 1) := by decide +kernel
theorem d_JR_branch_96 : decode c_JR_branch 96 = .ok (.getfield 15, 3) := by decide +kernel
theorem d_JR_branch_99 : decode c_JR_branch 99 = .ok (.iload_n 2, 1) := by decide +kernel
theorem d_JR_branch_100 : decode c_JR_branch 100 = .ok (.invokevirtual 55, 3) := by decide +kernel
theorem d_JR_branch_103 : decode c_JR_branch 103 = .ok (.ifCond .eq 16, 3) := by decide +kernel
theorem d_JR_branch_106 : decode c_JR_branch 106 = .ok (.new 39, 3) := by decide +kernel
theorem d_JR_branch_109 : decode c_JR_branch 109 = .ok (.dup, 1) := by decide +kernel
theorem d_JR_branch_110 : decode c_JR_branch 110 = .ok (.iload_n 1, 1) := by decide +kernel
theorem d_JR_branch_111 : decode c_JR_branch 111 = .ok (.aload 4, 2) := by decide +kernel
theorem d_JR_branch_113 : decode c_JR_branch 113 = .ok (.ldc 66, 2) := by decide +kernel
theorem d_JR_branch_115 : decode c_JR_branch 115 = .ok (.invokespecial 68, 3) := by decide +kernel
theorem d_JR_branch_118 : decode c_JR_branch 118 = .ok (.areturn, 1) := by decide +kernel
theorem d_JR_branch_119 : decode c_JR_branch 119 = .ok (.aload_n 0, 1) := by decide +kernel
theorem d_JR_branch_120 : decode c_JR_branch 120 = .ok (.getfield 15, 3) := by decide +kernel
theorem d_JR_branch_123 : decode c_JR_branch 123 = .ok (.bipush 44, 2) := by decide +kernel
theorem d_JR_branch_125 : decode c_JR_branch 125 = .ok (.invokevirtual 55, 3) := by decide +kernel
theorem d_JR_branch_128 : decode c_JR_branch 128 = .ok (.ifCond .ne 5, 3) := by decide +kernel
theorem d_JR_branch_131 : decode c_JR_branch 131 = .ok (.aconst_null, 1) := by decide +kernel
theorem d_JR_branch_132 : decode c_JR_branch 132 = .ok (.areturn, 1) := by decide +kernel
theorem d_JR_branch_133 : decode c_JR_branch 133 = .ok (.iinc 5 1, 3) := by decide +kernel
theorem d_JR_branch_136 : decode c_JR_branch 136 = .ok (.goto (-100), 3) := by decide +kernel
theorem d_JR_branch_139 : decode c_JR_branch 139 = .ok (.aconst_null, 1) := by decide +kernel
theorem d_JR_branch_140 : decode c_JR_branch 140 = .ok (.areturn, 1) := by decide +kernel
def ws_JR_branch : List Cond := .code y_JR_branch c_JR_branch 7 (some (.object "PatchStore$Value")) :: TBL
theorem d_VA_init2_0 : decode c_VA_init2 0 = .ok (.aload_n 0, 1) := by decide +kernel
theorem d_VA_init2_1 : decode c_VA_init2 1 = .ok (.invokespecial 3, 3) := by decide +kernel
theorem d_VA_init2_4 : decode c_VA_init2 4 = .ok (.aload_n 0, 1) := by decide +kernel
theorem d_VA_init2_5 : decode c_VA_init2 5 = .ok (.iload_n 1, 1) := by decide +kernel
theorem d_VA_init2_6 : decode c_VA_init2 6 = .ok (.putfield 9, 3) := by decide +kernel
theorem d_VA_init2_9 : decode c_VA_init2 9 = .ok (.aload_n 0, 1) := by decide +kernel
theorem d_VA_init2_10 : decode c_VA_init2 10 = .ok (.ldc 23, 2) := by decide +kernel
theorem d_VA_init2_12 : decode c_VA_init2 12 = .ok (.putfield 15, 3) := by decide +kernel
theorem d_VA_init2_15 : decode c_VA_init2 15 = .ok (.aload_n 0, 1) := by decide +kernel
theorem d_VA_init2_16 : decode c_VA_init2 16 = .ok (.lconst 0, 1) := by decide +kernel
theorem d_VA_init2_17 : decode c_VA_init2 17 = .ok (.putfield 19, 3) := by decide +kernel
theorem d_VA_init2_20 : decode c_VA_init2 20 = .ok (.aload_n 0, 1) := by decide +kernel
theorem d_VA_init2_21 : decode c_VA_init2 21 = .ok (.aload_n 3, 1) := by decide +kernel
theorem d_VA_init2_22 : decode c_VA_init2 22 = .ok (.putfield 25, 3) := by decide +kernel
theorem d_VA_init2_25 : decode c_VA_init2 25 = .ok (.aload_n 0, 1) := by decide +kernel
theorem d_VA_init2_26 : decode c_VA_init2 26 = .ok (.aload_n 2, 1) := by decide +kernel
theorem d_VA_init2_27 : decode c_VA_init2 27 = .ok (.putfield 31, 3) := by decide +kernel
theorem d_VA_init2_30 : decode c_VA_init2 30 = .ok (.iconst 0, 1) := by decide +kernel
theorem d_VA_init2_31 : decode c_VA_init2 31 = .ok (.istore 4, 2) := by decide +kernel
theorem d_VA_init2_33 : decode c_VA_init2 33 = .ok (.iconst 1, 1) := by decide +kernel
theorem d_VA_init2_34 : decode c_VA_init2 34 = .ok (.istore 5, 2) := by decide +kernel
theorem d_VA_init2_36 : decode c_VA_init2 36 = .ok (.iconst 0, 1) := by decide +kernel
theorem d_VA_init2_37 : decode c_VA_init2 37 = .ok (.istore 6, 2) := by decide +kernel
theorem d_VA_init2_39 : decode c_VA_init2 39 = .ok (.iload 6, 2) := by decide +kernel
theorem d_VA_init2_41 : decode c_VA_init2 41 = .ok (.aload_n 2, 1) := by decide +kernel
theorem d_VA_init2_42 : decode c_VA_init2 42 = .ok (.invokevirtual 41, 3) := by decide +kernel
theorem d_VA_init2_45 : decode c_VA_init2 45 = .ok (.if_icmp .ge 45, 3) := by decide +kernel
theorem d_VA_init2_48 : decode c_VA_init2 48 = .ok (.iload 4, 2) := by decide +kernel
theorem d_VA_init2_50 : decode c_VA_init2 50 = .ok (.aload_n 2, 1) := by decide +kernel
theorem d_VA_init2_51 : decode c_VA_init2 51 = .ok (.iload 6, 2) := by decide +kernel
theorem d_VA_init2_53 : decode c_VA_init2 53 = .ok (.invokevirtual 45, 3) := by decide +kernel
theorem d_VA_init2_56 : decode c_VA_init2 56 = .ok (.checkcast 10, 3) := by decide +kernel
theorem d_VA_init2_59 : decode c_VA_init2 59 = .ok (.getfield 35, 3) := by decide +kernel
theorem d_VA_init2_62 : decode c_VA_init2 62 = .ok (.invokestatic 49, 3) := by decide +kernel
theorem d_VA_init2_65 : decode c_VA_init2 65 = .ok (.istore 4, 2) := by decide +kernel
theorem d_VA_init2_67 : decode c_VA_init2 67 = .ok (.iload 5, 2) := by decide +kernel
theorem d_VA_init2_69 : decode c_VA_init2 69 = .ok (.aload_n 2, 1) := by decide +kernel
theorem d_VA_init2_70 : decode c_VA_init2 70 = .ok (.iload 6, 2) := by decide +kernel
theorem d_VA_init2_72 : decode c_VA_init2 72 = .ok (.invokevirtual 45, 3) := by decide +kernel
theorem d_VA_init2_75 : decode c_VA_init2 75 = .ok (.checkcast 10, 3) := by decide +kernel
theorem d_VA_init2_78 : decode c_VA_init2 78 = .ok (.getfield 38, 3) := by decide +kernel
theorem d_VA_init2_81 : decode c_VA_init2 81 = .ok (.iadd, 1) := by decide +kernel
theorem d_VA_init2_82 : decode c_VA_init2 82 = .ok (.istore 5, 2) := by decide +kernel
theorem d_VA_init2_84 : decode c_VA_init2 84 = .ok (.iinc 6 1, 3) := by decide +kernel
theorem d_VA_init2_87 : decode c_VA_init2 87 = .ok (.goto (-48), 3) := by decide +kernel
theorem d_VA_init2_90 : decode c_VA_init2 90 = .ok (.aload_n 0, 1) := by decide +kernel
theorem d_VA_init2_91 : decode c_VA_init2 91 = .ok (.iload 4, 2) := by decide +kernel
theorem d_VA_init2_93 : decode c_VA_init2 93 = .ok (.iconst 1, 1) := by decide +kernel
theorem d_VA_init2_94 : decode c_VA_init2 94 = .ok (.iadd, 1) := by decide +kernel
theorem d_VA_init2_95 : decode c_VA_init2 95 = .ok (.putfield 35, 3) := by decide +kernel
theorem d_VA_init2_98 : decode c_VA_init2 98 = .ok (.aload_n 0, 1) := by decide +kernel
theorem d_VA_init2_99 : decode c_VA_init2 99 = .ok (.iload 5, 2) := by decide +kernel
theorem d_VA_init2_101 : decode c_VA_init2 101 = .ok (.putfield 38, 3) := by decide +kernel
theorem d_VA_init2_104 : decode c_VA_init2 104 = .ok (.return_, 1) := by decide +kernel
def ws_VA_init2 : List Cond := .code y_VA_init2 c_VA_init2 7 none :: TBL
theorem d_AL_size_0 : decode c_AL_size 0 = .ok (.aload_n 0, 1) := by decide +kernel
theorem d_AL_size_1 : decode c_AL_size 1 = .ok (.getfield 48, 3) := by decide +kernel
theorem d_AL_size_4 : decode c_AL_size 4 = .ok (.ireturn, 1) := by decide +kernel
def ws_AL_size : List Cond := .code y_AL_size c_AL_size 1 (some .int) :: TBL
theorem d_AL_get_0 : decode c_AL_get 0 = .ok (.iload_n 1, 1) := by decide +kernel
theorem d_AL_get_1 : decode c_AL_get 1 = .ok (.aload_n 0, 1) := by decide +kernel
theorem d_AL_get_2 : decode c_AL_get 2 = .ok (.getfield 48, 3) := by decide +kernel
theorem d_AL_get_5 : decode c_AL_get 5 = .ok (.invokestatic 118, 3) := by decide +kernel
theorem d_AL_get_8 : decode c_AL_get 8 = .ok (.pop, 1) := by decide +kernel
theorem d_AL_get_9 : decode c_AL_get 9 = .ok (.aload_n 0, 1) := by decide +kernel
theorem d_AL_get_10 : decode c_AL_get 10 = .ok (.iload_n 1, 1) := by decide +kernel
theorem d_AL_get_11 : decode c_AL_get 11 = .ok (.invokevirtual 123, 3) := by decide +kernel
theorem d_AL_get_14 : decode c_AL_get 14 = .ok (.areturn, 1) := by decide +kernel
def ws_AL_get : List Cond := .code y_AL_get c_AL_get 2 (some (.object "java/lang/Object")) :: TBL
theorem d_OB_checkIndex_0 : decode c_OB_checkIndex 0 = .ok (.iload_n 0, 1) := by decide +kernel
theorem d_OB_checkIndex_1 : decode c_OB_checkIndex 1 = .ok (.iload_n 1, 1) := by decide +kernel
theorem d_OB_checkIndex_2 : decode c_OB_checkIndex 2 = .ok (.aconst_null, 1) := by decide +kernel
theorem d_OB_checkIndex_3 : decode c_OB_checkIndex 3 = .ok (.invokestatic 105, 3) := by decide +kernel
theorem d_OB_checkIndex_6 : decode c_OB_checkIndex 6 = .ok (.ireturn, 1) := by decide +kernel
def ws_OB_checkIndex : List Cond := .code y_OB_checkIndex c_OB_checkIndex 2 (some .int) :: TBL
theorem d_AL_elementData_0 : decode c_AL_elementData 0 = .ok (.aload_n 0, 1) := by decide +kernel
theorem d_AL_elementData_1 : decode c_AL_elementData 1 = .ok (.getfield 9, 3) := by decide +kernel
theorem d_AL_elementData_4 : decode c_AL_elementData 4 = .ok (.iload_n 1, 1) := by decide +kernel
theorem d_AL_elementData_5 : decode c_AL_elementData 5 = .ok (.aaload, 1) := by decide +kernel
theorem d_AL_elementData_6 : decode c_AL_elementData 6 = .ok (.areturn, 1) := by decide +kernel
def ws_AL_elementData : List Cond := .code y_AL_elementData c_AL_elementData 2 (some (.object "java/lang/Object")) :: TBL
theorem d_JR_member_0 : decode c_JR_member 0 = .ok (.aload_n 0, 1) := by decide +kernel
theorem d_JR_member_1 : decode c_JR_member 1 = .ok (.getfield 15, 3) := by decide +kernel
theorem d_JR_member_4 : decode c_JR_member 4 = .ok (.invokevirtual 31, 3) := by decide +kernel
theorem d_JR_member_7 : decode c_JR_member 7 = .ok (.bipush 34, 2) := by decide +kernel
theorem d_JR_member_9 : decode c_JR_member 9 = .ok (.if_icmp .ne 13, 3) := by decide +kernel
theorem d_JR_member_12 : decode c_JR_member 12 = .ok (.aload_n 0, 1) := by decide +kernel
theorem d_JR_member_13 : decode c_JR_member 13 = .ok (.getfield 15, 3) := by decide +kernel
theorem d_JR_member_16 : decode c_JR_member 16 = .ok (.invokevirtual 35, 3) := by decide +kernel
theorem d_JR_member_19 : decode c_JR_member 19 = .ok (.goto 4, 3) := by decide +kernel
theorem d_JR_member_22 : decode c_JR_member 22 = .ok (.aconst_null, 1) := by decide +kernel
theorem d_JR_member_23 : decode c_JR_member 23 = .ok (.astore_n 3, 1) := by decide +kernel
theorem d_JR_member_24 : decode c_JR_member 24 = .ok (.aload_n 3, 1) := by decide +kernel
theorem d_JR_member_25 : decode c_JR_member 25 = .ok (.ifnonnull 5, 3) := by decide +kernel
theorem d_JR_member_28 : decode c_JR_member 28 = .ok (.aconst_null, 1) := by decide +kernel
theorem d_JR_member_29 : decode c_JR_member 29 = .ok (.areturn, 1) := by decide +kernel
theorem d_JR_member_30 : decode c_JR_member 30 = .ok (.iconst 0, 1) := by decide +kernel
theorem d_JR_member_31 : decode c_JR_member 31 = .ok (.istore 4, 2) := by decide +kernel
theorem d_JR_member_33 : decode c_JR_member 33 = .ok (.iload 4, 2) := by decide +kernel
theorem d_JR_member_35 : decode c_JR_member 35 = .ok (.aload_n 1, 1) := by decide +kernel
theorem d_JR_member_36 : decode c_JR_member 36 = .ok (.invokevirtual 79, 3) := by decide +kernel
theorem d_JR_member_39 : decode c_JR_member 39 = .ok (.if_icmp .ge 35, 3) := by decide +kernel
theorem d_JR_member_42 : decode c_JR_member 42 = .ok (.aload_n 1, 1) := by decide +kernel
theorem d_JR_member_43 : decode c_JR_member 43 = .ok (.iload 4, 2) := by decide +kernel
theorem d_JR_member_45 : decode c_JR_member 45 = .ok (.invokevirtual 83, 3) := by decide +kernel
theorem d_JR_member_48 : decode c_JR_member 48 = .ok (.checkcast 39, 3) := by decide +kernel
theorem d_JR_member_51 : decode c_JR_member 51 = .ok (.getfield 87, 3) := by decide +kernel
theorem d_JR_member_54 : decode c_JR_member 54 = .ok (.aload_n 3, 1) := by decide +kernel
theorem d_JR_member_55 : decode c_JR_member 55 = .ok (.invokevirtual 91, 3) := by decide +kernel
theorem d_JR_member_58 : decode c_JR_member 58 = .ok (.ifCond .eq 10, 3) := by decide +kernel
theorem d_JR_member_61 : decode c_JR_member 61 = .ok (.aload_n 0, 1) := by decide +kernel
theorem d_JR_member_62 : decode c_JR_member 62 = .ok (.iconst 3, 1) := by decide +kernel
theorem d_JR_member_63 : decode c_JR_member 63 = .ok (.putfield 9, 3) := by decide +kernel
theorem d_JR_member_66 : decode c_JR_member 66 = .ok (.aconst_null, 1) := by decide +kernel
theorem d_JR_member_67 : decode c_JR_member 67 = .ok (.areturn, 1) := by decide +kernel
theorem d_JR_member_68 : decode c_JR_member 68 = .ok (.iinc 4 1, 3) := by decide +kernel
theorem d_JR_member_71 : decode c_JR_member 71 = .ok (.goto (-38), 3) := by decide +kernel
theorem d_JR_member_74 : decode c_JR_member 74 = .ok (.aload_n 0, 1) := by decide +kernel
theorem d_JR_member_75 : decode c_JR_member 75 = .ok (.getfield 15, 3) := by decide +kernel
theorem d_JR_member_78 : decode c_JR_member 78 = .ok (.invokevirtual 22, 3) := by decide +kernel
theorem d_JR_member_81 : decode c_JR_member 81 = .ok (.aload_n 0, 1) := by decide +kernel
theorem d_JR_member_82 : decode c_JR_member 82 = .ok (.getfield 15, 3) := by decide +kernel
theorem d_JR_member_85 : decode c_JR_member 85 = .ok (.bipush 58, 2) := by decide +kernel
theorem d_JR_member_87 : decode c_JR_member 87 = .ok (.invokevirtual 55, 3) := by decide +kernel
theorem d_JR_member_90 : decode c_JR_member 90 = .ok (.ifCond .ne 5, 3) := by decide +kernel
theorem d_JR_member_93 : decode c_JR_member 93 = .ok (.aconst_null, 1) := by decide +kernel
theorem d_JR_member_94 : decode c_JR_member 94 = .ok (.areturn, 1) := by decide +kernel
theorem d_JR_member_95 : decode c_JR_member 95 = .ok (.aload_n 0, 1) := by decide +kernel
theorem d_JR_member_96 : decode c_JR_member 96 = .ok (.getfield 15, 3) := by decide +kernel
theorem d_JR_member_99 : decode c_JR_member 99 = .ok (.invokevirtual 22, 3) := by decide +kernel
theorem d_JR_member_102 : decode c_JR_member 102 = .ok (.aload_n 0, 1) := by decide +kernel
theorem d_JR_member_103 : decode c_JR_member 103 = .ok (.iload_n 2, 1) := by decide +kernel
theorem d_JR_member_104 : decode c_JR_member 104 = .ok (.invokevirtual 27, 3) := by decide +kernel
theorem d_JR_member_107 : decode c_JR_member 107 = .ok (.astore 4, 2) := by decide +kernel
theorem d_JR_member_109 : decode c_JR_member 109 = .ok (.aload 4, 2) := by decide +kernel
theorem d_JR_member_111 : decode c_JR_member 111 = .ok (.ifnonnull 7, 3) := by decide +kernel
theorem d_JR_member_114 : decode c_JR_member 114 = .ok (.aconst_null, 1) := by decide +kernel
theorem d_JR_member_115 : decode c_JR_member 115 = .ok (.goto 9, 3) := by decide +kernel
theorem d_JR_member_118 : decode c_JR_member 118 = .ok (.aload 4, 2) := by decide +kernel
theorem d_JR_member_120 : decode c_JR_member 120 = .ok (.aload_n 3, 1) := by decide +kernel
theorem d_JR_member_121 : decode c_JR_member 121 = .ok (.invokevirtual 96, 3) := by decide +kernel
theorem d_JR_member_124 : decode c_JR_member 124 = .ok (.areturn, 1) := by decide +kernel
def ws_JR_member : List Cond := .code y_JR_member c_JR_member 5 (some (.object "PatchStore$Value")) :: TBL
theorem d_ST_equals_0 : decode c_ST_equals 0 = .ok (.aload_n 0, 1) := by decide +kernel
theorem d_ST_equals_1 : decode c_ST_equals 1 = .ok (.aload_n 1, 1) := by decide +kernel
theorem d_ST_equals_2 : decode c_ST_equals 2 = .ok (.if_acmp .ne 5, 3) := by decide +kernel
theorem d_ST_equals_5 : decode c_ST_equals 5 = .ok (.iconst 1, 1) := by decide +kernel
theorem d_ST_equals_6 : decode c_ST_equals 6 = .ok (.ireturn, 1) := by decide +kernel
theorem d_ST_equals_7 : decode c_ST_equals 7 = .ok (.aload_n 1, 1) := by decide +kernel
theorem d_ST_equals_8 : decode c_ST_equals 8 = .ok (.instanceof 10, 3) := by decide +kernel
theorem d_ST_equals_11 : decode c_ST_equals 11 = .ok (.ifCond .eq 43, 3) := by decide +kernel
theorem d_ST_equals_14 : decode c_ST_equals 14 = .ok (.aload_n 1, 1) := by decide +kernel
theorem d_ST_equals_15 : decode c_ST_equals 15 = .ok (.checkcast 10, 3) := by decide +kernel
theorem d_ST_equals_18 : decode c_ST_equals 18 = .ok (.astore_n 2, 1) := by decide +kernel
theorem d_ST_equals_19 : decode c_ST_equals 19 = .ok (.getstatic 38, 3) := by decide +kernel
theorem d_ST_equals_22 : decode c_ST_equals 22 = .ok (.ifCond .eq 14, 3) := by decide +kernel
theorem d_ST_equals_25 : decode c_ST_equals 25 = .ok (.aload_n 0, 1) := by decide +kernel
theorem d_ST_equals_26 : decode c_ST_equals 26 = .ok (.getfield 15, 3) := by decide +kernel
theorem d_ST_equals_29 : decode c_ST_equals 29 = .ok (.aload_n 2, 1) := by decide +kernel
theorem d_ST_equals_30 : decode c_ST_equals 30 = .ok (.getfield 15, 3) := by decide +kernel
theorem d_ST_equals_33 : decode c_ST_equals 33 = .ok (.if_icmp .ne 21, 3) := by decide +kernel
theorem d_ST_equals_36 : decode c_ST_equals 36 = .ok (.aload_n 0, 1) := by decide +kernel
theorem d_ST_equals_37 : decode c_ST_equals 37 = .ok (.getfield 9, 3) := by decide +kernel
theorem d_ST_equals_40 : decode c_ST_equals 40 = .ok (.aload_n 2, 1) := by decide +kernel
theorem d_ST_equals_41 : decode c_ST_equals 41 = .ok (.getfield 9, 3) := by decide +kernel
theorem d_ST_equals_44 : decode c_ST_equals 44 = .ok (.invokestatic 541, 3) := by decide +kernel
theorem d_ST_equals_47 : decode c_ST_equals 47 = .ok (.ifCond .eq 7, 3) := by decide +kernel
theorem d_ST_equals_50 : decode c_ST_equals 50 = .ok (.iconst 1, 1) := by decide +kernel
theorem d_ST_equals_51 : decode c_ST_equals 51 = .ok (.goto 4, 3) := by decide +kernel
theorem d_ST_equals_54 : decode c_ST_equals 54 = .ok (.iconst 0, 1) := by decide +kernel
theorem d_ST_equals_55 : decode c_ST_equals 55 = .ok (.ireturn, 1) := by decide +kernel
def ws_ST_equals : List Cond := .code y_ST_equals c_ST_equals 3 (some .boolean) :: TBL
theorem d_LT_equals_0 : decode c_LT_equals 0 = .ok (.aload_n 0, 1) := by decide +kernel
theorem d_LT_equals_1 : decode c_LT_equals 1 = .ok (.arraylength, 1) := by decide +kernel
theorem d_LT_equals_2 : decode c_LT_equals 2 = .ok (.aload_n 1, 1) := by decide +kernel
theorem d_LT_equals_3 : decode c_LT_equals 3 = .ok (.arraylength, 1) := by decide +kernel
theorem d_LT_equals_4 : decode c_LT_equals 4 = .ok (.if_icmp .ne 30, 3) := by decide +kernel
theorem d_LT_equals_7 : decode c_LT_equals 7 = .ok (.iconst 0, 1) := by decide +kernel
theorem d_LT_equals_8 : decode c_LT_equals 8 = .ok (.istore_n 2, 1) := by decide +kernel
theorem d_LT_equals_9 : decode c_LT_equals 9 = .ok (.iload_n 2, 1) := by decide +kernel
theorem d_LT_equals_10 : decode c_LT_equals 10 = .ok (.aload_n 0, 1) := by decide +kernel
theorem d_LT_equals_11 : decode c_LT_equals 11 = .ok (.arraylength, 1) := by decide +kernel
theorem d_LT_equals_12 : decode c_LT_equals 12 = .ok (.if_icmp .ge 20, 3) := by decide +kernel
theorem d_LT_equals_15 : decode c_LT_equals 15 = .ok (.aload_n 0, 1) := by decide +kernel
theorem d_LT_equals_16 : decode c_LT_equals 16 = .ok (.iload_n 2, 1) := by decide +kernel
theorem d_LT_equals_17 : decode c_LT_equals 17 = .ok (.baload, 1) := by decide +kernel
theorem d_LT_equals_18 : decode c_LT_equals 18 = .ok (.aload_n 1, 1) := by decide +kernel
theorem d_LT_equals_19 : decode c_LT_equals 19 = .ok (.iload_n 2, 1) := by decide +kernel
theorem d_LT_equals_20 : decode c_LT_equals 20 = .ok (.baload, 1) := by decide +kernel
theorem d_LT_equals_21 : decode c_LT_equals 21 = .ok (.if_icmp .eq 5, 3) := by decide +kernel
theorem d_LT_equals_24 : decode c_LT_equals 24 = .ok (.iconst 0, 1) := by decide +kernel
theorem d_LT_equals_25 : decode c_LT_equals 25 = .ok (.ireturn, 1) := by decide +kernel
theorem d_LT_equals_26 : decode c_LT_equals 26 = .ok (.iinc 2 1, 3) := by decide +kernel
theorem d_LT_equals_29 : decode c_LT_equals 29 = .ok (.goto (-20), 3) := by decide +kernel
theorem d_LT_equals_32 : decode c_LT_equals 32 = .ok (.iconst 1, 1) := by decide +kernel
theorem d_LT_equals_33 : decode c_LT_equals 33 = .ok (.ireturn, 1) := by decide +kernel
theorem d_LT_equals_34 : decode c_LT_equals 34 = .ok (.iconst 0, 1) := by decide +kernel
theorem d_LT_equals_35 : decode c_LT_equals 35 = .ok (.ireturn, 1) := by decide +kernel
def ws_LT_equals : List Cond := .code y_LT_equals c_LT_equals 3 (some .boolean) :: TBL
theorem d_VA_named_0 : decode c_VA_named 0 = .ok (.new 10, 3) := by decide +kernel
theorem d_VA_named_3 : decode c_VA_named 3 = .ok (.dup, 1) := by decide +kernel
theorem d_VA_named_4 : decode c_VA_named 4 = .ok (.aload_n 0, 1) := by decide +kernel
theorem d_VA_named_5 : decode c_VA_named 5 = .ok (.aload_n 1, 1) := by decide +kernel
theorem d_VA_named_6 : decode c_VA_named 6 = .ok (.invokespecial 55, 3) := by decide +kernel
theorem d_VA_named_9 : decode c_VA_named 9 = .ok (.areturn, 1) := by decide +kernel
def ws_VA_named : List Cond := .code y_VA_named c_VA_named 2 (some (.object "PatchStore$Value")) :: TBL
theorem d_VA_init3_0 : decode c_VA_init3 0 = .ok (.aload_n 0, 1) := by decide +kernel
theorem d_VA_init3_1 : decode c_VA_init3 1 = .ok (.invokespecial 3, 3) := by decide +kernel
theorem d_VA_init3_4 : decode c_VA_init3 4 = .ok (.aload_n 0, 1) := by decide +kernel
theorem d_VA_init3_5 : decode c_VA_init3 5 = .ok (.aload_n 1, 1) := by decide +kernel
theorem d_VA_init3_6 : decode c_VA_init3 6 = .ok (.getfield 9, 3) := by decide +kernel
theorem d_VA_init3_9 : decode c_VA_init3 9 = .ok (.putfield 9, 3) := by decide +kernel
theorem d_VA_init3_12 : decode c_VA_init3 12 = .ok (.aload_n 0, 1) := by decide +kernel
theorem d_VA_init3_13 : decode c_VA_init3 13 = .ok (.aload_n 1, 1) := by decide +kernel
theorem d_VA_init3_14 : decode c_VA_init3 14 = .ok (.getfield 15, 3) := by decide +kernel
theorem d_VA_init3_17 : decode c_VA_init3 17 = .ok (.putfield 15, 3) := by decide +kernel
theorem d_VA_init3_20 : decode c_VA_init3 20 = .ok (.aload_n 0, 1) := by decide +kernel
theorem d_VA_init3_21 : decode c_VA_init3 21 = .ok (.aload_n 1, 1) := by decide +kernel
theorem d_VA_init3_22 : decode c_VA_init3 22 = .ok (.getfield 19, 3) := by decide +kernel
theorem d_VA_init3_25 : decode c_VA_init3 25 = .ok (.putfield 19, 3) := by decide +kernel
theorem d_VA_init3_28 : decode c_VA_init3 28 = .ok (.aload_n 0, 1) := by decide +kernel
theorem d_VA_init3_29 : decode c_VA_init3 29 = .ok (.aload_n 2, 1) := by decide +kernel
theorem d_VA_init3_30 : decode c_VA_init3 30 = .ok (.putfield 25, 3) := by decide +kernel
theorem d_VA_init3_33 : decode c_VA_init3 33 = .ok (.aload_n 0, 1) := by decide +kernel
theorem d_VA_init3_34 : decode c_VA_init3 34 = .ok (.aload_n 1, 1) := by decide +kernel
theorem d_VA_init3_35 : decode c_VA_init3 35 = .ok (.getfield 31, 3) := by decide +kernel
theorem d_VA_init3_38 : decode c_VA_init3 38 = .ok (.putfield 31, 3) := by decide +kernel
theorem d_VA_init3_41 : decode c_VA_init3 41 = .ok (.aload_n 0, 1) := by decide +kernel
theorem d_VA_init3_42 : decode c_VA_init3 42 = .ok (.aload_n 1, 1) := by decide +kernel
theorem d_VA_init3_43 : decode c_VA_init3 43 = .ok (.getfield 35, 3) := by decide +kernel
theorem d_VA_init3_46 : decode c_VA_init3 46 = .ok (.putfield 35, 3) := by decide +kernel
theorem d_VA_init3_49 : decode c_VA_init3 49 = .ok (.aload_n 0, 1) := by decide +kernel
theorem d_VA_init3_50 : decode c_VA_init3 50 = .ok (.aload_n 1, 1) := by decide +kernel
theorem d_VA_init3_51 : decode c_VA_init3 51 = .ok (.getfield 38, 3) := by decide +kernel
theorem d_VA_init3_54 : decode c_VA_init3 54 = .ok (.putfield 38, 3) := by decide +kernel
theorem d_VA_init3_57 : decode c_VA_init3 57 = .ok (.return_, 1) := by decide +kernel
def ws_VA_init3 : List Cond := .code y_VA_init3 c_VA_init3 3 none :: TBL
theorem d_AL_add_0 : decode c_AL_add 0 = .ok (.aload_n 0, 1) := by decide +kernel
theorem d_AL_add_1 : decode c_AL_add 1 = .ok (.dup, 1) := by decide +kernel
theorem d_AL_add_2 : decode c_AL_add 2 = .ok (.getfield 63, 3) := by decide +kernel
theorem d_AL_add_5 : decode c_AL_add 5 = .ok (.iconst 1, 1) := by decide +kernel
theorem d_AL_add_6 : decode c_AL_add 6 = .ok (.iadd, 1) := by decide +kernel
theorem d_AL_add_7 : decode c_AL_add 7 = .ok (.putfield 63, 3) := by decide +kernel
theorem d_AL_add_10 : decode c_AL_add 10 = .ok (.aload_n 0, 1) := by decide +kernel
theorem d_AL_add_11 : decode c_AL_add 11 = .ok (.aload_n 1, 1) := by decide +kernel
theorem d_AL_add_12 : decode c_AL_add 12 = .ok (.aload_n 0, 1) := by decide +kernel
theorem d_AL_add_13 : decode c_AL_add 13 = .ok (.getfield 9, 3) := by decide +kernel
theorem d_AL_add_16 : decode c_AL_add 16 = .ok (.aload_n 0, 1) := by decide +kernel
theorem d_AL_add_17 : decode c_AL_add 17 = .ok (.getfield 48, 3) := by decide +kernel
theorem d_AL_add_20 : decode c_AL_add 20 = .ok (.invokevirtual 131, 3) := by decide +kernel
theorem d_AL_add_23 : decode c_AL_add 23 = .ok (.iconst 1, 1) := by decide +kernel
theorem d_AL_add_24 : decode c_AL_add 24 = .ok (.ireturn, 1) := by decide +kernel
def ws_AL_add : List Cond := .code y_AL_add c_AL_add 2 (some .boolean) :: TBL
theorem d_AL_add2_0 : decode c_AL_add2 0 = .ok (.iload_n 3, 1) := by decide +kernel
theorem d_AL_add2_1 : decode c_AL_add2 1 = .ok (.aload_n 2, 1) := by decide +kernel
theorem d_AL_add2_2 : decode c_AL_add2 2 = .ok (.arraylength, 1) := by decide +kernel
theorem d_AL_add2_3 : decode c_AL_add2 3 = .ok (.if_icmp .ne 8, 3) := by decide +kernel
theorem d_AL_add2_6 : decode c_AL_add2 6 = .ok (.aload_n 0, 1) := by decide +kernel
theorem d_AL_add2_7 : decode c_AL_add2 7 = .ok (.invokevirtual 129, 3) := by decide +kernel
theorem d_AL_add2_10 : decode c_AL_add2 10 = .ok (.astore_n 2, 1) := by decide +kernel
theorem d_AL_add2_11 : decode c_AL_add2 11 = .ok (.aload_n 2, 1) := by decide +kernel
theorem d_AL_add2_12 : decode c_AL_add2 12 = .ok (.iload_n 3, 1) := by decide +kernel
theorem d_AL_add2_13 : decode c_AL_add2 13 = .ok (.aload_n 1, 1) := by decide +kernel
theorem d_AL_add2_14 : decode c_AL_add2 14 = .ok (.aastore, 1) := by decide +kernel
theorem d_AL_add2_15 : decode c_AL_add2 15 = .ok (.aload_n 0, 1) := by decide +kernel
theorem d_AL_add2_16 : decode c_AL_add2 16 = .ok (.iload_n 3, 1) := by decide +kernel
theorem d_AL_add2_17 : decode c_AL_add2 17 = .ok (.iconst 1, 1) := by decide +kernel
theorem d_AL_add2_18 : decode c_AL_add2 18 = .ok (.iadd, 1) := by decide +kernel
theorem d_AL_add2_19 : decode c_AL_add2 19 = .ok (.putfield 48, 3) := by decide +kernel
theorem d_AL_add2_22 : decode c_AL_add2 22 = .ok (.return_, 1) := by decide +kernel
def ws_AL_add2 : List Cond := .code y_AL_add2 c_AL_add2 4 none :: TBL
theorem d_AL_grow_0 : decode c_AL_grow 0 = .ok (.aload_n 0, 1) := by decide +kernel
theorem d_AL_grow_1 : decode c_AL_grow 1 = .ok (.aload_n 0, 1) := by decide +kernel
theorem d_AL_grow_2 : decode c_AL_grow 2 = .ok (.getfield 48, 3) := by decide +kernel
theorem d_AL_grow_5 : decode c_AL_grow 5 = .ok (.iconst 1, 1) := by decide +kernel
theorem d_AL_grow_6 : decode c_AL_grow 6 = .ok (.iadd, 1) := by decide +kernel
theorem d_AL_grow_7 : decode c_AL_grow 7 = .ok (.invokevirtual 69, 3) := by decide +kernel
theorem d_AL_grow_10 : decode c_AL_grow 10 = .ok (.areturn, 1) := by decide +kernel
def ws_AL_grow : List Cond := .code y_AL_grow c_AL_grow 1 (some (.array (.object "java/lang/Object"))) :: TBL
theorem d_AL_grow2_0 : decode c_AL_grow2 0 = .ok (.aload_n 0, 1) := by decide +kernel
theorem d_AL_grow2_1 : decode c_AL_grow2 1 = .ok (.getfield 9, 3) := by decide +kernel
theorem d_AL_grow2_4 : decode c_AL_grow2 4 = .ok (.arraylength, 1) := by decide +kernel
theorem d_AL_grow2_5 : decode c_AL_grow2 5 = .ok (.istore_n 2, 1) := by decide +kernel
theorem d_AL_grow2_6 : decode c_AL_grow2 6 = .ok (.iload_n 2, 1) := by decide +kernel
theorem d_AL_grow2_7 : decode c_AL_grow2 7 = .ok (.ifCond .gt 13, 3) := by decide +kernel
theorem d_AL_grow2_10 : decode c_AL_grow2 10 = .ok (.aload_n 0, 1) := by decide +kernel
theorem d_AL_grow2_11 : decode c_AL_grow2 11 = .ok (.getfield 9, 3) := by decide +kernel
theorem d_AL_grow2_14 : decode c_AL_grow2 14 = .ok (.getstatic 39, 3) := by decide +kernel
theorem d_AL_grow2_17 : decode c_AL_grow2 17 = .ok (.if_acmp .eq 28, 3) := by decide +kernel
theorem d_AL_grow2_20 : decode c_AL_grow2 20 = .ok (.iload_n 2, 1) := by decide +kernel
theorem d_AL_grow2_21 : decode c_AL_grow2 21 = .ok (.iload_n 1, 1) := by decide +kernel
theorem d_AL_grow2_22 : decode c_AL_grow2 22 = .ok (.iload_n 2, 1) := by decide +kernel
theorem d_AL_grow2_23 : decode c_AL_grow2 23 = .ok (.isub, 1) := by decide +kernel
theorem d_AL_grow2_24 : decode c_AL_grow2 24 = .ok (.iload_n 2, 1) := by decide +kernel
theorem d_AL_grow2_25 : decode c_AL_grow2 25 = .ok (.iconst 1, 1) := by decide +kernel
theorem d_AL_grow2_26 : decode c_AL_grow2 26 = .ok (.ishr, 1) := by decide +kernel
theorem d_AL_grow2_27 : decode c_AL_grow2 27 = .ok (.invokestatic 73, 3) := by decide +kernel
theorem d_AL_grow2_30 : decode c_AL_grow2 30 = .ok (.istore_n 3, 1) := by decide +kernel
theorem d_AL_grow2_31 : decode c_AL_grow2 31 = .ok (.aload_n 0, 1) := by decide +kernel
theorem d_AL_grow2_32 : decode c_AL_grow2 32 = .ok (.aload_n 0, 1) := by decide +kernel
theorem d_AL_grow2_33 : decode c_AL_grow2 33 = .ok (.getfield 9, 3) := by decide +kernel
theorem d_AL_grow2_36 : decode c_AL_grow2 36 = .ok (.iload_n 3, 1) := by decide +kernel
theorem d_AL_grow2_37 : decode c_AL_grow2 37 = .ok (.invokestatic 66, 3) := by decide +kernel
theorem d_AL_grow2_40 : decode c_AL_grow2 40 = .ok (.dup_x1, 1) := by decide +kernel
theorem d_AL_grow2_41 : decode c_AL_grow2 41 = .ok (.putfield 9, 3) := by decide +kernel
theorem d_AL_grow2_44 : decode c_AL_grow2 44 = .ok (.areturn, 1) := by decide +kernel
theorem d_AL_grow2_45 : decode c_AL_grow2 45 = .ok (.aload_n 0, 1) := by decide +kernel
theorem d_AL_grow2_46 : decode c_AL_grow2 46 = .ok (.bipush 10, 2) := by decide +kernel
theorem d_AL_grow2_48 : decode c_AL_grow2 48 = .ok (.iload_n 1, 1) := by decide +kernel
theorem d_AL_grow2_49 : decode c_AL_grow2 49 = .ok (.invokestatic 79, 3) := by decide +kernel
theorem d_AL_grow2_52 : decode c_AL_grow2 52 = .ok (.anewarray 7, 3) := by decide +kernel
theorem d_AL_grow2_55 : decode c_AL_grow2 55 = .ok (.dup_x1, 1) := by decide +kernel
theorem d_AL_grow2_56 : decode c_AL_grow2 56 = .ok (.putfield 9, 3) := by decide +kernel
theorem d_AL_grow2_59 : decode c_AL_grow2 59 = .ok (.areturn, 1) := by decide +kernel
def ws_AL_grow2 : List Cond := .code y_AL_grow2 c_AL_grow2 4 (some (.array (.object "java/lang/Object"))) :: TBL
theorem d_AR_copyOf2_0 : decode c_AR_copyOf2 0 = .ok (.aload_n 0, 1) := by decide +kernel
theorem d_AR_copyOf2_1 : decode c_AR_copyOf2 1 = .ok (.iload_n 1, 1) := by decide +kernel
theorem d_AR_copyOf2_2 : decode c_AR_copyOf2 2 = .ok (.aload_n 0, 1) := by decide +kernel
theorem d_AR_copyOf2_3 : decode c_AR_copyOf2 3 = .ok (.invokevirtual 86, 3) := by decide +kernel
theorem d_AR_copyOf2_6 : decode c_AR_copyOf2 6 = .ok (.invokestatic 300, 3) := by decide +kernel
theorem d_AR_copyOf2_9 : decode c_AR_copyOf2 9 = .ok (.areturn, 1) := by decide +kernel
def ws_AR_copyOf2 : List Cond := .code y_AR_copyOf2 c_AR_copyOf2 2 (some (.array (.object "java/lang/Object"))) :: TBL
theorem d_AR_copyOf3_0 : decode c_AR_copyOf3 0 = .ok (.aload_n 2, 1) := by decide +kernel
theorem d_AR_copyOf3_1 : decode c_AR_copyOf3 1 = .ok (.ldc 110, 2) := by decide +kernel
theorem d_AR_copyOf3_3 : decode c_AR_copyOf3 3 = .ok (.if_acmp .ne 10, 3) := by decide +kernel
theorem d_AR_copyOf3_6 : decode c_AR_copyOf3 6 = .ok (.iload_n 1, 1) := by decide +kernel
theorem d_AR_copyOf3_7 : decode c_AR_copyOf3 7 = .ok (.anewarray 2, 3) := by decide +kernel
theorem d_AR_copyOf3_10 : decode c_AR_copyOf3 10 = .ok (.goto 14, 3) := by decide +kernel
theorem d_AR_copyOf3_13 : decode c_AR_copyOf3 13 = .ok (.aload_n 2, 1) := by decide +kernel
theorem d_AR_copyOf3_14 : decode c_AR_copyOf3 14 = .ok (.invokevirtual 90, 3) := by decide +kernel
theorem d_AR_copyOf3_17 : decode c_AR_copyOf3 17 = .ok (.iload_n 1, 1) := by decide +kernel
theorem d_AR_copyOf3_18 : decode c_AR_copyOf3 18 = .ok (.invokestatic 95, 3) := by decide +kernel
theorem d_AR_copyOf3_21 : decode c_AR_copyOf3 21 = .ok (.checkcast 110, 3) := by decide +kernel
theorem d_AR_copyOf3_24 : decode c_AR_copyOf3 24 = .ok (.astore_n 3, 1) := by decide +kernel
theorem d_AR_copyOf3_25 : decode c_AR_copyOf3 25 = .ok (.aload_n 0, 1) := by decide +kernel
theorem d_AR_copyOf3_26 : decode c_AR_copyOf3 26 = .ok (.iconst 0, 1) := by decide +kernel
theorem d_AR_copyOf3_27 : decode c_AR_copyOf3 27 = .ok (.aload_n 3, 1) := by decide +kernel
theorem d_AR_copyOf3_28 : decode c_AR_copyOf3 28 = .ok (.iconst 0, 1) := by decide +kernel
theorem d_AR_copyOf3_29 : decode c_AR_copyOf3 29 = .ok (.aload_n 0, 1) := by decide +kernel
theorem d_AR_copyOf3_30 : decode c_AR_copyOf3 30 = .ok (.arraylength, 1) := by decide +kernel
theorem d_AR_copyOf3_31 : decode c_AR_copyOf3 31 = .ok (.iload_n 1, 1) := by decide +kernel
theorem d_AR_copyOf3_32 : decode c_AR_copyOf3 32 = .ok (.invokestatic 304, 3) := by decide +kernel
theorem d_AR_copyOf3_35 : decode c_AR_copyOf3 35 = .ok (.invokestatic 150, 3) := by decide +kernel
theorem d_AR_copyOf3_38 : decode c_AR_copyOf3 38 = .ok (.aload_n 3, 1) := by decide +kernel
theorem d_AR_copyOf3_39 : decode c_AR_copyOf3 39 = .ok (.areturn, 1) := by decide +kernel
def ws_AR_copyOf3 : List Cond := .code y_AR_copyOf3 c_AR_copyOf3 4 (some (.array (.object "java/lang/Object"))) :: TBL
theorem d_PS_patch_0 : decode c_PS_patch 0 = .ok (.aload_n 0, 1) := by decide +kernel
theorem d_PS_patch_1 : decode c_PS_patch 1 = .ok (.invokevirtual 46, 3) := by decide +kernel
theorem d_PS_patch_4 : decode c_PS_patch 4 = .ok (.astore_n 2, 1) := by decide +kernel
theorem d_PS_patch_5 : decode c_PS_patch 5 = .ok (.aload_n 0, 1) := by decide +kernel
theorem d_PS_patch_6 : decode c_PS_patch 6 = .ok (.iload_n 1, 1) := by decide +kernel
theorem d_PS_patch_7 : decode c_PS_patch 7 = .ok (.invokevirtual 65, 3) := by decide +kernel
theorem d_PS_patch_10 : decode c_PS_patch 10 = .ok (.astore_n 3, 1) := by decide +kernel
theorem d_PS_patch_11 : decode c_PS_patch 11 = .ok (.aload_n 3, 1) := by decide +kernel
theorem d_PS_patch_12 : decode c_PS_patch 12 = .ok (.ifnonnull 5, 3) := by decide +kernel
theorem d_PS_patch_15 : decode c_PS_patch 15 = .ok (.iconst (-1), 1) := by decide +kernel
theorem d_PS_patch_16 : decode c_PS_patch 16 = .ok (.ireturn, 1) := by decide +kernel
theorem d_PS_patch_17 : decode c_PS_patch 17 = .ok (.new 50, 3) := by decide +kernel
theorem d_PS_patch_20 : decode c_PS_patch 20 = .ok (.dup, 1) := by decide +kernel
theorem d_PS_patch_21 : decode c_PS_patch 21 = .ok (.aload_n 2, 1) := by decide +kernel
theorem d_PS_patch_22 : decode c_PS_patch 22 = .ok (.aload_n 0, 1) := by decide +kernel
theorem d_PS_patch_23 : decode c_PS_patch 23 = .ok (.getfield 40, 3) := by decide +kernel
theorem d_PS_patch_26 : decode c_PS_patch 26 = .ok (.iconst 2, 1) := by decide +kernel
theorem d_PS_patch_27 : decode c_PS_patch 27 = .ok (.iadd, 1) := by decide +kernel
theorem d_PS_patch_28 : decode c_PS_patch 28 = .ok (.invokespecial 52, 3) := by decide +kernel
theorem d_PS_patch_31 : decode c_PS_patch 31 = .ok (.astore 4, 2) := by decide +kernel
theorem d_PS_patch_33 : decode c_PS_patch 33 = .ok (.aload 4, 2) := by decide +kernel
theorem d_PS_patch_35 : decode c_PS_patch 35 = .ok (.invokevirtual 55, 3) := by decide +kernel
theorem d_PS_patch_38 : decode c_PS_patch 38 = .ok (.astore 5, 2) := by decide +kernel
theorem d_PS_patch_40 : decode c_PS_patch 40 = .ok (.aload 5, 2) := by decide +kernel
theorem d_PS_patch_42 : decode c_PS_patch 42 = .ok (.ifnonnull 9, 3) := by decide +kernel
theorem d_PS_patch_45 : decode c_PS_patch 45 = .ok (.aload 4, 2) := by decide +kernel
theorem d_PS_patch_47 : decode c_PS_patch 47 = .ok (.getfield 59, 3) := by decide +kernel
theorem d_PS_patch_50 : decode c_PS_patch 50 = .ok (.ireturn, 1) := by decide +kernel
theorem d_PS_patch_51 : decode c_PS_patch 51 = .ok (.aload 5, 2) := by decide +kernel
theorem d_PS_patch_53 : decode c_PS_patch 53 = .ok (.aload_n 0, 1) := by decide +kernel
theorem d_PS_patch_54 : decode c_PS_patch 54 = .ok (.getfield 20, 3) := by decide +kernel
theorem d_PS_patch_57 : decode c_PS_patch 57 = .ok (.invokestatic 69, 3) := by decide +kernel
theorem d_PS_patch_60 : decode c_PS_patch 60 = .ok (.astore 6, 2) := by decide +kernel
theorem d_PS_patch_62 : decode c_PS_patch 62 = .ok (.aload 6, 2) := by decide +kernel
theorem d_PS_patch_64 : decode c_PS_patch 64 = .ok (.ifnonnull 5, 3) := by decide +kernel
theorem d_PS_patch_67 : decode c_PS_patch 67 = .ok (.iconst 5, 1) := by decide +kernel
theorem d_PS_patch_68 : decode c_PS_patch 68 = .ok (.ireturn, 1) := by decide +kernel
theorem d_PS_patch_69 : decode c_PS_patch 69 = .ok (.new 75, 3) := by decide +kernel
theorem d_PS_patch_72 : decode c_PS_patch 72 = .ok (.dup, 1) := by decide +kernel
theorem d_PS_patch_73 : decode c_PS_patch 73 = .ok (.aload_n 3, 1) := by decide +kernel
theorem d_PS_patch_74 : decode c_PS_patch 74 = .ok (.aload_n 0, 1) := by decide +kernel
theorem d_PS_patch_75 : decode c_PS_patch 75 = .ok (.getfield 40, 3) := by decide +kernel
theorem d_PS_patch_78 : decode c_PS_patch 78 = .ok (.aload_n 0, 1) := by decide +kernel
theorem d_PS_patch_79 : decode c_PS_patch 79 = .ok (.getfield 43, 3) := by decide +kernel
theorem d_PS_patch_82 : decode c_PS_patch 82 = .ok (.invokespecial 77, 3) := by decide +kernel
theorem d_PS_patch_85 : decode c_PS_patch 85 = .ok (.astore 7, 2) := by decide +kernel
theorem d_PS_patch_87 : decode c_PS_patch 87 = .ok (.aload 7, 2) := by decide +kernel
theorem d_PS_patch_89 : decode c_PS_patch 89 = .ok (.aload 6, 2) := by decide +kernel
theorem d_PS_patch_91 : decode c_PS_patch 91 = .ok (.invokevirtual 80, 3) := by decide +kernel
theorem d_PS_patch_94 : decode c_PS_patch 94 = .ok (.istore 8, 2) := by decide +kernel
theorem d_PS_patch_96 : decode c_PS_patch 96 = .ok (.iload 8, 2) := by decide +kernel
theorem d_PS_patch_98 : decode c_PS_patch 98 = .ok (.ifCond .ne 14, 3) := by decide +kernel
theorem d_PS_patch_101 : decode c_PS_patch 101 = .ok (.aload_n 0, 1) := by decide +kernel
theorem d_PS_patch_102 : decode c_PS_patch 102 = .ok (.getfield 26, 3) := by decide +kernel
theorem d_PS_patch_105 : decode c_PS_patch 105 = .ok (.iload_n 1, 1) := by decide +kernel
theorem d_PS_patch_106 : decode c_PS_patch 106 = .ok (.aload 7, 2) := by decide +kernel
theorem d_PS_patch_108 : decode c_PS_patch 108 = .ok (.getfield 84, 3) := by decide +kernel
theorem d_PS_patch_111 : decode c_PS_patch 111 = .ok (.aastore, 1) := by decide +kernel
theorem d_PS_patch_112 : decode c_PS_patch 112 = .ok (.iload 8, 2) := by decide +kernel
theorem d_PS_patch_114 : decode c_PS_patch 114 = .ok (.ireturn, 1) := by decide +kernel
def ws_PS_patch : List Cond := .code y_PS_patch c_PS_patch 9 (some .int) :: TBL
theorem d_PS_documentAt_0 : decode c_PS_documentAt 0 = .ok (.iload_n 1, 1) := by decide +kernel
theorem d_PS_documentAt_1 : decode c_PS_documentAt 1 = .ok (.ifCond .lt 17, 3) := by decide +kernel
theorem d_PS_documentAt_4 : decode c_PS_documentAt 4 = .ok (.iload_n 1, 1) := by decide +kernel
theorem d_PS_documentAt_5 : decode c_PS_documentAt 5 = .ok (.iconst 3, 1) := by decide +kernel
theorem d_PS_documentAt_6 : decode c_PS_documentAt 6 = .ok (.if_icmp .ge 12, 3) := by decide +kernel
theorem d_PS_documentAt_9 : decode c_PS_documentAt 9 = .ok (.aload_n 0, 1) := by decide +kernel
theorem d_PS_documentAt_10 : decode c_PS_documentAt 10 = .ok (.getfield 26, 3) := by decide +kernel
theorem d_PS_documentAt_13 : decode c_PS_documentAt 13 = .ok (.iload_n 1, 1) := by decide +kernel
theorem d_PS_documentAt_14 : decode c_PS_documentAt 14 = .ok (.aaload, 1) := by decide +kernel
theorem d_PS_documentAt_15 : decode c_PS_documentAt 15 = .ok (.goto 4, 3) := by decide +kernel
theorem d_PS_documentAt_18 : decode c_PS_documentAt 18 = .ok (.aconst_null, 1) := by decide +kernel
theorem d_PS_documentAt_19 : decode c_PS_documentAt 19 = .ok (.areturn, 1) := by decide +kernel
def ws_PS_documentAt : List Cond := .code y_PS_documentAt c_PS_documentAt 2 (some (.object "PatchStore$Value")) :: TBL
theorem d_OP_allOf_0 : decode c_OP_allOf 0 = .ok (.aload_n 0, 1) := by decide +kernel
theorem d_OP_allOf_1 : decode c_OP_allOf 1 = .ok (.getfield 26, 3) := by decide +kernel
theorem d_OP_allOf_4 : decode c_OP_allOf 4 = .ok (.iconst 3, 1) := by decide +kernel
theorem d_OP_allOf_5 : decode c_OP_allOf 5 = .ok (.if_icmp .eq 5, 3) := by decide +kernel
theorem d_OP_allOf_8 : decode c_OP_allOf 8 = .ok (.aconst_null, 1) := by decide +kernel
theorem d_OP_allOf_9 : decode c_OP_allOf 9 = .ok (.areturn, 1) := by decide +kernel
theorem d_OP_allOf_10 : decode c_OP_allOf 10 = .ok (.new 29, 3) := by decide +kernel
theorem d_OP_allOf_13 : decode c_OP_allOf 13 = .ok (.dup, 1) := by decide +kernel
theorem d_OP_allOf_14 : decode c_OP_allOf 14 = .ok (.invokespecial 31, 3) := by decide +kernel
theorem d_OP_allOf_17 : decode c_OP_allOf 17 = .ok (.astore_n 2, 1) := by decide +kernel
theorem d_OP_allOf_18 : decode c_OP_allOf 18 = .ok (.iconst 0, 1) := by decide +kernel
theorem d_OP_allOf_19 : decode c_OP_allOf 19 = .ok (.istore_n 3, 1) := by decide +kernel
theorem d_OP_allOf_20 : decode c_OP_allOf 20 = .ok (.iload_n 3, 1) := by decide +kernel
theorem d_OP_allOf_21 : decode c_OP_allOf 21 = .ok (.aload_n 0, 1) := by decide +kernel
theorem d_OP_allOf_22 : decode c_OP_allOf 22 = .ok (.getfield 32, 3) := by decide +kernel
theorem d_OP_allOf_25 : decode c_OP_allOf 25 = .ok (.invokevirtual 36, 3) := by decide +kernel
theorem d_OP_allOf_28 : decode c_OP_allOf 28 = .ok (.if_icmp .ge 40, 3) := by decide +kernel
theorem d_OP_allOf_31 : decode c_OP_allOf 31 = .ok (.aload_n 0, 1) := by decide +kernel
theorem d_OP_allOf_32 : decode c_OP_allOf 32 = .ok (.getfield 32, 3) := by decide +kernel
theorem d_OP_allOf_35 : decode c_OP_allOf 35 = .ok (.iload_n 3, 1) := by decide +kernel
theorem d_OP_allOf_36 : decode c_OP_allOf 36 = .ok (.invokevirtual 40, 3) := by decide +kernel
theorem d_OP_allOf_39 : decode c_OP_allOf 39 = .ok (.checkcast 27, 3) := by decide +kernel
theorem d_OP_allOf_42 : decode c_OP_allOf 42 = .ok (.aload_n 1, 1) := by decide +kernel
theorem d_OP_allOf_43 : decode c_OP_allOf 43 = .ok (.invokestatic 44, 3) := by decide +kernel
theorem d_OP_allOf_46 : decode c_OP_allOf 46 = .ok (.astore 4, 2) := by decide +kernel
theorem d_OP_allOf_48 : decode c_OP_allOf 48 = .ok (.aload 4, 2) := by decide +kernel
theorem d_OP_allOf_50 : decode c_OP_allOf 50 = .ok (.ifnonnull 5, 3) := by decide +kernel
theorem d_OP_allOf_53 : decode c_OP_allOf 53 = .ok (.aconst_null, 1) := by decide +kernel
theorem d_OP_allOf_54 : decode c_OP_allOf 54 = .ok (.areturn, 1) := by decide +kernel
theorem d_OP_allOf_55 : decode c_OP_allOf 55 = .ok (.aload_n 2, 1) := by decide +kernel
theorem d_OP_allOf_56 : decode c_OP_allOf 56 = .ok (.aload 4, 2) := by decide +kernel
theorem d_OP_allOf_58 : decode c_OP_allOf 58 = .ok (.invokevirtual 48, 3) := by decide +kernel
theorem d_OP_allOf_61 : decode c_OP_allOf 61 = .ok (.pop, 1) := by decide +kernel
theorem d_OP_allOf_62 : decode c_OP_allOf 62 = .ok (.iinc 3 1, 3) := by decide +kernel
theorem d_OP_allOf_65 : decode c_OP_allOf 65 = .ok (.goto (-45), 3) := by decide +kernel
theorem d_OP_allOf_68 : decode c_OP_allOf 68 = .ok (.aload_n 2, 1) := by decide +kernel
theorem d_OP_allOf_69 : decode c_OP_allOf 69 = .ok (.areturn, 1) := by decide +kernel
def ws_OP_allOf : List Cond := .code y_OP_allOf c_OP_allOf 5 (some (.object "java/util/ArrayList")) :: TBL
theorem d_OP_of_0 : decode c_OP_of 0 = .ok (.aload_n 0, 1) := by decide +kernel
theorem d_OP_of_1 : decode c_OP_of 1 = .ok (.ldc 52, 2) := by decide +kernel
theorem d_OP_of_3 : decode c_OP_of 3 = .ok (.invokevirtual 54, 3) := by decide +kernel
theorem d_OP_of_6 : decode c_OP_of 6 = .ok (.invokestatic 58, 3) := by decide +kernel
theorem d_OP_of_9 : decode c_OP_of 9 = .ok (.istore_n 2, 1) := by decide +kernel
theorem d_OP_of_10 : decode c_OP_of 10 = .ok (.aload_n 0, 1) := by decide +kernel
theorem d_OP_of_11 : decode c_OP_of 11 = .ok (.ldc 62, 2) := by decide +kernel
theorem d_OP_of_13 : decode c_OP_of 13 = .ok (.invokevirtual 54, 3) := by decide +kernel
theorem d_OP_of_16 : decode c_OP_of 16 = .ok (.aload_n 1, 1) := by decide +kernel
theorem d_OP_of_17 : decode c_OP_of 17 = .ok (.invokestatic 63, 3) := by decide +kernel
theorem d_OP_of_20 : decode c_OP_of 20 = .ok (.astore_n 3, 1) := by decide +kernel
theorem d_OP_of_21 : decode c_OP_of 21 = .ok (.iload_n 2, 1) := by decide +kernel
theorem d_OP_of_22 : decode c_OP_of 22 = .ok (.iconst (-1), 1) := by decide +kernel
theorem d_OP_of_23 : decode c_OP_of 23 = .ok (.if_icmp .eq 7, 3) := by decide +kernel
theorem d_OP_of_26 : decode c_OP_of 26 = .ok (.aload_n 3, 1) := by decide +kernel
theorem d_OP_of_27 : decode c_OP_of 27 = .ok (.ifnonnull 5, 3) := by decide +kernel
theorem d_OP_of_30 : decode c_OP_of 30 = .ok (.aconst_null, 1) := by decide +kernel
theorem d_OP_of_31 : decode c_OP_of 31 = .ok (.areturn, 1) := by decide +kernel
theorem d_OP_of_32 : decode c_OP_of 32 = .ok (.iload_n 2, 1) := by decide +kernel
theorem d_OP_of_33 : decode c_OP_of 33 = .ok (.iconst 4, 1) := by decide +kernel
theorem d_OP_of_34 : decode c_OP_of 34 = .ok (.if_icmp .eq 8, 3) := by decide +kernel
theorem d_OP_of_37 : decode c_OP_of 37 = .ok (.iload_n 2, 1) := by decide +kernel
theorem d_OP_of_38 : decode c_OP_of 38 = .ok (.iconst 5, 1) := by decide +kernel
theorem d_OP_of_39 : decode c_OP_of 39 = .ok (.if_icmp .ne 37, 3) := by decide +kernel
theorem d_OP_of_42 : decode c_OP_of 42 = .ok (.aload_n 0, 1) := by decide +kernel
theorem d_OP_of_43 : decode c_OP_of 43 = .ok (.ldc 68, 2) := by decide +kernel
theorem d_OP_of_45 : decode c_OP_of 45 = .ok (.invokevirtual 54, 3) := by decide +kernel
theorem d_OP_of_48 : decode c_OP_of 48 = .ok (.aload_n 1, 1) := by decide +kernel
theorem d_OP_of_49 : decode c_OP_of 49 = .ok (.invokestatic 63, 3) := by decide +kernel
theorem d_OP_of_52 : decode c_OP_of 52 = .ok (.astore 4, 2) := by decide +kernel
theorem d_OP_of_54 : decode c_OP_of 54 = .ok (.aload 4, 2) := by decide +kernel
theorem d_OP_of_56 : decode c_OP_of 56 = .ok (.ifnonnull 7, 3) := by decide +kernel
theorem d_OP_of_59 : decode c_OP_of 59 = .ok (.aconst_null, 1) := by decide +kernel
theorem d_OP_of_60 : decode c_OP_of 60 = .ok (.goto 15, 3) := by decide +kernel
theorem d_OP_of_63 : decode c_OP_of 63 = .ok (.new 10, 3) := by decide +kernel
theorem d_OP_of_66 : decode c_OP_of 66 = .ok (.dup, 1) := by decide +kernel
theorem d_OP_of_67 : decode c_OP_of 67 = .ok (.iload_n 2, 1) := by decide +kernel
theorem d_OP_of_68 : decode c_OP_of 68 = .ok (.aload_n 3, 1) := by decide +kernel
theorem d_OP_of_69 : decode c_OP_of 69 = .ok (.aload 4, 2) := by decide +kernel
theorem d_OP_of_71 : decode c_OP_of 71 = .ok (.aconst_null, 1) := by decide +kernel
theorem d_OP_of_72 : decode c_OP_of 72 = .ok (.invokespecial 69, 3) := by decide +kernel
theorem d_OP_of_75 : decode c_OP_of 75 = .ok (.areturn, 1) := by decide +kernel
theorem d_OP_of_76 : decode c_OP_of 76 = .ok (.iload_n 2, 1) := by decide +kernel
theorem d_OP_of_77 : decode c_OP_of 77 = .ok (.iconst 2, 1) := by decide +kernel
theorem d_OP_of_78 : decode c_OP_of 78 = .ok (.if_icmp .ne 15, 3) := by decide +kernel
theorem d_OP_of_81 : decode c_OP_of 81 = .ok (.new 10, 3) := by decide +kernel
theorem d_OP_of_84 : decode c_OP_of 84 = .ok (.dup, 1) := by decide +kernel
theorem d_OP_of_85 : decode c_OP_of 85 = .ok (.iload_n 2, 1) := by decide +kernel
theorem d_OP_of_86 : decode c_OP_of 86 = .ok (.aload_n 3, 1) := by decide +kernel
theorem d_OP_of_87 : decode c_OP_of 87 = .ok (.aconst_null, 1) := by decide +kernel
theorem d_OP_of_88 : decode c_OP_of 88 = .ok (.aconst_null, 1) := by decide +kernel
theorem d_OP_of_89 : decode c_OP_of 89 = .ok (.invokespecial 69, 3) := by decide +kernel
theorem d_OP_of_92 : decode c_OP_of 92 = .ok (.areturn, 1) := by decide +kernel
theorem d_OP_of_93 : decode c_OP_of 93 = .ok (.aload_n 0, 1) := by decide +kernel
theorem d_OP_of_94 : decode c_OP_of 94 = .ok (.ldc 72, 2) := by decide +kernel
theorem d_OP_of_96 : decode c_OP_of 96 = .ok (.invokevirtual 54, 3) := by decide +kernel
theorem d_OP_of_99 : decode c_OP_of 99 = .ok (.astore 4, 2) := by decide +kernel
theorem d_OP_of_101 : decode c_OP_of 101 = .ok (.aload 4, 2) := by decide +kernel
theorem d_OP_of_103 : decode c_OP_of 103 = .ok (.ifnonnull 7, 3) := by decide +kernel
theorem d_OP_of_106 : decode c_OP_of 106 = .ok (.aconst_null, 1) := by decide +kernel
theorem d_OP_of_107 : decode c_OP_of 107 = .ok (.goto 15, 3) := by decide +kernel
theorem d_OP_of_110 : decode c_OP_of 110 = .ok (.new 10, 3) := by decide +kernel
theorem d_OP_of_113 : decode c_OP_of 113 = .ok (.dup, 1) := by decide +kernel
theorem d_OP_of_114 : decode c_OP_of 114 = .ok (.iload_n 2, 1) := by decide +kernel
theorem d_OP_of_115 : decode c_OP_of 115 = .ok (.aload_n 3, 1) := by decide +kernel
theorem d_OP_of_116 : decode c_OP_of 116 = .ok (.aconst_null, 1) := by decide +kernel
theorem d_OP_of_117 : decode c_OP_of 117 = .ok (.aload 4, 2) := by decide +kernel
theorem d_OP_of_119 : decode c_OP_of 119 = .ok (.invokespecial 69, 3) := by decide +kernel
theorem d_OP_of_122 : decode c_OP_of 122 = .ok (.areturn, 1) := by decide +kernel
def ws_OP_of : List Cond := .code y_OP_of c_OP_of 5 (some (.object "PatchStore$Operation")) :: TBL
theorem d_VA_member_0 : decode c_VA_member 0 = .ok (.aload_n 0, 1) := by decide +kernel
theorem d_VA_member_1 : decode c_VA_member 1 = .ok (.aload_n 1, 1) := by decide +kernel
theorem d_VA_member_2 : decode c_VA_member 2 = .ok (.invokevirtual 64, 3) := by decide +kernel
theorem d_VA_member_5 : decode c_VA_member 5 = .ok (.istore_n 2, 1) := by decide +kernel
theorem d_VA_member_6 : decode c_VA_member 6 = .ok (.iload_n 2, 1) := by decide +kernel
theorem d_VA_member_7 : decode c_VA_member 7 = .ok (.ifCond .ge 7, 3) := by decide +kernel
theorem d_VA_member_10 : decode c_VA_member 10 = .ok (.aconst_null, 1) := by decide +kernel
theorem d_VA_member_11 : decode c_VA_member 11 = .ok (.goto 14, 3) := by decide +kernel
theorem d_VA_member_14 : decode c_VA_member 14 = .ok (.aload_n 0, 1) := by decide +kernel
theorem d_VA_member_15 : decode c_VA_member 15 = .ok (.getfield 31, 3) := by decide +kernel
theorem d_VA_member_18 : decode c_VA_member 18 = .ok (.iload_n 2, 1) := by decide +kernel
theorem d_VA_member_19 : decode c_VA_member 19 = .ok (.invokevirtual 45, 3) := by decide +kernel
theorem d_VA_member_22 : decode c_VA_member 22 = .ok (.checkcast 10, 3) := by decide +kernel
theorem d_VA_member_25 : decode c_VA_member 25 = .ok (.areturn, 1) := by decide +kernel
def ws_VA_member : List Cond := .code y_VA_member c_VA_member 3 (some (.object "PatchStore$Value")) :: TBL
theorem d_VA_placeOfMember_0 : decode c_VA_placeOfMember 0 = .ok (.aload_n 0, 1) := by decide +kernel
theorem d_VA_placeOfMember_1 : decode c_VA_placeOfMember 1 = .ok (.getfield 9, 3) := by decide +kernel
theorem d_VA_placeOfMember_4 : decode c_VA_placeOfMember 4 = .ok (.iconst 4, 1) := by decide +kernel
theorem d_VA_placeOfMember_5 : decode c_VA_placeOfMember 5 = .ok (.if_icmp .eq 5, 3) := by decide +kernel
theorem d_VA_placeOfMember_8 : decode c_VA_placeOfMember 8 = .ok (.iconst (-1), 1) := by decide +kernel
theorem d_VA_placeOfMember_9 : decode c_VA_placeOfMember 9 = .ok (.ireturn, 1) := by decide +kernel
theorem d_VA_placeOfMember_10 : decode c_VA_placeOfMember 10 = .ok (.iconst 0, 1) := by decide +kernel
theorem d_VA_placeOfMember_11 : decode c_VA_placeOfMember 11 = .ok (.istore_n 2, 1) := by decide +kernel
theorem d_VA_placeOfMember_12 : decode c_VA_placeOfMember 12 = .ok (.iload_n 2, 1) := by decide +kernel
theorem d_VA_placeOfMember_13 : decode c_VA_placeOfMember 13 = .ok (.aload_n 0, 1) := by decide +kernel
theorem d_VA_placeOfMember_14 : decode c_VA_placeOfMember 14 = .ok (.getfield 31, 3) := by decide +kernel
theorem d_VA_placeOfMember_17 : decode c_VA_placeOfMember 17 = .ok (.invokevirtual 41, 3) := by decide +kernel
theorem d_VA_placeOfMember_20 : decode c_VA_placeOfMember 20 = .ok (.if_icmp .ge 32, 3) := by decide +kernel
theorem d_VA_placeOfMember_23 : decode c_VA_placeOfMember 23 = .ok (.aload_n 0, 1) := by decide +kernel
theorem d_VA_placeOfMember_24 : decode c_VA_placeOfMember 24 = .ok (.getfield 31, 3) := by decide +kernel
theorem d_VA_placeOfMember_27 : decode c_VA_placeOfMember 27 = .ok (.iload_n 2, 1) := by decide +kernel
theorem d_VA_placeOfMember_28 : decode c_VA_placeOfMember 28 = .ok (.invokevirtual 45, 3) := by decide +kernel
theorem d_VA_placeOfMember_31 : decode c_VA_placeOfMember 31 = .ok (.checkcast 10, 3) := by decide +kernel
theorem d_VA_placeOfMember_34 : decode c_VA_placeOfMember 34 = .ok (.getfield 25, 3) := by decide +kernel
theorem d_VA_placeOfMember_37 : decode c_VA_placeOfMember 37 = .ok (.aload_n 1, 1) := by decide +kernel
theorem d_VA_placeOfMember_38 : decode c_VA_placeOfMember 38 = .ok (.invokevirtual 58, 3) := by decide +kernel
theorem d_VA_placeOfMember_41 : decode c_VA_placeOfMember 41 = .ok (.ifCond .eq 5, 3) := by decide +kernel
theorem d_VA_placeOfMember_44 : decode c_VA_placeOfMember 44 = .ok (.iload_n 2, 1) := by decide +kernel
theorem d_VA_placeOfMember_45 : decode c_VA_placeOfMember 45 = .ok (.ireturn, 1) := by decide +kernel
theorem d_VA_placeOfMember_46 : decode c_VA_placeOfMember 46 = .ok (.iinc 2 1, 3) := by decide +kernel
theorem d_VA_placeOfMember_49 : decode c_VA_placeOfMember 49 = .ok (.goto (-37), 3) := by decide +kernel
theorem d_VA_placeOfMember_52 : decode c_VA_placeOfMember 52 = .ok (.iconst (-1), 1) := by decide +kernel
theorem d_VA_placeOfMember_53 : decode c_VA_placeOfMember 53 = .ok (.ireturn, 1) := by decide +kernel
def ws_VA_placeOfMember : List Cond := .code y_VA_placeOfMember c_VA_placeOfMember 3 (some .int) :: TBL
theorem d_OP_kindOf_0 : decode c_OP_kindOf 0 = .ok (.aload_n 0, 1) := by decide +kernel
theorem d_OP_kindOf_1 : decode c_OP_kindOf 1 = .ok (.ifnull 11, 3) := by decide +kernel
theorem d_OP_kindOf_4 : decode c_OP_kindOf 4 = .ok (.aload_n 0, 1) := by decide +kernel
theorem d_OP_kindOf_5 : decode c_OP_kindOf 5 = .ok (.getfield 26, 3) := by decide +kernel
theorem d_OP_kindOf_8 : decode c_OP_kindOf 8 = .ok (.iconst 2, 1) := by decide +kernel
theorem d_OP_kindOf_9 : decode c_OP_kindOf 9 = .ok (.if_icmp .eq 5, 3) := by decide +kernel
theorem d_OP_kindOf_12 : decode c_OP_kindOf 12 = .ok (.iconst (-1), 1) := by decide +kernel
theorem d_OP_kindOf_13 : decode c_OP_kindOf 13 = .ok (.ireturn, 1) := by decide +kernel
theorem d_OP_kindOf_14 : decode c_OP_kindOf 14 = .ok (.aload_n 0, 1) := by decide +kernel
theorem d_OP_kindOf_15 : decode c_OP_kindOf 15 = .ok (.getfield 73, 3) := by decide +kernel
theorem d_OP_kindOf_18 : decode c_OP_kindOf 18 = .ok (.ldc 77, 2) := by decide +kernel
theorem d_OP_kindOf_20 : decode c_OP_kindOf 20 = .ok (.invokevirtual 78, 3) := by decide +kernel
theorem d_OP_kindOf_23 : decode c_OP_kindOf 23 = .ok (.ifCond .eq 5, 3) := by decide +kernel
theorem d_OP_kindOf_26 : decode c_OP_kindOf 26 = .ok (.iconst 1, 1) := by decide +kernel
theorem d_OP_kindOf_27 : decode c_OP_kindOf 27 = .ok (.ireturn, 1) := by decide +kernel
theorem d_OP_kindOf_28 : decode c_OP_kindOf 28 = .ok (.aload_n 0, 1) := by decide +kernel
theorem d_OP_kindOf_29 : decode c_OP_kindOf 29 = .ok (.getfield 73, 3) := by decide +kernel
theorem d_OP_kindOf_32 : decode c_OP_kindOf 32 = .ok (.ldc 83, 2) := by decide +kernel
theorem d_OP_kindOf_34 : decode c_OP_kindOf 34 = .ok (.invokevirtual 78, 3) := by decide +kernel
theorem d_OP_kindOf_37 : decode c_OP_kindOf 37 = .ok (.ifCond .eq 5, 3) := by decide +kernel
theorem d_OP_kindOf_40 : decode c_OP_kindOf 40 = .ok (.iconst 2, 1) := by decide +kernel
theorem d_OP_kindOf_41 : decode c_OP_kindOf 41 = .ok (.ireturn, 1) := by decide +kernel
theorem d_OP_kindOf_42 : decode c_OP_kindOf 42 = .ok (.aload_n 0, 1) := by decide +kernel
theorem d_OP_kindOf_43 : decode c_OP_kindOf 43 = .ok (.getfield 73, 3) := by decide +kernel
theorem d_OP_kindOf_46 : decode c_OP_kindOf 46 = .ok (.ldc 85, 2) := by decide +kernel
theorem d_OP_kindOf_48 : decode c_OP_kindOf 48 = .ok (.invokevirtual 78, 3) := by decide +kernel
theorem d_OP_kindOf_51 : decode c_OP_kindOf 51 = .ok (.ifCond .eq 5, 3) := by decide +kernel
theorem d_OP_kindOf_54 : decode c_OP_kindOf 54 = .ok (.iconst 3, 1) := by decide +kernel
theorem d_OP_kindOf_55 : decode c_OP_kindOf 55 = .ok (.ireturn, 1) := by decide +kernel
theorem d_OP_kindOf_56 : decode c_OP_kindOf 56 = .ok (.aload_n 0, 1) := by decide +kernel
theorem d_OP_kindOf_57 : decode c_OP_kindOf 57 = .ok (.getfield 73, 3) := by decide +kernel
theorem d_OP_kindOf_60 : decode c_OP_kindOf 60 = .ok (.ldc 87, 2) := by decide +kernel
theorem d_OP_kindOf_62 : decode c_OP_kindOf 62 = .ok (.invokevirtual 78, 3) := by decide +kernel
theorem d_OP_kindOf_65 : decode c_OP_kindOf 65 = .ok (.ifCond .eq 5, 3) := by decide +kernel
theorem d_OP_kindOf_68 : decode c_OP_kindOf 68 = .ok (.iconst 4, 1) := by decide +kernel
theorem d_OP_kindOf_69 : decode c_OP_kindOf 69 = .ok (.ireturn, 1) := by decide +kernel
theorem d_OP_kindOf_70 : decode c_OP_kindOf 70 = .ok (.aload_n 0, 1) := by decide +kernel
theorem d_OP_kindOf_71 : decode c_OP_kindOf 71 = .ok (.getfield 73, 3) := by decide +kernel
theorem d_OP_kindOf_74 : decode c_OP_kindOf 74 = .ok (.ldc 89, 2) := by decide +kernel
theorem d_OP_kindOf_76 : decode c_OP_kindOf 76 = .ok (.invokevirtual 78, 3) := by decide +kernel
theorem d_OP_kindOf_79 : decode c_OP_kindOf 79 = .ok (.ifCond .eq 5, 3) := by decide +kernel
theorem d_OP_kindOf_82 : decode c_OP_kindOf 82 = .ok (.iconst 5, 1) := by decide +kernel
theorem d_OP_kindOf_83 : decode c_OP_kindOf 83 = .ok (.ireturn, 1) := by decide +kernel
theorem d_OP_kindOf_84 : decode c_OP_kindOf 84 = .ok (.aload_n 0, 1) := by decide +kernel
theorem d_OP_kindOf_85 : decode c_OP_kindOf 85 = .ok (.getfield 73, 3) := by decide +kernel
theorem d_OP_kindOf_88 : decode c_OP_kindOf 88 = .ok (.ldc 91, 2) := by decide +kernel
theorem d_OP_kindOf_90 : decode c_OP_kindOf 90 = .ok (.invokevirtual 78, 3) := by decide +kernel
theorem d_OP_kindOf_93 : decode c_OP_kindOf 93 = .ok (.ifCond .eq 8, 3) := by decide +kernel
theorem d_OP_kindOf_96 : decode c_OP_kindOf 96 = .ok (.bipush 6, 2) := by decide +kernel
theorem d_OP_kindOf_98 : decode c_OP_kindOf 98 = .ok (.goto 4, 3) := by decide +kernel
theorem d_OP_kindOf_101 : decode c_OP_kindOf 101 = .ok (.iconst (-1), 1) := by decide +kernel
theorem d_OP_kindOf_102 : decode c_OP_kindOf 102 = .ok (.ireturn, 1) := by decide +kernel
def ws_OP_kindOf : List Cond := .code y_OP_kindOf c_OP_kindOf 1 (some .int) :: TBL
