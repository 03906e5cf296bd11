/-! Rows of the program's instructions, written by program (wip/gen/gen_rows.py) -/
section
variable {L : Nat} {xs : Nat → Int32} {d : Nat} {ls st : List Value} {σ : am_S} {Q : Option Value → am_S → Prop}
theorem d132_0 : decode (pg_code 132) 0 = .ok (.new 7, 3) := by decide +kernel
theorem d132_3 : decode (pg_code 132) 3 = .ok (.dup, 1) := by decide +kernel
theorem d132_4 : decode (pg_code 132) 4 = .ok (.invokespecial 9, 3) := by decide +kernel
theorem d132_7 : decode (pg_code 132) 7 = .ok (.astore_n 1, 1) := by decide +kernel
theorem d132_8 : decode (pg_code 132) 8 = .ok (.new 10, 3) := by decide +kernel
theorem d132_11 : decode (pg_code 132) 11 = .ok (.dup, 1) := by decide +kernel
theorem d132_12 : decode (pg_code 132) 12 = .ok (.invokespecial 12, 3) := by decide +kernel
theorem d132_15 : decode (pg_code 132) 15 = .ok (.astore_n 2, 1) := by decide +kernel
theorem d132_16 : decode (pg_code 132) 16 = .ok (.iconst 0, 1) := by decide +kernel
theorem d132_17 : decode (pg_code 132) 17 = .ok (.istore_n 3, 1) := by decide +kernel
theorem d132_18 : decode (pg_code 132) 18 = .ok (.iload_n 3, 1) := by decide +kernel
theorem d132_19 : decode (pg_code 132) 19 = .ok (.aload_n 0, 1) := by decide +kernel
theorem d132_20 : decode (pg_code 132) 20 = .ok (.arraylength, 1) := by decide +kernel
theorem d132_21 : decode (pg_code 132) 21 = .ok (.iconst 5, 1) := by decide +kernel
theorem d132_22 : decode (pg_code 132) 22 = .ok (.isub, 1) := by decide +kernel
theorem d132_23 : decode (pg_code 132) 23 = .ok (.if_icmp .gt 472, 3) := by decide +kernel
theorem d132_26 : decode (pg_code 132) 26 = .ok (.aload_n 0, 1) := by decide +kernel
theorem d132_27 : decode (pg_code 132) 27 = .ok (.iload_n 3, 1) := by decide +kernel
theorem d132_28 : decode (pg_code 132) 28 = .ok (.iaload, 1) := by decide +kernel
theorem d132_29 : decode (pg_code 132) 29 = .ok (.bipush 15, 2) := by decide +kernel
theorem d132_31 : decode (pg_code 132) 31 = .ok (.iand, 1) := by decide +kernel
theorem d132_32 : decode (pg_code 132) 32 = .ok (.tableswitch 457 0 12 #[68, 121, 144, 167, 200, 253, 286, 309, 342, 365, 388, 401, 434], 68) := by decide +kernel
theorem d132_100 : decode (pg_code 132) 100 = .ok (.aload_n 1, 1) := by decide +kernel
theorem d132_101 : decode (pg_code 132) 101 = .ok (.aload_n 0, 1) := by decide +kernel
theorem d132_102 : decode (pg_code 132) 102 = .ok (.iload_n 3, 1) := by decide +kernel
theorem d132_103 : decode (pg_code 132) 103 = .ok (.iconst 1, 1) := by decide +kernel
theorem d132_104 : decode (pg_code 132) 104 = .ok (.iadd, 1) := by decide +kernel
theorem d132_105 : decode (pg_code 132) 105 = .ok (.iaload, 1) := by decide +kernel
theorem d132_106 : decode (pg_code 132) 106 = .ok (.aload_n 0, 1) := by decide +kernel
theorem d132_107 : decode (pg_code 132) 107 = .ok (.iload_n 3, 1) := by decide +kernel
theorem d132_108 : decode (pg_code 132) 108 = .ok (.iconst 2, 1) := by decide +kernel
theorem d132_109 : decode (pg_code 132) 109 = .ok (.iadd, 1) := by decide +kernel
theorem d132_110 : decode (pg_code 132) 110 = .ok (.iaload, 1) := by decide +kernel
theorem d132_111 : decode (pg_code 132) 111 = .ok (.aload_n 0, 1) := by decide +kernel
theorem d132_112 : decode (pg_code 132) 112 = .ok (.iload_n 3, 1) := by decide +kernel
theorem d132_113 : decode (pg_code 132) 113 = .ok (.iconst 3, 1) := by decide +kernel
theorem d132_114 : decode (pg_code 132) 114 = .ok (.iadd, 1) := by decide +kernel
theorem d132_115 : decode (pg_code 132) 115 = .ok (.iaload, 1) := by decide +kernel
theorem d132_116 : decode (pg_code 132) 116 = .ok (.aload_n 0, 1) := by decide +kernel
theorem d132_117 : decode (pg_code 132) 117 = .ok (.iload_n 3, 1) := by decide +kernel
theorem d132_118 : decode (pg_code 132) 118 = .ok (.iconst 4, 1) := by decide +kernel
theorem d132_119 : decode (pg_code 132) 119 = .ok (.iadd, 1) := by decide +kernel
theorem d132_120 : decode (pg_code 132) 120 = .ok (.iaload, 1) := by decide +kernel
theorem d132_121 : decode (pg_code 132) 121 = .ok (.invokevirtual 13, 3) := by decide +kernel
theorem d132_124 : decode (pg_code 132) 124 = .ok (.aload_n 2, 1) := by decide +kernel
theorem d132_125 : decode (pg_code 132) 125 = .ok (.aload_n 0, 1) := by decide +kernel
theorem d132_126 : decode (pg_code 132) 126 = .ok (.iload_n 3, 1) := by decide +kernel
theorem d132_127 : decode (pg_code 132) 127 = .ok (.iconst 1, 1) := by decide +kernel
theorem d132_128 : decode (pg_code 132) 128 = .ok (.iadd, 1) := by decide +kernel
theorem d132_129 : decode (pg_code 132) 129 = .ok (.iaload, 1) := by decide +kernel
theorem d132_130 : decode (pg_code 132) 130 = .ok (.aload_n 0, 1) := by decide +kernel
theorem d132_131 : decode (pg_code 132) 131 = .ok (.iload_n 3, 1) := by decide +kernel
theorem d132_132 : decode (pg_code 132) 132 = .ok (.iconst 2, 1) := by decide +kernel
theorem d132_133 : decode (pg_code 132) 133 = .ok (.iadd, 1) := by decide +kernel
theorem d132_134 : decode (pg_code 132) 134 = .ok (.iaload, 1) := by decide +kernel
theorem d132_135 : decode (pg_code 132) 135 = .ok (.aload_n 0, 1) := by decide +kernel
theorem d132_136 : decode (pg_code 132) 136 = .ok (.iload_n 3, 1) := by decide +kernel
theorem d132_137 : decode (pg_code 132) 137 = .ok (.iconst 3, 1) := by decide +kernel
theorem d132_138 : decode (pg_code 132) 138 = .ok (.iadd, 1) := by decide +kernel
theorem d132_139 : decode (pg_code 132) 139 = .ok (.iaload, 1) := by decide +kernel
theorem d132_140 : decode (pg_code 132) 140 = .ok (.aload_n 0, 1) := by decide +kernel
theorem d132_141 : decode (pg_code 132) 141 = .ok (.iload_n 3, 1) := by decide +kernel
theorem d132_142 : decode (pg_code 132) 142 = .ok (.iconst 4, 1) := by decide +kernel
theorem d132_143 : decode (pg_code 132) 143 = .ok (.iadd, 1) := by decide +kernel
theorem d132_144 : decode (pg_code 132) 144 = .ok (.iaload, 1) := by decide +kernel
theorem d132_145 : decode (pg_code 132) 145 = .ok (.invokevirtual 17, 3) := by decide +kernel
theorem d132_148 : decode (pg_code 132) 148 = .ok (.if_icmp .eq 341, 3) := by decide +kernel
theorem d132_153 : decode (pg_code 132) 153 = .ok (.aload_n 1, 1) := by decide +kernel
theorem d132_154 : decode (pg_code 132) 154 = .ok (.aload_n 0, 1) := by decide +kernel
theorem d132_155 : decode (pg_code 132) 155 = .ok (.iload_n 3, 1) := by decide +kernel
theorem d132_156 : decode (pg_code 132) 156 = .ok (.iconst 1, 1) := by decide +kernel
theorem d132_157 : decode (pg_code 132) 157 = .ok (.iadd, 1) := by decide +kernel
theorem d132_158 : decode (pg_code 132) 158 = .ok (.iaload, 1) := by decide +kernel
theorem d132_159 : decode (pg_code 132) 159 = .ok (.invokevirtual 18, 3) := by decide +kernel
theorem d132_162 : decode (pg_code 132) 162 = .ok (.aload_n 2, 1) := by decide +kernel
theorem d132_163 : decode (pg_code 132) 163 = .ok (.aload_n 0, 1) := by decide +kernel
theorem d132_164 : decode (pg_code 132) 164 = .ok (.iload_n 3, 1) := by decide +kernel
theorem d132_165 : decode (pg_code 132) 165 = .ok (.iconst 1, 1) := by decide +kernel
theorem d132_166 : decode (pg_code 132) 166 = .ok (.iadd, 1) := by decide +kernel
theorem d132_167 : decode (pg_code 132) 167 = .ok (.iaload, 1) := by decide +kernel
theorem d132_168 : decode (pg_code 132) 168 = .ok (.invokevirtual 22, 3) := by decide +kernel
theorem d132_171 : decode (pg_code 132) 171 = .ok (.if_icmp .eq 318, 3) := by decide +kernel
theorem d132_176 : decode (pg_code 132) 176 = .ok (.aload_n 1, 1) := by decide +kernel
theorem d132_177 : decode (pg_code 132) 177 = .ok (.aload_n 0, 1) := by decide +kernel
theorem d132_178 : decode (pg_code 132) 178 = .ok (.iload_n 3, 1) := by decide +kernel
theorem d132_179 : decode (pg_code 132) 179 = .ok (.iconst 1, 1) := by decide +kernel
theorem d132_180 : decode (pg_code 132) 180 = .ok (.iadd, 1) := by decide +kernel
theorem d132_181 : decode (pg_code 132) 181 = .ok (.iaload, 1) := by decide +kernel
theorem d132_182 : decode (pg_code 132) 182 = .ok (.invokevirtual 23, 3) := by decide +kernel
theorem d132_185 : decode (pg_code 132) 185 = .ok (.aload_n 2, 1) := by decide +kernel
theorem d132_186 : decode (pg_code 132) 186 = .ok (.aload_n 0, 1) := by decide +kernel
theorem d132_187 : decode (pg_code 132) 187 = .ok (.iload_n 3, 1) := by decide +kernel
theorem d132_188 : decode (pg_code 132) 188 = .ok (.iconst 1, 1) := by decide +kernel
theorem d132_189 : decode (pg_code 132) 189 = .ok (.iadd, 1) := by decide +kernel
theorem d132_190 : decode (pg_code 132) 190 = .ok (.iaload, 1) := by decide +kernel
theorem d132_191 : decode (pg_code 132) 191 = .ok (.invokevirtual 27, 3) := by decide +kernel
theorem d132_194 : decode (pg_code 132) 194 = .ok (.if_icmp .eq 295, 3) := by decide +kernel
theorem d132_199 : decode (pg_code 132) 199 = .ok (.aload_n 1, 1) := by decide +kernel
theorem d132_200 : decode (pg_code 132) 200 = .ok (.aload_n 0, 1) := by decide +kernel
theorem d132_201 : decode (pg_code 132) 201 = .ok (.iload_n 3, 1) := by decide +kernel
theorem d132_202 : decode (pg_code 132) 202 = .ok (.iconst 1, 1) := by decide +kernel
theorem d132_203 : decode (pg_code 132) 203 = .ok (.iadd, 1) := by decide +kernel
theorem d132_204 : decode (pg_code 132) 204 = .ok (.iaload, 1) := by decide +kernel
theorem d132_205 : decode (pg_code 132) 205 = .ok (.aload_n 0, 1) := by decide +kernel
theorem d132_206 : decode (pg_code 132) 206 = .ok (.iload_n 3, 1) := by decide +kernel
theorem d132_207 : decode (pg_code 132) 207 = .ok (.iconst 2, 1) := by decide +kernel
theorem d132_208 : decode (pg_code 132) 208 = .ok (.iadd, 1) := by decide +kernel
theorem d132_209 : decode (pg_code 132) 209 = .ok (.iaload, 1) := by decide +kernel
theorem d132_210 : decode (pg_code 132) 210 = .ok (.invokevirtual 28, 3) := by decide +kernel
theorem d132_213 : decode (pg_code 132) 213 = .ok (.aload_n 2, 1) := by decide +kernel
theorem d132_214 : decode (pg_code 132) 214 = .ok (.aload_n 0, 1) := by decide +kernel
theorem d132_215 : decode (pg_code 132) 215 = .ok (.iload_n 3, 1) := by decide +kernel
theorem d132_216 : decode (pg_code 132) 216 = .ok (.iconst 1, 1) := by decide +kernel
theorem d132_217 : decode (pg_code 132) 217 = .ok (.iadd, 1) := by decide +kernel
theorem d132_218 : decode (pg_code 132) 218 = .ok (.iaload, 1) := by decide +kernel
theorem d132_219 : decode (pg_code 132) 219 = .ok (.aload_n 0, 1) := by decide +kernel
theorem d132_220 : decode (pg_code 132) 220 = .ok (.iload_n 3, 1) := by decide +kernel
theorem d132_221 : decode (pg_code 132) 221 = .ok (.iconst 2, 1) := by decide +kernel
theorem d132_222 : decode (pg_code 132) 222 = .ok (.iadd, 1) := by decide +kernel
theorem d132_223 : decode (pg_code 132) 223 = .ok (.iaload, 1) := by decide +kernel
theorem d132_224 : decode (pg_code 132) 224 = .ok (.invokevirtual 32, 3) := by decide +kernel
theorem d132_227 : decode (pg_code 132) 227 = .ok (.if_icmp .eq 262, 3) := by decide +kernel
theorem d132_232 : decode (pg_code 132) 232 = .ok (.aload_n 1, 1) := by decide +kernel
theorem d132_233 : decode (pg_code 132) 233 = .ok (.aload_n 0, 1) := by decide +kernel
theorem d132_234 : decode (pg_code 132) 234 = .ok (.iload_n 3, 1) := by decide +kernel
theorem d132_235 : decode (pg_code 132) 235 = .ok (.iconst 1, 1) := by decide +kernel
theorem d132_236 : decode (pg_code 132) 236 = .ok (.iadd, 1) := by decide +kernel
theorem d132_237 : decode (pg_code 132) 237 = .ok (.iaload, 1) := by decide +kernel
theorem d132_238 : decode (pg_code 132) 238 = .ok (.aload_n 0, 1) := by decide +kernel
theorem d132_239 : decode (pg_code 132) 239 = .ok (.iload_n 3, 1) := by decide +kernel
theorem d132_240 : decode (pg_code 132) 240 = .ok (.iconst 2, 1) := by decide +kernel
theorem d132_241 : decode (pg_code 132) 241 = .ok (.iadd, 1) := by decide +kernel
theorem d132_242 : decode (pg_code 132) 242 = .ok (.iaload, 1) := by decide +kernel
theorem d132_243 : decode (pg_code 132) 243 = .ok (.aload_n 0, 1) := by decide +kernel
theorem d132_244 : decode (pg_code 132) 244 = .ok (.iload_n 3, 1) := by decide +kernel
theorem d132_245 : decode (pg_code 132) 245 = .ok (.iconst 3, 1) := by decide +kernel
theorem d132_246 : decode (pg_code 132) 246 = .ok (.iadd, 1) := by decide +kernel
theorem d132_247 : decode (pg_code 132) 247 = .ok (.iaload, 1) := by decide +kernel
theorem d132_248 : decode (pg_code 132) 248 = .ok (.aload_n 0, 1) := by decide +kernel
theorem d132_249 : decode (pg_code 132) 249 = .ok (.iload_n 3, 1) := by decide +kernel
theorem d132_250 : decode (pg_code 132) 250 = .ok (.iconst 4, 1) := by decide +kernel
theorem d132_251 : decode (pg_code 132) 251 = .ok (.iadd, 1) := by decide +kernel
theorem d132_252 : decode (pg_code 132) 252 = .ok (.iaload, 1) := by decide +kernel
theorem d132_253 : decode (pg_code 132) 253 = .ok (.invokevirtual 33, 3) := by decide +kernel
theorem d132_256 : decode (pg_code 132) 256 = .ok (.aload_n 2, 1) := by decide +kernel
theorem d132_257 : decode (pg_code 132) 257 = .ok (.aload_n 0, 1) := by decide +kernel
theorem d132_258 : decode (pg_code 132) 258 = .ok (.iload_n 3, 1) := by decide +kernel
theorem d132_259 : decode (pg_code 132) 259 = .ok (.iconst 1, 1) := by decide +kernel
theorem d132_260 : decode (pg_code 132) 260 = .ok (.iadd, 1) := by decide +kernel
theorem d132_261 : decode (pg_code 132) 261 = .ok (.iaload, 1) := by decide +kernel
theorem d132_262 : decode (pg_code 132) 262 = .ok (.aload_n 0, 1) := by decide +kernel
theorem d132_263 : decode (pg_code 132) 263 = .ok (.iload_n 3, 1) := by decide +kernel
theorem d132_264 : decode (pg_code 132) 264 = .ok (.iconst 2, 1) := by decide +kernel
theorem d132_265 : decode (pg_code 132) 265 = .ok (.iadd, 1) := by decide +kernel
theorem d132_266 : decode (pg_code 132) 266 = .ok (.iaload, 1) := by decide +kernel
theorem d132_267 : decode (pg_code 132) 267 = .ok (.aload_n 0, 1) := by decide +kernel
theorem d132_268 : decode (pg_code 132) 268 = .ok (.iload_n 3, 1) := by decide +kernel
theorem d132_269 : decode (pg_code 132) 269 = .ok (.iconst 3, 1) := by decide +kernel
theorem d132_270 : decode (pg_code 132) 270 = .ok (.iadd, 1) := by decide +kernel
theorem d132_271 : decode (pg_code 132) 271 = .ok (.iaload, 1) := by decide +kernel
theorem d132_272 : decode (pg_code 132) 272 = .ok (.aload_n 0, 1) := by decide +kernel
theorem d132_273 : decode (pg_code 132) 273 = .ok (.iload_n 3, 1) := by decide +kernel
theorem d132_274 : decode (pg_code 132) 274 = .ok (.iconst 4, 1) := by decide +kernel
theorem d132_275 : decode (pg_code 132) 275 = .ok (.iadd, 1) := by decide +kernel
theorem d132_276 : decode (pg_code 132) 276 = .ok (.iaload, 1) := by decide +kernel
theorem d132_277 : decode (pg_code 132) 277 = .ok (.invokevirtual 37, 3) := by decide +kernel
theorem d132_280 : decode (pg_code 132) 280 = .ok (.if_icmp .eq 209, 3) := by decide +kernel
theorem d132_285 : decode (pg_code 132) 285 = .ok (.aload_n 1, 1) := by decide +kernel
theorem d132_286 : decode (pg_code 132) 286 = .ok (.aload_n 0, 1) := by decide +kernel
theorem d132_287 : decode (pg_code 132) 287 = .ok (.iload_n 3, 1) := by decide +kernel
theorem d132_288 : decode (pg_code 132) 288 = .ok (.iconst 1, 1) := by decide +kernel
theorem d132_289 : decode (pg_code 132) 289 = .ok (.iadd, 1) := by decide +kernel
theorem d132_290 : decode (pg_code 132) 290 = .ok (.iaload, 1) := by decide +kernel
theorem d132_291 : decode (pg_code 132) 291 = .ok (.aload_n 0, 1) := by decide +kernel
theorem d132_292 : decode (pg_code 132) 292 = .ok (.iload_n 3, 1) := by decide +kernel
theorem d132_293 : decode (pg_code 132) 293 = .ok (.iconst 2, 1) := by decide +kernel
theorem d132_294 : decode (pg_code 132) 294 = .ok (.iadd, 1) := by decide +kernel
theorem d132_295 : decode (pg_code 132) 295 = .ok (.iaload, 1) := by decide +kernel
theorem d132_296 : decode (pg_code 132) 296 = .ok (.invokevirtual 38, 3) := by decide +kernel
theorem d132_299 : decode (pg_code 132) 299 = .ok (.aload_n 2, 1) := by decide +kernel
theorem d132_300 : decode (pg_code 132) 300 = .ok (.aload_n 0, 1) := by decide +kernel
theorem d132_301 : decode (pg_code 132) 301 = .ok (.iload_n 3, 1) := by decide +kernel
theorem d132_302 : decode (pg_code 132) 302 = .ok (.iconst 1, 1) := by decide +kernel
theorem d132_303 : decode (pg_code 132) 303 = .ok (.iadd, 1) := by decide +kernel
theorem d132_304 : decode (pg_code 132) 304 = .ok (.iaload, 1) := by decide +kernel
theorem d132_305 : decode (pg_code 132) 305 = .ok (.aload_n 0, 1) := by decide +kernel
theorem d132_306 : decode (pg_code 132) 306 = .ok (.iload_n 3, 1) := by decide +kernel
theorem d132_307 : decode (pg_code 132) 307 = .ok (.iconst 2, 1) := by decide +kernel
theorem d132_308 : decode (pg_code 132) 308 = .ok (.iadd, 1) := by decide +kernel
theorem d132_309 : decode (pg_code 132) 309 = .ok (.iaload, 1) := by decide +kernel
theorem d132_310 : decode (pg_code 132) 310 = .ok (.invokevirtual 41, 3) := by decide +kernel
theorem d132_313 : decode (pg_code 132) 313 = .ok (.if_icmp .eq 176, 3) := by decide +kernel
theorem d132_318 : decode (pg_code 132) 318 = .ok (.aload_n 1, 1) := by decide +kernel
theorem d132_319 : decode (pg_code 132) 319 = .ok (.aload_n 0, 1) := by decide +kernel
theorem d132_320 : decode (pg_code 132) 320 = .ok (.iload_n 3, 1) := by decide +kernel
theorem d132_321 : decode (pg_code 132) 321 = .ok (.iconst 1, 1) := by decide +kernel
theorem d132_322 : decode (pg_code 132) 322 = .ok (.iadd, 1) := by decide +kernel
theorem d132_323 : decode (pg_code 132) 323 = .ok (.iaload, 1) := by decide +kernel
theorem d132_324 : decode (pg_code 132) 324 = .ok (.invokevirtual 42, 3) := by decide +kernel
theorem d132_327 : decode (pg_code 132) 327 = .ok (.aload_n 2, 1) := by decide +kernel
theorem d132_328 : decode (pg_code 132) 328 = .ok (.aload_n 0, 1) := by decide +kernel
theorem d132_329 : decode (pg_code 132) 329 = .ok (.iload_n 3, 1) := by decide +kernel
theorem d132_330 : decode (pg_code 132) 330 = .ok (.iconst 1, 1) := by decide +kernel
theorem d132_331 : decode (pg_code 132) 331 = .ok (.iadd, 1) := by decide +kernel
theorem d132_332 : decode (pg_code 132) 332 = .ok (.iaload, 1) := by decide +kernel
theorem d132_333 : decode (pg_code 132) 333 = .ok (.invokevirtual 45, 3) := by decide +kernel
theorem d132_336 : decode (pg_code 132) 336 = .ok (.if_icmp .eq 153, 3) := by decide +kernel
theorem d132_341 : decode (pg_code 132) 341 = .ok (.aload_n 1, 1) := by decide +kernel
theorem d132_342 : decode (pg_code 132) 342 = .ok (.aload_n 0, 1) := by decide +kernel
theorem d132_343 : decode (pg_code 132) 343 = .ok (.iload_n 3, 1) := by decide +kernel
theorem d132_344 : decode (pg_code 132) 344 = .ok (.iconst 1, 1) := by decide +kernel
theorem d132_345 : decode (pg_code 132) 345 = .ok (.iadd, 1) := by decide +kernel
theorem d132_346 : decode (pg_code 132) 346 = .ok (.iaload, 1) := by decide +kernel
theorem d132_347 : decode (pg_code 132) 347 = .ok (.aload_n 0, 1) := by decide +kernel
theorem d132_348 : decode (pg_code 132) 348 = .ok (.iload_n 3, 1) := by decide +kernel
theorem d132_349 : decode (pg_code 132) 349 = .ok (.iconst 2, 1) := by decide +kernel
theorem d132_350 : decode (pg_code 132) 350 = .ok (.iadd, 1) := by decide +kernel
theorem d132_351 : decode (pg_code 132) 351 = .ok (.iaload, 1) := by decide +kernel
theorem d132_352 : decode (pg_code 132) 352 = .ok (.invokevirtual 46, 3) := by decide +kernel
theorem d132_355 : decode (pg_code 132) 355 = .ok (.aload_n 2, 1) := by decide +kernel
theorem d132_356 : decode (pg_code 132) 356 = .ok (.aload_n 0, 1) := by decide +kernel
theorem d132_357 : decode (pg_code 132) 357 = .ok (.iload_n 3, 1) := by decide +kernel
theorem d132_358 : decode (pg_code 132) 358 = .ok (.iconst 1, 1) := by decide +kernel
theorem d132_359 : decode (pg_code 132) 359 = .ok (.iadd, 1) := by decide +kernel
theorem d132_360 : decode (pg_code 132) 360 = .ok (.iaload, 1) := by decide +kernel
theorem d132_361 : decode (pg_code 132) 361 = .ok (.aload_n 0, 1) := by decide +kernel
theorem d132_362 : decode (pg_code 132) 362 = .ok (.iload_n 3, 1) := by decide +kernel
theorem d132_363 : decode (pg_code 132) 363 = .ok (.iconst 2, 1) := by decide +kernel
theorem d132_364 : decode (pg_code 132) 364 = .ok (.iadd, 1) := by decide +kernel
theorem d132_365 : decode (pg_code 132) 365 = .ok (.iaload, 1) := by decide +kernel
theorem d132_366 : decode (pg_code 132) 366 = .ok (.invokevirtual 49, 3) := by decide +kernel
theorem d132_369 : decode (pg_code 132) 369 = .ok (.if_icmp .eq 120, 3) := by decide +kernel
theorem d132_374 : decode (pg_code 132) 374 = .ok (.aload_n 1, 1) := by decide +kernel
theorem d132_375 : decode (pg_code 132) 375 = .ok (.aload_n 0, 1) := by decide +kernel
theorem d132_376 : decode (pg_code 132) 376 = .ok (.iload_n 3, 1) := by decide +kernel
theorem d132_377 : decode (pg_code 132) 377 = .ok (.iconst 1, 1) := by decide +kernel
theorem d132_378 : decode (pg_code 132) 378 = .ok (.iadd, 1) := by decide +kernel
theorem d132_379 : decode (pg_code 132) 379 = .ok (.iaload, 1) := by decide +kernel
theorem d132_380 : decode (pg_code 132) 380 = .ok (.invokevirtual 50, 3) := by decide +kernel
theorem d132_383 : decode (pg_code 132) 383 = .ok (.aload_n 2, 1) := by decide +kernel
theorem d132_384 : decode (pg_code 132) 384 = .ok (.aload_n 0, 1) := by decide +kernel
theorem d132_385 : decode (pg_code 132) 385 = .ok (.iload_n 3, 1) := by decide +kernel
theorem d132_386 : decode (pg_code 132) 386 = .ok (.iconst 1, 1) := by decide +kernel
theorem d132_387 : decode (pg_code 132) 387 = .ok (.iadd, 1) := by decide +kernel
theorem d132_388 : decode (pg_code 132) 388 = .ok (.iaload, 1) := by decide +kernel
theorem d132_389 : decode (pg_code 132) 389 = .ok (.invokevirtual 53, 3) := by decide +kernel
theorem d132_392 : decode (pg_code 132) 392 = .ok (.if_icmp .eq 97, 3) := by decide +kernel
theorem d132_397 : decode (pg_code 132) 397 = .ok (.aload_n 1, 1) := by decide +kernel
theorem d132_398 : decode (pg_code 132) 398 = .ok (.aload_n 0, 1) := by decide +kernel
theorem d132_399 : decode (pg_code 132) 399 = .ok (.iload_n 3, 1) := by decide +kernel
theorem d132_400 : decode (pg_code 132) 400 = .ok (.iconst 1, 1) := by decide +kernel
theorem d132_401 : decode (pg_code 132) 401 = .ok (.iadd, 1) := by decide +kernel
theorem d132_402 : decode (pg_code 132) 402 = .ok (.iaload, 1) := by decide +kernel
theorem d132_403 : decode (pg_code 132) 403 = .ok (.invokevirtual 54, 3) := by decide +kernel
theorem d132_406 : decode (pg_code 132) 406 = .ok (.aload_n 2, 1) := by decide +kernel
theorem d132_407 : decode (pg_code 132) 407 = .ok (.aload_n 0, 1) := by decide +kernel
theorem d132_408 : decode (pg_code 132) 408 = .ok (.iload_n 3, 1) := by decide +kernel
theorem d132_409 : decode (pg_code 132) 409 = .ok (.iconst 1, 1) := by decide +kernel
theorem d132_410 : decode (pg_code 132) 410 = .ok (.iadd, 1) := by decide +kernel
theorem d132_411 : decode (pg_code 132) 411 = .ok (.iaload, 1) := by decide +kernel
theorem d132_412 : decode (pg_code 132) 412 = .ok (.invokevirtual 57, 3) := by decide +kernel
theorem d132_415 : decode (pg_code 132) 415 = .ok (.if_icmp .eq 74, 3) := by decide +kernel
theorem d132_420 : decode (pg_code 132) 420 = .ok (.aload_n 1, 1) := by decide +kernel
theorem d132_421 : decode (pg_code 132) 421 = .ok (.invokevirtual 58, 3) := by decide +kernel
theorem d132_424 : decode (pg_code 132) 424 = .ok (.aload_n 2, 1) := by decide +kernel
theorem d132_425 : decode (pg_code 132) 425 = .ok (.invokevirtual 62, 3) := by decide +kernel
theorem d132_428 : decode (pg_code 132) 428 = .ok (.if_icmp .eq 61, 3) := by decide +kernel
theorem d132_433 : decode (pg_code 132) 433 = .ok (.aload_n 1, 1) := by decide +kernel
theorem d132_434 : decode (pg_code 132) 434 = .ok (.aload_n 0, 1) := by decide +kernel
theorem d132_435 : decode (pg_code 132) 435 = .ok (.iload_n 3, 1) := by decide +kernel
theorem d132_436 : decode (pg_code 132) 436 = .ok (.iconst 1, 1) := by decide +kernel
theorem d132_437 : decode (pg_code 132) 437 = .ok (.iadd, 1) := by decide +kernel
theorem d132_438 : decode (pg_code 132) 438 = .ok (.iaload, 1) := by decide +kernel
theorem d132_439 : decode (pg_code 132) 439 = .ok (.aload_n 0, 1) := by decide +kernel
theorem d132_440 : decode (pg_code 132) 440 = .ok (.iload_n 3, 1) := by decide +kernel
theorem d132_441 : decode (pg_code 132) 441 = .ok (.iconst 2, 1) := by decide +kernel
theorem d132_442 : decode (pg_code 132) 442 = .ok (.iadd, 1) := by decide +kernel
theorem d132_443 : decode (pg_code 132) 443 = .ok (.iaload, 1) := by decide +kernel
theorem d132_444 : decode (pg_code 132) 444 = .ok (.invokevirtual 63, 3) := by decide +kernel
theorem d132_447 : decode (pg_code 132) 447 = .ok (.aload_n 2, 1) := by decide +kernel
theorem d132_448 : decode (pg_code 132) 448 = .ok (.aload_n 0, 1) := by decide +kernel
theorem d132_449 : decode (pg_code 132) 449 = .ok (.iload_n 3, 1) := by decide +kernel
theorem d132_450 : decode (pg_code 132) 450 = .ok (.iconst 1, 1) := by decide +kernel
theorem d132_451 : decode (pg_code 132) 451 = .ok (.iadd, 1) := by decide +kernel
theorem d132_452 : decode (pg_code 132) 452 = .ok (.iaload, 1) := by decide +kernel
theorem d132_453 : decode (pg_code 132) 453 = .ok (.aload_n 0, 1) := by decide +kernel
theorem d132_454 : decode (pg_code 132) 454 = .ok (.iload_n 3, 1) := by decide +kernel
theorem d132_455 : decode (pg_code 132) 455 = .ok (.iconst 2, 1) := by decide +kernel
theorem d132_456 : decode (pg_code 132) 456 = .ok (.iadd, 1) := by decide +kernel
theorem d132_457 : decode (pg_code 132) 457 = .ok (.iaload, 1) := by decide +kernel
theorem d132_458 : decode (pg_code 132) 458 = .ok (.invokevirtual 66, 3) := by decide +kernel
theorem d132_461 : decode (pg_code 132) 461 = .ok (.if_icmp .eq 28, 3) := by decide +kernel
theorem d132_466 : decode (pg_code 132) 466 = .ok (.aload_n 1, 1) := by decide +kernel
theorem d132_467 : decode (pg_code 132) 467 = .ok (.aload_n 0, 1) := by decide +kernel
theorem d132_468 : decode (pg_code 132) 468 = .ok (.iload_n 3, 1) := by decide +kernel
theorem d132_469 : decode (pg_code 132) 469 = .ok (.iconst 1, 1) := by decide +kernel
theorem d132_470 : decode (pg_code 132) 470 = .ok (.iadd, 1) := by decide +kernel
theorem d132_471 : decode (pg_code 132) 471 = .ok (.iaload, 1) := by decide +kernel
theorem d132_472 : decode (pg_code 132) 472 = .ok (.invokevirtual 67, 3) := by decide +kernel
theorem d132_475 : decode (pg_code 132) 475 = .ok (.aload_n 2, 1) := by decide +kernel
theorem d132_476 : decode (pg_code 132) 476 = .ok (.aload_n 0, 1) := by decide +kernel
theorem d132_477 : decode (pg_code 132) 477 = .ok (.iload_n 3, 1) := by decide +kernel
theorem d132_478 : decode (pg_code 132) 478 = .ok (.iconst 1, 1) := by decide +kernel
theorem d132_479 : decode (pg_code 132) 479 = .ok (.iadd, 1) := by decide +kernel
theorem d132_480 : decode (pg_code 132) 480 = .ok (.iaload, 1) := by decide +kernel
theorem d132_481 : decode (pg_code 132) 481 = .ok (.invokevirtual 70, 3) := by decide +kernel
theorem d132_484 : decode (pg_code 132) 484 = .ok (.if_icmp .eq 5, 3) := by decide +kernel
theorem d132_489 : decode (pg_code 132) 489 = .ok (.iinc 3 5, 3) := by decide +kernel
theorem d132_492 : decode (pg_code 132) 492 = .ok (.goto (-474), 3) := by decide +kernel
theorem d132_495 : decode (pg_code 132) 495 = .ok (.iconst 1, 1) := by decide +kernel
theorem d132_496 : decode (pg_code 132) 496 = .ok (.ireturn, 1) := by decide +kernel
theorem r132_0  : am_Rn L xs d 132 0 ls st σ Q = am_Rn L xs d 132 3 ls (.ref σ.length :: st) (σ ++ [.inr (0, pg_def 0)]) Q := am_r_new d132_0 rfl
theorem r132_3 {a : Value} : am_Rn L xs d 132 3 ls (a :: st) σ Q = (am_ok a = true ∧ am_Rn L xs d 132 4 ls (a :: a :: st) σ Q) := am_r_dup d132_3
theorem r132_4 {p : Nat} (hr : st.length ≤ 4) : am_Rn L xs (d + 1) 132 4 ls (.ref p :: st) σ Q = am_Call L xs d 0 [.ref p] σ (fun r σ1 => am_Rn L xs (d + 1) 132 7 ls (r.toList ++ st) σ1 Q) := am_R_special (as := []) d132_4 rfl ⟨by decide, rfl⟩ rfl rfl (by decide) ⟨hr, rfl⟩
theorem r132_7 {x : Nat} : am_Rn L xs d 132 7 ls (.ref x :: st) σ Q = (1 < ls.length ∧ am_Rn L xs d 132 8 (ls.set 1 (.ref x)) st σ Q) := am_r_astore_n d132_7
theorem r132_8  : am_Rn L xs d 132 8 ls st σ Q = am_Rn L xs d 132 11 ls (.ref σ.length :: st) (σ ++ [.inr (6, pg_def 6)]) Q := am_r_new d132_8 rfl
theorem r132_11 {a : Value} : am_Rn L xs d 132 11 ls (a :: st) σ Q = (am_ok a = true ∧ am_Rn L xs d 132 12 ls (a :: a :: st) σ Q) := am_r_dup d132_11
theorem r132_12 {p : Nat} (hr : st.length ≤ 4) : am_Rn L xs (d + 1) 132 12 ls (.ref p :: st) σ Q = am_Call L xs d 83 [.ref p] σ (fun r σ1 => am_Rn L xs (d + 1) 132 15 ls (r.toList ++ st) σ1 Q) := am_R_special (as := []) d132_12 rfl ⟨by decide, rfl⟩ rfl rfl (by decide) ⟨hr, rfl⟩
theorem r132_15 {x : Nat} : am_Rn L xs d 132 15 ls (.ref x :: st) σ Q = (2 < ls.length ∧ am_Rn L xs d 132 16 (ls.set 2 (.ref x)) st σ Q) := am_r_astore_n d132_15
theorem r132_16  : am_Rn L xs d 132 16 ls st σ Q = am_Rn L xs d 132 17 ls (.int 0 :: st) σ Q := am_r_iconst d132_16 (by decide)
theorem r132_17 {x : Int32} : am_Rn L xs d 132 17 ls (.int x :: st) σ Q = (3 < ls.length ∧ am_Rn L xs d 132 18 (ls.set 3 (.int x)) st σ Q) := am_r_istore_n d132_17
theorem r132_18  : am_Rn L xs d 132 18 ls st σ Q = am_li ls 3 (fun x => am_Rn L xs d 132 19 ls (.int x :: st) σ Q) := am_r_iload_n d132_18
theorem r132_19  : am_Rn L xs d 132 19 ls st σ Q = am_la ls 0 (fun x => am_Rn L xs d 132 20 ls (x :: st) σ Q) := am_r_aload_n d132_19
theorem r132_20 {b : UInt32} : am_Rn L xs d 132 20 ls (.float b :: st) σ Q = am_Rn L xs d 132 21 ls (.int (Int32.ofNat L) :: st) σ Q := am_r_slen d132_20 rfl
theorem r132_21  : am_Rn L xs d 132 21 ls st σ Q = am_Rn L xs d 132 22 ls (.int 5 :: st) σ Q := am_r_iconst d132_21 (by decide)
theorem r132_22 {a b : Int32} : am_Rn L xs d 132 22 ls (.int b :: .int a :: st) σ Q = am_Rn L xs d 132 23 ls (.int (a - b) :: st) σ Q := am_r_isub d132_22
theorem r132_23 {a b : Int32} : am_Rn L xs d 132 23 ls (.int b :: .int a :: st) σ Q = if b < a then am_Rn L xs d 132 495 ls st σ Q else am_Rn L xs d 132 26 ls st σ Q := (am_r_icmp (t := 495) d132_23 (by decide)).trans (am_ite _ _ trivial (by simp only [am_cond, decide_eq_true_eq]))
theorem r132_26  : am_Rn L xs d 132 26 ls st σ Q = am_la ls 0 (fun x => am_Rn L xs d 132 27 ls (x :: st) σ Q) := am_r_aload_n d132_26
theorem r132_27  : am_Rn L xs d 132 27 ls st σ Q = am_li ls 3 (fun x => am_Rn L xs d 132 28 ls (.int x :: st) σ Q) := am_r_iload_n d132_27
theorem s132_28 {b : UInt32} {i : Int32} : am_Rn L xs d 132 28 ls (.int i :: .float b :: st) σ Q = (am_in i L = true ∧ am_Rn L xs d 132 29 ls (.int (xs i.toNatClampNeg) :: st) σ Q) := am_r_sload d132_28 rfl
theorem r132_29  : am_Rn L xs d 132 29 ls st σ Q = am_Rn L xs d 132 31 ls (.int 15 :: st) σ Q := am_r_bipush d132_29 (by decide)
theorem r132_31 {a b : Int32} : am_Rn L xs d 132 31 ls (.int b :: .int a :: st) σ Q = am_Rn L xs d 132 32 ls (.int (a &&& b) :: st) σ Q := am_r_iand d132_31
theorem r132_100  : am_Rn L xs d 132 100 ls st σ Q = am_la ls 1 (fun x => am_Rn L xs d 132 101 ls (x :: st) σ Q) := am_r_aload_n d132_100
theorem r132_101  : am_Rn L xs d 132 101 ls st σ Q = am_la ls 0 (fun x => am_Rn L xs d 132 102 ls (x :: st) σ Q) := am_r_aload_n d132_101
theorem r132_102  : am_Rn L xs d 132 102 ls st σ Q = am_li ls 3 (fun x => am_Rn L xs d 132 103 ls (.int x :: st) σ Q) := am_r_iload_n d132_102
theorem r132_103  : am_Rn L xs d 132 103 ls st σ Q = am_Rn L xs d 132 104 ls (.int 1 :: st) σ Q := am_r_iconst d132_103 (by decide)
theorem r132_104 {a b : Int32} : am_Rn L xs d 132 104 ls (.int b :: .int a :: st) σ Q = am_Rn L xs d 132 105 ls (.int (a + b) :: st) σ Q := am_r_iadd d132_104
theorem s132_105 {b : UInt32} {i : Int32} : am_Rn L xs d 132 105 ls (.int i :: .float b :: st) σ Q = (am_in i L = true ∧ am_Rn L xs d 132 106 ls (.int (xs i.toNatClampNeg) :: st) σ Q) := am_r_sload d132_105 rfl
theorem r132_106  : am_Rn L xs d 132 106 ls st σ Q = am_la ls 0 (fun x => am_Rn L xs d 132 107 ls (x :: st) σ Q) := am_r_aload_n d132_106
theorem r132_107  : am_Rn L xs d 132 107 ls st σ Q = am_li ls 3 (fun x => am_Rn L xs d 132 108 ls (.int x :: st) σ Q) := am_r_iload_n d132_107
theorem r132_108  : am_Rn L xs d 132 108 ls st σ Q = am_Rn L xs d 132 109 ls (.int 2 :: st) σ Q := am_r_iconst d132_108 (by decide)
theorem r132_109 {a b : Int32} : am_Rn L xs d 132 109 ls (.int b :: .int a :: st) σ Q = am_Rn L xs d 132 110 ls (.int (a + b) :: st) σ Q := am_r_iadd d132_109
theorem s132_110 {b : UInt32} {i : Int32} : am_Rn L xs d 132 110 ls (.int i :: .float b :: st) σ Q = (am_in i L = true ∧ am_Rn L xs d 132 111 ls (.int (xs i.toNatClampNeg) :: st) σ Q) := am_r_sload d132_110 rfl
theorem r132_111  : am_Rn L xs d 132 111 ls st σ Q = am_la ls 0 (fun x => am_Rn L xs d 132 112 ls (x :: st) σ Q) := am_r_aload_n d132_111
theorem r132_112  : am_Rn L xs d 132 112 ls st σ Q = am_li ls 3 (fun x => am_Rn L xs d 132 113 ls (.int x :: st) σ Q) := am_r_iload_n d132_112
theorem r132_113  : am_Rn L xs d 132 113 ls st σ Q = am_Rn L xs d 132 114 ls (.int 3 :: st) σ Q := am_r_iconst d132_113 (by decide)
theorem r132_114 {a b : Int32} : am_Rn L xs d 132 114 ls (.int b :: .int a :: st) σ Q = am_Rn L xs d 132 115 ls (.int (a + b) :: st) σ Q := am_r_iadd d132_114
theorem s132_115 {b : UInt32} {i : Int32} : am_Rn L xs d 132 115 ls (.int i :: .float b :: st) σ Q = (am_in i L = true ∧ am_Rn L xs d 132 116 ls (.int (xs i.toNatClampNeg) :: st) σ Q) := am_r_sload d132_115 rfl
theorem r132_116  : am_Rn L xs d 132 116 ls st σ Q = am_la ls 0 (fun x => am_Rn L xs d 132 117 ls (x :: st) σ Q) := am_r_aload_n d132_116
theorem r132_117  : am_Rn L xs d 132 117 ls st σ Q = am_li ls 3 (fun x => am_Rn L xs d 132 118 ls (.int x :: st) σ Q) := am_r_iload_n d132_117
theorem r132_118  : am_Rn L xs d 132 118 ls st σ Q = am_Rn L xs d 132 119 ls (.int 4 :: st) σ Q := am_r_iconst d132_118 (by decide)
theorem r132_119 {a b : Int32} : am_Rn L xs d 132 119 ls (.int b :: .int a :: st) σ Q = am_Rn L xs d 132 120 ls (.int (a + b) :: st) σ Q := am_r_iadd d132_119
theorem s132_120 {b : UInt32} {i : Int32} : am_Rn L xs d 132 120 ls (.int i :: .float b :: st) σ Q = (am_in i L = true ∧ am_Rn L xs d 132 121 ls (.int (xs i.toNatClampNeg) :: st) σ Q) := am_r_sload d132_120 rfl
theorem r132_121 {a1 a2 a3 a4 : Value} {p : Nat} : am_Rn L xs (d + 1) 132 121 ls (a4 :: a3 :: a2 :: a1 :: .ref p :: st) σ Q = ((am_oc σ p = 0 ∧ st.length ≤ 4 ∧ am_ok a1 = true ∧ am_ok a2 = true ∧ am_ok a3 = true ∧ am_ok a4 = true) ∧ am_Call L xs d 7 [.ref p, a1, a2, a3, a4] σ (fun r σ1 => am_Rn L xs (d + 1) 132 124 ls (r.toList ++ st) σ1 Q)) := am_R_virtual4 d132_121 rfl ⟨by decide, rfl⟩ rfl rfl (by decide)
theorem r132_124  : am_Rn L xs d 132 124 ls st σ Q = am_la ls 2 (fun x => am_Rn L xs d 132 125 ls (x :: st) σ Q) := am_r_aload_n d132_124
theorem r132_125  : am_Rn L xs d 132 125 ls st σ Q = am_la ls 0 (fun x => am_Rn L xs d 132 126 ls (x :: st) σ Q) := am_r_aload_n d132_125
theorem r132_126  : am_Rn L xs d 132 126 ls st σ Q = am_li ls 3 (fun x => am_Rn L xs d 132 127 ls (.int x :: st) σ Q) := am_r_iload_n d132_126
theorem r132_127  : am_Rn L xs d 132 127 ls st σ Q = am_Rn L xs d 132 128 ls (.int 1 :: st) σ Q := am_r_iconst d132_127 (by decide)
theorem r132_128 {a b : Int32} : am_Rn L xs d 132 128 ls (.int b :: .int a :: st) σ Q = am_Rn L xs d 132 129 ls (.int (a + b) :: st) σ Q := am_r_iadd d132_128
theorem s132_129 {b : UInt32} {i : Int32} : am_Rn L xs d 132 129 ls (.int i :: .float b :: st) σ Q = (am_in i L = true ∧ am_Rn L xs d 132 130 ls (.int (xs i.toNatClampNeg) :: st) σ Q) := am_r_sload d132_129 rfl
theorem r132_130  : am_Rn L xs d 132 130 ls st σ Q = am_la ls 0 (fun x => am_Rn L xs d 132 131 ls (x :: st) σ Q) := am_r_aload_n d132_130
theorem r132_131  : am_Rn L xs d 132 131 ls st σ Q = am_li ls 3 (fun x => am_Rn L xs d 132 132 ls (.int x :: st) σ Q) := am_r_iload_n d132_131
theorem r132_132  : am_Rn L xs d 132 132 ls st σ Q = am_Rn L xs d 132 133 ls (.int 2 :: st) σ Q := am_r_iconst d132_132 (by decide)
theorem r132_133 {a b : Int32} : am_Rn L xs d 132 133 ls (.int b :: .int a :: st) σ Q = am_Rn L xs d 132 134 ls (.int (a + b) :: st) σ Q := am_r_iadd d132_133
theorem s132_134 {b : UInt32} {i : Int32} : am_Rn L xs d 132 134 ls (.int i :: .float b :: st) σ Q = (am_in i L = true ∧ am_Rn L xs d 132 135 ls (.int (xs i.toNatClampNeg) :: st) σ Q) := am_r_sload d132_134 rfl
theorem r132_135  : am_Rn L xs d 132 135 ls st σ Q = am_la ls 0 (fun x => am_Rn L xs d 132 136 ls (x :: st) σ Q) := am_r_aload_n d132_135
theorem r132_136  : am_Rn L xs d 132 136 ls st σ Q = am_li ls 3 (fun x => am_Rn L xs d 132 137 ls (.int x :: st) σ Q) := am_r_iload_n d132_136
theorem r132_137  : am_Rn L xs d 132 137 ls st σ Q = am_Rn L xs d 132 138 ls (.int 3 :: st) σ Q := am_r_iconst d132_137 (by decide)
theorem r132_138 {a b : Int32} : am_Rn L xs d 132 138 ls (.int b :: .int a :: st) σ Q = am_Rn L xs d 132 139 ls (.int (a + b) :: st) σ Q := am_r_iadd d132_138
theorem s132_139 {b : UInt32} {i : Int32} : am_Rn L xs d 132 139 ls (.int i :: .float b :: st) σ Q = (am_in i L = true ∧ am_Rn L xs d 132 140 ls (.int (xs i.toNatClampNeg) :: st) σ Q) := am_r_sload d132_139 rfl
theorem r132_140  : am_Rn L xs d 132 140 ls st σ Q = am_la ls 0 (fun x => am_Rn L xs d 132 141 ls (x :: st) σ Q) := am_r_aload_n d132_140
theorem r132_141  : am_Rn L xs d 132 141 ls st σ Q = am_li ls 3 (fun x => am_Rn L xs d 132 142 ls (.int x :: st) σ Q) := am_r_iload_n d132_141
theorem r132_142  : am_Rn L xs d 132 142 ls st σ Q = am_Rn L xs d 132 143 ls (.int 4 :: st) σ Q := am_r_iconst d132_142 (by decide)
theorem r132_143 {a b : Int32} : am_Rn L xs d 132 143 ls (.int b :: .int a :: st) σ Q = am_Rn L xs d 132 144 ls (.int (a + b) :: st) σ Q := am_r_iadd d132_143
theorem s132_144 {b : UInt32} {i : Int32} : am_Rn L xs d 132 144 ls (.int i :: .float b :: st) σ Q = (am_in i L = true ∧ am_Rn L xs d 132 145 ls (.int (xs i.toNatClampNeg) :: st) σ Q) := am_r_sload d132_144 rfl
theorem r132_145 {a1 a2 a3 a4 : Value} {p : Nat} : am_Rn L xs (d + 1) 132 145 ls (a4 :: a3 :: a2 :: a1 :: .ref p :: st) σ Q = ((am_oc σ p = 6 ∧ st.length ≤ 4 ∧ am_ok a1 = true ∧ am_ok a2 = true ∧ am_ok a3 = true ∧ am_ok a4 = true) ∧ am_Call L xs d 84 [.ref p, a1, a2, a3, a4] σ (fun r σ1 => am_Rn L xs (d + 1) 132 148 ls (r.toList ++ st) σ1 Q)) := am_R_virtual4 d132_145 rfl ⟨by decide, rfl⟩ rfl rfl (by decide)
theorem r132_148 {a b : Int32} : am_Rn L xs d 132 148 ls (.int b :: .int a :: st) σ Q = if a = b then am_Rn L xs d 132 489 ls st σ Q else am_Rn L xs d 132 151 ls st σ Q := (am_r_icmp (t := 489) d132_148 (by decide)).trans (am_ite _ _ trivial (by simp only [am_cond, decide_eq_true_eq]))
theorem r132_153  : am_Rn L xs d 132 153 ls st σ Q = am_la ls 1 (fun x => am_Rn L xs d 132 154 ls (x :: st) σ Q) := am_r_aload_n d132_153
theorem r132_154  : am_Rn L xs d 132 154 ls st σ Q = am_la ls 0 (fun x => am_Rn L xs d 132 155 ls (x :: st) σ Q) := am_r_aload_n d132_154
theorem r132_155  : am_Rn L xs d 132 155 ls st σ Q = am_li ls 3 (fun x => am_Rn L xs d 132 156 ls (.int x :: st) σ Q) := am_r_iload_n d132_155
theorem r132_156  : am_Rn L xs d 132 156 ls st σ Q = am_Rn L xs d 132 157 ls (.int 1 :: st) σ Q := am_r_iconst d132_156 (by decide)
theorem r132_157 {a b : Int32} : am_Rn L xs d 132 157 ls (.int b :: .int a :: st) σ Q = am_Rn L xs d 132 158 ls (.int (a + b) :: st) σ Q := am_r_iadd d132_157
theorem s132_158 {b : UInt32} {i : Int32} : am_Rn L xs d 132 158 ls (.int i :: .float b :: st) σ Q = (am_in i L = true ∧ am_Rn L xs d 132 159 ls (.int (xs i.toNatClampNeg) :: st) σ Q) := am_r_sload d132_158 rfl
theorem r132_159 {a1 : Value} {p : Nat} : am_Rn L xs (d + 1) 132 159 ls (a1 :: .ref p :: st) σ Q = ((am_oc σ p = 0 ∧ st.length ≤ 4 ∧ am_ok a1 = true) ∧ am_Call L xs d 14 [.ref p, a1] σ (fun r σ1 => am_Rn L xs (d + 1) 132 162 ls (r.toList ++ st) σ1 Q)) := am_R_virtual1 d132_159 rfl ⟨by decide, rfl⟩ rfl rfl (by decide)
theorem r132_162  : am_Rn L xs d 132 162 ls st σ Q = am_la ls 2 (fun x => am_Rn L xs d 132 163 ls (x :: st) σ Q) := am_r_aload_n d132_162
theorem r132_163  : am_Rn L xs d 132 163 ls st σ Q = am_la ls 0 (fun x => am_Rn L xs d 132 164 ls (x :: st) σ Q) := am_r_aload_n d132_163
theorem r132_164  : am_Rn L xs d 132 164 ls st σ Q = am_li ls 3 (fun x => am_Rn L xs d 132 165 ls (.int x :: st) σ Q) := am_r_iload_n d132_164
theorem r132_165  : am_Rn L xs d 132 165 ls st σ Q = am_Rn L xs d 132 166 ls (.int 1 :: st) σ Q := am_r_iconst d132_165 (by decide)
theorem r132_166 {a b : Int32} : am_Rn L xs d 132 166 ls (.int b :: .int a :: st) σ Q = am_Rn L xs d 132 167 ls (.int (a + b) :: st) σ Q := am_r_iadd d132_166
theorem s132_167 {b : UInt32} {i : Int32} : am_Rn L xs d 132 167 ls (.int i :: .float b :: st) σ Q = (am_in i L = true ∧ am_Rn L xs d 132 168 ls (.int (xs i.toNatClampNeg) :: st) σ Q) := am_r_sload d132_167 rfl
theorem r132_168 {a1 : Value} {p : Nat} : am_Rn L xs (d + 1) 132 168 ls (a1 :: .ref p :: st) σ Q = ((am_oc σ p = 6 ∧ st.length ≤ 4 ∧ am_ok a1 = true) ∧ am_Call L xs d 87 [.ref p, a1] σ (fun r σ1 => am_Rn L xs (d + 1) 132 171 ls (r.toList ++ st) σ1 Q)) := am_R_virtual1 d132_168 rfl ⟨by decide, rfl⟩ rfl rfl (by decide)
theorem r132_171 {a b : Int32} : am_Rn L xs d 132 171 ls (.int b :: .int a :: st) σ Q = if a = b then am_Rn L xs d 132 489 ls st σ Q else am_Rn L xs d 132 174 ls st σ Q := (am_r_icmp (t := 489) d132_171 (by decide)).trans (am_ite _ _ trivial (by simp only [am_cond, decide_eq_true_eq]))
theorem r132_176  : am_Rn L xs d 132 176 ls st σ Q = am_la ls 1 (fun x => am_Rn L xs d 132 177 ls (x :: st) σ Q) := am_r_aload_n d132_176
theorem r132_177  : am_Rn L xs d 132 177 ls st σ Q = am_la ls 0 (fun x => am_Rn L xs d 132 178 ls (x :: st) σ Q) := am_r_aload_n d132_177
theorem r132_178  : am_Rn L xs d 132 178 ls st σ Q = am_li ls 3 (fun x => am_Rn L xs d 132 179 ls (.int x :: st) σ Q) := am_r_iload_n d132_178
theorem r132_179  : am_Rn L xs d 132 179 ls st σ Q = am_Rn L xs d 132 180 ls (.int 1 :: st) σ Q := am_r_iconst d132_179 (by decide)
theorem r132_180 {a b : Int32} : am_Rn L xs d 132 180 ls (.int b :: .int a :: st) σ Q = am_Rn L xs d 132 181 ls (.int (a + b) :: st) σ Q := am_r_iadd d132_180
theorem s132_181 {b : UInt32} {i : Int32} : am_Rn L xs d 132 181 ls (.int i :: .float b :: st) σ Q = (am_in i L = true ∧ am_Rn L xs d 132 182 ls (.int (xs i.toNatClampNeg) :: st) σ Q) := am_r_sload d132_181 rfl
theorem r132_182 {a1 : Value} {p : Nat} : am_Rn L xs (d + 1) 132 182 ls (a1 :: .ref p :: st) σ Q = ((am_oc σ p = 0 ∧ st.length ≤ 4 ∧ am_ok a1 = true) ∧ am_Call L xs d 16 [.ref p, a1] σ (fun r σ1 => am_Rn L xs (d + 1) 132 185 ls (r.toList ++ st) σ1 Q)) := am_R_virtual1 d132_182 rfl ⟨by decide, rfl⟩ rfl rfl (by decide)
theorem r132_185  : am_Rn L xs d 132 185 ls st σ Q = am_la ls 2 (fun x => am_Rn L xs d 132 186 ls (x :: st) σ Q) := am_r_aload_n d132_185
theorem r132_186  : am_Rn L xs d 132 186 ls st σ Q = am_la ls 0 (fun x => am_Rn L xs d 132 187 ls (x :: st) σ Q) := am_r_aload_n d132_186
theorem r132_187  : am_Rn L xs d 132 187 ls st σ Q = am_li ls 3 (fun x => am_Rn L xs d 132 188 ls (.int x :: st) σ Q) := am_r_iload_n d132_187
theorem r132_188  : am_Rn L xs d 132 188 ls st σ Q = am_Rn L xs d 132 189 ls (.int 1 :: st) σ Q := am_r_iconst d132_188 (by decide)
theorem r132_189 {a b : Int32} : am_Rn L xs d 132 189 ls (.int b :: .int a :: st) σ Q = am_Rn L xs d 132 190 ls (.int (a + b) :: st) σ Q := am_r_iadd d132_189
theorem s132_190 {b : UInt32} {i : Int32} : am_Rn L xs d 132 190 ls (.int i :: .float b :: st) σ Q = (am_in i L = true ∧ am_Rn L xs d 132 191 ls (.int (xs i.toNatClampNeg) :: st) σ Q) := am_r_sload d132_190 rfl
theorem r132_191 {a1 : Value} {p : Nat} : am_Rn L xs (d + 1) 132 191 ls (a1 :: .ref p :: st) σ Q = ((am_oc σ p = 6 ∧ st.length ≤ 4 ∧ am_ok a1 = true) ∧ am_Call L xs d 88 [.ref p, a1] σ (fun r σ1 => am_Rn L xs (d + 1) 132 194 ls (r.toList ++ st) σ1 Q)) := am_R_virtual1 d132_191 rfl ⟨by decide, rfl⟩ rfl rfl (by decide)
theorem r132_194 {a b : Int32} : am_Rn L xs d 132 194 ls (.int b :: .int a :: st) σ Q = if a = b then am_Rn L xs d 132 489 ls st σ Q else am_Rn L xs d 132 197 ls st σ Q := (am_r_icmp (t := 489) d132_194 (by decide)).trans (am_ite _ _ trivial (by simp only [am_cond, decide_eq_true_eq]))
theorem r132_199  : am_Rn L xs d 132 199 ls st σ Q = am_la ls 1 (fun x => am_Rn L xs d 132 200 ls (x :: st) σ Q) := am_r_aload_n d132_199
theorem r132_200  : am_Rn L xs d 132 200 ls st σ Q = am_la ls 0 (fun x => am_Rn L xs d 132 201 ls (x :: st) σ Q) := am_r_aload_n d132_200
theorem r132_201  : am_Rn L xs d 132 201 ls st σ Q = am_li ls 3 (fun x => am_Rn L xs d 132 202 ls (.int x :: st) σ Q) := am_r_iload_n d132_201
theorem r132_202  : am_Rn L xs d 132 202 ls st σ Q = am_Rn L xs d 132 203 ls (.int 1 :: st) σ Q := am_r_iconst d132_202 (by decide)
theorem r132_203 {a b : Int32} : am_Rn L xs d 132 203 ls (.int b :: .int a :: st) σ Q = am_Rn L xs d 132 204 ls (.int (a + b) :: st) σ Q := am_r_iadd d132_203
theorem s132_204 {b : UInt32} {i : Int32} : am_Rn L xs d 132 204 ls (.int i :: .float b :: st) σ Q = (am_in i L = true ∧ am_Rn L xs d 132 205 ls (.int (xs i.toNatClampNeg) :: st) σ Q) := am_r_sload d132_204 rfl
theorem r132_205  : am_Rn L xs d 132 205 ls st σ Q = am_la ls 0 (fun x => am_Rn L xs d 132 206 ls (x :: st) σ Q) := am_r_aload_n d132_205
theorem r132_206  : am_Rn L xs d 132 206 ls st σ Q = am_li ls 3 (fun x => am_Rn L xs d 132 207 ls (.int x :: st) σ Q) := am_r_iload_n d132_206
theorem r132_207  : am_Rn L xs d 132 207 ls st σ Q = am_Rn L xs d 132 208 ls (.int 2 :: st) σ Q := am_r_iconst d132_207 (by decide)
theorem r132_208 {a b : Int32} : am_Rn L xs d 132 208 ls (.int b :: .int a :: st) σ Q = am_Rn L xs d 132 209 ls (.int (a + b) :: st) σ Q := am_r_iadd d132_208
theorem s132_209 {b : UInt32} {i : Int32} : am_Rn L xs d 132 209 ls (.int i :: .float b :: st) σ Q = (am_in i L = true ∧ am_Rn L xs d 132 210 ls (.int (xs i.toNatClampNeg) :: st) σ Q) := am_r_sload d132_209 rfl
theorem r132_210 {a1 a2 : Value} {p : Nat} : am_Rn L xs (d + 1) 132 210 ls (a2 :: a1 :: .ref p :: st) σ Q = ((am_oc σ p = 0 ∧ st.length ≤ 4 ∧ am_ok a1 = true ∧ am_ok a2 = true) ∧ am_Call L xs d 17 [.ref p, a1, a2] σ (fun r σ1 => am_Rn L xs (d + 1) 132 213 ls (r.toList ++ st) σ1 Q)) := am_R_virtual2 d132_210 rfl ⟨by decide, rfl⟩ rfl rfl (by decide)
theorem r132_213  : am_Rn L xs d 132 213 ls st σ Q = am_la ls 2 (fun x => am_Rn L xs d 132 214 ls (x :: st) σ Q) := am_r_aload_n d132_213
theorem r132_214  : am_Rn L xs d 132 214 ls st σ Q = am_la ls 0 (fun x => am_Rn L xs d 132 215 ls (x :: st) σ Q) := am_r_aload_n d132_214
theorem r132_215  : am_Rn L xs d 132 215 ls st σ Q = am_li ls 3 (fun x => am_Rn L xs d 132 216 ls (.int x :: st) σ Q) := am_r_iload_n d132_215
theorem r132_216  : am_Rn L xs d 132 216 ls st σ Q = am_Rn L xs d 132 217 ls (.int 1 :: st) σ Q := am_r_iconst d132_216 (by decide)
theorem r132_217 {a b : Int32} : am_Rn L xs d 132 217 ls (.int b :: .int a :: st) σ Q = am_Rn L xs d 132 218 ls (.int (a + b) :: st) σ Q := am_r_iadd d132_217
theorem s132_218 {b : UInt32} {i : Int32} : am_Rn L xs d 132 218 ls (.int i :: .float b :: st) σ Q = (am_in i L = true ∧ am_Rn L xs d 132 219 ls (.int (xs i.toNatClampNeg) :: st) σ Q) := am_r_sload d132_218 rfl
theorem r132_219  : am_Rn L xs d 132 219 ls st σ Q = am_la ls 0 (fun x => am_Rn L xs d 132 220 ls (x :: st) σ Q) := am_r_aload_n d132_219
theorem r132_220  : am_Rn L xs d 132 220 ls st σ Q = am_li ls 3 (fun x => am_Rn L xs d 132 221 ls (.int x :: st) σ Q) := am_r_iload_n d132_220
theorem r132_221  : am_Rn L xs d 132 221 ls st σ Q = am_Rn L xs d 132 222 ls (.int 2 :: st) σ Q := am_r_iconst d132_221 (by decide)
theorem r132_222 {a b : Int32} : am_Rn L xs d 132 222 ls (.int b :: .int a :: st) σ Q = am_Rn L xs d 132 223 ls (.int (a + b) :: st) σ Q := am_r_iadd d132_222
theorem s132_223 {b : UInt32} {i : Int32} : am_Rn L xs d 132 223 ls (.int i :: .float b :: st) σ Q = (am_in i L = true ∧ am_Rn L xs d 132 224 ls (.int (xs i.toNatClampNeg) :: st) σ Q) := am_r_sload d132_223 rfl
theorem r132_224 {a1 a2 : Value} {p : Nat} : am_Rn L xs (d + 1) 132 224 ls (a2 :: a1 :: .ref p :: st) σ Q = ((am_oc σ p = 6 ∧ st.length ≤ 4 ∧ am_ok a1 = true ∧ am_ok a2 = true) ∧ am_Call L xs d 89 [.ref p, a1, a2] σ (fun r σ1 => am_Rn L xs (d + 1) 132 227 ls (r.toList ++ st) σ1 Q)) := am_R_virtual2 d132_224 rfl ⟨by decide, rfl⟩ rfl rfl (by decide)
theorem r132_227 {a b : Int32} : am_Rn L xs d 132 227 ls (.int b :: .int a :: st) σ Q = if a = b then am_Rn L xs d 132 489 ls st σ Q else am_Rn L xs d 132 230 ls st σ Q := (am_r_icmp (t := 489) d132_227 (by decide)).trans (am_ite _ _ trivial (by simp only [am_cond, decide_eq_true_eq]))
theorem r132_232  : am_Rn L xs d 132 232 ls st σ Q = am_la ls 1 (fun x => am_Rn L xs d 132 233 ls (x :: st) σ Q) := am_r_aload_n d132_232
theorem r132_233  : am_Rn L xs d 132 233 ls st σ Q = am_la ls 0 (fun x => am_Rn L xs d 132 234 ls (x :: st) σ Q) := am_r_aload_n d132_233
theorem r132_234  : am_Rn L xs d 132 234 ls st σ Q = am_li ls 3 (fun x => am_Rn L xs d 132 235 ls (.int x :: st) σ Q) := am_r_iload_n d132_234
theorem r132_235  : am_Rn L xs d 132 235 ls st σ Q = am_Rn L xs d 132 236 ls (.int 1 :: st) σ Q := am_r_iconst d132_235 (by decide)
theorem r132_236 {a b : Int32} : am_Rn L xs d 132 236 ls (.int b :: .int a :: st) σ Q = am_Rn L xs d 132 237 ls (.int (a + b) :: st) σ Q := am_r_iadd d132_236
theorem s132_237 {b : UInt32} {i : Int32} : am_Rn L xs d 132 237 ls (.int i :: .float b :: st) σ Q = (am_in i L = true ∧ am_Rn L xs d 132 238 ls (.int (xs i.toNatClampNeg) :: st) σ Q) := am_r_sload d132_237 rfl
theorem r132_238  : am_Rn L xs d 132 238 ls st σ Q = am_la ls 0 (fun x => am_Rn L xs d 132 239 ls (x :: st) σ Q) := am_r_aload_n d132_238
theorem r132_239  : am_Rn L xs d 132 239 ls st σ Q = am_li ls 3 (fun x => am_Rn L xs d 132 240 ls (.int x :: st) σ Q) := am_r_iload_n d132_239
theorem r132_240  : am_Rn L xs d 132 240 ls st σ Q = am_Rn L xs d 132 241 ls (.int 2 :: st) σ Q := am_r_iconst d132_240 (by decide)
theorem r132_241 {a b : Int32} : am_Rn L xs d 132 241 ls (.int b :: .int a :: st) σ Q = am_Rn L xs d 132 242 ls (.int (a + b) :: st) σ Q := am_r_iadd d132_241
theorem s132_242 {b : UInt32} {i : Int32} : am_Rn L xs d 132 242 ls (.int i :: .float b :: st) σ Q = (am_in i L = true ∧ am_Rn L xs d 132 243 ls (.int (xs i.toNatClampNeg) :: st) σ Q) := am_r_sload d132_242 rfl
theorem r132_243  : am_Rn L xs d 132 243 ls st σ Q = am_la ls 0 (fun x => am_Rn L xs d 132 244 ls (x :: st) σ Q) := am_r_aload_n d132_243
theorem r132_244  : am_Rn L xs d 132 244 ls st σ Q = am_li ls 3 (fun x => am_Rn L xs d 132 245 ls (.int x :: st) σ Q) := am_r_iload_n d132_244
theorem r132_245  : am_Rn L xs d 132 245 ls st σ Q = am_Rn L xs d 132 246 ls (.int 3 :: st) σ Q := am_r_iconst d132_245 (by decide)
theorem r132_246 {a b : Int32} : am_Rn L xs d 132 246 ls (.int b :: .int a :: st) σ Q = am_Rn L xs d 132 247 ls (.int (a + b) :: st) σ Q := am_r_iadd d132_246
theorem s132_247 {b : UInt32} {i : Int32} : am_Rn L xs d 132 247 ls (.int i :: .float b :: st) σ Q = (am_in i L = true ∧ am_Rn L xs d 132 248 ls (.int (xs i.toNatClampNeg) :: st) σ Q) := am_r_sload d132_247 rfl
theorem r132_248  : am_Rn L xs d 132 248 ls st σ Q = am_la ls 0 (fun x => am_Rn L xs d 132 249 ls (x :: st) σ Q) := am_r_aload_n d132_248
theorem r132_249  : am_Rn L xs d 132 249 ls st σ Q = am_li ls 3 (fun x => am_Rn L xs d 132 250 ls (.int x :: st) σ Q) := am_r_iload_n d132_249
theorem r132_250  : am_Rn L xs d 132 250 ls st σ Q = am_Rn L xs d 132 251 ls (.int 4 :: st) σ Q := am_r_iconst d132_250 (by decide)
theorem r132_251 {a b : Int32} : am_Rn L xs d 132 251 ls (.int b :: .int a :: st) σ Q = am_Rn L xs d 132 252 ls (.int (a + b) :: st) σ Q := am_r_iadd d132_251
theorem s132_252 {b : UInt32} {i : Int32} : am_Rn L xs d 132 252 ls (.int i :: .float b :: st) σ Q = (am_in i L = true ∧ am_Rn L xs d 132 253 ls (.int (xs i.toNatClampNeg) :: st) σ Q) := am_r_sload d132_252 rfl
theorem r132_253 {a1 a2 a3 a4 : Value} {p : Nat} : am_Rn L xs (d + 1) 132 253 ls (a4 :: a3 :: a2 :: a1 :: .ref p :: st) σ Q = ((am_oc σ p = 0 ∧ st.length ≤ 4 ∧ am_ok a1 = true ∧ am_ok a2 = true ∧ am_ok a3 = true ∧ am_ok a4 = true) ∧ am_Call L xs d 19 [.ref p, a1, a2, a3, a4] σ (fun r σ1 => am_Rn L xs (d + 1) 132 256 ls (r.toList ++ st) σ1 Q)) := am_R_virtual4 d132_253 rfl ⟨by decide, rfl⟩ rfl rfl (by decide)
theorem r132_256  : am_Rn L xs d 132 256 ls st σ Q = am_la ls 2 (fun x => am_Rn L xs d 132 257 ls (x :: st) σ Q) := am_r_aload_n d132_256
theorem r132_257  : am_Rn L xs d 132 257 ls st σ Q = am_la ls 0 (fun x => am_Rn L xs d 132 258 ls (x :: st) σ Q) := am_r_aload_n d132_257
theorem r132_258  : am_Rn L xs d 132 258 ls st σ Q = am_li ls 3 (fun x => am_Rn L xs d 132 259 ls (.int x :: st) σ Q) := am_r_iload_n d132_258
theorem r132_259  : am_Rn L xs d 132 259 ls st σ Q = am_Rn L xs d 132 260 ls (.int 1 :: st) σ Q := am_r_iconst d132_259 (by decide)
theorem r132_260 {a b : Int32} : am_Rn L xs d 132 260 ls (.int b :: .int a :: st) σ Q = am_Rn L xs d 132 261 ls (.int (a + b) :: st) σ Q := am_r_iadd d132_260
theorem s132_261 {b : UInt32} {i : Int32} : am_Rn L xs d 132 261 ls (.int i :: .float b :: st) σ Q = (am_in i L = true ∧ am_Rn L xs d 132 262 ls (.int (xs i.toNatClampNeg) :: st) σ Q) := am_r_sload d132_261 rfl
theorem r132_262  : am_Rn L xs d 132 262 ls st σ Q = am_la ls 0 (fun x => am_Rn L xs d 132 263 ls (x :: st) σ Q) := am_r_aload_n d132_262
theorem r132_263  : am_Rn L xs d 132 263 ls st σ Q = am_li ls 3 (fun x => am_Rn L xs d 132 264 ls (.int x :: st) σ Q) := am_r_iload_n d132_263
theorem r132_264  : am_Rn L xs d 132 264 ls st σ Q = am_Rn L xs d 132 265 ls (.int 2 :: st) σ Q := am_r_iconst d132_264 (by decide)
theorem r132_265 {a b : Int32} : am_Rn L xs d 132 265 ls (.int b :: .int a :: st) σ Q = am_Rn L xs d 132 266 ls (.int (a + b) :: st) σ Q := am_r_iadd d132_265
theorem s132_266 {b : UInt32} {i : Int32} : am_Rn L xs d 132 266 ls (.int i :: .float b :: st) σ Q = (am_in i L = true ∧ am_Rn L xs d 132 267 ls (.int (xs i.toNatClampNeg) :: st) σ Q) := am_r_sload d132_266 rfl
theorem r132_267  : am_Rn L xs d 132 267 ls st σ Q = am_la ls 0 (fun x => am_Rn L xs d 132 268 ls (x :: st) σ Q) := am_r_aload_n d132_267
theorem r132_268  : am_Rn L xs d 132 268 ls st σ Q = am_li ls 3 (fun x => am_Rn L xs d 132 269 ls (.int x :: st) σ Q) := am_r_iload_n d132_268
theorem r132_269  : am_Rn L xs d 132 269 ls st σ Q = am_Rn L xs d 132 270 ls (.int 3 :: st) σ Q := am_r_iconst d132_269 (by decide)
theorem r132_270 {a b : Int32} : am_Rn L xs d 132 270 ls (.int b :: .int a :: st) σ Q = am_Rn L xs d 132 271 ls (.int (a + b) :: st) σ Q := am_r_iadd d132_270
theorem s132_271 {b : UInt32} {i : Int32} : am_Rn L xs d 132 271 ls (.int i :: .float b :: st) σ Q = (am_in i L = true ∧ am_Rn L xs d 132 272 ls (.int (xs i.toNatClampNeg) :: st) σ Q) := am_r_sload d132_271 rfl
theorem r132_272  : am_Rn L xs d 132 272 ls st σ Q = am_la ls 0 (fun x => am_Rn L xs d 132 273 ls (x :: st) σ Q) := am_r_aload_n d132_272
theorem r132_273  : am_Rn L xs d 132 273 ls st σ Q = am_li ls 3 (fun x => am_Rn L xs d 132 274 ls (.int x :: st) σ Q) := am_r_iload_n d132_273
theorem r132_274  : am_Rn L xs d 132 274 ls st σ Q = am_Rn L xs d 132 275 ls (.int 4 :: st) σ Q := am_r_iconst d132_274 (by decide)
theorem r132_275 {a b : Int32} : am_Rn L xs d 132 275 ls (.int b :: .int a :: st) σ Q = am_Rn L xs d 132 276 ls (.int (a + b) :: st) σ Q := am_r_iadd d132_275
theorem s132_276 {b : UInt32} {i : Int32} : am_Rn L xs d 132 276 ls (.int i :: .float b :: st) σ Q = (am_in i L = true ∧ am_Rn L xs d 132 277 ls (.int (xs i.toNatClampNeg) :: st) σ Q) := am_r_sload d132_276 rfl
theorem r132_277 {a1 a2 a3 a4 : Value} {p : Nat} : am_Rn L xs (d + 1) 132 277 ls (a4 :: a3 :: a2 :: a1 :: .ref p :: st) σ Q = ((am_oc σ p = 6 ∧ st.length ≤ 4 ∧ am_ok a1 = true ∧ am_ok a2 = true ∧ am_ok a3 = true ∧ am_ok a4 = true) ∧ am_Call L xs d 90 [.ref p, a1, a2, a3, a4] σ (fun r σ1 => am_Rn L xs (d + 1) 132 280 ls (r.toList ++ st) σ1 Q)) := am_R_virtual4 d132_277 rfl ⟨by decide, rfl⟩ rfl rfl (by decide)
theorem r132_280 {a b : Int32} : am_Rn L xs d 132 280 ls (.int b :: .int a :: st) σ Q = if a = b then am_Rn L xs d 132 489 ls st σ Q else am_Rn L xs d 132 283 ls st σ Q := (am_r_icmp (t := 489) d132_280 (by decide)).trans (am_ite _ _ trivial (by simp only [am_cond, decide_eq_true_eq]))
theorem r132_285  : am_Rn L xs d 132 285 ls st σ Q = am_la ls 1 (fun x => am_Rn L xs d 132 286 ls (x :: st) σ Q) := am_r_aload_n d132_285
theorem r132_286  : am_Rn L xs d 132 286 ls st σ Q = am_la ls 0 (fun x => am_Rn L xs d 132 287 ls (x :: st) σ Q) := am_r_aload_n d132_286
theorem r132_287  : am_Rn L xs d 132 287 ls st σ Q = am_li ls 3 (fun x => am_Rn L xs d 132 288 ls (.int x :: st) σ Q) := am_r_iload_n d132_287
theorem r132_288  : am_Rn L xs d 132 288 ls st σ Q = am_Rn L xs d 132 289 ls (.int 1 :: st) σ Q := am_r_iconst d132_288 (by decide)
theorem r132_289 {a b : Int32} : am_Rn L xs d 132 289 ls (.int b :: .int a :: st) σ Q = am_Rn L xs d 132 290 ls (.int (a + b) :: st) σ Q := am_r_iadd d132_289
theorem s132_290 {b : UInt32} {i : Int32} : am_Rn L xs d 132 290 ls (.int i :: .float b :: st) σ Q = (am_in i L = true ∧ am_Rn L xs d 132 291 ls (.int (xs i.toNatClampNeg) :: st) σ Q) := am_r_sload d132_290 rfl
theorem r132_291  : am_Rn L xs d 132 291 ls st σ Q = am_la ls 0 (fun x => am_Rn L xs d 132 292 ls (x :: st) σ Q) := am_r_aload_n d132_291
theorem r132_292  : am_Rn L xs d 132 292 ls st σ Q = am_li ls 3 (fun x => am_Rn L xs d 132 293 ls (.int x :: st) σ Q) := am_r_iload_n d132_292
theorem r132_293  : am_Rn L xs d 132 293 ls st σ Q = am_Rn L xs d 132 294 ls (.int 2 :: st) σ Q := am_r_iconst d132_293 (by decide)
theorem r132_294 {a b : Int32} : am_Rn L xs d 132 294 ls (.int b :: .int a :: st) σ Q = am_Rn L xs d 132 295 ls (.int (a + b) :: st) σ Q := am_r_iadd d132_294
theorem s132_295 {b : UInt32} {i : Int32} : am_Rn L xs d 132 295 ls (.int i :: .float b :: st) σ Q = (am_in i L = true ∧ am_Rn L xs d 132 296 ls (.int (xs i.toNatClampNeg) :: st) σ Q) := am_r_sload d132_295 rfl
theorem r132_296 {a1 a2 : Value} {p : Nat} : am_Rn L xs (d + 1) 132 296 ls (a2 :: a1 :: .ref p :: st) σ Q = ((am_oc σ p = 0 ∧ st.length ≤ 4 ∧ am_ok a1 = true ∧ am_ok a2 = true) ∧ am_Call L xs d 21 [.ref p, a1, a2] σ (fun r σ1 => am_Rn L xs (d + 1) 132 299 ls (r.toList ++ st) σ1 Q)) := am_R_virtual2 d132_296 rfl ⟨by decide, rfl⟩ rfl rfl (by decide)
theorem r132_299  : am_Rn L xs d 132 299 ls st σ Q = am_la ls 2 (fun x => am_Rn L xs d 132 300 ls (x :: st) σ Q) := am_r_aload_n d132_299
theorem r132_300  : am_Rn L xs d 132 300 ls st σ Q = am_la ls 0 (fun x => am_Rn L xs d 132 301 ls (x :: st) σ Q) := am_r_aload_n d132_300
theorem r132_301  : am_Rn L xs d 132 301 ls st σ Q = am_li ls 3 (fun x => am_Rn L xs d 132 302 ls (.int x :: st) σ Q) := am_r_iload_n d132_301
theorem r132_302  : am_Rn L xs d 132 302 ls st σ Q = am_Rn L xs d 132 303 ls (.int 1 :: st) σ Q := am_r_iconst d132_302 (by decide)
theorem r132_303 {a b : Int32} : am_Rn L xs d 132 303 ls (.int b :: .int a :: st) σ Q = am_Rn L xs d 132 304 ls (.int (a + b) :: st) σ Q := am_r_iadd d132_303
theorem s132_304 {b : UInt32} {i : Int32} : am_Rn L xs d 132 304 ls (.int i :: .float b :: st) σ Q = (am_in i L = true ∧ am_Rn L xs d 132 305 ls (.int (xs i.toNatClampNeg) :: st) σ Q) := am_r_sload d132_304 rfl
theorem r132_305  : am_Rn L xs d 132 305 ls st σ Q = am_la ls 0 (fun x => am_Rn L xs d 132 306 ls (x :: st) σ Q) := am_r_aload_n d132_305
theorem r132_306  : am_Rn L xs d 132 306 ls st σ Q = am_li ls 3 (fun x => am_Rn L xs d 132 307 ls (.int x :: st) σ Q) := am_r_iload_n d132_306
theorem r132_307  : am_Rn L xs d 132 307 ls st σ Q = am_Rn L xs d 132 308 ls (.int 2 :: st) σ Q := am_r_iconst d132_307 (by decide)
theorem r132_308 {a b : Int32} : am_Rn L xs d 132 308 ls (.int b :: .int a :: st) σ Q = am_Rn L xs d 132 309 ls (.int (a + b) :: st) σ Q := am_r_iadd d132_308
theorem s132_309 {b : UInt32} {i : Int32} : am_Rn L xs d 132 309 ls (.int i :: .float b :: st) σ Q = (am_in i L = true ∧ am_Rn L xs d 132 310 ls (.int (xs i.toNatClampNeg) :: st) σ Q) := am_r_sload d132_309 rfl
theorem r132_310 {a1 a2 : Value} {p : Nat} : am_Rn L xs (d + 1) 132 310 ls (a2 :: a1 :: .ref p :: st) σ Q = ((am_oc σ p = 6 ∧ st.length ≤ 4 ∧ am_ok a1 = true ∧ am_ok a2 = true) ∧ am_Call L xs d 93 [.ref p, a1, a2] σ (fun r σ1 => am_Rn L xs (d + 1) 132 313 ls (r.toList ++ st) σ1 Q)) := am_R_virtual2 d132_310 rfl ⟨by decide, rfl⟩ rfl rfl (by decide)
theorem r132_313 {a b : Int32} : am_Rn L xs d 132 313 ls (.int b :: .int a :: st) σ Q = if a = b then am_Rn L xs d 132 489 ls st σ Q else am_Rn L xs d 132 316 ls st σ Q := (am_r_icmp (t := 489) d132_313 (by decide)).trans (am_ite _ _ trivial (by simp only [am_cond, decide_eq_true_eq]))
theorem r132_318  : am_Rn L xs d 132 318 ls st σ Q = am_la ls 1 (fun x => am_Rn L xs d 132 319 ls (x :: st) σ Q) := am_r_aload_n d132_318
theorem r132_319  : am_Rn L xs d 132 319 ls st σ Q = am_la ls 0 (fun x => am_Rn L xs d 132 320 ls (x :: st) σ Q) := am_r_aload_n d132_319
theorem r132_320  : am_Rn L xs d 132 320 ls st σ Q = am_li ls 3 (fun x => am_Rn L xs d 132 321 ls (.int x :: st) σ Q) := am_r_iload_n d132_320
theorem r132_321  : am_Rn L xs d 132 321 ls st σ Q = am_Rn L xs d 132 322 ls (.int 1 :: st) σ Q := am_r_iconst d132_321 (by decide)
theorem r132_322 {a b : Int32} : am_Rn L xs d 132 322 ls (.int b :: .int a :: st) σ Q = am_Rn L xs d 132 323 ls (.int (a + b) :: st) σ Q := am_r_iadd d132_322
theorem s132_323 {b : UInt32} {i : Int32} : am_Rn L xs d 132 323 ls (.int i :: .float b :: st) σ Q = (am_in i L = true ∧ am_Rn L xs d 132 324 ls (.int (xs i.toNatClampNeg) :: st) σ Q) := am_r_sload d132_323 rfl
theorem r132_324 {a1 : Value} {p : Nat} : am_Rn L xs (d + 1) 132 324 ls (a1 :: .ref p :: st) σ Q = ((am_oc σ p = 0 ∧ st.length ≤ 4 ∧ am_ok a1 = true) ∧ am_Call L xs d 56 [.ref p, a1] σ (fun r σ1 => am_Rn L xs (d + 1) 132 327 ls (r.toList ++ st) σ1 Q)) := am_R_virtual1 d132_324 rfl ⟨by decide, rfl⟩ rfl rfl (by decide)
theorem r132_327  : am_Rn L xs d 132 327 ls st σ Q = am_la ls 2 (fun x => am_Rn L xs d 132 328 ls (x :: st) σ Q) := am_r_aload_n d132_327
theorem r132_328  : am_Rn L xs d 132 328 ls st σ Q = am_la ls 0 (fun x => am_Rn L xs d 132 329 ls (x :: st) σ Q) := am_r_aload_n d132_328
theorem r132_329  : am_Rn L xs d 132 329 ls st σ Q = am_li ls 3 (fun x => am_Rn L xs d 132 330 ls (.int x :: st) σ Q) := am_r_iload_n d132_329
theorem r132_330  : am_Rn L xs d 132 330 ls st σ Q = am_Rn L xs d 132 331 ls (.int 1 :: st) σ Q := am_r_iconst d132_330 (by decide)
theorem r132_331 {a b : Int32} : am_Rn L xs d 132 331 ls (.int b :: .int a :: st) σ Q = am_Rn L xs d 132 332 ls (.int (a + b) :: st) σ Q := am_r_iadd d132_331
theorem s132_332 {b : UInt32} {i : Int32} : am_Rn L xs d 132 332 ls (.int i :: .float b :: st) σ Q = (am_in i L = true ∧ am_Rn L xs d 132 333 ls (.int (xs i.toNatClampNeg) :: st) σ Q) := am_r_sload d132_332 rfl
theorem r132_333 {a1 : Value} {p : Nat} : am_Rn L xs (d + 1) 132 333 ls (a1 :: .ref p :: st) σ Q = ((am_oc σ p = 6 ∧ st.length ≤ 4 ∧ am_ok a1 = true) ∧ am_Call L xs d 109 [.ref p, a1] σ (fun r σ1 => am_Rn L xs (d + 1) 132 336 ls (r.toList ++ st) σ1 Q)) := am_R_virtual1 d132_333 rfl ⟨by decide, rfl⟩ rfl rfl (by decide)
theorem r132_336 {a b : Int32} : am_Rn L xs d 132 336 ls (.int b :: .int a :: st) σ Q = if a = b then am_Rn L xs d 132 489 ls st σ Q else am_Rn L xs d 132 339 ls st σ Q := (am_r_icmp (t := 489) d132_336 (by decide)).trans (am_ite _ _ trivial (by simp only [am_cond, decide_eq_true_eq]))
theorem r132_341  : am_Rn L xs d 132 341 ls st σ Q = am_la ls 1 (fun x => am_Rn L xs d 132 342 ls (x :: st) σ Q) := am_r_aload_n d132_341
theorem r132_342  : am_Rn L xs d 132 342 ls st σ Q = am_la ls 0 (fun x => am_Rn L xs d 132 343 ls (x :: st) σ Q) := am_r_aload_n d132_342
theorem r132_343  : am_Rn L xs d 132 343 ls st σ Q = am_li ls 3 (fun x => am_Rn L xs d 132 344 ls (.int x :: st) σ Q) := am_r_iload_n d132_343
theorem r132_344  : am_Rn L xs d 132 344 ls st σ Q = am_Rn L xs d 132 345 ls (.int 1 :: st) σ Q := am_r_iconst d132_344 (by decide)
theorem r132_345 {a b : Int32} : am_Rn L xs d 132 345 ls (.int b :: .int a :: st) σ Q = am_Rn L xs d 132 346 ls (.int (a + b) :: st) σ Q := am_r_iadd d132_345
theorem s132_346 {b : UInt32} {i : Int32} : am_Rn L xs d 132 346 ls (.int i :: .float b :: st) σ Q = (am_in i L = true ∧ am_Rn L xs d 132 347 ls (.int (xs i.toNatClampNeg) :: st) σ Q) := am_r_sload d132_346 rfl
theorem r132_347  : am_Rn L xs d 132 347 ls st σ Q = am_la ls 0 (fun x => am_Rn L xs d 132 348 ls (x :: st) σ Q) := am_r_aload_n d132_347
theorem r132_348  : am_Rn L xs d 132 348 ls st σ Q = am_li ls 3 (fun x => am_Rn L xs d 132 349 ls (.int x :: st) σ Q) := am_r_iload_n d132_348
theorem r132_349  : am_Rn L xs d 132 349 ls st σ Q = am_Rn L xs d 132 350 ls (.int 2 :: st) σ Q := am_r_iconst d132_349 (by decide)
theorem r132_350 {a b : Int32} : am_Rn L xs d 132 350 ls (.int b :: .int a :: st) σ Q = am_Rn L xs d 132 351 ls (.int (a + b) :: st) σ Q := am_r_iadd d132_350
theorem s132_351 {b : UInt32} {i : Int32} : am_Rn L xs d 132 351 ls (.int i :: .float b :: st) σ Q = (am_in i L = true ∧ am_Rn L xs d 132 352 ls (.int (xs i.toNatClampNeg) :: st) σ Q) := am_r_sload d132_351 rfl
theorem r132_352 {a1 a2 : Value} {p : Nat} : am_Rn L xs (d + 1) 132 352 ls (a2 :: a1 :: .ref p :: st) σ Q = ((am_oc σ p = 0 ∧ st.length ≤ 4 ∧ am_ok a1 = true ∧ am_ok a2 = true) ∧ am_Call L xs d 57 [.ref p, a1, a2] σ (fun r σ1 => am_Rn L xs (d + 1) 132 355 ls (r.toList ++ st) σ1 Q)) := am_R_virtual2 d132_352 rfl ⟨by decide, rfl⟩ rfl rfl (by decide)
theorem r132_355  : am_Rn L xs d 132 355 ls st σ Q = am_la ls 2 (fun x => am_Rn L xs d 132 356 ls (x :: st) σ Q) := am_r_aload_n d132_355
theorem r132_356  : am_Rn L xs d 132 356 ls st σ Q = am_la ls 0 (fun x => am_Rn L xs d 132 357 ls (x :: st) σ Q) := am_r_aload_n d132_356
theorem r132_357  : am_Rn L xs d 132 357 ls st σ Q = am_li ls 3 (fun x => am_Rn L xs d 132 358 ls (.int x :: st) σ Q) := am_r_iload_n d132_357
theorem r132_358  : am_Rn L xs d 132 358 ls st σ Q = am_Rn L xs d 132 359 ls (.int 1 :: st) σ Q := am_r_iconst d132_358 (by decide)
theorem r132_359 {a b : Int32} : am_Rn L xs d 132 359 ls (.int b :: .int a :: st) σ Q = am_Rn L xs d 132 360 ls (.int (a + b) :: st) σ Q := am_r_iadd d132_359
theorem s132_360 {b : UInt32} {i : Int32} : am_Rn L xs d 132 360 ls (.int i :: .float b :: st) σ Q = (am_in i L = true ∧ am_Rn L xs d 132 361 ls (.int (xs i.toNatClampNeg) :: st) σ Q) := am_r_sload d132_360 rfl
theorem r132_361  : am_Rn L xs d 132 361 ls st σ Q = am_la ls 0 (fun x => am_Rn L xs d 132 362 ls (x :: st) σ Q) := am_r_aload_n d132_361
theorem r132_362  : am_Rn L xs d 132 362 ls st σ Q = am_li ls 3 (fun x => am_Rn L xs d 132 363 ls (.int x :: st) σ Q) := am_r_iload_n d132_362
theorem r132_363  : am_Rn L xs d 132 363 ls st σ Q = am_Rn L xs d 132 364 ls (.int 2 :: st) σ Q := am_r_iconst d132_363 (by decide)
theorem r132_364 {a b : Int32} : am_Rn L xs d 132 364 ls (.int b :: .int a :: st) σ Q = am_Rn L xs d 132 365 ls (.int (a + b) :: st) σ Q := am_r_iadd d132_364
theorem s132_365 {b : UInt32} {i : Int32} : am_Rn L xs d 132 365 ls (.int i :: .float b :: st) σ Q = (am_in i L = true ∧ am_Rn L xs d 132 366 ls (.int (xs i.toNatClampNeg) :: st) σ Q) := am_r_sload d132_365 rfl
theorem r132_366 {a1 a2 : Value} {p : Nat} : am_Rn L xs (d + 1) 132 366 ls (a2 :: a1 :: .ref p :: st) σ Q = ((am_oc σ p = 6 ∧ st.length ≤ 4 ∧ am_ok a1 = true ∧ am_ok a2 = true) ∧ am_Call L xs d 110 [.ref p, a1, a2] σ (fun r σ1 => am_Rn L xs (d + 1) 132 369 ls (r.toList ++ st) σ1 Q)) := am_R_virtual2 d132_366 rfl ⟨by decide, rfl⟩ rfl rfl (by decide)
theorem r132_369 {a b : Int32} : am_Rn L xs d 132 369 ls (.int b :: .int a :: st) σ Q = if a = b then am_Rn L xs d 132 489 ls st σ Q else am_Rn L xs d 132 372 ls st σ Q := (am_r_icmp (t := 489) d132_369 (by decide)).trans (am_ite _ _ trivial (by simp only [am_cond, decide_eq_true_eq]))
theorem r132_374  : am_Rn L xs d 132 374 ls st σ Q = am_la ls 1 (fun x => am_Rn L xs d 132 375 ls (x :: st) σ Q) := am_r_aload_n d132_374
theorem r132_375  : am_Rn L xs d 132 375 ls st σ Q = am_la ls 0 (fun x => am_Rn L xs d 132 376 ls (x :: st) σ Q) := am_r_aload_n d132_375
theorem r132_376  : am_Rn L xs d 132 376 ls st σ Q = am_li ls 3 (fun x => am_Rn L xs d 132 377 ls (.int x :: st) σ Q) := am_r_iload_n d132_376
theorem r132_377  : am_Rn L xs d 132 377 ls st σ Q = am_Rn L xs d 132 378 ls (.int 1 :: st) σ Q := am_r_iconst d132_377 (by decide)
theorem r132_378 {a b : Int32} : am_Rn L xs d 132 378 ls (.int b :: .int a :: st) σ Q = am_Rn L xs d 132 379 ls (.int (a + b) :: st) σ Q := am_r_iadd d132_378
theorem s132_379 {b : UInt32} {i : Int32} : am_Rn L xs d 132 379 ls (.int i :: .float b :: st) σ Q = (am_in i L = true ∧ am_Rn L xs d 132 380 ls (.int (xs i.toNatClampNeg) :: st) σ Q) := am_r_sload d132_379 rfl
theorem r132_380 {a1 : Value} {p : Nat} : am_Rn L xs (d + 1) 132 380 ls (a1 :: .ref p :: st) σ Q = ((am_oc σ p = 0 ∧ st.length ≤ 4 ∧ am_ok a1 = true) ∧ am_Call L xs d 59 [.ref p, a1] σ (fun r σ1 => am_Rn L xs (d + 1) 132 383 ls (r.toList ++ st) σ1 Q)) := am_R_virtual1 d132_380 rfl ⟨by decide, rfl⟩ rfl rfl (by decide)
theorem r132_383  : am_Rn L xs d 132 383 ls st σ Q = am_la ls 2 (fun x => am_Rn L xs d 132 384 ls (x :: st) σ Q) := am_r_aload_n d132_383
theorem r132_384  : am_Rn L xs d 132 384 ls st σ Q = am_la ls 0 (fun x => am_Rn L xs d 132 385 ls (x :: st) σ Q) := am_r_aload_n d132_384
theorem r132_385  : am_Rn L xs d 132 385 ls st σ Q = am_li ls 3 (fun x => am_Rn L xs d 132 386 ls (.int x :: st) σ Q) := am_r_iload_n d132_385
theorem r132_386  : am_Rn L xs d 132 386 ls st σ Q = am_Rn L xs d 132 387 ls (.int 1 :: st) σ Q := am_r_iconst d132_386 (by decide)
theorem r132_387 {a b : Int32} : am_Rn L xs d 132 387 ls (.int b :: .int a :: st) σ Q = am_Rn L xs d 132 388 ls (.int (a + b) :: st) σ Q := am_r_iadd d132_387
theorem s132_388 {b : UInt32} {i : Int32} : am_Rn L xs d 132 388 ls (.int i :: .float b :: st) σ Q = (am_in i L = true ∧ am_Rn L xs d 132 389 ls (.int (xs i.toNatClampNeg) :: st) σ Q) := am_r_sload d132_388 rfl
theorem r132_389 {a1 : Value} {p : Nat} : am_Rn L xs (d + 1) 132 389 ls (a1 :: .ref p :: st) σ Q = ((am_oc σ p = 6 ∧ st.length ≤ 4 ∧ am_ok a1 = true) ∧ am_Call L xs d 111 [.ref p, a1] σ (fun r σ1 => am_Rn L xs (d + 1) 132 392 ls (r.toList ++ st) σ1 Q)) := am_R_virtual1 d132_389 rfl ⟨by decide, rfl⟩ rfl rfl (by decide)
theorem r132_392 {a b : Int32} : am_Rn L xs d 132 392 ls (.int b :: .int a :: st) σ Q = if a = b then am_Rn L xs d 132 489 ls st σ Q else am_Rn L xs d 132 395 ls st σ Q := (am_r_icmp (t := 489) d132_392 (by decide)).trans (am_ite _ _ trivial (by simp only [am_cond, decide_eq_true_eq]))
theorem r132_397  : am_Rn L xs d 132 397 ls st σ Q = am_la ls 1 (fun x => am_Rn L xs d 132 398 ls (x :: st) σ Q) := am_r_aload_n d132_397
theorem r132_398  : am_Rn L xs d 132 398 ls st σ Q = am_la ls 0 (fun x => am_Rn L xs d 132 399 ls (x :: st) σ Q) := am_r_aload_n d132_398
theorem r132_399  : am_Rn L xs d 132 399 ls st σ Q = am_li ls 3 (fun x => am_Rn L xs d 132 400 ls (.int x :: st) σ Q) := am_r_iload_n d132_399
theorem r132_400  : am_Rn L xs d 132 400 ls st σ Q = am_Rn L xs d 132 401 ls (.int 1 :: st) σ Q := am_r_iconst d132_400 (by decide)
theorem r132_401 {a b : Int32} : am_Rn L xs d 132 401 ls (.int b :: .int a :: st) σ Q = am_Rn L xs d 132 402 ls (.int (a + b) :: st) σ Q := am_r_iadd d132_401
theorem s132_402 {b : UInt32} {i : Int32} : am_Rn L xs d 132 402 ls (.int i :: .float b :: st) σ Q = (am_in i L = true ∧ am_Rn L xs d 132 403 ls (.int (xs i.toNatClampNeg) :: st) σ Q) := am_r_sload d132_402 rfl
theorem r132_403 {a1 : Value} {p : Nat} : am_Rn L xs (d + 1) 132 403 ls (a1 :: .ref p :: st) σ Q = ((am_oc σ p = 0 ∧ st.length ≤ 4 ∧ am_ok a1 = true) ∧ am_Call L xs d 61 [.ref p, a1] σ (fun r σ1 => am_Rn L xs (d + 1) 132 406 ls (r.toList ++ st) σ1 Q)) := am_R_virtual1 d132_403 rfl ⟨by decide, rfl⟩ rfl rfl (by decide)
theorem r132_406  : am_Rn L xs d 132 406 ls st σ Q = am_la ls 2 (fun x => am_Rn L xs d 132 407 ls (x :: st) σ Q) := am_r_aload_n d132_406
theorem r132_407  : am_Rn L xs d 132 407 ls st σ Q = am_la ls 0 (fun x => am_Rn L xs d 132 408 ls (x :: st) σ Q) := am_r_aload_n d132_407
theorem r132_408  : am_Rn L xs d 132 408 ls st σ Q = am_li ls 3 (fun x => am_Rn L xs d 132 409 ls (.int x :: st) σ Q) := am_r_iload_n d132_408
theorem r132_409  : am_Rn L xs d 132 409 ls st σ Q = am_Rn L xs d 132 410 ls (.int 1 :: st) σ Q := am_r_iconst d132_409 (by decide)
theorem r132_410 {a b : Int32} : am_Rn L xs d 132 410 ls (.int b :: .int a :: st) σ Q = am_Rn L xs d 132 411 ls (.int (a + b) :: st) σ Q := am_r_iadd d132_410
theorem s132_411 {b : UInt32} {i : Int32} : am_Rn L xs d 132 411 ls (.int i :: .float b :: st) σ Q = (am_in i L = true ∧ am_Rn L xs d 132 412 ls (.int (xs i.toNatClampNeg) :: st) σ Q) := am_r_sload d132_411 rfl
theorem r132_412 {a1 : Value} {p : Nat} : am_Rn L xs (d + 1) 132 412 ls (a1 :: .ref p :: st) σ Q = ((am_oc σ p = 6 ∧ st.length ≤ 4 ∧ am_ok a1 = true) ∧ am_Call L xs d 112 [.ref p, a1] σ (fun r σ1 => am_Rn L xs (d + 1) 132 415 ls (r.toList ++ st) σ1 Q)) := am_R_virtual1 d132_412 rfl ⟨by decide, rfl⟩ rfl rfl (by decide)
theorem r132_415 {a b : Int32} : am_Rn L xs d 132 415 ls (.int b :: .int a :: st) σ Q = if a = b then am_Rn L xs d 132 489 ls st σ Q else am_Rn L xs d 132 418 ls st σ Q := (am_r_icmp (t := 489) d132_415 (by decide)).trans (am_ite _ _ trivial (by simp only [am_cond, decide_eq_true_eq]))
theorem r132_420  : am_Rn L xs d 132 420 ls st σ Q = am_la ls 1 (fun x => am_Rn L xs d 132 421 ls (x :: st) σ Q) := am_r_aload_n d132_420
theorem r132_421 {p : Nat} : am_Rn L xs (d + 1) 132 421 ls (.ref p :: st) σ Q = ((am_oc σ p = 0 ∧ st.length ≤ 4) ∧ am_Call L xs d 67 [.ref p] σ (fun r σ1 => am_Rn L xs (d + 1) 132 424 ls (r.toList ++ st) σ1 Q)) := am_R_virtual0 d132_421 rfl ⟨by decide, rfl⟩ rfl rfl (by decide)
theorem r132_424  : am_Rn L xs d 132 424 ls st σ Q = am_la ls 2 (fun x => am_Rn L xs d 132 425 ls (x :: st) σ Q) := am_r_aload_n d132_424
theorem r132_425 {p : Nat} : am_Rn L xs (d + 1) 132 425 ls (.ref p :: st) σ Q = ((am_oc σ p = 6 ∧ st.length ≤ 4) ∧ am_Call L xs d 119 [.ref p] σ (fun r σ1 => am_Rn L xs (d + 1) 132 428 ls (r.toList ++ st) σ1 Q)) := am_R_virtual0 d132_425 rfl ⟨by decide, rfl⟩ rfl rfl (by decide)
theorem r132_428 {a b : Int32} : am_Rn L xs d 132 428 ls (.int b :: .int a :: st) σ Q = if a = b then am_Rn L xs d 132 489 ls st σ Q else am_Rn L xs d 132 431 ls st σ Q := (am_r_icmp (t := 489) d132_428 (by decide)).trans (am_ite _ _ trivial (by simp only [am_cond, decide_eq_true_eq]))
theorem r132_433  : am_Rn L xs d 132 433 ls st σ Q = am_la ls 1 (fun x => am_Rn L xs d 132 434 ls (x :: st) σ Q) := am_r_aload_n d132_433
theorem r132_434  : am_Rn L xs d 132 434 ls st σ Q = am_la ls 0 (fun x => am_Rn L xs d 132 435 ls (x :: st) σ Q) := am_r_aload_n d132_434
theorem r132_435  : am_Rn L xs d 132 435 ls st σ Q = am_li ls 3 (fun x => am_Rn L xs d 132 436 ls (.int x :: st) σ Q) := am_r_iload_n d132_435
theorem r132_436  : am_Rn L xs d 132 436 ls st σ Q = am_Rn L xs d 132 437 ls (.int 1 :: st) σ Q := am_r_iconst d132_436 (by decide)
theorem r132_437 {a b : Int32} : am_Rn L xs d 132 437 ls (.int b :: .int a :: st) σ Q = am_Rn L xs d 132 438 ls (.int (a + b) :: st) σ Q := am_r_iadd d132_437
theorem s132_438 {b : UInt32} {i : Int32} : am_Rn L xs d 132 438 ls (.int i :: .float b :: st) σ Q = (am_in i L = true ∧ am_Rn L xs d 132 439 ls (.int (xs i.toNatClampNeg) :: st) σ Q) := am_r_sload d132_438 rfl
theorem r132_439  : am_Rn L xs d 132 439 ls st σ Q = am_la ls 0 (fun x => am_Rn L xs d 132 440 ls (x :: st) σ Q) := am_r_aload_n d132_439
theorem r132_440  : am_Rn L xs d 132 440 ls st σ Q = am_li ls 3 (fun x => am_Rn L xs d 132 441 ls (.int x :: st) σ Q) := am_r_iload_n d132_440
theorem r132_441  : am_Rn L xs d 132 441 ls st σ Q = am_Rn L xs d 132 442 ls (.int 2 :: st) σ Q := am_r_iconst d132_441 (by decide)
theorem r132_442 {a b : Int32} : am_Rn L xs d 132 442 ls (.int b :: .int a :: st) σ Q = am_Rn L xs d 132 443 ls (.int (a + b) :: st) σ Q := am_r_iadd d132_442
theorem s132_443 {b : UInt32} {i : Int32} : am_Rn L xs d 132 443 ls (.int i :: .float b :: st) σ Q = (am_in i L = true ∧ am_Rn L xs d 132 444 ls (.int (xs i.toNatClampNeg) :: st) σ Q) := am_r_sload d132_443 rfl
theorem r132_444 {a1 a2 : Value} {p : Nat} : am_Rn L xs (d + 1) 132 444 ls (a2 :: a1 :: .ref p :: st) σ Q = ((am_oc σ p = 0 ∧ st.length ≤ 4 ∧ am_ok a1 = true ∧ am_ok a2 = true) ∧ am_Call L xs d 81 [.ref p, a1, a2] σ (fun r σ1 => am_Rn L xs (d + 1) 132 447 ls (r.toList ++ st) σ1 Q)) := am_R_virtual2 d132_444 rfl ⟨by decide, rfl⟩ rfl rfl (by decide)
theorem r132_447  : am_Rn L xs d 132 447 ls st σ Q = am_la ls 2 (fun x => am_Rn L xs d 132 448 ls (x :: st) σ Q) := am_r_aload_n d132_447
theorem r132_448  : am_Rn L xs d 132 448 ls st σ Q = am_la ls 0 (fun x => am_Rn L xs d 132 449 ls (x :: st) σ Q) := am_r_aload_n d132_448
theorem r132_449  : am_Rn L xs d 132 449 ls st σ Q = am_li ls 3 (fun x => am_Rn L xs d 132 450 ls (.int x :: st) σ Q) := am_r_iload_n d132_449
theorem r132_450  : am_Rn L xs d 132 450 ls st σ Q = am_Rn L xs d 132 451 ls (.int 1 :: st) σ Q := am_r_iconst d132_450 (by decide)
theorem r132_451 {a b : Int32} : am_Rn L xs d 132 451 ls (.int b :: .int a :: st) σ Q = am_Rn L xs d 132 452 ls (.int (a + b) :: st) σ Q := am_r_iadd d132_451
theorem s132_452 {b : UInt32} {i : Int32} : am_Rn L xs d 132 452 ls (.int i :: .float b :: st) σ Q = (am_in i L = true ∧ am_Rn L xs d 132 453 ls (.int (xs i.toNatClampNeg) :: st) σ Q) := am_r_sload d132_452 rfl
theorem r132_453  : am_Rn L xs d 132 453 ls st σ Q = am_la ls 0 (fun x => am_Rn L xs d 132 454 ls (x :: st) σ Q) := am_r_aload_n d132_453
theorem r132_454  : am_Rn L xs d 132 454 ls st σ Q = am_li ls 3 (fun x => am_Rn L xs d 132 455 ls (.int x :: st) σ Q) := am_r_iload_n d132_454
theorem r132_455  : am_Rn L xs d 132 455 ls st σ Q = am_Rn L xs d 132 456 ls (.int 2 :: st) σ Q := am_r_iconst d132_455 (by decide)
theorem r132_456 {a b : Int32} : am_Rn L xs d 132 456 ls (.int b :: .int a :: st) σ Q = am_Rn L xs d 132 457 ls (.int (a + b) :: st) σ Q := am_r_iadd d132_456
theorem s132_457 {b : UInt32} {i : Int32} : am_Rn L xs d 132 457 ls (.int i :: .float b :: st) σ Q = (am_in i L = true ∧ am_Rn L xs d 132 458 ls (.int (xs i.toNatClampNeg) :: st) σ Q) := am_r_sload d132_457 rfl
theorem r132_458 {a1 a2 : Value} {p : Nat} : am_Rn L xs (d + 1) 132 458 ls (a2 :: a1 :: .ref p :: st) σ Q = ((am_oc σ p = 6 ∧ st.length ≤ 4 ∧ am_ok a1 = true ∧ am_ok a2 = true) ∧ am_Call L xs d 129 [.ref p, a1, a2] σ (fun r σ1 => am_Rn L xs (d + 1) 132 461 ls (r.toList ++ st) σ1 Q)) := am_R_virtual2 d132_458 rfl ⟨by decide, rfl⟩ rfl rfl (by decide)
theorem r132_461 {a b : Int32} : am_Rn L xs d 132 461 ls (.int b :: .int a :: st) σ Q = if a = b then am_Rn L xs d 132 489 ls st σ Q else am_Rn L xs d 132 464 ls st σ Q := (am_r_icmp (t := 489) d132_461 (by decide)).trans (am_ite _ _ trivial (by simp only [am_cond, decide_eq_true_eq]))
theorem r132_466  : am_Rn L xs d 132 466 ls st σ Q = am_la ls 1 (fun x => am_Rn L xs d 132 467 ls (x :: st) σ Q) := am_r_aload_n d132_466
theorem r132_467  : am_Rn L xs d 132 467 ls st σ Q = am_la ls 0 (fun x => am_Rn L xs d 132 468 ls (x :: st) σ Q) := am_r_aload_n d132_467
theorem r132_468  : am_Rn L xs d 132 468 ls st σ Q = am_li ls 3 (fun x => am_Rn L xs d 132 469 ls (.int x :: st) σ Q) := am_r_iload_n d132_468
theorem r132_469  : am_Rn L xs d 132 469 ls st σ Q = am_Rn L xs d 132 470 ls (.int 1 :: st) σ Q := am_r_iconst d132_469 (by decide)
theorem r132_470 {a b : Int32} : am_Rn L xs d 132 470 ls (.int b :: .int a :: st) σ Q = am_Rn L xs d 132 471 ls (.int (a + b) :: st) σ Q := am_r_iadd d132_470
theorem s132_471 {b : UInt32} {i : Int32} : am_Rn L xs d 132 471 ls (.int i :: .float b :: st) σ Q = (am_in i L = true ∧ am_Rn L xs d 132 472 ls (.int (xs i.toNatClampNeg) :: st) σ Q) := am_r_sload d132_471 rfl
theorem r132_472 {a1 : Value} {p : Nat} : am_Rn L xs (d + 1) 132 472 ls (a1 :: .ref p :: st) σ Q = ((am_oc σ p = 0 ∧ st.length ≤ 4 ∧ am_ok a1 = true) ∧ am_Call L xs d 82 [.ref p, a1] σ (fun r σ1 => am_Rn L xs (d + 1) 132 475 ls (r.toList ++ st) σ1 Q)) := am_R_virtual1 d132_472 rfl ⟨by decide, rfl⟩ rfl rfl (by decide)
theorem r132_475  : am_Rn L xs d 132 475 ls st σ Q = am_la ls 2 (fun x => am_Rn L xs d 132 476 ls (x :: st) σ Q) := am_r_aload_n d132_475
theorem r132_476  : am_Rn L xs d 132 476 ls st σ Q = am_la ls 0 (fun x => am_Rn L xs d 132 477 ls (x :: st) σ Q) := am_r_aload_n d132_476
theorem r132_477  : am_Rn L xs d 132 477 ls st σ Q = am_li ls 3 (fun x => am_Rn L xs d 132 478 ls (.int x :: st) σ Q) := am_r_iload_n d132_477
theorem r132_478  : am_Rn L xs d 132 478 ls st σ Q = am_Rn L xs d 132 479 ls (.int 1 :: st) σ Q := am_r_iconst d132_478 (by decide)
theorem r132_479 {a b : Int32} : am_Rn L xs d 132 479 ls (.int b :: .int a :: st) σ Q = am_Rn L xs d 132 480 ls (.int (a + b) :: st) σ Q := am_r_iadd d132_479
theorem s132_480 {b : UInt32} {i : Int32} : am_Rn L xs d 132 480 ls (.int i :: .float b :: st) σ Q = (am_in i L = true ∧ am_Rn L xs d 132 481 ls (.int (xs i.toNatClampNeg) :: st) σ Q) := am_r_sload d132_480 rfl
theorem r132_481 {a1 : Value} {p : Nat} : am_Rn L xs (d + 1) 132 481 ls (a1 :: .ref p :: st) σ Q = ((am_oc σ p = 6 ∧ st.length ≤ 4 ∧ am_ok a1 = true) ∧ am_Call L xs d 130 [.ref p, a1] σ (fun r σ1 => am_Rn L xs (d + 1) 132 484 ls (r.toList ++ st) σ1 Q)) := am_R_virtual1 d132_481 rfl ⟨by decide, rfl⟩ rfl rfl (by decide)
theorem r132_484 {a b : Int32} : am_Rn L xs d 132 484 ls (.int b :: .int a :: st) σ Q = if a = b then am_Rn L xs d 132 489 ls st σ Q else am_Rn L xs d 132 487 ls st σ Q := (am_r_icmp (t := 489) d132_484 (by decide)).trans (am_ite _ _ trivial (by simp only [am_cond, decide_eq_true_eq]))
theorem r132_489  : am_Rn L xs d 132 489 ls st σ Q = am_li ls 3 (fun x => am_Rn L xs d 132 492 (ls.set 3 (.int (x + 5))) st σ Q) := am_r_iinc d132_489 (by decide)
theorem r132_492  : am_Rn L xs d 132 492 ls st σ Q = am_Rn L xs d 132 18 ls st σ Q := am_r_goto d132_492 (by decide)
theorem r132_495  : am_Rn L xs d 132 495 ls st σ Q = am_Rn L xs d 132 496 ls (.int 1 :: st) σ Q := am_r_iconst d132_495 (by decide)
theorem r132_496 {v : Int32} (hv : v = 0 ∨ v = 1) : am_Rn L xs d 132 496 ls [.int v] σ Q = Q (some (.int v)) σ := am_r_zreturn d132_496 rfl hv
end
