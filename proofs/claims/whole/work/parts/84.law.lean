/-! The law: its words, its calls; laid by wip/whole/tool/gen84.py. -/
def bz (x : Int) : Int := if x = 0 then 0 else 1
theorem bz_in (x : Int) : 0 ≤ bz x ∧ bz x ≤ 1 := by
  unfold bz
  split <;> omega
theorem g_cmp_self (x : Int) : g_cmp x x = 0 := by
  unfold g_cmp
  split
  · omega
  · rw [if_pos rfl]
section SLaw
variable {Y : Gl} {X : Cx} {nm own : String} {cc : ByteArray} {nL d mc ms ce sl pc pc' : Nat} {rt : Option FieldType} {Q : State → Prop} {ls : List (Nat × Value)} {st : List Value} {rv : RVt} {iv av : IVt} {n c : Nat} {b L : Nat} {xs : Nat → Int32} {i : Int}
theorem r_sld (C : CX Y X own nm cc nL rt d mc ms) (hX : va_X b L xs (cx_s X) (cx_s X).heap) (hbl : b < (cx_s X).heap.size) (hbA : b < gl_b Y) (hi : 0 ≤ i ∧ i < L ∧ L ≤ 1000) (hdg : decode cc pc = .ok (.iaload, 1)) (hq : pc + 1 = pc') (kk : Wa Y X nL Q ce sl pc' ls (.int (i32 (xs i.toNat).toInt) :: st) rv iv av n) : Wa Y X nL Q ce sl pc ls (.int (i32 i) :: .ref b :: st) rv iv av n := by
  subst hq
  intro H lo la hz hP hS hl hR
  have r1 : InR i := by omega
  refine va_sld C.1 C.2.1 hX hbl (A := g_A Y) (Nat.not_le.mpr hbA) hS (by unfold vp_in; rw [i32_idx r1, i32_0, i32_lt r1 inR0]; omega) hdg ?_
  rw [i32_idx r1]
  have h := kk H lo la hz hP hS hl hR
  rw [i32_of] at h
  exact h
theorem r_slen (C : CX Y X own nm cc nL rt d mc ms) (hX : va_X b L xs (cx_s X) (cx_s X).heap) (hbl : b < (cx_s X).heap.size) (hbA : b < gl_b Y) (hdg : decode cc pc = .ok (.arraylength, 1)) (hq : pc + 1 = pc') (kk : Wa Y X nL Q ce sl pc' ls (.int (i32 (L : Int)) :: st) rv iv av n) : Wa Y X nL Q ce sl pc ls (.ref b :: st) rv iv av n := by
  subst hq
  intro H lo la hz hP hS hl hR
  refine va_slen C.1 C.2.1 hX hbl (A := g_A Y) (Nat.not_le.mpr hbA) hS hdg ?_
  have h := kk H lo la hz hP hS hl hR
  rw [show i32 (L : Int) = Int32.ofNat L by show Int32.ofInt _ = _; rw [Int32.ofInt_eq_ofNat]] at h
  exact h
theorem dL_0 : decode code 0 = .ok (.new 7, 3) := by decide +kernel
theorem dL_3 : decode code 3 = .ok (.dup, 1) := by decide +kernel
theorem dL_4 : decode code 4 = .ok (.invokespecial 9, 3) := by decide +kernel
theorem dL_7 : decode code 7 = .ok (.astore_n 1, 1) := by decide +kernel
theorem dL_8 : decode code 8 = .ok (.new 10, 3) := by decide +kernel
theorem dL_11 : decode code 11 = .ok (.dup, 1) := by decide +kernel
theorem dL_12 : decode code 12 = .ok (.invokespecial 12, 3) := by decide +kernel
theorem dL_15 : decode code 15 = .ok (.astore_n 2, 1) := by decide +kernel
theorem dL_16 : decode code 16 = .ok (.iconst 0, 1) := by decide +kernel
theorem dL_17 : decode code 17 = .ok (.istore_n 3, 1) := by decide +kernel
theorem dL_18 : decode code 18 = .ok (.iload_n 3, 1) := by decide +kernel
theorem dL_19 : decode code 19 = .ok (.aload_n 0, 1) := by decide +kernel
theorem dL_20 : decode code 20 = .ok (.arraylength, 1) := by decide +kernel
theorem dL_21 : decode code 21 = .ok (.iconst 5, 1) := by decide +kernel
theorem dL_22 : decode code 22 = .ok (.isub, 1) := by decide +kernel
theorem dL_23 : decode code 23 = .ok (.if_icmp .gt 627, 3) := by decide +kernel
theorem dL_26 : decode code 26 = .ok (.aload_n 0, 1) := by decide +kernel
theorem dL_27 : decode code 27 = .ok (.iload_n 3, 1) := by decide +kernel
theorem dL_28 : decode code 28 = .ok (.iaload, 1) := by decide +kernel
theorem dL_29 : decode code 29 = .ok (.bipush 15, 2) := by decide +kernel
theorem dL_31 : decode code 31 = .ok (.iand, 1) := by decide +kernel
theorem dL_32 : decode code 32 = .ok (.tableswitch 612 0 15 #[80, 143, 176, 229, 252, 327, 360, 393, 406, 439, 452, 476, 509, 532, 575, 599], 80) := by decide +kernel
theorem dL_112 : decode code 112 = .ok (.aload_n 1, 1) := by decide +kernel
theorem dL_113 : decode code 113 = .ok (.aload_n 0, 1) := by decide +kernel
theorem dL_114 : decode code 114 = .ok (.iload_n 3, 1) := by decide +kernel
theorem dL_115 : decode code 115 = .ok (.iconst 1, 1) := by decide +kernel
theorem dL_116 : decode code 116 = .ok (.iadd, 1) := by decide +kernel
theorem dL_117 : decode code 117 = .ok (.iaload, 1) := by decide +kernel
theorem dL_118 : decode code 118 = .ok (.i2l, 1) := by decide +kernel
theorem dL_119 : decode code 119 = .ok (.bipush 32, 2) := by decide +kernel
theorem dL_121 : decode code 121 = .ok (.lshl, 1) := by decide +kernel
theorem dL_122 : decode code 122 = .ok (.aload_n 0, 1) := by decide +kernel
theorem dL_123 : decode code 123 = .ok (.iload_n 3, 1) := by decide +kernel
theorem dL_124 : decode code 124 = .ok (.iconst 2, 1) := by decide +kernel
theorem dL_125 : decode code 125 = .ok (.iadd, 1) := by decide +kernel
theorem dL_126 : decode code 126 = .ok (.iaload, 1) := by decide +kernel
theorem dL_127 : decode code 127 = .ok (.i2l, 1) := by decide +kernel
theorem dL_128 : decode code 128 = .ok (.ldc2_w 13, 3) := by decide +kernel
theorem dL_131 : decode code 131 = .ok (.land, 1) := by decide +kernel
theorem dL_132 : decode code 132 = .ok (.lor, 1) := by decide +kernel
theorem dL_133 : decode code 133 = .ok (.aload_n 0, 1) := by decide +kernel
theorem dL_134 : decode code 134 = .ok (.iload_n 3, 1) := by decide +kernel
theorem dL_135 : decode code 135 = .ok (.iconst 3, 1) := by decide +kernel
theorem dL_136 : decode code 136 = .ok (.iadd, 1) := by decide +kernel
theorem dL_137 : decode code 137 = .ok (.iaload, 1) := by decide +kernel
theorem dL_138 : decode code 138 = .ok (.invokevirtual 15, 3) := by decide +kernel
theorem dL_141 : decode code 141 = .ok (.aload_n 2, 1) := by decide +kernel
theorem dL_142 : decode code 142 = .ok (.aload_n 0, 1) := by decide +kernel
theorem dL_143 : decode code 143 = .ok (.iload_n 3, 1) := by decide +kernel
theorem dL_144 : decode code 144 = .ok (.iconst 1, 1) := by decide +kernel
theorem dL_145 : decode code 145 = .ok (.iadd, 1) := by decide +kernel
theorem dL_146 : decode code 146 = .ok (.iaload, 1) := by decide +kernel
theorem dL_147 : decode code 147 = .ok (.i2l, 1) := by decide +kernel
theorem dL_148 : decode code 148 = .ok (.bipush 32, 2) := by decide +kernel
theorem dL_150 : decode code 150 = .ok (.lshl, 1) := by decide +kernel
theorem dL_151 : decode code 151 = .ok (.aload_n 0, 1) := by decide +kernel
theorem dL_152 : decode code 152 = .ok (.iload_n 3, 1) := by decide +kernel
theorem dL_153 : decode code 153 = .ok (.iconst 2, 1) := by decide +kernel
theorem dL_154 : decode code 154 = .ok (.iadd, 1) := by decide +kernel
theorem dL_155 : decode code 155 = .ok (.iaload, 1) := by decide +kernel
theorem dL_156 : decode code 156 = .ok (.i2l, 1) := by decide +kernel
theorem dL_157 : decode code 157 = .ok (.ldc2_w 13, 3) := by decide +kernel
theorem dL_160 : decode code 160 = .ok (.land, 1) := by decide +kernel
theorem dL_161 : decode code 161 = .ok (.lor, 1) := by decide +kernel
theorem dL_162 : decode code 162 = .ok (.aload_n 0, 1) := by decide +kernel
theorem dL_163 : decode code 163 = .ok (.iload_n 3, 1) := by decide +kernel
theorem dL_164 : decode code 164 = .ok (.iconst 3, 1) := by decide +kernel
theorem dL_165 : decode code 165 = .ok (.iadd, 1) := by decide +kernel
theorem dL_166 : decode code 166 = .ok (.iaload, 1) := by decide +kernel
theorem dL_167 : decode code 167 = .ok (.invokevirtual 19, 3) := by decide +kernel
theorem dL_170 : decode code 170 = .ok (.if_icmp .eq 474, 3) := by decide +kernel
theorem dL_173 : decode code 173 = .ok (.iconst 0, 1) := by decide +kernel
theorem dL_174 : decode code 174 = .ok (.ireturn, 1) := by decide +kernel
theorem dL_175 : decode code 175 = .ok (.aload_n 1, 1) := by decide +kernel
theorem dL_176 : decode code 176 = .ok (.aload_n 0, 1) := by decide +kernel
theorem dL_177 : decode code 177 = .ok (.iload_n 3, 1) := by decide +kernel
theorem dL_178 : decode code 178 = .ok (.iconst 1, 1) := by decide +kernel
theorem dL_179 : decode code 179 = .ok (.iadd, 1) := by decide +kernel
theorem dL_180 : decode code 180 = .ok (.iaload, 1) := by decide +kernel
theorem dL_181 : decode code 181 = .ok (.aload_n 0, 1) := by decide +kernel
theorem dL_182 : decode code 182 = .ok (.iload_n 3, 1) := by decide +kernel
theorem dL_183 : decode code 183 = .ok (.iconst 2, 1) := by decide +kernel
theorem dL_184 : decode code 184 = .ok (.iadd, 1) := by decide +kernel
theorem dL_185 : decode code 185 = .ok (.iaload, 1) := by decide +kernel
theorem dL_186 : decode code 186 = .ok (.invokevirtual 20, 3) := by decide +kernel
theorem dL_189 : decode code 189 = .ok (.aload_n 2, 1) := by decide +kernel
theorem dL_190 : decode code 190 = .ok (.aload_n 0, 1) := by decide +kernel
theorem dL_191 : decode code 191 = .ok (.iload_n 3, 1) := by decide +kernel
theorem dL_192 : decode code 192 = .ok (.iconst 1, 1) := by decide +kernel
theorem dL_193 : decode code 193 = .ok (.iadd, 1) := by decide +kernel
theorem dL_194 : decode code 194 = .ok (.iaload, 1) := by decide +kernel
theorem dL_195 : decode code 195 = .ok (.aload_n 0, 1) := by decide +kernel
theorem dL_196 : decode code 196 = .ok (.iload_n 3, 1) := by decide +kernel
theorem dL_197 : decode code 197 = .ok (.iconst 2, 1) := by decide +kernel
theorem dL_198 : decode code 198 = .ok (.iadd, 1) := by decide +kernel
theorem dL_199 : decode code 199 = .ok (.iaload, 1) := by decide +kernel
theorem dL_200 : decode code 200 = .ok (.invokevirtual 24, 3) := by decide +kernel
theorem dL_203 : decode code 203 = .ok (.if_icmp .eq 441, 3) := by decide +kernel
theorem dL_206 : decode code 206 = .ok (.iconst 0, 1) := by decide +kernel
theorem dL_207 : decode code 207 = .ok (.ireturn, 1) := by decide +kernel
theorem dL_208 : decode code 208 = .ok (.aload_n 1, 1) := by decide +kernel
theorem dL_209 : decode code 209 = .ok (.aload_n 0, 1) := by decide +kernel
theorem dL_210 : decode code 210 = .ok (.iload_n 3, 1) := by decide +kernel
theorem dL_211 : decode code 211 = .ok (.iconst 1, 1) := by decide +kernel
theorem dL_212 : decode code 212 = .ok (.iadd, 1) := by decide +kernel
theorem dL_213 : decode code 213 = .ok (.iaload, 1) := by decide +kernel
theorem dL_214 : decode code 214 = .ok (.aload_n 0, 1) := by decide +kernel
theorem dL_215 : decode code 215 = .ok (.iload_n 3, 1) := by decide +kernel
theorem dL_216 : decode code 216 = .ok (.iconst 2, 1) := by decide +kernel
theorem dL_217 : decode code 217 = .ok (.iadd, 1) := by decide +kernel
theorem dL_218 : decode code 218 = .ok (.iaload, 1) := by decide +kernel
theorem dL_219 : decode code 219 = .ok (.aload_n 0, 1) := by decide +kernel
theorem dL_220 : decode code 220 = .ok (.iload_n 3, 1) := by decide +kernel
theorem dL_221 : decode code 221 = .ok (.iconst 3, 1) := by decide +kernel
theorem dL_222 : decode code 222 = .ok (.iadd, 1) := by decide +kernel
theorem dL_223 : decode code 223 = .ok (.iaload, 1) := by decide +kernel
theorem dL_224 : decode code 224 = .ok (.aload_n 0, 1) := by decide +kernel
theorem dL_225 : decode code 225 = .ok (.iload_n 3, 1) := by decide +kernel
theorem dL_226 : decode code 226 = .ok (.iconst 4, 1) := by decide +kernel
theorem dL_227 : decode code 227 = .ok (.iadd, 1) := by decide +kernel
theorem dL_228 : decode code 228 = .ok (.iaload, 1) := by decide +kernel
theorem dL_229 : decode code 229 = .ok (.invokevirtual 25, 3) := by decide +kernel
theorem dL_232 : decode code 232 = .ok (.aload_n 2, 1) := by decide +kernel
theorem dL_233 : decode code 233 = .ok (.aload_n 0, 1) := by decide +kernel
theorem dL_234 : decode code 234 = .ok (.iload_n 3, 1) := by decide +kernel
theorem dL_235 : decode code 235 = .ok (.iconst 1, 1) := by decide +kernel
theorem dL_236 : decode code 236 = .ok (.iadd, 1) := by decide +kernel
theorem dL_237 : decode code 237 = .ok (.iaload, 1) := by decide +kernel
theorem dL_238 : decode code 238 = .ok (.aload_n 0, 1) := by decide +kernel
theorem dL_239 : decode code 239 = .ok (.iload_n 3, 1) := by decide +kernel
theorem dL_240 : decode code 240 = .ok (.iconst 2, 1) := by decide +kernel
theorem dL_241 : decode code 241 = .ok (.iadd, 1) := by decide +kernel
theorem dL_242 : decode code 242 = .ok (.iaload, 1) := by decide +kernel
theorem dL_243 : decode code 243 = .ok (.aload_n 0, 1) := by decide +kernel
theorem dL_244 : decode code 244 = .ok (.iload_n 3, 1) := by decide +kernel
theorem dL_245 : decode code 245 = .ok (.iconst 3, 1) := by decide +kernel
theorem dL_246 : decode code 246 = .ok (.iadd, 1) := by decide +kernel
theorem dL_247 : decode code 247 = .ok (.iaload, 1) := by decide +kernel
theorem dL_248 : decode code 248 = .ok (.aload_n 0, 1) := by decide +kernel
theorem dL_249 : decode code 249 = .ok (.iload_n 3, 1) := by decide +kernel
theorem dL_250 : decode code 250 = .ok (.iconst 4, 1) := by decide +kernel
theorem dL_251 : decode code 251 = .ok (.iadd, 1) := by decide +kernel
theorem dL_252 : decode code 252 = .ok (.iaload, 1) := by decide +kernel
theorem dL_253 : decode code 253 = .ok (.invokevirtual 29, 3) := by decide +kernel
theorem dL_256 : decode code 256 = .ok (.if_icmp .eq 388, 3) := by decide +kernel
theorem dL_259 : decode code 259 = .ok (.iconst 0, 1) := by decide +kernel
theorem dL_260 : decode code 260 = .ok (.ireturn, 1) := by decide +kernel
theorem dL_261 : decode code 261 = .ok (.aload_n 1, 1) := by decide +kernel
theorem dL_262 : decode code 262 = .ok (.aload_n 0, 1) := by decide +kernel
theorem dL_263 : decode code 263 = .ok (.iload_n 3, 1) := by decide +kernel
theorem dL_264 : decode code 264 = .ok (.iconst 1, 1) := by decide +kernel
theorem dL_265 : decode code 265 = .ok (.iadd, 1) := by decide +kernel
theorem dL_266 : decode code 266 = .ok (.iaload, 1) := by decide +kernel
theorem dL_267 : decode code 267 = .ok (.invokevirtual 30, 3) := by decide +kernel
theorem dL_270 : decode code 270 = .ok (.aload_n 2, 1) := by decide +kernel
theorem dL_271 : decode code 271 = .ok (.aload_n 0, 1) := by decide +kernel
theorem dL_272 : decode code 272 = .ok (.iload_n 3, 1) := by decide +kernel
theorem dL_273 : decode code 273 = .ok (.iconst 1, 1) := by decide +kernel
theorem dL_274 : decode code 274 = .ok (.iadd, 1) := by decide +kernel
theorem dL_275 : decode code 275 = .ok (.iaload, 1) := by decide +kernel
theorem dL_276 : decode code 276 = .ok (.invokevirtual 34, 3) := by decide +kernel
theorem dL_279 : decode code 279 = .ok (.if_icmp .eq 365, 3) := by decide +kernel
theorem dL_282 : decode code 282 = .ok (.iconst 0, 1) := by decide +kernel
theorem dL_283 : decode code 283 = .ok (.ireturn, 1) := by decide +kernel
theorem dL_284 : decode code 284 = .ok (.aload_n 1, 1) := by decide +kernel
theorem dL_285 : decode code 285 = .ok (.aload_n 0, 1) := by decide +kernel
theorem dL_286 : decode code 286 = .ok (.iload_n 3, 1) := by decide +kernel
theorem dL_287 : decode code 287 = .ok (.iconst 1, 1) := by decide +kernel
theorem dL_288 : decode code 288 = .ok (.iadd, 1) := by decide +kernel
theorem dL_289 : decode code 289 = .ok (.iaload, 1) := by decide +kernel
theorem dL_290 : decode code 290 = .ok (.aload_n 0, 1) := by decide +kernel
theorem dL_291 : decode code 291 = .ok (.iload_n 3, 1) := by decide +kernel
theorem dL_292 : decode code 292 = .ok (.iconst 2, 1) := by decide +kernel
theorem dL_293 : decode code 293 = .ok (.iadd, 1) := by decide +kernel
theorem dL_294 : decode code 294 = .ok (.iaload, 1) := by decide +kernel
theorem dL_295 : decode code 295 = .ok (.ifCond .eq 7, 3) := by decide +kernel
theorem dL_298 : decode code 298 = .ok (.iconst 1, 1) := by decide +kernel
theorem dL_299 : decode code 299 = .ok (.goto 4, 3) := by decide +kernel
theorem dL_302 : decode code 302 = .ok (.iconst 0, 1) := by decide +kernel
theorem dL_303 : decode code 303 = .ok (.aload_n 0, 1) := by decide +kernel
theorem dL_304 : decode code 304 = .ok (.iload_n 3, 1) := by decide +kernel
theorem dL_305 : decode code 305 = .ok (.iconst 3, 1) := by decide +kernel
theorem dL_306 : decode code 306 = .ok (.iadd, 1) := by decide +kernel
theorem dL_307 : decode code 307 = .ok (.iaload, 1) := by decide +kernel
theorem dL_308 : decode code 308 = .ok (.ifCond .eq 7, 3) := by decide +kernel
theorem dL_311 : decode code 311 = .ok (.iconst 1, 1) := by decide +kernel
theorem dL_312 : decode code 312 = .ok (.goto 4, 3) := by decide +kernel
theorem dL_315 : decode code 315 = .ok (.iconst 0, 1) := by decide +kernel
theorem dL_316 : decode code 316 = .ok (.invokevirtual 35, 3) := by decide +kernel
theorem dL_319 : decode code 319 = .ok (.aload_n 2, 1) := by decide +kernel
theorem dL_320 : decode code 320 = .ok (.aload_n 0, 1) := by decide +kernel
theorem dL_321 : decode code 321 = .ok (.iload_n 3, 1) := by decide +kernel
theorem dL_322 : decode code 322 = .ok (.iconst 1, 1) := by decide +kernel
theorem dL_323 : decode code 323 = .ok (.iadd, 1) := by decide +kernel
theorem dL_324 : decode code 324 = .ok (.iaload, 1) := by decide +kernel
theorem dL_325 : decode code 325 = .ok (.aload_n 0, 1) := by decide +kernel
theorem dL_326 : decode code 326 = .ok (.iload_n 3, 1) := by decide +kernel
theorem dL_327 : decode code 327 = .ok (.iconst 2, 1) := by decide +kernel
theorem dL_328 : decode code 328 = .ok (.iadd, 1) := by decide +kernel
theorem dL_329 : decode code 329 = .ok (.iaload, 1) := by decide +kernel
theorem dL_330 : decode code 330 = .ok (.ifCond .eq 7, 3) := by decide +kernel
theorem dL_333 : decode code 333 = .ok (.iconst 1, 1) := by decide +kernel
theorem dL_334 : decode code 334 = .ok (.goto 4, 3) := by decide +kernel
theorem dL_337 : decode code 337 = .ok (.iconst 0, 1) := by decide +kernel
theorem dL_338 : decode code 338 = .ok (.aload_n 0, 1) := by decide +kernel
theorem dL_339 : decode code 339 = .ok (.iload_n 3, 1) := by decide +kernel
theorem dL_340 : decode code 340 = .ok (.iconst 3, 1) := by decide +kernel
theorem dL_341 : decode code 341 = .ok (.iadd, 1) := by decide +kernel
theorem dL_342 : decode code 342 = .ok (.iaload, 1) := by decide +kernel
theorem dL_343 : decode code 343 = .ok (.ifCond .eq 7, 3) := by decide +kernel
theorem dL_346 : decode code 346 = .ok (.iconst 1, 1) := by decide +kernel
theorem dL_347 : decode code 347 = .ok (.goto 4, 3) := by decide +kernel
theorem dL_350 : decode code 350 = .ok (.iconst 0, 1) := by decide +kernel
theorem dL_351 : decode code 351 = .ok (.invokevirtual 39, 3) := by decide +kernel
theorem dL_354 : decode code 354 = .ok (.if_icmp .eq 290, 3) := by decide +kernel
theorem dL_357 : decode code 357 = .ok (.iconst 0, 1) := by decide +kernel
theorem dL_358 : decode code 358 = .ok (.ireturn, 1) := by decide +kernel
theorem dL_359 : decode code 359 = .ok (.aload_n 1, 1) := by decide +kernel
theorem dL_360 : decode code 360 = .ok (.aload_n 0, 1) := by decide +kernel
theorem dL_361 : decode code 361 = .ok (.iload_n 3, 1) := by decide +kernel
theorem dL_362 : decode code 362 = .ok (.iconst 1, 1) := by decide +kernel
theorem dL_363 : decode code 363 = .ok (.iadd, 1) := by decide +kernel
theorem dL_364 : decode code 364 = .ok (.iaload, 1) := by decide +kernel
theorem dL_365 : decode code 365 = .ok (.aload_n 0, 1) := by decide +kernel
theorem dL_366 : decode code 366 = .ok (.iload_n 3, 1) := by decide +kernel
theorem dL_367 : decode code 367 = .ok (.iconst 2, 1) := by decide +kernel
theorem dL_368 : decode code 368 = .ok (.iadd, 1) := by decide +kernel
theorem dL_369 : decode code 369 = .ok (.iaload, 1) := by decide +kernel
theorem dL_370 : decode code 370 = .ok (.invokevirtual 40, 3) := by decide +kernel
theorem dL_373 : decode code 373 = .ok (.aload_n 2, 1) := by decide +kernel
theorem dL_374 : decode code 374 = .ok (.aload_n 0, 1) := by decide +kernel
theorem dL_375 : decode code 375 = .ok (.iload_n 3, 1) := by decide +kernel
theorem dL_376 : decode code 376 = .ok (.iconst 1, 1) := by decide +kernel
theorem dL_377 : decode code 377 = .ok (.iadd, 1) := by decide +kernel
theorem dL_378 : decode code 378 = .ok (.iaload, 1) := by decide +kernel
theorem dL_379 : decode code 379 = .ok (.aload_n 0, 1) := by decide +kernel
theorem dL_380 : decode code 380 = .ok (.iload_n 3, 1) := by decide +kernel
theorem dL_381 : decode code 381 = .ok (.iconst 2, 1) := by decide +kernel
theorem dL_382 : decode code 382 = .ok (.iadd, 1) := by decide +kernel
theorem dL_383 : decode code 383 = .ok (.iaload, 1) := by decide +kernel
theorem dL_384 : decode code 384 = .ok (.invokevirtual 43, 3) := by decide +kernel
theorem dL_387 : decode code 387 = .ok (.if_icmp .eq 257, 3) := by decide +kernel
theorem dL_390 : decode code 390 = .ok (.iconst 0, 1) := by decide +kernel
theorem dL_391 : decode code 391 = .ok (.ireturn, 1) := by decide +kernel
theorem dL_392 : decode code 392 = .ok (.aload_n 1, 1) := by decide +kernel
theorem dL_393 : decode code 393 = .ok (.aload_n 0, 1) := by decide +kernel
theorem dL_394 : decode code 394 = .ok (.iload_n 3, 1) := by decide +kernel
theorem dL_395 : decode code 395 = .ok (.iconst 1, 1) := by decide +kernel
theorem dL_396 : decode code 396 = .ok (.iadd, 1) := by decide +kernel
theorem dL_397 : decode code 397 = .ok (.iaload, 1) := by decide +kernel
theorem dL_398 : decode code 398 = .ok (.aload_n 0, 1) := by decide +kernel
theorem dL_399 : decode code 399 = .ok (.iload_n 3, 1) := by decide +kernel
theorem dL_400 : decode code 400 = .ok (.iconst 2, 1) := by decide +kernel
theorem dL_401 : decode code 401 = .ok (.iadd, 1) := by decide +kernel
theorem dL_402 : decode code 402 = .ok (.iaload, 1) := by decide +kernel
theorem dL_403 : decode code 403 = .ok (.invokevirtual 44, 3) := by decide +kernel
theorem dL_406 : decode code 406 = .ok (.aload_n 2, 1) := by decide +kernel
theorem dL_407 : decode code 407 = .ok (.aload_n 0, 1) := by decide +kernel
theorem dL_408 : decode code 408 = .ok (.iload_n 3, 1) := by decide +kernel
theorem dL_409 : decode code 409 = .ok (.iconst 1, 1) := by decide +kernel
theorem dL_410 : decode code 410 = .ok (.iadd, 1) := by decide +kernel
theorem dL_411 : decode code 411 = .ok (.iaload, 1) := by decide +kernel
theorem dL_412 : decode code 412 = .ok (.aload_n 0, 1) := by decide +kernel
theorem dL_413 : decode code 413 = .ok (.iload_n 3, 1) := by decide +kernel
theorem dL_414 : decode code 414 = .ok (.iconst 2, 1) := by decide +kernel
theorem dL_415 : decode code 415 = .ok (.iadd, 1) := by decide +kernel
theorem dL_416 : decode code 416 = .ok (.iaload, 1) := by decide +kernel
theorem dL_417 : decode code 417 = .ok (.invokevirtual 47, 3) := by decide +kernel
theorem dL_420 : decode code 420 = .ok (.if_icmp .eq 224, 3) := by decide +kernel
theorem dL_423 : decode code 423 = .ok (.iconst 0, 1) := by decide +kernel
theorem dL_424 : decode code 424 = .ok (.ireturn, 1) := by decide +kernel
theorem dL_425 : decode code 425 = .ok (.aload_n 1, 1) := by decide +kernel
theorem dL_426 : decode code 426 = .ok (.invokevirtual 48, 3) := by decide +kernel
theorem dL_429 : decode code 429 = .ok (.aload_n 2, 1) := by decide +kernel
theorem dL_430 : decode code 430 = .ok (.invokevirtual 52, 3) := by decide +kernel
theorem dL_433 : decode code 433 = .ok (.if_icmp .eq 211, 3) := by decide +kernel
theorem dL_436 : decode code 436 = .ok (.iconst 0, 1) := by decide +kernel
theorem dL_437 : decode code 437 = .ok (.ireturn, 1) := by decide +kernel
theorem dL_438 : decode code 438 = .ok (.aload_n 1, 1) := by decide +kernel
theorem dL_439 : decode code 439 = .ok (.aload_n 0, 1) := by decide +kernel
theorem dL_440 : decode code 440 = .ok (.iload_n 3, 1) := by decide +kernel
theorem dL_441 : decode code 441 = .ok (.iconst 1, 1) := by decide +kernel
theorem dL_442 : decode code 442 = .ok (.iadd, 1) := by decide +kernel
theorem dL_443 : decode code 443 = .ok (.iaload, 1) := by decide +kernel
theorem dL_444 : decode code 444 = .ok (.aload_n 0, 1) := by decide +kernel
theorem dL_445 : decode code 445 = .ok (.iload_n 3, 1) := by decide +kernel
theorem dL_446 : decode code 446 = .ok (.iconst 2, 1) := by decide +kernel
theorem dL_447 : decode code 447 = .ok (.iadd, 1) := by decide +kernel
theorem dL_448 : decode code 448 = .ok (.iaload, 1) := by decide +kernel
theorem dL_449 : decode code 449 = .ok (.invokevirtual 53, 3) := by decide +kernel
theorem dL_452 : decode code 452 = .ok (.aload_n 2, 1) := by decide +kernel
theorem dL_453 : decode code 453 = .ok (.aload_n 0, 1) := by decide +kernel
theorem dL_454 : decode code 454 = .ok (.iload_n 3, 1) := by decide +kernel
theorem dL_455 : decode code 455 = .ok (.iconst 1, 1) := by decide +kernel
theorem dL_456 : decode code 456 = .ok (.iadd, 1) := by decide +kernel
theorem dL_457 : decode code 457 = .ok (.iaload, 1) := by decide +kernel
theorem dL_458 : decode code 458 = .ok (.aload_n 0, 1) := by decide +kernel
theorem dL_459 : decode code 459 = .ok (.iload_n 3, 1) := by decide +kernel
theorem dL_460 : decode code 460 = .ok (.iconst 2, 1) := by decide +kernel
theorem dL_461 : decode code 461 = .ok (.iadd, 1) := by decide +kernel
theorem dL_462 : decode code 462 = .ok (.iaload, 1) := by decide +kernel
theorem dL_463 : decode code 463 = .ok (.invokevirtual 56, 3) := by decide +kernel
theorem dL_466 : decode code 466 = .ok (.if_icmp .eq 178, 3) := by decide +kernel
theorem dL_469 : decode code 469 = .ok (.iconst 0, 1) := by decide +kernel
theorem dL_470 : decode code 470 = .ok (.ireturn, 1) := by decide +kernel
theorem dL_471 : decode code 471 = .ok (.aload_n 1, 1) := by decide +kernel
theorem dL_472 : decode code 472 = .ok (.invokevirtual 57, 3) := by decide +kernel
theorem dL_475 : decode code 475 = .ok (.aload_n 2, 1) := by decide +kernel
theorem dL_476 : decode code 476 = .ok (.invokevirtual 60, 3) := by decide +kernel
theorem dL_479 : decode code 479 = .ok (.if_icmp .eq 165, 3) := by decide +kernel
theorem dL_482 : decode code 482 = .ok (.iconst 0, 1) := by decide +kernel
theorem dL_483 : decode code 483 = .ok (.ireturn, 1) := by decide +kernel
theorem dL_484 : decode code 484 = .ok (.aload_n 1, 1) := by decide +kernel
theorem dL_485 : decode code 485 = .ok (.aload_n 0, 1) := by decide +kernel
theorem dL_486 : decode code 486 = .ok (.iload_n 3, 1) := by decide +kernel
theorem dL_487 : decode code 487 = .ok (.iconst 1, 1) := by decide +kernel
theorem dL_488 : decode code 488 = .ok (.iadd, 1) := by decide +kernel
theorem dL_489 : decode code 489 = .ok (.iaload, 1) := by decide +kernel
theorem dL_490 : decode code 490 = .ok (.invokevirtual 61, 3) := by decide +kernel
theorem dL_493 : decode code 493 = .ok (.aload_n 2, 1) := by decide +kernel
theorem dL_494 : decode code 494 = .ok (.aload_n 0, 1) := by decide +kernel
theorem dL_495 : decode code 495 = .ok (.iload_n 3, 1) := by decide +kernel
theorem dL_496 : decode code 496 = .ok (.iconst 1, 1) := by decide +kernel
theorem dL_497 : decode code 497 = .ok (.iadd, 1) := by decide +kernel
theorem dL_498 : decode code 498 = .ok (.iaload, 1) := by decide +kernel
theorem dL_499 : decode code 499 = .ok (.invokevirtual 65, 3) := by decide +kernel
theorem dL_502 : decode code 502 = .ok (.lcmp, 1) := by decide +kernel
theorem dL_503 : decode code 503 = .ok (.ifCond .eq 141, 3) := by decide +kernel
theorem dL_506 : decode code 506 = .ok (.iconst 0, 1) := by decide +kernel
theorem dL_507 : decode code 507 = .ok (.ireturn, 1) := by decide +kernel
theorem dL_508 : decode code 508 = .ok (.aload_n 1, 1) := by decide +kernel
theorem dL_509 : decode code 509 = .ok (.aload_n 0, 1) := by decide +kernel
theorem dL_510 : decode code 510 = .ok (.iload_n 3, 1) := by decide +kernel
theorem dL_511 : decode code 511 = .ok (.iconst 1, 1) := by decide +kernel
theorem dL_512 : decode code 512 = .ok (.iadd, 1) := by decide +kernel
theorem dL_513 : decode code 513 = .ok (.iaload, 1) := by decide +kernel
theorem dL_514 : decode code 514 = .ok (.aload_n 0, 1) := by decide +kernel
theorem dL_515 : decode code 515 = .ok (.iload_n 3, 1) := by decide +kernel
theorem dL_516 : decode code 516 = .ok (.iconst 2, 1) := by decide +kernel
theorem dL_517 : decode code 517 = .ok (.iadd, 1) := by decide +kernel
theorem dL_518 : decode code 518 = .ok (.iaload, 1) := by decide +kernel
theorem dL_519 : decode code 519 = .ok (.invokevirtual 66, 3) := by decide +kernel
theorem dL_522 : decode code 522 = .ok (.aload_n 2, 1) := by decide +kernel
theorem dL_523 : decode code 523 = .ok (.aload_n 0, 1) := by decide +kernel
theorem dL_524 : decode code 524 = .ok (.iload_n 3, 1) := by decide +kernel
theorem dL_525 : decode code 525 = .ok (.iconst 1, 1) := by decide +kernel
theorem dL_526 : decode code 526 = .ok (.iadd, 1) := by decide +kernel
theorem dL_527 : decode code 527 = .ok (.iaload, 1) := by decide +kernel
theorem dL_528 : decode code 528 = .ok (.aload_n 0, 1) := by decide +kernel
theorem dL_529 : decode code 529 = .ok (.iload_n 3, 1) := by decide +kernel
theorem dL_530 : decode code 530 = .ok (.iconst 2, 1) := by decide +kernel
theorem dL_531 : decode code 531 = .ok (.iadd, 1) := by decide +kernel
theorem dL_532 : decode code 532 = .ok (.iaload, 1) := by decide +kernel
theorem dL_533 : decode code 533 = .ok (.invokevirtual 69, 3) := by decide +kernel
theorem dL_536 : decode code 536 = .ok (.if_icmp .eq 108, 3) := by decide +kernel
theorem dL_539 : decode code 539 = .ok (.iconst 0, 1) := by decide +kernel
theorem dL_540 : decode code 540 = .ok (.ireturn, 1) := by decide +kernel
theorem dL_541 : decode code 541 = .ok (.aload_n 1, 1) := by decide +kernel
theorem dL_542 : decode code 542 = .ok (.aload_n 0, 1) := by decide +kernel
theorem dL_543 : decode code 543 = .ok (.iload_n 3, 1) := by decide +kernel
theorem dL_544 : decode code 544 = .ok (.iconst 1, 1) := by decide +kernel
theorem dL_545 : decode code 545 = .ok (.iadd, 1) := by decide +kernel
theorem dL_546 : decode code 546 = .ok (.iaload, 1) := by decide +kernel
theorem dL_547 : decode code 547 = .ok (.invokevirtual 70, 3) := by decide +kernel
theorem dL_550 : decode code 550 = .ok (.aload_n 2, 1) := by decide +kernel
theorem dL_551 : decode code 551 = .ok (.aload_n 0, 1) := by decide +kernel
theorem dL_552 : decode code 552 = .ok (.iload_n 3, 1) := by decide +kernel
theorem dL_553 : decode code 553 = .ok (.iconst 1, 1) := by decide +kernel
theorem dL_554 : decode code 554 = .ok (.iadd, 1) := by decide +kernel
theorem dL_555 : decode code 555 = .ok (.iaload, 1) := by decide +kernel
theorem dL_556 : decode code 556 = .ok (.invokevirtual 73, 3) := by decide +kernel
theorem dL_559 : decode code 559 = .ok (.if_icmp .eq 85, 3) := by decide +kernel
theorem dL_562 : decode code 562 = .ok (.iconst 0, 1) := by decide +kernel
theorem dL_563 : decode code 563 = .ok (.ireturn, 1) := by decide +kernel
theorem dL_564 : decode code 564 = .ok (.aload_n 1, 1) := by decide +kernel
theorem dL_565 : decode code 565 = .ok (.aload_n 0, 1) := by decide +kernel
theorem dL_566 : decode code 566 = .ok (.iload_n 3, 1) := by decide +kernel
theorem dL_567 : decode code 567 = .ok (.iconst 1, 1) := by decide +kernel
theorem dL_568 : decode code 568 = .ok (.iadd, 1) := by decide +kernel
theorem dL_569 : decode code 569 = .ok (.iaload, 1) := by decide +kernel
theorem dL_570 : decode code 570 = .ok (.aload_n 0, 1) := by decide +kernel
theorem dL_571 : decode code 571 = .ok (.iload_n 3, 1) := by decide +kernel
theorem dL_572 : decode code 572 = .ok (.iconst 2, 1) := by decide +kernel
theorem dL_573 : decode code 573 = .ok (.iadd, 1) := by decide +kernel
theorem dL_574 : decode code 574 = .ok (.iaload, 1) := by decide +kernel
theorem dL_575 : decode code 575 = .ok (.aload_n 0, 1) := by decide +kernel
theorem dL_576 : decode code 576 = .ok (.iload_n 3, 1) := by decide +kernel
theorem dL_577 : decode code 577 = .ok (.iconst 3, 1) := by decide +kernel
theorem dL_578 : decode code 578 = .ok (.iadd, 1) := by decide +kernel
theorem dL_579 : decode code 579 = .ok (.iaload, 1) := by decide +kernel
theorem dL_580 : decode code 580 = .ok (.invokevirtual 74, 3) := by decide +kernel
theorem dL_583 : decode code 583 = .ok (.aload_n 2, 1) := by decide +kernel
theorem dL_584 : decode code 584 = .ok (.aload_n 0, 1) := by decide +kernel
theorem dL_585 : decode code 585 = .ok (.iload_n 3, 1) := by decide +kernel
theorem dL_586 : decode code 586 = .ok (.iconst 1, 1) := by decide +kernel
theorem dL_587 : decode code 587 = .ok (.iadd, 1) := by decide +kernel
theorem dL_588 : decode code 588 = .ok (.iaload, 1) := by decide +kernel
theorem dL_589 : decode code 589 = .ok (.aload_n 0, 1) := by decide +kernel
theorem dL_590 : decode code 590 = .ok (.iload_n 3, 1) := by decide +kernel
theorem dL_591 : decode code 591 = .ok (.iconst 2, 1) := by decide +kernel
theorem dL_592 : decode code 592 = .ok (.iadd, 1) := by decide +kernel
theorem dL_593 : decode code 593 = .ok (.iaload, 1) := by decide +kernel
theorem dL_594 : decode code 594 = .ok (.aload_n 0, 1) := by decide +kernel
theorem dL_595 : decode code 595 = .ok (.iload_n 3, 1) := by decide +kernel
theorem dL_596 : decode code 596 = .ok (.iconst 3, 1) := by decide +kernel
theorem dL_597 : decode code 597 = .ok (.iadd, 1) := by decide +kernel
theorem dL_598 : decode code 598 = .ok (.iaload, 1) := by decide +kernel
theorem dL_599 : decode code 599 = .ok (.invokevirtual 78, 3) := by decide +kernel
theorem dL_602 : decode code 602 = .ok (.if_icmp .eq 42, 3) := by decide +kernel
theorem dL_605 : decode code 605 = .ok (.iconst 0, 1) := by decide +kernel
theorem dL_606 : decode code 606 = .ok (.ireturn, 1) := by decide +kernel
theorem dL_607 : decode code 607 = .ok (.aload_n 1, 1) := by decide +kernel
theorem dL_608 : decode code 608 = .ok (.aload_n 0, 1) := by decide +kernel
theorem dL_609 : decode code 609 = .ok (.iload_n 3, 1) := by decide +kernel
theorem dL_610 : decode code 610 = .ok (.iconst 1, 1) := by decide +kernel
theorem dL_611 : decode code 611 = .ok (.iadd, 1) := by decide +kernel
theorem dL_612 : decode code 612 = .ok (.iaload, 1) := by decide +kernel
theorem dL_613 : decode code 613 = .ok (.invokevirtual 79, 3) := by decide +kernel
theorem dL_616 : decode code 616 = .ok (.aload_n 2, 1) := by decide +kernel
theorem dL_617 : decode code 617 = .ok (.aload_n 0, 1) := by decide +kernel
theorem dL_618 : decode code 618 = .ok (.iload_n 3, 1) := by decide +kernel
theorem dL_619 : decode code 619 = .ok (.iconst 1, 1) := by decide +kernel
theorem dL_620 : decode code 620 = .ok (.iadd, 1) := by decide +kernel
theorem dL_621 : decode code 621 = .ok (.iaload, 1) := by decide +kernel
theorem dL_622 : decode code 622 = .ok (.invokevirtual 82, 3) := by decide +kernel
theorem dL_625 : decode code 625 = .ok (.lcmp, 1) := by decide +kernel
theorem dL_626 : decode code 626 = .ok (.ifCond .eq 18, 3) := by decide +kernel
theorem dL_629 : decode code 629 = .ok (.iconst 0, 1) := by decide +kernel
theorem dL_630 : decode code 630 = .ok (.ireturn, 1) := by decide +kernel
theorem dL_631 : decode code 631 = .ok (.aload_n 1, 1) := by decide +kernel
theorem dL_632 : decode code 632 = .ok (.invokevirtual 83, 3) := by decide +kernel
theorem dL_635 : decode code 635 = .ok (.aload_n 2, 1) := by decide +kernel
theorem dL_636 : decode code 636 = .ok (.invokevirtual 86, 3) := by decide +kernel
theorem dL_639 : decode code 639 = .ok (.if_icmp .eq 5, 3) := by decide +kernel
theorem dL_642 : decode code 642 = .ok (.iconst 0, 1) := by decide +kernel
theorem dL_643 : decode code 643 = .ok (.ireturn, 1) := by decide +kernel
theorem dL_644 : decode code 644 = .ok (.iinc 3 5, 3) := by decide +kernel
theorem dL_647 : decode code 647 = .ok (.goto (-629), 3) := by decide +kernel
theorem dL_650 : decode code 650 = .ok (.iconst 1, 1) := by decide +kernel
theorem dL_651 : decode code 651 = .ok (.ireturn, 1) := by decide +kernel
theorem mlL_15 : Cond.methodLink RL 15 yX11_feed ∈ g_WS := g_tb (i := 360) (by decide +kernel) rfl
theorem mlL_19 : Cond.methodLink RL 19 yX13_feed ∈ g_WS := g_tb (i := 1136) (by decide +kernel) rfl
theorem mlL_20 : Cond.methodLink RL 20 yX11_write ∈ g_WS := g_tb (i := 376) (by decide +kernel) rfl
theorem mlL_24 : Cond.methodLink RL 24 yX13_write ∈ g_WS := g_tb (i := 1140) (by decide +kernel) rfl
theorem mlL_25 : Cond.methodLink RL 25 yX11_fill ∈ g_WS := g_tb (i := 432) (by decide +kernel) rfl
theorem mlL_29 : Cond.methodLink RL 29 yX13_fill ∈ g_WS := g_tb (i := 1151) (by decide +kernel) rfl
theorem mlL_30 : Cond.methodLink RL 30 yX11_clear ∈ g_WS := g_tb (i := 437) (by decide +kernel) rfl
theorem mlL_34 : Cond.methodLink RL 34 yX13_clear ∈ g_WS := g_tb (i := 1156) (by decide +kernel) rfl
theorem mlL_35 : Cond.methodLink RL 35 yX11_put ∈ g_WS := g_tb (i := 450) (by decide +kernel) rfl
theorem mlL_39 : Cond.methodLink RL 39 yX13_put ∈ g_WS := g_tb (i := 1160) (by decide +kernel) rfl
theorem mlL_40 : Cond.methodLink RL 40 yX11_about ∈ g_WS := g_tb (i := 736) (by decide +kernel) rfl
theorem mlL_43 : Cond.methodLink RL 43 yX13_about ∈ g_WS := g_tb (i := 1300) (by decide +kernel) rfl
theorem mlL_44 : Cond.methodLink RL 44 yX11_number ∈ g_WS := g_tb (i := 741) (by decide +kernel) rfl
theorem mlL_47 : Cond.methodLink RL 47 yX13_number ∈ g_WS := g_tb (i := 1304) (by decide +kernel) rfl
theorem mlL_48 : Cond.methodLink RL 48 yX11_fragments ∈ g_WS := g_tb (i := 749) (by decide +kernel) rfl
theorem mlL_52 : Cond.methodLink RL 52 yX13_fragments ∈ g_WS := g_tb (i := 1308) (by decide +kernel) rfl
theorem mlL_53 : Cond.methodLink RL 53 yX11_fragment ∈ g_WS := g_tb (i := 757) (by decide +kernel) rfl
theorem mlL_56 : Cond.methodLink RL 56 yX13_fragment ∈ g_WS := g_tb (i := 1312) (by decide +kernel) rfl
theorem mlL_57 : Cond.methodLink RL 57 yX11_size ∈ g_WS := g_tb (i := 769) (by decide +kernel) rfl
theorem mlL_60 : Cond.methodLink RL 60 yX13_size ∈ g_WS := g_tb (i := 1316) (by decide +kernel) rfl
theorem mlL_61 : Cond.methodLink RL 61 yX11_word ∈ g_WS := g_tb (i := 773) (by decide +kernel) rfl
theorem mlL_65 : Cond.methodLink RL 65 yX13_word ∈ g_WS := g_tb (i := 1320) (by decide +kernel) rfl
theorem mlL_66 : Cond.methodLink RL 66 yX11_patch ∈ g_WS := g_tb (i := 781) (by decide +kernel) rfl
theorem mlL_69 : Cond.methodLink RL 69 yX13_patch ∈ g_WS := g_tb (i := 1329) (by decide +kernel) rfl
theorem mlL_70 : Cond.methodLink RL 70 yX11_cut ∈ g_WS := g_tb (i := 786) (by decide +kernel) rfl
theorem mlL_73 : Cond.methodLink RL 73 yX13_cut ∈ g_WS := g_tb (i := 1333) (by decide +kernel) rfl
theorem mlL_74 : Cond.methodLink RL 74 yX11_read ∈ g_WS := g_tb (i := 790) (by decide +kernel) rfl
theorem mlL_78 : Cond.methodLink RL 78 yX13_read ∈ g_WS := g_tb (i := 1337) (by decide +kernel) rfl
theorem mlL_79 : Cond.methodLink RL 79 yX11_out ∈ g_WS := g_tb (i := 921) (by decide +kernel) rfl
theorem mlL_82 : Cond.methodLink RL 82 yX13_out ∈ g_WS := g_tb (i := 1400) (by decide +kernel) rfl
theorem mlL_83 : Cond.methodLink RL 83 yX11_taken ∈ g_WS := g_tb (i := 925) (by decide +kernel) rfl
theorem mlL_86 : Cond.methodLink RL 86 yX13_taken ∈ g_WS := g_tb (i := 1404) (by decide +kernel) rfl
theorem mlL_9 : Cond.methodLink RL 9 yX11_init ∈ g_WS := g_tb (i := 19) (by decide +kernel) rfl
theorem mlL_12 : Cond.methodLink RL 12 yX13_init ∈ g_WS := g_tb (i := 931) (by decide +kernel) rfl
theorem nwL_7 : NWk RL 7 11 := ⟨RX11, TX11, 11, tyX11, rfl, rfl, iw_X11, tyX11_ok, g_tb (i := 17) (by decide +kernel) rfl, g_tb (i := 18) (by decide +kernel) rfl, g_tb (i := 1) (by decide +kernel) rfl, by decide +kernel⟩
theorem nwL_10 : NWk RL 10 13 := ⟨RX13, TX13, 61, tyX13, rfl, rfl, iw_X13, tyX13_ok, g_tb (i := 929) (by decide +kernel) rfl, g_tb (i := 930) (by decide +kernel) rfl, g_tb (i := 14) (by decide +kernel) rfl, by decide +kernel⟩
theorem ctL_13 : Cond.constantLong RL 13 (4294967295) ∈ g_WS := g_tb (i := 1408) (by decide +kernel) rfl
set_option maxHeartbeats 4000000 in
set_option maxRecDepth 100000 in
theorem lawc_0 (C : CX Y X RL nm code 4 ret 100 mc ms) (hce : ce ≤ mc) (hsl : sl ≤ ms) (hX : va_X b L xs (cx_s X) (cx_s X).heap) (hbl : b < (cx_s X).heap.size) (hbA : b < gl_b Y) (hL : L ≤ 320) (hi0 : 0 ≤ i) (hi : i + 5 ≤ L) (hc : c ≤ 1000) (hI : Inv c iv av) (hN : ∀ iv' av', Inv (c + 1) iv' av' → Wa Y X 4 Q ce sl 644 [(0, .ref b), (1, .ref (gl_b Y + 0)), (2, .ref (gl_b Y + 73)), (3, .int (i32 i))] [] RV iv' av' 116) : Wa Y X 4 Q ce sl 112 [(0, .ref b), (1, .ref (gl_b Y + 0)), (2, .ref (gl_b Y + 73)), (3, .int (i32 i))] [] RV iv av 116 := by
  refine r_aload_n (pc' := 113) C 1 rfl rfl dL_112 rfl ?_
  refine r_aload_n (pc' := 114) C 0 rfl rfl dL_113 rfl ?_
  refine r_iload_n (pc' := 115) C 3 rfl rfl dL_114 rfl ?_
  refine r_iconst (pc' := 116) C dL_115 rfl ?_
  refine r_iadd (pc' := 117) C dL_116 rfl ?_
  refine r_sld (pc' := 118) C hX hbl hbA (by omega) dL_117 rfl ?_
  refine r_i2l (pc' := 119) C (inR_toInt _) dL_118 rfl ?_
  refine r_bipush (pc' := 121) C dL_119 (by decide) rfl ?_
  refine r_lshlC (pc' := 122) (m := 4294967296) C (by decide) (by decide) dL_121 rfl ?_
  refine r_aload_n (pc' := 123) C 0 rfl rfl dL_122 rfl ?_
  refine r_iload_n (pc' := 124) C 3 rfl rfl dL_123 rfl ?_
  refine r_iconst (pc' := 125) C dL_124 rfl ?_
  refine r_iadd (pc' := 126) C dL_125 rfl ?_
  refine r_sld (pc' := 127) C hX hbl hbA (by omega) dL_126 rfl ?_
  refine r_i2l (pc' := 128) C (inR_toInt _) dL_127 rfl ?_
  refine r_ldc2 (pc' := 131) (x := 4294967295) C ctL_13 (by decide) dL_128 rfl ?_
  refine r_landM (pc' := 132) (m := 4294967296) C 32 (by decide) (by decide) (by decide) dL_131 rfl ?_
  refine r_lor (pc' := 133) C dL_132 rfl ?_
  refine r_aload_n (pc' := 134) C 0 rfl rfl dL_133 rfl ?_
  refine r_iload_n (pc' := 135) C 3 rfl rfl dL_134 rfl ?_
  refine r_iconst (pc' := 136) C dL_135 rfl ?_
  refine r_iadd (pc' := 137) C dL_136 rfl ?_
  refine r_sld (pc' := 138) C hX hbl hbA (by omega) dL_137 rfl ?_
  refine c_Vi (pc' := 141) (mt := mX11_feed) (as := [.long (i64 (g_orL ((xs (i + 1).toNat).toInt * 4294967296) ((xs (i + 2).toNat).toInt % 4294967296))), .int (i32 (xs (i + 3).toNat).toInt)]) (st := []) (k := 0) C (p_feed (e := 0) (e' := 0) hI (g_orL_in _ _) (inR_toInt _)) rfl cl_X11_feed mlL_15 im_X11_feed sl_X11_feed (by omega) hce hsl rfl (by decide) kc_0 (by decide) rfl rfl rfl (Nat.le_of_ble_eq_true rfl) dL_138 rfl (fun r1 iv1 av1 f1 hp => ?_)
  refine r_aload_n (pc' := 142) C 2 rfl rfl dL_141 rfl ?_
  refine r_aload_n (pc' := 143) C 0 rfl rfl dL_142 rfl ?_
  refine r_iload_n (pc' := 144) C 3 rfl rfl dL_143 rfl ?_
  refine r_iconst (pc' := 145) C dL_144 rfl ?_
  refine r_iadd (pc' := 146) C dL_145 rfl ?_
  refine r_sld (pc' := 147) C hX hbl hbA (by omega) dL_146 rfl ?_
  refine r_i2l (pc' := 148) C (inR_toInt _) dL_147 rfl ?_
  refine r_bipush (pc' := 150) C dL_148 (by decide) rfl ?_
  refine r_lshlC (pc' := 151) (m := 4294967296) C (by decide) (by decide) dL_150 rfl ?_
  refine r_aload_n (pc' := 152) C 0 rfl rfl dL_151 rfl ?_
  refine r_iload_n (pc' := 153) C 3 rfl rfl dL_152 rfl ?_
  refine r_iconst (pc' := 154) C dL_153 rfl ?_
  refine r_iadd (pc' := 155) C dL_154 rfl ?_
  refine r_sld (pc' := 156) C hX hbl hbA (by omega) dL_155 rfl ?_
  refine r_i2l (pc' := 157) C (inR_toInt _) dL_156 rfl ?_
  refine r_ldc2 (pc' := 160) (x := 4294967295) C ctL_13 (by decide) dL_157 rfl ?_
  refine r_landM (pc' := 161) (m := 4294967296) C 32 (by decide) (by decide) (by decide) dL_160 rfl ?_
  refine r_lor (pc' := 162) C dL_161 rfl ?_
  refine r_aload_n (pc' := 163) C 0 rfl rfl dL_162 rfl ?_
  refine r_iload_n (pc' := 164) C 3 rfl rfl dL_163 rfl ?_
  refine r_iconst (pc' := 165) C dL_164 rfl ?_
  refine r_iadd (pc' := 166) C dL_165 rfl ?_
  refine r_sld (pc' := 167) C hX hbl hbA (by omega) dL_166 rfl ?_
  refine c_Vi (pc' := 170) (mt := mX13_feed) (as := [.long (i64 (g_orL ((xs (i + 1).toNat).toInt * 4294967296) ((xs (i + 2).toNat).toInt % 4294967296))), .int (i32 (xs (i + 3).toNat).toInt)]) (st := [.int (i32 r1)]) (k := 73) C (hp) rfl cl_X13_feed mlL_19 im_X13_feed sl_X13_feed (by omega) hce hsl rfl (by decide) kc_73 (by decide) rfl rfl rfl (Nat.le_of_ble_eq_true rfl) dL_167 rfl (fun r2 iv2 av2 f2 hq => ?_)
  obtain ⟨rfl, hJ⟩ := hq
  exact r_icmp_eq (pc' := 173) (tgt := 644) C f2 f2 dL_170 (by decide) rfl (fun _ => hN iv2 av2 hJ) (fun c => absurd rfl c)
set_option maxHeartbeats 4000000 in
set_option maxRecDepth 100000 in
theorem lawc_1 (C : CX Y X RL nm code 4 ret 100 mc ms) (hce : ce ≤ mc) (hsl : sl ≤ ms) (hX : va_X b L xs (cx_s X) (cx_s X).heap) (hbl : b < (cx_s X).heap.size) (hbA : b < gl_b Y) (hL : L ≤ 320) (hi0 : 0 ≤ i) (hi : i + 5 ≤ L) (hc : c ≤ 1000) (hI : Inv c iv av) (hN : ∀ iv' av', Inv (c + 1) iv' av' → Wa Y X 4 Q ce sl 644 [(0, .ref b), (1, .ref (gl_b Y + 0)), (2, .ref (gl_b Y + 73)), (3, .int (i32 i))] [] RV iv' av' 116) : Wa Y X 4 Q ce sl 175 [(0, .ref b), (1, .ref (gl_b Y + 0)), (2, .ref (gl_b Y + 73)), (3, .int (i32 i))] [] RV iv av 116 := by
  refine r_aload_n (pc' := 176) C 1 rfl rfl dL_175 rfl ?_
  refine r_aload_n (pc' := 177) C 0 rfl rfl dL_176 rfl ?_
  refine r_iload_n (pc' := 178) C 3 rfl rfl dL_177 rfl ?_
  refine r_iconst (pc' := 179) C dL_178 rfl ?_
  refine r_iadd (pc' := 180) C dL_179 rfl ?_
  refine r_sld (pc' := 181) C hX hbl hbA (by omega) dL_180 rfl ?_
  refine r_aload_n (pc' := 182) C 0 rfl rfl dL_181 rfl ?_
  refine r_iload_n (pc' := 183) C 3 rfl rfl dL_182 rfl ?_
  refine r_iconst (pc' := 184) C dL_183 rfl ?_
  refine r_iadd (pc' := 185) C dL_184 rfl ?_
  refine r_sld (pc' := 186) C hX hbl hbA (by omega) dL_185 rfl ?_
  refine c_Vi (pc' := 189) (mt := mX11_write) (as := [.int (i32 (xs (i + 1).toNat).toInt), .int (i32 (xs (i + 2).toNat).toInt)]) (st := []) (k := 0) C (p_write (e := 0) (e' := 0) hI (inR_toInt _) (inR_toInt _)) rfl cl_X11_write mlL_20 im_X11_write sl_X11_write (by omega) hce hsl rfl (by decide) kc_0 (by decide) rfl rfl rfl (Nat.le_of_ble_eq_true rfl) dL_186 rfl (fun r1 iv1 av1 f1 hp => ?_)
  refine r_aload_n (pc' := 190) C 2 rfl rfl dL_189 rfl ?_
  refine r_aload_n (pc' := 191) C 0 rfl rfl dL_190 rfl ?_
  refine r_iload_n (pc' := 192) C 3 rfl rfl dL_191 rfl ?_
  refine r_iconst (pc' := 193) C dL_192 rfl ?_
  refine r_iadd (pc' := 194) C dL_193 rfl ?_
  refine r_sld (pc' := 195) C hX hbl hbA (by omega) dL_194 rfl ?_
  refine r_aload_n (pc' := 196) C 0 rfl rfl dL_195 rfl ?_
  refine r_iload_n (pc' := 197) C 3 rfl rfl dL_196 rfl ?_
  refine r_iconst (pc' := 198) C dL_197 rfl ?_
  refine r_iadd (pc' := 199) C dL_198 rfl ?_
  refine r_sld (pc' := 200) C hX hbl hbA (by omega) dL_199 rfl ?_
  refine c_Vi (pc' := 203) (mt := mX13_write) (as := [.int (i32 (xs (i + 1).toNat).toInt), .int (i32 (xs (i + 2).toNat).toInt)]) (st := [.int (i32 r1)]) (k := 73) C (hp) rfl cl_X13_write mlL_24 im_X13_write sl_X13_write (by omega) hce hsl rfl (by decide) kc_73 (by decide) rfl rfl rfl (Nat.le_of_ble_eq_true rfl) dL_200 rfl (fun r2 iv2 av2 f2 hq => ?_)
  obtain ⟨rfl, hJ⟩ := hq
  exact r_icmp_eq (pc' := 206) (tgt := 644) C f2 f2 dL_203 (by decide) rfl (fun _ => hN iv2 av2 hJ) (fun c => absurd rfl c)
set_option maxHeartbeats 4000000 in
set_option maxRecDepth 100000 in
theorem lawc_2 (C : CX Y X RL nm code 4 ret 100 mc ms) (hce : ce ≤ mc) (hsl : sl ≤ ms) (hX : va_X b L xs (cx_s X) (cx_s X).heap) (hbl : b < (cx_s X).heap.size) (hbA : b < gl_b Y) (hL : L ≤ 320) (hi0 : 0 ≤ i) (hi : i + 5 ≤ L) (hc : c ≤ 1000) (hI : Inv c iv av) (hN : ∀ iv' av', Inv (c + 1) iv' av' → Wa Y X 4 Q ce sl 644 [(0, .ref b), (1, .ref (gl_b Y + 0)), (2, .ref (gl_b Y + 73)), (3, .int (i32 i))] [] RV iv' av' 116) : Wa Y X 4 Q ce sl 208 [(0, .ref b), (1, .ref (gl_b Y + 0)), (2, .ref (gl_b Y + 73)), (3, .int (i32 i))] [] RV iv av 116 := by
  refine r_aload_n (pc' := 209) C 1 rfl rfl dL_208 rfl ?_
  refine r_aload_n (pc' := 210) C 0 rfl rfl dL_209 rfl ?_
  refine r_iload_n (pc' := 211) C 3 rfl rfl dL_210 rfl ?_
  refine r_iconst (pc' := 212) C dL_211 rfl ?_
  refine r_iadd (pc' := 213) C dL_212 rfl ?_
  refine r_sld (pc' := 214) C hX hbl hbA (by omega) dL_213 rfl ?_
  refine r_aload_n (pc' := 215) C 0 rfl rfl dL_214 rfl ?_
  refine r_iload_n (pc' := 216) C 3 rfl rfl dL_215 rfl ?_
  refine r_iconst (pc' := 217) C dL_216 rfl ?_
  refine r_iadd (pc' := 218) C dL_217 rfl ?_
  refine r_sld (pc' := 219) C hX hbl hbA (by omega) dL_218 rfl ?_
  refine r_aload_n (pc' := 220) C 0 rfl rfl dL_219 rfl ?_
  refine r_iload_n (pc' := 221) C 3 rfl rfl dL_220 rfl ?_
  refine r_iconst (pc' := 222) C dL_221 rfl ?_
  refine r_iadd (pc' := 223) C dL_222 rfl ?_
  refine r_sld (pc' := 224) C hX hbl hbA (by omega) dL_223 rfl ?_
  refine r_aload_n (pc' := 225) C 0 rfl rfl dL_224 rfl ?_
  refine r_iload_n (pc' := 226) C 3 rfl rfl dL_225 rfl ?_
  refine r_iconst (pc' := 227) C dL_226 rfl ?_
  refine r_iadd (pc' := 228) C dL_227 rfl ?_
  refine r_sld (pc' := 229) C hX hbl hbA (by omega) dL_228 rfl ?_
  refine c_Vi (pc' := 232) (mt := mX11_fill) (as := [.int (i32 (xs (i + 1).toNat).toInt), .int (i32 (xs (i + 2).toNat).toInt), .int (i32 (xs (i + 3).toNat).toInt), .int (i32 (xs (i + 4).toNat).toInt)]) (st := []) (k := 0) C (p_fill (e := 0) (e' := 0) hI (inR_toInt _) (inR_toInt _) (inR_toInt _) (inR_toInt _)) rfl cl_X11_fill mlL_25 im_X11_fill sl_X11_fill (by omega) hce hsl rfl (by decide) kc_0 (by decide) rfl rfl rfl (Nat.le_of_ble_eq_true rfl) dL_229 rfl (fun r1 iv1 av1 f1 hp => ?_)
  refine r_aload_n (pc' := 233) C 2 rfl rfl dL_232 rfl ?_
  refine r_aload_n (pc' := 234) C 0 rfl rfl dL_233 rfl ?_
  refine r_iload_n (pc' := 235) C 3 rfl rfl dL_234 rfl ?_
  refine r_iconst (pc' := 236) C dL_235 rfl ?_
  refine r_iadd (pc' := 237) C dL_236 rfl ?_
  refine r_sld (pc' := 238) C hX hbl hbA (by omega) dL_237 rfl ?_
  refine r_aload_n (pc' := 239) C 0 rfl rfl dL_238 rfl ?_
  refine r_iload_n (pc' := 240) C 3 rfl rfl dL_239 rfl ?_
  refine r_iconst (pc' := 241) C dL_240 rfl ?_
  refine r_iadd (pc' := 242) C dL_241 rfl ?_
  refine r_sld (pc' := 243) C hX hbl hbA (by omega) dL_242 rfl ?_
  refine r_aload_n (pc' := 244) C 0 rfl rfl dL_243 rfl ?_
  refine r_iload_n (pc' := 245) C 3 rfl rfl dL_244 rfl ?_
  refine r_iconst (pc' := 246) C dL_245 rfl ?_
  refine r_iadd (pc' := 247) C dL_246 rfl ?_
  refine r_sld (pc' := 248) C hX hbl hbA (by omega) dL_247 rfl ?_
  refine r_aload_n (pc' := 249) C 0 rfl rfl dL_248 rfl ?_
  refine r_iload_n (pc' := 250) C 3 rfl rfl dL_249 rfl ?_
  refine r_iconst (pc' := 251) C dL_250 rfl ?_
  refine r_iadd (pc' := 252) C dL_251 rfl ?_
  refine r_sld (pc' := 253) C hX hbl hbA (by omega) dL_252 rfl ?_
  refine c_Vi (pc' := 256) (mt := mX13_fill) (as := [.int (i32 (xs (i + 1).toNat).toInt), .int (i32 (xs (i + 2).toNat).toInt), .int (i32 (xs (i + 3).toNat).toInt), .int (i32 (xs (i + 4).toNat).toInt)]) (st := [.int (i32 r1)]) (k := 73) C (hp) rfl cl_X13_fill mlL_29 im_X13_fill sl_X13_fill (by omega) hce hsl rfl (by decide) kc_73 (by decide) rfl rfl rfl (Nat.le_of_ble_eq_true rfl) dL_253 rfl (fun r2 iv2 av2 f2 hq => ?_)
  obtain ⟨rfl, hJ⟩ := hq
  exact r_icmp_eq (pc' := 259) (tgt := 644) C f2 f2 dL_256 (by decide) rfl (fun _ => hN iv2 av2 hJ) (fun c => absurd rfl c)
set_option maxHeartbeats 4000000 in
set_option maxRecDepth 100000 in
theorem lawc_3 (C : CX Y X RL nm code 4 ret 100 mc ms) (hce : ce ≤ mc) (hsl : sl ≤ ms) (hX : va_X b L xs (cx_s X) (cx_s X).heap) (hbl : b < (cx_s X).heap.size) (hbA : b < gl_b Y) (hL : L ≤ 320) (hi0 : 0 ≤ i) (hi : i + 5 ≤ L) (hc : c ≤ 1000) (hI : Inv c iv av) (hN : ∀ iv' av', Inv (c + 1) iv' av' → Wa Y X 4 Q ce sl 644 [(0, .ref b), (1, .ref (gl_b Y + 0)), (2, .ref (gl_b Y + 73)), (3, .int (i32 i))] [] RV iv' av' 116) : Wa Y X 4 Q ce sl 261 [(0, .ref b), (1, .ref (gl_b Y + 0)), (2, .ref (gl_b Y + 73)), (3, .int (i32 i))] [] RV iv av 116 := by
  refine r_aload_n (pc' := 262) C 1 rfl rfl dL_261 rfl ?_
  refine r_aload_n (pc' := 263) C 0 rfl rfl dL_262 rfl ?_
  refine r_iload_n (pc' := 264) C 3 rfl rfl dL_263 rfl ?_
  refine r_iconst (pc' := 265) C dL_264 rfl ?_
  refine r_iadd (pc' := 266) C dL_265 rfl ?_
  refine r_sld (pc' := 267) C hX hbl hbA (by omega) dL_266 rfl ?_
  refine c_Vi (pc' := 270) (mt := mX11_clear) (as := [.int (i32 (xs (i + 1).toNat).toInt)]) (st := []) (k := 0) C (p_clear (e := 0) (e' := 0) hI (inR_toInt _)) rfl cl_X11_clear mlL_30 im_X11_clear sl_X11_clear (by omega) hce hsl rfl (by decide) kc_0 (by decide) rfl rfl rfl (Nat.le_of_ble_eq_true rfl) dL_267 rfl (fun r1 iv1 av1 f1 hp => ?_)
  refine r_aload_n (pc' := 271) C 2 rfl rfl dL_270 rfl ?_
  refine r_aload_n (pc' := 272) C 0 rfl rfl dL_271 rfl ?_
  refine r_iload_n (pc' := 273) C 3 rfl rfl dL_272 rfl ?_
  refine r_iconst (pc' := 274) C dL_273 rfl ?_
  refine r_iadd (pc' := 275) C dL_274 rfl ?_
  refine r_sld (pc' := 276) C hX hbl hbA (by omega) dL_275 rfl ?_
  refine c_Vi (pc' := 279) (mt := mX13_clear) (as := [.int (i32 (xs (i + 1).toNat).toInt)]) (st := [.int (i32 r1)]) (k := 73) C (hp) rfl cl_X13_clear mlL_34 im_X13_clear sl_X13_clear (by omega) hce hsl rfl (by decide) kc_73 (by decide) rfl rfl rfl (Nat.le_of_ble_eq_true rfl) dL_276 rfl (fun r2 iv2 av2 f2 hq => ?_)
  obtain ⟨rfl, hJ⟩ := hq
  exact r_icmp_eq (pc' := 282) (tgt := 644) C f2 f2 dL_279 (by decide) rfl (fun _ => hN iv2 av2 hJ) (fun c => absurd rfl c)
set_option maxHeartbeats 4000000 in
set_option maxRecDepth 100000 in
theorem lawc_4 (C : CX Y X RL nm code 4 ret 100 mc ms) (hce : ce ≤ mc) (hsl : sl ≤ ms) (hX : va_X b L xs (cx_s X) (cx_s X).heap) (hbl : b < (cx_s X).heap.size) (hbA : b < gl_b Y) (hL : L ≤ 320) (hi0 : 0 ≤ i) (hi : i + 5 ≤ L) (hc : c ≤ 1000) (hI : Inv c iv av) (hN : ∀ iv' av', Inv (c + 1) iv' av' → Wa Y X 4 Q ce sl 644 [(0, .ref b), (1, .ref (gl_b Y + 0)), (2, .ref (gl_b Y + 73)), (3, .int (i32 i))] [] RV iv' av' 116) : Wa Y X 4 Q ce sl 284 [(0, .ref b), (1, .ref (gl_b Y + 0)), (2, .ref (gl_b Y + 73)), (3, .int (i32 i))] [] RV iv av 116 := by
  refine r_aload_n (pc' := 285) C 1 rfl rfl dL_284 rfl ?_
  refine r_aload_n (pc' := 286) C 0 rfl rfl dL_285 rfl ?_
  refine r_iload_n (pc' := 287) C 3 rfl rfl dL_286 rfl ?_
  refine r_iconst (pc' := 288) C dL_287 rfl ?_
  refine r_iadd (pc' := 289) C dL_288 rfl ?_
  refine r_sld (pc' := 290) C hX hbl hbA (by omega) dL_289 rfl ?_
  refine r_aload_n (pc' := 291) C 0 rfl rfl dL_290 rfl ?_
  refine r_iload_n (pc' := 292) C 3 rfl rfl dL_291 rfl ?_
  refine r_iconst (pc' := 293) C dL_292 rfl ?_
  refine r_iadd (pc' := 294) C dL_293 rfl ?_
  refine r_sld (pc' := 295) C hX hbl hbA (by omega) dL_294 rfl ?_
  have j303 : Wa Y X 4 Q ce sl 303 [(0, .ref b), (1, .ref (gl_b Y + 0)), (2, .ref (gl_b Y + 73)), (3, .int (i32 i))] [.int (i32 (bz (xs (i + 2).toNat).toInt)), .int (i32 (xs (i + 1).toNat).toInt), .ref (gl_b Y + 0)] RV iv av 116 := by
    refine r_aload_n (pc' := 304) C 0 rfl rfl dL_303 rfl ?_
    refine r_iload_n (pc' := 305) C 3 rfl rfl dL_304 rfl ?_
    refine r_iconst (pc' := 306) C dL_305 rfl ?_
    refine r_iadd (pc' := 307) C dL_306 rfl ?_
    refine r_sld (pc' := 308) C hX hbl hbA (by omega) dL_307 rfl ?_
    have j316 : Wa Y X 4 Q ce sl 316 [(0, .ref b), (1, .ref (gl_b Y + 0)), (2, .ref (gl_b Y + 73)), (3, .int (i32 i))] [.int (i32 (bz (xs (i + 3).toNat).toInt)), .int (i32 (bz (xs (i + 2).toNat).toInt)), .int (i32 (xs (i + 1).toNat).toInt), .ref (gl_b Y + 0)] RV iv av 116 := by
      refine c_Vi (pc' := 319) (mt := mX11_put) (as := [.int (i32 (xs (i + 1).toNat).toInt), .int (i32 (bz (xs (i + 2).toNat).toInt)), .int (i32 (bz (xs (i + 3).toNat).toInt))]) (st := []) (k := 0) C (p_put (e := 0) (e' := 0) hI hc (inR_toInt _) (bz_in _) (bz_in _)) rfl cl_X11_put mlL_35 im_X11_put sl_X11_put (by omega) hce hsl rfl (by decide) kc_0 (by decide) rfl rfl rfl (Nat.le_of_ble_eq_true rfl) dL_316 rfl (fun r1 iv1 av1 f1 hp => ?_)
      refine r_aload_n (pc' := 320) C 2 rfl rfl dL_319 rfl ?_
      refine r_aload_n (pc' := 321) C 0 rfl rfl dL_320 rfl ?_
      refine r_iload_n (pc' := 322) C 3 rfl rfl dL_321 rfl ?_
      refine r_iconst (pc' := 323) C dL_322 rfl ?_
      refine r_iadd (pc' := 324) C dL_323 rfl ?_
      refine r_sld (pc' := 325) C hX hbl hbA (by omega) dL_324 rfl ?_
      refine r_aload_n (pc' := 326) C 0 rfl rfl dL_325 rfl ?_
      refine r_iload_n (pc' := 327) C 3 rfl rfl dL_326 rfl ?_
      refine r_iconst (pc' := 328) C dL_327 rfl ?_
      refine r_iadd (pc' := 329) C dL_328 rfl ?_
      refine r_sld (pc' := 330) C hX hbl hbA (by omega) dL_329 rfl ?_
      have j338 : Wa Y X 4 Q ce sl 338 [(0, .ref b), (1, .ref (gl_b Y + 0)), (2, .ref (gl_b Y + 73)), (3, .int (i32 i))] [.int (i32 (bz (xs (i + 2).toNat).toInt)), .int (i32 (xs (i + 1).toNat).toInt), .ref (gl_b Y + 73), .int (i32 r1)] RV iv1 av1 116 := by
        refine r_aload_n (pc' := 339) C 0 rfl rfl dL_338 rfl ?_
        refine r_iload_n (pc' := 340) C 3 rfl rfl dL_339 rfl ?_
        refine r_iconst (pc' := 341) C dL_340 rfl ?_
        refine r_iadd (pc' := 342) C dL_341 rfl ?_
        refine r_sld (pc' := 343) C hX hbl hbA (by omega) dL_342 rfl ?_
        have j351 : Wa Y X 4 Q ce sl 351 [(0, .ref b), (1, .ref (gl_b Y + 0)), (2, .ref (gl_b Y + 73)), (3, .int (i32 i))] [.int (i32 (bz (xs (i + 3).toNat).toInt)), .int (i32 (bz (xs (i + 2).toNat).toInt)), .int (i32 (xs (i + 1).toNat).toInt), .ref (gl_b Y + 73), .int (i32 r1)] RV iv1 av1 116 := by
          refine c_Vi (pc' := 354) (mt := mX13_put) (as := [.int (i32 (xs (i + 1).toNat).toInt), .int (i32 (bz (xs (i + 2).toNat).toInt)), .int (i32 (bz (xs (i + 3).toNat).toInt))]) (st := [.int (i32 r1)]) (k := 73) C (hp) rfl cl_X13_put mlL_39 im_X13_put sl_X13_put (by omega) hce hsl rfl (by decide) kc_73 (by decide) rfl rfl rfl (Nat.le_of_ble_eq_true rfl) dL_351 rfl (fun r2 iv2 av2 f2 hq => ?_)
          obtain ⟨rfl, hJ⟩ := hq
          exact r_icmp_eq (pc' := 357) (tgt := 644) C f2 f2 dL_354 (by decide) rfl (fun _ => hN iv2 av2 hJ) (fun c => absurd rfl c)
        refine r_if_eq (pc' := 346) (tgt := 350) C (inR_toInt _) dL_343 (by decide) rfl (fun c1 => ?_) (fun c1 => ?_)
        · rw [show bz (xs (i + 3).toNat).toInt = 0 from if_pos c1] at j351
          exact r_iconst (pc' := 351) C dL_350 rfl j351
        · rw [show bz (xs (i + 3).toNat).toInt = 1 from if_neg c1] at j351
          refine r_iconst (pc' := 347) C dL_346 rfl ?_
          exact r_goto (tgt := 351) C dL_347 (by decide) j351
      refine r_if_eq (pc' := 333) (tgt := 337) C (inR_toInt _) dL_330 (by decide) rfl (fun c1 => ?_) (fun c1 => ?_)
      · rw [show bz (xs (i + 2).toNat).toInt = 0 from if_pos c1] at j338
        exact r_iconst (pc' := 338) C dL_337 rfl j338
      · rw [show bz (xs (i + 2).toNat).toInt = 1 from if_neg c1] at j338
        refine r_iconst (pc' := 334) C dL_333 rfl ?_
        exact r_goto (tgt := 338) C dL_334 (by decide) j338
    refine r_if_eq (pc' := 311) (tgt := 315) C (inR_toInt _) dL_308 (by decide) rfl (fun c1 => ?_) (fun c1 => ?_)
    · rw [show bz (xs (i + 3).toNat).toInt = 0 from if_pos c1] at j316
      exact r_iconst (pc' := 316) C dL_315 rfl j316
    · rw [show bz (xs (i + 3).toNat).toInt = 1 from if_neg c1] at j316
      refine r_iconst (pc' := 312) C dL_311 rfl ?_
      exact r_goto (tgt := 316) C dL_312 (by decide) j316
  refine r_if_eq (pc' := 298) (tgt := 302) C (inR_toInt _) dL_295 (by decide) rfl (fun c1 => ?_) (fun c1 => ?_)
  · rw [show bz (xs (i + 2).toNat).toInt = 0 from if_pos c1] at j303
    exact r_iconst (pc' := 303) C dL_302 rfl j303
  · rw [show bz (xs (i + 2).toNat).toInt = 1 from if_neg c1] at j303
    refine r_iconst (pc' := 299) C dL_298 rfl ?_
    exact r_goto (tgt := 303) C dL_299 (by decide) j303
set_option maxHeartbeats 4000000 in
set_option maxRecDepth 100000 in
theorem lawc_5 (C : CX Y X RL nm code 4 ret 100 mc ms) (hce : ce ≤ mc) (hsl : sl ≤ ms) (hX : va_X b L xs (cx_s X) (cx_s X).heap) (hbl : b < (cx_s X).heap.size) (hbA : b < gl_b Y) (hL : L ≤ 320) (hi0 : 0 ≤ i) (hi : i + 5 ≤ L) (hc : c ≤ 1000) (hI : Inv c iv av) (hN : ∀ iv' av', Inv (c + 1) iv' av' → Wa Y X 4 Q ce sl 644 [(0, .ref b), (1, .ref (gl_b Y + 0)), (2, .ref (gl_b Y + 73)), (3, .int (i32 i))] [] RV iv' av' 116) : Wa Y X 4 Q ce sl 359 [(0, .ref b), (1, .ref (gl_b Y + 0)), (2, .ref (gl_b Y + 73)), (3, .int (i32 i))] [] RV iv av 116 := by
  refine r_aload_n (pc' := 360) C 1 rfl rfl dL_359 rfl ?_
  refine r_aload_n (pc' := 361) C 0 rfl rfl dL_360 rfl ?_
  refine r_iload_n (pc' := 362) C 3 rfl rfl dL_361 rfl ?_
  refine r_iconst (pc' := 363) C dL_362 rfl ?_
  refine r_iadd (pc' := 364) C dL_363 rfl ?_
  refine r_sld (pc' := 365) C hX hbl hbA (by omega) dL_364 rfl ?_
  refine r_aload_n (pc' := 366) C 0 rfl rfl dL_365 rfl ?_
  refine r_iload_n (pc' := 367) C 3 rfl rfl dL_366 rfl ?_
  refine r_iconst (pc' := 368) C dL_367 rfl ?_
  refine r_iadd (pc' := 369) C dL_368 rfl ?_
  refine r_sld (pc' := 370) C hX hbl hbA (by omega) dL_369 rfl ?_
  refine c_Vi (pc' := 373) (mt := mX11_about) (as := [.int (i32 (xs (i + 1).toNat).toInt), .int (i32 (xs (i + 2).toNat).toInt)]) (st := []) (k := 0) C (p_about (e := 0) (e' := 0) hI (inR_toInt _) (inR_toInt _)) rfl cl_X11_about mlL_40 im_X11_about sl_X11_about (by omega) hce hsl rfl (by decide) kc_0 (by decide) rfl rfl rfl (Nat.le_of_ble_eq_true rfl) dL_370 rfl (fun r1 iv1 av1 f1 hp => ?_)
  refine r_aload_n (pc' := 374) C 2 rfl rfl dL_373 rfl ?_
  refine r_aload_n (pc' := 375) C 0 rfl rfl dL_374 rfl ?_
  refine r_iload_n (pc' := 376) C 3 rfl rfl dL_375 rfl ?_
  refine r_iconst (pc' := 377) C dL_376 rfl ?_
  refine r_iadd (pc' := 378) C dL_377 rfl ?_
  refine r_sld (pc' := 379) C hX hbl hbA (by omega) dL_378 rfl ?_
  refine r_aload_n (pc' := 380) C 0 rfl rfl dL_379 rfl ?_
  refine r_iload_n (pc' := 381) C 3 rfl rfl dL_380 rfl ?_
  refine r_iconst (pc' := 382) C dL_381 rfl ?_
  refine r_iadd (pc' := 383) C dL_382 rfl ?_
  refine r_sld (pc' := 384) C hX hbl hbA (by omega) dL_383 rfl ?_
  refine c_Vi (pc' := 387) (mt := mX13_about) (as := [.int (i32 (xs (i + 1).toNat).toInt), .int (i32 (xs (i + 2).toNat).toInt)]) (st := [.int (i32 r1)]) (k := 73) C (hp) rfl cl_X13_about mlL_43 im_X13_about sl_X13_about (by omega) hce hsl rfl (by decide) kc_73 (by decide) rfl rfl rfl (Nat.le_of_ble_eq_true rfl) dL_384 rfl (fun r2 iv2 av2 f2 hq => ?_)
  obtain ⟨rfl, hJ⟩ := hq
  exact r_icmp_eq (pc' := 390) (tgt := 644) C f2 f2 dL_387 (by decide) rfl (fun _ => hN iv2 av2 hJ) (fun c => absurd rfl c)
set_option maxHeartbeats 4000000 in
set_option maxRecDepth 100000 in
theorem lawc_6 (C : CX Y X RL nm code 4 ret 100 mc ms) (hce : ce ≤ mc) (hsl : sl ≤ ms) (hX : va_X b L xs (cx_s X) (cx_s X).heap) (hbl : b < (cx_s X).heap.size) (hbA : b < gl_b Y) (hL : L ≤ 320) (hi0 : 0 ≤ i) (hi : i + 5 ≤ L) (hc : c ≤ 1000) (hI : Inv c iv av) (hN : ∀ iv' av', Inv (c + 1) iv' av' → Wa Y X 4 Q ce sl 644 [(0, .ref b), (1, .ref (gl_b Y + 0)), (2, .ref (gl_b Y + 73)), (3, .int (i32 i))] [] RV iv' av' 116) : Wa Y X 4 Q ce sl 392 [(0, .ref b), (1, .ref (gl_b Y + 0)), (2, .ref (gl_b Y + 73)), (3, .int (i32 i))] [] RV iv av 116 := by
  refine r_aload_n (pc' := 393) C 1 rfl rfl dL_392 rfl ?_
  refine r_aload_n (pc' := 394) C 0 rfl rfl dL_393 rfl ?_
  refine r_iload_n (pc' := 395) C 3 rfl rfl dL_394 rfl ?_
  refine r_iconst (pc' := 396) C dL_395 rfl ?_
  refine r_iadd (pc' := 397) C dL_396 rfl ?_
  refine r_sld (pc' := 398) C hX hbl hbA (by omega) dL_397 rfl ?_
  refine r_aload_n (pc' := 399) C 0 rfl rfl dL_398 rfl ?_
  refine r_iload_n (pc' := 400) C 3 rfl rfl dL_399 rfl ?_
  refine r_iconst (pc' := 401) C dL_400 rfl ?_
  refine r_iadd (pc' := 402) C dL_401 rfl ?_
  refine r_sld (pc' := 403) C hX hbl hbA (by omega) dL_402 rfl ?_
  refine c_Vi (pc' := 406) (mt := mX11_number) (as := [.int (i32 (xs (i + 1).toNat).toInt), .int (i32 (xs (i + 2).toNat).toInt)]) (st := []) (k := 0) C (p_number (e := 0) (e' := 0) hI (inR_toInt _) (inR_toInt _)) rfl cl_X11_number mlL_44 im_X11_number sl_X11_number (by omega) hce hsl rfl (by decide) kc_0 (by decide) rfl rfl rfl (Nat.le_of_ble_eq_true rfl) dL_403 rfl (fun r1 iv1 av1 f1 hp => ?_)
  refine r_aload_n (pc' := 407) C 2 rfl rfl dL_406 rfl ?_
  refine r_aload_n (pc' := 408) C 0 rfl rfl dL_407 rfl ?_
  refine r_iload_n (pc' := 409) C 3 rfl rfl dL_408 rfl ?_
  refine r_iconst (pc' := 410) C dL_409 rfl ?_
  refine r_iadd (pc' := 411) C dL_410 rfl ?_
  refine r_sld (pc' := 412) C hX hbl hbA (by omega) dL_411 rfl ?_
  refine r_aload_n (pc' := 413) C 0 rfl rfl dL_412 rfl ?_
  refine r_iload_n (pc' := 414) C 3 rfl rfl dL_413 rfl ?_
  refine r_iconst (pc' := 415) C dL_414 rfl ?_
  refine r_iadd (pc' := 416) C dL_415 rfl ?_
  refine r_sld (pc' := 417) C hX hbl hbA (by omega) dL_416 rfl ?_
  refine c_Vi (pc' := 420) (mt := mX13_number) (as := [.int (i32 (xs (i + 1).toNat).toInt), .int (i32 (xs (i + 2).toNat).toInt)]) (st := [.int (i32 r1)]) (k := 73) C (hp) rfl cl_X13_number mlL_47 im_X13_number sl_X13_number (by omega) hce hsl rfl (by decide) kc_73 (by decide) rfl rfl rfl (Nat.le_of_ble_eq_true rfl) dL_417 rfl (fun r2 iv2 av2 f2 hq => ?_)
  obtain ⟨rfl, hJ⟩ := hq
  exact r_icmp_eq (pc' := 423) (tgt := 644) C f2 f2 dL_420 (by decide) rfl (fun _ => hN iv2 av2 hJ) (fun c => absurd rfl c)
set_option maxHeartbeats 4000000 in
set_option maxRecDepth 100000 in
theorem lawc_7 (C : CX Y X RL nm code 4 ret 100 mc ms) (hce : ce ≤ mc) (hsl : sl ≤ ms) (hX : va_X b L xs (cx_s X) (cx_s X).heap) (hbl : b < (cx_s X).heap.size) (hbA : b < gl_b Y) (hL : L ≤ 320) (hi0 : 0 ≤ i) (hi : i + 5 ≤ L) (hc : c ≤ 1000) (hI : Inv c iv av) (hN : ∀ iv' av', Inv (c + 1) iv' av' → Wa Y X 4 Q ce sl 644 [(0, .ref b), (1, .ref (gl_b Y + 0)), (2, .ref (gl_b Y + 73)), (3, .int (i32 i))] [] RV iv' av' 116) : Wa Y X 4 Q ce sl 425 [(0, .ref b), (1, .ref (gl_b Y + 0)), (2, .ref (gl_b Y + 73)), (3, .int (i32 i))] [] RV iv av 116 := by
  refine r_aload_n (pc' := 426) C 1 rfl rfl dL_425 rfl ?_
  refine c_Vi (pc' := 429) (mt := mX11_fragments) (as := []) (st := []) (k := 0) C (p_fragments (e := 0) (e' := 0) hI) rfl cl_X11_fragments mlL_48 im_X11_fragments sl_X11_fragments (by omega) hce hsl rfl (by decide) kc_0 (by decide) rfl rfl rfl (Nat.le_of_ble_eq_true rfl) dL_426 rfl (fun r1 iv1 av1 f1 hp => ?_)
  refine r_aload_n (pc' := 430) C 2 rfl rfl dL_429 rfl ?_
  refine c_Vi (pc' := 433) (mt := mX13_fragments) (as := []) (st := [.int (i32 r1)]) (k := 73) C (hp) rfl cl_X13_fragments mlL_52 im_X13_fragments sl_X13_fragments (by omega) hce hsl rfl (by decide) kc_73 (by decide) rfl rfl rfl (Nat.le_of_ble_eq_true rfl) dL_430 rfl (fun r2 iv2 av2 f2 hq => ?_)
  obtain ⟨rfl, hJ⟩ := hq
  exact r_icmp_eq (pc' := 436) (tgt := 644) C f2 f2 dL_433 (by decide) rfl (fun _ => hN iv2 av2 hJ) (fun c => absurd rfl c)
set_option maxHeartbeats 4000000 in
set_option maxRecDepth 100000 in
theorem lawc_8 (C : CX Y X RL nm code 4 ret 100 mc ms) (hce : ce ≤ mc) (hsl : sl ≤ ms) (hX : va_X b L xs (cx_s X) (cx_s X).heap) (hbl : b < (cx_s X).heap.size) (hbA : b < gl_b Y) (hL : L ≤ 320) (hi0 : 0 ≤ i) (hi : i + 5 ≤ L) (hc : c ≤ 1000) (hI : Inv c iv av) (hN : ∀ iv' av', Inv (c + 1) iv' av' → Wa Y X 4 Q ce sl 644 [(0, .ref b), (1, .ref (gl_b Y + 0)), (2, .ref (gl_b Y + 73)), (3, .int (i32 i))] [] RV iv' av' 116) : Wa Y X 4 Q ce sl 438 [(0, .ref b), (1, .ref (gl_b Y + 0)), (2, .ref (gl_b Y + 73)), (3, .int (i32 i))] [] RV iv av 116 := by
  refine r_aload_n (pc' := 439) C 1 rfl rfl dL_438 rfl ?_
  refine r_aload_n (pc' := 440) C 0 rfl rfl dL_439 rfl ?_
  refine r_iload_n (pc' := 441) C 3 rfl rfl dL_440 rfl ?_
  refine r_iconst (pc' := 442) C dL_441 rfl ?_
  refine r_iadd (pc' := 443) C dL_442 rfl ?_
  refine r_sld (pc' := 444) C hX hbl hbA (by omega) dL_443 rfl ?_
  refine r_aload_n (pc' := 445) C 0 rfl rfl dL_444 rfl ?_
  refine r_iload_n (pc' := 446) C 3 rfl rfl dL_445 rfl ?_
  refine r_iconst (pc' := 447) C dL_446 rfl ?_
  refine r_iadd (pc' := 448) C dL_447 rfl ?_
  refine r_sld (pc' := 449) C hX hbl hbA (by omega) dL_448 rfl ?_
  refine c_Vi (pc' := 452) (mt := mX11_fragment) (as := [.int (i32 (xs (i + 1).toNat).toInt), .int (i32 (xs (i + 2).toNat).toInt)]) (st := []) (k := 0) C (p_fragment (e := 0) (e' := 0) hI (inR_toInt _) (inR_toInt _)) rfl cl_X11_fragment mlL_53 im_X11_fragment sl_X11_fragment (by omega) hce hsl rfl (by decide) kc_0 (by decide) rfl rfl rfl (Nat.le_of_ble_eq_true rfl) dL_449 rfl (fun r1 iv1 av1 f1 hp => ?_)
  refine r_aload_n (pc' := 453) C 2 rfl rfl dL_452 rfl ?_
  refine r_aload_n (pc' := 454) C 0 rfl rfl dL_453 rfl ?_
  refine r_iload_n (pc' := 455) C 3 rfl rfl dL_454 rfl ?_
  refine r_iconst (pc' := 456) C dL_455 rfl ?_
  refine r_iadd (pc' := 457) C dL_456 rfl ?_
  refine r_sld (pc' := 458) C hX hbl hbA (by omega) dL_457 rfl ?_
  refine r_aload_n (pc' := 459) C 0 rfl rfl dL_458 rfl ?_
  refine r_iload_n (pc' := 460) C 3 rfl rfl dL_459 rfl ?_
  refine r_iconst (pc' := 461) C dL_460 rfl ?_
  refine r_iadd (pc' := 462) C dL_461 rfl ?_
  refine r_sld (pc' := 463) C hX hbl hbA (by omega) dL_462 rfl ?_
  refine c_Vi (pc' := 466) (mt := mX13_fragment) (as := [.int (i32 (xs (i + 1).toNat).toInt), .int (i32 (xs (i + 2).toNat).toInt)]) (st := [.int (i32 r1)]) (k := 73) C (hp) rfl cl_X13_fragment mlL_56 im_X13_fragment sl_X13_fragment (by omega) hce hsl rfl (by decide) kc_73 (by decide) rfl rfl rfl (Nat.le_of_ble_eq_true rfl) dL_463 rfl (fun r2 iv2 av2 f2 hq => ?_)
  obtain ⟨rfl, hJ⟩ := hq
  exact r_icmp_eq (pc' := 469) (tgt := 644) C f2 f2 dL_466 (by decide) rfl (fun _ => hN iv2 av2 hJ) (fun c => absurd rfl c)
set_option maxHeartbeats 4000000 in
set_option maxRecDepth 100000 in
theorem lawc_9 (C : CX Y X RL nm code 4 ret 100 mc ms) (hce : ce ≤ mc) (hsl : sl ≤ ms) (hX : va_X b L xs (cx_s X) (cx_s X).heap) (hbl : b < (cx_s X).heap.size) (hbA : b < gl_b Y) (hL : L ≤ 320) (hi0 : 0 ≤ i) (hi : i + 5 ≤ L) (hc : c ≤ 1000) (hI : Inv c iv av) (hN : ∀ iv' av', Inv (c + 1) iv' av' → Wa Y X 4 Q ce sl 644 [(0, .ref b), (1, .ref (gl_b Y + 0)), (2, .ref (gl_b Y + 73)), (3, .int (i32 i))] [] RV iv' av' 116) : Wa Y X 4 Q ce sl 471 [(0, .ref b), (1, .ref (gl_b Y + 0)), (2, .ref (gl_b Y + 73)), (3, .int (i32 i))] [] RV iv av 116 := by
  refine r_aload_n (pc' := 472) C 1 rfl rfl dL_471 rfl ?_
  refine c_Vi (pc' := 475) (mt := mX11_size) (as := []) (st := []) (k := 0) C (p_size (e := 0) (e' := 0) hI) rfl cl_X11_size mlL_57 im_X11_size sl_X11_size (by omega) hce hsl rfl (by decide) kc_0 (by decide) rfl rfl rfl (Nat.le_of_ble_eq_true rfl) dL_472 rfl (fun r1 iv1 av1 f1 hp => ?_)
  refine r_aload_n (pc' := 476) C 2 rfl rfl dL_475 rfl ?_
  refine c_Vi (pc' := 479) (mt := mX13_size) (as := []) (st := [.int (i32 r1)]) (k := 73) C (hp) rfl cl_X13_size mlL_60 im_X13_size sl_X13_size (by omega) hce hsl rfl (by decide) kc_73 (by decide) rfl rfl rfl (Nat.le_of_ble_eq_true rfl) dL_476 rfl (fun r2 iv2 av2 f2 hq => ?_)
  obtain ⟨rfl, hJ⟩ := hq
  exact r_icmp_eq (pc' := 482) (tgt := 644) C f2 f2 dL_479 (by decide) rfl (fun _ => hN iv2 av2 hJ) (fun c => absurd rfl c)
set_option maxHeartbeats 4000000 in
set_option maxRecDepth 100000 in
theorem lawc_10 (C : CX Y X RL nm code 4 ret 100 mc ms) (hce : ce ≤ mc) (hsl : sl ≤ ms) (hX : va_X b L xs (cx_s X) (cx_s X).heap) (hbl : b < (cx_s X).heap.size) (hbA : b < gl_b Y) (hL : L ≤ 320) (hi0 : 0 ≤ i) (hi : i + 5 ≤ L) (hc : c ≤ 1000) (hI : Inv c iv av) (hN : ∀ iv' av', Inv (c + 1) iv' av' → Wa Y X 4 Q ce sl 644 [(0, .ref b), (1, .ref (gl_b Y + 0)), (2, .ref (gl_b Y + 73)), (3, .int (i32 i))] [] RV iv' av' 116) : Wa Y X 4 Q ce sl 484 [(0, .ref b), (1, .ref (gl_b Y + 0)), (2, .ref (gl_b Y + 73)), (3, .int (i32 i))] [] RV iv av 116 := by
  refine r_aload_n (pc' := 485) C 1 rfl rfl dL_484 rfl ?_
  refine r_aload_n (pc' := 486) C 0 rfl rfl dL_485 rfl ?_
  refine r_iload_n (pc' := 487) C 3 rfl rfl dL_486 rfl ?_
  refine r_iconst (pc' := 488) C dL_487 rfl ?_
  refine r_iadd (pc' := 489) C dL_488 rfl ?_
  refine r_sld (pc' := 490) C hX hbl hbA (by omega) dL_489 rfl ?_
  refine c_Vl (pc' := 493) (mt := mX11_word) (as := [.int (i32 (xs (i + 1).toNat).toInt)]) (st := []) (k := 0) C (p_word (e := 0) (e' := 0) hI (inR_toInt _)) rfl cl_X11_word mlL_61 im_X11_word sl_X11_word (by omega) hce hsl rfl (by decide) kc_0 (by decide) rfl rfl rfl (Nat.le_of_ble_eq_true rfl) dL_490 rfl (fun r1 iv1 av1 f1 hp => ?_)
  refine r_aload_n (pc' := 494) C 2 rfl rfl dL_493 rfl ?_
  refine r_aload_n (pc' := 495) C 0 rfl rfl dL_494 rfl ?_
  refine r_iload_n (pc' := 496) C 3 rfl rfl dL_495 rfl ?_
  refine r_iconst (pc' := 497) C dL_496 rfl ?_
  refine r_iadd (pc' := 498) C dL_497 rfl ?_
  refine r_sld (pc' := 499) C hX hbl hbA (by omega) dL_498 rfl ?_
  refine c_Vl (pc' := 502) (mt := mX13_word) (as := [.int (i32 (xs (i + 1).toNat).toInt)]) (st := [.long (i64 r1)]) (k := 73) C (hp) rfl cl_X13_word mlL_65 im_X13_word sl_X13_word (by omega) hce hsl rfl (by decide) kc_73 (by decide) rfl rfl rfl (Nat.le_of_ble_eq_true rfl) dL_499 rfl (fun r2 iv2 av2 f2 hq => ?_)
  obtain ⟨rfl, hJ⟩ := hq
  refine r_lcmp (pc' := 503) C f2 f2 dL_502 rfl ?_
  rw [g_cmp_self]
  exact r_if_eq (pc' := 506) (tgt := 644) C (by decide) dL_503 (by decide) rfl (fun _ => hN iv2 av2 hJ) (fun c => absurd rfl c)
set_option maxHeartbeats 4000000 in
set_option maxRecDepth 100000 in
theorem lawc_11 (C : CX Y X RL nm code 4 ret 100 mc ms) (hce : ce ≤ mc) (hsl : sl ≤ ms) (hX : va_X b L xs (cx_s X) (cx_s X).heap) (hbl : b < (cx_s X).heap.size) (hbA : b < gl_b Y) (hL : L ≤ 320) (hi0 : 0 ≤ i) (hi : i + 5 ≤ L) (hc : c ≤ 1000) (hI : Inv c iv av) (hN : ∀ iv' av', Inv (c + 1) iv' av' → Wa Y X 4 Q ce sl 644 [(0, .ref b), (1, .ref (gl_b Y + 0)), (2, .ref (gl_b Y + 73)), (3, .int (i32 i))] [] RV iv' av' 116) : Wa Y X 4 Q ce sl 508 [(0, .ref b), (1, .ref (gl_b Y + 0)), (2, .ref (gl_b Y + 73)), (3, .int (i32 i))] [] RV iv av 116 := by
  refine r_aload_n (pc' := 509) C 1 rfl rfl dL_508 rfl ?_
  refine r_aload_n (pc' := 510) C 0 rfl rfl dL_509 rfl ?_
  refine r_iload_n (pc' := 511) C 3 rfl rfl dL_510 rfl ?_
  refine r_iconst (pc' := 512) C dL_511 rfl ?_
  refine r_iadd (pc' := 513) C dL_512 rfl ?_
  refine r_sld (pc' := 514) C hX hbl hbA (by omega) dL_513 rfl ?_
  refine r_aload_n (pc' := 515) C 0 rfl rfl dL_514 rfl ?_
  refine r_iload_n (pc' := 516) C 3 rfl rfl dL_515 rfl ?_
  refine r_iconst (pc' := 517) C dL_516 rfl ?_
  refine r_iadd (pc' := 518) C dL_517 rfl ?_
  refine r_sld (pc' := 519) C hX hbl hbA (by omega) dL_518 rfl ?_
  refine c_Vi (pc' := 522) (mt := mX11_patch) (as := [.int (i32 (xs (i + 1).toNat).toInt), .int (i32 (xs (i + 2).toNat).toInt)]) (st := []) (k := 0) C (p_patch (e := 0) (e' := 0) hI (inR_toInt _) (inR_toInt _)) rfl cl_X11_patch mlL_66 im_X11_patch sl_X11_patch (by omega) hce hsl rfl (by decide) kc_0 (by decide) rfl rfl rfl (Nat.le_of_ble_eq_true rfl) dL_519 rfl (fun r1 iv1 av1 f1 hp => ?_)
  refine r_aload_n (pc' := 523) C 2 rfl rfl dL_522 rfl ?_
  refine r_aload_n (pc' := 524) C 0 rfl rfl dL_523 rfl ?_
  refine r_iload_n (pc' := 525) C 3 rfl rfl dL_524 rfl ?_
  refine r_iconst (pc' := 526) C dL_525 rfl ?_
  refine r_iadd (pc' := 527) C dL_526 rfl ?_
  refine r_sld (pc' := 528) C hX hbl hbA (by omega) dL_527 rfl ?_
  refine r_aload_n (pc' := 529) C 0 rfl rfl dL_528 rfl ?_
  refine r_iload_n (pc' := 530) C 3 rfl rfl dL_529 rfl ?_
  refine r_iconst (pc' := 531) C dL_530 rfl ?_
  refine r_iadd (pc' := 532) C dL_531 rfl ?_
  refine r_sld (pc' := 533) C hX hbl hbA (by omega) dL_532 rfl ?_
  refine c_Vi (pc' := 536) (mt := mX13_patch) (as := [.int (i32 (xs (i + 1).toNat).toInt), .int (i32 (xs (i + 2).toNat).toInt)]) (st := [.int (i32 r1)]) (k := 73) C (hp) rfl cl_X13_patch mlL_69 im_X13_patch sl_X13_patch (by omega) hce hsl rfl (by decide) kc_73 (by decide) rfl rfl rfl (Nat.le_of_ble_eq_true rfl) dL_533 rfl (fun r2 iv2 av2 f2 hq => ?_)
  obtain ⟨rfl, hJ⟩ := hq
  exact r_icmp_eq (pc' := 539) (tgt := 644) C f2 f2 dL_536 (by decide) rfl (fun _ => hN iv2 av2 hJ) (fun c => absurd rfl c)
set_option maxHeartbeats 4000000 in
set_option maxRecDepth 100000 in
theorem lawc_12 (C : CX Y X RL nm code 4 ret 100 mc ms) (hce : ce ≤ mc) (hsl : sl ≤ ms) (hX : va_X b L xs (cx_s X) (cx_s X).heap) (hbl : b < (cx_s X).heap.size) (hbA : b < gl_b Y) (hL : L ≤ 320) (hi0 : 0 ≤ i) (hi : i + 5 ≤ L) (hc : c ≤ 1000) (hI : Inv c iv av) (hN : ∀ iv' av', Inv (c + 1) iv' av' → Wa Y X 4 Q ce sl 644 [(0, .ref b), (1, .ref (gl_b Y + 0)), (2, .ref (gl_b Y + 73)), (3, .int (i32 i))] [] RV iv' av' 116) : Wa Y X 4 Q ce sl 541 [(0, .ref b), (1, .ref (gl_b Y + 0)), (2, .ref (gl_b Y + 73)), (3, .int (i32 i))] [] RV iv av 116 := by
  refine r_aload_n (pc' := 542) C 1 rfl rfl dL_541 rfl ?_
  refine r_aload_n (pc' := 543) C 0 rfl rfl dL_542 rfl ?_
  refine r_iload_n (pc' := 544) C 3 rfl rfl dL_543 rfl ?_
  refine r_iconst (pc' := 545) C dL_544 rfl ?_
  refine r_iadd (pc' := 546) C dL_545 rfl ?_
  refine r_sld (pc' := 547) C hX hbl hbA (by omega) dL_546 rfl ?_
  refine c_Vi (pc' := 550) (mt := mX11_cut) (as := [.int (i32 (xs (i + 1).toNat).toInt)]) (st := []) (k := 0) C (p_cut (e := 0) (e' := 0) hI (inR_toInt _)) rfl cl_X11_cut mlL_70 im_X11_cut sl_X11_cut (by omega) hce hsl rfl (by decide) kc_0 (by decide) rfl rfl rfl (Nat.le_of_ble_eq_true rfl) dL_547 rfl (fun r1 iv1 av1 f1 hp => ?_)
  refine r_aload_n (pc' := 551) C 2 rfl rfl dL_550 rfl ?_
  refine r_aload_n (pc' := 552) C 0 rfl rfl dL_551 rfl ?_
  refine r_iload_n (pc' := 553) C 3 rfl rfl dL_552 rfl ?_
  refine r_iconst (pc' := 554) C dL_553 rfl ?_
  refine r_iadd (pc' := 555) C dL_554 rfl ?_
  refine r_sld (pc' := 556) C hX hbl hbA (by omega) dL_555 rfl ?_
  refine c_Vi (pc' := 559) (mt := mX13_cut) (as := [.int (i32 (xs (i + 1).toNat).toInt)]) (st := [.int (i32 r1)]) (k := 73) C (hp) rfl cl_X13_cut mlL_73 im_X13_cut sl_X13_cut (by omega) hce hsl rfl (by decide) kc_73 (by decide) rfl rfl rfl (Nat.le_of_ble_eq_true rfl) dL_556 rfl (fun r2 iv2 av2 f2 hq => ?_)
  obtain ⟨rfl, hJ⟩ := hq
  exact r_icmp_eq (pc' := 562) (tgt := 644) C f2 f2 dL_559 (by decide) rfl (fun _ => hN iv2 av2 hJ) (fun c => absurd rfl c)
set_option maxHeartbeats 4000000 in
set_option maxRecDepth 100000 in
theorem lawc_13 (C : CX Y X RL nm code 4 ret 100 mc ms) (hce : ce ≤ mc) (hsl : sl ≤ ms) (hX : va_X b L xs (cx_s X) (cx_s X).heap) (hbl : b < (cx_s X).heap.size) (hbA : b < gl_b Y) (hL : L ≤ 320) (hi0 : 0 ≤ i) (hi : i + 5 ≤ L) (hc : c ≤ 1000) (hI : Inv c iv av) (hN : ∀ iv' av', Inv (c + 1) iv' av' → Wa Y X 4 Q ce sl 644 [(0, .ref b), (1, .ref (gl_b Y + 0)), (2, .ref (gl_b Y + 73)), (3, .int (i32 i))] [] RV iv' av' 116) : Wa Y X 4 Q ce sl 564 [(0, .ref b), (1, .ref (gl_b Y + 0)), (2, .ref (gl_b Y + 73)), (3, .int (i32 i))] [] RV iv av 116 := by
  refine r_aload_n (pc' := 565) C 1 rfl rfl dL_564 rfl ?_
  refine r_aload_n (pc' := 566) C 0 rfl rfl dL_565 rfl ?_
  refine r_iload_n (pc' := 567) C 3 rfl rfl dL_566 rfl ?_
  refine r_iconst (pc' := 568) C dL_567 rfl ?_
  refine r_iadd (pc' := 569) C dL_568 rfl ?_
  refine r_sld (pc' := 570) C hX hbl hbA (by omega) dL_569 rfl ?_
  refine r_aload_n (pc' := 571) C 0 rfl rfl dL_570 rfl ?_
  refine r_iload_n (pc' := 572) C 3 rfl rfl dL_571 rfl ?_
  refine r_iconst (pc' := 573) C dL_572 rfl ?_
  refine r_iadd (pc' := 574) C dL_573 rfl ?_
  refine r_sld (pc' := 575) C hX hbl hbA (by omega) dL_574 rfl ?_
  refine r_aload_n (pc' := 576) C 0 rfl rfl dL_575 rfl ?_
  refine r_iload_n (pc' := 577) C 3 rfl rfl dL_576 rfl ?_
  refine r_iconst (pc' := 578) C dL_577 rfl ?_
  refine r_iadd (pc' := 579) C dL_578 rfl ?_
  refine r_sld (pc' := 580) C hX hbl hbA (by omega) dL_579 rfl ?_
  refine c_Vi (pc' := 583) (mt := mX11_read) (as := [.int (i32 (xs (i + 1).toNat).toInt), .int (i32 (xs (i + 2).toNat).toInt), .int (i32 (xs (i + 3).toNat).toInt)]) (st := []) (k := 0) C (p_read (e := 0) (e' := 0) hI (inR_toInt _) (inR_toInt _) (inR_toInt _)) rfl cl_X11_read mlL_74 im_X11_read sl_X11_read (by omega) hce hsl rfl (by decide) kc_0 (by decide) rfl rfl rfl (Nat.le_of_ble_eq_true rfl) dL_580 rfl (fun r1 iv1 av1 f1 hp => ?_)
  refine r_aload_n (pc' := 584) C 2 rfl rfl dL_583 rfl ?_
  refine r_aload_n (pc' := 585) C 0 rfl rfl dL_584 rfl ?_
  refine r_iload_n (pc' := 586) C 3 rfl rfl dL_585 rfl ?_
  refine r_iconst (pc' := 587) C dL_586 rfl ?_
  refine r_iadd (pc' := 588) C dL_587 rfl ?_
  refine r_sld (pc' := 589) C hX hbl hbA (by omega) dL_588 rfl ?_
  refine r_aload_n (pc' := 590) C 0 rfl rfl dL_589 rfl ?_
  refine r_iload_n (pc' := 591) C 3 rfl rfl dL_590 rfl ?_
  refine r_iconst (pc' := 592) C dL_591 rfl ?_
  refine r_iadd (pc' := 593) C dL_592 rfl ?_
  refine r_sld (pc' := 594) C hX hbl hbA (by omega) dL_593 rfl ?_
  refine r_aload_n (pc' := 595) C 0 rfl rfl dL_594 rfl ?_
  refine r_iload_n (pc' := 596) C 3 rfl rfl dL_595 rfl ?_
  refine r_iconst (pc' := 597) C dL_596 rfl ?_
  refine r_iadd (pc' := 598) C dL_597 rfl ?_
  refine r_sld (pc' := 599) C hX hbl hbA (by omega) dL_598 rfl ?_
  refine c_Vi (pc' := 602) (mt := mX13_read) (as := [.int (i32 (xs (i + 1).toNat).toInt), .int (i32 (xs (i + 2).toNat).toInt), .int (i32 (xs (i + 3).toNat).toInt)]) (st := [.int (i32 r1)]) (k := 73) C (hp) rfl cl_X13_read mlL_78 im_X13_read sl_X13_read (by omega) hce hsl rfl (by decide) kc_73 (by decide) rfl rfl rfl (Nat.le_of_ble_eq_true rfl) dL_599 rfl (fun r2 iv2 av2 f2 hq => ?_)
  obtain ⟨rfl, hJ⟩ := hq
  exact r_icmp_eq (pc' := 605) (tgt := 644) C f2 f2 dL_602 (by decide) rfl (fun _ => hN iv2 av2 hJ) (fun c => absurd rfl c)
set_option maxHeartbeats 4000000 in
set_option maxRecDepth 100000 in
theorem lawc_14 (C : CX Y X RL nm code 4 ret 100 mc ms) (hce : ce ≤ mc) (hsl : sl ≤ ms) (hX : va_X b L xs (cx_s X) (cx_s X).heap) (hbl : b < (cx_s X).heap.size) (hbA : b < gl_b Y) (hL : L ≤ 320) (hi0 : 0 ≤ i) (hi : i + 5 ≤ L) (hc : c ≤ 1000) (hI : Inv c iv av) (hN : ∀ iv' av', Inv (c + 1) iv' av' → Wa Y X 4 Q ce sl 644 [(0, .ref b), (1, .ref (gl_b Y + 0)), (2, .ref (gl_b Y + 73)), (3, .int (i32 i))] [] RV iv' av' 116) : Wa Y X 4 Q ce sl 607 [(0, .ref b), (1, .ref (gl_b Y + 0)), (2, .ref (gl_b Y + 73)), (3, .int (i32 i))] [] RV iv av 116 := by
  refine r_aload_n (pc' := 608) C 1 rfl rfl dL_607 rfl ?_
  refine r_aload_n (pc' := 609) C 0 rfl rfl dL_608 rfl ?_
  refine r_iload_n (pc' := 610) C 3 rfl rfl dL_609 rfl ?_
  refine r_iconst (pc' := 611) C dL_610 rfl ?_
  refine r_iadd (pc' := 612) C dL_611 rfl ?_
  refine r_sld (pc' := 613) C hX hbl hbA (by omega) dL_612 rfl ?_
  refine c_Vl (pc' := 616) (mt := mX11_out) (as := [.int (i32 (xs (i + 1).toNat).toInt)]) (st := []) (k := 0) C (p_out (e := 0) (e' := 0) hI (inR_toInt _)) rfl cl_X11_out mlL_79 im_X11_out sl_X11_out (by omega) hce hsl rfl (by decide) kc_0 (by decide) rfl rfl rfl (Nat.le_of_ble_eq_true rfl) dL_613 rfl (fun r1 iv1 av1 f1 hp => ?_)
  refine r_aload_n (pc' := 617) C 2 rfl rfl dL_616 rfl ?_
  refine r_aload_n (pc' := 618) C 0 rfl rfl dL_617 rfl ?_
  refine r_iload_n (pc' := 619) C 3 rfl rfl dL_618 rfl ?_
  refine r_iconst (pc' := 620) C dL_619 rfl ?_
  refine r_iadd (pc' := 621) C dL_620 rfl ?_
  refine r_sld (pc' := 622) C hX hbl hbA (by omega) dL_621 rfl ?_
  refine c_Vl (pc' := 625) (mt := mX13_out) (as := [.int (i32 (xs (i + 1).toNat).toInt)]) (st := [.long (i64 r1)]) (k := 73) C (hp) rfl cl_X13_out mlL_82 im_X13_out sl_X13_out (by omega) hce hsl rfl (by decide) kc_73 (by decide) rfl rfl rfl (Nat.le_of_ble_eq_true rfl) dL_622 rfl (fun r2 iv2 av2 f2 hq => ?_)
  obtain ⟨rfl, hJ⟩ := hq
  refine r_lcmp (pc' := 626) C f2 f2 dL_625 rfl ?_
  rw [g_cmp_self]
  exact r_if_eq (pc' := 629) (tgt := 644) C (by decide) dL_626 (by decide) rfl (fun _ => hN iv2 av2 hJ) (fun c => absurd rfl c)
set_option maxHeartbeats 4000000 in
set_option maxRecDepth 100000 in
theorem lawc_15 (C : CX Y X RL nm code 4 ret 100 mc ms) (hce : ce ≤ mc) (hsl : sl ≤ ms) (hX : va_X b L xs (cx_s X) (cx_s X).heap) (hbl : b < (cx_s X).heap.size) (hbA : b < gl_b Y) (hL : L ≤ 320) (hi0 : 0 ≤ i) (hi : i + 5 ≤ L) (hc : c ≤ 1000) (hI : Inv c iv av) (hN : ∀ iv' av', Inv (c + 1) iv' av' → Wa Y X 4 Q ce sl 644 [(0, .ref b), (1, .ref (gl_b Y + 0)), (2, .ref (gl_b Y + 73)), (3, .int (i32 i))] [] RV iv' av' 116) : Wa Y X 4 Q ce sl 631 [(0, .ref b), (1, .ref (gl_b Y + 0)), (2, .ref (gl_b Y + 73)), (3, .int (i32 i))] [] RV iv av 116 := by
  refine r_aload_n (pc' := 632) C 1 rfl rfl dL_631 rfl ?_
  refine c_Vi (pc' := 635) (mt := mX11_taken) (as := []) (st := []) (k := 0) C (p_taken (e := 0) (e' := 0) hI) rfl cl_X11_taken mlL_83 im_X11_taken sl_X11_taken (by omega) hce hsl rfl (by decide) kc_0 (by decide) rfl rfl rfl (Nat.le_of_ble_eq_true rfl) dL_632 rfl (fun r1 iv1 av1 f1 hp => ?_)
  refine r_aload_n (pc' := 636) C 2 rfl rfl dL_635 rfl ?_
  refine c_Vi (pc' := 639) (mt := mX13_taken) (as := []) (st := [.int (i32 r1)]) (k := 73) C (hp) rfl cl_X13_taken mlL_86 im_X13_taken sl_X13_taken (by omega) hce hsl rfl (by decide) kc_73 (by decide) rfl rfl rfl (Nat.le_of_ble_eq_true rfl) dL_636 rfl (fun r2 iv2 av2 f2 hq => ?_)
  obtain ⟨rfl, hJ⟩ := hq
  exact r_icmp_eq (pc' := 642) (tgt := 644) C f2 f2 dL_639 (by decide) rfl (fun _ => hN iv2 av2 hJ) (fun c => absurd rfl c)
end SLaw
