/-! THE CLAIM OUT OF ONE WALK OF THE LAW'S BODY. Your part is whole_start (and what it stands on); all else here is the same for every law, but numbers. -/
def R_law : String := "ShortVectorsLaw"
def lw_P (b : Addr) (xs : List Int32) (args : Array Value) (s : State) : Prop := args = #[.ref b] ∧ s.IntsAt b xs ∧ xs.length ≤ 6 ∧ (Jvm.Cond.and given_1 narrow_1).before args s = true
def lw_Q (_ : Array Value) (s : State) (o : Outcome) (t : State) : Prop := o = .returned (some (.int 1)) ∧ Framed s o t [] 600000 7302250
def lw_Z (below : List Frame) (a : Array Value) (s : State) : State → Prop := fun t => ∃ o, t.status = .running ∧ Ended t below o ∧ lw_Q a s o t
/-- the law's own end, with 1 on the stack, nothing written that was there before, its room as the claim has it -/
theorem lw_ret {p : Program} {l : Launch} {e : Env} {s : State} {m : MethodId} {below : List Frame} {meth : Method} {c : Code} {b : Nat} (hx : p.tables.exec = Jvm.exec) (hb : c.code = code) (hr : meth.sig.returnType = ret) (hlocks : meth.locks = false) {pc : Nat} {H : Heap} {ls : Array Slot} (hdg : decode code pc = .ok (.ireturn, 1)) : W p l e room_1 s m #[Value.ref b] below meth c H [] 600000 7302250 (lw_Z below #[Value.ref b] s) (F0 m pc ls [.int 1]) := by
  intro T hT X
  obtain ⟨fs, hret, hrun, hended, hW, hframe⟩ := X.leave (v := some (.int 1)) (hlocks := hlocks) (fun h => by rw [hr] at h; cases h)
  have hmeth' : T.vm.method? m = some meth := X.method'
  refine ⟨T.setFrames fs, ?_, .returned (some (.int 1)), hrun, hended, rfl, ⟨_, rfl⟩, hW, hframe⟩
  jvm_step X.here [X.here.top, hx, hb, hdg, hmeth', hr, ret, narrow_b1]
  (try refine ⟨rfl, ?_⟩); (try refine ⟨rfl, ?_⟩)
  first | (intro acts; rw [hret _ acts rfl rfl rfl]) | rw [hret _ _ rfl rfl rfl]
  exact Steps.refl _
/-- what holds at the law's entry: the machine, the code, the tables' words (any of lw_tbl by 'hts w (by decide +kernel)'), the script of L ints xs at the cell b, what the Statement gives of the start (any of its parts by flat_of_before) -/
def lw_At (p : Program) (s : State) (m : MethodId) (meth : Method) (c : Code) (b L : Nat) (xs : Nat → Int32) : Prop :=
  p.tables.exec = Jvm.exec ∧ c.code = code ∧ meth.sig.returnType = ret ∧ c.maxLocals = 4 ∧ s.vm.findClass R_law = some m.cls ∧ (∀ w ∈ lw_tbl, w.before #[Value.ref b] s = true) ∧ va_X b L xs s s.heap ∧ b < s.heap.size ∧ meth.locks = false ∧ (Jvm.Cond.and given_1 narrow_1).before #[Value.ref b] s = true
theorem dl_0 : decode code 0 = .ok (.new 7, 3) := by decide +kernel
theorem dl_3 : decode code 3 = .ok (.dup, 1) := by decide +kernel
theorem dl_4 : decode code 4 = .ok (.invokespecial 9, 3) := by decide +kernel
theorem dl_7 : decode code 7 = .ok (.astore_n 1, 1) := by decide +kernel
theorem dl_8 : decode code 8 = .ok (.new 10, 3) := by decide +kernel
theorem dl_11 : decode code 11 = .ok (.dup, 1) := by decide +kernel
theorem dl_12 : decode code 12 = .ok (.invokespecial 12, 3) := by decide +kernel
theorem dl_15 : decode code 15 = .ok (.astore_n 2, 1) := by decide +kernel
theorem dl_16 : decode code 16 = .ok (.iconst 0, 1) := by decide +kernel
theorem dl_17 : decode code 17 = .ok (.istore_n 3, 1) := by decide +kernel
theorem dl_18 : decode code 18 = .ok (.iload_n 3, 1) := by decide +kernel
theorem dl_19 : decode code 19 = .ok (.aload_n 0, 1) := by decide +kernel
theorem dl_20 : decode code 20 = .ok (.arraylength, 1) := by decide +kernel
theorem dl_21 : decode code 21 = .ok (.bipush 6, 2) := by decide +kernel
theorem dl_23 : decode code 23 = .ok (.isub, 1) := by decide +kernel
theorem dl_24 : decode code 24 = .ok (.if_icmp .gt 513, 3) := by decide +kernel
theorem dl_27 : decode code 27 = .ok (.aload_n 0, 1) := by decide +kernel
theorem dl_28 : decode code 28 = .ok (.iload_n 3, 1) := by decide +kernel
theorem dl_29 : decode code 29 = .ok (.iaload, 1) := by decide +kernel
theorem dl_30 : decode code 30 = .ok (.bipush 15, 2) := by decide +kernel
theorem dl_32 : decode code 32 = .ok (.iand, 1) := by decide +kernel
theorem dl_33 : decode code 33 = .ok (.tableswitch 498 0 12 #[67, 120, 133, 146, 159, 173, 196, 249, 303, 326, 349, 382, 435], 67) := by decide +kernel
theorem dl_100 : decode code 100 = .ok (.aload_n 1, 1) := by decide +kernel
theorem dl_101 : decode code 101 = .ok (.aload_n 0, 1) := by decide +kernel
theorem dl_102 : decode code 102 = .ok (.iload_n 3, 1) := by decide +kernel
theorem dl_103 : decode code 103 = .ok (.iconst 1, 1) := by decide +kernel
theorem dl_104 : decode code 104 = .ok (.iadd, 1) := by decide +kernel
theorem dl_105 : decode code 105 = .ok (.iaload, 1) := by decide +kernel
theorem dl_106 : decode code 106 = .ok (.aload_n 0, 1) := by decide +kernel
theorem dl_107 : decode code 107 = .ok (.iload_n 3, 1) := by decide +kernel
theorem dl_108 : decode code 108 = .ok (.iconst 2, 1) := by decide +kernel
theorem dl_109 : decode code 109 = .ok (.iadd, 1) := by decide +kernel
theorem dl_110 : decode code 110 = .ok (.iaload, 1) := by decide +kernel
theorem dl_111 : decode code 111 = .ok (.aload_n 0, 1) := by decide +kernel
theorem dl_112 : decode code 112 = .ok (.iload_n 3, 1) := by decide +kernel
theorem dl_113 : decode code 113 = .ok (.iconst 3, 1) := by decide +kernel
theorem dl_114 : decode code 114 = .ok (.iadd, 1) := by decide +kernel
theorem dl_115 : decode code 115 = .ok (.iaload, 1) := by decide +kernel
theorem dl_116 : decode code 116 = .ok (.aload_n 0, 1) := by decide +kernel
theorem dl_117 : decode code 117 = .ok (.iload_n 3, 1) := by decide +kernel
theorem dl_118 : decode code 118 = .ok (.iconst 4, 1) := by decide +kernel
theorem dl_119 : decode code 119 = .ok (.iadd, 1) := by decide +kernel
theorem dl_120 : decode code 120 = .ok (.iaload, 1) := by decide +kernel
theorem dl_121 : decode code 121 = .ok (.invokevirtual 13, 3) := by decide +kernel
theorem dl_124 : decode code 124 = .ok (.aload_n 2, 1) := by decide +kernel
theorem dl_125 : decode code 125 = .ok (.aload_n 0, 1) := by decide +kernel
theorem dl_126 : decode code 126 = .ok (.iload_n 3, 1) := by decide +kernel
theorem dl_127 : decode code 127 = .ok (.iconst 1, 1) := by decide +kernel
theorem dl_128 : decode code 128 = .ok (.iadd, 1) := by decide +kernel
theorem dl_129 : decode code 129 = .ok (.iaload, 1) := by decide +kernel
theorem dl_130 : decode code 130 = .ok (.aload_n 0, 1) := by decide +kernel
theorem dl_131 : decode code 131 = .ok (.iload_n 3, 1) := by decide +kernel
theorem dl_132 : decode code 132 = .ok (.iconst 2, 1) := by decide +kernel
theorem dl_133 : decode code 133 = .ok (.iadd, 1) := by decide +kernel
theorem dl_134 : decode code 134 = .ok (.iaload, 1) := by decide +kernel
theorem dl_135 : decode code 135 = .ok (.aload_n 0, 1) := by decide +kernel
theorem dl_136 : decode code 136 = .ok (.iload_n 3, 1) := by decide +kernel
theorem dl_137 : decode code 137 = .ok (.iconst 3, 1) := by decide +kernel
theorem dl_138 : decode code 138 = .ok (.iadd, 1) := by decide +kernel
theorem dl_139 : decode code 139 = .ok (.iaload, 1) := by decide +kernel
theorem dl_140 : decode code 140 = .ok (.aload_n 0, 1) := by decide +kernel
theorem dl_141 : decode code 141 = .ok (.iload_n 3, 1) := by decide +kernel
theorem dl_142 : decode code 142 = .ok (.iconst 4, 1) := by decide +kernel
theorem dl_143 : decode code 143 = .ok (.iadd, 1) := by decide +kernel
theorem dl_144 : decode code 144 = .ok (.iaload, 1) := by decide +kernel
theorem dl_145 : decode code 145 = .ok (.invokevirtual 17, 3) := by decide +kernel
theorem dl_148 : decode code 148 = .ok (.if_icmp .eq 383, 3) := by decide +kernel
theorem dl_151 : decode code 151 = .ok (.iconst 0, 1) := by decide +kernel
theorem dl_152 : decode code 152 = .ok (.ireturn, 1) := by decide +kernel
theorem dl_153 : decode code 153 = .ok (.aload_n 1, 1) := by decide +kernel
theorem dl_154 : decode code 154 = .ok (.invokevirtual 18, 3) := by decide +kernel
theorem dl_157 : decode code 157 = .ok (.aload_n 2, 1) := by decide +kernel
theorem dl_158 : decode code 158 = .ok (.invokevirtual 22, 3) := by decide +kernel
theorem dl_161 : decode code 161 = .ok (.if_icmp .eq 370, 3) := by decide +kernel
theorem dl_164 : decode code 164 = .ok (.iconst 0, 1) := by decide +kernel
theorem dl_165 : decode code 165 = .ok (.ireturn, 1) := by decide +kernel
theorem dl_166 : decode code 166 = .ok (.aload_n 1, 1) := by decide +kernel
theorem dl_167 : decode code 167 = .ok (.invokevirtual 23, 3) := by decide +kernel
theorem dl_170 : decode code 170 = .ok (.aload_n 2, 1) := by decide +kernel
theorem dl_171 : decode code 171 = .ok (.invokevirtual 27, 3) := by decide +kernel
theorem dl_174 : decode code 174 = .ok (.if_icmp .eq 357, 3) := by decide +kernel
theorem dl_177 : decode code 177 = .ok (.iconst 0, 1) := by decide +kernel
theorem dl_178 : decode code 178 = .ok (.ireturn, 1) := by decide +kernel
theorem dl_179 : decode code 179 = .ok (.aload_n 1, 1) := by decide +kernel
theorem dl_180 : decode code 180 = .ok (.invokevirtual 28, 3) := by decide +kernel
theorem dl_183 : decode code 183 = .ok (.aload_n 2, 1) := by decide +kernel
theorem dl_184 : decode code 184 = .ok (.invokevirtual 31, 3) := by decide +kernel
theorem dl_187 : decode code 187 = .ok (.if_icmp .eq 344, 3) := by decide +kernel
theorem dl_190 : decode code 190 = .ok (.iconst 0, 1) := by decide +kernel
theorem dl_191 : decode code 191 = .ok (.ireturn, 1) := by decide +kernel
theorem dl_192 : decode code 192 = .ok (.aload_n 1, 1) := by decide +kernel
theorem dl_193 : decode code 193 = .ok (.invokevirtual 32, 3) := by decide +kernel
theorem dl_196 : decode code 196 = .ok (.aload_n 2, 1) := by decide +kernel
theorem dl_197 : decode code 197 = .ok (.invokevirtual 36, 3) := by decide +kernel
theorem dl_200 : decode code 200 = .ok (.lcmp, 1) := by decide +kernel
theorem dl_201 : decode code 201 = .ok (.ifCond .eq 330, 3) := by decide +kernel
theorem dl_204 : decode code 204 = .ok (.iconst 0, 1) := by decide +kernel
theorem dl_205 : decode code 205 = .ok (.ireturn, 1) := by decide +kernel
theorem dl_206 : decode code 206 = .ok (.aload_n 1, 1) := by decide +kernel
theorem dl_207 : decode code 207 = .ok (.aload_n 0, 1) := by decide +kernel
theorem dl_208 : decode code 208 = .ok (.iload_n 3, 1) := by decide +kernel
theorem dl_209 : decode code 209 = .ok (.iconst 1, 1) := by decide +kernel
theorem dl_210 : decode code 210 = .ok (.iadd, 1) := by decide +kernel
theorem dl_211 : decode code 211 = .ok (.iaload, 1) := by decide +kernel
theorem dl_212 : decode code 212 = .ok (.invokevirtual 37, 3) := by decide +kernel
theorem dl_215 : decode code 215 = .ok (.aload_n 2, 1) := by decide +kernel
theorem dl_216 : decode code 216 = .ok (.aload_n 0, 1) := by decide +kernel
theorem dl_217 : decode code 217 = .ok (.iload_n 3, 1) := by decide +kernel
theorem dl_218 : decode code 218 = .ok (.iconst 1, 1) := by decide +kernel
theorem dl_219 : decode code 219 = .ok (.iadd, 1) := by decide +kernel
theorem dl_220 : decode code 220 = .ok (.iaload, 1) := by decide +kernel
theorem dl_221 : decode code 221 = .ok (.invokevirtual 41, 3) := by decide +kernel
theorem dl_224 : decode code 224 = .ok (.if_icmp .eq 307, 3) := by decide +kernel
theorem dl_227 : decode code 227 = .ok (.iconst 0, 1) := by decide +kernel
theorem dl_228 : decode code 228 = .ok (.ireturn, 1) := by decide +kernel
theorem dl_229 : decode code 229 = .ok (.aload_n 1, 1) := by decide +kernel
theorem dl_230 : decode code 230 = .ok (.aload_n 0, 1) := by decide +kernel
theorem dl_231 : decode code 231 = .ok (.iload_n 3, 1) := by decide +kernel
theorem dl_232 : decode code 232 = .ok (.iconst 1, 1) := by decide +kernel
theorem dl_233 : decode code 233 = .ok (.iadd, 1) := by decide +kernel
theorem dl_234 : decode code 234 = .ok (.iaload, 1) := by decide +kernel
theorem dl_235 : decode code 235 = .ok (.aload_n 0, 1) := by decide +kernel
theorem dl_236 : decode code 236 = .ok (.iload_n 3, 1) := by decide +kernel
theorem dl_237 : decode code 237 = .ok (.iconst 2, 1) := by decide +kernel
theorem dl_238 : decode code 238 = .ok (.iadd, 1) := by decide +kernel
theorem dl_239 : decode code 239 = .ok (.iaload, 1) := by decide +kernel
theorem dl_240 : decode code 240 = .ok (.aload_n 0, 1) := by decide +kernel
theorem dl_241 : decode code 241 = .ok (.iload_n 3, 1) := by decide +kernel
theorem dl_242 : decode code 242 = .ok (.iconst 3, 1) := by decide +kernel
theorem dl_243 : decode code 243 = .ok (.iadd, 1) := by decide +kernel
theorem dl_244 : decode code 244 = .ok (.iaload, 1) := by decide +kernel
theorem dl_245 : decode code 245 = .ok (.aload_n 0, 1) := by decide +kernel
theorem dl_246 : decode code 246 = .ok (.iload_n 3, 1) := by decide +kernel
theorem dl_247 : decode code 247 = .ok (.iconst 4, 1) := by decide +kernel
theorem dl_248 : decode code 248 = .ok (.iadd, 1) := by decide +kernel
theorem dl_249 : decode code 249 = .ok (.iaload, 1) := by decide +kernel
theorem dl_250 : decode code 250 = .ok (.invokevirtual 42, 3) := by decide +kernel
theorem dl_253 : decode code 253 = .ok (.aload_n 2, 1) := by decide +kernel
theorem dl_254 : decode code 254 = .ok (.aload_n 0, 1) := by decide +kernel
theorem dl_255 : decode code 255 = .ok (.iload_n 3, 1) := by decide +kernel
theorem dl_256 : decode code 256 = .ok (.iconst 1, 1) := by decide +kernel
theorem dl_257 : decode code 257 = .ok (.iadd, 1) := by decide +kernel
theorem dl_258 : decode code 258 = .ok (.iaload, 1) := by decide +kernel
theorem dl_259 : decode code 259 = .ok (.aload_n 0, 1) := by decide +kernel
theorem dl_260 : decode code 260 = .ok (.iload_n 3, 1) := by decide +kernel
theorem dl_261 : decode code 261 = .ok (.iconst 2, 1) := by decide +kernel
theorem dl_262 : decode code 262 = .ok (.iadd, 1) := by decide +kernel
theorem dl_263 : decode code 263 = .ok (.iaload, 1) := by decide +kernel
theorem dl_264 : decode code 264 = .ok (.aload_n 0, 1) := by decide +kernel
theorem dl_265 : decode code 265 = .ok (.iload_n 3, 1) := by decide +kernel
theorem dl_266 : decode code 266 = .ok (.iconst 3, 1) := by decide +kernel
theorem dl_267 : decode code 267 = .ok (.iadd, 1) := by decide +kernel
theorem dl_268 : decode code 268 = .ok (.iaload, 1) := by decide +kernel
theorem dl_269 : decode code 269 = .ok (.aload_n 0, 1) := by decide +kernel
theorem dl_270 : decode code 270 = .ok (.iload_n 3, 1) := by decide +kernel
theorem dl_271 : decode code 271 = .ok (.iconst 4, 1) := by decide +kernel
theorem dl_272 : decode code 272 = .ok (.iadd, 1) := by decide +kernel
theorem dl_273 : decode code 273 = .ok (.iaload, 1) := by decide +kernel
theorem dl_274 : decode code 274 = .ok (.invokevirtual 46, 3) := by decide +kernel
theorem dl_277 : decode code 277 = .ok (.if_icmp .eq 254, 3) := by decide +kernel
theorem dl_280 : decode code 280 = .ok (.iconst 0, 1) := by decide +kernel
theorem dl_281 : decode code 281 = .ok (.ireturn, 1) := by decide +kernel
theorem dl_282 : decode code 282 = .ok (.aload_n 1, 1) := by decide +kernel
theorem dl_283 : decode code 283 = .ok (.aload_n 0, 1) := by decide +kernel
theorem dl_284 : decode code 284 = .ok (.iload_n 3, 1) := by decide +kernel
theorem dl_285 : decode code 285 = .ok (.iconst 1, 1) := by decide +kernel
theorem dl_286 : decode code 286 = .ok (.iadd, 1) := by decide +kernel
theorem dl_287 : decode code 287 = .ok (.iaload, 1) := by decide +kernel
theorem dl_288 : decode code 288 = .ok (.aload_n 0, 1) := by decide +kernel
theorem dl_289 : decode code 289 = .ok (.iload_n 3, 1) := by decide +kernel
theorem dl_290 : decode code 290 = .ok (.iconst 2, 1) := by decide +kernel
theorem dl_291 : decode code 291 = .ok (.iadd, 1) := by decide +kernel
theorem dl_292 : decode code 292 = .ok (.iaload, 1) := by decide +kernel
theorem dl_293 : decode code 293 = .ok (.aload_n 0, 1) := by decide +kernel
theorem dl_294 : decode code 294 = .ok (.iload_n 3, 1) := by decide +kernel
theorem dl_295 : decode code 295 = .ok (.iconst 3, 1) := by decide +kernel
theorem dl_296 : decode code 296 = .ok (.iadd, 1) := by decide +kernel
theorem dl_297 : decode code 297 = .ok (.iaload, 1) := by decide +kernel
theorem dl_298 : decode code 298 = .ok (.aload_n 0, 1) := by decide +kernel
theorem dl_299 : decode code 299 = .ok (.iload_n 3, 1) := by decide +kernel
theorem dl_300 : decode code 300 = .ok (.iconst 4, 1) := by decide +kernel
theorem dl_301 : decode code 301 = .ok (.iadd, 1) := by decide +kernel
theorem dl_302 : decode code 302 = .ok (.iaload, 1) := by decide +kernel
theorem dl_303 : decode code 303 = .ok (.invokevirtual 47, 3) := by decide +kernel
theorem dl_306 : decode code 306 = .ok (.aload_n 2, 1) := by decide +kernel
theorem dl_307 : decode code 307 = .ok (.aload_n 0, 1) := by decide +kernel
theorem dl_308 : decode code 308 = .ok (.iload_n 3, 1) := by decide +kernel
theorem dl_309 : decode code 309 = .ok (.iconst 1, 1) := by decide +kernel
theorem dl_310 : decode code 310 = .ok (.iadd, 1) := by decide +kernel
theorem dl_311 : decode code 311 = .ok (.iaload, 1) := by decide +kernel
theorem dl_312 : decode code 312 = .ok (.aload_n 0, 1) := by decide +kernel
theorem dl_313 : decode code 313 = .ok (.iload_n 3, 1) := by decide +kernel
theorem dl_314 : decode code 314 = .ok (.iconst 2, 1) := by decide +kernel
theorem dl_315 : decode code 315 = .ok (.iadd, 1) := by decide +kernel
theorem dl_316 : decode code 316 = .ok (.iaload, 1) := by decide +kernel
theorem dl_317 : decode code 317 = .ok (.aload_n 0, 1) := by decide +kernel
theorem dl_318 : decode code 318 = .ok (.iload_n 3, 1) := by decide +kernel
theorem dl_319 : decode code 319 = .ok (.iconst 3, 1) := by decide +kernel
theorem dl_320 : decode code 320 = .ok (.iadd, 1) := by decide +kernel
theorem dl_321 : decode code 321 = .ok (.iaload, 1) := by decide +kernel
theorem dl_322 : decode code 322 = .ok (.aload_n 0, 1) := by decide +kernel
theorem dl_323 : decode code 323 = .ok (.iload_n 3, 1) := by decide +kernel
theorem dl_324 : decode code 324 = .ok (.iconst 4, 1) := by decide +kernel
theorem dl_325 : decode code 325 = .ok (.iadd, 1) := by decide +kernel
theorem dl_326 : decode code 326 = .ok (.iaload, 1) := by decide +kernel
theorem dl_327 : decode code 327 = .ok (.invokevirtual 51, 3) := by decide +kernel
theorem dl_330 : decode code 330 = .ok (.lcmp, 1) := by decide +kernel
theorem dl_331 : decode code 331 = .ok (.ifCond .eq 200, 3) := by decide +kernel
theorem dl_334 : decode code 334 = .ok (.iconst 0, 1) := by decide +kernel
theorem dl_335 : decode code 335 = .ok (.ireturn, 1) := by decide +kernel
theorem dl_336 : decode code 336 = .ok (.aload_n 1, 1) := by decide +kernel
theorem dl_337 : decode code 337 = .ok (.aload_n 0, 1) := by decide +kernel
theorem dl_338 : decode code 338 = .ok (.iload_n 3, 1) := by decide +kernel
theorem dl_339 : decode code 339 = .ok (.iconst 1, 1) := by decide +kernel
theorem dl_340 : decode code 340 = .ok (.iadd, 1) := by decide +kernel
theorem dl_341 : decode code 341 = .ok (.iaload, 1) := by decide +kernel
theorem dl_342 : decode code 342 = .ok (.invokevirtual 52, 3) := by decide +kernel
theorem dl_345 : decode code 345 = .ok (.aload_n 2, 1) := by decide +kernel
theorem dl_346 : decode code 346 = .ok (.aload_n 0, 1) := by decide +kernel
theorem dl_347 : decode code 347 = .ok (.iload_n 3, 1) := by decide +kernel
theorem dl_348 : decode code 348 = .ok (.iconst 1, 1) := by decide +kernel
theorem dl_349 : decode code 349 = .ok (.iadd, 1) := by decide +kernel
theorem dl_350 : decode code 350 = .ok (.iaload, 1) := by decide +kernel
theorem dl_351 : decode code 351 = .ok (.invokevirtual 56, 3) := by decide +kernel
theorem dl_354 : decode code 354 = .ok (.if_icmp .eq 177, 3) := by decide +kernel
theorem dl_357 : decode code 357 = .ok (.iconst 0, 1) := by decide +kernel
theorem dl_358 : decode code 358 = .ok (.ireturn, 1) := by decide +kernel
theorem dl_359 : decode code 359 = .ok (.aload_n 1, 1) := by decide +kernel
theorem dl_360 : decode code 360 = .ok (.aload_n 0, 1) := by decide +kernel
theorem dl_361 : decode code 361 = .ok (.iload_n 3, 1) := by decide +kernel
theorem dl_362 : decode code 362 = .ok (.iconst 1, 1) := by decide +kernel
theorem dl_363 : decode code 363 = .ok (.iadd, 1) := by decide +kernel
theorem dl_364 : decode code 364 = .ok (.iaload, 1) := by decide +kernel
theorem dl_365 : decode code 365 = .ok (.invokevirtual 57, 3) := by decide +kernel
theorem dl_368 : decode code 368 = .ok (.aload_n 2, 1) := by decide +kernel
theorem dl_369 : decode code 369 = .ok (.aload_n 0, 1) := by decide +kernel
theorem dl_370 : decode code 370 = .ok (.iload_n 3, 1) := by decide +kernel
theorem dl_371 : decode code 371 = .ok (.iconst 1, 1) := by decide +kernel
theorem dl_372 : decode code 372 = .ok (.iadd, 1) := by decide +kernel
theorem dl_373 : decode code 373 = .ok (.iaload, 1) := by decide +kernel
theorem dl_374 : decode code 374 = .ok (.invokevirtual 60, 3) := by decide +kernel
theorem dl_377 : decode code 377 = .ok (.if_icmp .eq 154, 3) := by decide +kernel
theorem dl_380 : decode code 380 = .ok (.iconst 0, 1) := by decide +kernel
theorem dl_381 : decode code 381 = .ok (.ireturn, 1) := by decide +kernel
theorem dl_382 : decode code 382 = .ok (.aload_n 1, 1) := by decide +kernel
theorem dl_383 : decode code 383 = .ok (.aload_n 0, 1) := by decide +kernel
theorem dl_384 : decode code 384 = .ok (.iload_n 3, 1) := by decide +kernel
theorem dl_385 : decode code 385 = .ok (.iconst 1, 1) := by decide +kernel
theorem dl_386 : decode code 386 = .ok (.iadd, 1) := by decide +kernel
theorem dl_387 : decode code 387 = .ok (.iaload, 1) := by decide +kernel
theorem dl_388 : decode code 388 = .ok (.aload_n 0, 1) := by decide +kernel
theorem dl_389 : decode code 389 = .ok (.iload_n 3, 1) := by decide +kernel
theorem dl_390 : decode code 390 = .ok (.iconst 2, 1) := by decide +kernel
theorem dl_391 : decode code 391 = .ok (.iadd, 1) := by decide +kernel
theorem dl_392 : decode code 392 = .ok (.iaload, 1) := by decide +kernel
theorem dl_393 : decode code 393 = .ok (.invokevirtual 61, 3) := by decide +kernel
theorem dl_396 : decode code 396 = .ok (.aload_n 2, 1) := by decide +kernel
theorem dl_397 : decode code 397 = .ok (.aload_n 0, 1) := by decide +kernel
theorem dl_398 : decode code 398 = .ok (.iload_n 3, 1) := by decide +kernel
theorem dl_399 : decode code 399 = .ok (.iconst 1, 1) := by decide +kernel
theorem dl_400 : decode code 400 = .ok (.iadd, 1) := by decide +kernel
theorem dl_401 : decode code 401 = .ok (.iaload, 1) := by decide +kernel
theorem dl_402 : decode code 402 = .ok (.aload_n 0, 1) := by decide +kernel
theorem dl_403 : decode code 403 = .ok (.iload_n 3, 1) := by decide +kernel
theorem dl_404 : decode code 404 = .ok (.iconst 2, 1) := by decide +kernel
theorem dl_405 : decode code 405 = .ok (.iadd, 1) := by decide +kernel
theorem dl_406 : decode code 406 = .ok (.iaload, 1) := by decide +kernel
theorem dl_407 : decode code 407 = .ok (.invokevirtual 65, 3) := by decide +kernel
theorem dl_410 : decode code 410 = .ok (.if_icmp .eq 121, 3) := by decide +kernel
theorem dl_413 : decode code 413 = .ok (.iconst 0, 1) := by decide +kernel
theorem dl_414 : decode code 414 = .ok (.ireturn, 1) := by decide +kernel
theorem dl_415 : decode code 415 = .ok (.aload_n 1, 1) := by decide +kernel
theorem dl_416 : decode code 416 = .ok (.aload_n 0, 1) := by decide +kernel
theorem dl_417 : decode code 417 = .ok (.iload_n 3, 1) := by decide +kernel
theorem dl_418 : decode code 418 = .ok (.iconst 1, 1) := by decide +kernel
theorem dl_419 : decode code 419 = .ok (.iadd, 1) := by decide +kernel
theorem dl_420 : decode code 420 = .ok (.iaload, 1) := by decide +kernel
theorem dl_421 : decode code 421 = .ok (.aload_n 0, 1) := by decide +kernel
theorem dl_422 : decode code 422 = .ok (.iload_n 3, 1) := by decide +kernel
theorem dl_423 : decode code 423 = .ok (.iconst 2, 1) := by decide +kernel
theorem dl_424 : decode code 424 = .ok (.iadd, 1) := by decide +kernel
theorem dl_425 : decode code 425 = .ok (.iaload, 1) := by decide +kernel
theorem dl_426 : decode code 426 = .ok (.aload_n 0, 1) := by decide +kernel
theorem dl_427 : decode code 427 = .ok (.iload_n 3, 1) := by decide +kernel
theorem dl_428 : decode code 428 = .ok (.iconst 3, 1) := by decide +kernel
theorem dl_429 : decode code 429 = .ok (.iadd, 1) := by decide +kernel
theorem dl_430 : decode code 430 = .ok (.iaload, 1) := by decide +kernel
theorem dl_431 : decode code 431 = .ok (.aload_n 0, 1) := by decide +kernel
theorem dl_432 : decode code 432 = .ok (.iload_n 3, 1) := by decide +kernel
theorem dl_433 : decode code 433 = .ok (.iconst 4, 1) := by decide +kernel
theorem dl_434 : decode code 434 = .ok (.iadd, 1) := by decide +kernel
theorem dl_435 : decode code 435 = .ok (.iaload, 1) := by decide +kernel
theorem dl_436 : decode code 436 = .ok (.invokevirtual 66, 3) := by decide +kernel
theorem dl_439 : decode code 439 = .ok (.aload_n 2, 1) := by decide +kernel
theorem dl_440 : decode code 440 = .ok (.aload_n 0, 1) := by decide +kernel
theorem dl_441 : decode code 441 = .ok (.iload_n 3, 1) := by decide +kernel
theorem dl_442 : decode code 442 = .ok (.iconst 1, 1) := by decide +kernel
theorem dl_443 : decode code 443 = .ok (.iadd, 1) := by decide +kernel
theorem dl_444 : decode code 444 = .ok (.iaload, 1) := by decide +kernel
theorem dl_445 : decode code 445 = .ok (.aload_n 0, 1) := by decide +kernel
theorem dl_446 : decode code 446 = .ok (.iload_n 3, 1) := by decide +kernel
theorem dl_447 : decode code 447 = .ok (.iconst 2, 1) := by decide +kernel
theorem dl_448 : decode code 448 = .ok (.iadd, 1) := by decide +kernel
theorem dl_449 : decode code 449 = .ok (.iaload, 1) := by decide +kernel
theorem dl_450 : decode code 450 = .ok (.aload_n 0, 1) := by decide +kernel
theorem dl_451 : decode code 451 = .ok (.iload_n 3, 1) := by decide +kernel
theorem dl_452 : decode code 452 = .ok (.iconst 3, 1) := by decide +kernel
theorem dl_453 : decode code 453 = .ok (.iadd, 1) := by decide +kernel
theorem dl_454 : decode code 454 = .ok (.iaload, 1) := by decide +kernel
theorem dl_455 : decode code 455 = .ok (.aload_n 0, 1) := by decide +kernel
theorem dl_456 : decode code 456 = .ok (.iload_n 3, 1) := by decide +kernel
theorem dl_457 : decode code 457 = .ok (.iconst 4, 1) := by decide +kernel
theorem dl_458 : decode code 458 = .ok (.iadd, 1) := by decide +kernel
theorem dl_459 : decode code 459 = .ok (.iaload, 1) := by decide +kernel
theorem dl_460 : decode code 460 = .ok (.invokevirtual 69, 3) := by decide +kernel
theorem dl_463 : decode code 463 = .ok (.if_icmp .eq 68, 3) := by decide +kernel
theorem dl_466 : decode code 466 = .ok (.iconst 0, 1) := by decide +kernel
theorem dl_467 : decode code 467 = .ok (.ireturn, 1) := by decide +kernel
theorem dl_468 : decode code 468 = .ok (.aload_n 1, 1) := by decide +kernel
theorem dl_469 : decode code 469 = .ok (.aload_n 0, 1) := by decide +kernel
theorem dl_470 : decode code 470 = .ok (.iload_n 3, 1) := by decide +kernel
theorem dl_471 : decode code 471 = .ok (.iconst 1, 1) := by decide +kernel
theorem dl_472 : decode code 472 = .ok (.iadd, 1) := by decide +kernel
theorem dl_473 : decode code 473 = .ok (.iaload, 1) := by decide +kernel
theorem dl_474 : decode code 474 = .ok (.aload_n 0, 1) := by decide +kernel
theorem dl_475 : decode code 475 = .ok (.iload_n 3, 1) := by decide +kernel
theorem dl_476 : decode code 476 = .ok (.iconst 2, 1) := by decide +kernel
theorem dl_477 : decode code 477 = .ok (.iadd, 1) := by decide +kernel
theorem dl_478 : decode code 478 = .ok (.iaload, 1) := by decide +kernel
theorem dl_479 : decode code 479 = .ok (.aload_n 0, 1) := by decide +kernel
theorem dl_480 : decode code 480 = .ok (.iload_n 3, 1) := by decide +kernel
theorem dl_481 : decode code 481 = .ok (.iconst 3, 1) := by decide +kernel
theorem dl_482 : decode code 482 = .ok (.iadd, 1) := by decide +kernel
theorem dl_483 : decode code 483 = .ok (.iaload, 1) := by decide +kernel
theorem dl_484 : decode code 484 = .ok (.aload_n 0, 1) := by decide +kernel
theorem dl_485 : decode code 485 = .ok (.iload_n 3, 1) := by decide +kernel
theorem dl_486 : decode code 486 = .ok (.iconst 4, 1) := by decide +kernel
theorem dl_487 : decode code 487 = .ok (.iadd, 1) := by decide +kernel
theorem dl_488 : decode code 488 = .ok (.iaload, 1) := by decide +kernel
theorem dl_489 : decode code 489 = .ok (.aload_n 0, 1) := by decide +kernel
theorem dl_490 : decode code 490 = .ok (.iload_n 3, 1) := by decide +kernel
theorem dl_491 : decode code 491 = .ok (.iconst 5, 1) := by decide +kernel
theorem dl_492 : decode code 492 = .ok (.iadd, 1) := by decide +kernel
theorem dl_493 : decode code 493 = .ok (.iaload, 1) := by decide +kernel
theorem dl_494 : decode code 494 = .ok (.invokevirtual 70, 3) := by decide +kernel
theorem dl_497 : decode code 497 = .ok (.aload_n 2, 1) := by decide +kernel
theorem dl_498 : decode code 498 = .ok (.aload_n 0, 1) := by decide +kernel
theorem dl_499 : decode code 499 = .ok (.iload_n 3, 1) := by decide +kernel
theorem dl_500 : decode code 500 = .ok (.iconst 1, 1) := by decide +kernel
theorem dl_501 : decode code 501 = .ok (.iadd, 1) := by decide +kernel
theorem dl_502 : decode code 502 = .ok (.iaload, 1) := by decide +kernel
theorem dl_503 : decode code 503 = .ok (.aload_n 0, 1) := by decide +kernel
theorem dl_504 : decode code 504 = .ok (.iload_n 3, 1) := by decide +kernel
theorem dl_505 : decode code 505 = .ok (.iconst 2, 1) := by decide +kernel
theorem dl_506 : decode code 506 = .ok (.iadd, 1) := by decide +kernel
theorem dl_507 : decode code 507 = .ok (.iaload, 1) := by decide +kernel
theorem dl_508 : decode code 508 = .ok (.aload_n 0, 1) := by decide +kernel
theorem dl_509 : decode code 509 = .ok (.iload_n 3, 1) := by decide +kernel
theorem dl_510 : decode code 510 = .ok (.iconst 3, 1) := by decide +kernel
theorem dl_511 : decode code 511 = .ok (.iadd, 1) := by decide +kernel
theorem dl_512 : decode code 512 = .ok (.iaload, 1) := by decide +kernel
theorem dl_513 : decode code 513 = .ok (.aload_n 0, 1) := by decide +kernel
theorem dl_514 : decode code 514 = .ok (.iload_n 3, 1) := by decide +kernel
theorem dl_515 : decode code 515 = .ok (.iconst 4, 1) := by decide +kernel
theorem dl_516 : decode code 516 = .ok (.iadd, 1) := by decide +kernel
theorem dl_517 : decode code 517 = .ok (.iaload, 1) := by decide +kernel
theorem dl_518 : decode code 518 = .ok (.aload_n 0, 1) := by decide +kernel
theorem dl_519 : decode code 519 = .ok (.iload_n 3, 1) := by decide +kernel
theorem dl_520 : decode code 520 = .ok (.iconst 5, 1) := by decide +kernel
theorem dl_521 : decode code 521 = .ok (.iadd, 1) := by decide +kernel
theorem dl_522 : decode code 522 = .ok (.iaload, 1) := by decide +kernel
theorem dl_523 : decode code 523 = .ok (.invokevirtual 74, 3) := by decide +kernel
theorem dl_526 : decode code 526 = .ok (.if_icmp .eq 5, 3) := by decide +kernel
theorem dl_529 : decode code 529 = .ok (.iconst 0, 1) := by decide +kernel
theorem dl_530 : decode code 530 = .ok (.ireturn, 1) := by decide +kernel
theorem dl_531 : decode code 531 = .ok (.iinc 3 6, 3) := by decide +kernel
theorem dl_534 : decode code 534 = .ok (.goto (-516), 3) := by decide +kernel
theorem dl_537 : decode code 537 = .ok (.iconst 1, 1) := by decide +kernel
theorem dl_538 : decode code 538 = .ok (.ireturn, 1) := by decide +kernel
def ScrX (g : Gm) (b L : Nat) (xs : Nat → Int32) : Prop :=
  match g with
  | (_, _, _, _, s, _, _, _, _, _, _, _, _, _, A) => va_X b L xs s s.heap ∧ b < s.heap.size ∧ ¬ A b
theorem w_sld {g : Gm} {κ : ctx} {own : String} {cc : ByteArray} {nL : Nat} {ret : Option FieldType} {rm : Room} (G : OK g κ own cc nL ret rm) {pc : Nat} {lv : List (Nat × Value)} {rest : List Value} {L : Nat → va_E} {b n : Nat} {xs : Nat → Int32} (hX : ScrX g b n xs) {i : Int32} (hin : vp_in i n) (hd : decode cc pc = .ok (.iaload, 1)) (k : J g κ nL (pc + 1) lv (.int (xs i.toNatClampNeg) :: rest) L) : J g κ nL pc lv (.int i :: .ref b :: rest) L := by
  obtain ⟨p, l, e, R, s, m, args, below, meth, c, cells, slots, Q, D, A⟩ := g
  obtain ⟨hx, hb, hml, hr, hlk, hown, hts, hK, hN, hi, hA1, hA2, hc, hs, hR⟩ := G
  obtain ⟨hX1, hX2, hX3⟩ := hX
  intro H locs ls hP hS hl
  exact va_sld hx hb hX1 hX2 hX3 hS hin hd (k H locs ls hP hS hl)
theorem w_slen {g : Gm} {κ : ctx} {own : String} {cc : ByteArray} {nL : Nat} {ret : Option FieldType} {rm : Room} (G : OK g κ own cc nL ret rm) {pc : Nat} {lv : List (Nat × Value)} {rest : List Value} {L : Nat → va_E} {b n : Nat} {xs : Nat → Int32} (hX : ScrX g b n xs) (hd : decode cc pc = .ok (.arraylength, 1)) (k : J g κ nL (pc + 1) lv (.int (Int32.ofNat n) :: rest) L) : J g κ nL pc lv (.ref b :: rest) L := by
  obtain ⟨p, l, e, R, s, m, args, below, meth, c, cells, slots, Q, D, A⟩ := g
  obtain ⟨hx, hb, hml, hr, hlk, hown, hts, hK, hN, hi, hA1, hA2, hc, hs, hR⟩ := G
  obtain ⟨hX1, hX2, hX3⟩ := hX
  intro H locs ls hP hS hl
  exact va_slen hx hb hX1 hX2 hX3 hS hd (k H locs ls hP hS hl)
def EndX (g : Gm) (b : Nat) : Prop :=
  match g with
  | (_, _, _, R, s, _, args, below, _, _, cells, slots, Q, _, A) => R = room_1 ∧ args = #[Value.ref b] ∧ cells = 600000 ∧ slots = 7302250 ∧ Q = lw_Z below #[Value.ref b] s ∧ A = (fun q => s.heap.size ≤ q)
theorem w_end {g : Gm} {κ : ctx} {own : String} {nL : Nat} {rm : Room} (G : OK g κ own code nL ret rm) {pc : Nat} {lv : List (Nat × Value)} {L : Nat → va_E} {b : Nat} (hE : EndX g b) (hd : decode code pc = .ok (.ireturn, 1)) : J g κ nL pc lv [.int 1] L := by
  obtain ⟨p, l, e, R, s, m, args, below, meth, c, cells, slots, Q, D, A⟩ := g
  obtain ⟨hx, hb, hml, hr, hlk, hown, hts, hK, hN, hi, hA1, hA2, hc, hs, hR⟩ := G
  obtain ⟨rfl, rfl, rfl, rfl, rfl, rfl⟩ := hE
  intro H locs ls hP hS hl
  exact va_forget (fun q hq => hS.2.2 q hq) (lw_ret hx hb hr hlk hd)
/-- what a call must do: both answer alike, and the invariant holds again -/
def St {α : Type} (Inv : CS → MS → Prop) (n : Nat) (mk : α → Value) (ret : Option FieldType) (yV : MethodName) (bV : ByteArray) (nV : Nat) (rV : Room) (yM : MethodName) (bM : ByteArray) (nM : Nat) (rM : Room) : Prop :=
  ∀ (σ : CS) (τ : MS), Inv σ τ → ∀ is : List Int32, is.length = n → ∃ (v : α) (σ' : CS) (τ' : MS), Inv σ' τ' ∧ (∀ κ : ctx, Mt yV bV nV ret rV κ (.ref (κ.1 15) :: is.map .int) (LM κ τ (LC κ σ)) (some (mk v)) (LM κ τ (LC κ σ'))) ∧ (∀ κ : ctx, Mt yM bM nM ret rM κ (.ref (κ.1 0) :: is.map .int) (LM κ τ (LC κ σ')) (some (mk v)) (LM κ τ' (LC κ σ')))
theorem lw_i6 {L i : Nat} (hL : L ≤ 3072) (hi : i ≤ L) (h : ¬ (Int32.ofNat L - 6 < nI i)) : i + 6 ≤ L := by
  rw [Int32.lt_iff_toInt_lt] at h
  have h1 : (Int32.ofNat L - 6).toInt = (L : Int) - 6 := by
    rw [Int32.toInt_sub, show (Int32.ofNat L).toInt = (L : Int) from nI_toInt (by omega), show (6 : Int32).toInt = 6 from rfl]
    simp only [Int.bmod]
    omega
  rw [h1, nI_toInt (by omega)] at h
  omega
theorem cb_V_add_law : CB yV_add cV_add 5 (some .int) rm_V_add room_1 4 := ⟨wd163, wd1, by decide +kernel, rfl, rfl, by decide⟩
theorem cb_M_add_law : CB yM_add cM_add 5 (some .int) rm_M_add room_1 4 := ⟨wd575, wd8, by decide +kernel, rfl, rfl, by decide⟩
theorem cb_V_drop_law : CB yV_drop cV_drop 1 (some .boolean) rm_V_drop room_1 0 := ⟨wd206, wd1, by decide +kernel, rfl, rfl, by decide⟩
theorem cb_M_drop_law : CB yM_drop cM_drop 1 (some .boolean) rm_M_drop room_1 0 := ⟨wd586, wd8, by decide +kernel, rfl, rfl, by decide⟩
theorem cb_V_generators_law : CB yV_generators cV_generators 1 (some .int) rm_V_generators room_1 0 := ⟨wd221, wd1, by decide +kernel, rfl, rfl, by decide⟩
theorem cb_M_generators_law : CB yM_generators cM_generators 1 (some .int) rm_M_generators room_1 0 := ⟨wd590, wd8, by decide +kernel, rfl, rfl, by decide⟩
theorem cb_V_rank_law : CB yV_rank cV_rank 1 (some .int) rm_V_rank room_1 0 := ⟨wd225, wd1, by decide +kernel, rfl, rfl, by decide⟩
theorem cb_M_rank_law : CB yM_rank cM_rank 1 (some .int) rm_M_rank room_1 0 := ⟨wd594, wd8, by decide +kernel, rfl, rfl, by decide⟩
theorem cb_V_volume_law : CB yV_volume cV_volume 1 (some .long) rm_V_volume room_1 0 := ⟨wd233, wd1, by decide +kernel, rfl, rfl, by decide⟩
theorem cb_M_volume_law : CB yM_volume cM_volume 6 (some .long) rm_M_volume room_1 0 := ⟨wd629, wd8, by decide +kernel, rfl, rfl, by decide⟩
theorem cb_V_spare_law : CB yV_spare cV_spare 2 (some .boolean) rm_V_spare room_1 1 := ⟨wd316, wd1, by decide +kernel, rfl, rfl, by decide⟩
theorem cb_M_spare_law : CB yM_spare cM_spare 2 (some .boolean) rm_M_spare room_1 1 := ⟨wd641, wd8, by decide +kernel, rfl, rfl, by decide⟩
theorem cb_V_has_law : CB yV_has cV_has 5 (some .boolean) rm_V_has room_1 4 := ⟨wd329, wd1, by decide +kernel, rfl, rfl, by decide⟩
theorem cb_M_has_law : CB yM_has cM_has 5 (some .boolean) rm_M_has room_1 4 := ⟨wd656, wd8, by decide +kernel, rfl, rfl, by decide⟩
theorem cb_V_order_law : CB yV_order cV_order 5 (some .long) rm_V_order room_1 4 := ⟨wd333, wd1, by decide +kernel, rfl, rfl, by decide⟩
theorem cb_M_order_law : CB yM_order cM_order 5 (some .long) rm_M_order room_1 4 := ⟨wd660, wd8, by decide +kernel, rfl, rfl, by decide⟩
theorem cb_V_minimum_law : CB yV_minimum cV_minimum 2 (some .int) rm_V_minimum room_1 1 := ⟨wd339, wd1, by decide +kernel, rfl, rfl, by decide⟩
theorem cb_M_minimum_law : CB yM_minimum cM_minimum 2 (some .int) rm_M_minimum room_1 1 := ⟨wd738, wd8, by decide +kernel, rfl, rfl, by decide⟩
theorem cb_V_count_law : CB yV_count cV_count 2 (some .int) rm_V_count room_1 1 := ⟨wd344, wd1, by decide +kernel, rfl, rfl, by decide⟩
theorem cb_M_count_law : CB yM_count cM_count 2 (some .int) rm_M_count room_1 1 := ⟨wd665, wd8, by decide +kernel, rfl, rfl, by decide⟩
theorem cb_V_vector_law : CB yV_vector cV_vector 3 (some .int) rm_V_vector room_1 2 := ⟨wd437, wd1, by decide +kernel, rfl, rfl, by decide⟩
theorem cb_M_vector_law : CB yM_vector cM_vector 3 (some .int) rm_M_vector room_1 2 := ⟨wd730, wd8, by decide +kernel, rfl, rfl, by decide⟩
theorem cb_V_distance_law : CB yV_distance cV_distance 5 (some .int) rm_V_distance room_1 4 := ⟨wd458, wd1, by decide +kernel, rfl, rfl, by decide⟩
theorem cb_M_distance_law : CB yM_distance cM_distance 5 (some .int) rm_M_distance room_1 4 := ⟨wd750, wd8, by decide +kernel, rfl, rfl, by decide⟩
theorem cb_V_nearest_law : CB yV_nearest cV_nearest 6 (some .int) rm_V_nearest room_1 5 := ⟨wd479, wd1, by decide +kernel, rfl, rfl, by decide⟩
theorem cb_M_nearest_law : CB yM_nearest cM_nearest 6 (some .int) rm_M_nearest room_1 5 := ⟨wd758, wd8, by decide +kernel, rfl, rfl, by decide⟩
def StA (Inv : CS → MS → Prop) : Prop := St Inv 4 Value.int (some .int) yV_add cV_add 5 rm_V_add yM_add cM_add 5 rm_M_add ∧ St Inv 0 Value.int (some .boolean) yV_drop cV_drop 1 rm_V_drop yM_drop cM_drop 1 rm_M_drop ∧ St Inv 0 Value.int (some .int) yV_generators cV_generators 1 rm_V_generators yM_generators cM_generators 1 rm_M_generators ∧ St Inv 0 Value.int (some .int) yV_rank cV_rank 1 rm_V_rank yM_rank cM_rank 1 rm_M_rank ∧ St Inv 0 Value.long (some .long) yV_volume cV_volume 1 rm_V_volume yM_volume cM_volume 6 rm_M_volume ∧ St Inv 1 Value.int (some .boolean) yV_spare cV_spare 2 rm_V_spare yM_spare cM_spare 2 rm_M_spare ∧ St Inv 4 Value.int (some .boolean) yV_has cV_has 5 rm_V_has yM_has cM_has 5 rm_M_has ∧ St Inv 4 Value.long (some .long) yV_order cV_order 5 rm_V_order yM_order cM_order 5 rm_M_order ∧ St Inv 1 Value.int (some .int) yV_minimum cV_minimum 2 rm_V_minimum yM_minimum cM_minimum 2 rm_M_minimum ∧ St Inv 1 Value.int (some .int) yV_count cV_count 2 rm_V_count yM_count cM_count 2 rm_M_count ∧ St Inv 2 Value.int (some .int) yV_vector cV_vector 3 rm_V_vector yM_vector cM_vector 3 rm_M_vector ∧ St Inv 4 Value.int (some .int) yV_distance cV_distance 5 rm_V_distance yM_distance cM_distance 5 rm_M_distance ∧ St Inv 5 Value.int (some .int) yV_nearest cV_nearest 6 rm_V_nearest yM_nearest cM_nearest 6 rm_M_nearest
theorem lb15 {κ : ctx} {τ : MS} {σ : CS} : LM κ τ (LC κ σ) 15 = .inr (1, fl_V κ σ) := rfl
theorem lb0 {κ : ctx} {τ : MS} {X : Nat → va_E} : LM κ τ X 0 = .inr (0, fl_M κ τ) := rfl
set_option maxHeartbeats 4000000 in
set_option maxRecDepth 100000 in
theorem lw_c0 {g : Gm} {κ : ctx} (G : OK g κ "ShortVectorsLaw" code 4 ret room_1) {b L i : Nat} {xs : Nat → Int32} (hX : ScrX g b L xs) (hi : i + 6 ≤ L) (hL : L ≤ 3072) {Inv : CS → MS → Prop} (hS : St Inv 4 Value.int (some .int) yV_add cV_add 5 rm_V_add yM_add cM_add 5 rm_M_add) {σ : CS} {τ : MS} (hI : Inv σ τ) (k : ∀ (σ' : CS) (τ' : MS), Inv σ' τ' → J g κ 4 531 [(0, .ref b), (1, .ref (κ.1 15)), (2, .ref (κ.1 0)), (3, .int (nI i))] [] (LM κ τ' (LC κ σ'))) : J g κ 4 100 [(0, .ref b), (1, .ref (κ.1 15)), (2, .ref (κ.1 0)), (3, .int (nI i))] [] (LM κ τ (LC κ σ)) := by
  obtain ⟨v, σ2, τ2, hI2, hV, hM⟩ := hS σ τ hI [xs (i + 1), xs (i + 2), xs (i + 3), xs (i + 4)] rfl
  have e1 : xs (nI i + 1).toNatClampNeg = xs (i + 1) := by rw [show nI i + 1 = nI (i + 1) from nI_add i 1, nI_clamp (by omega)]
  have i1 : vp_in (nI i + 1) L := by rw [show nI i + 1 = nI (i + 1) from nI_add i 1]; exact vp_in_nI (by omega) (by omega)
  have e2 : xs (nI i + 2).toNatClampNeg = xs (i + 2) := by rw [show nI i + 2 = nI (i + 2) from nI_add i 2, nI_clamp (by omega)]
  have i2 : vp_in (nI i + 2) L := by rw [show nI i + 2 = nI (i + 2) from nI_add i 2]; exact vp_in_nI (by omega) (by omega)
  have e3 : xs (nI i + 3).toNatClampNeg = xs (i + 3) := by rw [show nI i + 3 = nI (i + 3) from nI_add i 3, nI_clamp (by omega)]
  have i3 : vp_in (nI i + 3) L := by rw [show nI i + 3 = nI (i + 3) from nI_add i 3]; exact vp_in_nI (by omega) (by omega)
  have e4 : xs (nI i + 4).toNatClampNeg = xs (i + 4) := by rw [show nI i + 4 = nI (i + 4) from nI_add i 4, nI_clamp (by omega)]
  have i4 : vp_in (nI i + 4) L := by rw [show nI i + 4 = nI (i + 4) from nI_add i 4]; exact vp_in_nI (by omega) (by omega)
  refine w_aload_n (pc := 100) (q := 1) G dl_100 rfl rfl ?_
  refine w_aload_n (pc := 101) (q := 0) G dl_101 rfl rfl ?_
  refine w_iload_n (pc := 102) (q := 3) G dl_102 rfl rfl ?_
  refine w_iconst (pc := 103) (v := (1 : Int32)) G dl_103 (by decide) ?_
  refine w_iadd (pc := 104) G dl_104 ?_
  refine w_sld (pc := 105) G hX i1 dl_105 ?_
  rw [e1]
  refine w_aload_n (pc := 106) (q := 0) G dl_106 rfl rfl ?_
  refine w_iload_n (pc := 107) (q := 3) G dl_107 rfl rfl ?_
  refine w_iconst (pc := 108) (v := (2 : Int32)) G dl_108 (by decide) ?_
  refine w_iadd (pc := 109) G dl_109 ?_
  refine w_sld (pc := 110) G hX i2 dl_110 ?_
  rw [e2]
  refine w_aload_n (pc := 111) (q := 0) G dl_111 rfl rfl ?_
  refine w_iload_n (pc := 112) (q := 3) G dl_112 rfl rfl ?_
  refine w_iconst (pc := 113) (v := (3 : Int32)) G dl_113 (by decide) ?_
  refine w_iadd (pc := 114) G dl_114 ?_
  refine w_sld (pc := 115) G hX i3 dl_115 ?_
  rw [e3]
  refine w_aload_n (pc := 116) (q := 0) G dl_116 rfl rfl ?_
  refine w_iload_n (pc := 117) (q := 3) G dl_117 rfl rfl ?_
  refine w_iconst (pc := 118) (v := (4 : Int32)) G dl_118 (by decide) ?_
  refine w_iadd (pc := 119) G dl_119 ?_
  refine w_sld (pc := 120) G hX i4 dl_120 ?_
  rw [e4]
  refine w_callV (pc := 121) (av := [.int (xs (i + 1)), .int (xs (i + 2)), .int (xs (i + 3)), .int (xs (i + 4))]) (rest := []) (v := some (.int v)) (L' := LM κ τ (LC κ σ2)) (T := TV) (fs := fl_V κ σ) G 15 1 12 (by decide) lb15 rfl cb_V_add_law wd161 wd162 wd160 (hV κ) rfl rfl rfl (Nat.le_of_ble_eq_true rfl) dl_121 ?_
  refine w_aload_n (pc := 124) (q := 2) G dl_124 rfl rfl ?_
  refine w_aload_n (pc := 125) (q := 0) G dl_125 rfl rfl ?_
  refine w_iload_n (pc := 126) (q := 3) G dl_126 rfl rfl ?_
  refine w_iconst (pc := 127) (v := (1 : Int32)) G dl_127 (by decide) ?_
  refine w_iadd (pc := 128) G dl_128 ?_
  refine w_sld (pc := 129) G hX i1 dl_129 ?_
  rw [e1]
  refine w_aload_n (pc := 130) (q := 0) G dl_130 rfl rfl ?_
  refine w_iload_n (pc := 131) (q := 3) G dl_131 rfl rfl ?_
  refine w_iconst (pc := 132) (v := (2 : Int32)) G dl_132 (by decide) ?_
  refine w_iadd (pc := 133) G dl_133 ?_
  refine w_sld (pc := 134) G hX i2 dl_134 ?_
  rw [e2]
  refine w_aload_n (pc := 135) (q := 0) G dl_135 rfl rfl ?_
  refine w_iload_n (pc := 136) (q := 3) G dl_136 rfl rfl ?_
  refine w_iconst (pc := 137) (v := (3 : Int32)) G dl_137 (by decide) ?_
  refine w_iadd (pc := 138) G dl_138 ?_
  refine w_sld (pc := 139) G hX i3 dl_139 ?_
  rw [e3]
  refine w_aload_n (pc := 140) (q := 0) G dl_140 rfl rfl ?_
  refine w_iload_n (pc := 141) (q := 3) G dl_141 rfl rfl ?_
  refine w_iconst (pc := 142) (v := (4 : Int32)) G dl_142 (by decide) ?_
  refine w_iadd (pc := 143) G dl_143 ?_
  refine w_sld (pc := 144) G hX i4 dl_144 ?_
  rw [e4]
  refine w_callV (pc := 145) (av := [.int (xs (i + 1)), .int (xs (i + 2)), .int (xs (i + 3)), .int (xs (i + 4))]) (rest := [.int v]) (v := some (.int v)) (L' := LM κ τ2 (LC κ σ2)) (T := TM) (fs := fl_M κ τ) G 0 0 27 (by decide) lb0 rfl cb_M_add_law wd573 wd574 wd572 (hM κ) rfl rfl rfl (Nat.le_of_ble_eq_true rfl) dl_145 ?_
  refine w_icmp_eq (pc := 148) (tgt := 531) G dl_148 (by decide) (fun _ => ?_) (fun c9 => absurd rfl c9)
  exact k σ2 τ2 hI2
set_option maxHeartbeats 4000000 in
set_option maxRecDepth 100000 in
theorem lw_c1 {g : Gm} {κ : ctx} (G : OK g κ "ShortVectorsLaw" code 4 ret room_1) {b L i : Nat} {xs : Nat → Int32} (hX : ScrX g b L xs) (hi : i + 6 ≤ L) (hL : L ≤ 3072) {Inv : CS → MS → Prop} (hS : St Inv 0 Value.int (some .boolean) yV_drop cV_drop 1 rm_V_drop yM_drop cM_drop 1 rm_M_drop) {σ : CS} {τ : MS} (hI : Inv σ τ) (k : ∀ (σ' : CS) (τ' : MS), Inv σ' τ' → J g κ 4 531 [(0, .ref b), (1, .ref (κ.1 15)), (2, .ref (κ.1 0)), (3, .int (nI i))] [] (LM κ τ' (LC κ σ'))) : J g κ 4 153 [(0, .ref b), (1, .ref (κ.1 15)), (2, .ref (κ.1 0)), (3, .int (nI i))] [] (LM κ τ (LC κ σ)) := by
  obtain ⟨v, σ2, τ2, hI2, hV, hM⟩ := hS σ τ hI [] rfl
  refine w_aload_n (pc := 153) (q := 1) G dl_153 rfl rfl ?_
  refine w_callV (pc := 154) (av := []) (rest := []) (v := some (.int v)) (L' := LM κ τ (LC κ σ2)) (T := TV) (fs := fl_V κ σ) G 15 1 12 (by decide) lb15 rfl cb_V_drop_law wd204 wd205 wd203 (hV κ) rfl rfl rfl (Nat.le_of_ble_eq_true rfl) dl_154 ?_
  refine w_aload_n (pc := 157) (q := 2) G dl_157 rfl rfl ?_
  refine w_callV (pc := 158) (av := []) (rest := [.int v]) (v := some (.int v)) (L' := LM κ τ2 (LC κ σ2)) (T := TM) (fs := fl_M κ τ) G 0 0 27 (by decide) lb0 rfl cb_M_drop_law wd584 wd585 wd583 (hM κ) rfl rfl rfl (Nat.le_of_ble_eq_true rfl) dl_158 ?_
  refine w_icmp_eq (pc := 161) (tgt := 531) G dl_161 (by decide) (fun _ => ?_) (fun c9 => absurd rfl c9)
  exact k σ2 τ2 hI2
set_option maxHeartbeats 4000000 in
set_option maxRecDepth 100000 in
theorem lw_c2 {g : Gm} {κ : ctx} (G : OK g κ "ShortVectorsLaw" code 4 ret room_1) {b L i : Nat} {xs : Nat → Int32} (hX : ScrX g b L xs) (hi : i + 6 ≤ L) (hL : L ≤ 3072) {Inv : CS → MS → Prop} (hS : St Inv 0 Value.int (some .int) yV_generators cV_generators 1 rm_V_generators yM_generators cM_generators 1 rm_M_generators) {σ : CS} {τ : MS} (hI : Inv σ τ) (k : ∀ (σ' : CS) (τ' : MS), Inv σ' τ' → J g κ 4 531 [(0, .ref b), (1, .ref (κ.1 15)), (2, .ref (κ.1 0)), (3, .int (nI i))] [] (LM κ τ' (LC κ σ'))) : J g κ 4 166 [(0, .ref b), (1, .ref (κ.1 15)), (2, .ref (κ.1 0)), (3, .int (nI i))] [] (LM κ τ (LC κ σ)) := by
  obtain ⟨v, σ2, τ2, hI2, hV, hM⟩ := hS σ τ hI [] rfl
  refine w_aload_n (pc := 166) (q := 1) G dl_166 rfl rfl ?_
  refine w_callV (pc := 167) (av := []) (rest := []) (v := some (.int v)) (L' := LM κ τ (LC κ σ2)) (T := TV) (fs := fl_V κ σ) G 15 1 12 (by decide) lb15 rfl cb_V_generators_law wd219 wd220 wd218 (hV κ) rfl rfl rfl (Nat.le_of_ble_eq_true rfl) dl_167 ?_
  refine w_aload_n (pc := 170) (q := 2) G dl_170 rfl rfl ?_
  refine w_callV (pc := 171) (av := []) (rest := [.int v]) (v := some (.int v)) (L' := LM κ τ2 (LC κ σ2)) (T := TM) (fs := fl_M κ τ) G 0 0 27 (by decide) lb0 rfl cb_M_generators_law wd588 wd589 wd587 (hM κ) rfl rfl rfl (Nat.le_of_ble_eq_true rfl) dl_171 ?_
  refine w_icmp_eq (pc := 174) (tgt := 531) G dl_174 (by decide) (fun _ => ?_) (fun c9 => absurd rfl c9)
  exact k σ2 τ2 hI2
set_option maxHeartbeats 4000000 in
set_option maxRecDepth 100000 in
theorem lw_c3 {g : Gm} {κ : ctx} (G : OK g κ "ShortVectorsLaw" code 4 ret room_1) {b L i : Nat} {xs : Nat → Int32} (hX : ScrX g b L xs) (hi : i + 6 ≤ L) (hL : L ≤ 3072) {Inv : CS → MS → Prop} (hS : St Inv 0 Value.int (some .int) yV_rank cV_rank 1 rm_V_rank yM_rank cM_rank 1 rm_M_rank) {σ : CS} {τ : MS} (hI : Inv σ τ) (k : ∀ (σ' : CS) (τ' : MS), Inv σ' τ' → J g κ 4 531 [(0, .ref b), (1, .ref (κ.1 15)), (2, .ref (κ.1 0)), (3, .int (nI i))] [] (LM κ τ' (LC κ σ'))) : J g κ 4 179 [(0, .ref b), (1, .ref (κ.1 15)), (2, .ref (κ.1 0)), (3, .int (nI i))] [] (LM κ τ (LC κ σ)) := by
  obtain ⟨v, σ2, τ2, hI2, hV, hM⟩ := hS σ τ hI [] rfl
  refine w_aload_n (pc := 179) (q := 1) G dl_179 rfl rfl ?_
  refine w_callV (pc := 180) (av := []) (rest := []) (v := some (.int v)) (L' := LM κ τ (LC κ σ2)) (T := TV) (fs := fl_V κ σ) G 15 1 12 (by decide) lb15 rfl cb_V_rank_law wd223 wd224 wd222 (hV κ) rfl rfl rfl (Nat.le_of_ble_eq_true rfl) dl_180 ?_
  refine w_aload_n (pc := 183) (q := 2) G dl_183 rfl rfl ?_
  refine w_callV (pc := 184) (av := []) (rest := [.int v]) (v := some (.int v)) (L' := LM κ τ2 (LC κ σ2)) (T := TM) (fs := fl_M κ τ) G 0 0 27 (by decide) lb0 rfl cb_M_rank_law wd592 wd593 wd591 (hM κ) rfl rfl rfl (Nat.le_of_ble_eq_true rfl) dl_184 ?_
  refine w_icmp_eq (pc := 187) (tgt := 531) G dl_187 (by decide) (fun _ => ?_) (fun c9 => absurd rfl c9)
  exact k σ2 τ2 hI2
set_option maxHeartbeats 4000000 in
set_option maxRecDepth 100000 in
theorem lw_c4 {g : Gm} {κ : ctx} (G : OK g κ "ShortVectorsLaw" code 4 ret room_1) {b L i : Nat} {xs : Nat → Int32} (hX : ScrX g b L xs) (hi : i + 6 ≤ L) (hL : L ≤ 3072) {Inv : CS → MS → Prop} (hS : St Inv 0 Value.long (some .long) yV_volume cV_volume 1 rm_V_volume yM_volume cM_volume 6 rm_M_volume) {σ : CS} {τ : MS} (hI : Inv σ τ) (k : ∀ (σ' : CS) (τ' : MS), Inv σ' τ' → J g κ 4 531 [(0, .ref b), (1, .ref (κ.1 15)), (2, .ref (κ.1 0)), (3, .int (nI i))] [] (LM κ τ' (LC κ σ'))) : J g κ 4 192 [(0, .ref b), (1, .ref (κ.1 15)), (2, .ref (κ.1 0)), (3, .int (nI i))] [] (LM κ τ (LC κ σ)) := by
  obtain ⟨v, σ2, τ2, hI2, hV, hM⟩ := hS σ τ hI [] rfl
  refine w_aload_n (pc := 192) (q := 1) G dl_192 rfl rfl ?_
  refine w_callV (pc := 193) (av := []) (rest := []) (v := some (.long v)) (L' := LM κ τ (LC κ σ2)) (T := TV) (fs := fl_V κ σ) G 15 1 12 (by decide) lb15 rfl cb_V_volume_law wd231 wd232 wd230 (hV κ) rfl rfl rfl (Nat.le_of_ble_eq_true rfl) dl_193 ?_
  refine w_aload_n (pc := 196) (q := 2) G dl_196 rfl rfl ?_
  refine w_callV (pc := 197) (av := []) (rest := [.long v]) (v := some (.long v)) (L' := LM κ τ2 (LC κ σ2)) (T := TM) (fs := fl_M κ τ) G 0 0 27 (by decide) lb0 rfl cb_M_volume_law wd627 wd628 wd626 (hM κ) rfl rfl rfl (Nat.le_of_ble_eq_true rfl) dl_197 ?_
  refine w_lc_eq (pc := 200) (tgt := 531) G dl_200 dl_201 (by decide) (fun _ => ?_) (fun c9 => absurd rfl c9)
  exact k σ2 τ2 hI2
set_option maxHeartbeats 4000000 in
set_option maxRecDepth 100000 in
theorem lw_c5 {g : Gm} {κ : ctx} (G : OK g κ "ShortVectorsLaw" code 4 ret room_1) {b L i : Nat} {xs : Nat → Int32} (hX : ScrX g b L xs) (hi : i + 6 ≤ L) (hL : L ≤ 3072) {Inv : CS → MS → Prop} (hS : St Inv 1 Value.int (some .boolean) yV_spare cV_spare 2 rm_V_spare yM_spare cM_spare 2 rm_M_spare) {σ : CS} {τ : MS} (hI : Inv σ τ) (k : ∀ (σ' : CS) (τ' : MS), Inv σ' τ' → J g κ 4 531 [(0, .ref b), (1, .ref (κ.1 15)), (2, .ref (κ.1 0)), (3, .int (nI i))] [] (LM κ τ' (LC κ σ'))) : J g κ 4 206 [(0, .ref b), (1, .ref (κ.1 15)), (2, .ref (κ.1 0)), (3, .int (nI i))] [] (LM κ τ (LC κ σ)) := by
  obtain ⟨v, σ2, τ2, hI2, hV, hM⟩ := hS σ τ hI [xs (i + 1)] rfl
  have e1 : xs (nI i + 1).toNatClampNeg = xs (i + 1) := by rw [show nI i + 1 = nI (i + 1) from nI_add i 1, nI_clamp (by omega)]
  have i1 : vp_in (nI i + 1) L := by rw [show nI i + 1 = nI (i + 1) from nI_add i 1]; exact vp_in_nI (by omega) (by omega)
  refine w_aload_n (pc := 206) (q := 1) G dl_206 rfl rfl ?_
  refine w_aload_n (pc := 207) (q := 0) G dl_207 rfl rfl ?_
  refine w_iload_n (pc := 208) (q := 3) G dl_208 rfl rfl ?_
  refine w_iconst (pc := 209) (v := (1 : Int32)) G dl_209 (by decide) ?_
  refine w_iadd (pc := 210) G dl_210 ?_
  refine w_sld (pc := 211) G hX i1 dl_211 ?_
  rw [e1]
  refine w_callV (pc := 212) (av := [.int (xs (i + 1))]) (rest := []) (v := some (.int v)) (L' := LM κ τ (LC κ σ2)) (T := TV) (fs := fl_V κ σ) G 15 1 12 (by decide) lb15 rfl cb_V_spare_law wd314 wd315 wd313 (hV κ) rfl rfl rfl (Nat.le_of_ble_eq_true rfl) dl_212 ?_
  refine w_aload_n (pc := 215) (q := 2) G dl_215 rfl rfl ?_
  refine w_aload_n (pc := 216) (q := 0) G dl_216 rfl rfl ?_
  refine w_iload_n (pc := 217) (q := 3) G dl_217 rfl rfl ?_
  refine w_iconst (pc := 218) (v := (1 : Int32)) G dl_218 (by decide) ?_
  refine w_iadd (pc := 219) G dl_219 ?_
  refine w_sld (pc := 220) G hX i1 dl_220 ?_
  rw [e1]
  refine w_callV (pc := 221) (av := [.int (xs (i + 1))]) (rest := [.int v]) (v := some (.int v)) (L' := LM κ τ2 (LC κ σ2)) (T := TM) (fs := fl_M κ τ) G 0 0 27 (by decide) lb0 rfl cb_M_spare_law wd639 wd640 wd638 (hM κ) rfl rfl rfl (Nat.le_of_ble_eq_true rfl) dl_221 ?_
  refine w_icmp_eq (pc := 224) (tgt := 531) G dl_224 (by decide) (fun _ => ?_) (fun c9 => absurd rfl c9)
  exact k σ2 τ2 hI2
set_option maxHeartbeats 4000000 in
set_option maxRecDepth 100000 in
theorem lw_c6 {g : Gm} {κ : ctx} (G : OK g κ "ShortVectorsLaw" code 4 ret room_1) {b L i : Nat} {xs : Nat → Int32} (hX : ScrX g b L xs) (hi : i + 6 ≤ L) (hL : L ≤ 3072) {Inv : CS → MS → Prop} (hS : St Inv 4 Value.int (some .boolean) yV_has cV_has 5 rm_V_has yM_has cM_has 5 rm_M_has) {σ : CS} {τ : MS} (hI : Inv σ τ) (k : ∀ (σ' : CS) (τ' : MS), Inv σ' τ' → J g κ 4 531 [(0, .ref b), (1, .ref (κ.1 15)), (2, .ref (κ.1 0)), (3, .int (nI i))] [] (LM κ τ' (LC κ σ'))) : J g κ 4 229 [(0, .ref b), (1, .ref (κ.1 15)), (2, .ref (κ.1 0)), (3, .int (nI i))] [] (LM κ τ (LC κ σ)) := by
  obtain ⟨v, σ2, τ2, hI2, hV, hM⟩ := hS σ τ hI [xs (i + 1), xs (i + 2), xs (i + 3), xs (i + 4)] rfl
  have e1 : xs (nI i + 1).toNatClampNeg = xs (i + 1) := by rw [show nI i + 1 = nI (i + 1) from nI_add i 1, nI_clamp (by omega)]
  have i1 : vp_in (nI i + 1) L := by rw [show nI i + 1 = nI (i + 1) from nI_add i 1]; exact vp_in_nI (by omega) (by omega)
  have e2 : xs (nI i + 2).toNatClampNeg = xs (i + 2) := by rw [show nI i + 2 = nI (i + 2) from nI_add i 2, nI_clamp (by omega)]
  have i2 : vp_in (nI i + 2) L := by rw [show nI i + 2 = nI (i + 2) from nI_add i 2]; exact vp_in_nI (by omega) (by omega)
  have e3 : xs (nI i + 3).toNatClampNeg = xs (i + 3) := by rw [show nI i + 3 = nI (i + 3) from nI_add i 3, nI_clamp (by omega)]
  have i3 : vp_in (nI i + 3) L := by rw [show nI i + 3 = nI (i + 3) from nI_add i 3]; exact vp_in_nI (by omega) (by omega)
  have e4 : xs (nI i + 4).toNatClampNeg = xs (i + 4) := by rw [show nI i + 4 = nI (i + 4) from nI_add i 4, nI_clamp (by omega)]
  have i4 : vp_in (nI i + 4) L := by rw [show nI i + 4 = nI (i + 4) from nI_add i 4]; exact vp_in_nI (by omega) (by omega)
  refine w_aload_n (pc := 229) (q := 1) G dl_229 rfl rfl ?_
  refine w_aload_n (pc := 230) (q := 0) G dl_230 rfl rfl ?_
  refine w_iload_n (pc := 231) (q := 3) G dl_231 rfl rfl ?_
  refine w_iconst (pc := 232) (v := (1 : Int32)) G dl_232 (by decide) ?_
  refine w_iadd (pc := 233) G dl_233 ?_
  refine w_sld (pc := 234) G hX i1 dl_234 ?_
  rw [e1]
  refine w_aload_n (pc := 235) (q := 0) G dl_235 rfl rfl ?_
  refine w_iload_n (pc := 236) (q := 3) G dl_236 rfl rfl ?_
  refine w_iconst (pc := 237) (v := (2 : Int32)) G dl_237 (by decide) ?_
  refine w_iadd (pc := 238) G dl_238 ?_
  refine w_sld (pc := 239) G hX i2 dl_239 ?_
  rw [e2]
  refine w_aload_n (pc := 240) (q := 0) G dl_240 rfl rfl ?_
  refine w_iload_n (pc := 241) (q := 3) G dl_241 rfl rfl ?_
  refine w_iconst (pc := 242) (v := (3 : Int32)) G dl_242 (by decide) ?_
  refine w_iadd (pc := 243) G dl_243 ?_
  refine w_sld (pc := 244) G hX i3 dl_244 ?_
  rw [e3]
  refine w_aload_n (pc := 245) (q := 0) G dl_245 rfl rfl ?_
  refine w_iload_n (pc := 246) (q := 3) G dl_246 rfl rfl ?_
  refine w_iconst (pc := 247) (v := (4 : Int32)) G dl_247 (by decide) ?_
  refine w_iadd (pc := 248) G dl_248 ?_
  refine w_sld (pc := 249) G hX i4 dl_249 ?_
  rw [e4]
  refine w_callV (pc := 250) (av := [.int (xs (i + 1)), .int (xs (i + 2)), .int (xs (i + 3)), .int (xs (i + 4))]) (rest := []) (v := some (.int v)) (L' := LM κ τ (LC κ σ2)) (T := TV) (fs := fl_V κ σ) G 15 1 12 (by decide) lb15 rfl cb_V_has_law wd327 wd328 wd326 (hV κ) rfl rfl rfl (Nat.le_of_ble_eq_true rfl) dl_250 ?_
  refine w_aload_n (pc := 253) (q := 2) G dl_253 rfl rfl ?_
  refine w_aload_n (pc := 254) (q := 0) G dl_254 rfl rfl ?_
  refine w_iload_n (pc := 255) (q := 3) G dl_255 rfl rfl ?_
  refine w_iconst (pc := 256) (v := (1 : Int32)) G dl_256 (by decide) ?_
  refine w_iadd (pc := 257) G dl_257 ?_
  refine w_sld (pc := 258) G hX i1 dl_258 ?_
  rw [e1]
  refine w_aload_n (pc := 259) (q := 0) G dl_259 rfl rfl ?_
  refine w_iload_n (pc := 260) (q := 3) G dl_260 rfl rfl ?_
  refine w_iconst (pc := 261) (v := (2 : Int32)) G dl_261 (by decide) ?_
  refine w_iadd (pc := 262) G dl_262 ?_
  refine w_sld (pc := 263) G hX i2 dl_263 ?_
  rw [e2]
  refine w_aload_n (pc := 264) (q := 0) G dl_264 rfl rfl ?_
  refine w_iload_n (pc := 265) (q := 3) G dl_265 rfl rfl ?_
  refine w_iconst (pc := 266) (v := (3 : Int32)) G dl_266 (by decide) ?_
  refine w_iadd (pc := 267) G dl_267 ?_
  refine w_sld (pc := 268) G hX i3 dl_268 ?_
  rw [e3]
  refine w_aload_n (pc := 269) (q := 0) G dl_269 rfl rfl ?_
  refine w_iload_n (pc := 270) (q := 3) G dl_270 rfl rfl ?_
  refine w_iconst (pc := 271) (v := (4 : Int32)) G dl_271 (by decide) ?_
  refine w_iadd (pc := 272) G dl_272 ?_
  refine w_sld (pc := 273) G hX i4 dl_273 ?_
  rw [e4]
  refine w_callV (pc := 274) (av := [.int (xs (i + 1)), .int (xs (i + 2)), .int (xs (i + 3)), .int (xs (i + 4))]) (rest := [.int v]) (v := some (.int v)) (L' := LM κ τ2 (LC κ σ2)) (T := TM) (fs := fl_M κ τ) G 0 0 27 (by decide) lb0 rfl cb_M_has_law wd654 wd655 wd653 (hM κ) rfl rfl rfl (Nat.le_of_ble_eq_true rfl) dl_274 ?_
  refine w_icmp_eq (pc := 277) (tgt := 531) G dl_277 (by decide) (fun _ => ?_) (fun c9 => absurd rfl c9)
  exact k σ2 τ2 hI2
set_option maxHeartbeats 4000000 in
set_option maxRecDepth 100000 in
theorem lw_c7 {g : Gm} {κ : ctx} (G : OK g κ "ShortVectorsLaw" code 4 ret room_1) {b L i : Nat} {xs : Nat → Int32} (hX : ScrX g b L xs) (hi : i + 6 ≤ L) (hL : L ≤ 3072) {Inv : CS → MS → Prop} (hS : St Inv 4 Value.long (some .long) yV_order cV_order 5 rm_V_order yM_order cM_order 5 rm_M_order) {σ : CS} {τ : MS} (hI : Inv σ τ) (k : ∀ (σ' : CS) (τ' : MS), Inv σ' τ' → J g κ 4 531 [(0, .ref b), (1, .ref (κ.1 15)), (2, .ref (κ.1 0)), (3, .int (nI i))] [] (LM κ τ' (LC κ σ'))) : J g κ 4 282 [(0, .ref b), (1, .ref (κ.1 15)), (2, .ref (κ.1 0)), (3, .int (nI i))] [] (LM κ τ (LC κ σ)) := by
  obtain ⟨v, σ2, τ2, hI2, hV, hM⟩ := hS σ τ hI [xs (i + 1), xs (i + 2), xs (i + 3), xs (i + 4)] rfl
  have e1 : xs (nI i + 1).toNatClampNeg = xs (i + 1) := by rw [show nI i + 1 = nI (i + 1) from nI_add i 1, nI_clamp (by omega)]
  have i1 : vp_in (nI i + 1) L := by rw [show nI i + 1 = nI (i + 1) from nI_add i 1]; exact vp_in_nI (by omega) (by omega)
  have e2 : xs (nI i + 2).toNatClampNeg = xs (i + 2) := by rw [show nI i + 2 = nI (i + 2) from nI_add i 2, nI_clamp (by omega)]
  have i2 : vp_in (nI i + 2) L := by rw [show nI i + 2 = nI (i + 2) from nI_add i 2]; exact vp_in_nI (by omega) (by omega)
  have e3 : xs (nI i + 3).toNatClampNeg = xs (i + 3) := by rw [show nI i + 3 = nI (i + 3) from nI_add i 3, nI_clamp (by omega)]
  have i3 : vp_in (nI i + 3) L := by rw [show nI i + 3 = nI (i + 3) from nI_add i 3]; exact vp_in_nI (by omega) (by omega)
  have e4 : xs (nI i + 4).toNatClampNeg = xs (i + 4) := by rw [show nI i + 4 = nI (i + 4) from nI_add i 4, nI_clamp (by omega)]
  have i4 : vp_in (nI i + 4) L := by rw [show nI i + 4 = nI (i + 4) from nI_add i 4]; exact vp_in_nI (by omega) (by omega)
  refine w_aload_n (pc := 282) (q := 1) G dl_282 rfl rfl ?_
  refine w_aload_n (pc := 283) (q := 0) G dl_283 rfl rfl ?_
  refine w_iload_n (pc := 284) (q := 3) G dl_284 rfl rfl ?_
  refine w_iconst (pc := 285) (v := (1 : Int32)) G dl_285 (by decide) ?_
  refine w_iadd (pc := 286) G dl_286 ?_
  refine w_sld (pc := 287) G hX i1 dl_287 ?_
  rw [e1]
  refine w_aload_n (pc := 288) (q := 0) G dl_288 rfl rfl ?_
  refine w_iload_n (pc := 289) (q := 3) G dl_289 rfl rfl ?_
  refine w_iconst (pc := 290) (v := (2 : Int32)) G dl_290 (by decide) ?_
  refine w_iadd (pc := 291) G dl_291 ?_
  refine w_sld (pc := 292) G hX i2 dl_292 ?_
  rw [e2]
  refine w_aload_n (pc := 293) (q := 0) G dl_293 rfl rfl ?_
  refine w_iload_n (pc := 294) (q := 3) G dl_294 rfl rfl ?_
  refine w_iconst (pc := 295) (v := (3 : Int32)) G dl_295 (by decide) ?_
  refine w_iadd (pc := 296) G dl_296 ?_
  refine w_sld (pc := 297) G hX i3 dl_297 ?_
  rw [e3]
  refine w_aload_n (pc := 298) (q := 0) G dl_298 rfl rfl ?_
  refine w_iload_n (pc := 299) (q := 3) G dl_299 rfl rfl ?_
  refine w_iconst (pc := 300) (v := (4 : Int32)) G dl_300 (by decide) ?_
  refine w_iadd (pc := 301) G dl_301 ?_
  refine w_sld (pc := 302) G hX i4 dl_302 ?_
  rw [e4]
  refine w_callV (pc := 303) (av := [.int (xs (i + 1)), .int (xs (i + 2)), .int (xs (i + 3)), .int (xs (i + 4))]) (rest := []) (v := some (.long v)) (L' := LM κ τ (LC κ σ2)) (T := TV) (fs := fl_V κ σ) G 15 1 12 (by decide) lb15 rfl cb_V_order_law wd331 wd332 wd330 (hV κ) rfl rfl rfl (Nat.le_of_ble_eq_true rfl) dl_303 ?_
  refine w_aload_n (pc := 306) (q := 2) G dl_306 rfl rfl ?_
  refine w_aload_n (pc := 307) (q := 0) G dl_307 rfl rfl ?_
  refine w_iload_n (pc := 308) (q := 3) G dl_308 rfl rfl ?_
  refine w_iconst (pc := 309) (v := (1 : Int32)) G dl_309 (by decide) ?_
  refine w_iadd (pc := 310) G dl_310 ?_
  refine w_sld (pc := 311) G hX i1 dl_311 ?_
  rw [e1]
  refine w_aload_n (pc := 312) (q := 0) G dl_312 rfl rfl ?_
  refine w_iload_n (pc := 313) (q := 3) G dl_313 rfl rfl ?_
  refine w_iconst (pc := 314) (v := (2 : Int32)) G dl_314 (by decide) ?_
  refine w_iadd (pc := 315) G dl_315 ?_
  refine w_sld (pc := 316) G hX i2 dl_316 ?_
  rw [e2]
  refine w_aload_n (pc := 317) (q := 0) G dl_317 rfl rfl ?_
  refine w_iload_n (pc := 318) (q := 3) G dl_318 rfl rfl ?_
  refine w_iconst (pc := 319) (v := (3 : Int32)) G dl_319 (by decide) ?_
  refine w_iadd (pc := 320) G dl_320 ?_
  refine w_sld (pc := 321) G hX i3 dl_321 ?_
  rw [e3]
  refine w_aload_n (pc := 322) (q := 0) G dl_322 rfl rfl ?_
  refine w_iload_n (pc := 323) (q := 3) G dl_323 rfl rfl ?_
  refine w_iconst (pc := 324) (v := (4 : Int32)) G dl_324 (by decide) ?_
  refine w_iadd (pc := 325) G dl_325 ?_
  refine w_sld (pc := 326) G hX i4 dl_326 ?_
  rw [e4]
  refine w_callV (pc := 327) (av := [.int (xs (i + 1)), .int (xs (i + 2)), .int (xs (i + 3)), .int (xs (i + 4))]) (rest := [.long v]) (v := some (.long v)) (L' := LM κ τ2 (LC κ σ2)) (T := TM) (fs := fl_M κ τ) G 0 0 27 (by decide) lb0 rfl cb_M_order_law wd658 wd659 wd657 (hM κ) rfl rfl rfl (Nat.le_of_ble_eq_true rfl) dl_327 ?_
  refine w_lc_eq (pc := 330) (tgt := 531) G dl_330 dl_331 (by decide) (fun _ => ?_) (fun c9 => absurd rfl c9)
  exact k σ2 τ2 hI2
set_option maxHeartbeats 4000000 in
set_option maxRecDepth 100000 in
theorem lw_c8 {g : Gm} {κ : ctx} (G : OK g κ "ShortVectorsLaw" code 4 ret room_1) {b L i : Nat} {xs : Nat → Int32} (hX : ScrX g b L xs) (hi : i + 6 ≤ L) (hL : L ≤ 3072) {Inv : CS → MS → Prop} (hS : St Inv 1 Value.int (some .int) yV_minimum cV_minimum 2 rm_V_minimum yM_minimum cM_minimum 2 rm_M_minimum) {σ : CS} {τ : MS} (hI : Inv σ τ) (k : ∀ (σ' : CS) (τ' : MS), Inv σ' τ' → J g κ 4 531 [(0, .ref b), (1, .ref (κ.1 15)), (2, .ref (κ.1 0)), (3, .int (nI i))] [] (LM κ τ' (LC κ σ'))) : J g κ 4 336 [(0, .ref b), (1, .ref (κ.1 15)), (2, .ref (κ.1 0)), (3, .int (nI i))] [] (LM κ τ (LC κ σ)) := by
  obtain ⟨v, σ2, τ2, hI2, hV, hM⟩ := hS σ τ hI [xs (i + 1)] rfl
  have e1 : xs (nI i + 1).toNatClampNeg = xs (i + 1) := by rw [show nI i + 1 = nI (i + 1) from nI_add i 1, nI_clamp (by omega)]
  have i1 : vp_in (nI i + 1) L := by rw [show nI i + 1 = nI (i + 1) from nI_add i 1]; exact vp_in_nI (by omega) (by omega)
  refine w_aload_n (pc := 336) (q := 1) G dl_336 rfl rfl ?_
  refine w_aload_n (pc := 337) (q := 0) G dl_337 rfl rfl ?_
  refine w_iload_n (pc := 338) (q := 3) G dl_338 rfl rfl ?_
  refine w_iconst (pc := 339) (v := (1 : Int32)) G dl_339 (by decide) ?_
  refine w_iadd (pc := 340) G dl_340 ?_
  refine w_sld (pc := 341) G hX i1 dl_341 ?_
  rw [e1]
  refine w_callV (pc := 342) (av := [.int (xs (i + 1))]) (rest := []) (v := some (.int v)) (L' := LM κ τ (LC κ σ2)) (T := TV) (fs := fl_V κ σ) G 15 1 12 (by decide) lb15 rfl cb_V_minimum_law wd337 wd338 wd336 (hV κ) rfl rfl rfl (Nat.le_of_ble_eq_true rfl) dl_342 ?_
  refine w_aload_n (pc := 345) (q := 2) G dl_345 rfl rfl ?_
  refine w_aload_n (pc := 346) (q := 0) G dl_346 rfl rfl ?_
  refine w_iload_n (pc := 347) (q := 3) G dl_347 rfl rfl ?_
  refine w_iconst (pc := 348) (v := (1 : Int32)) G dl_348 (by decide) ?_
  refine w_iadd (pc := 349) G dl_349 ?_
  refine w_sld (pc := 350) G hX i1 dl_350 ?_
  rw [e1]
  refine w_callV (pc := 351) (av := [.int (xs (i + 1))]) (rest := [.int v]) (v := some (.int v)) (L' := LM κ τ2 (LC κ σ2)) (T := TM) (fs := fl_M κ τ) G 0 0 27 (by decide) lb0 rfl cb_M_minimum_law wd736 wd737 wd735 (hM κ) rfl rfl rfl (Nat.le_of_ble_eq_true rfl) dl_351 ?_
  refine w_icmp_eq (pc := 354) (tgt := 531) G dl_354 (by decide) (fun _ => ?_) (fun c9 => absurd rfl c9)
  exact k σ2 τ2 hI2
set_option maxHeartbeats 4000000 in
set_option maxRecDepth 100000 in
theorem lw_c9 {g : Gm} {κ : ctx} (G : OK g κ "ShortVectorsLaw" code 4 ret room_1) {b L i : Nat} {xs : Nat → Int32} (hX : ScrX g b L xs) (hi : i + 6 ≤ L) (hL : L ≤ 3072) {Inv : CS → MS → Prop} (hS : St Inv 1 Value.int (some .int) yV_count cV_count 2 rm_V_count yM_count cM_count 2 rm_M_count) {σ : CS} {τ : MS} (hI : Inv σ τ) (k : ∀ (σ' : CS) (τ' : MS), Inv σ' τ' → J g κ 4 531 [(0, .ref b), (1, .ref (κ.1 15)), (2, .ref (κ.1 0)), (3, .int (nI i))] [] (LM κ τ' (LC κ σ'))) : J g κ 4 359 [(0, .ref b), (1, .ref (κ.1 15)), (2, .ref (κ.1 0)), (3, .int (nI i))] [] (LM κ τ (LC κ σ)) := by
  obtain ⟨v, σ2, τ2, hI2, hV, hM⟩ := hS σ τ hI [xs (i + 1)] rfl
  have e1 : xs (nI i + 1).toNatClampNeg = xs (i + 1) := by rw [show nI i + 1 = nI (i + 1) from nI_add i 1, nI_clamp (by omega)]
  have i1 : vp_in (nI i + 1) L := by rw [show nI i + 1 = nI (i + 1) from nI_add i 1]; exact vp_in_nI (by omega) (by omega)
  refine w_aload_n (pc := 359) (q := 1) G dl_359 rfl rfl ?_
  refine w_aload_n (pc := 360) (q := 0) G dl_360 rfl rfl ?_
  refine w_iload_n (pc := 361) (q := 3) G dl_361 rfl rfl ?_
  refine w_iconst (pc := 362) (v := (1 : Int32)) G dl_362 (by decide) ?_
  refine w_iadd (pc := 363) G dl_363 ?_
  refine w_sld (pc := 364) G hX i1 dl_364 ?_
  rw [e1]
  refine w_callV (pc := 365) (av := [.int (xs (i + 1))]) (rest := []) (v := some (.int v)) (L' := LM κ τ (LC κ σ2)) (T := TV) (fs := fl_V κ σ) G 15 1 12 (by decide) lb15 rfl cb_V_count_law wd342 wd343 wd341 (hV κ) rfl rfl rfl (Nat.le_of_ble_eq_true rfl) dl_365 ?_
  refine w_aload_n (pc := 368) (q := 2) G dl_368 rfl rfl ?_
  refine w_aload_n (pc := 369) (q := 0) G dl_369 rfl rfl ?_
  refine w_iload_n (pc := 370) (q := 3) G dl_370 rfl rfl ?_
  refine w_iconst (pc := 371) (v := (1 : Int32)) G dl_371 (by decide) ?_
  refine w_iadd (pc := 372) G dl_372 ?_
  refine w_sld (pc := 373) G hX i1 dl_373 ?_
  rw [e1]
  refine w_callV (pc := 374) (av := [.int (xs (i + 1))]) (rest := [.int v]) (v := some (.int v)) (L' := LM κ τ2 (LC κ σ2)) (T := TM) (fs := fl_M κ τ) G 0 0 27 (by decide) lb0 rfl cb_M_count_law wd663 wd664 wd662 (hM κ) rfl rfl rfl (Nat.le_of_ble_eq_true rfl) dl_374 ?_
  refine w_icmp_eq (pc := 377) (tgt := 531) G dl_377 (by decide) (fun _ => ?_) (fun c9 => absurd rfl c9)
  exact k σ2 τ2 hI2
set_option maxHeartbeats 4000000 in
set_option maxRecDepth 100000 in
theorem lw_c10 {g : Gm} {κ : ctx} (G : OK g κ "ShortVectorsLaw" code 4 ret room_1) {b L i : Nat} {xs : Nat → Int32} (hX : ScrX g b L xs) (hi : i + 6 ≤ L) (hL : L ≤ 3072) {Inv : CS → MS → Prop} (hS : St Inv 2 Value.int (some .int) yV_vector cV_vector 3 rm_V_vector yM_vector cM_vector 3 rm_M_vector) {σ : CS} {τ : MS} (hI : Inv σ τ) (k : ∀ (σ' : CS) (τ' : MS), Inv σ' τ' → J g κ 4 531 [(0, .ref b), (1, .ref (κ.1 15)), (2, .ref (κ.1 0)), (3, .int (nI i))] [] (LM κ τ' (LC κ σ'))) : J g κ 4 382 [(0, .ref b), (1, .ref (κ.1 15)), (2, .ref (κ.1 0)), (3, .int (nI i))] [] (LM κ τ (LC κ σ)) := by
  obtain ⟨v, σ2, τ2, hI2, hV, hM⟩ := hS σ τ hI [xs (i + 1), xs (i + 2)] rfl
  have e1 : xs (nI i + 1).toNatClampNeg = xs (i + 1) := by rw [show nI i + 1 = nI (i + 1) from nI_add i 1, nI_clamp (by omega)]
  have i1 : vp_in (nI i + 1) L := by rw [show nI i + 1 = nI (i + 1) from nI_add i 1]; exact vp_in_nI (by omega) (by omega)
  have e2 : xs (nI i + 2).toNatClampNeg = xs (i + 2) := by rw [show nI i + 2 = nI (i + 2) from nI_add i 2, nI_clamp (by omega)]
  have i2 : vp_in (nI i + 2) L := by rw [show nI i + 2 = nI (i + 2) from nI_add i 2]; exact vp_in_nI (by omega) (by omega)
  refine w_aload_n (pc := 382) (q := 1) G dl_382 rfl rfl ?_
  refine w_aload_n (pc := 383) (q := 0) G dl_383 rfl rfl ?_
  refine w_iload_n (pc := 384) (q := 3) G dl_384 rfl rfl ?_
  refine w_iconst (pc := 385) (v := (1 : Int32)) G dl_385 (by decide) ?_
  refine w_iadd (pc := 386) G dl_386 ?_
  refine w_sld (pc := 387) G hX i1 dl_387 ?_
  rw [e1]
  refine w_aload_n (pc := 388) (q := 0) G dl_388 rfl rfl ?_
  refine w_iload_n (pc := 389) (q := 3) G dl_389 rfl rfl ?_
  refine w_iconst (pc := 390) (v := (2 : Int32)) G dl_390 (by decide) ?_
  refine w_iadd (pc := 391) G dl_391 ?_
  refine w_sld (pc := 392) G hX i2 dl_392 ?_
  rw [e2]
  refine w_callV (pc := 393) (av := [.int (xs (i + 1)), .int (xs (i + 2))]) (rest := []) (v := some (.int v)) (L' := LM κ τ (LC κ σ2)) (T := TV) (fs := fl_V κ σ) G 15 1 12 (by decide) lb15 rfl cb_V_vector_law wd435 wd436 wd434 (hV κ) rfl rfl rfl (Nat.le_of_ble_eq_true rfl) dl_393 ?_
  refine w_aload_n (pc := 396) (q := 2) G dl_396 rfl rfl ?_
  refine w_aload_n (pc := 397) (q := 0) G dl_397 rfl rfl ?_
  refine w_iload_n (pc := 398) (q := 3) G dl_398 rfl rfl ?_
  refine w_iconst (pc := 399) (v := (1 : Int32)) G dl_399 (by decide) ?_
  refine w_iadd (pc := 400) G dl_400 ?_
  refine w_sld (pc := 401) G hX i1 dl_401 ?_
  rw [e1]
  refine w_aload_n (pc := 402) (q := 0) G dl_402 rfl rfl ?_
  refine w_iload_n (pc := 403) (q := 3) G dl_403 rfl rfl ?_
  refine w_iconst (pc := 404) (v := (2 : Int32)) G dl_404 (by decide) ?_
  refine w_iadd (pc := 405) G dl_405 ?_
  refine w_sld (pc := 406) G hX i2 dl_406 ?_
  rw [e2]
  refine w_callV (pc := 407) (av := [.int (xs (i + 1)), .int (xs (i + 2))]) (rest := [.int v]) (v := some (.int v)) (L' := LM κ τ2 (LC κ σ2)) (T := TM) (fs := fl_M κ τ) G 0 0 27 (by decide) lb0 rfl cb_M_vector_law wd728 wd729 wd727 (hM κ) rfl rfl rfl (Nat.le_of_ble_eq_true rfl) dl_407 ?_
  refine w_icmp_eq (pc := 410) (tgt := 531) G dl_410 (by decide) (fun _ => ?_) (fun c9 => absurd rfl c9)
  exact k σ2 τ2 hI2
set_option maxHeartbeats 4000000 in
set_option maxRecDepth 100000 in
theorem lw_c11 {g : Gm} {κ : ctx} (G : OK g κ "ShortVectorsLaw" code 4 ret room_1) {b L i : Nat} {xs : Nat → Int32} (hX : ScrX g b L xs) (hi : i + 6 ≤ L) (hL : L ≤ 3072) {Inv : CS → MS → Prop} (hS : St Inv 4 Value.int (some .int) yV_distance cV_distance 5 rm_V_distance yM_distance cM_distance 5 rm_M_distance) {σ : CS} {τ : MS} (hI : Inv σ τ) (k : ∀ (σ' : CS) (τ' : MS), Inv σ' τ' → J g κ 4 531 [(0, .ref b), (1, .ref (κ.1 15)), (2, .ref (κ.1 0)), (3, .int (nI i))] [] (LM κ τ' (LC κ σ'))) : J g κ 4 415 [(0, .ref b), (1, .ref (κ.1 15)), (2, .ref (κ.1 0)), (3, .int (nI i))] [] (LM κ τ (LC κ σ)) := by
  obtain ⟨v, σ2, τ2, hI2, hV, hM⟩ := hS σ τ hI [xs (i + 1), xs (i + 2), xs (i + 3), xs (i + 4)] rfl
  have e1 : xs (nI i + 1).toNatClampNeg = xs (i + 1) := by rw [show nI i + 1 = nI (i + 1) from nI_add i 1, nI_clamp (by omega)]
  have i1 : vp_in (nI i + 1) L := by rw [show nI i + 1 = nI (i + 1) from nI_add i 1]; exact vp_in_nI (by omega) (by omega)
  have e2 : xs (nI i + 2).toNatClampNeg = xs (i + 2) := by rw [show nI i + 2 = nI (i + 2) from nI_add i 2, nI_clamp (by omega)]
  have i2 : vp_in (nI i + 2) L := by rw [show nI i + 2 = nI (i + 2) from nI_add i 2]; exact vp_in_nI (by omega) (by omega)
  have e3 : xs (nI i + 3).toNatClampNeg = xs (i + 3) := by rw [show nI i + 3 = nI (i + 3) from nI_add i 3, nI_clamp (by omega)]
  have i3 : vp_in (nI i + 3) L := by rw [show nI i + 3 = nI (i + 3) from nI_add i 3]; exact vp_in_nI (by omega) (by omega)
  have e4 : xs (nI i + 4).toNatClampNeg = xs (i + 4) := by rw [show nI i + 4 = nI (i + 4) from nI_add i 4, nI_clamp (by omega)]
  have i4 : vp_in (nI i + 4) L := by rw [show nI i + 4 = nI (i + 4) from nI_add i 4]; exact vp_in_nI (by omega) (by omega)
  refine w_aload_n (pc := 415) (q := 1) G dl_415 rfl rfl ?_
  refine w_aload_n (pc := 416) (q := 0) G dl_416 rfl rfl ?_
  refine w_iload_n (pc := 417) (q := 3) G dl_417 rfl rfl ?_
  refine w_iconst (pc := 418) (v := (1 : Int32)) G dl_418 (by decide) ?_
  refine w_iadd (pc := 419) G dl_419 ?_
  refine w_sld (pc := 420) G hX i1 dl_420 ?_
  rw [e1]
  refine w_aload_n (pc := 421) (q := 0) G dl_421 rfl rfl ?_
  refine w_iload_n (pc := 422) (q := 3) G dl_422 rfl rfl ?_
  refine w_iconst (pc := 423) (v := (2 : Int32)) G dl_423 (by decide) ?_
  refine w_iadd (pc := 424) G dl_424 ?_
  refine w_sld (pc := 425) G hX i2 dl_425 ?_
  rw [e2]
  refine w_aload_n (pc := 426) (q := 0) G dl_426 rfl rfl ?_
  refine w_iload_n (pc := 427) (q := 3) G dl_427 rfl rfl ?_
  refine w_iconst (pc := 428) (v := (3 : Int32)) G dl_428 (by decide) ?_
  refine w_iadd (pc := 429) G dl_429 ?_
  refine w_sld (pc := 430) G hX i3 dl_430 ?_
  rw [e3]
  refine w_aload_n (pc := 431) (q := 0) G dl_431 rfl rfl ?_
  refine w_iload_n (pc := 432) (q := 3) G dl_432 rfl rfl ?_
  refine w_iconst (pc := 433) (v := (4 : Int32)) G dl_433 (by decide) ?_
  refine w_iadd (pc := 434) G dl_434 ?_
  refine w_sld (pc := 435) G hX i4 dl_435 ?_
  rw [e4]
  refine w_callV (pc := 436) (av := [.int (xs (i + 1)), .int (xs (i + 2)), .int (xs (i + 3)), .int (xs (i + 4))]) (rest := []) (v := some (.int v)) (L' := LM κ τ (LC κ σ2)) (T := TV) (fs := fl_V κ σ) G 15 1 12 (by decide) lb15 rfl cb_V_distance_law wd456 wd457 wd455 (hV κ) rfl rfl rfl (Nat.le_of_ble_eq_true rfl) dl_436 ?_
  refine w_aload_n (pc := 439) (q := 2) G dl_439 rfl rfl ?_
  refine w_aload_n (pc := 440) (q := 0) G dl_440 rfl rfl ?_
  refine w_iload_n (pc := 441) (q := 3) G dl_441 rfl rfl ?_
  refine w_iconst (pc := 442) (v := (1 : Int32)) G dl_442 (by decide) ?_
  refine w_iadd (pc := 443) G dl_443 ?_
  refine w_sld (pc := 444) G hX i1 dl_444 ?_
  rw [e1]
  refine w_aload_n (pc := 445) (q := 0) G dl_445 rfl rfl ?_
  refine w_iload_n (pc := 446) (q := 3) G dl_446 rfl rfl ?_
  refine w_iconst (pc := 447) (v := (2 : Int32)) G dl_447 (by decide) ?_
  refine w_iadd (pc := 448) G dl_448 ?_
  refine w_sld (pc := 449) G hX i2 dl_449 ?_
  rw [e2]
  refine w_aload_n (pc := 450) (q := 0) G dl_450 rfl rfl ?_
  refine w_iload_n (pc := 451) (q := 3) G dl_451 rfl rfl ?_
  refine w_iconst (pc := 452) (v := (3 : Int32)) G dl_452 (by decide) ?_
  refine w_iadd (pc := 453) G dl_453 ?_
  refine w_sld (pc := 454) G hX i3 dl_454 ?_
  rw [e3]
  refine w_aload_n (pc := 455) (q := 0) G dl_455 rfl rfl ?_
  refine w_iload_n (pc := 456) (q := 3) G dl_456 rfl rfl ?_
  refine w_iconst (pc := 457) (v := (4 : Int32)) G dl_457 (by decide) ?_
  refine w_iadd (pc := 458) G dl_458 ?_
  refine w_sld (pc := 459) G hX i4 dl_459 ?_
  rw [e4]
  refine w_callV (pc := 460) (av := [.int (xs (i + 1)), .int (xs (i + 2)), .int (xs (i + 3)), .int (xs (i + 4))]) (rest := [.int v]) (v := some (.int v)) (L' := LM κ τ2 (LC κ σ2)) (T := TM) (fs := fl_M κ τ) G 0 0 27 (by decide) lb0 rfl cb_M_distance_law wd748 wd749 wd747 (hM κ) rfl rfl rfl (Nat.le_of_ble_eq_true rfl) dl_460 ?_
  refine w_icmp_eq (pc := 463) (tgt := 531) G dl_463 (by decide) (fun _ => ?_) (fun c9 => absurd rfl c9)
  exact k σ2 τ2 hI2
set_option maxHeartbeats 4000000 in
set_option maxRecDepth 100000 in
theorem lw_c12 {g : Gm} {κ : ctx} (G : OK g κ "ShortVectorsLaw" code 4 ret room_1) {b L i : Nat} {xs : Nat → Int32} (hX : ScrX g b L xs) (hi : i + 6 ≤ L) (hL : L ≤ 3072) {Inv : CS → MS → Prop} (hS : St Inv 5 Value.int (some .int) yV_nearest cV_nearest 6 rm_V_nearest yM_nearest cM_nearest 6 rm_M_nearest) {σ : CS} {τ : MS} (hI : Inv σ τ) (k : ∀ (σ' : CS) (τ' : MS), Inv σ' τ' → J g κ 4 531 [(0, .ref b), (1, .ref (κ.1 15)), (2, .ref (κ.1 0)), (3, .int (nI i))] [] (LM κ τ' (LC κ σ'))) : J g κ 4 468 [(0, .ref b), (1, .ref (κ.1 15)), (2, .ref (κ.1 0)), (3, .int (nI i))] [] (LM κ τ (LC κ σ)) := by
  obtain ⟨v, σ2, τ2, hI2, hV, hM⟩ := hS σ τ hI [xs (i + 1), xs (i + 2), xs (i + 3), xs (i + 4), xs (i + 5)] rfl
  have e1 : xs (nI i + 1).toNatClampNeg = xs (i + 1) := by rw [show nI i + 1 = nI (i + 1) from nI_add i 1, nI_clamp (by omega)]
  have i1 : vp_in (nI i + 1) L := by rw [show nI i + 1 = nI (i + 1) from nI_add i 1]; exact vp_in_nI (by omega) (by omega)
  have e2 : xs (nI i + 2).toNatClampNeg = xs (i + 2) := by rw [show nI i + 2 = nI (i + 2) from nI_add i 2, nI_clamp (by omega)]
  have i2 : vp_in (nI i + 2) L := by rw [show nI i + 2 = nI (i + 2) from nI_add i 2]; exact vp_in_nI (by omega) (by omega)
  have e3 : xs (nI i + 3).toNatClampNeg = xs (i + 3) := by rw [show nI i + 3 = nI (i + 3) from nI_add i 3, nI_clamp (by omega)]
  have i3 : vp_in (nI i + 3) L := by rw [show nI i + 3 = nI (i + 3) from nI_add i 3]; exact vp_in_nI (by omega) (by omega)
  have e4 : xs (nI i + 4).toNatClampNeg = xs (i + 4) := by rw [show nI i + 4 = nI (i + 4) from nI_add i 4, nI_clamp (by omega)]
  have i4 : vp_in (nI i + 4) L := by rw [show nI i + 4 = nI (i + 4) from nI_add i 4]; exact vp_in_nI (by omega) (by omega)
  have e5 : xs (nI i + 5).toNatClampNeg = xs (i + 5) := by rw [show nI i + 5 = nI (i + 5) from nI_add i 5, nI_clamp (by omega)]
  have i5 : vp_in (nI i + 5) L := by rw [show nI i + 5 = nI (i + 5) from nI_add i 5]; exact vp_in_nI (by omega) (by omega)
  refine w_aload_n (pc := 468) (q := 1) G dl_468 rfl rfl ?_
  refine w_aload_n (pc := 469) (q := 0) G dl_469 rfl rfl ?_
  refine w_iload_n (pc := 470) (q := 3) G dl_470 rfl rfl ?_
  refine w_iconst (pc := 471) (v := (1 : Int32)) G dl_471 (by decide) ?_
  refine w_iadd (pc := 472) G dl_472 ?_
  refine w_sld (pc := 473) G hX i1 dl_473 ?_
  rw [e1]
  refine w_aload_n (pc := 474) (q := 0) G dl_474 rfl rfl ?_
  refine w_iload_n (pc := 475) (q := 3) G dl_475 rfl rfl ?_
  refine w_iconst (pc := 476) (v := (2 : Int32)) G dl_476 (by decide) ?_
  refine w_iadd (pc := 477) G dl_477 ?_
  refine w_sld (pc := 478) G hX i2 dl_478 ?_
  rw [e2]
  refine w_aload_n (pc := 479) (q := 0) G dl_479 rfl rfl ?_
  refine w_iload_n (pc := 480) (q := 3) G dl_480 rfl rfl ?_
  refine w_iconst (pc := 481) (v := (3 : Int32)) G dl_481 (by decide) ?_
  refine w_iadd (pc := 482) G dl_482 ?_
  refine w_sld (pc := 483) G hX i3 dl_483 ?_
  rw [e3]
  refine w_aload_n (pc := 484) (q := 0) G dl_484 rfl rfl ?_
  refine w_iload_n (pc := 485) (q := 3) G dl_485 rfl rfl ?_
  refine w_iconst (pc := 486) (v := (4 : Int32)) G dl_486 (by decide) ?_
  refine w_iadd (pc := 487) G dl_487 ?_
  refine w_sld (pc := 488) G hX i4 dl_488 ?_
  rw [e4]
  refine w_aload_n (pc := 489) (q := 0) G dl_489 rfl rfl ?_
  refine w_iload_n (pc := 490) (q := 3) G dl_490 rfl rfl ?_
  refine w_iconst (pc := 491) (v := (5 : Int32)) G dl_491 (by decide) ?_
  refine w_iadd (pc := 492) G dl_492 ?_
  refine w_sld (pc := 493) G hX i5 dl_493 ?_
  rw [e5]
  refine w_callV (pc := 494) (av := [.int (xs (i + 1)), .int (xs (i + 2)), .int (xs (i + 3)), .int (xs (i + 4)), .int (xs (i + 5))]) (rest := []) (v := some (.int v)) (L' := LM κ τ (LC κ σ2)) (T := TV) (fs := fl_V κ σ) G 15 1 12 (by decide) lb15 rfl cb_V_nearest_law wd477 wd478 wd476 (hV κ) rfl rfl rfl (Nat.le_of_ble_eq_true rfl) dl_494 ?_
  refine w_aload_n (pc := 497) (q := 2) G dl_497 rfl rfl ?_
  refine w_aload_n (pc := 498) (q := 0) G dl_498 rfl rfl ?_
  refine w_iload_n (pc := 499) (q := 3) G dl_499 rfl rfl ?_
  refine w_iconst (pc := 500) (v := (1 : Int32)) G dl_500 (by decide) ?_
  refine w_iadd (pc := 501) G dl_501 ?_
  refine w_sld (pc := 502) G hX i1 dl_502 ?_
  rw [e1]
  refine w_aload_n (pc := 503) (q := 0) G dl_503 rfl rfl ?_
  refine w_iload_n (pc := 504) (q := 3) G dl_504 rfl rfl ?_
  refine w_iconst (pc := 505) (v := (2 : Int32)) G dl_505 (by decide) ?_
  refine w_iadd (pc := 506) G dl_506 ?_
  refine w_sld (pc := 507) G hX i2 dl_507 ?_
  rw [e2]
  refine w_aload_n (pc := 508) (q := 0) G dl_508 rfl rfl ?_
  refine w_iload_n (pc := 509) (q := 3) G dl_509 rfl rfl ?_
  refine w_iconst (pc := 510) (v := (3 : Int32)) G dl_510 (by decide) ?_
  refine w_iadd (pc := 511) G dl_511 ?_
  refine w_sld (pc := 512) G hX i3 dl_512 ?_
  rw [e3]
  refine w_aload_n (pc := 513) (q := 0) G dl_513 rfl rfl ?_
  refine w_iload_n (pc := 514) (q := 3) G dl_514 rfl rfl ?_
  refine w_iconst (pc := 515) (v := (4 : Int32)) G dl_515 (by decide) ?_
  refine w_iadd (pc := 516) G dl_516 ?_
  refine w_sld (pc := 517) G hX i4 dl_517 ?_
  rw [e4]
  refine w_aload_n (pc := 518) (q := 0) G dl_518 rfl rfl ?_
  refine w_iload_n (pc := 519) (q := 3) G dl_519 rfl rfl ?_
  refine w_iconst (pc := 520) (v := (5 : Int32)) G dl_520 (by decide) ?_
  refine w_iadd (pc := 521) G dl_521 ?_
  refine w_sld (pc := 522) G hX i5 dl_522 ?_
  rw [e5]
  refine w_callV (pc := 523) (av := [.int (xs (i + 1)), .int (xs (i + 2)), .int (xs (i + 3)), .int (xs (i + 4)), .int (xs (i + 5))]) (rest := [.int v]) (v := some (.int v)) (L' := LM κ τ2 (LC κ σ2)) (T := TM) (fs := fl_M κ τ) G 0 0 27 (by decide) lb0 rfl cb_M_nearest_law wd756 wd757 wd755 (hM κ) rfl rfl rfl (Nat.le_of_ble_eq_true rfl) dl_523 ?_
  refine w_icmp_eq (pc := 526) (tgt := 531) G dl_526 (by decide) (fun _ => ?_) (fun c9 => absurd rfl c9)
  exact k σ2 τ2 hI2
set_option maxHeartbeats 4000000 in
set_option maxRecDepth 100000 in
theorem lw_loop {g : Gm} {κ : ctx} (G : OK g κ "ShortVectorsLaw" code 4 ret room_1) {b L : Nat} {xs : Nat → Int32} (hX : ScrX g b L xs) (hE : EndX g b) (hL : L ≤ 3072) {Inv : CS → MS → Prop} (hS : StA Inv) : ∀ (n i : Nat), i ≤ L → L + 1 ≤ i + n → ∀ (σ : CS) (τ : MS), Inv σ τ → J g κ 4 18 [(0, .ref b), (1, .ref (κ.1 15)), (2, .ref (κ.1 0)), (3, .int (nI i))] [] (LM κ τ (LC κ σ)) := by
  intro n
  induction n with
  | zero => intro i h1 h2; omega
  | succ n ih =>
    intro i h1 h2 σ τ hI
    refine w_iload_n (pc := 18) (q := 3) G dl_18 rfl rfl ?_
    refine w_aload_n (pc := 19) (q := 0) G dl_19 rfl rfl ?_
    refine w_slen (pc := 20) G hX dl_20 ?_
    refine w_bipush (pc := 21) (v := (6 : Int32)) G dl_21 (by decide) ?_
    refine w_isub (pc := 23) G dl_23 ?_
    refine w_icmp_gt (pc := 24) (tgt := 537) G dl_24 (by decide) (fun _ => ?_) (fun c24 => ?_)
    · refine w_iconst (pc := 537) (v := (1 : Int32)) G dl_537 (by decide) ?_
      exact w_end (pc := 538) G hE dl_538
    · have hi : i + 6 ≤ L := lw_i6 hL h1 c24
      refine w_aload_n (pc := 27) (q := 0) G dl_27 rfl rfl ?_
      refine w_iload_n (pc := 28) (q := 3) G dl_28 rfl rfl ?_
      refine w_sld (pc := 29) G hX (vp_in_nI (by omega) (by omega)) dl_29 ?_
      refine w_bipush (pc := 30) (v := (15 : Int32)) G dl_30 (by decide) ?_
      refine w_iand (pc := 32) G dl_32 ?_
      generalize (xs (nI i).toNatClampNeg &&& 15 : Int32) = x
      have k : ∀ (σ' : CS) (τ' : MS), Inv σ' τ' → J g κ 4 531 [(0, .ref b), (1, .ref (κ.1 15)), (2, .ref (κ.1 0)), (3, .int (nI i))] [] (LM κ τ' (LC κ σ')) := by
        intro σ' τ' hI'
        refine w_iinc (pc := 531) (q0 := 3) (x := nI i) (v := nI (i + 6)) (lv' := [(3, .int (nI (i + 6))), (0, .ref b), (1, .ref (κ.1 15)), (2, .ref (κ.1 0))]) G dl_531 rfl (nI_add i 6) (by decide) rfl ?_
        refine w_goto (pc := 534) (tgt := 18) G dl_534 (by decide) ?_
        exact w_sub [1, 2, 3, 0] rfl (ih (i + 6) hi (by omega) σ' τ' hI')
      obtain ⟨s0, s1, s2, s3, s4, s5, s6, s7, s8, s9, s10, s11, s12⟩ := hS
      by_cases c0 : x = 0
      · refine w_tsIn (pc := 33) (tgt := 100) G dl_33 (by rw [c0]; decide) (by rw [c0]; decide) (by rw [c0]; rfl) (by decide) ?_
        exact lw_c0 G hX hi hL s0 hI k
      by_cases c1 : x = 1
      · refine w_tsIn (pc := 33) (tgt := 153) G dl_33 (by rw [c1]; decide) (by rw [c1]; decide) (by rw [c1]; rfl) (by decide) ?_
        exact lw_c1 G hX hi hL s1 hI k
      by_cases c2 : x = 2
      · refine w_tsIn (pc := 33) (tgt := 166) G dl_33 (by rw [c2]; decide) (by rw [c2]; decide) (by rw [c2]; rfl) (by decide) ?_
        exact lw_c2 G hX hi hL s2 hI k
      by_cases c3 : x = 3
      · refine w_tsIn (pc := 33) (tgt := 179) G dl_33 (by rw [c3]; decide) (by rw [c3]; decide) (by rw [c3]; rfl) (by decide) ?_
        exact lw_c3 G hX hi hL s3 hI k
      by_cases c4 : x = 4
      · refine w_tsIn (pc := 33) (tgt := 192) G dl_33 (by rw [c4]; decide) (by rw [c4]; decide) (by rw [c4]; rfl) (by decide) ?_
        exact lw_c4 G hX hi hL s4 hI k
      by_cases c5 : x = 5
      · refine w_tsIn (pc := 33) (tgt := 206) G dl_33 (by rw [c5]; decide) (by rw [c5]; decide) (by rw [c5]; rfl) (by decide) ?_
        exact lw_c5 G hX hi hL s5 hI k
      by_cases c6 : x = 6
      · refine w_tsIn (pc := 33) (tgt := 229) G dl_33 (by rw [c6]; decide) (by rw [c6]; decide) (by rw [c6]; rfl) (by decide) ?_
        exact lw_c6 G hX hi hL s6 hI k
      by_cases c7 : x = 7
      · refine w_tsIn (pc := 33) (tgt := 282) G dl_33 (by rw [c7]; decide) (by rw [c7]; decide) (by rw [c7]; rfl) (by decide) ?_
        exact lw_c7 G hX hi hL s7 hI k
      by_cases c8 : x = 8
      · refine w_tsIn (pc := 33) (tgt := 336) G dl_33 (by rw [c8]; decide) (by rw [c8]; decide) (by rw [c8]; rfl) (by decide) ?_
        exact lw_c8 G hX hi hL s8 hI k
      by_cases c9 : x = 9
      · refine w_tsIn (pc := 33) (tgt := 359) G dl_33 (by rw [c9]; decide) (by rw [c9]; decide) (by rw [c9]; rfl) (by decide) ?_
        exact lw_c9 G hX hi hL s9 hI k
      by_cases c10 : x = 10
      · refine w_tsIn (pc := 33) (tgt := 382) G dl_33 (by rw [c10]; decide) (by rw [c10]; decide) (by rw [c10]; rfl) (by decide) ?_
        exact lw_c10 G hX hi hL s10 hI k
      by_cases c11 : x = 11
      · refine w_tsIn (pc := 33) (tgt := 415) G dl_33 (by rw [c11]; decide) (by rw [c11]; decide) (by rw [c11]; rfl) (by decide) ?_
        exact lw_c11 G hX hi hL s11 hI k
      by_cases c12 : x = 12
      · refine w_tsIn (pc := 33) (tgt := 468) G dl_33 (by rw [c12]; decide) (by rw [c12]; decide) (by rw [c12]; rfl) (by decide) ?_
        exact lw_c12 G hX hi hL s12 hI k
      refine w_tsOut (pc := 33) (tgt := 531) G dl_33 (tsout _ 12 (by decide) (fun k hk => match k, hk with | 0, _ => c0 | 1, _ => c1 | 2, _ => c2 | 3, _ => c3 | 4, _ => c4 | 5, _ => c5 | 6, _ => c6 | 7, _ => c7 | 8, _ => c8 | 9, _ => c9 | 10, _ => c10 | 11, _ => c11 | 12, _ => c12 | k + 13, q => absurd q (by omega))) (by decide) ?_
      exact k σ τ hI
