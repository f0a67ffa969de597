def R_law : String := "RestGainsLaw"
def lw_P (b : Addr) (xs : List Int32) (args : Array Value) (s : State) : Prop := args = #[.ref b] ∧ s.IntsAt b xs ∧ xs.length ≤ 2560 ∧ (Jvm.Cond.and given_1 narrow_1).before args s = true
def lw_Q (_ : Array Value) (s : State) (o : Outcome) (t : State) : Prop := o = .returned (some (.int 1)) ∧ Framed s o t [] 600000 7302250
def lw_Z (below : List Frame) (a : Array Value) (s : State) : State → Prop := fun t => ∃ o, t.status = .running ∧ Ended t below o ∧ lw_Q a s o t
/-- the law's own end, with 1 on the stack, nothing written that was there before, its room as the claim has it -/
theorem lw_ret {p : Program} {l : Launch} {e : Env} {s : State} {m : MethodId} {below : List Frame} {meth : Method} {c : Code} {b : Nat} (hx : p.tables.exec = Jvm.exec) (hb : c.code = code) (hr : meth.sig.returnType = ret) (hlocks : meth.locks = false) {pc : Nat} {H : Heap} {ls : Array Slot} (hdg : decode code pc = .ok (.ireturn, 1)) : W p l e room_1 s m #[Value.ref b] below meth c H [] 600000 7302250 (lw_Z below #[Value.ref b] s) (F0 m pc ls [.int 1]) := by
  intro T hT X
  obtain ⟨fs, hret, hrun, hended, hW, hframe⟩ := X.leave (v := some (.int 1)) (hlocks := hlocks) (fun h => by rw [hr] at h; cases h)
  have hmeth' : T.vm.method? m = some meth := X.method'
  refine ⟨T.setFrames fs, ?_, .returned (some (.int 1)), hrun, hended, rfl, ⟨_, rfl⟩, hW, hframe⟩
  jvm_step X.here [X.here.top, hx, hb, hdg, hmeth', hr, ret, narrow_b1]
  (try refine ⟨rfl, ?_⟩); (try refine ⟨rfl, ?_⟩)
  first | (intro acts; rw [hret _ acts rfl rfl rfl]) | rw [hret _ _ rfl rfl rfl]
  exact Steps.refl _
/-- what holds at the law's entry: the machine, the code, the tables' words (any of lw_tbl by 'hts w (by decide +kernel)'), the script of L ints xs at the cell b, what the Statement gives of the start (any of its parts by flat_of_before) -/
def lw_At (p : Program) (s : State) (m : MethodId) (meth : Method) (c : Code) (b L : Nat) (xs : Nat → Int32) : Prop :=
  p.tables.exec = Jvm.exec ∧ c.code = code ∧ meth.sig.returnType = ret ∧ c.maxLocals = 4 ∧ s.vm.findClass R_law = some m.cls ∧ (∀ w ∈ lw_tbl, w.before #[Value.ref b] s = true) ∧ va_X b L xs s s.heap ∧ b < s.heap.size ∧ meth.locks = false ∧ (Jvm.Cond.and given_1 narrow_1).before #[Value.ref b] s = true
theorem dL_law_0 : decode cL_law 0 = .ok (.new 7, 3) := by decide +kernel
theorem dL_law_3 : decode cL_law 3 = .ok (.dup, 1) := by decide +kernel
theorem dL_law_4 : decode cL_law 4 = .ok (.invokespecial 9, 3) := by decide +kernel
theorem dL_law_7 : decode cL_law 7 = .ok (.astore_n 1, 1) := by decide +kernel
theorem dL_law_8 : decode cL_law 8 = .ok (.new 10, 3) := by decide +kernel
theorem dL_law_11 : decode cL_law 11 = .ok (.dup, 1) := by decide +kernel
theorem dL_law_12 : decode cL_law 12 = .ok (.invokespecial 12, 3) := by decide +kernel
theorem dL_law_15 : decode cL_law 15 = .ok (.astore_n 2, 1) := by decide +kernel
theorem dL_law_16 : decode cL_law 16 = .ok (.iconst 0, 1) := by decide +kernel
theorem dL_law_17 : decode cL_law 17 = .ok (.istore_n 3, 1) := by decide +kernel
theorem dL_law_18 : decode cL_law 18 = .ok (.iload_n 3, 1) := by decide +kernel
theorem dL_law_19 : decode cL_law 19 = .ok (.aload_n 0, 1) := by decide +kernel
theorem dL_law_20 : decode cL_law 20 = .ok (.arraylength, 1) := by decide +kernel
theorem dL_law_21 : decode cL_law 21 = .ok (.iconst 5, 1) := by decide +kernel
theorem dL_law_22 : decode cL_law 22 = .ok (.isub, 1) := by decide +kernel
theorem dL_law_23 : decode cL_law 23 = .ok (.if_icmp .gt 659, 3) := by decide +kernel
theorem dL_law_26 : decode cL_law 26 = .ok (.aload_n 0, 1) := by decide +kernel
theorem dL_law_27 : decode cL_law 27 = .ok (.iload_n 3, 1) := by decide +kernel
theorem dL_law_28 : decode cL_law 28 = .ok (.iaload, 1) := by decide +kernel
theorem dL_law_29 : decode cL_law 29 = .ok (.bipush 31, 2) := by decide +kernel
theorem dL_law_31 : decode cL_law 31 = .ok (.iand, 1) := by decide +kernel
theorem dL_law_32 : decode cL_law 32 = .ok (.tableswitch 644 0 17 #[88, 112, 126, 140, 154, 188, 212, 246, 270, 294, 354, 378, 438, 508, 542, 582, 606, 630], 88) := by decide +kernel
theorem dL_law_120 : decode cL_law 120 = .ok (.aload_n 1, 1) := by decide +kernel
theorem dL_law_121 : decode cL_law 121 = .ok (.aload_n 0, 1) := by decide +kernel
theorem dL_law_122 : decode cL_law 122 = .ok (.iload_n 3, 1) := by decide +kernel
theorem dL_law_123 : decode cL_law 123 = .ok (.iconst 1, 1) := by decide +kernel
theorem dL_law_124 : decode cL_law 124 = .ok (.iadd, 1) := by decide +kernel
theorem dL_law_125 : decode cL_law 125 = .ok (.iaload, 1) := by decide +kernel
theorem dL_law_126 : decode cL_law 126 = .ok (.invokevirtual 13, 3) := by decide +kernel
theorem dL_law_129 : decode cL_law 129 = .ok (.aload_n 2, 1) := by decide +kernel
theorem dL_law_130 : decode cL_law 130 = .ok (.aload_n 0, 1) := by decide +kernel
theorem dL_law_131 : decode cL_law 131 = .ok (.iload_n 3, 1) := by decide +kernel
theorem dL_law_132 : decode cL_law 132 = .ok (.iconst 1, 1) := by decide +kernel
theorem dL_law_133 : decode cL_law 133 = .ok (.iadd, 1) := by decide +kernel
theorem dL_law_134 : decode cL_law 134 = .ok (.iaload, 1) := by decide +kernel
theorem dL_law_135 : decode cL_law 135 = .ok (.invokevirtual 17, 3) := by decide +kernel
theorem dL_law_138 : decode cL_law 138 = .ok (.lcmp, 1) := by decide +kernel
theorem dL_law_139 : decode cL_law 139 = .ok (.ifCond .eq 537, 3) := by decide +kernel
theorem dL_law_142 : decode cL_law 142 = .ok (.iconst 0, 1) := by decide +kernel
theorem dL_law_143 : decode cL_law 143 = .ok (.ireturn, 1) := by decide +kernel
theorem dL_law_144 : decode cL_law 144 = .ok (.aload_n 1, 1) := by decide +kernel
theorem dL_law_145 : decode cL_law 145 = .ok (.invokevirtual 18, 3) := by decide +kernel
theorem dL_law_148 : decode cL_law 148 = .ok (.aload_n 2, 1) := by decide +kernel
theorem dL_law_149 : decode cL_law 149 = .ok (.invokevirtual 22, 3) := by decide +kernel
theorem dL_law_152 : decode cL_law 152 = .ok (.lcmp, 1) := by decide +kernel
theorem dL_law_153 : decode cL_law 153 = .ok (.ifCond .eq 523, 3) := by decide +kernel
theorem dL_law_156 : decode cL_law 156 = .ok (.iconst 0, 1) := by decide +kernel
theorem dL_law_157 : decode cL_law 157 = .ok (.ireturn, 1) := by decide +kernel
theorem dL_law_158 : decode cL_law 158 = .ok (.aload_n 1, 1) := by decide +kernel
theorem dL_law_159 : decode cL_law 159 = .ok (.invokevirtual 23, 3) := by decide +kernel
theorem dL_law_162 : decode cL_law 162 = .ok (.aload_n 2, 1) := by decide +kernel
theorem dL_law_163 : decode cL_law 163 = .ok (.invokevirtual 26, 3) := by decide +kernel
theorem dL_law_166 : decode cL_law 166 = .ok (.lcmp, 1) := by decide +kernel
theorem dL_law_167 : decode cL_law 167 = .ok (.ifCond .eq 509, 3) := by decide +kernel
theorem dL_law_170 : decode cL_law 170 = .ok (.iconst 0, 1) := by decide +kernel
theorem dL_law_171 : decode cL_law 171 = .ok (.ireturn, 1) := by decide +kernel
theorem dL_law_172 : decode cL_law 172 = .ok (.aload_n 1, 1) := by decide +kernel
theorem dL_law_173 : decode cL_law 173 = .ok (.invokevirtual 27, 3) := by decide +kernel
theorem dL_law_176 : decode cL_law 176 = .ok (.aload_n 2, 1) := by decide +kernel
theorem dL_law_177 : decode cL_law 177 = .ok (.invokevirtual 30, 3) := by decide +kernel
theorem dL_law_180 : decode cL_law 180 = .ok (.lcmp, 1) := by decide +kernel
theorem dL_law_181 : decode cL_law 181 = .ok (.ifCond .eq 495, 3) := by decide +kernel
theorem dL_law_184 : decode cL_law 184 = .ok (.iconst 0, 1) := by decide +kernel
theorem dL_law_185 : decode cL_law 185 = .ok (.ireturn, 1) := by decide +kernel
theorem dL_law_186 : decode cL_law 186 = .ok (.aload_n 1, 1) := by decide +kernel
theorem dL_law_187 : decode cL_law 187 = .ok (.aload_n 0, 1) := by decide +kernel
theorem dL_law_188 : decode cL_law 188 = .ok (.iload_n 3, 1) := by decide +kernel
theorem dL_law_189 : decode cL_law 189 = .ok (.iconst 1, 1) := by decide +kernel
theorem dL_law_190 : decode cL_law 190 = .ok (.iadd, 1) := by decide +kernel
theorem dL_law_191 : decode cL_law 191 = .ok (.iaload, 1) := by decide +kernel
theorem dL_law_192 : decode cL_law 192 = .ok (.aload_n 0, 1) := by decide +kernel
theorem dL_law_193 : decode cL_law 193 = .ok (.iload_n 3, 1) := by decide +kernel
theorem dL_law_194 : decode cL_law 194 = .ok (.iconst 2, 1) := by decide +kernel
theorem dL_law_195 : decode cL_law 195 = .ok (.iadd, 1) := by decide +kernel
theorem dL_law_196 : decode cL_law 196 = .ok (.iaload, 1) := by decide +kernel
theorem dL_law_197 : decode cL_law 197 = .ok (.invokevirtual 31, 3) := by decide +kernel
theorem dL_law_200 : decode cL_law 200 = .ok (.aload_n 2, 1) := by decide +kernel
theorem dL_law_201 : decode cL_law 201 = .ok (.aload_n 0, 1) := by decide +kernel
theorem dL_law_202 : decode cL_law 202 = .ok (.iload_n 3, 1) := by decide +kernel
theorem dL_law_203 : decode cL_law 203 = .ok (.iconst 1, 1) := by decide +kernel
theorem dL_law_204 : decode cL_law 204 = .ok (.iadd, 1) := by decide +kernel
theorem dL_law_205 : decode cL_law 205 = .ok (.iaload, 1) := by decide +kernel
theorem dL_law_206 : decode cL_law 206 = .ok (.aload_n 0, 1) := by decide +kernel
theorem dL_law_207 : decode cL_law 207 = .ok (.iload_n 3, 1) := by decide +kernel
theorem dL_law_208 : decode cL_law 208 = .ok (.iconst 2, 1) := by decide +kernel
theorem dL_law_209 : decode cL_law 209 = .ok (.iadd, 1) := by decide +kernel
theorem dL_law_210 : decode cL_law 210 = .ok (.iaload, 1) := by decide +kernel
theorem dL_law_211 : decode cL_law 211 = .ok (.invokevirtual 35, 3) := by decide +kernel
theorem dL_law_214 : decode cL_law 214 = .ok (.lcmp, 1) := by decide +kernel
theorem dL_law_215 : decode cL_law 215 = .ok (.ifCond .eq 461, 3) := by decide +kernel
theorem dL_law_218 : decode cL_law 218 = .ok (.iconst 0, 1) := by decide +kernel
theorem dL_law_219 : decode cL_law 219 = .ok (.ireturn, 1) := by decide +kernel
theorem dL_law_220 : decode cL_law 220 = .ok (.aload_n 1, 1) := by decide +kernel
theorem dL_law_221 : decode cL_law 221 = .ok (.aload_n 0, 1) := by decide +kernel
theorem dL_law_222 : decode cL_law 222 = .ok (.iload_n 3, 1) := by decide +kernel
theorem dL_law_223 : decode cL_law 223 = .ok (.iconst 1, 1) := by decide +kernel
theorem dL_law_224 : decode cL_law 224 = .ok (.iadd, 1) := by decide +kernel
theorem dL_law_225 : decode cL_law 225 = .ok (.iaload, 1) := by decide +kernel
theorem dL_law_226 : decode cL_law 226 = .ok (.invokevirtual 36, 3) := by decide +kernel
theorem dL_law_229 : decode cL_law 229 = .ok (.aload_n 2, 1) := by decide +kernel
theorem dL_law_230 : decode cL_law 230 = .ok (.aload_n 0, 1) := by decide +kernel
theorem dL_law_231 : decode cL_law 231 = .ok (.iload_n 3, 1) := by decide +kernel
theorem dL_law_232 : decode cL_law 232 = .ok (.iconst 1, 1) := by decide +kernel
theorem dL_law_233 : decode cL_law 233 = .ok (.iadd, 1) := by decide +kernel
theorem dL_law_234 : decode cL_law 234 = .ok (.iaload, 1) := by decide +kernel
theorem dL_law_235 : decode cL_law 235 = .ok (.invokevirtual 39, 3) := by decide +kernel
theorem dL_law_238 : decode cL_law 238 = .ok (.lcmp, 1) := by decide +kernel
theorem dL_law_239 : decode cL_law 239 = .ok (.ifCond .eq 437, 3) := by decide +kernel
theorem dL_law_242 : decode cL_law 242 = .ok (.iconst 0, 1) := by decide +kernel
theorem dL_law_243 : decode cL_law 243 = .ok (.ireturn, 1) := by decide +kernel
theorem dL_law_244 : decode cL_law 244 = .ok (.aload_n 1, 1) := by decide +kernel
theorem dL_law_245 : decode cL_law 245 = .ok (.aload_n 0, 1) := by decide +kernel
theorem dL_law_246 : decode cL_law 246 = .ok (.iload_n 3, 1) := by decide +kernel
theorem dL_law_247 : decode cL_law 247 = .ok (.iconst 1, 1) := by decide +kernel
theorem dL_law_248 : decode cL_law 248 = .ok (.iadd, 1) := by decide +kernel
theorem dL_law_249 : decode cL_law 249 = .ok (.iaload, 1) := by decide +kernel
theorem dL_law_250 : decode cL_law 250 = .ok (.aload_n 0, 1) := by decide +kernel
theorem dL_law_251 : decode cL_law 251 = .ok (.iload_n 3, 1) := by decide +kernel
theorem dL_law_252 : decode cL_law 252 = .ok (.iconst 2, 1) := by decide +kernel
theorem dL_law_253 : decode cL_law 253 = .ok (.iadd, 1) := by decide +kernel
theorem dL_law_254 : decode cL_law 254 = .ok (.iaload, 1) := by decide +kernel
theorem dL_law_255 : decode cL_law 255 = .ok (.invokevirtual 40, 3) := by decide +kernel
theorem dL_law_258 : decode cL_law 258 = .ok (.aload_n 2, 1) := by decide +kernel
theorem dL_law_259 : decode cL_law 259 = .ok (.aload_n 0, 1) := by decide +kernel
theorem dL_law_260 : decode cL_law 260 = .ok (.iload_n 3, 1) := by decide +kernel
theorem dL_law_261 : decode cL_law 261 = .ok (.iconst 1, 1) := by decide +kernel
theorem dL_law_262 : decode cL_law 262 = .ok (.iadd, 1) := by decide +kernel
theorem dL_law_263 : decode cL_law 263 = .ok (.iaload, 1) := by decide +kernel
theorem dL_law_264 : decode cL_law 264 = .ok (.aload_n 0, 1) := by decide +kernel
theorem dL_law_265 : decode cL_law 265 = .ok (.iload_n 3, 1) := by decide +kernel
theorem dL_law_266 : decode cL_law 266 = .ok (.iconst 2, 1) := by decide +kernel
theorem dL_law_267 : decode cL_law 267 = .ok (.iadd, 1) := by decide +kernel
theorem dL_law_268 : decode cL_law 268 = .ok (.iaload, 1) := by decide +kernel
theorem dL_law_269 : decode cL_law 269 = .ok (.invokevirtual 43, 3) := by decide +kernel
theorem dL_law_272 : decode cL_law 272 = .ok (.lcmp, 1) := by decide +kernel
theorem dL_law_273 : decode cL_law 273 = .ok (.ifCond .eq 403, 3) := by decide +kernel
theorem dL_law_276 : decode cL_law 276 = .ok (.iconst 0, 1) := by decide +kernel
theorem dL_law_277 : decode cL_law 277 = .ok (.ireturn, 1) := by decide +kernel
theorem dL_law_278 : decode cL_law 278 = .ok (.aload_n 1, 1) := by decide +kernel
theorem dL_law_279 : decode cL_law 279 = .ok (.aload_n 0, 1) := by decide +kernel
theorem dL_law_280 : decode cL_law 280 = .ok (.iload_n 3, 1) := by decide +kernel
theorem dL_law_281 : decode cL_law 281 = .ok (.iconst 1, 1) := by decide +kernel
theorem dL_law_282 : decode cL_law 282 = .ok (.iadd, 1) := by decide +kernel
theorem dL_law_283 : decode cL_law 283 = .ok (.iaload, 1) := by decide +kernel
theorem dL_law_284 : decode cL_law 284 = .ok (.invokevirtual 44, 3) := by decide +kernel
theorem dL_law_287 : decode cL_law 287 = .ok (.aload_n 2, 1) := by decide +kernel
theorem dL_law_288 : decode cL_law 288 = .ok (.aload_n 0, 1) := by decide +kernel
theorem dL_law_289 : decode cL_law 289 = .ok (.iload_n 3, 1) := by decide +kernel
theorem dL_law_290 : decode cL_law 290 = .ok (.iconst 1, 1) := by decide +kernel
theorem dL_law_291 : decode cL_law 291 = .ok (.iadd, 1) := by decide +kernel
theorem dL_law_292 : decode cL_law 292 = .ok (.iaload, 1) := by decide +kernel
theorem dL_law_293 : decode cL_law 293 = .ok (.invokevirtual 47, 3) := by decide +kernel
theorem dL_law_296 : decode cL_law 296 = .ok (.lcmp, 1) := by decide +kernel
theorem dL_law_297 : decode cL_law 297 = .ok (.ifCond .eq 379, 3) := by decide +kernel
theorem dL_law_300 : decode cL_law 300 = .ok (.iconst 0, 1) := by decide +kernel
theorem dL_law_301 : decode cL_law 301 = .ok (.ireturn, 1) := by decide +kernel
theorem dL_law_302 : decode cL_law 302 = .ok (.aload_n 1, 1) := by decide +kernel
theorem dL_law_303 : decode cL_law 303 = .ok (.aload_n 0, 1) := by decide +kernel
theorem dL_law_304 : decode cL_law 304 = .ok (.iload_n 3, 1) := by decide +kernel
theorem dL_law_305 : decode cL_law 305 = .ok (.iconst 1, 1) := by decide +kernel
theorem dL_law_306 : decode cL_law 306 = .ok (.iadd, 1) := by decide +kernel
theorem dL_law_307 : decode cL_law 307 = .ok (.iaload, 1) := by decide +kernel
theorem dL_law_308 : decode cL_law 308 = .ok (.invokevirtual 48, 3) := by decide +kernel
theorem dL_law_311 : decode cL_law 311 = .ok (.aload_n 2, 1) := by decide +kernel
theorem dL_law_312 : decode cL_law 312 = .ok (.aload_n 0, 1) := by decide +kernel
theorem dL_law_313 : decode cL_law 313 = .ok (.iload_n 3, 1) := by decide +kernel
theorem dL_law_314 : decode cL_law 314 = .ok (.iconst 1, 1) := by decide +kernel
theorem dL_law_315 : decode cL_law 315 = .ok (.iadd, 1) := by decide +kernel
theorem dL_law_316 : decode cL_law 316 = .ok (.iaload, 1) := by decide +kernel
theorem dL_law_317 : decode cL_law 317 = .ok (.invokevirtual 51, 3) := by decide +kernel
theorem dL_law_320 : decode cL_law 320 = .ok (.lcmp, 1) := by decide +kernel
theorem dL_law_321 : decode cL_law 321 = .ok (.ifCond .eq 355, 3) := by decide +kernel
theorem dL_law_324 : decode cL_law 324 = .ok (.iconst 0, 1) := by decide +kernel
theorem dL_law_325 : decode cL_law 325 = .ok (.ireturn, 1) := by decide +kernel
theorem dL_law_326 : decode cL_law 326 = .ok (.aload_n 1, 1) := by decide +kernel
theorem dL_law_327 : decode cL_law 327 = .ok (.aload_n 0, 1) := by decide +kernel
theorem dL_law_328 : decode cL_law 328 = .ok (.iload_n 3, 1) := by decide +kernel
theorem dL_law_329 : decode cL_law 329 = .ok (.iconst 1, 1) := by decide +kernel
theorem dL_law_330 : decode cL_law 330 = .ok (.iadd, 1) := by decide +kernel
theorem dL_law_331 : decode cL_law 331 = .ok (.iaload, 1) := by decide +kernel
theorem dL_law_332 : decode cL_law 332 = .ok (.ifCond .eq 7, 3) := by decide +kernel
theorem dL_law_335 : decode cL_law 335 = .ok (.iconst 1, 1) := by decide +kernel
theorem dL_law_336 : decode cL_law 336 = .ok (.goto 4, 3) := by decide +kernel
theorem dL_law_339 : decode cL_law 339 = .ok (.iconst 0, 1) := by decide +kernel
theorem dL_law_340 : decode cL_law 340 = .ok (.aload_n 0, 1) := by decide +kernel
theorem dL_law_341 : decode cL_law 341 = .ok (.iload_n 3, 1) := by decide +kernel
theorem dL_law_342 : decode cL_law 342 = .ok (.iconst 2, 1) := by decide +kernel
theorem dL_law_343 : decode cL_law 343 = .ok (.iadd, 1) := by decide +kernel
theorem dL_law_344 : decode cL_law 344 = .ok (.iaload, 1) := by decide +kernel
theorem dL_law_345 : decode cL_law 345 = .ok (.aload_n 0, 1) := by decide +kernel
theorem dL_law_346 : decode cL_law 346 = .ok (.iload_n 3, 1) := by decide +kernel
theorem dL_law_347 : decode cL_law 347 = .ok (.iconst 3, 1) := by decide +kernel
theorem dL_law_348 : decode cL_law 348 = .ok (.iadd, 1) := by decide +kernel
theorem dL_law_349 : decode cL_law 349 = .ok (.iaload, 1) := by decide +kernel
theorem dL_law_350 : decode cL_law 350 = .ok (.invokevirtual 52, 3) := by decide +kernel
theorem dL_law_353 : decode cL_law 353 = .ok (.aload_n 2, 1) := by decide +kernel
theorem dL_law_354 : decode cL_law 354 = .ok (.aload_n 0, 1) := by decide +kernel
theorem dL_law_355 : decode cL_law 355 = .ok (.iload_n 3, 1) := by decide +kernel
theorem dL_law_356 : decode cL_law 356 = .ok (.iconst 1, 1) := by decide +kernel
theorem dL_law_357 : decode cL_law 357 = .ok (.iadd, 1) := by decide +kernel
theorem dL_law_358 : decode cL_law 358 = .ok (.iaload, 1) := by decide +kernel
theorem dL_law_359 : decode cL_law 359 = .ok (.ifCond .eq 7, 3) := by decide +kernel
theorem dL_law_362 : decode cL_law 362 = .ok (.iconst 1, 1) := by decide +kernel
theorem dL_law_363 : decode cL_law 363 = .ok (.goto 4, 3) := by decide +kernel
theorem dL_law_366 : decode cL_law 366 = .ok (.iconst 0, 1) := by decide +kernel
theorem dL_law_367 : decode cL_law 367 = .ok (.aload_n 0, 1) := by decide +kernel
theorem dL_law_368 : decode cL_law 368 = .ok (.iload_n 3, 1) := by decide +kernel
theorem dL_law_369 : decode cL_law 369 = .ok (.iconst 2, 1) := by decide +kernel
theorem dL_law_370 : decode cL_law 370 = .ok (.iadd, 1) := by decide +kernel
theorem dL_law_371 : decode cL_law 371 = .ok (.iaload, 1) := by decide +kernel
theorem dL_law_372 : decode cL_law 372 = .ok (.aload_n 0, 1) := by decide +kernel
theorem dL_law_373 : decode cL_law 373 = .ok (.iload_n 3, 1) := by decide +kernel
theorem dL_law_374 : decode cL_law 374 = .ok (.iconst 3, 1) := by decide +kernel
theorem dL_law_375 : decode cL_law 375 = .ok (.iadd, 1) := by decide +kernel
theorem dL_law_376 : decode cL_law 376 = .ok (.iaload, 1) := by decide +kernel
theorem dL_law_377 : decode cL_law 377 = .ok (.invokevirtual 56, 3) := by decide +kernel
theorem dL_law_380 : decode cL_law 380 = .ok (.lcmp, 1) := by decide +kernel
theorem dL_law_381 : decode cL_law 381 = .ok (.ifCond .eq 295, 3) := by decide +kernel
theorem dL_law_384 : decode cL_law 384 = .ok (.iconst 0, 1) := by decide +kernel
theorem dL_law_385 : decode cL_law 385 = .ok (.ireturn, 1) := by decide +kernel
theorem dL_law_386 : decode cL_law 386 = .ok (.aload_n 1, 1) := by decide +kernel
theorem dL_law_387 : decode cL_law 387 = .ok (.aload_n 0, 1) := by decide +kernel
theorem dL_law_388 : decode cL_law 388 = .ok (.iload_n 3, 1) := by decide +kernel
theorem dL_law_389 : decode cL_law 389 = .ok (.iconst 1, 1) := by decide +kernel
theorem dL_law_390 : decode cL_law 390 = .ok (.iadd, 1) := by decide +kernel
theorem dL_law_391 : decode cL_law 391 = .ok (.iaload, 1) := by decide +kernel
theorem dL_law_392 : decode cL_law 392 = .ok (.invokevirtual 57, 3) := by decide +kernel
theorem dL_law_395 : decode cL_law 395 = .ok (.aload_n 2, 1) := by decide +kernel
theorem dL_law_396 : decode cL_law 396 = .ok (.aload_n 0, 1) := by decide +kernel
theorem dL_law_397 : decode cL_law 397 = .ok (.iload_n 3, 1) := by decide +kernel
theorem dL_law_398 : decode cL_law 398 = .ok (.iconst 1, 1) := by decide +kernel
theorem dL_law_399 : decode cL_law 399 = .ok (.iadd, 1) := by decide +kernel
theorem dL_law_400 : decode cL_law 400 = .ok (.iaload, 1) := by decide +kernel
theorem dL_law_401 : decode cL_law 401 = .ok (.invokevirtual 60, 3) := by decide +kernel
theorem dL_law_404 : decode cL_law 404 = .ok (.lcmp, 1) := by decide +kernel
theorem dL_law_405 : decode cL_law 405 = .ok (.ifCond .eq 271, 3) := by decide +kernel
theorem dL_law_408 : decode cL_law 408 = .ok (.iconst 0, 1) := by decide +kernel
theorem dL_law_409 : decode cL_law 409 = .ok (.ireturn, 1) := by decide +kernel
theorem dL_law_410 : decode cL_law 410 = .ok (.aload_n 1, 1) := by decide +kernel
theorem dL_law_411 : decode cL_law 411 = .ok (.aload_n 0, 1) := by decide +kernel
theorem dL_law_412 : decode cL_law 412 = .ok (.iload_n 3, 1) := by decide +kernel
theorem dL_law_413 : decode cL_law 413 = .ok (.iconst 1, 1) := by decide +kernel
theorem dL_law_414 : decode cL_law 414 = .ok (.iadd, 1) := by decide +kernel
theorem dL_law_415 : decode cL_law 415 = .ok (.iaload, 1) := by decide +kernel
theorem dL_law_416 : decode cL_law 416 = .ok (.ifCond .eq 7, 3) := by decide +kernel
theorem dL_law_419 : decode cL_law 419 = .ok (.iconst 1, 1) := by decide +kernel
theorem dL_law_420 : decode cL_law 420 = .ok (.goto 4, 3) := by decide +kernel
theorem dL_law_423 : decode cL_law 423 = .ok (.iconst 0, 1) := by decide +kernel
theorem dL_law_424 : decode cL_law 424 = .ok (.aload_n 0, 1) := by decide +kernel
theorem dL_law_425 : decode cL_law 425 = .ok (.iload_n 3, 1) := by decide +kernel
theorem dL_law_426 : decode cL_law 426 = .ok (.iconst 2, 1) := by decide +kernel
theorem dL_law_427 : decode cL_law 427 = .ok (.iadd, 1) := by decide +kernel
theorem dL_law_428 : decode cL_law 428 = .ok (.iaload, 1) := by decide +kernel
theorem dL_law_429 : decode cL_law 429 = .ok (.aload_n 0, 1) := by decide +kernel
theorem dL_law_430 : decode cL_law 430 = .ok (.iload_n 3, 1) := by decide +kernel
theorem dL_law_431 : decode cL_law 431 = .ok (.iconst 3, 1) := by decide +kernel
theorem dL_law_432 : decode cL_law 432 = .ok (.iadd, 1) := by decide +kernel
theorem dL_law_433 : decode cL_law 433 = .ok (.iaload, 1) := by decide +kernel
theorem dL_law_434 : decode cL_law 434 = .ok (.invokevirtual 61, 3) := by decide +kernel
theorem dL_law_437 : decode cL_law 437 = .ok (.aload_n 2, 1) := by decide +kernel
theorem dL_law_438 : decode cL_law 438 = .ok (.aload_n 0, 1) := by decide +kernel
theorem dL_law_439 : decode cL_law 439 = .ok (.iload_n 3, 1) := by decide +kernel
theorem dL_law_440 : decode cL_law 440 = .ok (.iconst 1, 1) := by decide +kernel
theorem dL_law_441 : decode cL_law 441 = .ok (.iadd, 1) := by decide +kernel
theorem dL_law_442 : decode cL_law 442 = .ok (.iaload, 1) := by decide +kernel
theorem dL_law_443 : decode cL_law 443 = .ok (.ifCond .eq 7, 3) := by decide +kernel
theorem dL_law_446 : decode cL_law 446 = .ok (.iconst 1, 1) := by decide +kernel
theorem dL_law_447 : decode cL_law 447 = .ok (.goto 4, 3) := by decide +kernel
theorem dL_law_450 : decode cL_law 450 = .ok (.iconst 0, 1) := by decide +kernel
theorem dL_law_451 : decode cL_law 451 = .ok (.aload_n 0, 1) := by decide +kernel
theorem dL_law_452 : decode cL_law 452 = .ok (.iload_n 3, 1) := by decide +kernel
theorem dL_law_453 : decode cL_law 453 = .ok (.iconst 2, 1) := by decide +kernel
theorem dL_law_454 : decode cL_law 454 = .ok (.iadd, 1) := by decide +kernel
theorem dL_law_455 : decode cL_law 455 = .ok (.iaload, 1) := by decide +kernel
theorem dL_law_456 : decode cL_law 456 = .ok (.aload_n 0, 1) := by decide +kernel
theorem dL_law_457 : decode cL_law 457 = .ok (.iload_n 3, 1) := by decide +kernel
theorem dL_law_458 : decode cL_law 458 = .ok (.iconst 3, 1) := by decide +kernel
theorem dL_law_459 : decode cL_law 459 = .ok (.iadd, 1) := by decide +kernel
theorem dL_law_460 : decode cL_law 460 = .ok (.iaload, 1) := by decide +kernel
theorem dL_law_461 : decode cL_law 461 = .ok (.invokevirtual 64, 3) := by decide +kernel
theorem dL_law_464 : decode cL_law 464 = .ok (.lcmp, 1) := by decide +kernel
theorem dL_law_465 : decode cL_law 465 = .ok (.ifCond .eq 211, 3) := by decide +kernel
theorem dL_law_468 : decode cL_law 468 = .ok (.iconst 0, 1) := by decide +kernel
theorem dL_law_469 : decode cL_law 469 = .ok (.ireturn, 1) := by decide +kernel
theorem dL_law_470 : decode cL_law 470 = .ok (.aload_n 1, 1) := by decide +kernel
theorem dL_law_471 : decode cL_law 471 = .ok (.aload_n 0, 1) := by decide +kernel
theorem dL_law_472 : decode cL_law 472 = .ok (.iload_n 3, 1) := by decide +kernel
theorem dL_law_473 : decode cL_law 473 = .ok (.iconst 1, 1) := by decide +kernel
theorem dL_law_474 : decode cL_law 474 = .ok (.iadd, 1) := by decide +kernel
theorem dL_law_475 : decode cL_law 475 = .ok (.iaload, 1) := by decide +kernel
theorem dL_law_476 : decode cL_law 476 = .ok (.ifCond .eq 7, 3) := by decide +kernel
theorem dL_law_479 : decode cL_law 479 = .ok (.iconst 1, 1) := by decide +kernel
theorem dL_law_480 : decode cL_law 480 = .ok (.goto 4, 3) := by decide +kernel
theorem dL_law_483 : decode cL_law 483 = .ok (.iconst 0, 1) := by decide +kernel
theorem dL_law_484 : decode cL_law 484 = .ok (.aload_n 0, 1) := by decide +kernel
theorem dL_law_485 : decode cL_law 485 = .ok (.iload_n 3, 1) := by decide +kernel
theorem dL_law_486 : decode cL_law 486 = .ok (.iconst 2, 1) := by decide +kernel
theorem dL_law_487 : decode cL_law 487 = .ok (.iadd, 1) := by decide +kernel
theorem dL_law_488 : decode cL_law 488 = .ok (.iaload, 1) := by decide +kernel
theorem dL_law_489 : decode cL_law 489 = .ok (.aload_n 0, 1) := by decide +kernel
theorem dL_law_490 : decode cL_law 490 = .ok (.iload_n 3, 1) := by decide +kernel
theorem dL_law_491 : decode cL_law 491 = .ok (.iconst 3, 1) := by decide +kernel
theorem dL_law_492 : decode cL_law 492 = .ok (.iadd, 1) := by decide +kernel
theorem dL_law_493 : decode cL_law 493 = .ok (.iaload, 1) := by decide +kernel
theorem dL_law_494 : decode cL_law 494 = .ok (.aload_n 0, 1) := by decide +kernel
theorem dL_law_495 : decode cL_law 495 = .ok (.iload_n 3, 1) := by decide +kernel
theorem dL_law_496 : decode cL_law 496 = .ok (.iconst 4, 1) := by decide +kernel
theorem dL_law_497 : decode cL_law 497 = .ok (.iadd, 1) := by decide +kernel
theorem dL_law_498 : decode cL_law 498 = .ok (.iaload, 1) := by decide +kernel
theorem dL_law_499 : decode cL_law 499 = .ok (.invokevirtual 65, 3) := by decide +kernel
theorem dL_law_502 : decode cL_law 502 = .ok (.aload_n 2, 1) := by decide +kernel
theorem dL_law_503 : decode cL_law 503 = .ok (.aload_n 0, 1) := by decide +kernel
theorem dL_law_504 : decode cL_law 504 = .ok (.iload_n 3, 1) := by decide +kernel
theorem dL_law_505 : decode cL_law 505 = .ok (.iconst 1, 1) := by decide +kernel
theorem dL_law_506 : decode cL_law 506 = .ok (.iadd, 1) := by decide +kernel
theorem dL_law_507 : decode cL_law 507 = .ok (.iaload, 1) := by decide +kernel
theorem dL_law_508 : decode cL_law 508 = .ok (.ifCond .eq 7, 3) := by decide +kernel
theorem dL_law_511 : decode cL_law 511 = .ok (.iconst 1, 1) := by decide +kernel
theorem dL_law_512 : decode cL_law 512 = .ok (.goto 4, 3) := by decide +kernel
theorem dL_law_515 : decode cL_law 515 = .ok (.iconst 0, 1) := by decide +kernel
theorem dL_law_516 : decode cL_law 516 = .ok (.aload_n 0, 1) := by decide +kernel
theorem dL_law_517 : decode cL_law 517 = .ok (.iload_n 3, 1) := by decide +kernel
theorem dL_law_518 : decode cL_law 518 = .ok (.iconst 2, 1) := by decide +kernel
theorem dL_law_519 : decode cL_law 519 = .ok (.iadd, 1) := by decide +kernel
theorem dL_law_520 : decode cL_law 520 = .ok (.iaload, 1) := by decide +kernel
theorem dL_law_521 : decode cL_law 521 = .ok (.aload_n 0, 1) := by decide +kernel
theorem dL_law_522 : decode cL_law 522 = .ok (.iload_n 3, 1) := by decide +kernel
theorem dL_law_523 : decode cL_law 523 = .ok (.iconst 3, 1) := by decide +kernel
theorem dL_law_524 : decode cL_law 524 = .ok (.iadd, 1) := by decide +kernel
theorem dL_law_525 : decode cL_law 525 = .ok (.iaload, 1) := by decide +kernel
theorem dL_law_526 : decode cL_law 526 = .ok (.aload_n 0, 1) := by decide +kernel
theorem dL_law_527 : decode cL_law 527 = .ok (.iload_n 3, 1) := by decide +kernel
theorem dL_law_528 : decode cL_law 528 = .ok (.iconst 4, 1) := by decide +kernel
theorem dL_law_529 : decode cL_law 529 = .ok (.iadd, 1) := by decide +kernel
theorem dL_law_530 : decode cL_law 530 = .ok (.iaload, 1) := by decide +kernel
theorem dL_law_531 : decode cL_law 531 = .ok (.invokevirtual 69, 3) := by decide +kernel
theorem dL_law_534 : decode cL_law 534 = .ok (.lcmp, 1) := by decide +kernel
theorem dL_law_535 : decode cL_law 535 = .ok (.ifCond .eq 141, 3) := by decide +kernel
theorem dL_law_538 : decode cL_law 538 = .ok (.iconst 0, 1) := by decide +kernel
theorem dL_law_539 : decode cL_law 539 = .ok (.ireturn, 1) := by decide +kernel
theorem dL_law_540 : decode cL_law 540 = .ok (.aload_n 1, 1) := by decide +kernel
theorem dL_law_541 : decode cL_law 541 = .ok (.aload_n 0, 1) := by decide +kernel
theorem dL_law_542 : decode cL_law 542 = .ok (.iload_n 3, 1) := by decide +kernel
theorem dL_law_543 : decode cL_law 543 = .ok (.iconst 1, 1) := by decide +kernel
theorem dL_law_544 : decode cL_law 544 = .ok (.iadd, 1) := by decide +kernel
theorem dL_law_545 : decode cL_law 545 = .ok (.iaload, 1) := by decide +kernel
theorem dL_law_546 : decode cL_law 546 = .ok (.aload_n 0, 1) := by decide +kernel
theorem dL_law_547 : decode cL_law 547 = .ok (.iload_n 3, 1) := by decide +kernel
theorem dL_law_548 : decode cL_law 548 = .ok (.iconst 2, 1) := by decide +kernel
theorem dL_law_549 : decode cL_law 549 = .ok (.iadd, 1) := by decide +kernel
theorem dL_law_550 : decode cL_law 550 = .ok (.iaload, 1) := by decide +kernel
theorem dL_law_551 : decode cL_law 551 = .ok (.invokevirtual 70, 3) := by decide +kernel
theorem dL_law_554 : decode cL_law 554 = .ok (.aload_n 2, 1) := by decide +kernel
theorem dL_law_555 : decode cL_law 555 = .ok (.aload_n 0, 1) := by decide +kernel
theorem dL_law_556 : decode cL_law 556 = .ok (.iload_n 3, 1) := by decide +kernel
theorem dL_law_557 : decode cL_law 557 = .ok (.iconst 1, 1) := by decide +kernel
theorem dL_law_558 : decode cL_law 558 = .ok (.iadd, 1) := by decide +kernel
theorem dL_law_559 : decode cL_law 559 = .ok (.iaload, 1) := by decide +kernel
theorem dL_law_560 : decode cL_law 560 = .ok (.aload_n 0, 1) := by decide +kernel
theorem dL_law_561 : decode cL_law 561 = .ok (.iload_n 3, 1) := by decide +kernel
theorem dL_law_562 : decode cL_law 562 = .ok (.iconst 2, 1) := by decide +kernel
theorem dL_law_563 : decode cL_law 563 = .ok (.iadd, 1) := by decide +kernel
theorem dL_law_564 : decode cL_law 564 = .ok (.iaload, 1) := by decide +kernel
theorem dL_law_565 : decode cL_law 565 = .ok (.invokevirtual 73, 3) := by decide +kernel
theorem dL_law_568 : decode cL_law 568 = .ok (.lcmp, 1) := by decide +kernel
theorem dL_law_569 : decode cL_law 569 = .ok (.ifCond .eq 107, 3) := by decide +kernel
theorem dL_law_572 : decode cL_law 572 = .ok (.iconst 0, 1) := by decide +kernel
theorem dL_law_573 : decode cL_law 573 = .ok (.ireturn, 1) := by decide +kernel
theorem dL_law_574 : decode cL_law 574 = .ok (.aload_n 1, 1) := by decide +kernel
theorem dL_law_575 : decode cL_law 575 = .ok (.aload_n 0, 1) := by decide +kernel
theorem dL_law_576 : decode cL_law 576 = .ok (.iload_n 3, 1) := by decide +kernel
theorem dL_law_577 : decode cL_law 577 = .ok (.iconst 1, 1) := by decide +kernel
theorem dL_law_578 : decode cL_law 578 = .ok (.iadd, 1) := by decide +kernel
theorem dL_law_579 : decode cL_law 579 = .ok (.iaload, 1) := by decide +kernel
theorem dL_law_580 : decode cL_law 580 = .ok (.ifCond .eq 7, 3) := by decide +kernel
theorem dL_law_583 : decode cL_law 583 = .ok (.iconst 1, 1) := by decide +kernel
theorem dL_law_584 : decode cL_law 584 = .ok (.goto 4, 3) := by decide +kernel
theorem dL_law_587 : decode cL_law 587 = .ok (.iconst 0, 1) := by decide +kernel
theorem dL_law_588 : decode cL_law 588 = .ok (.invokevirtual 74, 3) := by decide +kernel
theorem dL_law_591 : decode cL_law 591 = .ok (.aload_n 2, 1) := by decide +kernel
theorem dL_law_592 : decode cL_law 592 = .ok (.aload_n 0, 1) := by decide +kernel
theorem dL_law_593 : decode cL_law 593 = .ok (.iload_n 3, 1) := by decide +kernel
theorem dL_law_594 : decode cL_law 594 = .ok (.iconst 1, 1) := by decide +kernel
theorem dL_law_595 : decode cL_law 595 = .ok (.iadd, 1) := by decide +kernel
theorem dL_law_596 : decode cL_law 596 = .ok (.iaload, 1) := by decide +kernel
theorem dL_law_597 : decode cL_law 597 = .ok (.ifCond .eq 7, 3) := by decide +kernel
theorem dL_law_600 : decode cL_law 600 = .ok (.iconst 1, 1) := by decide +kernel
theorem dL_law_601 : decode cL_law 601 = .ok (.goto 4, 3) := by decide +kernel
theorem dL_law_604 : decode cL_law 604 = .ok (.iconst 0, 1) := by decide +kernel
theorem dL_law_605 : decode cL_law 605 = .ok (.invokevirtual 78, 3) := by decide +kernel
theorem dL_law_608 : decode cL_law 608 = .ok (.lcmp, 1) := by decide +kernel
theorem dL_law_609 : decode cL_law 609 = .ok (.ifCond .eq 67, 3) := by decide +kernel
theorem dL_law_612 : decode cL_law 612 = .ok (.iconst 0, 1) := by decide +kernel
theorem dL_law_613 : decode cL_law 613 = .ok (.ireturn, 1) := by decide +kernel
theorem dL_law_614 : decode cL_law 614 = .ok (.aload_n 1, 1) := by decide +kernel
theorem dL_law_615 : decode cL_law 615 = .ok (.aload_n 0, 1) := by decide +kernel
theorem dL_law_616 : decode cL_law 616 = .ok (.iload_n 3, 1) := by decide +kernel
theorem dL_law_617 : decode cL_law 617 = .ok (.iconst 1, 1) := by decide +kernel
theorem dL_law_618 : decode cL_law 618 = .ok (.iadd, 1) := by decide +kernel
theorem dL_law_619 : decode cL_law 619 = .ok (.iaload, 1) := by decide +kernel
theorem dL_law_620 : decode cL_law 620 = .ok (.invokevirtual 79, 3) := by decide +kernel
theorem dL_law_623 : decode cL_law 623 = .ok (.aload_n 2, 1) := by decide +kernel
theorem dL_law_624 : decode cL_law 624 = .ok (.aload_n 0, 1) := by decide +kernel
theorem dL_law_625 : decode cL_law 625 = .ok (.iload_n 3, 1) := by decide +kernel
theorem dL_law_626 : decode cL_law 626 = .ok (.iconst 1, 1) := by decide +kernel
theorem dL_law_627 : decode cL_law 627 = .ok (.iadd, 1) := by decide +kernel
theorem dL_law_628 : decode cL_law 628 = .ok (.iaload, 1) := by decide +kernel
theorem dL_law_629 : decode cL_law 629 = .ok (.invokevirtual 82, 3) := by decide +kernel
theorem dL_law_632 : decode cL_law 632 = .ok (.lcmp, 1) := by decide +kernel
theorem dL_law_633 : decode cL_law 633 = .ok (.ifCond .eq 43, 3) := by decide +kernel
theorem dL_law_636 : decode cL_law 636 = .ok (.iconst 0, 1) := by decide +kernel
theorem dL_law_637 : decode cL_law 637 = .ok (.ireturn, 1) := by decide +kernel
theorem dL_law_638 : decode cL_law 638 = .ok (.aload_n 1, 1) := by decide +kernel
theorem dL_law_639 : decode cL_law 639 = .ok (.aload_n 0, 1) := by decide +kernel
theorem dL_law_640 : decode cL_law 640 = .ok (.iload_n 3, 1) := by decide +kernel
theorem dL_law_641 : decode cL_law 641 = .ok (.iconst 1, 1) := by decide +kernel
theorem dL_law_642 : decode cL_law 642 = .ok (.iadd, 1) := by decide +kernel
theorem dL_law_643 : decode cL_law 643 = .ok (.iaload, 1) := by decide +kernel
theorem dL_law_644 : decode cL_law 644 = .ok (.invokevirtual 83, 3) := by decide +kernel
theorem dL_law_647 : decode cL_law 647 = .ok (.aload_n 2, 1) := by decide +kernel
theorem dL_law_648 : decode cL_law 648 = .ok (.aload_n 0, 1) := by decide +kernel
theorem dL_law_649 : decode cL_law 649 = .ok (.iload_n 3, 1) := by decide +kernel
theorem dL_law_650 : decode cL_law 650 = .ok (.iconst 1, 1) := by decide +kernel
theorem dL_law_651 : decode cL_law 651 = .ok (.iadd, 1) := by decide +kernel
theorem dL_law_652 : decode cL_law 652 = .ok (.iaload, 1) := by decide +kernel
theorem dL_law_653 : decode cL_law 653 = .ok (.invokevirtual 86, 3) := by decide +kernel
theorem dL_law_656 : decode cL_law 656 = .ok (.lcmp, 1) := by decide +kernel
theorem dL_law_657 : decode cL_law 657 = .ok (.ifCond .eq 19, 3) := by decide +kernel
theorem dL_law_660 : decode cL_law 660 = .ok (.iconst 0, 1) := by decide +kernel
theorem dL_law_661 : decode cL_law 661 = .ok (.ireturn, 1) := by decide +kernel
theorem dL_law_662 : decode cL_law 662 = .ok (.aload_n 1, 1) := by decide +kernel
theorem dL_law_663 : decode cL_law 663 = .ok (.invokevirtual 87, 3) := by decide +kernel
theorem dL_law_666 : decode cL_law 666 = .ok (.aload_n 2, 1) := by decide +kernel
theorem dL_law_667 : decode cL_law 667 = .ok (.invokevirtual 90, 3) := by decide +kernel
theorem dL_law_670 : decode cL_law 670 = .ok (.lcmp, 1) := by decide +kernel
theorem dL_law_671 : decode cL_law 671 = .ok (.ifCond .eq 5, 3) := by decide +kernel
theorem dL_law_674 : decode cL_law 674 = .ok (.iconst 0, 1) := by decide +kernel
theorem dL_law_675 : decode cL_law 675 = .ok (.ireturn, 1) := by decide +kernel
theorem dL_law_676 : decode cL_law 676 = .ok (.iinc 3 5, 3) := by decide +kernel
theorem dL_law_679 : decode cL_law 679 = .ok (.goto (-661), 3) := by decide +kernel
theorem dL_law_682 : decode cL_law 682 = .ok (.iconst 1, 1) := by decide +kernel
theorem dL_law_683 : decode cL_law 683 = .ok (.ireturn, 1) := by decide +kernel
set_option maxRecDepth 100000 in
theorem Lw_0 : Cond.classLink RL 7 RX4 ∈ lw_tbl := List.mem_of_getElem? (i := 71) rfl
set_option maxRecDepth 100000 in
theorem Lw_1 : Cond.instantiable RX4 12 ∈ lw_tbl := List.mem_of_getElem? (i := 72) rfl
set_option maxRecDepth 100000 in
theorem Lw_2 : Cond.initialized RX4 ∈ lw_tbl := List.mem_of_getElem? (i := 64) rfl
set_option maxRecDepth 100000 in
theorem Lw_3 : Cond.classLink RL 10 RX5 ∈ lw_tbl := List.mem_of_getElem? (i := 511) rfl
set_option maxRecDepth 100000 in
theorem Lw_4 : Cond.instantiable RX5 27 ∈ lw_tbl := List.mem_of_getElem? (i := 512) rfl
set_option maxRecDepth 100000 in
theorem Lw_5 : Cond.initialized RX5 ∈ lw_tbl := List.mem_of_getElem? (i := 69) rfl
set_option maxRecDepth 100000 in
theorem Lw_6 : Cond.methodLink RL 9 yX4_init ∈ lw_tbl := List.mem_of_getElem? (i := 73) rfl
set_option maxRecDepth 100000 in
theorem Lw_7 : Cond.instanceMethod yX4_init ∈ lw_tbl := List.mem_of_getElem? (i := 74) rfl
set_option maxRecDepth 100000 in
theorem Lw_8 : Cond.code yX4_init cX4_init 1 none ∈ lw_tbl := List.mem_of_getElem? (i := 75) rfl
set_option maxRecDepth 100000 in
theorem Lw_9 : Cond.methodLink RX4 1 objectInit ∈ lw_tbl := List.mem_of_getElem? (i := 76) rfl
set_option maxRecDepth 100000 in
theorem Lw_10 : Cond.instanceMethod objectInit ∈ lw_tbl := List.mem_of_getElem? (i := 77) rfl
set_option maxRecDepth 100000 in
theorem Lw_11 : Cond.code objectInit ⟨#[0xb1]⟩ 1 none ∈ lw_tbl := List.mem_of_getElem? (i := 78) rfl
set_option maxRecDepth 100000 in
theorem Lw_12 : Cond.classLink RX4 7 RX1 ∈ lw_tbl := List.mem_of_getElem? (i := 79) rfl
set_option maxRecDepth 100000 in
theorem Lw_13 : Cond.instantiable RX1 6 ∈ lw_tbl := List.mem_of_getElem? (i := 80) rfl
set_option maxRecDepth 100000 in
theorem Lw_14 : Cond.initialized RX1 ∈ lw_tbl := List.mem_of_getElem? (i := 65) rfl
set_option maxRecDepth 100000 in
theorem Lw_15 : Cond.fieldLink RX4 10 "RestGains" "page" "LRestGains$Page;" ∈ lw_tbl := List.mem_of_getElem? (i := 204) rfl
set_option maxRecDepth 100000 in
theorem Lw_16 : Cond.classLink RX4 16 RX3 ∈ lw_tbl := List.mem_of_getElem? (i := 107) rfl
set_option maxRecDepth 100000 in
theorem Lw_17 : Cond.instantiable RX3 3 ∈ lw_tbl := List.mem_of_getElem? (i := 108) rfl
set_option maxRecDepth 100000 in
theorem Lw_18 : Cond.initialized RX3 ∈ lw_tbl := List.mem_of_getElem? (i := 66) rfl
set_option maxRecDepth 100000 in
theorem Lw_19 : Cond.fieldLink RX4 19 "RestGains" "plant" "LRestGains$Plant;" ∈ lw_tbl := List.mem_of_getElem? (i := 205) rfl
set_option maxRecDepth 100000 in
theorem Lw_20 : Cond.classLink RX4 23 RX0 ∈ lw_tbl := List.mem_of_getElem? (i := 130) rfl
set_option maxRecDepth 100000 in
theorem Lw_21 : Cond.instantiable RX0 8 ∈ lw_tbl := List.mem_of_getElem? (i := 131) rfl
set_option maxRecDepth 100000 in
theorem Lw_22 : Cond.initialized RX0 ∈ lw_tbl := List.mem_of_getElem? (i := 67) rfl
set_option maxRecDepth 100000 in
theorem Lw_23 : Cond.fieldLink RX4 28 "RestGains" "reach" "LRestGains$Chain;" ∈ lw_tbl := List.mem_of_getElem? (i := 206) rfl
set_option maxRecDepth 100000 in
theorem Lw_24 : Cond.fieldLink RX4 32 "RestGains" "sight" "LRestGains$Chain;" ∈ lw_tbl := List.mem_of_getElem? (i := 207) rfl
set_option maxRecDepth 100000 in
theorem Lw_25 : Cond.classLink RX4 35 RX2 ∈ lw_tbl := List.mem_of_getElem? (i := 170) rfl
set_option maxRecDepth 100000 in
theorem Lw_26 : Cond.instantiable RX2 8 ∈ lw_tbl := List.mem_of_getElem? (i := 171) rfl
set_option maxRecDepth 100000 in
theorem Lw_27 : Cond.initialized RX2 ∈ lw_tbl := List.mem_of_getElem? (i := 68) rfl
set_option maxRecDepth 100000 in
theorem Lw_28 : Cond.fieldLink RX4 38 "RestGains" "planner" "LRestGains$Planner;" ∈ lw_tbl := List.mem_of_getElem? (i := 208) rfl
set_option maxRecDepth 100000 in
theorem Lw_29 : Cond.arrayClass .long ∈ lw_tbl := List.mem_of_getElem? (i := 129) rfl
set_option maxRecDepth 100000 in
theorem Lw_30 : Cond.fieldLink RX4 42 "RestGains" "start" "[J" ∈ lw_tbl := List.mem_of_getElem? (i := 209) rfl
set_option maxRecDepth 100000 in
theorem Lw_31 : Cond.fieldLink RX4 46 "RestGains" "way" "[J" ∈ lw_tbl := List.mem_of_getElem? (i := 210) rfl
set_option maxRecDepth 100000 in
theorem Lw_32 : Cond.fieldLink RX4 49 "RestGains" "next" "[J" ∈ lw_tbl := List.mem_of_getElem? (i := 211) rfl
set_option maxRecDepth 100000 in
theorem Lw_33 : Cond.fieldLink RX4 52 "RestGains" "limit" "I" ∈ lw_tbl := List.mem_of_getElem? (i := 212) rfl
set_option maxRecDepth 100000 in
theorem Lw_34 : Cond.fieldLink RX4 56 "RestGains" "plantsRead" "I" ∈ lw_tbl := List.mem_of_getElem? (i := 213) rfl
set_option maxRecDepth 100000 in
theorem Lw_35 : Cond.fieldLink RX4 59 "RestGains" "ticksGone" "I" ∈ lw_tbl := List.mem_of_getElem? (i := 214) rfl
set_option maxRecDepth 100000 in
theorem Lw_36 : Cond.fieldLink RX4 62 "RestGains" "planned" "Z" ∈ lw_tbl := List.mem_of_getElem? (i := 215) rfl
set_option maxRecDepth 100000 in
theorem Lw_37 : Cond.instanceMethod yX1_init ∈ lw_tbl := List.mem_of_getElem? (i := 82) rfl
set_option maxRecDepth 100000 in
theorem Lw_38 : Cond.code yX1_init cX1_init 1 none ∈ lw_tbl := List.mem_of_getElem? (i := 83) rfl
set_option maxRecDepth 100000 in
theorem Lw_39 : Cond.methodLink RX1 3 objectInit ∈ lw_tbl := List.mem_of_getElem? (i := 84) rfl
set_option maxRecDepth 100000 in
theorem Lw_40 : Cond.arrayClass .int ∈ lw_tbl := List.mem_of_getElem? (i := 106) rfl
set_option maxRecDepth 100000 in
theorem Lw_41 : Cond.fieldLink RX1 9 "RestGains$Page" "letters" "[I" ∈ lw_tbl := List.mem_of_getElem? (i := 85) rfl
set_option maxRecDepth 100000 in
theorem Lw_42 : Cond.fieldLink RX1 15 "RestGains$Page" "length" "I" ∈ lw_tbl := List.mem_of_getElem? (i := 87) rfl
set_option maxRecDepth 100000 in
theorem Lw_43 : Cond.fieldLink RX1 19 "RestGains$Page" "numbers" "[I" ∈ lw_tbl := List.mem_of_getElem? (i := 89) rfl
set_option maxRecDepth 100000 in
theorem Lw_44 : Cond.fieldLink RX1 22 "RestGains$Page" "order" "I" ∈ lw_tbl := List.mem_of_getElem? (i := 90) rfl
set_option maxRecDepth 100000 in
theorem Lw_45 : Cond.fieldLink RX1 25 "RestGains$Page" "done" "I" ∈ lw_tbl := List.mem_of_getElem? (i := 91) rfl
set_option maxRecDepth 100000 in
theorem Lw_46 : Cond.fieldLink RX1 28 "RestGains$Page" "due" "I" ∈ lw_tbl := List.mem_of_getElem? (i := 92) rfl
set_option maxRecDepth 100000 in
theorem Lw_47 : Cond.instanceMethod yX3_init ∈ lw_tbl := List.mem_of_getElem? (i := 110) rfl
set_option maxRecDepth 100000 in
theorem Lw_48 : Cond.code yX3_init cX3_init 1 none ∈ lw_tbl := List.mem_of_getElem? (i := 111) rfl
set_option maxRecDepth 100000 in
theorem Lw_49 : Cond.methodLink RX3 3 objectInit ∈ lw_tbl := List.mem_of_getElem? (i := 112) rfl
set_option maxRecDepth 100000 in
theorem Lw_50 : Cond.fieldLink RX3 9 "RestGains$Plant" "cells" "[I" ∈ lw_tbl := List.mem_of_getElem? (i := 113) rfl
set_option maxRecDepth 100000 in
theorem Lw_51 : Cond.fieldLink RX3 15 "RestGains$Plant" "order" "I" ∈ lw_tbl := List.mem_of_getElem? (i := 117) rfl
set_option maxRecDepth 100000 in
theorem Lw_52 : Cond.fieldLink RX3 19 "RestGains$Plant" "spare" "[J" ∈ lw_tbl := List.mem_of_getElem? (i := 121) rfl
set_option maxRecDepth 100000 in
theorem Lw_53 : Cond.methodLink RX4 25 yX0_init ∈ lw_tbl := List.mem_of_getElem? (i := 132) rfl
set_option maxRecDepth 100000 in
theorem Lw_54 : Cond.instanceMethod yX0_init ∈ lw_tbl := List.mem_of_getElem? (i := 133) rfl
set_option maxRecDepth 100000 in
theorem Lw_55 : Cond.code yX0_init cX0_init 2 none ∈ lw_tbl := List.mem_of_getElem? (i := 134) rfl
set_option maxRecDepth 100000 in
theorem Lw_56 : Cond.methodLink RX0 3 objectInit ∈ lw_tbl := List.mem_of_getElem? (i := 135) rfl
set_option maxRecDepth 100000 in
theorem Lw_57 : Cond.classLink RX0 9 "[[J" ∈ lw_tbl := List.mem_of_getElem? (i := 136) rfl
set_option maxRecDepth 100000 in
theorem Lw_58 : Cond.fieldLink RX0 11 "RestGains$Chain" "rows" "[[J" ∈ lw_tbl := List.mem_of_getElem? (i := 138) rfl
set_option maxRecDepth 100000 in
theorem Lw_59 : Cond.fieldLink RX0 16 "RestGains$Chain" "gains" "[J" ∈ lw_tbl := List.mem_of_getElem? (i := 141) rfl
set_option maxRecDepth 100000 in
theorem Lw_60 : Cond.fieldLink RX0 20 "RestGains$Chain" "rank" "I" ∈ lw_tbl := List.mem_of_getElem? (i := 143) rfl
set_option maxRecDepth 100000 in
theorem Lw_61 : Cond.fieldLink RX0 24 "RestGains$Chain" "below" "J" ∈ lw_tbl := List.mem_of_getElem? (i := 146) rfl
set_option maxRecDepth 100000 in
theorem Lw_62 : Cond.fieldLink RX0 28 "RestGains$Chain" "base" "[[J" ∈ lw_tbl := List.mem_of_getElem? (i := 150) rfl
set_option maxRecDepth 100000 in
theorem Lw_63 : Cond.fieldLink RX0 31 "RestGains$Chain" "square" "[[J" ∈ lw_tbl := List.mem_of_getElem? (i := 151) rfl
set_option maxRecDepth 100000 in
theorem Lw_64 : Cond.fieldLink RX0 34 "RestGains$Chain" "spare" "[J" ∈ lw_tbl := List.mem_of_getElem? (i := 152) rfl
set_option maxRecDepth 100000 in
theorem Lw_65 : Cond.fieldLink RX0 37 "RestGains$Chain" "across" "Z" ∈ lw_tbl := List.mem_of_getElem? (i := 149) rfl
set_option maxRecDepth 100000 in
theorem Lw_66 : Cond.instanceMethod yX2_init ∈ lw_tbl := List.mem_of_getElem? (i := 173) rfl
set_option maxRecDepth 100000 in
theorem Lw_67 : Cond.code yX2_init cX2_init 1 none ∈ lw_tbl := List.mem_of_getElem? (i := 174) rfl
set_option maxRecDepth 100000 in
theorem Lw_68 : Cond.methodLink RX2 3 objectInit ∈ lw_tbl := List.mem_of_getElem? (i := 175) rfl
set_option maxRecDepth 100000 in
theorem Lw_69 : Cond.fieldLink RX2 9 "RestGains$Planner" "inputs" "[I" ∈ lw_tbl := List.mem_of_getElem? (i := 177) rfl
set_option maxRecDepth 100000 in
theorem Lw_70 : Cond.fieldLink RX2 15 "RestGains$Planner" "ticks" "I" ∈ lw_tbl := List.mem_of_getElem? (i := 179) rfl
set_option maxRecDepth 100000 in
theorem Lw_71 : Cond.fieldLink RX2 19 "RestGains$Planner" "due" "[J" ∈ lw_tbl := List.mem_of_getElem? (i := 181) rfl
set_option maxRecDepth 100000 in
theorem Lw_72 : Cond.classLink RX2 23 "[[J" ∈ lw_tbl := List.mem_of_getElem? (i := 176) rfl
set_option maxRecDepth 100000 in
theorem Lw_73 : Cond.fieldLink RX2 25 "RestGains$Planner" "shares" "[[J" ∈ lw_tbl := List.mem_of_getElem? (i := 182) rfl
set_option maxRecDepth 100000 in
theorem Lw_74 : Cond.fieldLink RX2 28 "RestGains$Planner" "spare" "[J" ∈ lw_tbl := List.mem_of_getElem? (i := 183) rfl
set_option maxRecDepth 100000 in
theorem Lw_75 : Cond.fieldLink RX2 31 "RestGains$Planner" "limit" "I" ∈ lw_tbl := List.mem_of_getElem? (i := 184) rfl
set_option maxRecDepth 100000 in
theorem Lw_76 : Cond.fieldLink RX2 34 "RestGains$Planner" "tried" "I" ∈ lw_tbl := List.mem_of_getElem? (i := 185) rfl
set_option maxRecDepth 100000 in
theorem Lw_77 : Cond.fieldLink RX2 37 "RestGains$Planner" "bound" "I" ∈ lw_tbl := List.mem_of_getElem? (i := 186) rfl
set_option maxRecDepth 100000 in
theorem Lw_78 : Cond.methodLink RL 12 yX5_init ∈ lw_tbl := List.mem_of_getElem? (i := 513) rfl
set_option maxRecDepth 100000 in
theorem Lw_79 : Cond.instanceMethod yX5_init ∈ lw_tbl := List.mem_of_getElem? (i := 514) rfl
set_option maxRecDepth 100000 in
theorem Lw_80 : Cond.code yX5_init cX5_init 1 none ∈ lw_tbl := List.mem_of_getElem? (i := 515) rfl
set_option maxRecDepth 100000 in
theorem Lw_81 : Cond.methodLink RX5 1 objectInit ∈ lw_tbl := List.mem_of_getElem? (i := 516) rfl
set_option maxRecDepth 100000 in
theorem Lw_82 : Cond.fieldLink RX5 7 "RestGainsModel" "page" "[I" ∈ lw_tbl := List.mem_of_getElem? (i := 518) rfl
set_option maxRecDepth 100000 in
theorem Lw_83 : Cond.fieldLink RX5 13 "RestGainsModel" "told" "[I" ∈ lw_tbl := List.mem_of_getElem? (i := 520) rfl
set_option maxRecDepth 100000 in
theorem Lw_84 : Cond.fieldLink RX5 16 "RestGainsModel" "startAt" "[J" ∈ lw_tbl := List.mem_of_getElem? (i := 521) rfl
set_option maxRecDepth 100000 in
theorem Lw_85 : Cond.fieldLink RX5 20 "RestGainsModel" "limit" "I" ∈ lw_tbl := List.mem_of_getElem? (i := 522) rfl
set_option maxRecDepth 100000 in
theorem Lw_86 : Cond.fieldLink RX5 24 "RestGainsModel" "newTold" "[I" ∈ lw_tbl := List.mem_of_getElem? (i := 530) rfl
set_option maxRecDepth 100000 in
theorem Lw_87 : Cond.fieldLink RX5 27 "RestGainsModel" "nextAt" "[J" ∈ lw_tbl := List.mem_of_getElem? (i := 531) rfl
set_option maxRecDepth 100000 in
theorem Lw_88 : Cond.fieldLink RX5 30 "RestGainsModel" "tried" "[J" ∈ lw_tbl := List.mem_of_getElem? (i := 532) rfl
set_option maxRecDepth 100000 in
theorem Lw_89 : Cond.fieldLink RX5 33 "RestGainsModel" "rows" "[J" ∈ lw_tbl := List.mem_of_getElem? (i := 533) rfl
set_option maxRecDepth 100000 in
theorem Lw_90 : Cond.fieldLink RX5 36 "RestGainsModel" "inputBy" "[J" ∈ lw_tbl := List.mem_of_getElem? (i := 535) rfl
set_option maxRecDepth 100000 in
theorem Lw_91 : Cond.fieldLink RX5 39 "RestGainsModel" "stateBy" "[J" ∈ lw_tbl := List.mem_of_getElem? (i := 536) rfl
set_option maxRecDepth 100000 in
theorem Lw_92 : Cond.fieldLink RX5 42 "RestGainsModel" "goal" "[J" ∈ lw_tbl := List.mem_of_getElem? (i := 537) rfl
set_option maxRecDepth 100000 in
theorem Lw_93 : Cond.fieldLink RX5 45 "RestGainsModel" "planAt" "[I" ∈ lw_tbl := List.mem_of_getElem? (i := 539) rfl
set_option maxRecDepth 100000 in
theorem Lw_94 : Cond.fieldLink RX5 48 "RestGainsModel" "inputs" "[I" ∈ lw_tbl := List.mem_of_getElem? (i := 540) rfl
set_option maxRecDepth 100000 in
theorem Lw_95 : Cond.fieldLink RX5 51 "RestGainsModel" "ends" "[J" ∈ lw_tbl := List.mem_of_getElem? (i := 541) rfl
set_option maxRecDepth 100000 in
theorem Lw_96 : Cond.fieldLink RX5 54 "RestGainsModel" "wanted" "[J" ∈ lw_tbl := List.mem_of_getElem? (i := 542) rfl
set_option maxRecDepth 100000 in
theorem Lw_97 : Cond.methodLink RL 13 yX4_letter ∈ lw_tbl := List.mem_of_getElem? (i := 241) rfl
set_option maxRecDepth 100000 in
theorem Lw_98 : Cond.instanceMethod yX4_letter ∈ lw_tbl := List.mem_of_getElem? (i := 242) rfl
set_option maxRecDepth 100000 in
theorem Lw_99 : Cond.selects RX4 yX4_letter yX4_letter ∈ lw_tbl := List.mem_of_getElem? (i := 243) rfl
set_option maxRecDepth 100000 in
theorem Lw_100 : Cond.code yX4_letter cX4_letter 2 (some .long) ∈ lw_tbl := List.mem_of_getElem? (i := 244) rfl
set_option maxRecDepth 100000 in
theorem Lw_101 : Cond.constantLong RX4 66 (-10000000000003) ∈ lw_tbl := List.mem_of_getElem? (i := 245) rfl
set_option maxRecDepth 100000 in
theorem Lw_102 : Cond.fieldLink RX4 68 "RestGains$Page" "length" "I" ∈ lw_tbl := List.mem_of_getElem? (i := 88) rfl
set_option maxRecDepth 100000 in
theorem Lw_103 : Cond.constantLong RX4 71 (-10000000000005) ∈ lw_tbl := List.mem_of_getElem? (i := 246) rfl
set_option maxRecDepth 100000 in
theorem Lw_104 : Cond.methodLink RX4 73 yX1_write ∈ lw_tbl := List.mem_of_getElem? (i := 247) rfl
set_option maxRecDepth 100000 in
theorem Lw_105 : Cond.instanceMethod yX1_write ∈ lw_tbl := List.mem_of_getElem? (i := 248) rfl
set_option maxRecDepth 100000 in
theorem Lw_106 : Cond.selects RX1 yX1_write yX1_write ∈ lw_tbl := List.mem_of_getElem? (i := 249) rfl
set_option maxRecDepth 100000 in
theorem Lw_107 : Cond.code yX1_write cX1_write 2 none ∈ lw_tbl := List.mem_of_getElem? (i := 250) rfl
set_option maxRecDepth 100000 in
theorem Lw_108 : Cond.methodLink RL 17 yX5_letter ∈ lw_tbl := List.mem_of_getElem? (i := 599) rfl
set_option maxRecDepth 100000 in
theorem Lw_109 : Cond.instanceMethod yX5_letter ∈ lw_tbl := List.mem_of_getElem? (i := 600) rfl
set_option maxRecDepth 100000 in
theorem Lw_110 : Cond.selects RX5 yX5_letter yX5_letter ∈ lw_tbl := List.mem_of_getElem? (i := 601) rfl
set_option maxRecDepth 100000 in
theorem Lw_111 : Cond.code yX5_letter cX5_letter 2 (some .long) ∈ lw_tbl := List.mem_of_getElem? (i := 602) rfl
set_option maxRecDepth 100000 in
theorem Lw_112 : Cond.constantLong RX5 61 (-10000000000003) ∈ lw_tbl := List.mem_of_getElem? (i := 606) rfl
set_option maxRecDepth 100000 in
theorem Lw_113 : Cond.fieldLink RX5 63 "RestGainsModel" "pageLength" "I" ∈ lw_tbl := List.mem_of_getElem? (i := 517) rfl
set_option maxRecDepth 100000 in
theorem Lw_114 : Cond.constantLong RX5 66 (-10000000000005) ∈ lw_tbl := List.mem_of_getElem? (i := 607) rfl
set_option maxRecDepth 100000 in
theorem Lw_115 : Cond.methodLink RX5 57 yX5_within ∈ lw_tbl := List.mem_of_getElem? (i := 603) rfl
set_option maxRecDepth 100000 in
theorem Lw_116 : Cond.static yX5_within ∈ lw_tbl := List.mem_of_getElem? (i := 604) rfl
set_option maxRecDepth 100000 in
theorem Lw_117 : Cond.code yX5_within cX5_within 3 (some .boolean) ∈ lw_tbl := List.mem_of_getElem? (i := 605) rfl
set_option maxRecDepth 100000 in
theorem Lw_118 : Cond.methodLink RL 18 yX4_blank ∈ lw_tbl := List.mem_of_getElem? (i := 251) rfl
set_option maxRecDepth 100000 in
theorem Lw_119 : Cond.instanceMethod yX4_blank ∈ lw_tbl := List.mem_of_getElem? (i := 252) rfl
set_option maxRecDepth 100000 in
theorem Lw_120 : Cond.selects RX4 yX4_blank yX4_blank ∈ lw_tbl := List.mem_of_getElem? (i := 253) rfl
set_option maxRecDepth 100000 in
theorem Lw_121 : Cond.code yX4_blank cX4_blank 2 (some .long) ∈ lw_tbl := List.mem_of_getElem? (i := 254) rfl
set_option maxRecDepth 100000 in
theorem Lw_122 : Cond.methodLink RL 22 yX5_blank ∈ lw_tbl := List.mem_of_getElem? (i := 608) rfl
set_option maxRecDepth 100000 in
theorem Lw_123 : Cond.instanceMethod yX5_blank ∈ lw_tbl := List.mem_of_getElem? (i := 609) rfl
set_option maxRecDepth 100000 in
theorem Lw_124 : Cond.selects RX5 yX5_blank yX5_blank ∈ lw_tbl := List.mem_of_getElem? (i := 610) rfl
set_option maxRecDepth 100000 in
theorem Lw_125 : Cond.code yX5_blank cX5_blank 2 (some .long) ∈ lw_tbl := List.mem_of_getElem? (i := 611) rfl
set_option maxRecDepth 100000 in
theorem Lw_126 : Cond.methodLink RL 23 yX4_fault ∈ lw_tbl := List.mem_of_getElem? (i := 255) rfl
set_option maxRecDepth 100000 in
theorem Lw_127 : Cond.instanceMethod yX4_fault ∈ lw_tbl := List.mem_of_getElem? (i := 256) rfl
set_option maxRecDepth 100000 in
theorem Lw_128 : Cond.selects RX4 yX4_fault yX4_fault ∈ lw_tbl := List.mem_of_getElem? (i := 257) rfl
set_option maxRecDepth 100000 in
theorem Lw_129 : Cond.code yX4_fault cX4_fault 1 (some .long) ∈ lw_tbl := List.mem_of_getElem? (i := 258) rfl
set_option maxRecDepth 100000 in
theorem Lw_130 : Cond.methodLink RX4 77 yX1_wellBegun ∈ lw_tbl := List.mem_of_getElem? (i := 259) rfl
set_option maxRecDepth 100000 in
theorem Lw_131 : Cond.instanceMethod yX1_wellBegun ∈ lw_tbl := List.mem_of_getElem? (i := 260) rfl
set_option maxRecDepth 100000 in
theorem Lw_132 : Cond.selects RX1 yX1_wellBegun yX1_wellBegun ∈ lw_tbl := List.mem_of_getElem? (i := 261) rfl
set_option maxRecDepth 100000 in
theorem Lw_133 : Cond.code yX1_wellBegun cX1_wellBegun 2 (some .int) ∈ lw_tbl := List.mem_of_getElem? (i := 262) rfl
set_option maxRecDepth 100000 in
theorem Lw_134 : Cond.methodLink RX1 31 yX1_takes ∈ lw_tbl := List.mem_of_getElem? (i := 263) rfl
set_option maxRecDepth 100000 in
theorem Lw_135 : Cond.instanceMethod yX1_takes ∈ lw_tbl := List.mem_of_getElem? (i := 265) rfl
set_option maxRecDepth 100000 in
theorem Lw_136 : Cond.selects RX1 yX1_takes yX1_takes ∈ lw_tbl := List.mem_of_getElem? (i := 0) rfl
set_option maxRecDepth 100000 in
theorem Lw_137 : Cond.code yX1_takes cX1_takes 2 (some .boolean) ∈ lw_tbl := List.mem_of_getElem? (i := 266) rfl
set_option maxRecDepth 100000 in
theorem Lw_138 : Cond.methodLink RX1 51 yX1_takesOrder ∈ lw_tbl := List.mem_of_getElem? (i := 267) rfl
set_option maxRecDepth 100000 in
theorem Lw_139 : Cond.instanceMethod yX1_takesOrder ∈ lw_tbl := List.mem_of_getElem? (i := 269) rfl
set_option maxRecDepth 100000 in
theorem Lw_140 : Cond.selects RX1 yX1_takesOrder yX1_takesOrder ∈ lw_tbl := List.mem_of_getElem? (i := 1) rfl
set_option maxRecDepth 100000 in
theorem Lw_141 : Cond.code yX1_takesOrder cX1_takesOrder 2 (some .boolean) ∈ lw_tbl := List.mem_of_getElem? (i := 270) rfl
set_option maxRecDepth 100000 in
theorem Lw_142 : Cond.methodLink RX1 54 yX1_takesSign ∈ lw_tbl := List.mem_of_getElem? (i := 271) rfl
set_option maxRecDepth 100000 in
theorem Lw_143 : Cond.instanceMethod yX1_takesSign ∈ lw_tbl := List.mem_of_getElem? (i := 273) rfl
set_option maxRecDepth 100000 in
theorem Lw_144 : Cond.selects RX1 yX1_takesSign yX1_takesSign ∈ lw_tbl := List.mem_of_getElem? (i := 2) rfl
set_option maxRecDepth 100000 in
theorem Lw_145 : Cond.code yX1_takesSign cX1_takesSign 3 (some .boolean) ∈ lw_tbl := List.mem_of_getElem? (i := 274) rfl
set_option maxRecDepth 100000 in
theorem Lw_146 : Cond.methodLink RX1 39 yX1_needed ∈ lw_tbl := List.mem_of_getElem? (i := 275) rfl
set_option maxRecDepth 100000 in
theorem Lw_147 : Cond.instanceMethod yX1_needed ∈ lw_tbl := List.mem_of_getElem? (i := 277) rfl
set_option maxRecDepth 100000 in
theorem Lw_148 : Cond.selects RX1 yX1_needed yX1_needed ∈ lw_tbl := List.mem_of_getElem? (i := 3) rfl
set_option maxRecDepth 100000 in
theorem Lw_149 : Cond.code yX1_needed cX1_needed 1 (some .int) ∈ lw_tbl := List.mem_of_getElem? (i := 278) rfl
set_option maxRecDepth 100000 in
theorem Lw_150 : Cond.methodLink RX1 57 yX1_takesNumber ∈ lw_tbl := List.mem_of_getElem? (i := 279) rfl
set_option maxRecDepth 100000 in
theorem Lw_151 : Cond.instanceMethod yX1_takesNumber ∈ lw_tbl := List.mem_of_getElem? (i := 281) rfl
set_option maxRecDepth 100000 in
theorem Lw_152 : Cond.selects RX1 yX1_takesNumber yX1_takesNumber ∈ lw_tbl := List.mem_of_getElem? (i := 4) rfl
set_option maxRecDepth 100000 in
theorem Lw_153 : Cond.code yX1_takesNumber cX1_takesNumber 2 (some .boolean) ∈ lw_tbl := List.mem_of_getElem? (i := 282) rfl
set_option maxRecDepth 100000 in
theorem Lw_154 : Cond.methodLink RX1 63 yX1_keeps ∈ lw_tbl := List.mem_of_getElem? (i := 283) rfl
set_option maxRecDepth 100000 in
theorem Lw_155 : Cond.instanceMethod yX1_keeps ∈ lw_tbl := List.mem_of_getElem? (i := 285) rfl
set_option maxRecDepth 100000 in
theorem Lw_156 : Cond.selects RX1 yX1_keeps yX1_keeps ∈ lw_tbl := List.mem_of_getElem? (i := 5) rfl
set_option maxRecDepth 100000 in
theorem Lw_157 : Cond.code yX1_keeps cX1_keeps 2 (some .boolean) ∈ lw_tbl := List.mem_of_getElem? (i := 286) rfl
set_option maxRecDepth 100000 in
theorem Lw_158 : Cond.methodLink RX1 60 yX1_takesFigure ∈ lw_tbl := List.mem_of_getElem? (i := 287) rfl
set_option maxRecDepth 100000 in
theorem Lw_159 : Cond.instanceMethod yX1_takesFigure ∈ lw_tbl := List.mem_of_getElem? (i := 289) rfl
set_option maxRecDepth 100000 in
theorem Lw_160 : Cond.selects RX1 yX1_takesFigure yX1_takesFigure ∈ lw_tbl := List.mem_of_getElem? (i := 6) rfl
set_option maxRecDepth 100000 in
theorem Lw_161 : Cond.code yX1_takesFigure cX1_takesFigure 2 (some .boolean) ∈ lw_tbl := List.mem_of_getElem? (i := 290) rfl
set_option maxRecDepth 100000 in
theorem Lw_162 : Cond.methodLink RL 26 yX5_fault ∈ lw_tbl := List.mem_of_getElem? (i := 612) rfl
set_option maxRecDepth 100000 in
theorem Lw_163 : Cond.instanceMethod yX5_fault ∈ lw_tbl := List.mem_of_getElem? (i := 613) rfl
set_option maxRecDepth 100000 in
theorem Lw_164 : Cond.selects RX5 yX5_fault yX5_fault ∈ lw_tbl := List.mem_of_getElem? (i := 614) rfl
set_option maxRecDepth 100000 in
theorem Lw_165 : Cond.code yX5_fault cX5_fault 1 (some .long) ∈ lw_tbl := List.mem_of_getElem? (i := 615) rfl
set_option maxRecDepth 100000 in
theorem Lw_166 : Cond.methodLink RX5 99 yX5_goAlong ∈ lw_tbl := List.mem_of_getElem? (i := 616) rfl
set_option maxRecDepth 100000 in
theorem Lw_167 : Cond.instanceMethod yX5_goAlong ∈ lw_tbl := List.mem_of_getElem? (i := 618) rfl
set_option maxRecDepth 100000 in
theorem Lw_168 : Cond.selects RX5 yX5_goAlong yX5_goAlong ∈ lw_tbl := List.mem_of_getElem? (i := 21) rfl
set_option maxRecDepth 100000 in
theorem Lw_169 : Cond.code yX5_goAlong cX5_goAlong 2 (some .int) ∈ lw_tbl := List.mem_of_getElem? (i := 619) rfl
set_option maxRecDepth 100000 in
theorem Lw_170 : Cond.fieldLink RX5 71 "RestGainsModel" "newOrder" "I" ∈ lw_tbl := List.mem_of_getElem? (i := 525) rfl
set_option maxRecDepth 100000 in
theorem Lw_171 : Cond.fieldLink RX5 68 "RestGainsModel" "part" "I" ∈ lw_tbl := List.mem_of_getElem? (i := 526) rfl
set_option maxRecDepth 100000 in
theorem Lw_172 : Cond.fieldLink RX5 74 "RestGainsModel" "numbers" "I" ∈ lw_tbl := List.mem_of_getElem? (i := 527) rfl
set_option maxRecDepth 100000 in
theorem Lw_173 : Cond.fieldLink RX5 81 "RestGainsModel" "isWhole" "Z" ∈ lw_tbl := List.mem_of_getElem? (i := 528) rfl
set_option maxRecDepth 100000 in
theorem Lw_174 : Cond.fieldLink RX5 77 "RestGainsModel" "isBelow" "Z" ∈ lw_tbl := List.mem_of_getElem? (i := 529) rfl
set_option maxRecDepth 100000 in
theorem Lw_175 : Cond.methodLink RX5 96 yX5_takes ∈ lw_tbl := List.mem_of_getElem? (i := 620) rfl
set_option maxRecDepth 100000 in
theorem Lw_176 : Cond.instanceMethod yX5_takes ∈ lw_tbl := List.mem_of_getElem? (i := 622) rfl
set_option maxRecDepth 100000 in
theorem Lw_177 : Cond.selects RX5 yX5_takes yX5_takes ∈ lw_tbl := List.mem_of_getElem? (i := 22) rfl
set_option maxRecDepth 100000 in
theorem Lw_178 : Cond.code yX5_takes cX5_takes 3 (some .boolean) ∈ lw_tbl := List.mem_of_getElem? (i := 623) rfl
set_option maxRecDepth 100000 in
theorem Lw_179 : Cond.methodLink RX5 88 yX5_takesSplit ∈ lw_tbl := List.mem_of_getElem? (i := 624) rfl
set_option maxRecDepth 100000 in
theorem Lw_180 : Cond.instanceMethod yX5_takesSplit ∈ lw_tbl := List.mem_of_getElem? (i := 626) rfl
set_option maxRecDepth 100000 in
theorem Lw_181 : Cond.selects RX5 yX5_takesSplit yX5_takesSplit ∈ lw_tbl := List.mem_of_getElem? (i := 23) rfl
set_option maxRecDepth 100000 in
theorem Lw_182 : Cond.code yX5_takesSplit cX5_takesSplit 4 (some .boolean) ∈ lw_tbl := List.mem_of_getElem? (i := 627) rfl
set_option maxRecDepth 100000 in
theorem Lw_183 : Cond.methodLink RX5 84 yX5_due ∈ lw_tbl := List.mem_of_getElem? (i := 628) rfl
set_option maxRecDepth 100000 in
theorem Lw_184 : Cond.instanceMethod yX5_due ∈ lw_tbl := List.mem_of_getElem? (i := 630) rfl
set_option maxRecDepth 100000 in
theorem Lw_185 : Cond.selects RX5 yX5_due yX5_due ∈ lw_tbl := List.mem_of_getElem? (i := 24) rfl
set_option maxRecDepth 100000 in
theorem Lw_186 : Cond.code yX5_due cX5_due 1 (some .int) ∈ lw_tbl := List.mem_of_getElem? (i := 631) rfl
set_option maxRecDepth 100000 in
theorem Lw_187 : Cond.methodLink RX5 92 yX5_putNumber ∈ lw_tbl := List.mem_of_getElem? (i := 632) rfl
set_option maxRecDepth 100000 in
theorem Lw_188 : Cond.instanceMethod yX5_putNumber ∈ lw_tbl := List.mem_of_getElem? (i := 634) rfl
set_option maxRecDepth 100000 in
theorem Lw_189 : Cond.selects RX5 yX5_putNumber yX5_putNumber ∈ lw_tbl := List.mem_of_getElem? (i := 25) rfl
set_option maxRecDepth 100000 in
theorem Lw_190 : Cond.code yX5_putNumber cX5_putNumber 3 none ∈ lw_tbl := List.mem_of_getElem? (i := 635) rfl
set_option maxRecDepth 100000 in
theorem Lw_191 : Cond.methodLink RL 27 yX4_plant ∈ lw_tbl := List.mem_of_getElem? (i := 291) rfl
set_option maxRecDepth 100000 in
theorem Lw_192 : Cond.instanceMethod yX4_plant ∈ lw_tbl := List.mem_of_getElem? (i := 292) rfl
set_option maxRecDepth 100000 in
theorem Lw_193 : Cond.selects RX4 yX4_plant yX4_plant ∈ lw_tbl := List.mem_of_getElem? (i := 293) rfl
set_option maxRecDepth 100000 in
theorem Lw_194 : Cond.code yX4_plant cX4_plant 2 (some .long) ∈ lw_tbl := List.mem_of_getElem? (i := 294) rfl
set_option maxRecDepth 100000 in
theorem Lw_195 : Cond.constantLong RX4 85 (-10000000000004) ∈ lw_tbl := List.mem_of_getElem? (i := 300) rfl
set_option maxRecDepth 100000 in
theorem Lw_196 : Cond.fieldLink RX4 94 "RestGains$Plant" "order" "I" ∈ lw_tbl := List.mem_of_getElem? (i := 119) rfl
set_option maxRecDepth 100000 in
theorem Lw_197 : Cond.methodLink RX4 81 yX1_isPlant ∈ lw_tbl := List.mem_of_getElem? (i := 295) rfl
set_option maxRecDepth 100000 in
theorem Lw_198 : Cond.instanceMethod yX1_isPlant ∈ lw_tbl := List.mem_of_getElem? (i := 296) rfl
set_option maxRecDepth 100000 in
theorem Lw_199 : Cond.selects RX1 yX1_isPlant yX1_isPlant ∈ lw_tbl := List.mem_of_getElem? (i := 297) rfl
set_option maxRecDepth 100000 in
theorem Lw_200 : Cond.code yX1_isPlant cX1_isPlant 1 (some .boolean) ∈ lw_tbl := List.mem_of_getElem? (i := 298) rfl
set_option maxRecDepth 100000 in
theorem Lw_201 : Cond.methodLink RX1 35 yX1_wellBegun ∈ lw_tbl := List.mem_of_getElem? (i := 299) rfl
set_option maxRecDepth 100000 in
theorem Lw_202 : Cond.methodLink RX4 87 yX1_copyTo ∈ lw_tbl := List.mem_of_getElem? (i := 301) rfl
set_option maxRecDepth 100000 in
theorem Lw_203 : Cond.instanceMethod yX1_copyTo ∈ lw_tbl := List.mem_of_getElem? (i := 302) rfl
set_option maxRecDepth 100000 in
theorem Lw_204 : Cond.selects RX1 yX1_copyTo yX1_copyTo ∈ lw_tbl := List.mem_of_getElem? (i := 303) rfl
set_option maxRecDepth 100000 in
theorem Lw_205 : Cond.code yX1_copyTo cX1_copyTo 4 none ∈ lw_tbl := List.mem_of_getElem? (i := 304) rfl
set_option maxRecDepth 100000 in
theorem Lw_206 : Cond.fieldLink RX1 42 "RestGains$Plant" "cells" "[I" ∈ lw_tbl := List.mem_of_getElem? (i := 115) rfl
set_option maxRecDepth 100000 in
theorem Lw_207 : Cond.fieldLink RX1 47 "RestGains$Plant" "order" "I" ∈ lw_tbl := List.mem_of_getElem? (i := 118) rfl
set_option maxRecDepth 100000 in
theorem Lw_208 : Cond.methodLink RX1 48 yX3_hasCell ∈ lw_tbl := List.mem_of_getElem? (i := 305) rfl
set_option maxRecDepth 100000 in
theorem Lw_209 : Cond.instanceMethod yX3_hasCell ∈ lw_tbl := List.mem_of_getElem? (i := 306) rfl
set_option maxRecDepth 100000 in
theorem Lw_210 : Cond.selects RX3 yX3_hasCell yX3_hasCell ∈ lw_tbl := List.mem_of_getElem? (i := 307) rfl
set_option maxRecDepth 100000 in
theorem Lw_211 : Cond.code yX3_hasCell cX3_hasCell 2 (some .boolean) ∈ lw_tbl := List.mem_of_getElem? (i := 308) rfl
set_option maxRecDepth 100000 in
theorem Lw_212 : Cond.methodLink RX4 91 yX4_plantChanged ∈ lw_tbl := List.mem_of_getElem? (i := 309) rfl
set_option maxRecDepth 100000 in
theorem Lw_213 : Cond.instanceMethod yX4_plantChanged ∈ lw_tbl := List.mem_of_getElem? (i := 311) rfl
set_option maxRecDepth 100000 in
theorem Lw_214 : Cond.selects RX4 yX4_plantChanged yX4_plantChanged ∈ lw_tbl := List.mem_of_getElem? (i := 7) rfl
set_option maxRecDepth 100000 in
theorem Lw_215 : Cond.code yX4_plantChanged cX4_plantChanged 1 none ∈ lw_tbl := List.mem_of_getElem? (i := 312) rfl
set_option maxRecDepth 100000 in
theorem Lw_216 : Cond.methodLink RX4 227 yX0_build ∈ lw_tbl := List.mem_of_getElem? (i := 313) rfl
set_option maxRecDepth 100000 in
theorem Lw_217 : Cond.instanceMethod yX0_build ∈ lw_tbl := List.mem_of_getElem? (i := 314) rfl
set_option maxRecDepth 100000 in
theorem Lw_218 : Cond.selects RX0 yX0_build yX0_build ∈ lw_tbl := List.mem_of_getElem? (i := 315) rfl
set_option maxRecDepth 100000 in
theorem Lw_219 : Cond.code yX0_build cX0_build 3 none ∈ lw_tbl := List.mem_of_getElem? (i := 316) rfl
set_option maxRecDepth 100000 in
theorem Lw_220 : Cond.fieldLink RX0 41 "RestGains$Plant" "cells" "[I" ∈ lw_tbl := List.mem_of_getElem? (i := 114) rfl
set_option maxRecDepth 100000 in
theorem Lw_221 : Cond.methodLink RX0 47 yX3_goOn ∈ lw_tbl := List.mem_of_getElem? (i := 317) rfl
set_option maxRecDepth 100000 in
theorem Lw_222 : Cond.instanceMethod yX3_goOn ∈ lw_tbl := List.mem_of_getElem? (i := 318) rfl
set_option maxRecDepth 100000 in
theorem Lw_223 : Cond.selects RX3 yX3_goOn yX3_goOn ∈ lw_tbl := List.mem_of_getElem? (i := 319) rfl
set_option maxRecDepth 100000 in
theorem Lw_224 : Cond.code yX3_goOn cX3_goOn 9 none ∈ lw_tbl := List.mem_of_getElem? (i := 320) rfl
set_option maxRecDepth 100000 in
theorem Lw_225 : Cond.methodLink RX0 51 yX0_fillBase ∈ lw_tbl := List.mem_of_getElem? (i := 321) rfl
set_option maxRecDepth 100000 in
theorem Lw_226 : Cond.instanceMethod yX0_fillBase ∈ lw_tbl := List.mem_of_getElem? (i := 323) rfl
set_option maxRecDepth 100000 in
theorem Lw_227 : Cond.selects RX0 yX0_fillBase yX0_fillBase ∈ lw_tbl := List.mem_of_getElem? (i := 8) rfl
set_option maxRecDepth 100000 in
theorem Lw_228 : Cond.code yX0_fillBase cX0_fillBase 3 none ∈ lw_tbl := List.mem_of_getElem? (i := 324) rfl
set_option maxRecDepth 100000 in
theorem Lw_229 : Cond.static yX4_cross ∈ lw_tbl := List.mem_of_getElem? (i := 326) rfl
set_option maxRecDepth 100000 in
theorem Lw_230 : Cond.code yX4_cross cX4_cross 3 none ∈ lw_tbl := List.mem_of_getElem? (i := 327) rfl
set_option maxRecDepth 100000 in
theorem Lw_231 : Cond.static yX4_copy ∈ lw_tbl := List.mem_of_getElem? (i := 329) rfl
set_option maxRecDepth 100000 in
theorem Lw_232 : Cond.code yX4_copy cX4_copy 3 none ∈ lw_tbl := List.mem_of_getElem? (i := 330) rfl
set_option maxRecDepth 100000 in
theorem Lw_233 : Cond.static yX4_dot ∈ lw_tbl := List.mem_of_getElem? (i := 332) rfl
set_option maxRecDepth 100000 in
theorem Lw_234 : Cond.code yX4_dot cX4_dot 2 (some .long) ∈ lw_tbl := List.mem_of_getElem? (i := 333) rfl
set_option maxRecDepth 100000 in
theorem Lw_235 : Cond.static yX4_firstNotZero ∈ lw_tbl := List.mem_of_getElem? (i := 335) rfl
set_option maxRecDepth 100000 in
theorem Lw_236 : Cond.code yX4_firstNotZero cX4_firstNotZero 2 (some .int) ∈ lw_tbl := List.mem_of_getElem? (i := 336) rfl
set_option maxRecDepth 100000 in
theorem Lw_237 : Cond.static yX4_setUnit ∈ lw_tbl := List.mem_of_getElem? (i := 338) rfl
set_option maxRecDepth 100000 in
theorem Lw_238 : Cond.code yX4_setUnit cX4_setUnit 3 none ∈ lw_tbl := List.mem_of_getElem? (i := 339) rfl
set_option maxRecDepth 100000 in
theorem Lw_239 : Cond.methodLink RX0 62 yX0_findGains ∈ lw_tbl := List.mem_of_getElem? (i := 340) rfl
set_option maxRecDepth 100000 in
theorem Lw_240 : Cond.instanceMethod yX0_findGains ∈ lw_tbl := List.mem_of_getElem? (i := 342) rfl
set_option maxRecDepth 100000 in
theorem Lw_241 : Cond.selects RX0 yX0_findGains yX0_findGains ∈ lw_tbl := List.mem_of_getElem? (i := 9) rfl
set_option maxRecDepth 100000 in
theorem Lw_242 : Cond.code yX0_findGains cX0_findGains 4 none ∈ lw_tbl := List.mem_of_getElem? (i := 343) rfl
set_option maxRecDepth 100000 in
theorem Lw_243 : Cond.fieldLink RX0 82 "RestGains$Plant" "order" "I" ∈ lw_tbl := List.mem_of_getElem? (i := 120) rfl
set_option maxRecDepth 100000 in
theorem Lw_244 : Cond.methodLink RX0 85 yX3_carry ∈ lw_tbl := List.mem_of_getElem? (i := 344) rfl
set_option maxRecDepth 100000 in
theorem Lw_245 : Cond.instanceMethod yX3_carry ∈ lw_tbl := List.mem_of_getElem? (i := 345) rfl
set_option maxRecDepth 100000 in
theorem Lw_246 : Cond.selects RX3 yX3_carry yX3_carry ∈ lw_tbl := List.mem_of_getElem? (i := 346) rfl
set_option maxRecDepth 100000 in
theorem Lw_247 : Cond.code yX3_carry cX3_carry 5 none ∈ lw_tbl := List.mem_of_getElem? (i := 347) rfl
set_option maxRecDepth 100000 in
theorem Lw_248 : Cond.methodLink RX3 23 yX3_goOn ∈ lw_tbl := List.mem_of_getElem? (i := 348) rfl
set_option maxRecDepth 100000 in
theorem Lw_249 : Cond.methodLink RX0 66 yX0_share ∈ lw_tbl := List.mem_of_getElem? (i := 350) rfl
set_option maxRecDepth 100000 in
theorem Lw_250 : Cond.instanceMethod yX0_share ∈ lw_tbl := List.mem_of_getElem? (i := 351) rfl
set_option maxRecDepth 100000 in
theorem Lw_251 : Cond.selects RX0 yX0_share yX0_share ∈ lw_tbl := List.mem_of_getElem? (i := 352) rfl
set_option maxRecDepth 100000 in
theorem Lw_252 : Cond.code yX0_share cX0_share 3 (some .long) ∈ lw_tbl := List.mem_of_getElem? (i := 353) rfl
set_option maxRecDepth 100000 in
theorem Lw_253 : Cond.methodLink RL 30 yX5_plant ∈ lw_tbl := List.mem_of_getElem? (i := 636) rfl
set_option maxRecDepth 100000 in
theorem Lw_254 : Cond.instanceMethod yX5_plant ∈ lw_tbl := List.mem_of_getElem? (i := 637) rfl
set_option maxRecDepth 100000 in
theorem Lw_255 : Cond.selects RX5 yX5_plant yX5_plant ∈ lw_tbl := List.mem_of_getElem? (i := 638) rfl
set_option maxRecDepth 100000 in
theorem Lw_256 : Cond.code yX5_plant cX5_plant 2 (some .long) ∈ lw_tbl := List.mem_of_getElem? (i := 639) rfl
set_option maxRecDepth 100000 in
theorem Lw_257 : Cond.constantLong RX5 102 (-10000000000004) ∈ lw_tbl := List.mem_of_getElem? (i := 640) rfl
set_option maxRecDepth 100000 in
theorem Lw_258 : Cond.fieldLink RX5 104 "RestGainsModel" "order" "I" ∈ lw_tbl := List.mem_of_getElem? (i := 519) rfl
set_option maxRecDepth 100000 in
theorem Lw_259 : Cond.fieldLink RX5 110 "RestGainsModel" "plantsRead" "I" ∈ lw_tbl := List.mem_of_getElem? (i := 523) rfl
set_option maxRecDepth 100000 in
theorem Lw_260 : Cond.methodLink RX5 107 yX5_isThere ∈ lw_tbl := List.mem_of_getElem? (i := 641) rfl
set_option maxRecDepth 100000 in
theorem Lw_261 : Cond.instanceMethod yX5_isThere ∈ lw_tbl := List.mem_of_getElem? (i := 643) rfl
set_option maxRecDepth 100000 in
theorem Lw_262 : Cond.selects RX5 yX5_isThere yX5_isThere ∈ lw_tbl := List.mem_of_getElem? (i := 26) rfl
set_option maxRecDepth 100000 in
theorem Lw_263 : Cond.code yX5_isThere cX5_isThere 2 (some .boolean) ∈ lw_tbl := List.mem_of_getElem? (i := 644) rfl
set_option maxRecDepth 100000 in
theorem Lw_264 : Cond.methodLink RX5 113 yX5_isPlace ∈ lw_tbl := List.mem_of_getElem? (i := 645) rfl
set_option maxRecDepth 100000 in
theorem Lw_265 : Cond.instanceMethod yX5_isPlace ∈ lw_tbl := List.mem_of_getElem? (i := 647) rfl
set_option maxRecDepth 100000 in
theorem Lw_266 : Cond.selects RX5 yX5_isPlace yX5_isPlace ∈ lw_tbl := List.mem_of_getElem? (i := 27) rfl
set_option maxRecDepth 100000 in
theorem Lw_267 : Cond.code yX5_isPlace cX5_isPlace 2 (some .boolean) ∈ lw_tbl := List.mem_of_getElem? (i := 648) rfl
set_option maxRecDepth 100000 in
theorem Lw_268 : Cond.methodLink RL 31 yX4_alter ∈ lw_tbl := List.mem_of_getElem? (i := 354) rfl
set_option maxRecDepth 100000 in
theorem Lw_269 : Cond.instanceMethod yX4_alter ∈ lw_tbl := List.mem_of_getElem? (i := 355) rfl
set_option maxRecDepth 100000 in
theorem Lw_270 : Cond.selects RX4 yX4_alter yX4_alter ∈ lw_tbl := List.mem_of_getElem? (i := 356) rfl
set_option maxRecDepth 100000 in
theorem Lw_271 : Cond.code yX4_alter cX4_alter 4 (some .long) ∈ lw_tbl := List.mem_of_getElem? (i := 357) rfl
set_option maxRecDepth 100000 in
theorem Lw_272 : Cond.constantLong RX4 101 (-10000000000002) ∈ lw_tbl := List.mem_of_getElem? (i := 359) rfl
set_option maxRecDepth 100000 in
theorem Lw_273 : Cond.fieldLink RX4 103 "RestGains$Plant" "cells" "[I" ∈ lw_tbl := List.mem_of_getElem? (i := 116) rfl
set_option maxRecDepth 100000 in
theorem Lw_274 : Cond.methodLink RX4 97 yX3_hasCell ∈ lw_tbl := List.mem_of_getElem? (i := 358) rfl
set_option maxRecDepth 100000 in
theorem Lw_275 : Cond.methodLink RL 35 yX5_alter ∈ lw_tbl := List.mem_of_getElem? (i := 649) rfl
set_option maxRecDepth 100000 in
theorem Lw_276 : Cond.instanceMethod yX5_alter ∈ lw_tbl := List.mem_of_getElem? (i := 650) rfl
set_option maxRecDepth 100000 in
theorem Lw_277 : Cond.selects RX5 yX5_alter yX5_alter ∈ lw_tbl := List.mem_of_getElem? (i := 651) rfl
set_option maxRecDepth 100000 in
theorem Lw_278 : Cond.code yX5_alter cX5_alter 4 (some .long) ∈ lw_tbl := List.mem_of_getElem? (i := 652) rfl
set_option maxRecDepth 100000 in
theorem Lw_279 : Cond.constantLong RX5 116 (-10000000000002) ∈ lw_tbl := List.mem_of_getElem? (i := 653) rfl
set_option maxRecDepth 100000 in
theorem Lw_280 : Cond.methodLink RL 36 yX4_has ∈ lw_tbl := List.mem_of_getElem? (i := 360) rfl
set_option maxRecDepth 100000 in
theorem Lw_281 : Cond.instanceMethod yX4_has ∈ lw_tbl := List.mem_of_getElem? (i := 361) rfl
set_option maxRecDepth 100000 in
theorem Lw_282 : Cond.selects RX4 yX4_has yX4_has ∈ lw_tbl := List.mem_of_getElem? (i := 362) rfl
set_option maxRecDepth 100000 in
theorem Lw_283 : Cond.code yX4_has cX4_has 2 (some .long) ∈ lw_tbl := List.mem_of_getElem? (i := 363) rfl
set_option maxRecDepth 100000 in
theorem Lw_284 : Cond.methodLink RL 39 yX5_has ∈ lw_tbl := List.mem_of_getElem? (i := 654) rfl
set_option maxRecDepth 100000 in
theorem Lw_285 : Cond.instanceMethod yX5_has ∈ lw_tbl := List.mem_of_getElem? (i := 655) rfl
set_option maxRecDepth 100000 in
theorem Lw_286 : Cond.selects RX5 yX5_has yX5_has ∈ lw_tbl := List.mem_of_getElem? (i := 656) rfl
set_option maxRecDepth 100000 in
theorem Lw_287 : Cond.code yX5_has cX5_has 2 (some .long) ∈ lw_tbl := List.mem_of_getElem? (i := 657) rfl
set_option maxRecDepth 100000 in
theorem Lw_288 : Cond.methodLink RL 40 yX4_start ∈ lw_tbl := List.mem_of_getElem? (i := 364) rfl
set_option maxRecDepth 100000 in
theorem Lw_289 : Cond.instanceMethod yX4_start ∈ lw_tbl := List.mem_of_getElem? (i := 365) rfl
set_option maxRecDepth 100000 in
theorem Lw_290 : Cond.selects RX4 yX4_start yX4_start ∈ lw_tbl := List.mem_of_getElem? (i := 366) rfl
set_option maxRecDepth 100000 in
theorem Lw_291 : Cond.code yX4_start cX4_start 5 (some .long) ∈ lw_tbl := List.mem_of_getElem? (i := 367) rfl
set_option maxRecDepth 100000 in
theorem Lw_292 : Cond.methodLink RX4 107 yX3_hasPlace ∈ lw_tbl := List.mem_of_getElem? (i := 368) rfl
set_option maxRecDepth 100000 in
theorem Lw_293 : Cond.instanceMethod yX3_hasPlace ∈ lw_tbl := List.mem_of_getElem? (i := 369) rfl
set_option maxRecDepth 100000 in
theorem Lw_294 : Cond.selects RX3 yX3_hasPlace yX3_hasPlace ∈ lw_tbl := List.mem_of_getElem? (i := 370) rfl
set_option maxRecDepth 100000 in
theorem Lw_295 : Cond.code yX3_hasPlace cX3_hasPlace 2 (some .boolean) ∈ lw_tbl := List.mem_of_getElem? (i := 371) rfl
set_option maxRecDepth 100000 in
theorem Lw_296 : Cond.methodLink RL 43 yX5_start ∈ lw_tbl := List.mem_of_getElem? (i := 658) rfl
set_option maxRecDepth 100000 in
theorem Lw_297 : Cond.instanceMethod yX5_start ∈ lw_tbl := List.mem_of_getElem? (i := 659) rfl
set_option maxRecDepth 100000 in
theorem Lw_298 : Cond.selects RX5 yX5_start yX5_start ∈ lw_tbl := List.mem_of_getElem? (i := 660) rfl
set_option maxRecDepth 100000 in
theorem Lw_299 : Cond.code yX5_start cX5_start 5 (some .long) ∈ lw_tbl := List.mem_of_getElem? (i := 661) rfl
set_option maxRecDepth 100000 in
theorem Lw_300 : Cond.methodLink RL 44 yX4_limit ∈ lw_tbl := List.mem_of_getElem? (i := 372) rfl
set_option maxRecDepth 100000 in
theorem Lw_301 : Cond.instanceMethod yX4_limit ∈ lw_tbl := List.mem_of_getElem? (i := 373) rfl
set_option maxRecDepth 100000 in
theorem Lw_302 : Cond.selects RX4 yX4_limit yX4_limit ∈ lw_tbl := List.mem_of_getElem? (i := 374) rfl
set_option maxRecDepth 100000 in
theorem Lw_303 : Cond.code yX4_limit cX4_limit 3 (some .long) ∈ lw_tbl := List.mem_of_getElem? (i := 375) rfl
set_option maxRecDepth 100000 in
theorem Lw_304 : Cond.methodLink RL 47 yX5_limit ∈ lw_tbl := List.mem_of_getElem? (i := 662) rfl
set_option maxRecDepth 100000 in
theorem Lw_305 : Cond.instanceMethod yX5_limit ∈ lw_tbl := List.mem_of_getElem? (i := 663) rfl
set_option maxRecDepth 100000 in
theorem Lw_306 : Cond.selects RX5 yX5_limit yX5_limit ∈ lw_tbl := List.mem_of_getElem? (i := 664) rfl
set_option maxRecDepth 100000 in
theorem Lw_307 : Cond.code yX5_limit cX5_limit 3 (some .long) ∈ lw_tbl := List.mem_of_getElem? (i := 665) rfl
set_option maxRecDepth 100000 in
theorem Lw_308 : Cond.methodLink RL 48 yX4_tick ∈ lw_tbl := List.mem_of_getElem? (i := 376) rfl
set_option maxRecDepth 100000 in
theorem Lw_309 : Cond.instanceMethod yX4_tick ∈ lw_tbl := List.mem_of_getElem? (i := 377) rfl
set_option maxRecDepth 100000 in
theorem Lw_310 : Cond.selects RX4 yX4_tick yX4_tick ∈ lw_tbl := List.mem_of_getElem? (i := 378) rfl
set_option maxRecDepth 100000 in
theorem Lw_311 : Cond.code yX4_tick cX4_tick 3 (some .long) ∈ lw_tbl := List.mem_of_getElem? (i := 379) rfl
set_option maxRecDepth 100000 in
theorem Lw_312 : Cond.constantLong RX4 114 (-1000000) ∈ lw_tbl := List.mem_of_getElem? (i := 381) rfl
set_option maxRecDepth 100000 in
theorem Lw_313 : Cond.constantLong RX4 116 (1000000) ∈ lw_tbl := List.mem_of_getElem? (i := 382) rfl
set_option maxRecDepth 100000 in
theorem Lw_314 : Cond.methodLink RX4 110 yX3_goOn ∈ lw_tbl := List.mem_of_getElem? (i := 380) rfl
set_option maxRecDepth 100000 in
theorem Lw_315 : Cond.methodLink RX4 118 yX4_copy ∈ lw_tbl := List.mem_of_getElem? (i := 383) rfl
set_option maxRecDepth 100000 in
theorem Lw_316 : Cond.methodLink RX4 122 yX3_seen ∈ lw_tbl := List.mem_of_getElem? (i := 384) rfl
set_option maxRecDepth 100000 in
theorem Lw_317 : Cond.instanceMethod yX3_seen ∈ lw_tbl := List.mem_of_getElem? (i := 385) rfl
set_option maxRecDepth 100000 in
theorem Lw_318 : Cond.selects RX3 yX3_seen yX3_seen ∈ lw_tbl := List.mem_of_getElem? (i := 386) rfl
set_option maxRecDepth 100000 in
theorem Lw_319 : Cond.code yX3_seen cX3_seen 2 (some .long) ∈ lw_tbl := List.mem_of_getElem? (i := 387) rfl
set_option maxRecDepth 100000 in
theorem Lw_320 : Cond.methodLink RL 51 yX5_tick ∈ lw_tbl := List.mem_of_getElem? (i := 666) rfl
set_option maxRecDepth 100000 in
theorem Lw_321 : Cond.instanceMethod yX5_tick ∈ lw_tbl := List.mem_of_getElem? (i := 667) rfl
set_option maxRecDepth 100000 in
theorem Lw_322 : Cond.selects RX5 yX5_tick yX5_tick ∈ lw_tbl := List.mem_of_getElem? (i := 668) rfl
set_option maxRecDepth 100000 in
theorem Lw_323 : Cond.code yX5_tick cX5_tick 3 (some .long) ∈ lw_tbl := List.mem_of_getElem? (i := 669) rfl
set_option maxRecDepth 100000 in
theorem Lw_324 : Cond.constantLong RX5 125 (-1000000) ∈ lw_tbl := List.mem_of_getElem? (i := 678) rfl
set_option maxRecDepth 100000 in
theorem Lw_325 : Cond.constantLong RX5 127 (1000000) ∈ lw_tbl := List.mem_of_getElem? (i := 679) rfl
set_option maxRecDepth 100000 in
theorem Lw_326 : Cond.fieldLink RX5 129 "RestGainsModel" "ticksEver" "I" ∈ lw_tbl := List.mem_of_getElem? (i := 524) rfl
set_option maxRecDepth 100000 in
theorem Lw_327 : Cond.methodLink RX5 118 yX5_layTried ∈ lw_tbl := List.mem_of_getElem? (i := 670) rfl
set_option maxRecDepth 100000 in
theorem Lw_328 : Cond.instanceMethod yX5_layTried ∈ lw_tbl := List.mem_of_getElem? (i := 672) rfl
set_option maxRecDepth 100000 in
theorem Lw_329 : Cond.selects RX5 yX5_layTried yX5_layTried ∈ lw_tbl := List.mem_of_getElem? (i := 28) rfl
set_option maxRecDepth 100000 in
theorem Lw_330 : Cond.code yX5_layTried cX5_layTried 2 none ∈ lw_tbl := List.mem_of_getElem? (i := 673) rfl
set_option maxRecDepth 100000 in
theorem Lw_331 : Cond.methodLink RX5 121 yX5_goOn ∈ lw_tbl := List.mem_of_getElem? (i := 674) rfl
set_option maxRecDepth 100000 in
theorem Lw_332 : Cond.instanceMethod yX5_goOn ∈ lw_tbl := List.mem_of_getElem? (i := 676) rfl
set_option maxRecDepth 100000 in
theorem Lw_333 : Cond.selects RX5 yX5_goOn yX5_goOn ∈ lw_tbl := List.mem_of_getElem? (i := 29) rfl
set_option maxRecDepth 100000 in
theorem Lw_334 : Cond.code yX5_goOn cX5_goOn 6 none ∈ lw_tbl := List.mem_of_getElem? (i := 677) rfl
set_option maxRecDepth 100000 in
theorem Lw_335 : Cond.methodLink RX5 132 yX5_seenNow ∈ lw_tbl := List.mem_of_getElem? (i := 680) rfl
set_option maxRecDepth 100000 in
theorem Lw_336 : Cond.instanceMethod yX5_seenNow ∈ lw_tbl := List.mem_of_getElem? (i := 682) rfl
set_option maxRecDepth 100000 in
theorem Lw_337 : Cond.selects RX5 yX5_seenNow yX5_seenNow ∈ lw_tbl := List.mem_of_getElem? (i := 30) rfl
set_option maxRecDepth 100000 in
theorem Lw_338 : Cond.code yX5_seenNow cX5_seenNow 4 (some .long) ∈ lw_tbl := List.mem_of_getElem? (i := 683) rfl
set_option maxRecDepth 100000 in
theorem Lw_339 : Cond.methodLink RL 52 yX4_row ∈ lw_tbl := List.mem_of_getElem? (i := 388) rfl
set_option maxRecDepth 100000 in
theorem Lw_340 : Cond.instanceMethod yX4_row ∈ lw_tbl := List.mem_of_getElem? (i := 389) rfl
set_option maxRecDepth 100000 in
theorem Lw_341 : Cond.selects RX4 yX4_row yX4_row ∈ lw_tbl := List.mem_of_getElem? (i := 390) rfl
set_option maxRecDepth 100000 in
theorem Lw_342 : Cond.code yX4_row cX4_row 4 (some .long) ∈ lw_tbl := List.mem_of_getElem? (i := 391) rfl
set_option maxRecDepth 100000 in
theorem Lw_343 : Cond.fieldLink RX4 130 "RestGains$Chain" "rows" "[[J" ∈ lw_tbl := List.mem_of_getElem? (i := 140) rfl
set_option maxRecDepth 100000 in
theorem Lw_344 : Cond.methodLink RX4 126 yX4_chain ∈ lw_tbl := List.mem_of_getElem? (i := 392) rfl
set_option maxRecDepth 100000 in
theorem Lw_345 : Cond.instanceMethod yX4_chain ∈ lw_tbl := List.mem_of_getElem? (i := 394) rfl
set_option maxRecDepth 100000 in
theorem Lw_346 : Cond.selects RX4 yX4_chain yX4_chain ∈ lw_tbl := List.mem_of_getElem? (i := 10) rfl
set_option maxRecDepth 100000 in
theorem Lw_347 : Cond.code yX4_chain cX4_chain 2 (some (.object "RestGains$Chain")) ∈ lw_tbl := List.mem_of_getElem? (i := 395) rfl
set_option maxRecDepth 100000 in
theorem Lw_348 : Cond.methodLink RL 56 yX5_row ∈ lw_tbl := List.mem_of_getElem? (i := 684) rfl
set_option maxRecDepth 100000 in
theorem Lw_349 : Cond.instanceMethod yX5_row ∈ lw_tbl := List.mem_of_getElem? (i := 685) rfl
set_option maxRecDepth 100000 in
theorem Lw_350 : Cond.selects RX5 yX5_row yX5_row ∈ lw_tbl := List.mem_of_getElem? (i := 686) rfl
set_option maxRecDepth 100000 in
theorem Lw_351 : Cond.code yX5_row cX5_row 4 (some .long) ∈ lw_tbl := List.mem_of_getElem? (i := 687) rfl
set_option maxRecDepth 100000 in
theorem Lw_352 : Cond.methodLink RX5 140 yX5_layRows ∈ lw_tbl := List.mem_of_getElem? (i := 688) rfl
set_option maxRecDepth 100000 in
theorem Lw_353 : Cond.instanceMethod yX5_layRows ∈ lw_tbl := List.mem_of_getElem? (i := 690) rfl
set_option maxRecDepth 100000 in
theorem Lw_354 : Cond.selects RX5 yX5_layRows yX5_layRows ∈ lw_tbl := List.mem_of_getElem? (i := 31) rfl
set_option maxRecDepth 100000 in
theorem Lw_355 : Cond.code yX5_layRows cX5_layRows 5 none ∈ lw_tbl := List.mem_of_getElem? (i := 691) rfl
set_option maxRecDepth 100000 in
theorem Lw_356 : Cond.methodLink RX5 136 yX5_tableAt ∈ lw_tbl := List.mem_of_getElem? (i := 692) rfl
set_option maxRecDepth 100000 in
theorem Lw_357 : Cond.instanceMethod yX5_tableAt ∈ lw_tbl := List.mem_of_getElem? (i := 694) rfl
set_option maxRecDepth 100000 in
theorem Lw_358 : Cond.selects RX5 yX5_tableAt yX5_tableAt ∈ lw_tbl := List.mem_of_getElem? (i := 32) rfl
set_option maxRecDepth 100000 in
theorem Lw_359 : Cond.code yX5_tableAt cX5_tableAt 4 (some .int) ∈ lw_tbl := List.mem_of_getElem? (i := 695) rfl
set_option maxRecDepth 100000 in
theorem Lw_360 : Cond.methodLink RL 57 yX4_about ∈ lw_tbl := List.mem_of_getElem? (i := 396) rfl
set_option maxRecDepth 100000 in
theorem Lw_361 : Cond.instanceMethod yX4_about ∈ lw_tbl := List.mem_of_getElem? (i := 397) rfl
set_option maxRecDepth 100000 in
theorem Lw_362 : Cond.selects RX4 yX4_about yX4_about ∈ lw_tbl := List.mem_of_getElem? (i := 398) rfl
set_option maxRecDepth 100000 in
theorem Lw_363 : Cond.code yX4_about cX4_about 2 (some .long) ∈ lw_tbl := List.mem_of_getElem? (i := 399) rfl
set_option maxRecDepth 100000 in
theorem Lw_364 : Cond.fieldLink RX4 134 "RestGains$Chain" "rank" "I" ∈ lw_tbl := List.mem_of_getElem? (i := 145) rfl
set_option maxRecDepth 100000 in
theorem Lw_365 : Cond.methodLink RX4 137 yX4_isFull ∈ lw_tbl := List.mem_of_getElem? (i := 400) rfl
set_option maxRecDepth 100000 in
theorem Lw_366 : Cond.instanceMethod yX4_isFull ∈ lw_tbl := List.mem_of_getElem? (i := 402) rfl
set_option maxRecDepth 100000 in
theorem Lw_367 : Cond.selects RX4 yX4_isFull yX4_isFull ∈ lw_tbl := List.mem_of_getElem? (i := 11) rfl
set_option maxRecDepth 100000 in
theorem Lw_368 : Cond.code yX4_isFull cX4_isFull 2 (some .boolean) ∈ lw_tbl := List.mem_of_getElem? (i := 403) rfl
set_option maxRecDepth 100000 in
theorem Lw_369 : Cond.methodLink RX4 141 yX4_canRest ∈ lw_tbl := List.mem_of_getElem? (i := 404) rfl
set_option maxRecDepth 100000 in
theorem Lw_370 : Cond.instanceMethod yX4_canRest ∈ lw_tbl := List.mem_of_getElem? (i := 406) rfl
set_option maxRecDepth 100000 in
theorem Lw_371 : Cond.selects RX4 yX4_canRest yX4_canRest ∈ lw_tbl := List.mem_of_getElem? (i := 12) rfl
set_option maxRecDepth 100000 in
theorem Lw_372 : Cond.code yX4_canRest cX4_canRest 1 (some .boolean) ∈ lw_tbl := List.mem_of_getElem? (i := 407) rfl
set_option maxRecDepth 100000 in
theorem Lw_373 : Cond.methodLink RX4 230 yX3_carry ∈ lw_tbl := List.mem_of_getElem? (i := 408) rfl
set_option maxRecDepth 100000 in
theorem Lw_374 : Cond.methodLink RX4 234 yX0_spans ∈ lw_tbl := List.mem_of_getElem? (i := 409) rfl
set_option maxRecDepth 100000 in
theorem Lw_375 : Cond.instanceMethod yX0_spans ∈ lw_tbl := List.mem_of_getElem? (i := 410) rfl
set_option maxRecDepth 100000 in
theorem Lw_376 : Cond.selects RX0 yX0_spans yX0_spans ∈ lw_tbl := List.mem_of_getElem? (i := 411) rfl
set_option maxRecDepth 100000 in
theorem Lw_377 : Cond.code yX0_spans cX0_spans 4 (some .boolean) ∈ lw_tbl := List.mem_of_getElem? (i := 412) rfl
set_option maxRecDepth 100000 in
theorem Lw_378 : Cond.methodLink RL 60 yX5_about ∈ lw_tbl := List.mem_of_getElem? (i := 817) rfl
set_option maxRecDepth 100000 in
theorem Lw_379 : Cond.instanceMethod yX5_about ∈ lw_tbl := List.mem_of_getElem? (i := 818) rfl
set_option maxRecDepth 100000 in
theorem Lw_380 : Cond.selects RX5 yX5_about yX5_about ∈ lw_tbl := List.mem_of_getElem? (i := 819) rfl
set_option maxRecDepth 100000 in
theorem Lw_381 : Cond.code yX5_about cX5_about 2 (some .long) ∈ lw_tbl := List.mem_of_getElem? (i := 820) rfl
set_option maxRecDepth 100000 in
theorem Lw_382 : Cond.methodLink RX5 252 yX5_aboutNow ∈ lw_tbl := List.mem_of_getElem? (i := 821) rfl
set_option maxRecDepth 100000 in
theorem Lw_383 : Cond.instanceMethod yX5_aboutNow ∈ lw_tbl := List.mem_of_getElem? (i := 823) rfl
set_option maxRecDepth 100000 in
theorem Lw_384 : Cond.selects RX5 yX5_aboutNow yX5_aboutNow ∈ lw_tbl := List.mem_of_getElem? (i := 55) rfl
set_option maxRecDepth 100000 in
theorem Lw_385 : Cond.code yX5_aboutNow cX5_aboutNow 2 (some .long) ∈ lw_tbl := List.mem_of_getElem? (i := 824) rfl
set_option maxRecDepth 100000 in
theorem Lw_386 : Cond.methodLink RX5 159 yX5_rankNow ∈ lw_tbl := List.mem_of_getElem? (i := 707) rfl
set_option maxRecDepth 100000 in
theorem Lw_387 : Cond.instanceMethod yX5_rankNow ∈ lw_tbl := List.mem_of_getElem? (i := 709) rfl
set_option maxRecDepth 100000 in
theorem Lw_388 : Cond.selects RX5 yX5_rankNow yX5_rankNow ∈ lw_tbl := List.mem_of_getElem? (i := 34) rfl
set_option maxRecDepth 100000 in
theorem Lw_389 : Cond.code yX5_rankNow cX5_rankNow 2 (some .int) ∈ lw_tbl := List.mem_of_getElem? (i := 710) rfl
set_option maxRecDepth 100000 in
theorem Lw_390 : Cond.methodLink RX5 148 yX5_determinant ∈ lw_tbl := List.mem_of_getElem? (i := 711) rfl
set_option maxRecDepth 100000 in
theorem Lw_391 : Cond.instanceMethod yX5_determinant ∈ lw_tbl := List.mem_of_getElem? (i := 713) rfl
set_option maxRecDepth 100000 in
theorem Lw_392 : Cond.selects RX5 yX5_determinant yX5_determinant ∈ lw_tbl := List.mem_of_getElem? (i := 35) rfl
set_option maxRecDepth 100000 in
theorem Lw_393 : Cond.code yX5_determinant cX5_determinant 11 (some .long) ∈ lw_tbl := List.mem_of_getElem? (i := 714) rfl
set_option maxRecDepth 100000 in
theorem Lw_394 : Cond.methodLink RX5 144 yX5_at ∈ lw_tbl := List.mem_of_getElem? (i := 715) rfl
set_option maxRecDepth 100000 in
theorem Lw_395 : Cond.static yX5_at ∈ lw_tbl := List.mem_of_getElem? (i := 716) rfl
set_option maxRecDepth 100000 in
theorem Lw_396 : Cond.code yX5_at cX5_at 5 (some .long) ∈ lw_tbl := List.mem_of_getElem? (i := 717) rfl
set_option maxRecDepth 100000 in
theorem Lw_397 : Cond.methodLink RX5 152 yX5_areTwo ∈ lw_tbl := List.mem_of_getElem? (i := 718) rfl
set_option maxRecDepth 100000 in
theorem Lw_398 : Cond.instanceMethod yX5_areTwo ∈ lw_tbl := List.mem_of_getElem? (i := 720) rfl
set_option maxRecDepth 100000 in
theorem Lw_399 : Cond.selects RX5 yX5_areTwo yX5_areTwo ∈ lw_tbl := List.mem_of_getElem? (i := 36) rfl
set_option maxRecDepth 100000 in
theorem Lw_400 : Cond.code yX5_areTwo cX5_areTwo 8 (some .boolean) ∈ lw_tbl := List.mem_of_getElem? (i := 721) rfl
set_option maxRecDepth 100000 in
theorem Lw_401 : Cond.methodLink RX5 156 yX5_isAny ∈ lw_tbl := List.mem_of_getElem? (i := 722) rfl
set_option maxRecDepth 100000 in
theorem Lw_402 : Cond.instanceMethod yX5_isAny ∈ lw_tbl := List.mem_of_getElem? (i := 724) rfl
set_option maxRecDepth 100000 in
theorem Lw_403 : Cond.selects RX5 yX5_isAny yX5_isAny ∈ lw_tbl := List.mem_of_getElem? (i := 37) rfl
set_option maxRecDepth 100000 in
theorem Lw_404 : Cond.code yX5_isAny cX5_isAny 3 (some .boolean) ∈ lw_tbl := List.mem_of_getElem? (i := 725) rfl
set_option maxRecDepth 100000 in
theorem Lw_405 : Cond.methodLink RX5 192 yX5_isFull ∈ lw_tbl := List.mem_of_getElem? (i := 703) rfl
set_option maxRecDepth 100000 in
theorem Lw_406 : Cond.instanceMethod yX5_isFull ∈ lw_tbl := List.mem_of_getElem? (i := 705) rfl
set_option maxRecDepth 100000 in
theorem Lw_407 : Cond.selects RX5 yX5_isFull yX5_isFull ∈ lw_tbl := List.mem_of_getElem? (i := 33) rfl
set_option maxRecDepth 100000 in
theorem Lw_408 : Cond.code yX5_isFull cX5_isFull 2 (some .boolean) ∈ lw_tbl := List.mem_of_getElem? (i := 706) rfl
set_option maxRecDepth 100000 in
theorem Lw_409 : Cond.methodLink RX5 249 yX5_canRest ∈ lw_tbl := List.mem_of_getElem? (i := 825) rfl
set_option maxRecDepth 100000 in
theorem Lw_410 : Cond.instanceMethod yX5_canRest ∈ lw_tbl := List.mem_of_getElem? (i := 827) rfl
set_option maxRecDepth 100000 in
theorem Lw_411 : Cond.selects RX5 yX5_canRest yX5_canRest ∈ lw_tbl := List.mem_of_getElem? (i := 56) rfl
set_option maxRecDepth 100000 in
theorem Lw_412 : Cond.code yX5_canRest cX5_canRest 3 (some .boolean) ∈ lw_tbl := List.mem_of_getElem? (i := 828) rfl
set_option maxRecDepth 100000 in
theorem Lw_413 : Cond.methodLink RX5 246 yX5_isMore ∈ lw_tbl := List.mem_of_getElem? (i := 829) rfl
set_option maxRecDepth 100000 in
theorem Lw_414 : Cond.instanceMethod yX5_isMore ∈ lw_tbl := List.mem_of_getElem? (i := 831) rfl
set_option maxRecDepth 100000 in
theorem Lw_415 : Cond.selects RX5 yX5_isMore yX5_isMore ∈ lw_tbl := List.mem_of_getElem? (i := 57) rfl
set_option maxRecDepth 100000 in
theorem Lw_416 : Cond.code yX5_isMore cX5_isMore 4 (some .boolean) ∈ lw_tbl := List.mem_of_getElem? (i := 832) rfl
set_option maxRecDepth 100000 in
theorem Lw_417 : Cond.methodLink RL 61 yX4_gain ∈ lw_tbl := List.mem_of_getElem? (i := 413) rfl
set_option maxRecDepth 100000 in
theorem Lw_418 : Cond.instanceMethod yX4_gain ∈ lw_tbl := List.mem_of_getElem? (i := 414) rfl
set_option maxRecDepth 100000 in
theorem Lw_419 : Cond.selects RX4 yX4_gain yX4_gain ∈ lw_tbl := List.mem_of_getElem? (i := 415) rfl
set_option maxRecDepth 100000 in
theorem Lw_420 : Cond.code yX4_gain cX4_gain 5 (some .long) ∈ lw_tbl := List.mem_of_getElem? (i := 416) rfl
set_option maxRecDepth 100000 in
theorem Lw_421 : Cond.fieldLink RX4 147 "RestGains$Chain" "gains" "[J" ∈ lw_tbl := List.mem_of_getElem? (i := 142) rfl
set_option maxRecDepth 100000 in
theorem Lw_422 : Cond.fieldLink RX4 150 "RestGains$Chain" "below" "J" ∈ lw_tbl := List.mem_of_getElem? (i := 148) rfl
set_option maxRecDepth 100000 in
theorem Lw_423 : Cond.methodLink RX4 144 yX4_isPart ∈ lw_tbl := List.mem_of_getElem? (i := 417) rfl
set_option maxRecDepth 100000 in
theorem Lw_424 : Cond.static yX4_isPart ∈ lw_tbl := List.mem_of_getElem? (i := 418) rfl
set_option maxRecDepth 100000 in
theorem Lw_425 : Cond.code yX4_isPart cX4_isPart 1 (some .boolean) ∈ lw_tbl := List.mem_of_getElem? (i := 419) rfl
set_option maxRecDepth 100000 in
theorem Lw_426 : Cond.methodLink RX4 154 yX4_fraction ∈ lw_tbl := List.mem_of_getElem? (i := 420) rfl
set_option maxRecDepth 100000 in
theorem Lw_427 : Cond.static yX4_fraction ∈ lw_tbl := List.mem_of_getElem? (i := 421) rfl
set_option maxRecDepth 100000 in
theorem Lw_428 : Cond.code yX4_fraction cX4_fraction 9 (some .long) ∈ lw_tbl := List.mem_of_getElem? (i := 422) rfl
set_option maxRecDepth 100000 in
theorem Lw_429 : Cond.methodLink RX4 238 Lib.MathLoose.abs_long.x ∈ lw_tbl := List.mem_of_getElem? (i := 423) rfl
set_option maxRecDepth 100000 in
theorem Lw_430 : Cond.static Lib.MathLoose.abs_long.x ∈ lw_tbl := List.mem_of_getElem? (i := 424) rfl
set_option maxRecDepth 100000 in
theorem Lw_431 : Cond.initialized "java/lang/Math" ∈ lw_tbl := List.mem_of_getElem? (i := 70) rfl
set_option maxRecDepth 100000 in
theorem Lw_432 : Cond.code Lib.MathLoose.abs_long.x Lib.MathLoose.abs_long.code 2 (some .long) ∈ lw_tbl := List.mem_of_getElem? (i := 425) rfl
set_option maxRecDepth 100000 in
theorem Lw_433 : Cond.methodLink RX4 243 yX4_commonDivisor ∈ lw_tbl := List.mem_of_getElem? (i := 426) rfl
set_option maxRecDepth 100000 in
theorem Lw_434 : Cond.static yX4_commonDivisor ∈ lw_tbl := List.mem_of_getElem? (i := 427) rfl
set_option maxRecDepth 100000 in
theorem Lw_435 : Cond.code yX4_commonDivisor cX4_commonDivisor 11 (some .long) ∈ lw_tbl := List.mem_of_getElem? (i := 428) rfl
set_option maxRecDepth 100000 in
theorem Lw_436 : Cond.methodLink RX4 166 yX4_quotient ∈ lw_tbl := List.mem_of_getElem? (i := 429) rfl
set_option maxRecDepth 100000 in
theorem Lw_437 : Cond.static yX4_quotient ∈ lw_tbl := List.mem_of_getElem? (i := 430) rfl
set_option maxRecDepth 100000 in
theorem Lw_438 : Cond.code yX4_quotient cX4_quotient 4 (some .long) ∈ lw_tbl := List.mem_of_getElem? (i := 431) rfl
set_option maxRecDepth 100000 in
theorem Lw_439 : Cond.methodLink RL 64 yX5_gain ∈ lw_tbl := List.mem_of_getElem? (i := 696) rfl
set_option maxRecDepth 100000 in
theorem Lw_440 : Cond.instanceMethod yX5_gain ∈ lw_tbl := List.mem_of_getElem? (i := 697) rfl
set_option maxRecDepth 100000 in
theorem Lw_441 : Cond.selects RX5 yX5_gain yX5_gain ∈ lw_tbl := List.mem_of_getElem? (i := 698) rfl
set_option maxRecDepth 100000 in
theorem Lw_442 : Cond.code yX5_gain cX5_gain 4 (some .long) ∈ lw_tbl := List.mem_of_getElem? (i := 699) rfl
set_option maxRecDepth 100000 in
theorem Lw_443 : Cond.methodLink RX5 189 yX5_isPart ∈ lw_tbl := List.mem_of_getElem? (i := 700) rfl
set_option maxRecDepth 100000 in
theorem Lw_444 : Cond.static yX5_isPart ∈ lw_tbl := List.mem_of_getElem? (i := 701) rfl
set_option maxRecDepth 100000 in
theorem Lw_445 : Cond.code yX5_isPart cX5_isPart 1 (some .boolean) ∈ lw_tbl := List.mem_of_getElem? (i := 702) rfl
set_option maxRecDepth 100000 in
theorem Lw_446 : Cond.methodLink RX5 196 yX5_gainNow ∈ lw_tbl := List.mem_of_getElem? (i := 726) rfl
set_option maxRecDepth 100000 in
theorem Lw_447 : Cond.instanceMethod yX5_gainNow ∈ lw_tbl := List.mem_of_getElem? (i := 728) rfl
set_option maxRecDepth 100000 in
theorem Lw_448 : Cond.selects RX5 yX5_gainNow yX5_gainNow ∈ lw_tbl := List.mem_of_getElem? (i := 38) rfl
set_option maxRecDepth 100000 in
theorem Lw_449 : Cond.code yX5_gainNow cX5_gainNow 4 (some .long) ∈ lw_tbl := List.mem_of_getElem? (i := 729) rfl
set_option maxRecDepth 100000 in
theorem Lw_450 : Cond.fieldLink RX5 167 "RestGainsModel" "below" "J" ∈ lw_tbl := List.mem_of_getElem? (i := 534) rfl
set_option maxRecDepth 100000 in
theorem Lw_451 : Cond.methodLink RX5 182 yX5_layRest ∈ lw_tbl := List.mem_of_getElem? (i := 730) rfl
set_option maxRecDepth 100000 in
theorem Lw_452 : Cond.instanceMethod yX5_layRest ∈ lw_tbl := List.mem_of_getElem? (i := 732) rfl
set_option maxRecDepth 100000 in
theorem Lw_453 : Cond.selects RX5 yX5_layRest yX5_layRest ∈ lw_tbl := List.mem_of_getElem? (i := 39) rfl
set_option maxRecDepth 100000 in
theorem Lw_454 : Cond.code yX5_layRest cX5_layRest 3 none ∈ lw_tbl := List.mem_of_getElem? (i := 733) rfl
set_option maxRecDepth 100000 in
theorem Lw_455 : Cond.methodLink RX5 171 yX5_layInputs ∈ lw_tbl := List.mem_of_getElem? (i := 734) rfl
set_option maxRecDepth 100000 in
theorem Lw_456 : Cond.instanceMethod yX5_layInputs ∈ lw_tbl := List.mem_of_getElem? (i := 736) rfl
set_option maxRecDepth 100000 in
theorem Lw_457 : Cond.selects RX5 yX5_layInputs yX5_layInputs ∈ lw_tbl := List.mem_of_getElem? (i := 40) rfl
set_option maxRecDepth 100000 in
theorem Lw_458 : Cond.code yX5_layInputs cX5_layInputs 4 none ∈ lw_tbl := List.mem_of_getElem? (i := 737) rfl
set_option maxRecDepth 100000 in
theorem Lw_459 : Cond.methodLink RX5 163 yX5_turnOn ∈ lw_tbl := List.mem_of_getElem? (i := 738) rfl
set_option maxRecDepth 100000 in
theorem Lw_460 : Cond.instanceMethod yX5_turnOn ∈ lw_tbl := List.mem_of_getElem? (i := 740) rfl
set_option maxRecDepth 100000 in
theorem Lw_461 : Cond.selects RX5 yX5_turnOn yX5_turnOn ∈ lw_tbl := List.mem_of_getElem? (i := 41) rfl
set_option maxRecDepth 100000 in
theorem Lw_462 : Cond.code yX5_turnOn cX5_turnOn 5 none ∈ lw_tbl := List.mem_of_getElem? (i := 741) rfl
set_option maxRecDepth 100000 in
theorem Lw_463 : Cond.methodLink RX5 175 yX5_layStates ∈ lw_tbl := List.mem_of_getElem? (i := 742) rfl
set_option maxRecDepth 100000 in
theorem Lw_464 : Cond.instanceMethod yX5_layStates ∈ lw_tbl := List.mem_of_getElem? (i := 744) rfl
set_option maxRecDepth 100000 in
theorem Lw_465 : Cond.selects RX5 yX5_layStates yX5_layStates ∈ lw_tbl := List.mem_of_getElem? (i := 42) rfl
set_option maxRecDepth 100000 in
theorem Lw_466 : Cond.code yX5_layStates cX5_layStates 5 none ∈ lw_tbl := List.mem_of_getElem? (i := 745) rfl
set_option maxRecDepth 100000 in
theorem Lw_467 : Cond.methodLink RX5 185 yX5_lowest ∈ lw_tbl := List.mem_of_getElem? (i := 746) rfl
set_option maxRecDepth 100000 in
theorem Lw_468 : Cond.static yX5_lowest ∈ lw_tbl := List.mem_of_getElem? (i := 747) rfl
set_option maxRecDepth 100000 in
theorem Lw_469 : Cond.code yX5_lowest cX5_lowest 7 (some .long) ∈ lw_tbl := List.mem_of_getElem? (i := 748) rfl
set_option maxRecDepth 100000 in
theorem Lw_470 : Cond.methodLink RX5 178 yX5_divisor ∈ lw_tbl := List.mem_of_getElem? (i := 749) rfl
set_option maxRecDepth 100000 in
theorem Lw_471 : Cond.static yX5_divisor ∈ lw_tbl := List.mem_of_getElem? (i := 750) rfl
set_option maxRecDepth 100000 in
theorem Lw_472 : Cond.code yX5_divisor cX5_divisor 10 (some .long) ∈ lw_tbl := List.mem_of_getElem? (i := 751) rfl
set_option maxRecDepth 100000 in
theorem Lw_473 : Cond.methodLink RL 65 yX4_after ∈ lw_tbl := List.mem_of_getElem? (i := 432) rfl
set_option maxRecDepth 100000 in
theorem Lw_474 : Cond.instanceMethod yX4_after ∈ lw_tbl := List.mem_of_getElem? (i := 433) rfl
set_option maxRecDepth 100000 in
theorem Lw_475 : Cond.selects RX4 yX4_after yX4_after ∈ lw_tbl := List.mem_of_getElem? (i := 434) rfl
set_option maxRecDepth 100000 in
theorem Lw_476 : Cond.code yX4_after cX4_after 6 (some .long) ∈ lw_tbl := List.mem_of_getElem? (i := 435) rfl
set_option maxRecDepth 100000 in
theorem Lw_477 : Cond.methodLink RX4 158 yX4_goTheWay ∈ lw_tbl := List.mem_of_getElem? (i := 436) rfl
set_option maxRecDepth 100000 in
theorem Lw_478 : Cond.instanceMethod yX4_goTheWay ∈ lw_tbl := List.mem_of_getElem? (i := 438) rfl
set_option maxRecDepth 100000 in
theorem Lw_479 : Cond.selects RX4 yX4_goTheWay yX4_goTheWay ∈ lw_tbl := List.mem_of_getElem? (i := 13) rfl
set_option maxRecDepth 100000 in
theorem Lw_480 : Cond.code yX4_goTheWay cX4_goTheWay 10 none ∈ lw_tbl := List.mem_of_getElem? (i := 439) rfl
set_option maxRecDepth 100000 in
theorem Lw_481 : Cond.methodLink RX4 162 yX4_dot ∈ lw_tbl := List.mem_of_getElem? (i := 440) rfl
set_option maxRecDepth 100000 in
theorem Lw_482 : Cond.methodLink RL 69 yX5_after ∈ lw_tbl := List.mem_of_getElem? (i := 752) rfl
set_option maxRecDepth 100000 in
theorem Lw_483 : Cond.instanceMethod yX5_after ∈ lw_tbl := List.mem_of_getElem? (i := 753) rfl
set_option maxRecDepth 100000 in
theorem Lw_484 : Cond.selects RX5 yX5_after yX5_after ∈ lw_tbl := List.mem_of_getElem? (i := 754) rfl
set_option maxRecDepth 100000 in
theorem Lw_485 : Cond.code yX5_after cX5_after 5 (some .long) ∈ lw_tbl := List.mem_of_getElem? (i := 755) rfl
set_option maxRecDepth 100000 in
theorem Lw_486 : Cond.methodLink RX5 200 yX5_afterNow ∈ lw_tbl := List.mem_of_getElem? (i := 756) rfl
set_option maxRecDepth 100000 in
theorem Lw_487 : Cond.instanceMethod yX5_afterNow ∈ lw_tbl := List.mem_of_getElem? (i := 758) rfl
set_option maxRecDepth 100000 in
theorem Lw_488 : Cond.selects RX5 yX5_afterNow yX5_afterNow ∈ lw_tbl := List.mem_of_getElem? (i := 43) rfl
set_option maxRecDepth 100000 in
theorem Lw_489 : Cond.code yX5_afterNow cX5_afterNow 8 (some .long) ∈ lw_tbl := List.mem_of_getElem? (i := 759) rfl
set_option maxRecDepth 100000 in
theorem Lw_490 : Cond.methodLink RL 70 yX4_input ∈ lw_tbl := List.mem_of_getElem? (i := 441) rfl
set_option maxRecDepth 100000 in
theorem Lw_491 : Cond.instanceMethod yX4_input ∈ lw_tbl := List.mem_of_getElem? (i := 442) rfl
set_option maxRecDepth 100000 in
theorem Lw_492 : Cond.selects RX4 yX4_input yX4_input ∈ lw_tbl := List.mem_of_getElem? (i := 443) rfl
set_option maxRecDepth 100000 in
theorem Lw_493 : Cond.code yX4_input cX4_input 3 (some .long) ∈ lw_tbl := List.mem_of_getElem? (i := 444) rfl
set_option maxRecDepth 100000 in
theorem Lw_494 : Cond.methodLink RL 73 yX5_input ∈ lw_tbl := List.mem_of_getElem? (i := 760) rfl
set_option maxRecDepth 100000 in
theorem Lw_495 : Cond.instanceMethod yX5_input ∈ lw_tbl := List.mem_of_getElem? (i := 761) rfl
set_option maxRecDepth 100000 in
theorem Lw_496 : Cond.selects RX5 yX5_input yX5_input ∈ lw_tbl := List.mem_of_getElem? (i := 762) rfl
set_option maxRecDepth 100000 in
theorem Lw_497 : Cond.code yX5_input cX5_input 3 (some .long) ∈ lw_tbl := List.mem_of_getElem? (i := 763) rfl
set_option maxRecDepth 100000 in
theorem Lw_498 : Cond.methodLink RX5 204 yX5_inputNow ∈ lw_tbl := List.mem_of_getElem? (i := 764) rfl
set_option maxRecDepth 100000 in
theorem Lw_499 : Cond.instanceMethod yX5_inputNow ∈ lw_tbl := List.mem_of_getElem? (i := 766) rfl
set_option maxRecDepth 100000 in
theorem Lw_500 : Cond.selects RX5 yX5_inputNow yX5_inputNow ∈ lw_tbl := List.mem_of_getElem? (i := 44) rfl
set_option maxRecDepth 100000 in
theorem Lw_501 : Cond.code yX5_inputNow cX5_inputNow 6 (some .long) ∈ lw_tbl := List.mem_of_getElem? (i := 767) rfl
set_option maxRecDepth 100000 in
theorem Lw_502 : Cond.methodLink RL 74 yX4_most ∈ lw_tbl := List.mem_of_getElem? (i := 445) rfl
set_option maxRecDepth 100000 in
theorem Lw_503 : Cond.instanceMethod yX4_most ∈ lw_tbl := List.mem_of_getElem? (i := 446) rfl
set_option maxRecDepth 100000 in
theorem Lw_504 : Cond.selects RX4 yX4_most yX4_most ∈ lw_tbl := List.mem_of_getElem? (i := 447) rfl
set_option maxRecDepth 100000 in
theorem Lw_505 : Cond.code yX4_most cX4_most 2 (some .long) ∈ lw_tbl := List.mem_of_getElem? (i := 448) rfl
set_option maxRecDepth 100000 in
theorem Lw_506 : Cond.methodLink RL 78 yX5_most ∈ lw_tbl := List.mem_of_getElem? (i := 768) rfl
set_option maxRecDepth 100000 in
theorem Lw_507 : Cond.instanceMethod yX5_most ∈ lw_tbl := List.mem_of_getElem? (i := 769) rfl
set_option maxRecDepth 100000 in
theorem Lw_508 : Cond.selects RX5 yX5_most yX5_most ∈ lw_tbl := List.mem_of_getElem? (i := 770) rfl
set_option maxRecDepth 100000 in
theorem Lw_509 : Cond.code yX5_most cX5_most 2 (some .long) ∈ lw_tbl := List.mem_of_getElem? (i := 771) rfl
set_option maxRecDepth 100000 in
theorem Lw_510 : Cond.methodLink RX5 208 yX5_mostNow ∈ lw_tbl := List.mem_of_getElem? (i := 772) rfl
set_option maxRecDepth 100000 in
theorem Lw_511 : Cond.instanceMethod yX5_mostNow ∈ lw_tbl := List.mem_of_getElem? (i := 774) rfl
set_option maxRecDepth 100000 in
theorem Lw_512 : Cond.selects RX5 yX5_mostNow yX5_mostNow ∈ lw_tbl := List.mem_of_getElem? (i := 45) rfl
set_option maxRecDepth 100000 in
theorem Lw_513 : Cond.code yX5_mostNow cX5_mostNow 5 (some .long) ∈ lw_tbl := List.mem_of_getElem? (i := 775) rfl
set_option maxRecDepth 100000 in
theorem Lw_514 : Cond.methodLink RL 79 yX4_plan ∈ lw_tbl := List.mem_of_getElem? (i := 449) rfl
set_option maxRecDepth 100000 in
theorem Lw_515 : Cond.instanceMethod yX4_plan ∈ lw_tbl := List.mem_of_getElem? (i := 450) rfl
set_option maxRecDepth 100000 in
theorem Lw_516 : Cond.selects RX4 yX4_plan yX4_plan ∈ lw_tbl := List.mem_of_getElem? (i := 451) rfl
set_option maxRecDepth 100000 in
theorem Lw_517 : Cond.code yX4_plan cX4_plan 2 (some .long) ∈ lw_tbl := List.mem_of_getElem? (i := 452) rfl
set_option maxRecDepth 100000 in
theorem Lw_518 : Cond.fieldLink RX4 174 "RestGains$Planner" "ticks" "I" ∈ lw_tbl := List.mem_of_getElem? (i := 180) rfl
set_option maxRecDepth 100000 in
theorem Lw_519 : Cond.constantLong RX4 177 (-10000000000001) ∈ lw_tbl := List.mem_of_getElem? (i := 481) rfl
set_option maxRecDepth 100000 in
theorem Lw_520 : Cond.fieldLink RX4 179 "RestGains$Planner" "inputs" "[I" ∈ lw_tbl := List.mem_of_getElem? (i := 178) rfl
set_option maxRecDepth 100000 in
theorem Lw_521 : Cond.methodLink RX4 170 yX2_seek ∈ lw_tbl := List.mem_of_getElem? (i := 453) rfl
set_option maxRecDepth 100000 in
theorem Lw_522 : Cond.instanceMethod yX2_seek ∈ lw_tbl := List.mem_of_getElem? (i := 454) rfl
set_option maxRecDepth 100000 in
theorem Lw_523 : Cond.selects RX2 yX2_seek yX2_seek ∈ lw_tbl := List.mem_of_getElem? (i := 455) rfl
set_option maxRecDepth 100000 in
theorem Lw_524 : Cond.code yX2_seek cX2_seek 6 none ∈ lw_tbl := List.mem_of_getElem? (i := 456) rfl
set_option maxRecDepth 100000 in
theorem Lw_525 : Cond.fieldLink RX2 40 "RestGains$Chain" "rank" "I" ∈ lw_tbl := List.mem_of_getElem? (i := 144) rfl
set_option maxRecDepth 100000 in
theorem Lw_526 : Cond.methodLink RX2 45 Lib.Math.min.name ∈ lw_tbl := List.mem_of_getElem? (i := 457) rfl
set_option maxRecDepth 100000 in
theorem Lw_527 : Cond.static Lib.Math.min.name ∈ lw_tbl := List.mem_of_getElem? (i := 458) rfl
set_option maxRecDepth 100000 in
theorem Lw_528 : Cond.code Lib.Math.min.name Lib.Math.min.code 2 (some .int) ∈ lw_tbl := List.mem_of_getElem? (i := 459) rfl
set_option maxRecDepth 100000 in
theorem Lw_529 : Cond.fieldLink RX2 55 "RestGains$Chain" "below" "J" ∈ lw_tbl := List.mem_of_getElem? (i := 147) rfl
set_option maxRecDepth 100000 in
theorem Lw_530 : Cond.methodLink RX2 51 yX2_isOpen ∈ lw_tbl := List.mem_of_getElem? (i := 460) rfl
set_option maxRecDepth 100000 in
theorem Lw_531 : Cond.instanceMethod yX2_isOpen ∈ lw_tbl := List.mem_of_getElem? (i := 462) rfl
set_option maxRecDepth 100000 in
theorem Lw_532 : Cond.selects RX2 yX2_isOpen yX2_isOpen ∈ lw_tbl := List.mem_of_getElem? (i := 14) rfl
set_option maxRecDepth 100000 in
theorem Lw_533 : Cond.code yX2_isOpen cX2_isOpen 6 (some .boolean) ∈ lw_tbl := List.mem_of_getElem? (i := 463) rfl
set_option maxRecDepth 100000 in
theorem Lw_534 : Cond.fieldLink RX2 81 "RestGains$Chain" "rows" "[[J" ∈ lw_tbl := List.mem_of_getElem? (i := 139) rfl
set_option maxRecDepth 100000 in
theorem Lw_535 : Cond.methodLink RX2 67 yX3_carry ∈ lw_tbl := List.mem_of_getElem? (i := 465) rfl
set_option maxRecDepth 100000 in
theorem Lw_536 : Cond.methodLink RX2 73 yX0_spans ∈ lw_tbl := List.mem_of_getElem? (i := 466) rfl
set_option maxRecDepth 100000 in
theorem Lw_537 : Cond.methodLink RX2 77 yX0_share ∈ lw_tbl := List.mem_of_getElem? (i := 467) rfl
set_option maxRecDepth 100000 in
theorem Lw_538 : Cond.methodLink RX2 59 yX2_isMet ∈ lw_tbl := List.mem_of_getElem? (i := 468) rfl
set_option maxRecDepth 100000 in
theorem Lw_539 : Cond.instanceMethod yX2_isMet ∈ lw_tbl := List.mem_of_getElem? (i := 470) rfl
set_option maxRecDepth 100000 in
theorem Lw_540 : Cond.selects RX2 yX2_isMet yX2_isMet ∈ lw_tbl := List.mem_of_getElem? (i := 15) rfl
set_option maxRecDepth 100000 in
theorem Lw_541 : Cond.code yX2_isMet cX2_isMet 6 (some .boolean) ∈ lw_tbl := List.mem_of_getElem? (i := 471) rfl
set_option maxRecDepth 100000 in
theorem Lw_542 : Cond.methodLink RX2 84 yX2_setTried ∈ lw_tbl := List.mem_of_getElem? (i := 472) rfl
set_option maxRecDepth 100000 in
theorem Lw_543 : Cond.instanceMethod yX2_setTried ∈ lw_tbl := List.mem_of_getElem? (i := 474) rfl
set_option maxRecDepth 100000 in
theorem Lw_544 : Cond.selects RX2 yX2_setTried yX2_setTried ∈ lw_tbl := List.mem_of_getElem? (i := 16) rfl
set_option maxRecDepth 100000 in
theorem Lw_545 : Cond.code yX2_setTried cX2_setTried 5 none ∈ lw_tbl := List.mem_of_getElem? (i := 475) rfl
set_option maxRecDepth 100000 in
theorem Lw_546 : Cond.methodLink RX2 88 yX2_restFits ∈ lw_tbl := List.mem_of_getElem? (i := 476) rfl
set_option maxRecDepth 100000 in
theorem Lw_547 : Cond.instanceMethod yX2_restFits ∈ lw_tbl := List.mem_of_getElem? (i := 478) rfl
set_option maxRecDepth 100000 in
theorem Lw_548 : Cond.selects RX2 yX2_restFits yX2_restFits ∈ lw_tbl := List.mem_of_getElem? (i := 17) rfl
set_option maxRecDepth 100000 in
theorem Lw_549 : Cond.code yX2_restFits cX2_restFits 8 (some .boolean) ∈ lw_tbl := List.mem_of_getElem? (i := 479) rfl
set_option maxRecDepth 100000 in
theorem Lw_550 : Cond.methodLink RL 82 yX5_plan ∈ lw_tbl := List.mem_of_getElem? (i := 776) rfl
set_option maxRecDepth 100000 in
theorem Lw_551 : Cond.instanceMethod yX5_plan ∈ lw_tbl := List.mem_of_getElem? (i := 777) rfl
set_option maxRecDepth 100000 in
theorem Lw_552 : Cond.selects RX5 yX5_plan yX5_plan ∈ lw_tbl := List.mem_of_getElem? (i := 778) rfl
set_option maxRecDepth 100000 in
theorem Lw_553 : Cond.code yX5_plan cX5_plan 2 (some .long) ∈ lw_tbl := List.mem_of_getElem? (i := 779) rfl
set_option maxRecDepth 100000 in
theorem Lw_554 : Cond.methodLink RX5 239 yX5_layPlan ∈ lw_tbl := List.mem_of_getElem? (i := 780) rfl
set_option maxRecDepth 100000 in
theorem Lw_555 : Cond.instanceMethod yX5_layPlan ∈ lw_tbl := List.mem_of_getElem? (i := 782) rfl
set_option maxRecDepth 100000 in
theorem Lw_556 : Cond.selects RX5 yX5_layPlan yX5_layPlan ∈ lw_tbl := List.mem_of_getElem? (i := 46) rfl
set_option maxRecDepth 100000 in
theorem Lw_557 : Cond.code yX5_layPlan cX5_layPlan 3 none ∈ lw_tbl := List.mem_of_getElem? (i := 783) rfl
set_option maxRecDepth 100000 in
theorem Lw_558 : Cond.fieldLink RX5 231 "RestGainsModel" "planTicks" "I" ∈ lw_tbl := List.mem_of_getElem? (i := 538) rfl
set_option maxRecDepth 100000 in
theorem Lw_559 : Cond.methodLink RX5 234 yX5_findPlan ∈ lw_tbl := List.mem_of_getElem? (i := 784) rfl
set_option maxRecDepth 100000 in
theorem Lw_560 : Cond.instanceMethod yX5_findPlan ∈ lw_tbl := List.mem_of_getElem? (i := 786) rfl
set_option maxRecDepth 100000 in
theorem Lw_561 : Cond.selects RX5 yX5_findPlan yX5_findPlan ∈ lw_tbl := List.mem_of_getElem? (i := 47) rfl
set_option maxRecDepth 100000 in
theorem Lw_562 : Cond.code yX5_findPlan cX5_findPlan 5 (some .boolean) ∈ lw_tbl := List.mem_of_getElem? (i := 787) rfl
set_option maxRecDepth 100000 in
theorem Lw_563 : Cond.methodLink RX5 225 yX5_tryFirst ∈ lw_tbl := List.mem_of_getElem? (i := 788) rfl
set_option maxRecDepth 100000 in
theorem Lw_564 : Cond.instanceMethod yX5_tryFirst ∈ lw_tbl := List.mem_of_getElem? (i := 790) rfl
set_option maxRecDepth 100000 in
theorem Lw_565 : Cond.selects RX5 yX5_tryFirst yX5_tryFirst ∈ lw_tbl := List.mem_of_getElem? (i := 48) rfl
set_option maxRecDepth 100000 in
theorem Lw_566 : Cond.code yX5_tryFirst cX5_tryFirst 5 (some .boolean) ∈ lw_tbl := List.mem_of_getElem? (i := 791) rfl
set_option maxRecDepth 100000 in
theorem Lw_567 : Cond.methodLink RX5 216 yX5_goInputs ∈ lw_tbl := List.mem_of_getElem? (i := 792) rfl
set_option maxRecDepth 100000 in
theorem Lw_568 : Cond.instanceMethod yX5_goInputs ∈ lw_tbl := List.mem_of_getElem? (i := 794) rfl
set_option maxRecDepth 100000 in
theorem Lw_569 : Cond.selects RX5 yX5_goInputs yX5_goInputs ∈ lw_tbl := List.mem_of_getElem? (i := 49) rfl
set_option maxRecDepth 100000 in
theorem Lw_570 : Cond.code yX5_goInputs cX5_goInputs 3 none ∈ lw_tbl := List.mem_of_getElem? (i := 795) rfl
set_option maxRecDepth 100000 in
theorem Lw_571 : Cond.methodLink RX5 219 yX5_isRest ∈ lw_tbl := List.mem_of_getElem? (i := 796) rfl
set_option maxRecDepth 100000 in
theorem Lw_572 : Cond.instanceMethod yX5_isRest ∈ lw_tbl := List.mem_of_getElem? (i := 798) rfl
set_option maxRecDepth 100000 in
theorem Lw_573 : Cond.selects RX5 yX5_isRest yX5_isRest ∈ lw_tbl := List.mem_of_getElem? (i := 50) rfl
set_option maxRecDepth 100000 in
theorem Lw_574 : Cond.code yX5_isRest cX5_isRest 3 (some .boolean) ∈ lw_tbl := List.mem_of_getElem? (i := 799) rfl
set_option maxRecDepth 100000 in
theorem Lw_575 : Cond.methodLink RX5 222 yX5_findLast ∈ lw_tbl := List.mem_of_getElem? (i := 800) rfl
set_option maxRecDepth 100000 in
theorem Lw_576 : Cond.instanceMethod yX5_findLast ∈ lw_tbl := List.mem_of_getElem? (i := 802) rfl
set_option maxRecDepth 100000 in
theorem Lw_577 : Cond.selects RX5 yX5_findLast yX5_findLast ∈ lw_tbl := List.mem_of_getElem? (i := 51) rfl
set_option maxRecDepth 100000 in
theorem Lw_578 : Cond.code yX5_findLast cX5_findLast 11 (some .boolean) ∈ lw_tbl := List.mem_of_getElem? (i := 803) rfl
set_option maxRecDepth 100000 in
theorem Lw_579 : Cond.methodLink RX5 212 yX5_layAsked ∈ lw_tbl := List.mem_of_getElem? (i := 804) rfl
set_option maxRecDepth 100000 in
theorem Lw_580 : Cond.instanceMethod yX5_layAsked ∈ lw_tbl := List.mem_of_getElem? (i := 806) rfl
set_option maxRecDepth 100000 in
theorem Lw_581 : Cond.selects RX5 yX5_layAsked yX5_layAsked ∈ lw_tbl := List.mem_of_getElem? (i := 52) rfl
set_option maxRecDepth 100000 in
theorem Lw_582 : Cond.code yX5_layAsked cX5_layAsked 6 (some .boolean) ∈ lw_tbl := List.mem_of_getElem? (i := 807) rfl
set_option maxRecDepth 100000 in
theorem Lw_583 : Cond.methodLink RX5 228 yX5_goesOn ∈ lw_tbl := List.mem_of_getElem? (i := 808) rfl
set_option maxRecDepth 100000 in
theorem Lw_584 : Cond.instanceMethod yX5_goesOn ∈ lw_tbl := List.mem_of_getElem? (i := 810) rfl
set_option maxRecDepth 100000 in
theorem Lw_585 : Cond.selects RX5 yX5_goesOn yX5_goesOn ∈ lw_tbl := List.mem_of_getElem? (i := 53) rfl
set_option maxRecDepth 100000 in
theorem Lw_586 : Cond.code yX5_goesOn cX5_goesOn 3 (some .boolean) ∈ lw_tbl := List.mem_of_getElem? (i := 811) rfl
set_option maxRecDepth 100000 in
theorem Lw_587 : Cond.methodLink RX5 242 yX5_planNow ∈ lw_tbl := List.mem_of_getElem? (i := 812) rfl
set_option maxRecDepth 100000 in
theorem Lw_588 : Cond.instanceMethod yX5_planNow ∈ lw_tbl := List.mem_of_getElem? (i := 814) rfl
set_option maxRecDepth 100000 in
theorem Lw_589 : Cond.selects RX5 yX5_planNow yX5_planNow ∈ lw_tbl := List.mem_of_getElem? (i := 54) rfl
set_option maxRecDepth 100000 in
theorem Lw_590 : Cond.code yX5_planNow cX5_planNow 2 (some .long) ∈ lw_tbl := List.mem_of_getElem? (i := 815) rfl
set_option maxRecDepth 100000 in
theorem Lw_591 : Cond.constantLong RX5 237 (-10000000000001) ∈ lw_tbl := List.mem_of_getElem? (i := 816) rfl
set_option maxRecDepth 100000 in
theorem Lw_592 : Cond.methodLink RL 83 yX4_count ∈ lw_tbl := List.mem_of_getElem? (i := 482) rfl
set_option maxRecDepth 100000 in
theorem Lw_593 : Cond.instanceMethod yX4_count ∈ lw_tbl := List.mem_of_getElem? (i := 483) rfl
set_option maxRecDepth 100000 in
theorem Lw_594 : Cond.selects RX4 yX4_count yX4_count ∈ lw_tbl := List.mem_of_getElem? (i := 484) rfl
set_option maxRecDepth 100000 in
theorem Lw_595 : Cond.code yX4_count cX4_count 2 (some .long) ∈ lw_tbl := List.mem_of_getElem? (i := 485) rfl
set_option maxRecDepth 100000 in
theorem Lw_596 : Cond.methodLink RL 86 yX5_count ∈ lw_tbl := List.mem_of_getElem? (i := 833) rfl
set_option maxRecDepth 100000 in
theorem Lw_597 : Cond.instanceMethod yX5_count ∈ lw_tbl := List.mem_of_getElem? (i := 834) rfl
set_option maxRecDepth 100000 in
theorem Lw_598 : Cond.selects RX5 yX5_count yX5_count ∈ lw_tbl := List.mem_of_getElem? (i := 835) rfl
set_option maxRecDepth 100000 in
theorem Lw_599 : Cond.code yX5_count cX5_count 2 (some .long) ∈ lw_tbl := List.mem_of_getElem? (i := 836) rfl
set_option maxRecDepth 100000 in
theorem Lw_600 : Cond.methodLink RX5 255 yX5_howMany ∈ lw_tbl := List.mem_of_getElem? (i := 837) rfl
set_option maxRecDepth 100000 in
theorem Lw_601 : Cond.instanceMethod yX5_howMany ∈ lw_tbl := List.mem_of_getElem? (i := 839) rfl
set_option maxRecDepth 100000 in
theorem Lw_602 : Cond.selects RX5 yX5_howMany yX5_howMany ∈ lw_tbl := List.mem_of_getElem? (i := 58) rfl
set_option maxRecDepth 100000 in
theorem Lw_603 : Cond.code yX5_howMany cX5_howMany 2 (some .long) ∈ lw_tbl := List.mem_of_getElem? (i := 840) rfl
set_option maxRecDepth 100000 in
theorem Lw_604 : Cond.methodLink RL 87 yX4_digest ∈ lw_tbl := List.mem_of_getElem? (i := 486) rfl
set_option maxRecDepth 100000 in
theorem Lw_605 : Cond.instanceMethod yX4_digest ∈ lw_tbl := List.mem_of_getElem? (i := 487) rfl
set_option maxRecDepth 100000 in
theorem Lw_606 : Cond.selects RX4 yX4_digest yX4_digest ∈ lw_tbl := List.mem_of_getElem? (i := 488) rfl
set_option maxRecDepth 100000 in
theorem Lw_607 : Cond.code yX4_digest cX4_digest 4 (some .long) ∈ lw_tbl := List.mem_of_getElem? (i := 489) rfl
set_option maxRecDepth 100000 in
theorem Lw_608 : Cond.constantLong RX4 182 (1721) ∈ lw_tbl := List.mem_of_getElem? (i := 490) rfl
set_option maxRecDepth 100000 in
theorem Lw_609 : Cond.constantLong RX4 184 (31) ∈ lw_tbl := List.mem_of_getElem? (i := 491) rfl
set_option maxRecDepth 100000 in
theorem Lw_610 : Cond.fieldLink RX4 190 "RestGains$Page" "letters" "[I" ∈ lw_tbl := List.mem_of_getElem? (i := 86) rfl
set_option maxRecDepth 100000 in
theorem Lw_611 : Cond.methodLink RX4 186 yX4_withPlant ∈ lw_tbl := List.mem_of_getElem? (i := 492) rfl
set_option maxRecDepth 100000 in
theorem Lw_612 : Cond.instanceMethod yX4_withPlant ∈ lw_tbl := List.mem_of_getElem? (i := 494) rfl
set_option maxRecDepth 100000 in
theorem Lw_613 : Cond.selects RX4 yX4_withPlant yX4_withPlant ∈ lw_tbl := List.mem_of_getElem? (i := 18) rfl
set_option maxRecDepth 100000 in
theorem Lw_614 : Cond.code yX4_withPlant cX4_withPlant 4 (some .long) ∈ lw_tbl := List.mem_of_getElem? (i := 495) rfl
set_option maxRecDepth 100000 in
theorem Lw_615 : Cond.methodLink RX4 197 yX4_withRows ∈ lw_tbl := List.mem_of_getElem? (i := 496) rfl
set_option maxRecDepth 100000 in
theorem Lw_616 : Cond.instanceMethod yX4_withRows ∈ lw_tbl := List.mem_of_getElem? (i := 498) rfl
set_option maxRecDepth 100000 in
theorem Lw_617 : Cond.selects RX4 yX4_withRows yX4_withRows ∈ lw_tbl := List.mem_of_getElem? (i := 19) rfl
set_option maxRecDepth 100000 in
theorem Lw_618 : Cond.code yX4_withRows cX4_withRows 6 (some .long) ∈ lw_tbl := List.mem_of_getElem? (i := 499) rfl
set_option maxRecDepth 100000 in
theorem Lw_619 : Cond.methodLink RX4 201 yX4_about ∈ lw_tbl := List.mem_of_getElem? (i := 500) rfl
set_option maxRecDepth 100000 in
theorem Lw_620 : Cond.methodLink RX4 204 yX4_withGains ∈ lw_tbl := List.mem_of_getElem? (i := 501) rfl
set_option maxRecDepth 100000 in
theorem Lw_621 : Cond.instanceMethod yX4_withGains ∈ lw_tbl := List.mem_of_getElem? (i := 503) rfl
set_option maxRecDepth 100000 in
theorem Lw_622 : Cond.selects RX4 yX4_withGains yX4_withGains ∈ lw_tbl := List.mem_of_getElem? (i := 20) rfl
set_option maxRecDepth 100000 in
theorem Lw_623 : Cond.code yX4_withGains cX4_withGains 6 (some .long) ∈ lw_tbl := List.mem_of_getElem? (i := 504) rfl
set_option maxRecDepth 100000 in
theorem Lw_624 : Cond.methodLink RX4 211 yX4_gain ∈ lw_tbl := List.mem_of_getElem? (i := 505) rfl
set_option maxRecDepth 100000 in
theorem Lw_625 : Cond.methodLink RX4 215 yX4_most ∈ lw_tbl := List.mem_of_getElem? (i := 506) rfl
set_option maxRecDepth 100000 in
theorem Lw_626 : Cond.methodLink RX4 219 yX4_input ∈ lw_tbl := List.mem_of_getElem? (i := 507) rfl
set_option maxRecDepth 100000 in
theorem Lw_627 : Cond.methodLink RX4 223 yX4_after ∈ lw_tbl := List.mem_of_getElem? (i := 508) rfl
set_option maxRecDepth 100000 in
theorem Lw_628 : Cond.methodLink RX4 208 yX4_plan ∈ lw_tbl := List.mem_of_getElem? (i := 509) rfl
set_option maxRecDepth 100000 in
theorem Lw_629 : Cond.methodLink RX4 193 yX4_count ∈ lw_tbl := List.mem_of_getElem? (i := 510) rfl
set_option maxRecDepth 100000 in
theorem Lw_630 : Cond.methodLink RL 90 yX5_digest ∈ lw_tbl := List.mem_of_getElem? (i := 841) rfl
set_option maxRecDepth 100000 in
theorem Lw_631 : Cond.instanceMethod yX5_digest ∈ lw_tbl := List.mem_of_getElem? (i := 842) rfl
set_option maxRecDepth 100000 in
theorem Lw_632 : Cond.selects RX5 yX5_digest yX5_digest ∈ lw_tbl := List.mem_of_getElem? (i := 843) rfl
set_option maxRecDepth 100000 in
theorem Lw_633 : Cond.code yX5_digest cX5_digest 2 (some .long) ∈ lw_tbl := List.mem_of_getElem? (i := 844) rfl
set_option maxRecDepth 100000 in
theorem Lw_634 : Cond.constantLong RX5 273 (1721) ∈ lw_tbl := List.mem_of_getElem? (i := 845) rfl
set_option maxRecDepth 100000 in
theorem Lw_635 : Cond.fieldLink RX5 260 "RestGainsModel" "h" "J" ∈ lw_tbl := List.mem_of_getElem? (i := 543) rfl
set_option maxRecDepth 100000 in
theorem Lw_636 : Cond.methodLink RX5 263 yX5_mix ∈ lw_tbl := List.mem_of_getElem? (i := 846) rfl
set_option maxRecDepth 100000 in
theorem Lw_637 : Cond.instanceMethod yX5_mix ∈ lw_tbl := List.mem_of_getElem? (i := 848) rfl
set_option maxRecDepth 100000 in
theorem Lw_638 : Cond.selects RX5 yX5_mix yX5_mix ∈ lw_tbl := List.mem_of_getElem? (i := 59) rfl
set_option maxRecDepth 100000 in
theorem Lw_639 : Cond.code yX5_mix cX5_mix 3 none ∈ lw_tbl := List.mem_of_getElem? (i := 849) rfl
set_option maxRecDepth 100000 in
theorem Lw_640 : Cond.constantLong RX5 258 (31) ∈ lw_tbl := List.mem_of_getElem? (i := 850) rfl
set_option maxRecDepth 100000 in
theorem Lw_641 : Cond.methodLink RX5 275 yX5_mixPlant ∈ lw_tbl := List.mem_of_getElem? (i := 851) rfl
set_option maxRecDepth 100000 in
theorem Lw_642 : Cond.instanceMethod yX5_mixPlant ∈ lw_tbl := List.mem_of_getElem? (i := 853) rfl
set_option maxRecDepth 100000 in
theorem Lw_643 : Cond.selects RX5 yX5_mixPlant yX5_mixPlant ∈ lw_tbl := List.mem_of_getElem? (i := 60) rfl
set_option maxRecDepth 100000 in
theorem Lw_644 : Cond.code yX5_mixPlant cX5_mixPlant 2 none ∈ lw_tbl := List.mem_of_getElem? (i := 854) rfl
set_option maxRecDepth 100000 in
theorem Lw_645 : Cond.methodLink RX5 267 yX5_mixRows ∈ lw_tbl := List.mem_of_getElem? (i := 855) rfl
set_option maxRecDepth 100000 in
theorem Lw_646 : Cond.instanceMethod yX5_mixRows ∈ lw_tbl := List.mem_of_getElem? (i := 857) rfl
set_option maxRecDepth 100000 in
theorem Lw_647 : Cond.selects RX5 yX5_mixRows yX5_mixRows ∈ lw_tbl := List.mem_of_getElem? (i := 61) rfl
set_option maxRecDepth 100000 in
theorem Lw_648 : Cond.code yX5_mixRows cX5_mixRows 3 none ∈ lw_tbl := List.mem_of_getElem? (i := 858) rfl
set_option maxRecDepth 100000 in
theorem Lw_649 : Cond.methodLink RX5 270 yX5_mixRest ∈ lw_tbl := List.mem_of_getElem? (i := 859) rfl
set_option maxRecDepth 100000 in
theorem Lw_650 : Cond.instanceMethod yX5_mixRest ∈ lw_tbl := List.mem_of_getElem? (i := 861) rfl
set_option maxRecDepth 100000 in
theorem Lw_651 : Cond.selects RX5 yX5_mixRest yX5_mixRest ∈ lw_tbl := List.mem_of_getElem? (i := 62) rfl
set_option maxRecDepth 100000 in
theorem Lw_652 : Cond.code yX5_mixRest cX5_mixRest 3 none ∈ lw_tbl := List.mem_of_getElem? (i := 862) rfl
set_option maxRecDepth 100000 in
theorem Ln_X4_9 : Cond.methodLinkNest RX4 9 yX1_init "RestGains" ∈ lw_tbl := List.mem_of_getElem? (i := 81) rfl
set_option maxRecDepth 100000 in
theorem Ln_X4_18 : Cond.methodLinkNest RX4 18 yX3_init "RestGains" ∈ lw_tbl := List.mem_of_getElem? (i := 109) rfl
set_option maxRecDepth 100000 in
theorem Ln_X4_37 : Cond.methodLinkNest RX4 37 yX2_init "RestGains" ∈ lw_tbl := List.mem_of_getElem? (i := 172) rfl
set_option maxRecDepth 100000 in
theorem Ln_X0_54 : Cond.methodLinkNest RX0 54 yX4_cross "RestGains" ∈ lw_tbl := List.mem_of_getElem? (i := 325) rfl
set_option maxRecDepth 100000 in
theorem Ln_X0_58 : Cond.methodLinkNest RX0 58 yX4_dot "RestGains" ∈ lw_tbl := List.mem_of_getElem? (i := 331) rfl
set_option maxRecDepth 100000 in
theorem Ln_X0_70 : Cond.methodLinkNest RX0 70 yX4_copy "RestGains" ∈ lw_tbl := List.mem_of_getElem? (i := 328) rfl
set_option maxRecDepth 100000 in
theorem Ln_X0_74 : Cond.methodLinkNest RX0 74 yX4_firstNotZero "RestGains" ∈ lw_tbl := List.mem_of_getElem? (i := 334) rfl
set_option maxRecDepth 100000 in
theorem Ln_X0_78 : Cond.methodLinkNest RX0 78 yX4_setUnit "RestGains" ∈ lw_tbl := List.mem_of_getElem? (i := 337) rfl
set_option maxRecDepth 100000 in
theorem Ln_X2_63 : Cond.methodLinkNest RX2 63 yX4_copy "RestGains" ∈ lw_tbl := List.mem_of_getElem? (i := 464) rfl
set_option maxRecDepth 100000 in
theorem Ln_X2_91 : Cond.methodLinkNest RX2 91 yX4_quotient "RestGains" ∈ lw_tbl := List.mem_of_getElem? (i := 480) rfl
set_option maxRecDepth 100000 in
theorem Ln_X3_27 : Cond.methodLinkNest RX3 27 yX4_copy "RestGains" ∈ lw_tbl := List.mem_of_getElem? (i := 349) rfl
set_option maxRecDepth 100000 in
theorem Ln_over : Cond.arrayOver (.array .long) ∈ lw_tbl := List.mem_of_getElem? (i := 137) rfl
set_option maxRecDepth 100000 in
theorem inLX4 : ∀ w ∈ wsX40, w ∈ lw_tbl := (List.forall_mem_cons.mpr ⟨List.mem_of_getElem? (i := 216) rfl, (List.forall_mem_cons.mpr ⟨List.mem_of_getElem? (i := 218) rfl, (List.forall_mem_cons.mpr ⟨List.mem_of_getElem? (i := 220) rfl, (List.forall_mem_cons.mpr ⟨List.mem_of_getElem? (i := 222) rfl, (List.forall_mem_cons.mpr ⟨List.mem_of_getElem? (i := 224) rfl, (List.forall_mem_cons.mpr ⟨List.mem_of_getElem? (i := 226) rfl, (List.forall_mem_cons.mpr ⟨List.mem_of_getElem? (i := 228) rfl, (List.forall_mem_cons.mpr ⟨List.mem_of_getElem? (i := 230) rfl, (List.forall_mem_cons.mpr ⟨List.mem_of_getElem? (i := 232) rfl, (List.forall_mem_cons.mpr ⟨List.mem_of_getElem? (i := 234) rfl, (List.forall_mem_cons.mpr ⟨List.mem_of_getElem? (i := 236) rfl, (List.forall_mem_cons.mpr ⟨List.mem_of_getElem? (i := 238) rfl, (fun _ h => absurd h List.not_mem_nil)⟩)⟩)⟩)⟩)⟩)⟩)⟩)⟩)⟩)⟩)⟩)⟩)
set_option maxRecDepth 100000 in
theorem inLX5 : ∀ w ∈ wsX50, w ∈ lw_tbl := (List.forall_mem_cons.mpr ⟨List.mem_of_getElem? (i := 544) rfl, (List.forall_mem_cons.mpr ⟨List.mem_of_getElem? (i := 546) rfl, (List.forall_mem_cons.mpr ⟨List.mem_of_getElem? (i := 548) rfl, (List.forall_mem_cons.mpr ⟨List.mem_of_getElem? (i := 550) rfl, (List.forall_mem_cons.mpr ⟨List.mem_of_getElem? (i := 552) rfl, (List.forall_mem_cons.mpr ⟨List.mem_of_getElem? (i := 554) rfl, (List.forall_mem_cons.mpr ⟨List.mem_of_getElem? (i := 556) rfl, (List.forall_mem_cons.mpr ⟨List.mem_of_getElem? (i := 558) rfl, (List.forall_mem_cons.mpr ⟨List.mem_of_getElem? (i := 560) rfl, (List.forall_mem_cons.mpr ⟨List.mem_of_getElem? (i := 562) rfl, (List.forall_mem_cons.mpr ⟨List.mem_of_getElem? (i := 564) rfl, (List.forall_mem_cons.mpr ⟨List.mem_of_getElem? (i := 566) rfl, (List.forall_mem_cons.mpr ⟨List.mem_of_getElem? (i := 568) rfl, (List.forall_mem_cons.mpr ⟨List.mem_of_getElem? (i := 570) rfl, (List.forall_mem_cons.mpr ⟨List.mem_of_getElem? (i := 572) rfl, (List.forall_mem_cons.mpr ⟨List.mem_of_getElem? (i := 574) rfl, (List.forall_mem_cons.mpr ⟨List.mem_of_getElem? (i := 576) rfl, (List.forall_mem_cons.mpr ⟨List.mem_of_getElem? (i := 578) rfl, (List.forall_mem_cons.mpr ⟨List.mem_of_getElem? (i := 580) rfl, (List.forall_mem_cons.mpr ⟨List.mem_of_getElem? (i := 582) rfl, (List.forall_mem_cons.mpr ⟨List.mem_of_getElem? (i := 584) rfl, (List.forall_mem_cons.mpr ⟨List.mem_of_getElem? (i := 586) rfl, (List.forall_mem_cons.mpr ⟨List.mem_of_getElem? (i := 588) rfl, (List.forall_mem_cons.mpr ⟨List.mem_of_getElem? (i := 590) rfl, (List.forall_mem_cons.mpr ⟨List.mem_of_getElem? (i := 592) rfl, (List.forall_mem_cons.mpr ⟨List.mem_of_getElem? (i := 594) rfl, (List.forall_mem_cons.mpr ⟨List.mem_of_getElem? (i := 596) rfl, (fun _ h => absurd h List.not_mem_nil)⟩)⟩)⟩)⟩)⟩)⟩)⟩)⟩)⟩)⟩)⟩)⟩)⟩)⟩)⟩)⟩)⟩)⟩)⟩)⟩)⟩)⟩)⟩)⟩)⟩)⟩)⟩)
set_option maxRecDepth 100000 in
theorem inLX1 : ∀ w ∈ wsX10, w ∈ lw_tbl := (List.forall_mem_cons.mpr ⟨List.mem_of_getElem? (i := 93) rfl, (List.forall_mem_cons.mpr ⟨List.mem_of_getElem? (i := 95) rfl, (List.forall_mem_cons.mpr ⟨List.mem_of_getElem? (i := 97) rfl, (List.forall_mem_cons.mpr ⟨List.mem_of_getElem? (i := 99) rfl, (List.forall_mem_cons.mpr ⟨List.mem_of_getElem? (i := 101) rfl, (List.forall_mem_cons.mpr ⟨List.mem_of_getElem? (i := 103) rfl, (fun _ h => absurd h List.not_mem_nil)⟩)⟩)⟩)⟩)⟩)⟩)
set_option maxRecDepth 100000 in
theorem inLX3 : ∀ w ∈ wsX30, w ∈ lw_tbl := (List.forall_mem_cons.mpr ⟨List.mem_of_getElem? (i := 122) rfl, (List.forall_mem_cons.mpr ⟨List.mem_of_getElem? (i := 124) rfl, (List.forall_mem_cons.mpr ⟨List.mem_of_getElem? (i := 126) rfl, (fun _ h => absurd h List.not_mem_nil)⟩)⟩)⟩)
set_option maxRecDepth 100000 in
theorem inLX0 : ∀ w ∈ wsX00, w ∈ lw_tbl := (List.forall_mem_cons.mpr ⟨List.mem_of_getElem? (i := 153) rfl, (List.forall_mem_cons.mpr ⟨List.mem_of_getElem? (i := 155) rfl, (List.forall_mem_cons.mpr ⟨List.mem_of_getElem? (i := 157) rfl, (List.forall_mem_cons.mpr ⟨List.mem_of_getElem? (i := 159) rfl, (List.forall_mem_cons.mpr ⟨List.mem_of_getElem? (i := 161) rfl, (List.forall_mem_cons.mpr ⟨List.mem_of_getElem? (i := 163) rfl, (List.forall_mem_cons.mpr ⟨List.mem_of_getElem? (i := 165) rfl, (List.forall_mem_cons.mpr ⟨List.mem_of_getElem? (i := 167) rfl, (fun _ h => absurd h List.not_mem_nil)⟩)⟩)⟩)⟩)⟩)⟩)⟩)⟩)
set_option maxRecDepth 100000 in
theorem inLX2 : ∀ w ∈ wsX20, w ∈ lw_tbl := (List.forall_mem_cons.mpr ⟨List.mem_of_getElem? (i := 187) rfl, (List.forall_mem_cons.mpr ⟨List.mem_of_getElem? (i := 189) rfl, (List.forall_mem_cons.mpr ⟨List.mem_of_getElem? (i := 191) rfl, (List.forall_mem_cons.mpr ⟨List.mem_of_getElem? (i := 193) rfl, (List.forall_mem_cons.mpr ⟨List.mem_of_getElem? (i := 195) rfl, (List.forall_mem_cons.mpr ⟨List.mem_of_getElem? (i := 197) rfl, (List.forall_mem_cons.mpr ⟨List.mem_of_getElem? (i := 199) rfl, (List.forall_mem_cons.mpr ⟨List.mem_of_getElem? (i := 201) rfl, (fun _ h => absurd h List.not_mem_nil)⟩)⟩)⟩)⟩)⟩)⟩)⟩)⟩)
set_option maxRecDepth 100000 in
theorem in_wsX4_init_r1 : ∀ w ∈ wsX4_init_r1, w ∈ lw_tbl := (List.forall_mem_cons.mpr ⟨Lw_9, (List.forall_mem_cons.mpr ⟨Lw_10, (List.forall_mem_cons.mpr ⟨Lw_11, (List.forall_mem_cons.mpr ⟨Lw_12, (List.forall_mem_cons.mpr ⟨Lw_13, (List.forall_mem_cons.mpr ⟨Lw_14, (List.forall_mem_cons.mpr ⟨Lw_15, (List.forall_mem_cons.mpr ⟨Lw_16, (List.forall_mem_cons.mpr ⟨Lw_17, (List.forall_mem_cons.mpr ⟨Lw_18, (List.forall_mem_cons.mpr ⟨Lw_19, (List.forall_mem_cons.mpr ⟨Lw_20, (List.forall_mem_cons.mpr ⟨Lw_21, (List.forall_mem_cons.mpr ⟨Lw_22, (List.forall_mem_cons.mpr ⟨Lw_23, (List.forall_mem_cons.mpr ⟨Lw_24, (List.forall_mem_cons.mpr ⟨Lw_25, (List.forall_mem_cons.mpr ⟨Lw_26, (List.forall_mem_cons.mpr ⟨Lw_27, (List.forall_mem_cons.mpr ⟨Lw_28, (List.forall_mem_cons.mpr ⟨Lw_29, (List.forall_mem_cons.mpr ⟨Lw_30, (List.forall_mem_cons.mpr ⟨Lw_31, (List.forall_mem_cons.mpr ⟨Lw_32, (fun _ h => absurd h List.not_mem_nil)⟩)⟩)⟩)⟩)⟩)⟩)⟩)⟩)⟩)⟩)⟩)⟩)⟩)⟩)⟩)⟩)⟩)⟩)⟩)⟩)⟩)⟩)⟩)⟩)
set_option maxRecDepth 100000 in
theorem in_wsX4_init_r2 : ∀ w ∈ wsX4_init_r2, w ∈ lw_tbl := (List.forall_mem_cons.mpr ⟨Lw_33, (List.forall_mem_cons.mpr ⟨Lw_34, (List.forall_mem_cons.mpr ⟨Lw_35, (List.forall_mem_cons.mpr ⟨Lw_36, (List.forall_mem_cons.mpr ⟨Lw_37, (List.forall_mem_cons.mpr ⟨Lw_38, (List.forall_mem_cons.mpr ⟨Lw_39, (List.forall_mem_cons.mpr ⟨Lw_40, (List.forall_mem_cons.mpr ⟨Lw_41, (List.forall_mem_cons.mpr ⟨Lw_42, (List.forall_mem_cons.mpr ⟨Lw_43, (List.forall_mem_cons.mpr ⟨Lw_44, (List.forall_mem_cons.mpr ⟨Lw_45, (List.forall_mem_cons.mpr ⟨Lw_46, (List.forall_mem_cons.mpr ⟨Lw_47, (List.forall_mem_cons.mpr ⟨Lw_48, (List.forall_mem_cons.mpr ⟨Lw_49, (List.forall_mem_cons.mpr ⟨Lw_50, (List.forall_mem_cons.mpr ⟨Lw_51, (List.forall_mem_cons.mpr ⟨Lw_52, (List.forall_mem_cons.mpr ⟨Lw_53, (List.forall_mem_cons.mpr ⟨Lw_54, (List.forall_mem_cons.mpr ⟨Lw_55, (List.forall_mem_cons.mpr ⟨Lw_56, (fun _ h => absurd h List.not_mem_nil)⟩)⟩)⟩)⟩)⟩)⟩)⟩)⟩)⟩)⟩)⟩)⟩)⟩)⟩)⟩)⟩)⟩)⟩)⟩)⟩)⟩)⟩)⟩)⟩)
set_option maxRecDepth 100000 in
theorem in_wsX4_init_r3 : ∀ w ∈ wsX4_init_r3, w ∈ lw_tbl := (List.forall_mem_cons.mpr ⟨Lw_57, (List.forall_mem_cons.mpr ⟨Lw_58, (List.forall_mem_cons.mpr ⟨Lw_59, (List.forall_mem_cons.mpr ⟨Lw_60, (List.forall_mem_cons.mpr ⟨Lw_61, (List.forall_mem_cons.mpr ⟨Lw_62, (List.forall_mem_cons.mpr ⟨Lw_63, (List.forall_mem_cons.mpr ⟨Lw_64, (List.forall_mem_cons.mpr ⟨Lw_65, (List.forall_mem_cons.mpr ⟨Lw_66, (List.forall_mem_cons.mpr ⟨Lw_67, (List.forall_mem_cons.mpr ⟨Lw_68, (List.forall_mem_cons.mpr ⟨Lw_69, (List.forall_mem_cons.mpr ⟨Lw_70, (List.forall_mem_cons.mpr ⟨Lw_71, (List.forall_mem_cons.mpr ⟨Lw_72, (List.forall_mem_cons.mpr ⟨Lw_73, (List.forall_mem_cons.mpr ⟨Lw_74, (List.forall_mem_cons.mpr ⟨Lw_75, (List.forall_mem_cons.mpr ⟨Lw_76, (List.forall_mem_cons.mpr ⟨Lw_77, (fun _ h => absurd h List.not_mem_nil)⟩)⟩)⟩)⟩)⟩)⟩)⟩)⟩)⟩)⟩)⟩)⟩)⟩)⟩)⟩)⟩)⟩)⟩)⟩)⟩)⟩)
set_option maxRecDepth 100000 in
theorem inL_wsX4_init : ∀ w ∈ wsX4_init, w ∈ lw_tbl := List.forall_mem_cons.mpr ⟨Lw_8, (List.forall_mem_append.mpr ⟨(List.forall_mem_append.mpr ⟨(List.forall_mem_append.mpr ⟨(List.forall_mem_append.mpr ⟨(List.forall_mem_append.mpr ⟨(List.forall_mem_append.mpr ⟨in_wsX4_init_r1, (List.forall_mem_append.mpr ⟨in_wsX4_init_r2, in_wsX4_init_r3⟩)⟩), inLX1⟩), inLX4⟩), inLX3⟩), inLX0⟩), inLX2⟩)⟩
set_option maxRecDepth 100000 in
theorem gdL_wsX4_init : GoodIn lw_tbl wsX4_init := goodIn_sub inL_wsX4_init (by decide +kernel)
theorem nLX4_init : yX4_init.cls = RX4 ∧ yX4_init.cls ≠ "java/lang/invoke/MethodHandle" ∧ yX4_init.cls ≠ "java/lang/invoke/VarHandle" ∧ (parseMethodDescriptor yX4_init.desc).map (fun d => d.parameters.length) = some 0 := by decide +kernel
set_option maxRecDepth 100000 in
theorem inL_wsX5_init : ∀ w ∈ wsX5_init, w ∈ lw_tbl := List.forall_mem_cons.mpr ⟨Lw_80, (List.forall_mem_append.mpr ⟨(List.forall_mem_cons.mpr ⟨Lw_81, (List.forall_mem_cons.mpr ⟨Lw_10, (List.forall_mem_cons.mpr ⟨Lw_11, (List.forall_mem_cons.mpr ⟨Lw_40, (List.forall_mem_cons.mpr ⟨Lw_82, (List.forall_mem_cons.mpr ⟨Lw_83, (List.forall_mem_cons.mpr ⟨Lw_29, (List.forall_mem_cons.mpr ⟨Lw_84, (List.forall_mem_cons.mpr ⟨Lw_85, (List.forall_mem_cons.mpr ⟨Lw_86, (List.forall_mem_cons.mpr ⟨Lw_87, (List.forall_mem_cons.mpr ⟨Lw_88, (List.forall_mem_cons.mpr ⟨Lw_89, (List.forall_mem_cons.mpr ⟨Lw_90, (List.forall_mem_cons.mpr ⟨Lw_91, (List.forall_mem_cons.mpr ⟨Lw_92, (List.forall_mem_cons.mpr ⟨Lw_93, (List.forall_mem_cons.mpr ⟨Lw_94, (List.forall_mem_cons.mpr ⟨Lw_95, (List.forall_mem_cons.mpr ⟨Lw_96, (fun _ h => absurd h List.not_mem_nil)⟩)⟩)⟩)⟩)⟩)⟩)⟩)⟩)⟩)⟩)⟩)⟩)⟩)⟩)⟩)⟩)⟩)⟩)⟩)⟩), inLX5⟩)⟩
set_option maxRecDepth 100000 in
theorem gdL_wsX5_init : GoodIn lw_tbl wsX5_init := goodIn_sub inL_wsX5_init (by decide +kernel)
theorem nLX5_init : yX5_init.cls = RX5 ∧ yX5_init.cls ≠ "java/lang/invoke/MethodHandle" ∧ yX5_init.cls ≠ "java/lang/invoke/VarHandle" ∧ (parseMethodDescriptor yX5_init.desc).map (fun d => d.parameters.length) = some 0 := by decide +kernel
set_option maxRecDepth 100000 in
theorem inL_wsX4_letter : ∀ w ∈ wsX4_letter, w ∈ lw_tbl := List.forall_mem_cons.mpr ⟨Lw_100, (List.forall_mem_append.mpr ⟨(List.forall_mem_append.mpr ⟨(List.forall_mem_cons.mpr ⟨Lw_101, (List.forall_mem_cons.mpr ⟨Lw_15, (List.forall_mem_cons.mpr ⟨Lw_102, (List.forall_mem_cons.mpr ⟨Lw_103, (List.forall_mem_cons.mpr ⟨Lw_104, (List.forall_mem_cons.mpr ⟨Lw_105, (List.forall_mem_cons.mpr ⟨Lw_106, (List.forall_mem_cons.mpr ⟨Lw_14, (List.forall_mem_cons.mpr ⟨Lw_107, (List.forall_mem_cons.mpr ⟨Lw_42, (List.forall_mem_cons.mpr ⟨Lw_41, (fun _ h => absurd h List.not_mem_nil)⟩)⟩)⟩)⟩)⟩)⟩)⟩)⟩)⟩)⟩)⟩), inLX4⟩), inLX1⟩)⟩
set_option maxRecDepth 100000 in
theorem gdL_wsX4_letter : GoodIn lw_tbl wsX4_letter := goodIn_sub inL_wsX4_letter (by decide +kernel)
set_option maxRecDepth 100000 in
theorem gL_X4_letter : GoodIn lw_tbl (wsV RL 13 RX4 yX4_letter wsX4_letter) := goodIn_app (goodIn_sub (List.forall_mem_cons.mpr ⟨Lw_97, (List.forall_mem_cons.mpr ⟨Lw_98, (List.forall_mem_cons.mpr ⟨Lw_99, (List.forall_mem_cons.mpr ⟨Lw_2, (fun _ h => absurd h List.not_mem_nil)⟩)⟩)⟩)⟩) (by decide +kernel)) gdL_wsX4_letter
theorem nLX4_letter : yX4_letter.cls = RX4 ∧ yX4_letter.cls ≠ "java/lang/invoke/MethodHandle" ∧ yX4_letter.cls ≠ "java/lang/invoke/VarHandle" ∧ (parseMethodDescriptor yX4_letter.desc).map (fun d => d.parameters.length) = some 1 := by decide +kernel
set_option maxRecDepth 100000 in
theorem inL_wsX5_letter : ∀ w ∈ wsX5_letter, w ∈ lw_tbl := List.forall_mem_cons.mpr ⟨Lw_111, (List.forall_mem_append.mpr ⟨(List.forall_mem_cons.mpr ⟨Lw_112, (List.forall_mem_cons.mpr ⟨Lw_113, (List.forall_mem_cons.mpr ⟨Lw_114, (List.forall_mem_cons.mpr ⟨Lw_82, (List.forall_mem_cons.mpr ⟨Lw_115, (List.forall_mem_cons.mpr ⟨Lw_116, (List.forall_mem_cons.mpr ⟨Lw_5, (List.forall_mem_cons.mpr ⟨Lw_117, (fun _ h => absurd h List.not_mem_nil)⟩)⟩)⟩)⟩)⟩)⟩)⟩)⟩), inLX5⟩)⟩
set_option maxRecDepth 100000 in
theorem gdL_wsX5_letter : GoodIn lw_tbl wsX5_letter := goodIn_sub inL_wsX5_letter (by decide +kernel)
set_option maxRecDepth 100000 in
theorem gL_X5_letter : GoodIn lw_tbl (wsV RL 17 RX5 yX5_letter wsX5_letter) := goodIn_app (goodIn_sub (List.forall_mem_cons.mpr ⟨Lw_108, (List.forall_mem_cons.mpr ⟨Lw_109, (List.forall_mem_cons.mpr ⟨Lw_110, (List.forall_mem_cons.mpr ⟨Lw_5, (fun _ h => absurd h List.not_mem_nil)⟩)⟩)⟩)⟩) (by decide +kernel)) gdL_wsX5_letter
theorem nLX5_letter : yX5_letter.cls = RX5 ∧ yX5_letter.cls ≠ "java/lang/invoke/MethodHandle" ∧ yX5_letter.cls ≠ "java/lang/invoke/VarHandle" ∧ (parseMethodDescriptor yX5_letter.desc).map (fun d => d.parameters.length) = some 1 := by decide +kernel
set_option maxRecDepth 100000 in
theorem inL_wsX4_blank : ∀ w ∈ wsX4_blank, w ∈ lw_tbl := List.forall_mem_cons.mpr ⟨Lw_121, (List.forall_mem_append.mpr ⟨(List.forall_mem_append.mpr ⟨(List.forall_mem_cons.mpr ⟨Lw_15, (List.forall_mem_cons.mpr ⟨Lw_102, (fun _ h => absurd h List.not_mem_nil)⟩)⟩), inLX4⟩), inLX1⟩)⟩
set_option maxRecDepth 100000 in
theorem gdL_wsX4_blank : GoodIn lw_tbl wsX4_blank := goodIn_sub inL_wsX4_blank (by decide +kernel)
set_option maxRecDepth 100000 in
theorem gL_X4_blank : GoodIn lw_tbl (wsV RL 18 RX4 yX4_blank wsX4_blank) := goodIn_app (goodIn_sub (List.forall_mem_cons.mpr ⟨Lw_118, (List.forall_mem_cons.mpr ⟨Lw_119, (List.forall_mem_cons.mpr ⟨Lw_120, (List.forall_mem_cons.mpr ⟨Lw_2, (fun _ h => absurd h List.not_mem_nil)⟩)⟩)⟩)⟩) (by decide +kernel)) gdL_wsX4_blank
theorem nLX4_blank : yX4_blank.cls = RX4 ∧ yX4_blank.cls ≠ "java/lang/invoke/MethodHandle" ∧ yX4_blank.cls ≠ "java/lang/invoke/VarHandle" ∧ (parseMethodDescriptor yX4_blank.desc).map (fun d => d.parameters.length) = some 0 := by decide +kernel
set_option maxRecDepth 100000 in
theorem inL_wsX5_blank : ∀ w ∈ wsX5_blank, w ∈ lw_tbl := List.forall_mem_cons.mpr ⟨Lw_125, (List.forall_mem_append.mpr ⟨(List.forall_mem_cons.mpr ⟨Lw_113, (fun _ h => absurd h List.not_mem_nil)⟩), inLX5⟩)⟩
set_option maxRecDepth 100000 in
theorem gdL_wsX5_blank : GoodIn lw_tbl wsX5_blank := goodIn_sub inL_wsX5_blank (by decide +kernel)
set_option maxRecDepth 100000 in
theorem gL_X5_blank : GoodIn lw_tbl (wsV RL 22 RX5 yX5_blank wsX5_blank) := goodIn_app (goodIn_sub (List.forall_mem_cons.mpr ⟨Lw_122, (List.forall_mem_cons.mpr ⟨Lw_123, (List.forall_mem_cons.mpr ⟨Lw_124, (List.forall_mem_cons.mpr ⟨Lw_5, (fun _ h => absurd h List.not_mem_nil)⟩)⟩)⟩)⟩) (by decide +kernel)) gdL_wsX5_blank
theorem nLX5_blank : yX5_blank.cls = RX5 ∧ yX5_blank.cls ≠ "java/lang/invoke/MethodHandle" ∧ yX5_blank.cls ≠ "java/lang/invoke/VarHandle" ∧ (parseMethodDescriptor yX5_blank.desc).map (fun d => d.parameters.length) = some 0 := by decide +kernel
set_option maxRecDepth 100000 in
theorem in_wsX4_fault_r1 : ∀ w ∈ wsX4_fault_r1, w ∈ lw_tbl := (List.forall_mem_cons.mpr ⟨Lw_15, (List.forall_mem_cons.mpr ⟨Lw_130, (List.forall_mem_cons.mpr ⟨Lw_131, (List.forall_mem_cons.mpr ⟨Lw_132, (List.forall_mem_cons.mpr ⟨Lw_14, (List.forall_mem_cons.mpr ⟨Lw_133, (List.forall_mem_cons.mpr ⟨Lw_44, (List.forall_mem_cons.mpr ⟨Lw_45, (List.forall_mem_cons.mpr ⟨Lw_46, (List.forall_mem_cons.mpr ⟨Lw_42, (List.forall_mem_cons.mpr ⟨Lw_41, (List.forall_mem_cons.mpr ⟨Lw_134, (List.forall_mem_cons.mpr ⟨Lw_135, (List.forall_mem_cons.mpr ⟨Lw_136, (List.forall_mem_cons.mpr ⟨Lw_137, (List.forall_mem_cons.mpr ⟨Lw_138, (List.forall_mem_cons.mpr ⟨Lw_139, (List.forall_mem_cons.mpr ⟨Lw_140, (List.forall_mem_cons.mpr ⟨Lw_141, (List.forall_mem_cons.mpr ⟨Lw_142, (List.forall_mem_cons.mpr ⟨Lw_143, (List.forall_mem_cons.mpr ⟨Lw_144, (List.forall_mem_cons.mpr ⟨Lw_145, (List.forall_mem_cons.mpr ⟨Lw_146, (fun _ h => absurd h List.not_mem_nil)⟩)⟩)⟩)⟩)⟩)⟩)⟩)⟩)⟩)⟩)⟩)⟩)⟩)⟩)⟩)⟩)⟩)⟩)⟩)⟩)⟩)⟩)⟩)⟩)
set_option maxRecDepth 100000 in
theorem in_wsX4_fault_r2 : ∀ w ∈ wsX4_fault_r2, w ∈ lw_tbl := (List.forall_mem_cons.mpr ⟨Lw_147, (List.forall_mem_cons.mpr ⟨Lw_148, (List.forall_mem_cons.mpr ⟨Lw_149, (List.forall_mem_cons.mpr ⟨Lw_150, (List.forall_mem_cons.mpr ⟨Lw_151, (List.forall_mem_cons.mpr ⟨Lw_152, (List.forall_mem_cons.mpr ⟨Lw_153, (List.forall_mem_cons.mpr ⟨Lw_154, (List.forall_mem_cons.mpr ⟨Lw_155, (List.forall_mem_cons.mpr ⟨Lw_156, (List.forall_mem_cons.mpr ⟨Lw_157, (List.forall_mem_cons.mpr ⟨Lw_43, (List.forall_mem_cons.mpr ⟨Lw_158, (List.forall_mem_cons.mpr ⟨Lw_159, (List.forall_mem_cons.mpr ⟨Lw_160, (List.forall_mem_cons.mpr ⟨Lw_161, (fun _ h => absurd h List.not_mem_nil)⟩)⟩)⟩)⟩)⟩)⟩)⟩)⟩)⟩)⟩)⟩)⟩)⟩)⟩)⟩)⟩)
set_option maxRecDepth 100000 in
theorem inL_wsX4_fault : ∀ w ∈ wsX4_fault, w ∈ lw_tbl := List.forall_mem_cons.mpr ⟨Lw_129, (List.forall_mem_append.mpr ⟨(List.forall_mem_append.mpr ⟨(List.forall_mem_append.mpr ⟨in_wsX4_fault_r1, in_wsX4_fault_r2⟩), inLX4⟩), inLX1⟩)⟩
set_option maxRecDepth 100000 in
theorem gdL_wsX4_fault : GoodIn lw_tbl wsX4_fault := goodIn_sub inL_wsX4_fault (by decide +kernel)
set_option maxRecDepth 100000 in
theorem gL_X4_fault : GoodIn lw_tbl (wsV RL 23 RX4 yX4_fault wsX4_fault) := goodIn_app (goodIn_sub (List.forall_mem_cons.mpr ⟨Lw_126, (List.forall_mem_cons.mpr ⟨Lw_127, (List.forall_mem_cons.mpr ⟨Lw_128, (List.forall_mem_cons.mpr ⟨Lw_2, (fun _ h => absurd h List.not_mem_nil)⟩)⟩)⟩)⟩) (by decide +kernel)) gdL_wsX4_fault
theorem nLX4_fault : yX4_fault.cls = RX4 ∧ yX4_fault.cls ≠ "java/lang/invoke/MethodHandle" ∧ yX4_fault.cls ≠ "java/lang/invoke/VarHandle" ∧ (parseMethodDescriptor yX4_fault.desc).map (fun d => d.parameters.length) = some 0 := by decide +kernel
set_option maxRecDepth 100000 in
theorem in_wsX5_fault_r1 : ∀ w ∈ wsX5_fault_r1, w ∈ lw_tbl := (List.forall_mem_cons.mpr ⟨Lw_166, (List.forall_mem_cons.mpr ⟨Lw_167, (List.forall_mem_cons.mpr ⟨Lw_168, (List.forall_mem_cons.mpr ⟨Lw_5, (List.forall_mem_cons.mpr ⟨Lw_169, (List.forall_mem_cons.mpr ⟨Lw_170, (List.forall_mem_cons.mpr ⟨Lw_171, (List.forall_mem_cons.mpr ⟨Lw_172, (List.forall_mem_cons.mpr ⟨Lw_173, (List.forall_mem_cons.mpr ⟨Lw_174, (List.forall_mem_cons.mpr ⟨Lw_113, (List.forall_mem_cons.mpr ⟨Lw_82, (List.forall_mem_cons.mpr ⟨Lw_175, (List.forall_mem_cons.mpr ⟨Lw_176, (List.forall_mem_cons.mpr ⟨Lw_177, (List.forall_mem_cons.mpr ⟨Lw_178, (List.forall_mem_cons.mpr ⟨Lw_115, (List.forall_mem_cons.mpr ⟨Lw_116, (List.forall_mem_cons.mpr ⟨Lw_117, (List.forall_mem_cons.mpr ⟨Lw_179, (List.forall_mem_cons.mpr ⟨Lw_180, (List.forall_mem_cons.mpr ⟨Lw_181, (List.forall_mem_cons.mpr ⟨Lw_182, (List.forall_mem_cons.mpr ⟨Lw_183, (fun _ h => absurd h List.not_mem_nil)⟩)⟩)⟩)⟩)⟩)⟩)⟩)⟩)⟩)⟩)⟩)⟩)⟩)⟩)⟩)⟩)⟩)⟩)⟩)⟩)⟩)⟩)⟩)⟩)
set_option maxRecDepth 100000 in
theorem in_wsX5_fault_r2 : ∀ w ∈ wsX5_fault_r2, w ∈ lw_tbl := (List.forall_mem_cons.mpr ⟨Lw_184, (List.forall_mem_cons.mpr ⟨Lw_185, (List.forall_mem_cons.mpr ⟨Lw_186, (List.forall_mem_cons.mpr ⟨Lw_187, (List.forall_mem_cons.mpr ⟨Lw_188, (List.forall_mem_cons.mpr ⟨Lw_189, (List.forall_mem_cons.mpr ⟨Lw_190, (List.forall_mem_cons.mpr ⟨Lw_86, (fun _ h => absurd h List.not_mem_nil)⟩)⟩)⟩)⟩)⟩)⟩)⟩)⟩)
set_option maxRecDepth 100000 in
theorem inL_wsX5_fault : ∀ w ∈ wsX5_fault, w ∈ lw_tbl := List.forall_mem_cons.mpr ⟨Lw_165, (List.forall_mem_append.mpr ⟨(List.forall_mem_append.mpr ⟨in_wsX5_fault_r1, in_wsX5_fault_r2⟩), inLX5⟩)⟩
set_option maxRecDepth 100000 in
theorem gdL_wsX5_fault : GoodIn lw_tbl wsX5_fault := goodIn_sub inL_wsX5_fault (by decide +kernel)
set_option maxRecDepth 100000 in
theorem gL_X5_fault : GoodIn lw_tbl (wsV RL 26 RX5 yX5_fault wsX5_fault) := goodIn_app (goodIn_sub (List.forall_mem_cons.mpr ⟨Lw_162, (List.forall_mem_cons.mpr ⟨Lw_163, (List.forall_mem_cons.mpr ⟨Lw_164, (List.forall_mem_cons.mpr ⟨Lw_5, (fun _ h => absurd h List.not_mem_nil)⟩)⟩)⟩)⟩) (by decide +kernel)) gdL_wsX5_fault
theorem nLX5_fault : yX5_fault.cls = RX5 ∧ yX5_fault.cls ≠ "java/lang/invoke/MethodHandle" ∧ yX5_fault.cls ≠ "java/lang/invoke/VarHandle" ∧ (parseMethodDescriptor yX5_fault.desc).map (fun d => d.parameters.length) = some 0 := by decide +kernel
set_option maxRecDepth 100000 in
theorem in_wsX4_plant_r1 : ∀ w ∈ wsX4_plant_r1, w ∈ lw_tbl := (List.forall_mem_cons.mpr ⟨Lw_15, (List.forall_mem_cons.mpr ⟨Lw_195, (List.forall_mem_cons.mpr ⟨Lw_19, (List.forall_mem_cons.mpr ⟨Lw_102, (List.forall_mem_cons.mpr ⟨Lw_30, (List.forall_mem_cons.mpr ⟨Lw_34, (List.forall_mem_cons.mpr ⟨Lw_196, (List.forall_mem_cons.mpr ⟨Lw_197, (List.forall_mem_cons.mpr ⟨Lw_198, (List.forall_mem_cons.mpr ⟨Lw_199, (List.forall_mem_cons.mpr ⟨Lw_14, (List.forall_mem_cons.mpr ⟨Lw_200, (List.forall_mem_cons.mpr ⟨Lw_42, (List.forall_mem_cons.mpr ⟨Lw_44, (List.forall_mem_cons.mpr ⟨Lw_45, (List.forall_mem_cons.mpr ⟨Lw_201, (List.forall_mem_cons.mpr ⟨Lw_131, (List.forall_mem_cons.mpr ⟨Lw_132, (List.forall_mem_cons.mpr ⟨Lw_133, (List.forall_mem_cons.mpr ⟨Lw_46, (List.forall_mem_cons.mpr ⟨Lw_41, (List.forall_mem_cons.mpr ⟨Lw_134, (List.forall_mem_cons.mpr ⟨Lw_135, (List.forall_mem_cons.mpr ⟨Lw_136, (fun _ h => absurd h List.not_mem_nil)⟩)⟩)⟩)⟩)⟩)⟩)⟩)⟩)⟩)⟩)⟩)⟩)⟩)⟩)⟩)⟩)⟩)⟩)⟩)⟩)⟩)⟩)⟩)⟩)
set_option maxRecDepth 100000 in
theorem in_wsX4_plant_r2 : ∀ w ∈ wsX4_plant_r2, w ∈ lw_tbl := (List.forall_mem_cons.mpr ⟨Lw_137, (List.forall_mem_cons.mpr ⟨Lw_138, (List.forall_mem_cons.mpr ⟨Lw_139, (List.forall_mem_cons.mpr ⟨Lw_140, (List.forall_mem_cons.mpr ⟨Lw_141, (List.forall_mem_cons.mpr ⟨Lw_142, (List.forall_mem_cons.mpr ⟨Lw_143, (List.forall_mem_cons.mpr ⟨Lw_144, (List.forall_mem_cons.mpr ⟨Lw_145, (List.forall_mem_cons.mpr ⟨Lw_146, (List.forall_mem_cons.mpr ⟨Lw_147, (List.forall_mem_cons.mpr ⟨Lw_148, (List.forall_mem_cons.mpr ⟨Lw_149, (List.forall_mem_cons.mpr ⟨Lw_150, (List.forall_mem_cons.mpr ⟨Lw_151, (List.forall_mem_cons.mpr ⟨Lw_152, (List.forall_mem_cons.mpr ⟨Lw_153, (List.forall_mem_cons.mpr ⟨Lw_154, (List.forall_mem_cons.mpr ⟨Lw_155, (List.forall_mem_cons.mpr ⟨Lw_156, (List.forall_mem_cons.mpr ⟨Lw_157, (List.forall_mem_cons.mpr ⟨Lw_43, (List.forall_mem_cons.mpr ⟨Lw_158, (List.forall_mem_cons.mpr ⟨Lw_159, (fun _ h => absurd h List.not_mem_nil)⟩)⟩)⟩)⟩)⟩)⟩)⟩)⟩)⟩)⟩)⟩)⟩)⟩)⟩)⟩)⟩)⟩)⟩)⟩)⟩)⟩)⟩)⟩)⟩)
set_option maxRecDepth 100000 in
theorem in_wsX4_plant_r3 : ∀ w ∈ wsX4_plant_r3, w ∈ lw_tbl := (List.forall_mem_cons.mpr ⟨Lw_160, (List.forall_mem_cons.mpr ⟨Lw_161, (List.forall_mem_cons.mpr ⟨Lw_202, (List.forall_mem_cons.mpr ⟨Lw_203, (List.forall_mem_cons.mpr ⟨Lw_204, (List.forall_mem_cons.mpr ⟨Lw_205, (List.forall_mem_cons.mpr ⟨Lw_206, (List.forall_mem_cons.mpr ⟨Lw_207, (List.forall_mem_cons.mpr ⟨Lw_208, (List.forall_mem_cons.mpr ⟨Lw_209, (List.forall_mem_cons.mpr ⟨Lw_210, (List.forall_mem_cons.mpr ⟨Lw_18, (List.forall_mem_cons.mpr ⟨Lw_211, (List.forall_mem_cons.mpr ⟨Lw_51, (List.forall_mem_cons.mpr ⟨Lw_212, (List.forall_mem_cons.mpr ⟨Lw_213, (List.forall_mem_cons.mpr ⟨Lw_214, (List.forall_mem_cons.mpr ⟨Lw_2, (List.forall_mem_cons.mpr ⟨Lw_215, (List.forall_mem_cons.mpr ⟨Lw_23, (List.forall_mem_cons.mpr ⟨Lw_24, (List.forall_mem_cons.mpr ⟨Lw_36, (List.forall_mem_cons.mpr ⟨Lw_216, (List.forall_mem_cons.mpr ⟨Lw_217, (fun _ h => absurd h List.not_mem_nil)⟩)⟩)⟩)⟩)⟩)⟩)⟩)⟩)⟩)⟩)⟩)⟩)⟩)⟩)⟩)⟩)⟩)⟩)⟩)⟩)⟩)⟩)⟩)⟩)
set_option maxRecDepth 100000 in
theorem in_wsX4_plant_r4 : ∀ w ∈ wsX4_plant_r4, w ∈ lw_tbl := (List.forall_mem_cons.mpr ⟨Lw_218, (List.forall_mem_cons.mpr ⟨Lw_22, (List.forall_mem_cons.mpr ⟨Lw_219, (List.forall_mem_cons.mpr ⟨Lw_58, (List.forall_mem_cons.mpr ⟨Lw_220, (List.forall_mem_cons.mpr ⟨Lw_65, (List.forall_mem_cons.mpr ⟨Lw_62, (List.forall_mem_cons.mpr ⟨Lw_63, (List.forall_mem_cons.mpr ⟨Lw_61, (List.forall_mem_cons.mpr ⟨Lw_221, (List.forall_mem_cons.mpr ⟨Lw_222, (List.forall_mem_cons.mpr ⟨Lw_223, (List.forall_mem_cons.mpr ⟨Lw_224, (List.forall_mem_cons.mpr ⟨Lw_50, (List.forall_mem_cons.mpr ⟨Lw_225, (List.forall_mem_cons.mpr ⟨Lw_226, (List.forall_mem_cons.mpr ⟨Lw_227, (List.forall_mem_cons.mpr ⟨Lw_228, (List.forall_mem_cons.mpr ⟨Lw_64, (List.forall_mem_cons.mpr ⟨Lw_60, (List.forall_mem_cons.mpr ⟨Lw_229, (List.forall_mem_cons.mpr ⟨Lw_230, (List.forall_mem_cons.mpr ⟨Lw_231, (List.forall_mem_cons.mpr ⟨Lw_232, (fun _ h => absurd h List.not_mem_nil)⟩)⟩)⟩)⟩)⟩)⟩)⟩)⟩)⟩)⟩)⟩)⟩)⟩)⟩)⟩)⟩)⟩)⟩)⟩)⟩)⟩)⟩)⟩)⟩)
set_option maxRecDepth 100000 in
theorem in_wsX4_plant_r5 : ∀ w ∈ wsX4_plant_r5, w ∈ lw_tbl := (List.forall_mem_cons.mpr ⟨Lw_233, (List.forall_mem_cons.mpr ⟨Lw_234, (List.forall_mem_cons.mpr ⟨Lw_235, (List.forall_mem_cons.mpr ⟨Lw_236, (List.forall_mem_cons.mpr ⟨Lw_237, (List.forall_mem_cons.mpr ⟨Lw_238, (List.forall_mem_cons.mpr ⟨Lw_239, (List.forall_mem_cons.mpr ⟨Lw_240, (List.forall_mem_cons.mpr ⟨Lw_241, (List.forall_mem_cons.mpr ⟨Lw_242, (List.forall_mem_cons.mpr ⟨Lw_243, (List.forall_mem_cons.mpr ⟨Lw_59, (List.forall_mem_cons.mpr ⟨Lw_244, (List.forall_mem_cons.mpr ⟨Lw_245, (List.forall_mem_cons.mpr ⟨Lw_246, (List.forall_mem_cons.mpr ⟨Lw_247, (List.forall_mem_cons.mpr ⟨Lw_52, (List.forall_mem_cons.mpr ⟨Lw_248, (List.forall_mem_cons.mpr ⟨Lw_249, (List.forall_mem_cons.mpr ⟨Lw_250, (List.forall_mem_cons.mpr ⟨Lw_251, (List.forall_mem_cons.mpr ⟨Lw_252, (fun _ h => absurd h List.not_mem_nil)⟩)⟩)⟩)⟩)⟩)⟩)⟩)⟩)⟩)⟩)⟩)⟩)⟩)⟩)⟩)⟩)⟩)⟩)⟩)⟩)⟩)⟩)
set_option maxRecDepth 100000 in
theorem inL_wsX4_plant : ∀ w ∈ wsX4_plant, w ∈ lw_tbl := List.forall_mem_cons.mpr ⟨Lw_194, (List.forall_mem_append.mpr ⟨(List.forall_mem_append.mpr ⟨(List.forall_mem_append.mpr ⟨(List.forall_mem_append.mpr ⟨(List.forall_mem_append.mpr ⟨in_wsX4_plant_r1, (List.forall_mem_append.mpr ⟨in_wsX4_plant_r2, (List.forall_mem_append.mpr ⟨in_wsX4_plant_r3, (List.forall_mem_append.mpr ⟨in_wsX4_plant_r4, in_wsX4_plant_r5⟩)⟩)⟩)⟩), inLX4⟩), inLX1⟩), inLX3⟩), inLX0⟩)⟩
set_option maxRecDepth 100000 in
theorem gdL_wsX4_plant : GoodIn lw_tbl wsX4_plant := goodIn_sub inL_wsX4_plant (by decide +kernel)
set_option maxRecDepth 100000 in
theorem gL_X4_plant : GoodIn lw_tbl (wsV RL 27 RX4 yX4_plant wsX4_plant) := goodIn_app (goodIn_sub (List.forall_mem_cons.mpr ⟨Lw_191, (List.forall_mem_cons.mpr ⟨Lw_192, (List.forall_mem_cons.mpr ⟨Lw_193, (List.forall_mem_cons.mpr ⟨Lw_2, (fun _ h => absurd h List.not_mem_nil)⟩)⟩)⟩)⟩) (by decide +kernel)) gdL_wsX4_plant
theorem nLX4_plant : yX4_plant.cls = RX4 ∧ yX4_plant.cls ≠ "java/lang/invoke/MethodHandle" ∧ yX4_plant.cls ≠ "java/lang/invoke/VarHandle" ∧ (parseMethodDescriptor yX4_plant.desc).map (fun d => d.parameters.length) = some 0 := by decide +kernel
set_option maxRecDepth 100000 in
theorem in_wsX5_plant_r1 : ∀ w ∈ wsX5_plant_r1, w ∈ lw_tbl := (List.forall_mem_cons.mpr ⟨Lw_113, (List.forall_mem_cons.mpr ⟨Lw_171, (List.forall_mem_cons.mpr ⟨Lw_172, (List.forall_mem_cons.mpr ⟨Lw_170, (List.forall_mem_cons.mpr ⟨Lw_173, (List.forall_mem_cons.mpr ⟨Lw_257, (List.forall_mem_cons.mpr ⟨Lw_258, (List.forall_mem_cons.mpr ⟨Lw_83, (List.forall_mem_cons.mpr ⟨Lw_86, (List.forall_mem_cons.mpr ⟨Lw_84, (List.forall_mem_cons.mpr ⟨Lw_259, (List.forall_mem_cons.mpr ⟨Lw_166, (List.forall_mem_cons.mpr ⟨Lw_167, (List.forall_mem_cons.mpr ⟨Lw_168, (List.forall_mem_cons.mpr ⟨Lw_5, (List.forall_mem_cons.mpr ⟨Lw_169, (List.forall_mem_cons.mpr ⟨Lw_174, (List.forall_mem_cons.mpr ⟨Lw_82, (List.forall_mem_cons.mpr ⟨Lw_175, (List.forall_mem_cons.mpr ⟨Lw_176, (List.forall_mem_cons.mpr ⟨Lw_177, (List.forall_mem_cons.mpr ⟨Lw_178, (List.forall_mem_cons.mpr ⟨Lw_115, (List.forall_mem_cons.mpr ⟨Lw_116, (fun _ h => absurd h List.not_mem_nil)⟩)⟩)⟩)⟩)⟩)⟩)⟩)⟩)⟩)⟩)⟩)⟩)⟩)⟩)⟩)⟩)⟩)⟩)⟩)⟩)⟩)⟩)⟩)⟩)
set_option maxRecDepth 100000 in
theorem in_wsX5_plant_r2 : ∀ w ∈ wsX5_plant_r2, w ∈ lw_tbl := (List.forall_mem_cons.mpr ⟨Lw_117, (List.forall_mem_cons.mpr ⟨Lw_179, (List.forall_mem_cons.mpr ⟨Lw_180, (List.forall_mem_cons.mpr ⟨Lw_181, (List.forall_mem_cons.mpr ⟨Lw_182, (List.forall_mem_cons.mpr ⟨Lw_183, (List.forall_mem_cons.mpr ⟨Lw_184, (List.forall_mem_cons.mpr ⟨Lw_185, (List.forall_mem_cons.mpr ⟨Lw_186, (List.forall_mem_cons.mpr ⟨Lw_187, (List.forall_mem_cons.mpr ⟨Lw_188, (List.forall_mem_cons.mpr ⟨Lw_189, (List.forall_mem_cons.mpr ⟨Lw_190, (List.forall_mem_cons.mpr ⟨Lw_260, (List.forall_mem_cons.mpr ⟨Lw_261, (List.forall_mem_cons.mpr ⟨Lw_262, (List.forall_mem_cons.mpr ⟨Lw_263, (List.forall_mem_cons.mpr ⟨Lw_264, (List.forall_mem_cons.mpr ⟨Lw_265, (List.forall_mem_cons.mpr ⟨Lw_266, (List.forall_mem_cons.mpr ⟨Lw_267, (fun _ h => absurd h List.not_mem_nil)⟩)⟩)⟩)⟩)⟩)⟩)⟩)⟩)⟩)⟩)⟩)⟩)⟩)⟩)⟩)⟩)⟩)⟩)⟩)⟩)⟩)
set_option maxRecDepth 100000 in
theorem inL_wsX5_plant : ∀ w ∈ wsX5_plant, w ∈ lw_tbl := List.forall_mem_cons.mpr ⟨Lw_256, (List.forall_mem_append.mpr ⟨(List.forall_mem_append.mpr ⟨in_wsX5_plant_r1, in_wsX5_plant_r2⟩), inLX5⟩)⟩
set_option maxRecDepth 100000 in
theorem gdL_wsX5_plant : GoodIn lw_tbl wsX5_plant := goodIn_sub inL_wsX5_plant (by decide +kernel)
set_option maxRecDepth 100000 in
theorem gL_X5_plant : GoodIn lw_tbl (wsV RL 30 RX5 yX5_plant wsX5_plant) := goodIn_app (goodIn_sub (List.forall_mem_cons.mpr ⟨Lw_253, (List.forall_mem_cons.mpr ⟨Lw_254, (List.forall_mem_cons.mpr ⟨Lw_255, (List.forall_mem_cons.mpr ⟨Lw_5, (fun _ h => absurd h List.not_mem_nil)⟩)⟩)⟩)⟩) (by decide +kernel)) gdL_wsX5_plant
theorem nLX5_plant : yX5_plant.cls = RX5 ∧ yX5_plant.cls ≠ "java/lang/invoke/MethodHandle" ∧ yX5_plant.cls ≠ "java/lang/invoke/VarHandle" ∧ (parseMethodDescriptor yX5_plant.desc).map (fun d => d.parameters.length) = some 0 := by decide +kernel
set_option maxRecDepth 100000 in
theorem in_wsX4_alter_r1 : ∀ w ∈ wsX4_alter_r1, w ∈ lw_tbl := (List.forall_mem_cons.mpr ⟨Lw_19, (List.forall_mem_cons.mpr ⟨Lw_272, (List.forall_mem_cons.mpr ⟨Lw_101, (List.forall_mem_cons.mpr ⟨Lw_273, (List.forall_mem_cons.mpr ⟨Lw_274, (List.forall_mem_cons.mpr ⟨Lw_209, (List.forall_mem_cons.mpr ⟨Lw_210, (List.forall_mem_cons.mpr ⟨Lw_18, (List.forall_mem_cons.mpr ⟨Lw_211, (List.forall_mem_cons.mpr ⟨Lw_51, (List.forall_mem_cons.mpr ⟨Lw_212, (List.forall_mem_cons.mpr ⟨Lw_213, (List.forall_mem_cons.mpr ⟨Lw_214, (List.forall_mem_cons.mpr ⟨Lw_2, (List.forall_mem_cons.mpr ⟨Lw_215, (List.forall_mem_cons.mpr ⟨Lw_23, (List.forall_mem_cons.mpr ⟨Lw_24, (List.forall_mem_cons.mpr ⟨Lw_36, (List.forall_mem_cons.mpr ⟨Lw_216, (List.forall_mem_cons.mpr ⟨Lw_217, (List.forall_mem_cons.mpr ⟨Lw_218, (List.forall_mem_cons.mpr ⟨Lw_22, (List.forall_mem_cons.mpr ⟨Lw_219, (List.forall_mem_cons.mpr ⟨Lw_58, (fun _ h => absurd h List.not_mem_nil)⟩)⟩)⟩)⟩)⟩)⟩)⟩)⟩)⟩)⟩)⟩)⟩)⟩)⟩)⟩)⟩)⟩)⟩)⟩)⟩)⟩)⟩)⟩)⟩)
set_option maxRecDepth 100000 in
theorem in_wsX4_alter_r2 : ∀ w ∈ wsX4_alter_r2, w ∈ lw_tbl := (List.forall_mem_cons.mpr ⟨Lw_220, (List.forall_mem_cons.mpr ⟨Lw_65, (List.forall_mem_cons.mpr ⟨Lw_62, (List.forall_mem_cons.mpr ⟨Lw_63, (List.forall_mem_cons.mpr ⟨Lw_61, (List.forall_mem_cons.mpr ⟨Lw_221, (List.forall_mem_cons.mpr ⟨Lw_222, (List.forall_mem_cons.mpr ⟨Lw_223, (List.forall_mem_cons.mpr ⟨Lw_224, (List.forall_mem_cons.mpr ⟨Lw_50, (List.forall_mem_cons.mpr ⟨Lw_225, (List.forall_mem_cons.mpr ⟨Lw_226, (List.forall_mem_cons.mpr ⟨Lw_227, (List.forall_mem_cons.mpr ⟨Lw_228, (List.forall_mem_cons.mpr ⟨Lw_64, (List.forall_mem_cons.mpr ⟨Lw_60, (List.forall_mem_cons.mpr ⟨Lw_229, (List.forall_mem_cons.mpr ⟨Lw_230, (List.forall_mem_cons.mpr ⟨Lw_231, (List.forall_mem_cons.mpr ⟨Lw_232, (List.forall_mem_cons.mpr ⟨Lw_233, (List.forall_mem_cons.mpr ⟨Lw_234, (List.forall_mem_cons.mpr ⟨Lw_235, (List.forall_mem_cons.mpr ⟨Lw_236, (fun _ h => absurd h List.not_mem_nil)⟩)⟩)⟩)⟩)⟩)⟩)⟩)⟩)⟩)⟩)⟩)⟩)⟩)⟩)⟩)⟩)⟩)⟩)⟩)⟩)⟩)⟩)⟩)⟩)
set_option maxRecDepth 100000 in
theorem in_wsX4_alter_r3 : ∀ w ∈ wsX4_alter_r3, w ∈ lw_tbl := (List.forall_mem_cons.mpr ⟨Lw_237, (List.forall_mem_cons.mpr ⟨Lw_238, (List.forall_mem_cons.mpr ⟨Lw_239, (List.forall_mem_cons.mpr ⟨Lw_240, (List.forall_mem_cons.mpr ⟨Lw_241, (List.forall_mem_cons.mpr ⟨Lw_242, (List.forall_mem_cons.mpr ⟨Lw_243, (List.forall_mem_cons.mpr ⟨Lw_59, (List.forall_mem_cons.mpr ⟨Lw_244, (List.forall_mem_cons.mpr ⟨Lw_245, (List.forall_mem_cons.mpr ⟨Lw_246, (List.forall_mem_cons.mpr ⟨Lw_247, (List.forall_mem_cons.mpr ⟨Lw_52, (List.forall_mem_cons.mpr ⟨Lw_248, (List.forall_mem_cons.mpr ⟨Lw_249, (List.forall_mem_cons.mpr ⟨Lw_250, (List.forall_mem_cons.mpr ⟨Lw_251, (List.forall_mem_cons.mpr ⟨Lw_252, (fun _ h => absurd h List.not_mem_nil)⟩)⟩)⟩)⟩)⟩)⟩)⟩)⟩)⟩)⟩)⟩)⟩)⟩)⟩)⟩)⟩)⟩)⟩)
set_option maxRecDepth 100000 in
theorem inL_wsX4_alter : ∀ w ∈ wsX4_alter, w ∈ lw_tbl := List.forall_mem_cons.mpr ⟨Lw_271, (List.forall_mem_append.mpr ⟨(List.forall_mem_append.mpr ⟨(List.forall_mem_append.mpr ⟨(List.forall_mem_append.mpr ⟨in_wsX4_alter_r1, (List.forall_mem_append.mpr ⟨in_wsX4_alter_r2, in_wsX4_alter_r3⟩)⟩), inLX4⟩), inLX3⟩), inLX0⟩)⟩
set_option maxRecDepth 100000 in
theorem gdL_wsX4_alter : GoodIn lw_tbl wsX4_alter := goodIn_sub inL_wsX4_alter (by decide +kernel)
set_option maxRecDepth 100000 in
theorem gL_X4_alter : GoodIn lw_tbl (wsV RL 31 RX4 yX4_alter wsX4_alter) := goodIn_app (goodIn_sub (List.forall_mem_cons.mpr ⟨Lw_268, (List.forall_mem_cons.mpr ⟨Lw_269, (List.forall_mem_cons.mpr ⟨Lw_270, (List.forall_mem_cons.mpr ⟨Lw_2, (fun _ h => absurd h List.not_mem_nil)⟩)⟩)⟩)⟩) (by decide +kernel)) gdL_wsX4_alter
theorem nLX4_alter : yX4_alter.cls = RX4 ∧ yX4_alter.cls ≠ "java/lang/invoke/MethodHandle" ∧ yX4_alter.cls ≠ "java/lang/invoke/VarHandle" ∧ (parseMethodDescriptor yX4_alter.desc).map (fun d => d.parameters.length) = some 2 := by decide +kernel
set_option maxRecDepth 100000 in
theorem inL_wsX5_alter : ∀ w ∈ wsX5_alter, w ∈ lw_tbl := List.forall_mem_cons.mpr ⟨Lw_278, (List.forall_mem_append.mpr ⟨(List.forall_mem_cons.mpr ⟨Lw_279, (List.forall_mem_cons.mpr ⟨Lw_112, (List.forall_mem_cons.mpr ⟨Lw_83, (List.forall_mem_cons.mpr ⟨Lw_260, (List.forall_mem_cons.mpr ⟨Lw_261, (List.forall_mem_cons.mpr ⟨Lw_262, (List.forall_mem_cons.mpr ⟨Lw_5, (List.forall_mem_cons.mpr ⟨Lw_263, (List.forall_mem_cons.mpr ⟨Lw_115, (List.forall_mem_cons.mpr ⟨Lw_116, (List.forall_mem_cons.mpr ⟨Lw_117, (List.forall_mem_cons.mpr ⟨Lw_264, (List.forall_mem_cons.mpr ⟨Lw_265, (List.forall_mem_cons.mpr ⟨Lw_266, (List.forall_mem_cons.mpr ⟨Lw_267, (List.forall_mem_cons.mpr ⟨Lw_258, (fun _ h => absurd h List.not_mem_nil)⟩)⟩)⟩)⟩)⟩)⟩)⟩)⟩)⟩)⟩)⟩)⟩)⟩)⟩)⟩)⟩), inLX5⟩)⟩
set_option maxRecDepth 100000 in
theorem gdL_wsX5_alter : GoodIn lw_tbl wsX5_alter := goodIn_sub inL_wsX5_alter (by decide +kernel)
set_option maxRecDepth 100000 in
theorem gL_X5_alter : GoodIn lw_tbl (wsV RL 35 RX5 yX5_alter wsX5_alter) := goodIn_app (goodIn_sub (List.forall_mem_cons.mpr ⟨Lw_275, (List.forall_mem_cons.mpr ⟨Lw_276, (List.forall_mem_cons.mpr ⟨Lw_277, (List.forall_mem_cons.mpr ⟨Lw_5, (fun _ h => absurd h List.not_mem_nil)⟩)⟩)⟩)⟩) (by decide +kernel)) gdL_wsX5_alter
theorem nLX5_alter : yX5_alter.cls = RX5 ∧ yX5_alter.cls ≠ "java/lang/invoke/MethodHandle" ∧ yX5_alter.cls ≠ "java/lang/invoke/VarHandle" ∧ (parseMethodDescriptor yX5_alter.desc).map (fun d => d.parameters.length) = some 2 := by decide +kernel
set_option maxRecDepth 100000 in
theorem inL_wsX4_has : ∀ w ∈ wsX4_has, w ∈ lw_tbl := List.forall_mem_cons.mpr ⟨Lw_283, (List.forall_mem_append.mpr ⟨(List.forall_mem_append.mpr ⟨(List.forall_mem_cons.mpr ⟨Lw_19, (List.forall_mem_cons.mpr ⟨Lw_273, (List.forall_mem_cons.mpr ⟨Lw_272, (List.forall_mem_cons.mpr ⟨Lw_274, (List.forall_mem_cons.mpr ⟨Lw_209, (List.forall_mem_cons.mpr ⟨Lw_210, (List.forall_mem_cons.mpr ⟨Lw_18, (List.forall_mem_cons.mpr ⟨Lw_211, (List.forall_mem_cons.mpr ⟨Lw_51, (fun _ h => absurd h List.not_mem_nil)⟩)⟩)⟩)⟩)⟩)⟩)⟩)⟩)⟩), inLX4⟩), inLX3⟩)⟩
set_option maxRecDepth 100000 in
theorem gdL_wsX4_has : GoodIn lw_tbl wsX4_has := goodIn_sub inL_wsX4_has (by decide +kernel)
set_option maxRecDepth 100000 in
theorem gL_X4_has : GoodIn lw_tbl (wsV RL 36 RX4 yX4_has wsX4_has) := goodIn_app (goodIn_sub (List.forall_mem_cons.mpr ⟨Lw_280, (List.forall_mem_cons.mpr ⟨Lw_281, (List.forall_mem_cons.mpr ⟨Lw_282, (List.forall_mem_cons.mpr ⟨Lw_2, (fun _ h => absurd h List.not_mem_nil)⟩)⟩)⟩)⟩) (by decide +kernel)) gdL_wsX4_has
theorem nLX4_has : yX4_has.cls = RX4 ∧ yX4_has.cls ≠ "java/lang/invoke/MethodHandle" ∧ yX4_has.cls ≠ "java/lang/invoke/VarHandle" ∧ (parseMethodDescriptor yX4_has.desc).map (fun d => d.parameters.length) = some 1 := by decide +kernel
set_option maxRecDepth 100000 in
theorem inL_wsX5_has : ∀ w ∈ wsX5_has, w ∈ lw_tbl := List.forall_mem_cons.mpr ⟨Lw_287, (List.forall_mem_append.mpr ⟨(List.forall_mem_cons.mpr ⟨Lw_83, (List.forall_mem_cons.mpr ⟨Lw_279, (List.forall_mem_cons.mpr ⟨Lw_260, (List.forall_mem_cons.mpr ⟨Lw_261, (List.forall_mem_cons.mpr ⟨Lw_262, (List.forall_mem_cons.mpr ⟨Lw_5, (List.forall_mem_cons.mpr ⟨Lw_263, (List.forall_mem_cons.mpr ⟨Lw_115, (List.forall_mem_cons.mpr ⟨Lw_116, (List.forall_mem_cons.mpr ⟨Lw_117, (List.forall_mem_cons.mpr ⟨Lw_264, (List.forall_mem_cons.mpr ⟨Lw_265, (List.forall_mem_cons.mpr ⟨Lw_266, (List.forall_mem_cons.mpr ⟨Lw_267, (List.forall_mem_cons.mpr ⟨Lw_258, (fun _ h => absurd h List.not_mem_nil)⟩)⟩)⟩)⟩)⟩)⟩)⟩)⟩)⟩)⟩)⟩)⟩)⟩)⟩)⟩), inLX5⟩)⟩
set_option maxRecDepth 100000 in
theorem gdL_wsX5_has : GoodIn lw_tbl wsX5_has := goodIn_sub inL_wsX5_has (by decide +kernel)
set_option maxRecDepth 100000 in
theorem gL_X5_has : GoodIn lw_tbl (wsV RL 39 RX5 yX5_has wsX5_has) := goodIn_app (goodIn_sub (List.forall_mem_cons.mpr ⟨Lw_284, (List.forall_mem_cons.mpr ⟨Lw_285, (List.forall_mem_cons.mpr ⟨Lw_286, (List.forall_mem_cons.mpr ⟨Lw_5, (fun _ h => absurd h List.not_mem_nil)⟩)⟩)⟩)⟩) (by decide +kernel)) gdL_wsX5_has
theorem nLX5_has : yX5_has.cls = RX5 ∧ yX5_has.cls ≠ "java/lang/invoke/MethodHandle" ∧ yX5_has.cls ≠ "java/lang/invoke/VarHandle" ∧ (parseMethodDescriptor yX5_has.desc).map (fun d => d.parameters.length) = some 1 := by decide +kernel
set_option maxRecDepth 100000 in
theorem inL_wsX4_start : ∀ w ∈ wsX4_start, w ∈ lw_tbl := List.forall_mem_cons.mpr ⟨Lw_291, (List.forall_mem_append.mpr ⟨(List.forall_mem_append.mpr ⟨(List.forall_mem_cons.mpr ⟨Lw_19, (List.forall_mem_cons.mpr ⟨Lw_272, (List.forall_mem_cons.mpr ⟨Lw_101, (List.forall_mem_cons.mpr ⟨Lw_30, (List.forall_mem_cons.mpr ⟨Lw_36, (List.forall_mem_cons.mpr ⟨Lw_292, (List.forall_mem_cons.mpr ⟨Lw_293, (List.forall_mem_cons.mpr ⟨Lw_294, (List.forall_mem_cons.mpr ⟨Lw_18, (List.forall_mem_cons.mpr ⟨Lw_295, (List.forall_mem_cons.mpr ⟨Lw_51, (fun _ h => absurd h List.not_mem_nil)⟩)⟩)⟩)⟩)⟩)⟩)⟩)⟩)⟩)⟩)⟩), inLX4⟩), inLX3⟩)⟩
set_option maxRecDepth 100000 in
theorem gdL_wsX4_start : GoodIn lw_tbl wsX4_start := goodIn_sub inL_wsX4_start (by decide +kernel)
set_option maxRecDepth 100000 in
theorem gL_X4_start : GoodIn lw_tbl (wsV RL 40 RX4 yX4_start wsX4_start) := goodIn_app (goodIn_sub (List.forall_mem_cons.mpr ⟨Lw_288, (List.forall_mem_cons.mpr ⟨Lw_289, (List.forall_mem_cons.mpr ⟨Lw_290, (List.forall_mem_cons.mpr ⟨Lw_2, (fun _ h => absurd h List.not_mem_nil)⟩)⟩)⟩)⟩) (by decide +kernel)) gdL_wsX4_start
theorem nLX4_start : yX4_start.cls = RX4 ∧ yX4_start.cls ≠ "java/lang/invoke/MethodHandle" ∧ yX4_start.cls ≠ "java/lang/invoke/VarHandle" ∧ (parseMethodDescriptor yX4_start.desc).map (fun d => d.parameters.length) = some 2 := by decide +kernel
set_option maxRecDepth 100000 in
theorem inL_wsX5_start : ∀ w ∈ wsX5_start, w ∈ lw_tbl := List.forall_mem_cons.mpr ⟨Lw_299, (List.forall_mem_append.mpr ⟨(List.forall_mem_cons.mpr ⟨Lw_279, (List.forall_mem_cons.mpr ⟨Lw_112, (List.forall_mem_cons.mpr ⟨Lw_84, (List.forall_mem_cons.mpr ⟨Lw_264, (List.forall_mem_cons.mpr ⟨Lw_265, (List.forall_mem_cons.mpr ⟨Lw_266, (List.forall_mem_cons.mpr ⟨Lw_5, (List.forall_mem_cons.mpr ⟨Lw_267, (List.forall_mem_cons.mpr ⟨Lw_258, (List.forall_mem_cons.mpr ⟨Lw_115, (List.forall_mem_cons.mpr ⟨Lw_116, (List.forall_mem_cons.mpr ⟨Lw_117, (fun _ h => absurd h List.not_mem_nil)⟩)⟩)⟩)⟩)⟩)⟩)⟩)⟩)⟩)⟩)⟩)⟩), inLX5⟩)⟩
set_option maxRecDepth 100000 in
theorem gdL_wsX5_start : GoodIn lw_tbl wsX5_start := goodIn_sub inL_wsX5_start (by decide +kernel)
set_option maxRecDepth 100000 in
theorem gL_X5_start : GoodIn lw_tbl (wsV RL 43 RX5 yX5_start wsX5_start) := goodIn_app (goodIn_sub (List.forall_mem_cons.mpr ⟨Lw_296, (List.forall_mem_cons.mpr ⟨Lw_297, (List.forall_mem_cons.mpr ⟨Lw_298, (List.forall_mem_cons.mpr ⟨Lw_5, (fun _ h => absurd h List.not_mem_nil)⟩)⟩)⟩)⟩) (by decide +kernel)) gdL_wsX5_start
theorem nLX5_start : yX5_start.cls = RX5 ∧ yX5_start.cls ≠ "java/lang/invoke/MethodHandle" ∧ yX5_start.cls ≠ "java/lang/invoke/VarHandle" ∧ (parseMethodDescriptor yX5_start.desc).map (fun d => d.parameters.length) = some 2 := by decide +kernel
set_option maxRecDepth 100000 in
theorem inL_wsX4_limit : ∀ w ∈ wsX4_limit, w ∈ lw_tbl := List.forall_mem_cons.mpr ⟨Lw_303, (List.forall_mem_append.mpr ⟨(List.forall_mem_cons.mpr ⟨Lw_101, (List.forall_mem_cons.mpr ⟨Lw_33, (List.forall_mem_cons.mpr ⟨Lw_36, (fun _ h => absurd h List.not_mem_nil)⟩)⟩)⟩), inLX4⟩)⟩
set_option maxRecDepth 100000 in
theorem gdL_wsX4_limit : GoodIn lw_tbl wsX4_limit := goodIn_sub inL_wsX4_limit (by decide +kernel)
set_option maxRecDepth 100000 in
theorem gL_X4_limit : GoodIn lw_tbl (wsV RL 44 RX4 yX4_limit wsX4_limit) := goodIn_app (goodIn_sub (List.forall_mem_cons.mpr ⟨Lw_300, (List.forall_mem_cons.mpr ⟨Lw_301, (List.forall_mem_cons.mpr ⟨Lw_302, (List.forall_mem_cons.mpr ⟨Lw_2, (fun _ h => absurd h List.not_mem_nil)⟩)⟩)⟩)⟩) (by decide +kernel)) gdL_wsX4_limit
theorem nLX4_limit : yX4_limit.cls = RX4 ∧ yX4_limit.cls ≠ "java/lang/invoke/MethodHandle" ∧ yX4_limit.cls ≠ "java/lang/invoke/VarHandle" ∧ (parseMethodDescriptor yX4_limit.desc).map (fun d => d.parameters.length) = some 1 := by decide +kernel
set_option maxRecDepth 100000 in
theorem inL_wsX5_limit : ∀ w ∈ wsX5_limit, w ∈ lw_tbl := List.forall_mem_cons.mpr ⟨Lw_307, (List.forall_mem_append.mpr ⟨(List.forall_mem_cons.mpr ⟨Lw_112, (List.forall_mem_cons.mpr ⟨Lw_85, (List.forall_mem_cons.mpr ⟨Lw_115, (List.forall_mem_cons.mpr ⟨Lw_116, (List.forall_mem_cons.mpr ⟨Lw_5, (List.forall_mem_cons.mpr ⟨Lw_117, (fun _ h => absurd h List.not_mem_nil)⟩)⟩)⟩)⟩)⟩)⟩), inLX5⟩)⟩
set_option maxRecDepth 100000 in
theorem gdL_wsX5_limit : GoodIn lw_tbl wsX5_limit := goodIn_sub inL_wsX5_limit (by decide +kernel)
set_option maxRecDepth 100000 in
theorem gL_X5_limit : GoodIn lw_tbl (wsV RL 47 RX5 yX5_limit wsX5_limit) := goodIn_app (goodIn_sub (List.forall_mem_cons.mpr ⟨Lw_304, (List.forall_mem_cons.mpr ⟨Lw_305, (List.forall_mem_cons.mpr ⟨Lw_306, (List.forall_mem_cons.mpr ⟨Lw_5, (fun _ h => absurd h List.not_mem_nil)⟩)⟩)⟩)⟩) (by decide +kernel)) gdL_wsX5_limit
theorem nLX5_limit : yX5_limit.cls = RX5 ∧ yX5_limit.cls ≠ "java/lang/invoke/MethodHandle" ∧ yX5_limit.cls ≠ "java/lang/invoke/VarHandle" ∧ (parseMethodDescriptor yX5_limit.desc).map (fun d => d.parameters.length) = some 1 := by decide +kernel
set_option maxRecDepth 100000 in
theorem in_wsX4_tick_r1 : ∀ w ∈ wsX4_tick_r1, w ∈ lw_tbl := (List.forall_mem_cons.mpr ⟨Lw_19, (List.forall_mem_cons.mpr ⟨Lw_196, (List.forall_mem_cons.mpr ⟨Lw_195, (List.forall_mem_cons.mpr ⟨Lw_101, (List.forall_mem_cons.mpr ⟨Lw_30, (List.forall_mem_cons.mpr ⟨Lw_32, (List.forall_mem_cons.mpr ⟨Lw_273, (List.forall_mem_cons.mpr ⟨Lw_312, (List.forall_mem_cons.mpr ⟨Lw_313, (List.forall_mem_cons.mpr ⟨Lw_35, (List.forall_mem_cons.mpr ⟨Lw_36, (List.forall_mem_cons.mpr ⟨Lw_314, (List.forall_mem_cons.mpr ⟨Lw_222, (List.forall_mem_cons.mpr ⟨Lw_223, (List.forall_mem_cons.mpr ⟨Lw_18, (List.forall_mem_cons.mpr ⟨Lw_224, (List.forall_mem_cons.mpr ⟨Lw_50, (List.forall_mem_cons.mpr ⟨Lw_315, (List.forall_mem_cons.mpr ⟨Lw_231, (List.forall_mem_cons.mpr ⟨Lw_2, (List.forall_mem_cons.mpr ⟨Lw_232, (List.forall_mem_cons.mpr ⟨Lw_316, (List.forall_mem_cons.mpr ⟨Lw_317, (List.forall_mem_cons.mpr ⟨Lw_318, (fun _ h => absurd h List.not_mem_nil)⟩)⟩)⟩)⟩)⟩)⟩)⟩)⟩)⟩)⟩)⟩)⟩)⟩)⟩)⟩)⟩)⟩)⟩)⟩)⟩)⟩)⟩)⟩)⟩)
set_option maxRecDepth 100000 in
theorem in_wsX4_tick_r2 : ∀ w ∈ wsX4_tick_r2, w ∈ lw_tbl := (List.forall_mem_cons.mpr ⟨Lw_319, (fun _ h => absurd h List.not_mem_nil)⟩)
set_option maxRecDepth 100000 in
theorem inL_wsX4_tick : ∀ w ∈ wsX4_tick, w ∈ lw_tbl := List.forall_mem_cons.mpr ⟨Lw_311, (List.forall_mem_append.mpr ⟨(List.forall_mem_append.mpr ⟨(List.forall_mem_append.mpr ⟨in_wsX4_tick_r1, in_wsX4_tick_r2⟩), inLX4⟩), inLX3⟩)⟩
set_option maxRecDepth 100000 in
theorem gdL_wsX4_tick : GoodIn lw_tbl wsX4_tick := goodIn_sub inL_wsX4_tick (by decide +kernel)
set_option maxRecDepth 100000 in
theorem gL_X4_tick : GoodIn lw_tbl (wsV RL 48 RX4 yX4_tick wsX4_tick) := goodIn_app (goodIn_sub (List.forall_mem_cons.mpr ⟨Lw_308, (List.forall_mem_cons.mpr ⟨Lw_309, (List.forall_mem_cons.mpr ⟨Lw_310, (List.forall_mem_cons.mpr ⟨Lw_2, (fun _ h => absurd h List.not_mem_nil)⟩)⟩)⟩)⟩) (by decide +kernel)) gdL_wsX4_tick
theorem nLX4_tick : yX4_tick.cls = RX4 ∧ yX4_tick.cls ≠ "java/lang/invoke/MethodHandle" ∧ yX4_tick.cls ≠ "java/lang/invoke/VarHandle" ∧ (parseMethodDescriptor yX4_tick.desc).map (fun d => d.parameters.length) = some 1 := by decide +kernel
set_option maxRecDepth 100000 in
theorem in_wsX5_tick_r1 : ∀ w ∈ wsX5_tick_r1, w ∈ lw_tbl := (List.forall_mem_cons.mpr ⟨Lw_258, (List.forall_mem_cons.mpr ⟨Lw_257, (List.forall_mem_cons.mpr ⟨Lw_112, (List.forall_mem_cons.mpr ⟨Lw_88, (List.forall_mem_cons.mpr ⟨Lw_324, (List.forall_mem_cons.mpr ⟨Lw_325, (List.forall_mem_cons.mpr ⟨Lw_84, (List.forall_mem_cons.mpr ⟨Lw_326, (List.forall_mem_cons.mpr ⟨Lw_115, (List.forall_mem_cons.mpr ⟨Lw_116, (List.forall_mem_cons.mpr ⟨Lw_5, (List.forall_mem_cons.mpr ⟨Lw_117, (List.forall_mem_cons.mpr ⟨Lw_327, (List.forall_mem_cons.mpr ⟨Lw_328, (List.forall_mem_cons.mpr ⟨Lw_329, (List.forall_mem_cons.mpr ⟨Lw_330, (List.forall_mem_cons.mpr ⟨Lw_331, (List.forall_mem_cons.mpr ⟨Lw_332, (List.forall_mem_cons.mpr ⟨Lw_333, (List.forall_mem_cons.mpr ⟨Lw_334, (List.forall_mem_cons.mpr ⟨Lw_87, (List.forall_mem_cons.mpr ⟨Lw_83, (List.forall_mem_cons.mpr ⟨Lw_335, (List.forall_mem_cons.mpr ⟨Lw_336, (fun _ h => absurd h List.not_mem_nil)⟩)⟩)⟩)⟩)⟩)⟩)⟩)⟩)⟩)⟩)⟩)⟩)⟩)⟩)⟩)⟩)⟩)⟩)⟩)⟩)⟩)⟩)⟩)⟩)
set_option maxRecDepth 100000 in
theorem in_wsX5_tick_r2 : ∀ w ∈ wsX5_tick_r2, w ∈ lw_tbl := (List.forall_mem_cons.mpr ⟨Lw_337, (List.forall_mem_cons.mpr ⟨Lw_338, (fun _ h => absurd h List.not_mem_nil)⟩)⟩)
set_option maxRecDepth 100000 in
theorem inL_wsX5_tick : ∀ w ∈ wsX5_tick, w ∈ lw_tbl := List.forall_mem_cons.mpr ⟨Lw_323, (List.forall_mem_append.mpr ⟨(List.forall_mem_append.mpr ⟨in_wsX5_tick_r1, in_wsX5_tick_r2⟩), inLX5⟩)⟩
set_option maxRecDepth 100000 in
theorem gdL_wsX5_tick : GoodIn lw_tbl wsX5_tick := goodIn_sub inL_wsX5_tick (by decide +kernel)
set_option maxRecDepth 100000 in
theorem gL_X5_tick : GoodIn lw_tbl (wsV RL 51 RX5 yX5_tick wsX5_tick) := goodIn_app (goodIn_sub (List.forall_mem_cons.mpr ⟨Lw_320, (List.forall_mem_cons.mpr ⟨Lw_321, (List.forall_mem_cons.mpr ⟨Lw_322, (List.forall_mem_cons.mpr ⟨Lw_5, (fun _ h => absurd h List.not_mem_nil)⟩)⟩)⟩)⟩) (by decide +kernel)) gdL_wsX5_tick
theorem nLX5_tick : yX5_tick.cls = RX5 ∧ yX5_tick.cls ≠ "java/lang/invoke/MethodHandle" ∧ yX5_tick.cls ≠ "java/lang/invoke/VarHandle" ∧ (parseMethodDescriptor yX5_tick.desc).map (fun d => d.parameters.length) = some 1 := by decide +kernel
set_option maxRecDepth 100000 in
theorem inL_wsX4_row : ∀ w ∈ wsX4_row, w ∈ lw_tbl := List.forall_mem_cons.mpr ⟨Lw_342, (List.forall_mem_append.mpr ⟨(List.forall_mem_append.mpr ⟨(List.forall_mem_append.mpr ⟨(List.forall_mem_cons.mpr ⟨Lw_19, (List.forall_mem_cons.mpr ⟨Lw_272, (List.forall_mem_cons.mpr ⟨Lw_343, (List.forall_mem_cons.mpr ⟨Lw_292, (List.forall_mem_cons.mpr ⟨Lw_293, (List.forall_mem_cons.mpr ⟨Lw_294, (List.forall_mem_cons.mpr ⟨Lw_18, (List.forall_mem_cons.mpr ⟨Lw_295, (List.forall_mem_cons.mpr ⟨Lw_51, (List.forall_mem_cons.mpr ⟨Lw_344, (List.forall_mem_cons.mpr ⟨Lw_345, (List.forall_mem_cons.mpr ⟨Lw_346, (List.forall_mem_cons.mpr ⟨Lw_2, (List.forall_mem_cons.mpr ⟨Lw_347, (List.forall_mem_cons.mpr ⟨Lw_24, (List.forall_mem_cons.mpr ⟨Lw_23, (fun _ h => absurd h List.not_mem_nil)⟩)⟩)⟩)⟩)⟩)⟩)⟩)⟩)⟩)⟩)⟩)⟩)⟩)⟩)⟩)⟩), inLX4⟩), inLX0⟩), inLX3⟩)⟩
set_option maxRecDepth 100000 in
theorem gdL_wsX4_row : GoodIn lw_tbl wsX4_row := goodIn_sub inL_wsX4_row (by decide +kernel)
set_option maxRecDepth 100000 in
theorem gL_X4_row : GoodIn lw_tbl (wsV RL 52 RX4 yX4_row wsX4_row) := goodIn_app (goodIn_sub (List.forall_mem_cons.mpr ⟨Lw_339, (List.forall_mem_cons.mpr ⟨Lw_340, (List.forall_mem_cons.mpr ⟨Lw_341, (List.forall_mem_cons.mpr ⟨Lw_2, (fun _ h => absurd h List.not_mem_nil)⟩)⟩)⟩)⟩) (by decide +kernel)) gdL_wsX4_row
theorem nLX4_row : yX4_row.cls = RX4 ∧ yX4_row.cls ≠ "java/lang/invoke/MethodHandle" ∧ yX4_row.cls ≠ "java/lang/invoke/VarHandle" ∧ (parseMethodDescriptor yX4_row.desc).map (fun d => d.parameters.length) = some 3 := by decide +kernel
set_option maxRecDepth 100000 in
theorem inL_wsX5_row : ∀ w ∈ wsX5_row, w ∈ lw_tbl := List.forall_mem_cons.mpr ⟨Lw_351, (List.forall_mem_append.mpr ⟨(List.forall_mem_cons.mpr ⟨Lw_279, (List.forall_mem_cons.mpr ⟨Lw_89, (List.forall_mem_cons.mpr ⟨Lw_264, (List.forall_mem_cons.mpr ⟨Lw_265, (List.forall_mem_cons.mpr ⟨Lw_266, (List.forall_mem_cons.mpr ⟨Lw_5, (List.forall_mem_cons.mpr ⟨Lw_267, (List.forall_mem_cons.mpr ⟨Lw_258, (List.forall_mem_cons.mpr ⟨Lw_115, (List.forall_mem_cons.mpr ⟨Lw_116, (List.forall_mem_cons.mpr ⟨Lw_117, (List.forall_mem_cons.mpr ⟨Lw_352, (List.forall_mem_cons.mpr ⟨Lw_353, (List.forall_mem_cons.mpr ⟨Lw_354, (List.forall_mem_cons.mpr ⟨Lw_355, (List.forall_mem_cons.mpr ⟨Lw_83, (List.forall_mem_cons.mpr ⟨Lw_356, (List.forall_mem_cons.mpr ⟨Lw_357, (List.forall_mem_cons.mpr ⟨Lw_358, (List.forall_mem_cons.mpr ⟨Lw_359, (fun _ h => absurd h List.not_mem_nil)⟩)⟩)⟩)⟩)⟩)⟩)⟩)⟩)⟩)⟩)⟩)⟩)⟩)⟩)⟩)⟩)⟩)⟩)⟩)⟩), inLX5⟩)⟩
set_option maxRecDepth 100000 in
theorem gdL_wsX5_row : GoodIn lw_tbl wsX5_row := goodIn_sub inL_wsX5_row (by decide +kernel)
set_option maxRecDepth 100000 in
theorem gL_X5_row : GoodIn lw_tbl (wsV RL 56 RX5 yX5_row wsX5_row) := goodIn_app (goodIn_sub (List.forall_mem_cons.mpr ⟨Lw_348, (List.forall_mem_cons.mpr ⟨Lw_349, (List.forall_mem_cons.mpr ⟨Lw_350, (List.forall_mem_cons.mpr ⟨Lw_5, (fun _ h => absurd h List.not_mem_nil)⟩)⟩)⟩)⟩) (by decide +kernel)) gdL_wsX5_row
theorem nLX5_row : yX5_row.cls = RX5 ∧ yX5_row.cls ≠ "java/lang/invoke/MethodHandle" ∧ yX5_row.cls ≠ "java/lang/invoke/VarHandle" ∧ (parseMethodDescriptor yX5_row.desc).map (fun d => d.parameters.length) = some 3 := by decide +kernel
set_option maxRecDepth 100000 in
theorem in_wsX4_about_r1 : ∀ w ∈ wsX4_about_r1, w ∈ lw_tbl := (List.forall_mem_cons.mpr ⟨Lw_19, (List.forall_mem_cons.mpr ⟨Lw_196, (List.forall_mem_cons.mpr ⟨Lw_195, (List.forall_mem_cons.mpr ⟨Lw_23, (List.forall_mem_cons.mpr ⟨Lw_364, (List.forall_mem_cons.mpr ⟨Lw_24, (List.forall_mem_cons.mpr ⟨Lw_30, (List.forall_mem_cons.mpr ⟨Lw_101, (List.forall_mem_cons.mpr ⟨Lw_365, (List.forall_mem_cons.mpr ⟨Lw_366, (List.forall_mem_cons.mpr ⟨Lw_367, (List.forall_mem_cons.mpr ⟨Lw_2, (List.forall_mem_cons.mpr ⟨Lw_368, (List.forall_mem_cons.mpr ⟨Lw_369, (List.forall_mem_cons.mpr ⟨Lw_370, (List.forall_mem_cons.mpr ⟨Lw_371, (List.forall_mem_cons.mpr ⟨Lw_372, (List.forall_mem_cons.mpr ⟨Lw_31, (List.forall_mem_cons.mpr ⟨Lw_315, (List.forall_mem_cons.mpr ⟨Lw_231, (List.forall_mem_cons.mpr ⟨Lw_232, (List.forall_mem_cons.mpr ⟨Lw_373, (List.forall_mem_cons.mpr ⟨Lw_245, (List.forall_mem_cons.mpr ⟨Lw_246, (fun _ h => absurd h List.not_mem_nil)⟩)⟩)⟩)⟩)⟩)⟩)⟩)⟩)⟩)⟩)⟩)⟩)⟩)⟩)⟩)⟩)⟩)⟩)⟩)⟩)⟩)⟩)⟩)⟩)
set_option maxRecDepth 100000 in
theorem in_wsX4_about_r2 : ∀ w ∈ wsX4_about_r2, w ∈ lw_tbl := (List.forall_mem_cons.mpr ⟨Lw_18, (List.forall_mem_cons.mpr ⟨Lw_247, (List.forall_mem_cons.mpr ⟨Lw_52, (List.forall_mem_cons.mpr ⟨Lw_248, (List.forall_mem_cons.mpr ⟨Lw_222, (List.forall_mem_cons.mpr ⟨Lw_223, (List.forall_mem_cons.mpr ⟨Lw_224, (List.forall_mem_cons.mpr ⟨Lw_50, (List.forall_mem_cons.mpr ⟨Lw_374, (List.forall_mem_cons.mpr ⟨Lw_375, (List.forall_mem_cons.mpr ⟨Lw_376, (List.forall_mem_cons.mpr ⟨Lw_22, (List.forall_mem_cons.mpr ⟨Lw_377, (List.forall_mem_cons.mpr ⟨Lw_249, (List.forall_mem_cons.mpr ⟨Lw_250, (List.forall_mem_cons.mpr ⟨Lw_251, (List.forall_mem_cons.mpr ⟨Lw_252, (List.forall_mem_cons.mpr ⟨Lw_63, (List.forall_mem_cons.mpr ⟨Lw_233, (List.forall_mem_cons.mpr ⟨Lw_234, (List.forall_mem_cons.mpr ⟨Lw_316, (List.forall_mem_cons.mpr ⟨Lw_317, (List.forall_mem_cons.mpr ⟨Lw_318, (List.forall_mem_cons.mpr ⟨Lw_319, (fun _ h => absurd h List.not_mem_nil)⟩)⟩)⟩)⟩)⟩)⟩)⟩)⟩)⟩)⟩)⟩)⟩)⟩)⟩)⟩)⟩)⟩)⟩)⟩)⟩)⟩)⟩)⟩)⟩)
set_option maxRecDepth 100000 in
theorem inL_wsX4_about : ∀ w ∈ wsX4_about, w ∈ lw_tbl := List.forall_mem_cons.mpr ⟨Lw_363, (List.forall_mem_append.mpr ⟨(List.forall_mem_append.mpr ⟨(List.forall_mem_append.mpr ⟨(List.forall_mem_append.mpr ⟨in_wsX4_about_r1, in_wsX4_about_r2⟩), inLX4⟩), inLX3⟩), inLX0⟩)⟩
set_option maxRecDepth 100000 in
theorem gdL_wsX4_about : GoodIn lw_tbl wsX4_about := goodIn_sub inL_wsX4_about (by decide +kernel)
set_option maxRecDepth 100000 in
theorem gL_X4_about : GoodIn lw_tbl (wsV RL 57 RX4 yX4_about wsX4_about) := goodIn_app (goodIn_sub (List.forall_mem_cons.mpr ⟨Lw_360, (List.forall_mem_cons.mpr ⟨Lw_361, (List.forall_mem_cons.mpr ⟨Lw_362, (List.forall_mem_cons.mpr ⟨Lw_2, (fun _ h => absurd h List.not_mem_nil)⟩)⟩)⟩)⟩) (by decide +kernel)) gdL_wsX4_about
theorem nLX4_about : yX4_about.cls = RX4 ∧ yX4_about.cls ≠ "java/lang/invoke/MethodHandle" ∧ yX4_about.cls ≠ "java/lang/invoke/VarHandle" ∧ (parseMethodDescriptor yX4_about.desc).map (fun d => d.parameters.length) = some 1 := by decide +kernel
set_option maxRecDepth 100000 in
theorem in_wsX5_about_r1 : ∀ w ∈ wsX5_about_r1, w ∈ lw_tbl := (List.forall_mem_cons.mpr ⟨Lw_258, (List.forall_mem_cons.mpr ⟨Lw_257, (List.forall_mem_cons.mpr ⟨Lw_112, (List.forall_mem_cons.mpr ⟨Lw_115, (List.forall_mem_cons.mpr ⟨Lw_116, (List.forall_mem_cons.mpr ⟨Lw_5, (List.forall_mem_cons.mpr ⟨Lw_117, (List.forall_mem_cons.mpr ⟨Lw_382, (List.forall_mem_cons.mpr ⟨Lw_383, (List.forall_mem_cons.mpr ⟨Lw_384, (List.forall_mem_cons.mpr ⟨Lw_385, (List.forall_mem_cons.mpr ⟨Lw_386, (List.forall_mem_cons.mpr ⟨Lw_387, (List.forall_mem_cons.mpr ⟨Lw_388, (List.forall_mem_cons.mpr ⟨Lw_389, (List.forall_mem_cons.mpr ⟨Lw_89, (List.forall_mem_cons.mpr ⟨Lw_352, (List.forall_mem_cons.mpr ⟨Lw_353, (List.forall_mem_cons.mpr ⟨Lw_354, (List.forall_mem_cons.mpr ⟨Lw_355, (List.forall_mem_cons.mpr ⟨Lw_83, (List.forall_mem_cons.mpr ⟨Lw_264, (List.forall_mem_cons.mpr ⟨Lw_265, (List.forall_mem_cons.mpr ⟨Lw_266, (fun _ h => absurd h List.not_mem_nil)⟩)⟩)⟩)⟩)⟩)⟩)⟩)⟩)⟩)⟩)⟩)⟩)⟩)⟩)⟩)⟩)⟩)⟩)⟩)⟩)⟩)⟩)⟩)⟩)
set_option maxRecDepth 100000 in
theorem in_wsX5_about_r2 : ∀ w ∈ wsX5_about_r2, w ∈ lw_tbl := (List.forall_mem_cons.mpr ⟨Lw_267, (List.forall_mem_cons.mpr ⟨Lw_356, (List.forall_mem_cons.mpr ⟨Lw_357, (List.forall_mem_cons.mpr ⟨Lw_358, (List.forall_mem_cons.mpr ⟨Lw_359, (List.forall_mem_cons.mpr ⟨Lw_390, (List.forall_mem_cons.mpr ⟨Lw_391, (List.forall_mem_cons.mpr ⟨Lw_392, (List.forall_mem_cons.mpr ⟨Lw_393, (List.forall_mem_cons.mpr ⟨Lw_394, (List.forall_mem_cons.mpr ⟨Lw_395, (List.forall_mem_cons.mpr ⟨Lw_396, (List.forall_mem_cons.mpr ⟨Lw_397, (List.forall_mem_cons.mpr ⟨Lw_398, (List.forall_mem_cons.mpr ⟨Lw_399, (List.forall_mem_cons.mpr ⟨Lw_400, (List.forall_mem_cons.mpr ⟨Lw_401, (List.forall_mem_cons.mpr ⟨Lw_402, (List.forall_mem_cons.mpr ⟨Lw_403, (List.forall_mem_cons.mpr ⟨Lw_404, (List.forall_mem_cons.mpr ⟨Lw_405, (List.forall_mem_cons.mpr ⟨Lw_406, (List.forall_mem_cons.mpr ⟨Lw_407, (List.forall_mem_cons.mpr ⟨Lw_408, (fun _ h => absurd h List.not_mem_nil)⟩)⟩)⟩)⟩)⟩)⟩)⟩)⟩)⟩)⟩)⟩)⟩)⟩)⟩)⟩)⟩)⟩)⟩)⟩)⟩)⟩)⟩)⟩)⟩)
set_option maxRecDepth 100000 in
theorem in_wsX5_about_r3 : ∀ w ∈ wsX5_about_r3, w ∈ lw_tbl := (List.forall_mem_cons.mpr ⟨Lw_409, (List.forall_mem_cons.mpr ⟨Lw_410, (List.forall_mem_cons.mpr ⟨Lw_411, (List.forall_mem_cons.mpr ⟨Lw_412, (List.forall_mem_cons.mpr ⟨Lw_88, (List.forall_mem_cons.mpr ⟨Lw_327, (List.forall_mem_cons.mpr ⟨Lw_328, (List.forall_mem_cons.mpr ⟨Lw_329, (List.forall_mem_cons.mpr ⟨Lw_330, (List.forall_mem_cons.mpr ⟨Lw_84, (List.forall_mem_cons.mpr ⟨Lw_331, (List.forall_mem_cons.mpr ⟨Lw_332, (List.forall_mem_cons.mpr ⟨Lw_333, (List.forall_mem_cons.mpr ⟨Lw_334, (List.forall_mem_cons.mpr ⟨Lw_87, (List.forall_mem_cons.mpr ⟨Lw_413, (List.forall_mem_cons.mpr ⟨Lw_414, (List.forall_mem_cons.mpr ⟨Lw_415, (List.forall_mem_cons.mpr ⟨Lw_416, (List.forall_mem_cons.mpr ⟨Lw_335, (List.forall_mem_cons.mpr ⟨Lw_336, (List.forall_mem_cons.mpr ⟨Lw_337, (List.forall_mem_cons.mpr ⟨Lw_338, (fun _ h => absurd h List.not_mem_nil)⟩)⟩)⟩)⟩)⟩)⟩)⟩)⟩)⟩)⟩)⟩)⟩)⟩)⟩)⟩)⟩)⟩)⟩)⟩)⟩)⟩)⟩)⟩)
set_option maxRecDepth 100000 in
theorem inL_wsX5_about : ∀ w ∈ wsX5_about, w ∈ lw_tbl := List.forall_mem_cons.mpr ⟨Lw_381, (List.forall_mem_append.mpr ⟨(List.forall_mem_append.mpr ⟨in_wsX5_about_r1, (List.forall_mem_append.mpr ⟨in_wsX5_about_r2, in_wsX5_about_r3⟩)⟩), inLX5⟩)⟩
set_option maxRecDepth 100000 in
theorem gdL_wsX5_about : GoodIn lw_tbl wsX5_about := goodIn_sub inL_wsX5_about (by decide +kernel)
set_option maxRecDepth 100000 in
theorem gL_X5_about : GoodIn lw_tbl (wsV RL 60 RX5 yX5_about wsX5_about) := goodIn_app (goodIn_sub (List.forall_mem_cons.mpr ⟨Lw_378, (List.forall_mem_cons.mpr ⟨Lw_379, (List.forall_mem_cons.mpr ⟨Lw_380, (List.forall_mem_cons.mpr ⟨Lw_5, (fun _ h => absurd h List.not_mem_nil)⟩)⟩)⟩)⟩) (by decide +kernel)) gdL_wsX5_about
theorem nLX5_about : yX5_about.cls = RX5 ∧ yX5_about.cls ≠ "java/lang/invoke/MethodHandle" ∧ yX5_about.cls ≠ "java/lang/invoke/VarHandle" ∧ (parseMethodDescriptor yX5_about.desc).map (fun d => d.parameters.length) = some 1 := by decide +kernel
set_option maxRecDepth 100000 in
theorem in_wsX4_gain_r1 : ∀ w ∈ wsX4_gain_r1, w ∈ lw_tbl := (List.forall_mem_cons.mpr ⟨Lw_19, (List.forall_mem_cons.mpr ⟨Lw_272, (List.forall_mem_cons.mpr ⟨Lw_101, (List.forall_mem_cons.mpr ⟨Lw_421, (List.forall_mem_cons.mpr ⟨Lw_422, (List.forall_mem_cons.mpr ⟨Lw_195, (List.forall_mem_cons.mpr ⟨Lw_292, (List.forall_mem_cons.mpr ⟨Lw_293, (List.forall_mem_cons.mpr ⟨Lw_294, (List.forall_mem_cons.mpr ⟨Lw_18, (List.forall_mem_cons.mpr ⟨Lw_295, (List.forall_mem_cons.mpr ⟨Lw_51, (List.forall_mem_cons.mpr ⟨Lw_423, (List.forall_mem_cons.mpr ⟨Lw_424, (List.forall_mem_cons.mpr ⟨Lw_2, (List.forall_mem_cons.mpr ⟨Lw_425, (List.forall_mem_cons.mpr ⟨Lw_344, (List.forall_mem_cons.mpr ⟨Lw_345, (List.forall_mem_cons.mpr ⟨Lw_346, (List.forall_mem_cons.mpr ⟨Lw_347, (List.forall_mem_cons.mpr ⟨Lw_24, (List.forall_mem_cons.mpr ⟨Lw_23, (List.forall_mem_cons.mpr ⟨Lw_365, (List.forall_mem_cons.mpr ⟨Lw_366, (fun _ h => absurd h List.not_mem_nil)⟩)⟩)⟩)⟩)⟩)⟩)⟩)⟩)⟩)⟩)⟩)⟩)⟩)⟩)⟩)⟩)⟩)⟩)⟩)⟩)⟩)⟩)⟩)⟩)
set_option maxRecDepth 100000 in
theorem in_wsX4_gain_r2 : ∀ w ∈ wsX4_gain_r2, w ∈ lw_tbl := (List.forall_mem_cons.mpr ⟨Lw_367, (List.forall_mem_cons.mpr ⟨Lw_368, (List.forall_mem_cons.mpr ⟨Lw_196, (List.forall_mem_cons.mpr ⟨Lw_364, (List.forall_mem_cons.mpr ⟨Lw_426, (List.forall_mem_cons.mpr ⟨Lw_427, (List.forall_mem_cons.mpr ⟨Lw_428, (List.forall_mem_cons.mpr ⟨Lw_429, (List.forall_mem_cons.mpr ⟨Lw_430, (List.forall_mem_cons.mpr ⟨Lw_431, (List.forall_mem_cons.mpr ⟨Lw_432, (List.forall_mem_cons.mpr ⟨Lw_433, (List.forall_mem_cons.mpr ⟨Lw_434, (List.forall_mem_cons.mpr ⟨Lw_435, (List.forall_mem_cons.mpr ⟨Lw_436, (List.forall_mem_cons.mpr ⟨Lw_437, (List.forall_mem_cons.mpr ⟨Lw_438, (fun _ h => absurd h List.not_mem_nil)⟩)⟩)⟩)⟩)⟩)⟩)⟩)⟩)⟩)⟩)⟩)⟩)⟩)⟩)⟩)⟩)⟩)
set_option maxRecDepth 100000 in
theorem inL_wsX4_gain : ∀ w ∈ wsX4_gain, w ∈ lw_tbl := List.forall_mem_cons.mpr ⟨Lw_420, (List.forall_mem_append.mpr ⟨(List.forall_mem_append.mpr ⟨(List.forall_mem_append.mpr ⟨(List.forall_mem_append.mpr ⟨in_wsX4_gain_r1, in_wsX4_gain_r2⟩), inLX4⟩), inLX0⟩), inLX3⟩)⟩
set_option maxRecDepth 100000 in
theorem gdL_wsX4_gain : GoodIn lw_tbl wsX4_gain := goodIn_sub inL_wsX4_gain (by decide +kernel)
set_option maxRecDepth 100000 in
theorem gL_X4_gain : GoodIn lw_tbl (wsV RL 61 RX4 yX4_gain wsX4_gain) := goodIn_app (goodIn_sub (List.forall_mem_cons.mpr ⟨Lw_417, (List.forall_mem_cons.mpr ⟨Lw_418, (List.forall_mem_cons.mpr ⟨Lw_419, (List.forall_mem_cons.mpr ⟨Lw_2, (fun _ h => absurd h List.not_mem_nil)⟩)⟩)⟩)⟩) (by decide +kernel)) gdL_wsX4_gain
theorem nLX4_gain : yX4_gain.cls = RX4 ∧ yX4_gain.cls ≠ "java/lang/invoke/MethodHandle" ∧ yX4_gain.cls ≠ "java/lang/invoke/VarHandle" ∧ (parseMethodDescriptor yX4_gain.desc).map (fun d => d.parameters.length) = some 3 := by decide +kernel
set_option maxRecDepth 100000 in
theorem in_wsX5_gain_r1 : ∀ w ∈ wsX5_gain_r1, w ∈ lw_tbl := (List.forall_mem_cons.mpr ⟨Lw_279, (List.forall_mem_cons.mpr ⟨Lw_112, (List.forall_mem_cons.mpr ⟨Lw_257, (List.forall_mem_cons.mpr ⟨Lw_264, (List.forall_mem_cons.mpr ⟨Lw_265, (List.forall_mem_cons.mpr ⟨Lw_266, (List.forall_mem_cons.mpr ⟨Lw_5, (List.forall_mem_cons.mpr ⟨Lw_267, (List.forall_mem_cons.mpr ⟨Lw_258, (List.forall_mem_cons.mpr ⟨Lw_115, (List.forall_mem_cons.mpr ⟨Lw_116, (List.forall_mem_cons.mpr ⟨Lw_117, (List.forall_mem_cons.mpr ⟨Lw_443, (List.forall_mem_cons.mpr ⟨Lw_444, (List.forall_mem_cons.mpr ⟨Lw_445, (List.forall_mem_cons.mpr ⟨Lw_405, (List.forall_mem_cons.mpr ⟨Lw_406, (List.forall_mem_cons.mpr ⟨Lw_407, (List.forall_mem_cons.mpr ⟨Lw_408, (List.forall_mem_cons.mpr ⟨Lw_386, (List.forall_mem_cons.mpr ⟨Lw_387, (List.forall_mem_cons.mpr ⟨Lw_388, (List.forall_mem_cons.mpr ⟨Lw_389, (List.forall_mem_cons.mpr ⟨Lw_89, (fun _ h => absurd h List.not_mem_nil)⟩)⟩)⟩)⟩)⟩)⟩)⟩)⟩)⟩)⟩)⟩)⟩)⟩)⟩)⟩)⟩)⟩)⟩)⟩)⟩)⟩)⟩)⟩)⟩)
set_option maxRecDepth 100000 in
theorem in_wsX5_gain_r2 : ∀ w ∈ wsX5_gain_r2, w ∈ lw_tbl := (List.forall_mem_cons.mpr ⟨Lw_352, (List.forall_mem_cons.mpr ⟨Lw_353, (List.forall_mem_cons.mpr ⟨Lw_354, (List.forall_mem_cons.mpr ⟨Lw_355, (List.forall_mem_cons.mpr ⟨Lw_83, (List.forall_mem_cons.mpr ⟨Lw_356, (List.forall_mem_cons.mpr ⟨Lw_357, (List.forall_mem_cons.mpr ⟨Lw_358, (List.forall_mem_cons.mpr ⟨Lw_359, (List.forall_mem_cons.mpr ⟨Lw_390, (List.forall_mem_cons.mpr ⟨Lw_391, (List.forall_mem_cons.mpr ⟨Lw_392, (List.forall_mem_cons.mpr ⟨Lw_393, (List.forall_mem_cons.mpr ⟨Lw_394, (List.forall_mem_cons.mpr ⟨Lw_395, (List.forall_mem_cons.mpr ⟨Lw_396, (List.forall_mem_cons.mpr ⟨Lw_397, (List.forall_mem_cons.mpr ⟨Lw_398, (List.forall_mem_cons.mpr ⟨Lw_399, (List.forall_mem_cons.mpr ⟨Lw_400, (List.forall_mem_cons.mpr ⟨Lw_401, (List.forall_mem_cons.mpr ⟨Lw_402, (List.forall_mem_cons.mpr ⟨Lw_403, (List.forall_mem_cons.mpr ⟨Lw_404, (fun _ h => absurd h List.not_mem_nil)⟩)⟩)⟩)⟩)⟩)⟩)⟩)⟩)⟩)⟩)⟩)⟩)⟩)⟩)⟩)⟩)⟩)⟩)⟩)⟩)⟩)⟩)⟩)⟩)
set_option maxRecDepth 100000 in
theorem in_wsX5_gain_r3 : ∀ w ∈ wsX5_gain_r3, w ∈ lw_tbl := (List.forall_mem_cons.mpr ⟨Lw_446, (List.forall_mem_cons.mpr ⟨Lw_447, (List.forall_mem_cons.mpr ⟨Lw_448, (List.forall_mem_cons.mpr ⟨Lw_449, (List.forall_mem_cons.mpr ⟨Lw_90, (List.forall_mem_cons.mpr ⟨Lw_450, (List.forall_mem_cons.mpr ⟨Lw_451, (List.forall_mem_cons.mpr ⟨Lw_452, (List.forall_mem_cons.mpr ⟨Lw_453, (List.forall_mem_cons.mpr ⟨Lw_454, (List.forall_mem_cons.mpr ⟨Lw_455, (List.forall_mem_cons.mpr ⟨Lw_456, (List.forall_mem_cons.mpr ⟨Lw_457, (List.forall_mem_cons.mpr ⟨Lw_458, (List.forall_mem_cons.mpr ⟨Lw_92, (List.forall_mem_cons.mpr ⟨Lw_459, (List.forall_mem_cons.mpr ⟨Lw_460, (List.forall_mem_cons.mpr ⟨Lw_461, (List.forall_mem_cons.mpr ⟨Lw_462, (List.forall_mem_cons.mpr ⟨Lw_87, (List.forall_mem_cons.mpr ⟨Lw_463, (List.forall_mem_cons.mpr ⟨Lw_464, (List.forall_mem_cons.mpr ⟨Lw_465, (List.forall_mem_cons.mpr ⟨Lw_466, (fun _ h => absurd h List.not_mem_nil)⟩)⟩)⟩)⟩)⟩)⟩)⟩)⟩)⟩)⟩)⟩)⟩)⟩)⟩)⟩)⟩)⟩)⟩)⟩)⟩)⟩)⟩)⟩)⟩)
set_option maxRecDepth 100000 in
theorem in_wsX5_gain_r4 : ∀ w ∈ wsX5_gain_r4, w ∈ lw_tbl := (List.forall_mem_cons.mpr ⟨Lw_91, (List.forall_mem_cons.mpr ⟨Lw_467, (List.forall_mem_cons.mpr ⟨Lw_468, (List.forall_mem_cons.mpr ⟨Lw_469, (List.forall_mem_cons.mpr ⟨Lw_470, (List.forall_mem_cons.mpr ⟨Lw_471, (List.forall_mem_cons.mpr ⟨Lw_472, (fun _ h => absurd h List.not_mem_nil)⟩)⟩)⟩)⟩)⟩)⟩)⟩)
set_option maxRecDepth 100000 in
theorem inL_wsX5_gain : ∀ w ∈ wsX5_gain, w ∈ lw_tbl := List.forall_mem_cons.mpr ⟨Lw_442, (List.forall_mem_append.mpr ⟨(List.forall_mem_append.mpr ⟨in_wsX5_gain_r1, (List.forall_mem_append.mpr ⟨in_wsX5_gain_r2, (List.forall_mem_append.mpr ⟨in_wsX5_gain_r3, in_wsX5_gain_r4⟩)⟩)⟩), inLX5⟩)⟩
set_option maxRecDepth 100000 in
theorem gdL_wsX5_gain : GoodIn lw_tbl wsX5_gain := goodIn_sub inL_wsX5_gain (by decide +kernel)
set_option maxRecDepth 100000 in
theorem gL_X5_gain : GoodIn lw_tbl (wsV RL 64 RX5 yX5_gain wsX5_gain) := goodIn_app (goodIn_sub (List.forall_mem_cons.mpr ⟨Lw_439, (List.forall_mem_cons.mpr ⟨Lw_440, (List.forall_mem_cons.mpr ⟨Lw_441, (List.forall_mem_cons.mpr ⟨Lw_5, (fun _ h => absurd h List.not_mem_nil)⟩)⟩)⟩)⟩) (by decide +kernel)) gdL_wsX5_gain
theorem nLX5_gain : yX5_gain.cls = RX5 ∧ yX5_gain.cls ≠ "java/lang/invoke/MethodHandle" ∧ yX5_gain.cls ≠ "java/lang/invoke/VarHandle" ∧ (parseMethodDescriptor yX5_gain.desc).map (fun d => d.parameters.length) = some 3 := by decide +kernel
set_option maxRecDepth 100000 in
theorem in_wsX4_after_r1 : ∀ w ∈ wsX4_after_r1, w ∈ lw_tbl := (List.forall_mem_cons.mpr ⟨Lw_19, (List.forall_mem_cons.mpr ⟨Lw_272, (List.forall_mem_cons.mpr ⟨Lw_101, (List.forall_mem_cons.mpr ⟨Lw_195, (List.forall_mem_cons.mpr ⟨Lw_31, (List.forall_mem_cons.mpr ⟨Lw_422, (List.forall_mem_cons.mpr ⟨Lw_292, (List.forall_mem_cons.mpr ⟨Lw_293, (List.forall_mem_cons.mpr ⟨Lw_294, (List.forall_mem_cons.mpr ⟨Lw_18, (List.forall_mem_cons.mpr ⟨Lw_295, (List.forall_mem_cons.mpr ⟨Lw_51, (List.forall_mem_cons.mpr ⟨Lw_423, (List.forall_mem_cons.mpr ⟨Lw_424, (List.forall_mem_cons.mpr ⟨Lw_2, (List.forall_mem_cons.mpr ⟨Lw_425, (List.forall_mem_cons.mpr ⟨Lw_344, (List.forall_mem_cons.mpr ⟨Lw_345, (List.forall_mem_cons.mpr ⟨Lw_346, (List.forall_mem_cons.mpr ⟨Lw_347, (List.forall_mem_cons.mpr ⟨Lw_24, (List.forall_mem_cons.mpr ⟨Lw_23, (List.forall_mem_cons.mpr ⟨Lw_365, (List.forall_mem_cons.mpr ⟨Lw_366, (fun _ h => absurd h List.not_mem_nil)⟩)⟩)⟩)⟩)⟩)⟩)⟩)⟩)⟩)⟩)⟩)⟩)⟩)⟩)⟩)⟩)⟩)⟩)⟩)⟩)⟩)⟩)⟩)⟩)
set_option maxRecDepth 100000 in
theorem in_wsX4_after_r2 : ∀ w ∈ wsX4_after_r2, w ∈ lw_tbl := (List.forall_mem_cons.mpr ⟨Lw_367, (List.forall_mem_cons.mpr ⟨Lw_368, (List.forall_mem_cons.mpr ⟨Lw_196, (List.forall_mem_cons.mpr ⟨Lw_364, (List.forall_mem_cons.mpr ⟨Lw_477, (List.forall_mem_cons.mpr ⟨Lw_478, (List.forall_mem_cons.mpr ⟨Lw_479, (List.forall_mem_cons.mpr ⟨Lw_480, (List.forall_mem_cons.mpr ⟨Lw_30, (List.forall_mem_cons.mpr ⟨Lw_421, (List.forall_mem_cons.mpr ⟨Lw_32, (List.forall_mem_cons.mpr ⟨Lw_273, (List.forall_mem_cons.mpr ⟨Lw_316, (List.forall_mem_cons.mpr ⟨Lw_317, (List.forall_mem_cons.mpr ⟨Lw_318, (List.forall_mem_cons.mpr ⟨Lw_319, (List.forall_mem_cons.mpr ⟨Lw_50, (List.forall_mem_cons.mpr ⟨Lw_481, (List.forall_mem_cons.mpr ⟨Lw_233, (List.forall_mem_cons.mpr ⟨Lw_234, (List.forall_mem_cons.mpr ⟨Lw_314, (List.forall_mem_cons.mpr ⟨Lw_222, (List.forall_mem_cons.mpr ⟨Lw_223, (List.forall_mem_cons.mpr ⟨Lw_224, (fun _ h => absurd h List.not_mem_nil)⟩)⟩)⟩)⟩)⟩)⟩)⟩)⟩)⟩)⟩)⟩)⟩)⟩)⟩)⟩)⟩)⟩)⟩)⟩)⟩)⟩)⟩)⟩)⟩)
set_option maxRecDepth 100000 in
theorem in_wsX4_after_r3 : ∀ w ∈ wsX4_after_r3, w ∈ lw_tbl := (List.forall_mem_cons.mpr ⟨Lw_436, (List.forall_mem_cons.mpr ⟨Lw_437, (List.forall_mem_cons.mpr ⟨Lw_438, (List.forall_mem_cons.mpr ⟨Lw_426, (List.forall_mem_cons.mpr ⟨Lw_427, (List.forall_mem_cons.mpr ⟨Lw_428, (List.forall_mem_cons.mpr ⟨Lw_429, (List.forall_mem_cons.mpr ⟨Lw_430, (List.forall_mem_cons.mpr ⟨Lw_431, (List.forall_mem_cons.mpr ⟨Lw_432, (List.forall_mem_cons.mpr ⟨Lw_433, (List.forall_mem_cons.mpr ⟨Lw_434, (List.forall_mem_cons.mpr ⟨Lw_435, (fun _ h => absurd h List.not_mem_nil)⟩)⟩)⟩)⟩)⟩)⟩)⟩)⟩)⟩)⟩)⟩)⟩)⟩)
set_option maxRecDepth 100000 in
theorem inL_wsX4_after : ∀ w ∈ wsX4_after, w ∈ lw_tbl := List.forall_mem_cons.mpr ⟨Lw_476, (List.forall_mem_append.mpr ⟨(List.forall_mem_append.mpr ⟨(List.forall_mem_append.mpr ⟨(List.forall_mem_append.mpr ⟨in_wsX4_after_r1, (List.forall_mem_append.mpr ⟨in_wsX4_after_r2, in_wsX4_after_r3⟩)⟩), inLX4⟩), inLX0⟩), inLX3⟩)⟩
set_option maxRecDepth 100000 in
theorem gdL_wsX4_after : GoodIn lw_tbl wsX4_after := goodIn_sub inL_wsX4_after (by decide +kernel)
set_option maxRecDepth 100000 in
theorem gL_X4_after : GoodIn lw_tbl (wsV RL 65 RX4 yX4_after wsX4_after) := goodIn_app (goodIn_sub (List.forall_mem_cons.mpr ⟨Lw_473, (List.forall_mem_cons.mpr ⟨Lw_474, (List.forall_mem_cons.mpr ⟨Lw_475, (List.forall_mem_cons.mpr ⟨Lw_2, (fun _ h => absurd h List.not_mem_nil)⟩)⟩)⟩)⟩) (by decide +kernel)) gdL_wsX4_after
theorem nLX4_after : yX4_after.cls = RX4 ∧ yX4_after.cls ≠ "java/lang/invoke/MethodHandle" ∧ yX4_after.cls ≠ "java/lang/invoke/VarHandle" ∧ (parseMethodDescriptor yX4_after.desc).map (fun d => d.parameters.length) = some 4 := by decide +kernel
set_option maxRecDepth 100000 in
theorem in_wsX5_after_r1 : ∀ w ∈ wsX5_after_r1, w ∈ lw_tbl := (List.forall_mem_cons.mpr ⟨Lw_279, (List.forall_mem_cons.mpr ⟨Lw_112, (List.forall_mem_cons.mpr ⟨Lw_257, (List.forall_mem_cons.mpr ⟨Lw_264, (List.forall_mem_cons.mpr ⟨Lw_265, (List.forall_mem_cons.mpr ⟨Lw_266, (List.forall_mem_cons.mpr ⟨Lw_5, (List.forall_mem_cons.mpr ⟨Lw_267, (List.forall_mem_cons.mpr ⟨Lw_258, (List.forall_mem_cons.mpr ⟨Lw_115, (List.forall_mem_cons.mpr ⟨Lw_116, (List.forall_mem_cons.mpr ⟨Lw_117, (List.forall_mem_cons.mpr ⟨Lw_443, (List.forall_mem_cons.mpr ⟨Lw_444, (List.forall_mem_cons.mpr ⟨Lw_445, (List.forall_mem_cons.mpr ⟨Lw_405, (List.forall_mem_cons.mpr ⟨Lw_406, (List.forall_mem_cons.mpr ⟨Lw_407, (List.forall_mem_cons.mpr ⟨Lw_408, (List.forall_mem_cons.mpr ⟨Lw_386, (List.forall_mem_cons.mpr ⟨Lw_387, (List.forall_mem_cons.mpr ⟨Lw_388, (List.forall_mem_cons.mpr ⟨Lw_389, (List.forall_mem_cons.mpr ⟨Lw_89, (fun _ h => absurd h List.not_mem_nil)⟩)⟩)⟩)⟩)⟩)⟩)⟩)⟩)⟩)⟩)⟩)⟩)⟩)⟩)⟩)⟩)⟩)⟩)⟩)⟩)⟩)⟩)⟩)⟩)
set_option maxRecDepth 100000 in
theorem in_wsX5_after_r2 : ∀ w ∈ wsX5_after_r2, w ∈ lw_tbl := (List.forall_mem_cons.mpr ⟨Lw_352, (List.forall_mem_cons.mpr ⟨Lw_353, (List.forall_mem_cons.mpr ⟨Lw_354, (List.forall_mem_cons.mpr ⟨Lw_355, (List.forall_mem_cons.mpr ⟨Lw_83, (List.forall_mem_cons.mpr ⟨Lw_356, (List.forall_mem_cons.mpr ⟨Lw_357, (List.forall_mem_cons.mpr ⟨Lw_358, (List.forall_mem_cons.mpr ⟨Lw_359, (List.forall_mem_cons.mpr ⟨Lw_390, (List.forall_mem_cons.mpr ⟨Lw_391, (List.forall_mem_cons.mpr ⟨Lw_392, (List.forall_mem_cons.mpr ⟨Lw_393, (List.forall_mem_cons.mpr ⟨Lw_394, (List.forall_mem_cons.mpr ⟨Lw_395, (List.forall_mem_cons.mpr ⟨Lw_396, (List.forall_mem_cons.mpr ⟨Lw_397, (List.forall_mem_cons.mpr ⟨Lw_398, (List.forall_mem_cons.mpr ⟨Lw_399, (List.forall_mem_cons.mpr ⟨Lw_400, (List.forall_mem_cons.mpr ⟨Lw_401, (List.forall_mem_cons.mpr ⟨Lw_402, (List.forall_mem_cons.mpr ⟨Lw_403, (List.forall_mem_cons.mpr ⟨Lw_404, (fun _ h => absurd h List.not_mem_nil)⟩)⟩)⟩)⟩)⟩)⟩)⟩)⟩)⟩)⟩)⟩)⟩)⟩)⟩)⟩)⟩)⟩)⟩)⟩)⟩)⟩)⟩)⟩)⟩)
set_option maxRecDepth 100000 in
theorem in_wsX5_after_r3 : ∀ w ∈ wsX5_after_r3, w ∈ lw_tbl := (List.forall_mem_cons.mpr ⟨Lw_486, (List.forall_mem_cons.mpr ⟨Lw_487, (List.forall_mem_cons.mpr ⟨Lw_488, (List.forall_mem_cons.mpr ⟨Lw_489, (List.forall_mem_cons.mpr ⟨Lw_91, (List.forall_mem_cons.mpr ⟨Lw_84, (List.forall_mem_cons.mpr ⟨Lw_450, (List.forall_mem_cons.mpr ⟨Lw_451, (List.forall_mem_cons.mpr ⟨Lw_452, (List.forall_mem_cons.mpr ⟨Lw_453, (List.forall_mem_cons.mpr ⟨Lw_454, (List.forall_mem_cons.mpr ⟨Lw_455, (List.forall_mem_cons.mpr ⟨Lw_456, (List.forall_mem_cons.mpr ⟨Lw_457, (List.forall_mem_cons.mpr ⟨Lw_458, (List.forall_mem_cons.mpr ⟨Lw_92, (List.forall_mem_cons.mpr ⟨Lw_90, (List.forall_mem_cons.mpr ⟨Lw_459, (List.forall_mem_cons.mpr ⟨Lw_460, (List.forall_mem_cons.mpr ⟨Lw_461, (List.forall_mem_cons.mpr ⟨Lw_462, (List.forall_mem_cons.mpr ⟨Lw_87, (List.forall_mem_cons.mpr ⟨Lw_463, (List.forall_mem_cons.mpr ⟨Lw_464, (fun _ h => absurd h List.not_mem_nil)⟩)⟩)⟩)⟩)⟩)⟩)⟩)⟩)⟩)⟩)⟩)⟩)⟩)⟩)⟩)⟩)⟩)⟩)⟩)⟩)⟩)⟩)⟩)⟩)
set_option maxRecDepth 100000 in
theorem in_wsX5_after_r4 : ∀ w ∈ wsX5_after_r4, w ∈ lw_tbl := (List.forall_mem_cons.mpr ⟨Lw_465, (List.forall_mem_cons.mpr ⟨Lw_466, (List.forall_mem_cons.mpr ⟨Lw_467, (List.forall_mem_cons.mpr ⟨Lw_468, (List.forall_mem_cons.mpr ⟨Lw_469, (List.forall_mem_cons.mpr ⟨Lw_470, (List.forall_mem_cons.mpr ⟨Lw_471, (List.forall_mem_cons.mpr ⟨Lw_472, (fun _ h => absurd h List.not_mem_nil)⟩)⟩)⟩)⟩)⟩)⟩)⟩)⟩)
set_option maxRecDepth 100000 in
theorem inL_wsX5_after : ∀ w ∈ wsX5_after, w ∈ lw_tbl := List.forall_mem_cons.mpr ⟨Lw_485, (List.forall_mem_append.mpr ⟨(List.forall_mem_append.mpr ⟨in_wsX5_after_r1, (List.forall_mem_append.mpr ⟨in_wsX5_after_r2, (List.forall_mem_append.mpr ⟨in_wsX5_after_r3, in_wsX5_after_r4⟩)⟩)⟩), inLX5⟩)⟩
set_option maxRecDepth 100000 in
theorem gdL_wsX5_after : GoodIn lw_tbl wsX5_after := goodIn_sub inL_wsX5_after (by decide +kernel)
set_option maxRecDepth 100000 in
theorem gL_X5_after : GoodIn lw_tbl (wsV RL 69 RX5 yX5_after wsX5_after) := goodIn_app (goodIn_sub (List.forall_mem_cons.mpr ⟨Lw_482, (List.forall_mem_cons.mpr ⟨Lw_483, (List.forall_mem_cons.mpr ⟨Lw_484, (List.forall_mem_cons.mpr ⟨Lw_5, (fun _ h => absurd h List.not_mem_nil)⟩)⟩)⟩)⟩) (by decide +kernel)) gdL_wsX5_after
theorem nLX5_after : yX5_after.cls = RX5 ∧ yX5_after.cls ≠ "java/lang/invoke/MethodHandle" ∧ yX5_after.cls ≠ "java/lang/invoke/VarHandle" ∧ (parseMethodDescriptor yX5_after.desc).map (fun d => d.parameters.length) = some 4 := by decide +kernel
set_option maxRecDepth 100000 in
theorem in_wsX4_input_r1 : ∀ w ∈ wsX4_input_r1, w ∈ lw_tbl := (List.forall_mem_cons.mpr ⟨Lw_23, (List.forall_mem_cons.mpr ⟨Lw_195, (List.forall_mem_cons.mpr ⟨Lw_101, (List.forall_mem_cons.mpr ⟨Lw_421, (List.forall_mem_cons.mpr ⟨Lw_31, (List.forall_mem_cons.mpr ⟨Lw_422, (List.forall_mem_cons.mpr ⟨Lw_365, (List.forall_mem_cons.mpr ⟨Lw_366, (List.forall_mem_cons.mpr ⟨Lw_367, (List.forall_mem_cons.mpr ⟨Lw_2, (List.forall_mem_cons.mpr ⟨Lw_368, (List.forall_mem_cons.mpr ⟨Lw_19, (List.forall_mem_cons.mpr ⟨Lw_196, (List.forall_mem_cons.mpr ⟨Lw_364, (List.forall_mem_cons.mpr ⟨Lw_423, (List.forall_mem_cons.mpr ⟨Lw_424, (List.forall_mem_cons.mpr ⟨Lw_425, (List.forall_mem_cons.mpr ⟨Lw_477, (List.forall_mem_cons.mpr ⟨Lw_478, (List.forall_mem_cons.mpr ⟨Lw_479, (List.forall_mem_cons.mpr ⟨Lw_480, (List.forall_mem_cons.mpr ⟨Lw_30, (List.forall_mem_cons.mpr ⟨Lw_32, (List.forall_mem_cons.mpr ⟨Lw_273, (fun _ h => absurd h List.not_mem_nil)⟩)⟩)⟩)⟩)⟩)⟩)⟩)⟩)⟩)⟩)⟩)⟩)⟩)⟩)⟩)⟩)⟩)⟩)⟩)⟩)⟩)⟩)⟩)⟩)
set_option maxRecDepth 100000 in
theorem in_wsX4_input_r2 : ∀ w ∈ wsX4_input_r2, w ∈ lw_tbl := (List.forall_mem_cons.mpr ⟨Lw_344, (List.forall_mem_cons.mpr ⟨Lw_345, (List.forall_mem_cons.mpr ⟨Lw_346, (List.forall_mem_cons.mpr ⟨Lw_347, (List.forall_mem_cons.mpr ⟨Lw_24, (List.forall_mem_cons.mpr ⟨Lw_316, (List.forall_mem_cons.mpr ⟨Lw_317, (List.forall_mem_cons.mpr ⟨Lw_318, (List.forall_mem_cons.mpr ⟨Lw_18, (List.forall_mem_cons.mpr ⟨Lw_319, (List.forall_mem_cons.mpr ⟨Lw_50, (List.forall_mem_cons.mpr ⟨Lw_481, (List.forall_mem_cons.mpr ⟨Lw_233, (List.forall_mem_cons.mpr ⟨Lw_234, (List.forall_mem_cons.mpr ⟨Lw_314, (List.forall_mem_cons.mpr ⟨Lw_222, (List.forall_mem_cons.mpr ⟨Lw_223, (List.forall_mem_cons.mpr ⟨Lw_224, (List.forall_mem_cons.mpr ⟨Lw_436, (List.forall_mem_cons.mpr ⟨Lw_437, (List.forall_mem_cons.mpr ⟨Lw_438, (List.forall_mem_cons.mpr ⟨Lw_426, (List.forall_mem_cons.mpr ⟨Lw_427, (List.forall_mem_cons.mpr ⟨Lw_428, (fun _ h => absurd h List.not_mem_nil)⟩)⟩)⟩)⟩)⟩)⟩)⟩)⟩)⟩)⟩)⟩)⟩)⟩)⟩)⟩)⟩)⟩)⟩)⟩)⟩)⟩)⟩)⟩)⟩)
set_option maxRecDepth 100000 in
theorem in_wsX4_input_r3 : ∀ w ∈ wsX4_input_r3, w ∈ lw_tbl := (List.forall_mem_cons.mpr ⟨Lw_429, (List.forall_mem_cons.mpr ⟨Lw_430, (List.forall_mem_cons.mpr ⟨Lw_431, (List.forall_mem_cons.mpr ⟨Lw_432, (List.forall_mem_cons.mpr ⟨Lw_433, (List.forall_mem_cons.mpr ⟨Lw_434, (List.forall_mem_cons.mpr ⟨Lw_435, (fun _ h => absurd h List.not_mem_nil)⟩)⟩)⟩)⟩)⟩)⟩)⟩)
set_option maxRecDepth 100000 in
theorem inL_wsX4_input : ∀ w ∈ wsX4_input, w ∈ lw_tbl := List.forall_mem_cons.mpr ⟨Lw_493, (List.forall_mem_append.mpr ⟨(List.forall_mem_append.mpr ⟨(List.forall_mem_append.mpr ⟨(List.forall_mem_append.mpr ⟨in_wsX4_input_r1, (List.forall_mem_append.mpr ⟨in_wsX4_input_r2, in_wsX4_input_r3⟩)⟩), inLX4⟩), inLX0⟩), inLX3⟩)⟩
set_option maxRecDepth 100000 in
theorem gdL_wsX4_input : GoodIn lw_tbl wsX4_input := goodIn_sub inL_wsX4_input (by decide +kernel)
set_option maxRecDepth 100000 in
theorem gL_X4_input : GoodIn lw_tbl (wsV RL 70 RX4 yX4_input wsX4_input) := goodIn_app (goodIn_sub (List.forall_mem_cons.mpr ⟨Lw_490, (List.forall_mem_cons.mpr ⟨Lw_491, (List.forall_mem_cons.mpr ⟨Lw_492, (List.forall_mem_cons.mpr ⟨Lw_2, (fun _ h => absurd h List.not_mem_nil)⟩)⟩)⟩)⟩) (by decide +kernel)) gdL_wsX4_input
theorem nLX4_input : yX4_input.cls = RX4 ∧ yX4_input.cls ≠ "java/lang/invoke/MethodHandle" ∧ yX4_input.cls ≠ "java/lang/invoke/VarHandle" ∧ (parseMethodDescriptor yX4_input.desc).map (fun d => d.parameters.length) = some 2 := by decide +kernel
set_option maxRecDepth 100000 in
theorem in_wsX5_input_r1 : ∀ w ∈ wsX5_input_r1, w ∈ lw_tbl := (List.forall_mem_cons.mpr ⟨Lw_257, (List.forall_mem_cons.mpr ⟨Lw_112, (List.forall_mem_cons.mpr ⟨Lw_405, (List.forall_mem_cons.mpr ⟨Lw_406, (List.forall_mem_cons.mpr ⟨Lw_407, (List.forall_mem_cons.mpr ⟨Lw_5, (List.forall_mem_cons.mpr ⟨Lw_408, (List.forall_mem_cons.mpr ⟨Lw_258, (List.forall_mem_cons.mpr ⟨Lw_386, (List.forall_mem_cons.mpr ⟨Lw_387, (List.forall_mem_cons.mpr ⟨Lw_388, (List.forall_mem_cons.mpr ⟨Lw_389, (List.forall_mem_cons.mpr ⟨Lw_89, (List.forall_mem_cons.mpr ⟨Lw_352, (List.forall_mem_cons.mpr ⟨Lw_353, (List.forall_mem_cons.mpr ⟨Lw_354, (List.forall_mem_cons.mpr ⟨Lw_355, (List.forall_mem_cons.mpr ⟨Lw_83, (List.forall_mem_cons.mpr ⟨Lw_264, (List.forall_mem_cons.mpr ⟨Lw_265, (List.forall_mem_cons.mpr ⟨Lw_266, (List.forall_mem_cons.mpr ⟨Lw_267, (List.forall_mem_cons.mpr ⟨Lw_115, (List.forall_mem_cons.mpr ⟨Lw_116, (fun _ h => absurd h List.not_mem_nil)⟩)⟩)⟩)⟩)⟩)⟩)⟩)⟩)⟩)⟩)⟩)⟩)⟩)⟩)⟩)⟩)⟩)⟩)⟩)⟩)⟩)⟩)⟩)⟩)
set_option maxRecDepth 100000 in
theorem in_wsX5_input_r2 : ∀ w ∈ wsX5_input_r2, w ∈ lw_tbl := (List.forall_mem_cons.mpr ⟨Lw_117, (List.forall_mem_cons.mpr ⟨Lw_356, (List.forall_mem_cons.mpr ⟨Lw_357, (List.forall_mem_cons.mpr ⟨Lw_358, (List.forall_mem_cons.mpr ⟨Lw_359, (List.forall_mem_cons.mpr ⟨Lw_390, (List.forall_mem_cons.mpr ⟨Lw_391, (List.forall_mem_cons.mpr ⟨Lw_392, (List.forall_mem_cons.mpr ⟨Lw_393, (List.forall_mem_cons.mpr ⟨Lw_394, (List.forall_mem_cons.mpr ⟨Lw_395, (List.forall_mem_cons.mpr ⟨Lw_396, (List.forall_mem_cons.mpr ⟨Lw_397, (List.forall_mem_cons.mpr ⟨Lw_398, (List.forall_mem_cons.mpr ⟨Lw_399, (List.forall_mem_cons.mpr ⟨Lw_400, (List.forall_mem_cons.mpr ⟨Lw_401, (List.forall_mem_cons.mpr ⟨Lw_402, (List.forall_mem_cons.mpr ⟨Lw_403, (List.forall_mem_cons.mpr ⟨Lw_404, (List.forall_mem_cons.mpr ⟨Lw_443, (List.forall_mem_cons.mpr ⟨Lw_444, (List.forall_mem_cons.mpr ⟨Lw_445, (List.forall_mem_cons.mpr ⟨Lw_498, (fun _ h => absurd h List.not_mem_nil)⟩)⟩)⟩)⟩)⟩)⟩)⟩)⟩)⟩)⟩)⟩)⟩)⟩)⟩)⟩)⟩)⟩)⟩)⟩)⟩)⟩)⟩)⟩)⟩)
set_option maxRecDepth 100000 in
theorem in_wsX5_input_r3 : ∀ w ∈ wsX5_input_r3, w ∈ lw_tbl := (List.forall_mem_cons.mpr ⟨Lw_499, (List.forall_mem_cons.mpr ⟨Lw_500, (List.forall_mem_cons.mpr ⟨Lw_501, (List.forall_mem_cons.mpr ⟨Lw_90, (List.forall_mem_cons.mpr ⟨Lw_84, (List.forall_mem_cons.mpr ⟨Lw_450, (List.forall_mem_cons.mpr ⟨Lw_451, (List.forall_mem_cons.mpr ⟨Lw_452, (List.forall_mem_cons.mpr ⟨Lw_453, (List.forall_mem_cons.mpr ⟨Lw_454, (List.forall_mem_cons.mpr ⟨Lw_455, (List.forall_mem_cons.mpr ⟨Lw_456, (List.forall_mem_cons.mpr ⟨Lw_457, (List.forall_mem_cons.mpr ⟨Lw_458, (List.forall_mem_cons.mpr ⟨Lw_92, (List.forall_mem_cons.mpr ⟨Lw_459, (List.forall_mem_cons.mpr ⟨Lw_460, (List.forall_mem_cons.mpr ⟨Lw_461, (List.forall_mem_cons.mpr ⟨Lw_462, (List.forall_mem_cons.mpr ⟨Lw_87, (List.forall_mem_cons.mpr ⟨Lw_463, (List.forall_mem_cons.mpr ⟨Lw_464, (List.forall_mem_cons.mpr ⟨Lw_465, (List.forall_mem_cons.mpr ⟨Lw_466, (fun _ h => absurd h List.not_mem_nil)⟩)⟩)⟩)⟩)⟩)⟩)⟩)⟩)⟩)⟩)⟩)⟩)⟩)⟩)⟩)⟩)⟩)⟩)⟩)⟩)⟩)⟩)⟩)⟩)
set_option maxRecDepth 100000 in
theorem in_wsX5_input_r4 : ∀ w ∈ wsX5_input_r4, w ∈ lw_tbl := (List.forall_mem_cons.mpr ⟨Lw_91, (List.forall_mem_cons.mpr ⟨Lw_467, (List.forall_mem_cons.mpr ⟨Lw_468, (List.forall_mem_cons.mpr ⟨Lw_469, (List.forall_mem_cons.mpr ⟨Lw_470, (List.forall_mem_cons.mpr ⟨Lw_471, (List.forall_mem_cons.mpr ⟨Lw_472, (fun _ h => absurd h List.not_mem_nil)⟩)⟩)⟩)⟩)⟩)⟩)⟩)
set_option maxRecDepth 100000 in
theorem inL_wsX5_input : ∀ w ∈ wsX5_input, w ∈ lw_tbl := List.forall_mem_cons.mpr ⟨Lw_497, (List.forall_mem_append.mpr ⟨(List.forall_mem_append.mpr ⟨in_wsX5_input_r1, (List.forall_mem_append.mpr ⟨in_wsX5_input_r2, (List.forall_mem_append.mpr ⟨in_wsX5_input_r3, in_wsX5_input_r4⟩)⟩)⟩), inLX5⟩)⟩
set_option maxRecDepth 100000 in
theorem gdL_wsX5_input : GoodIn lw_tbl wsX5_input := goodIn_sub inL_wsX5_input (by decide +kernel)
set_option maxRecDepth 100000 in
theorem gL_X5_input : GoodIn lw_tbl (wsV RL 73 RX5 yX5_input wsX5_input) := goodIn_app (goodIn_sub (List.forall_mem_cons.mpr ⟨Lw_494, (List.forall_mem_cons.mpr ⟨Lw_495, (List.forall_mem_cons.mpr ⟨Lw_496, (List.forall_mem_cons.mpr ⟨Lw_5, (fun _ h => absurd h List.not_mem_nil)⟩)⟩)⟩)⟩) (by decide +kernel)) gdL_wsX5_input
theorem nLX5_input : yX5_input.cls = RX5 ∧ yX5_input.cls ≠ "java/lang/invoke/MethodHandle" ∧ yX5_input.cls ≠ "java/lang/invoke/VarHandle" ∧ (parseMethodDescriptor yX5_input.desc).map (fun d => d.parameters.length) = some 2 := by decide +kernel
set_option maxRecDepth 100000 in
theorem inL_wsX4_most : ∀ w ∈ wsX4_most, w ∈ lw_tbl := List.forall_mem_cons.mpr ⟨Lw_505, (List.forall_mem_append.mpr ⟨(List.forall_mem_append.mpr ⟨(List.forall_mem_append.mpr ⟨(List.forall_mem_cons.mpr ⟨Lw_19, (List.forall_mem_cons.mpr ⟨Lw_196, (List.forall_mem_cons.mpr ⟨Lw_195, (List.forall_mem_cons.mpr ⟨Lw_344, (List.forall_mem_cons.mpr ⟨Lw_345, (List.forall_mem_cons.mpr ⟨Lw_346, (List.forall_mem_cons.mpr ⟨Lw_2, (List.forall_mem_cons.mpr ⟨Lw_347, (List.forall_mem_cons.mpr ⟨Lw_24, (List.forall_mem_cons.mpr ⟨Lw_23, (List.forall_mem_cons.mpr ⟨Lw_365, (List.forall_mem_cons.mpr ⟨Lw_366, (List.forall_mem_cons.mpr ⟨Lw_367, (List.forall_mem_cons.mpr ⟨Lw_368, (List.forall_mem_cons.mpr ⟨Lw_364, (fun _ h => absurd h List.not_mem_nil)⟩)⟩)⟩)⟩)⟩)⟩)⟩)⟩)⟩)⟩)⟩)⟩)⟩)⟩)⟩), inLX4⟩), inLX3⟩), inLX0⟩)⟩
set_option maxRecDepth 100000 in
theorem gdL_wsX4_most : GoodIn lw_tbl wsX4_most := goodIn_sub inL_wsX4_most (by decide +kernel)
set_option maxRecDepth 100000 in
theorem gL_X4_most : GoodIn lw_tbl (wsV RL 74 RX4 yX4_most wsX4_most) := goodIn_app (goodIn_sub (List.forall_mem_cons.mpr ⟨Lw_502, (List.forall_mem_cons.mpr ⟨Lw_503, (List.forall_mem_cons.mpr ⟨Lw_504, (List.forall_mem_cons.mpr ⟨Lw_2, (fun _ h => absurd h List.not_mem_nil)⟩)⟩)⟩)⟩) (by decide +kernel)) gdL_wsX4_most
theorem nLX4_most : yX4_most.cls = RX4 ∧ yX4_most.cls ≠ "java/lang/invoke/MethodHandle" ∧ yX4_most.cls ≠ "java/lang/invoke/VarHandle" ∧ (parseMethodDescriptor yX4_most.desc).map (fun d => d.parameters.length) = some 1 := by decide +kernel
set_option maxRecDepth 100000 in
theorem in_wsX5_most_r1 : ∀ w ∈ wsX5_most_r1, w ∈ lw_tbl := (List.forall_mem_cons.mpr ⟨Lw_257, (List.forall_mem_cons.mpr ⟨Lw_405, (List.forall_mem_cons.mpr ⟨Lw_406, (List.forall_mem_cons.mpr ⟨Lw_407, (List.forall_mem_cons.mpr ⟨Lw_5, (List.forall_mem_cons.mpr ⟨Lw_408, (List.forall_mem_cons.mpr ⟨Lw_258, (List.forall_mem_cons.mpr ⟨Lw_386, (List.forall_mem_cons.mpr ⟨Lw_387, (List.forall_mem_cons.mpr ⟨Lw_388, (List.forall_mem_cons.mpr ⟨Lw_389, (List.forall_mem_cons.mpr ⟨Lw_89, (List.forall_mem_cons.mpr ⟨Lw_352, (List.forall_mem_cons.mpr ⟨Lw_353, (List.forall_mem_cons.mpr ⟨Lw_354, (List.forall_mem_cons.mpr ⟨Lw_355, (List.forall_mem_cons.mpr ⟨Lw_83, (List.forall_mem_cons.mpr ⟨Lw_264, (List.forall_mem_cons.mpr ⟨Lw_265, (List.forall_mem_cons.mpr ⟨Lw_266, (List.forall_mem_cons.mpr ⟨Lw_267, (List.forall_mem_cons.mpr ⟨Lw_115, (List.forall_mem_cons.mpr ⟨Lw_116, (List.forall_mem_cons.mpr ⟨Lw_117, (fun _ h => absurd h List.not_mem_nil)⟩)⟩)⟩)⟩)⟩)⟩)⟩)⟩)⟩)⟩)⟩)⟩)⟩)⟩)⟩)⟩)⟩)⟩)⟩)⟩)⟩)⟩)⟩)⟩)
set_option maxRecDepth 100000 in
theorem in_wsX5_most_r2 : ∀ w ∈ wsX5_most_r2, w ∈ lw_tbl := (List.forall_mem_cons.mpr ⟨Lw_356, (List.forall_mem_cons.mpr ⟨Lw_357, (List.forall_mem_cons.mpr ⟨Lw_358, (List.forall_mem_cons.mpr ⟨Lw_359, (List.forall_mem_cons.mpr ⟨Lw_390, (List.forall_mem_cons.mpr ⟨Lw_391, (List.forall_mem_cons.mpr ⟨Lw_392, (List.forall_mem_cons.mpr ⟨Lw_393, (List.forall_mem_cons.mpr ⟨Lw_394, (List.forall_mem_cons.mpr ⟨Lw_395, (List.forall_mem_cons.mpr ⟨Lw_396, (List.forall_mem_cons.mpr ⟨Lw_397, (List.forall_mem_cons.mpr ⟨Lw_398, (List.forall_mem_cons.mpr ⟨Lw_399, (List.forall_mem_cons.mpr ⟨Lw_400, (List.forall_mem_cons.mpr ⟨Lw_401, (List.forall_mem_cons.mpr ⟨Lw_402, (List.forall_mem_cons.mpr ⟨Lw_403, (List.forall_mem_cons.mpr ⟨Lw_404, (List.forall_mem_cons.mpr ⟨Lw_510, (List.forall_mem_cons.mpr ⟨Lw_511, (List.forall_mem_cons.mpr ⟨Lw_512, (List.forall_mem_cons.mpr ⟨Lw_513, (List.forall_mem_cons.mpr ⟨Lw_91, (fun _ h => absurd h List.not_mem_nil)⟩)⟩)⟩)⟩)⟩)⟩)⟩)⟩)⟩)⟩)⟩)⟩)⟩)⟩)⟩)⟩)⟩)⟩)⟩)⟩)⟩)⟩)⟩)⟩)
set_option maxRecDepth 100000 in
theorem in_wsX5_most_r3 : ∀ w ∈ wsX5_most_r3, w ∈ lw_tbl := (List.forall_mem_cons.mpr ⟨Lw_451, (List.forall_mem_cons.mpr ⟨Lw_452, (List.forall_mem_cons.mpr ⟨Lw_453, (List.forall_mem_cons.mpr ⟨Lw_454, (List.forall_mem_cons.mpr ⟨Lw_450, (List.forall_mem_cons.mpr ⟨Lw_455, (List.forall_mem_cons.mpr ⟨Lw_456, (List.forall_mem_cons.mpr ⟨Lw_457, (List.forall_mem_cons.mpr ⟨Lw_458, (List.forall_mem_cons.mpr ⟨Lw_92, (List.forall_mem_cons.mpr ⟨Lw_90, (List.forall_mem_cons.mpr ⟨Lw_459, (List.forall_mem_cons.mpr ⟨Lw_460, (List.forall_mem_cons.mpr ⟨Lw_461, (List.forall_mem_cons.mpr ⟨Lw_462, (List.forall_mem_cons.mpr ⟨Lw_87, (List.forall_mem_cons.mpr ⟨Lw_463, (List.forall_mem_cons.mpr ⟨Lw_464, (List.forall_mem_cons.mpr ⟨Lw_465, (List.forall_mem_cons.mpr ⟨Lw_466, (fun _ h => absurd h List.not_mem_nil)⟩)⟩)⟩)⟩)⟩)⟩)⟩)⟩)⟩)⟩)⟩)⟩)⟩)⟩)⟩)⟩)⟩)⟩)⟩)⟩)
set_option maxRecDepth 100000 in
theorem inL_wsX5_most : ∀ w ∈ wsX5_most, w ∈ lw_tbl := List.forall_mem_cons.mpr ⟨Lw_509, (List.forall_mem_append.mpr ⟨(List.forall_mem_append.mpr ⟨in_wsX5_most_r1, (List.forall_mem_append.mpr ⟨in_wsX5_most_r2, in_wsX5_most_r3⟩)⟩), inLX5⟩)⟩
set_option maxRecDepth 100000 in
theorem gdL_wsX5_most : GoodIn lw_tbl wsX5_most := goodIn_sub inL_wsX5_most (by decide +kernel)
set_option maxRecDepth 100000 in
theorem gL_X5_most : GoodIn lw_tbl (wsV RL 78 RX5 yX5_most wsX5_most) := goodIn_app (goodIn_sub (List.forall_mem_cons.mpr ⟨Lw_506, (List.forall_mem_cons.mpr ⟨Lw_507, (List.forall_mem_cons.mpr ⟨Lw_508, (List.forall_mem_cons.mpr ⟨Lw_5, (fun _ h => absurd h List.not_mem_nil)⟩)⟩)⟩)⟩) (by decide +kernel)) gdL_wsX5_most
theorem nLX5_most : yX5_most.cls = RX5 ∧ yX5_most.cls ≠ "java/lang/invoke/MethodHandle" ∧ yX5_most.cls ≠ "java/lang/invoke/VarHandle" ∧ (parseMethodDescriptor yX5_most.desc).map (fun d => d.parameters.length) = some 1 := by decide +kernel
set_option maxRecDepth 100000 in
theorem in_wsX4_plan_r1 : ∀ w ∈ wsX4_plan_r1, w ∈ lw_tbl := (List.forall_mem_cons.mpr ⟨Lw_19, (List.forall_mem_cons.mpr ⟨Lw_196, (List.forall_mem_cons.mpr ⟨Lw_195, (List.forall_mem_cons.mpr ⟨Lw_101, (List.forall_mem_cons.mpr ⟨Lw_36, (List.forall_mem_cons.mpr ⟨Lw_28, (List.forall_mem_cons.mpr ⟨Lw_23, (List.forall_mem_cons.mpr ⟨Lw_30, (List.forall_mem_cons.mpr ⟨Lw_33, (List.forall_mem_cons.mpr ⟨Lw_518, (List.forall_mem_cons.mpr ⟨Lw_519, (List.forall_mem_cons.mpr ⟨Lw_520, (List.forall_mem_cons.mpr ⟨Lw_521, (List.forall_mem_cons.mpr ⟨Lw_522, (List.forall_mem_cons.mpr ⟨Lw_523, (List.forall_mem_cons.mpr ⟨Lw_27, (List.forall_mem_cons.mpr ⟨Lw_524, (List.forall_mem_cons.mpr ⟨Lw_75, (List.forall_mem_cons.mpr ⟨Lw_70, (List.forall_mem_cons.mpr ⟨Lw_525, (List.forall_mem_cons.mpr ⟨Lw_526, (List.forall_mem_cons.mpr ⟨Lw_527, (List.forall_mem_cons.mpr ⟨Lw_431, (List.forall_mem_cons.mpr ⟨Lw_528, (fun _ h => absurd h List.not_mem_nil)⟩)⟩)⟩)⟩)⟩)⟩)⟩)⟩)⟩)⟩)⟩)⟩)⟩)⟩)⟩)⟩)⟩)⟩)⟩)⟩)⟩)⟩)⟩)⟩)
set_option maxRecDepth 100000 in
theorem in_wsX4_plan_r2 : ∀ w ∈ wsX4_plan_r2, w ∈ lw_tbl := (List.forall_mem_cons.mpr ⟨Lw_77, (List.forall_mem_cons.mpr ⟨Lw_76, (List.forall_mem_cons.mpr ⟨Lw_529, (List.forall_mem_cons.mpr ⟨Lw_530, (List.forall_mem_cons.mpr ⟨Lw_531, (List.forall_mem_cons.mpr ⟨Lw_532, (List.forall_mem_cons.mpr ⟨Lw_533, (List.forall_mem_cons.mpr ⟨Lw_74, (List.forall_mem_cons.mpr ⟨Lw_71, (List.forall_mem_cons.mpr ⟨Lw_534, (List.forall_mem_cons.mpr ⟨Lw_73, (List.forall_mem_cons.mpr ⟨Lw_231, (List.forall_mem_cons.mpr ⟨Lw_2, (List.forall_mem_cons.mpr ⟨Lw_232, (List.forall_mem_cons.mpr ⟨Lw_535, (List.forall_mem_cons.mpr ⟨Lw_245, (List.forall_mem_cons.mpr ⟨Lw_246, (List.forall_mem_cons.mpr ⟨Lw_18, (List.forall_mem_cons.mpr ⟨Lw_247, (List.forall_mem_cons.mpr ⟨Lw_52, (List.forall_mem_cons.mpr ⟨Lw_248, (List.forall_mem_cons.mpr ⟨Lw_222, (List.forall_mem_cons.mpr ⟨Lw_223, (List.forall_mem_cons.mpr ⟨Lw_224, (fun _ h => absurd h List.not_mem_nil)⟩)⟩)⟩)⟩)⟩)⟩)⟩)⟩)⟩)⟩)⟩)⟩)⟩)⟩)⟩)⟩)⟩)⟩)⟩)⟩)⟩)⟩)⟩)⟩)
set_option maxRecDepth 100000 in
theorem in_wsX4_plan_r3 : ∀ w ∈ wsX4_plan_r3, w ∈ lw_tbl := (List.forall_mem_cons.mpr ⟨Lw_50, (List.forall_mem_cons.mpr ⟨Lw_536, (List.forall_mem_cons.mpr ⟨Lw_375, (List.forall_mem_cons.mpr ⟨Lw_376, (List.forall_mem_cons.mpr ⟨Lw_22, (List.forall_mem_cons.mpr ⟨Lw_377, (List.forall_mem_cons.mpr ⟨Lw_249, (List.forall_mem_cons.mpr ⟨Lw_250, (List.forall_mem_cons.mpr ⟨Lw_251, (List.forall_mem_cons.mpr ⟨Lw_252, (List.forall_mem_cons.mpr ⟨Lw_63, (List.forall_mem_cons.mpr ⟨Lw_233, (List.forall_mem_cons.mpr ⟨Lw_234, (List.forall_mem_cons.mpr ⟨Lw_537, (List.forall_mem_cons.mpr ⟨Lw_538, (List.forall_mem_cons.mpr ⟨Lw_539, (List.forall_mem_cons.mpr ⟨Lw_540, (List.forall_mem_cons.mpr ⟨Lw_541, (List.forall_mem_cons.mpr ⟨Lw_542, (List.forall_mem_cons.mpr ⟨Lw_543, (List.forall_mem_cons.mpr ⟨Lw_544, (List.forall_mem_cons.mpr ⟨Lw_545, (List.forall_mem_cons.mpr ⟨Lw_69, (List.forall_mem_cons.mpr ⟨Lw_546, (fun _ h => absurd h List.not_mem_nil)⟩)⟩)⟩)⟩)⟩)⟩)⟩)⟩)⟩)⟩)⟩)⟩)⟩)⟩)⟩)⟩)⟩)⟩)⟩)⟩)⟩)⟩)⟩)⟩)
set_option maxRecDepth 100000 in
theorem in_wsX4_plan_r4 : ∀ w ∈ wsX4_plan_r4, w ∈ lw_tbl := (List.forall_mem_cons.mpr ⟨Lw_547, (List.forall_mem_cons.mpr ⟨Lw_548, (List.forall_mem_cons.mpr ⟨Lw_549, (List.forall_mem_cons.mpr ⟨Lw_437, (List.forall_mem_cons.mpr ⟨Lw_438, (fun _ h => absurd h List.not_mem_nil)⟩)⟩)⟩)⟩)⟩)
set_option maxRecDepth 100000 in
theorem inL_wsX4_plan : ∀ w ∈ wsX4_plan, w ∈ lw_tbl := List.forall_mem_cons.mpr ⟨Lw_517, (List.forall_mem_append.mpr ⟨(List.forall_mem_append.mpr ⟨(List.forall_mem_append.mpr ⟨(List.forall_mem_append.mpr ⟨(List.forall_mem_append.mpr ⟨in_wsX4_plan_r1, (List.forall_mem_append.mpr ⟨in_wsX4_plan_r2, (List.forall_mem_append.mpr ⟨in_wsX4_plan_r3, in_wsX4_plan_r4⟩)⟩)⟩), inLX4⟩), inLX3⟩), inLX2⟩), inLX0⟩)⟩
set_option maxRecDepth 100000 in
theorem gdL_wsX4_plan : GoodIn lw_tbl wsX4_plan := goodIn_sub inL_wsX4_plan (by decide +kernel)
set_option maxRecDepth 100000 in
theorem gL_X4_plan : GoodIn lw_tbl (wsV RL 79 RX4 yX4_plan wsX4_plan) := goodIn_app (goodIn_sub (List.forall_mem_cons.mpr ⟨Lw_514, (List.forall_mem_cons.mpr ⟨Lw_515, (List.forall_mem_cons.mpr ⟨Lw_516, (List.forall_mem_cons.mpr ⟨Lw_2, (fun _ h => absurd h List.not_mem_nil)⟩)⟩)⟩)⟩) (by decide +kernel)) gdL_wsX4_plan
theorem nLX4_plan : yX4_plan.cls = RX4 ∧ yX4_plan.cls ≠ "java/lang/invoke/MethodHandle" ∧ yX4_plan.cls ≠ "java/lang/invoke/VarHandle" ∧ (parseMethodDescriptor yX4_plan.desc).map (fun d => d.parameters.length) = some 1 := by decide +kernel
set_option maxRecDepth 100000 in
theorem in_wsX5_plan_r1 : ∀ w ∈ wsX5_plan_r1, w ∈ lw_tbl := (List.forall_mem_cons.mpr ⟨Lw_258, (List.forall_mem_cons.mpr ⟨Lw_257, (List.forall_mem_cons.mpr ⟨Lw_112, (List.forall_mem_cons.mpr ⟨Lw_115, (List.forall_mem_cons.mpr ⟨Lw_116, (List.forall_mem_cons.mpr ⟨Lw_5, (List.forall_mem_cons.mpr ⟨Lw_117, (List.forall_mem_cons.mpr ⟨Lw_554, (List.forall_mem_cons.mpr ⟨Lw_555, (List.forall_mem_cons.mpr ⟨Lw_556, (List.forall_mem_cons.mpr ⟨Lw_557, (List.forall_mem_cons.mpr ⟨Lw_558, (List.forall_mem_cons.mpr ⟨Lw_93, (List.forall_mem_cons.mpr ⟨Lw_94, (List.forall_mem_cons.mpr ⟨Lw_386, (List.forall_mem_cons.mpr ⟨Lw_387, (List.forall_mem_cons.mpr ⟨Lw_388, (List.forall_mem_cons.mpr ⟨Lw_389, (List.forall_mem_cons.mpr ⟨Lw_89, (List.forall_mem_cons.mpr ⟨Lw_352, (List.forall_mem_cons.mpr ⟨Lw_353, (List.forall_mem_cons.mpr ⟨Lw_354, (List.forall_mem_cons.mpr ⟨Lw_355, (List.forall_mem_cons.mpr ⟨Lw_83, (fun _ h => absurd h List.not_mem_nil)⟩)⟩)⟩)⟩)⟩)⟩)⟩)⟩)⟩)⟩)⟩)⟩)⟩)⟩)⟩)⟩)⟩)⟩)⟩)⟩)⟩)⟩)⟩)⟩)
set_option maxRecDepth 100000 in
theorem in_wsX5_plan_r2 : ∀ w ∈ wsX5_plan_r2, w ∈ lw_tbl := (List.forall_mem_cons.mpr ⟨Lw_264, (List.forall_mem_cons.mpr ⟨Lw_265, (List.forall_mem_cons.mpr ⟨Lw_266, (List.forall_mem_cons.mpr ⟨Lw_267, (List.forall_mem_cons.mpr ⟨Lw_356, (List.forall_mem_cons.mpr ⟨Lw_357, (List.forall_mem_cons.mpr ⟨Lw_358, (List.forall_mem_cons.mpr ⟨Lw_359, (List.forall_mem_cons.mpr ⟨Lw_390, (List.forall_mem_cons.mpr ⟨Lw_391, (List.forall_mem_cons.mpr ⟨Lw_392, (List.forall_mem_cons.mpr ⟨Lw_393, (List.forall_mem_cons.mpr ⟨Lw_394, (List.forall_mem_cons.mpr ⟨Lw_395, (List.forall_mem_cons.mpr ⟨Lw_396, (List.forall_mem_cons.mpr ⟨Lw_397, (List.forall_mem_cons.mpr ⟨Lw_398, (List.forall_mem_cons.mpr ⟨Lw_399, (List.forall_mem_cons.mpr ⟨Lw_400, (List.forall_mem_cons.mpr ⟨Lw_401, (List.forall_mem_cons.mpr ⟨Lw_402, (List.forall_mem_cons.mpr ⟨Lw_403, (List.forall_mem_cons.mpr ⟨Lw_404, (List.forall_mem_cons.mpr ⟨Lw_559, (fun _ h => absurd h List.not_mem_nil)⟩)⟩)⟩)⟩)⟩)⟩)⟩)⟩)⟩)⟩)⟩)⟩)⟩)⟩)⟩)⟩)⟩)⟩)⟩)⟩)⟩)⟩)⟩)⟩)
set_option maxRecDepth 100000 in
theorem in_wsX5_plan_r3 : ∀ w ∈ wsX5_plan_r3, w ∈ lw_tbl := (List.forall_mem_cons.mpr ⟨Lw_560, (List.forall_mem_cons.mpr ⟨Lw_561, (List.forall_mem_cons.mpr ⟨Lw_562, (List.forall_mem_cons.mpr ⟨Lw_85, (List.forall_mem_cons.mpr ⟨Lw_563, (List.forall_mem_cons.mpr ⟨Lw_564, (List.forall_mem_cons.mpr ⟨Lw_565, (List.forall_mem_cons.mpr ⟨Lw_566, (List.forall_mem_cons.mpr ⟨Lw_92, (List.forall_mem_cons.mpr ⟨Lw_88, (List.forall_mem_cons.mpr ⟨Lw_567, (List.forall_mem_cons.mpr ⟨Lw_568, (List.forall_mem_cons.mpr ⟨Lw_569, (List.forall_mem_cons.mpr ⟨Lw_570, (List.forall_mem_cons.mpr ⟨Lw_327, (List.forall_mem_cons.mpr ⟨Lw_328, (List.forall_mem_cons.mpr ⟨Lw_329, (List.forall_mem_cons.mpr ⟨Lw_330, (List.forall_mem_cons.mpr ⟨Lw_84, (List.forall_mem_cons.mpr ⟨Lw_331, (List.forall_mem_cons.mpr ⟨Lw_332, (List.forall_mem_cons.mpr ⟨Lw_333, (List.forall_mem_cons.mpr ⟨Lw_334, (List.forall_mem_cons.mpr ⟨Lw_87, (fun _ h => absurd h List.not_mem_nil)⟩)⟩)⟩)⟩)⟩)⟩)⟩)⟩)⟩)⟩)⟩)⟩)⟩)⟩)⟩)⟩)⟩)⟩)⟩)⟩)⟩)⟩)⟩)⟩)
set_option maxRecDepth 100000 in
theorem in_wsX5_plan_r4 : ∀ w ∈ wsX5_plan_r4, w ∈ lw_tbl := (List.forall_mem_cons.mpr ⟨Lw_571, (List.forall_mem_cons.mpr ⟨Lw_572, (List.forall_mem_cons.mpr ⟨Lw_573, (List.forall_mem_cons.mpr ⟨Lw_574, (List.forall_mem_cons.mpr ⟨Lw_575, (List.forall_mem_cons.mpr ⟨Lw_576, (List.forall_mem_cons.mpr ⟨Lw_577, (List.forall_mem_cons.mpr ⟨Lw_578, (List.forall_mem_cons.mpr ⟨Lw_95, (List.forall_mem_cons.mpr ⟨Lw_96, (List.forall_mem_cons.mpr ⟨Lw_579, (List.forall_mem_cons.mpr ⟨Lw_580, (List.forall_mem_cons.mpr ⟨Lw_581, (List.forall_mem_cons.mpr ⟨Lw_582, (List.forall_mem_cons.mpr ⟨Lw_583, (List.forall_mem_cons.mpr ⟨Lw_584, (List.forall_mem_cons.mpr ⟨Lw_585, (List.forall_mem_cons.mpr ⟨Lw_586, (List.forall_mem_cons.mpr ⟨Lw_587, (List.forall_mem_cons.mpr ⟨Lw_588, (List.forall_mem_cons.mpr ⟨Lw_589, (List.forall_mem_cons.mpr ⟨Lw_590, (List.forall_mem_cons.mpr ⟨Lw_591, (fun _ h => absurd h List.not_mem_nil)⟩)⟩)⟩)⟩)⟩)⟩)⟩)⟩)⟩)⟩)⟩)⟩)⟩)⟩)⟩)⟩)⟩)⟩)⟩)⟩)⟩)⟩)⟩)
set_option maxRecDepth 100000 in
theorem inL_wsX5_plan : ∀ w ∈ wsX5_plan, w ∈ lw_tbl := List.forall_mem_cons.mpr ⟨Lw_553, (List.forall_mem_append.mpr ⟨(List.forall_mem_append.mpr ⟨in_wsX5_plan_r1, (List.forall_mem_append.mpr ⟨in_wsX5_plan_r2, (List.forall_mem_append.mpr ⟨in_wsX5_plan_r3, in_wsX5_plan_r4⟩)⟩)⟩), inLX5⟩)⟩
set_option maxRecDepth 100000 in
theorem gdL_wsX5_plan : GoodIn lw_tbl wsX5_plan := goodIn_sub inL_wsX5_plan (by decide +kernel)
set_option maxRecDepth 100000 in
theorem gL_X5_plan : GoodIn lw_tbl (wsV RL 82 RX5 yX5_plan wsX5_plan) := goodIn_app (goodIn_sub (List.forall_mem_cons.mpr ⟨Lw_550, (List.forall_mem_cons.mpr ⟨Lw_551, (List.forall_mem_cons.mpr ⟨Lw_552, (List.forall_mem_cons.mpr ⟨Lw_5, (fun _ h => absurd h List.not_mem_nil)⟩)⟩)⟩)⟩) (by decide +kernel)) gdL_wsX5_plan
theorem nLX5_plan : yX5_plan.cls = RX5 ∧ yX5_plan.cls ≠ "java/lang/invoke/MethodHandle" ∧ yX5_plan.cls ≠ "java/lang/invoke/VarHandle" ∧ (parseMethodDescriptor yX5_plan.desc).map (fun d => d.parameters.length) = some 1 := by decide +kernel
set_option maxRecDepth 100000 in
theorem inL_wsX4_count : ∀ w ∈ wsX4_count, w ∈ lw_tbl := List.forall_mem_cons.mpr ⟨Lw_595, (List.forall_mem_append.mpr ⟨(List.forall_mem_append.mpr ⟨(List.forall_mem_append.mpr ⟨(List.forall_mem_cons.mpr ⟨Lw_19, (List.forall_mem_cons.mpr ⟨Lw_196, (List.forall_mem_cons.mpr ⟨Lw_15, (List.forall_mem_cons.mpr ⟨Lw_102, (List.forall_mem_cons.mpr ⟨Lw_33, (List.forall_mem_cons.mpr ⟨Lw_34, (List.forall_mem_cons.mpr ⟨Lw_35, (List.forall_mem_cons.mpr ⟨Lw_101, (fun _ h => absurd h List.not_mem_nil)⟩)⟩)⟩)⟩)⟩)⟩)⟩)⟩), inLX4⟩), inLX3⟩), inLX1⟩)⟩
set_option maxRecDepth 100000 in
theorem gdL_wsX4_count : GoodIn lw_tbl wsX4_count := goodIn_sub inL_wsX4_count (by decide +kernel)
set_option maxRecDepth 100000 in
theorem gL_X4_count : GoodIn lw_tbl (wsV RL 83 RX4 yX4_count wsX4_count) := goodIn_app (goodIn_sub (List.forall_mem_cons.mpr ⟨Lw_592, (List.forall_mem_cons.mpr ⟨Lw_593, (List.forall_mem_cons.mpr ⟨Lw_594, (List.forall_mem_cons.mpr ⟨Lw_2, (fun _ h => absurd h List.not_mem_nil)⟩)⟩)⟩)⟩) (by decide +kernel)) gdL_wsX4_count
theorem nLX4_count : yX4_count.cls = RX4 ∧ yX4_count.cls ≠ "java/lang/invoke/MethodHandle" ∧ yX4_count.cls ≠ "java/lang/invoke/VarHandle" ∧ (parseMethodDescriptor yX4_count.desc).map (fun d => d.parameters.length) = some 1 := by decide +kernel
set_option maxRecDepth 100000 in
theorem inL_wsX5_count : ∀ w ∈ wsX5_count, w ∈ lw_tbl := List.forall_mem_cons.mpr ⟨Lw_599, (List.forall_mem_append.mpr ⟨(List.forall_mem_cons.mpr ⟨Lw_600, (List.forall_mem_cons.mpr ⟨Lw_601, (List.forall_mem_cons.mpr ⟨Lw_602, (List.forall_mem_cons.mpr ⟨Lw_5, (List.forall_mem_cons.mpr ⟨Lw_603, (List.forall_mem_cons.mpr ⟨Lw_258, (List.forall_mem_cons.mpr ⟨Lw_113, (List.forall_mem_cons.mpr ⟨Lw_85, (List.forall_mem_cons.mpr ⟨Lw_259, (List.forall_mem_cons.mpr ⟨Lw_326, (List.forall_mem_cons.mpr ⟨Lw_112, (fun _ h => absurd h List.not_mem_nil)⟩)⟩)⟩)⟩)⟩)⟩)⟩)⟩)⟩)⟩)⟩), inLX5⟩)⟩
set_option maxRecDepth 100000 in
theorem gdL_wsX5_count : GoodIn lw_tbl wsX5_count := goodIn_sub inL_wsX5_count (by decide +kernel)
set_option maxRecDepth 100000 in
theorem gL_X5_count : GoodIn lw_tbl (wsV RL 86 RX5 yX5_count wsX5_count) := goodIn_app (goodIn_sub (List.forall_mem_cons.mpr ⟨Lw_596, (List.forall_mem_cons.mpr ⟨Lw_597, (List.forall_mem_cons.mpr ⟨Lw_598, (List.forall_mem_cons.mpr ⟨Lw_5, (fun _ h => absurd h List.not_mem_nil)⟩)⟩)⟩)⟩) (by decide +kernel)) gdL_wsX5_count
theorem nLX5_count : yX5_count.cls = RX5 ∧ yX5_count.cls ≠ "java/lang/invoke/MethodHandle" ∧ yX5_count.cls ≠ "java/lang/invoke/VarHandle" ∧ (parseMethodDescriptor yX5_count.desc).map (fun d => d.parameters.length) = some 1 := by decide +kernel
set_option maxRecDepth 100000 in
theorem in_wsX4_digest_r1 : ∀ w ∈ wsX4_digest_r1, w ∈ lw_tbl := (List.forall_mem_cons.mpr ⟨Lw_608, (List.forall_mem_cons.mpr ⟨Lw_19, (List.forall_mem_cons.mpr ⟨Lw_609, (List.forall_mem_cons.mpr ⟨Lw_273, (List.forall_mem_cons.mpr ⟨Lw_196, (List.forall_mem_cons.mpr ⟨Lw_15, (List.forall_mem_cons.mpr ⟨Lw_102, (List.forall_mem_cons.mpr ⟨Lw_610, (List.forall_mem_cons.mpr ⟨Lw_274, (List.forall_mem_cons.mpr ⟨Lw_209, (List.forall_mem_cons.mpr ⟨Lw_210, (List.forall_mem_cons.mpr ⟨Lw_18, (List.forall_mem_cons.mpr ⟨Lw_211, (List.forall_mem_cons.mpr ⟨Lw_51, (List.forall_mem_cons.mpr ⟨Lw_611, (List.forall_mem_cons.mpr ⟨Lw_612, (List.forall_mem_cons.mpr ⟨Lw_613, (List.forall_mem_cons.mpr ⟨Lw_2, (List.forall_mem_cons.mpr ⟨Lw_614, (List.forall_mem_cons.mpr ⟨Lw_30, (List.forall_mem_cons.mpr ⟨Lw_23, (List.forall_mem_cons.mpr ⟨Lw_24, (List.forall_mem_cons.mpr ⟨Lw_615, (List.forall_mem_cons.mpr ⟨Lw_616, (fun _ h => absurd h List.not_mem_nil)⟩)⟩)⟩)⟩)⟩)⟩)⟩)⟩)⟩)⟩)⟩)⟩)⟩)⟩)⟩)⟩)⟩)⟩)⟩)⟩)⟩)⟩)⟩)⟩)
set_option maxRecDepth 100000 in
theorem in_wsX4_digest_r2 : ∀ w ∈ wsX4_digest_r2, w ∈ lw_tbl := (List.forall_mem_cons.mpr ⟨Lw_617, (List.forall_mem_cons.mpr ⟨Lw_618, (List.forall_mem_cons.mpr ⟨Lw_343, (List.forall_mem_cons.mpr ⟨Lw_619, (List.forall_mem_cons.mpr ⟨Lw_361, (List.forall_mem_cons.mpr ⟨Lw_362, (List.forall_mem_cons.mpr ⟨Lw_363, (List.forall_mem_cons.mpr ⟨Lw_195, (List.forall_mem_cons.mpr ⟨Lw_364, (List.forall_mem_cons.mpr ⟨Lw_101, (List.forall_mem_cons.mpr ⟨Lw_365, (List.forall_mem_cons.mpr ⟨Lw_366, (List.forall_mem_cons.mpr ⟨Lw_367, (List.forall_mem_cons.mpr ⟨Lw_368, (List.forall_mem_cons.mpr ⟨Lw_369, (List.forall_mem_cons.mpr ⟨Lw_370, (List.forall_mem_cons.mpr ⟨Lw_371, (List.forall_mem_cons.mpr ⟨Lw_372, (List.forall_mem_cons.mpr ⟨Lw_31, (List.forall_mem_cons.mpr ⟨Lw_315, (List.forall_mem_cons.mpr ⟨Lw_231, (List.forall_mem_cons.mpr ⟨Lw_232, (List.forall_mem_cons.mpr ⟨Lw_373, (List.forall_mem_cons.mpr ⟨Lw_245, (fun _ h => absurd h List.not_mem_nil)⟩)⟩)⟩)⟩)⟩)⟩)⟩)⟩)⟩)⟩)⟩)⟩)⟩)⟩)⟩)⟩)⟩)⟩)⟩)⟩)⟩)⟩)⟩)⟩)
set_option maxRecDepth 100000 in
theorem in_wsX4_digest_r3 : ∀ w ∈ wsX4_digest_r3, w ∈ lw_tbl := (List.forall_mem_cons.mpr ⟨Lw_246, (List.forall_mem_cons.mpr ⟨Lw_247, (List.forall_mem_cons.mpr ⟨Lw_52, (List.forall_mem_cons.mpr ⟨Lw_248, (List.forall_mem_cons.mpr ⟨Lw_222, (List.forall_mem_cons.mpr ⟨Lw_223, (List.forall_mem_cons.mpr ⟨Lw_224, (List.forall_mem_cons.mpr ⟨Lw_50, (List.forall_mem_cons.mpr ⟨Lw_374, (List.forall_mem_cons.mpr ⟨Lw_375, (List.forall_mem_cons.mpr ⟨Lw_376, (List.forall_mem_cons.mpr ⟨Lw_22, (List.forall_mem_cons.mpr ⟨Lw_377, (List.forall_mem_cons.mpr ⟨Lw_249, (List.forall_mem_cons.mpr ⟨Lw_250, (List.forall_mem_cons.mpr ⟨Lw_251, (List.forall_mem_cons.mpr ⟨Lw_252, (List.forall_mem_cons.mpr ⟨Lw_63, (List.forall_mem_cons.mpr ⟨Lw_233, (List.forall_mem_cons.mpr ⟨Lw_234, (List.forall_mem_cons.mpr ⟨Lw_316, (List.forall_mem_cons.mpr ⟨Lw_317, (List.forall_mem_cons.mpr ⟨Lw_318, (List.forall_mem_cons.mpr ⟨Lw_319, (fun _ h => absurd h List.not_mem_nil)⟩)⟩)⟩)⟩)⟩)⟩)⟩)⟩)⟩)⟩)⟩)⟩)⟩)⟩)⟩)⟩)⟩)⟩)⟩)⟩)⟩)⟩)⟩)⟩)
set_option maxRecDepth 100000 in
theorem in_wsX4_digest_r4 : ∀ w ∈ wsX4_digest_r4, w ∈ lw_tbl := (List.forall_mem_cons.mpr ⟨Lw_620, (List.forall_mem_cons.mpr ⟨Lw_621, (List.forall_mem_cons.mpr ⟨Lw_622, (List.forall_mem_cons.mpr ⟨Lw_623, (List.forall_mem_cons.mpr ⟨Lw_344, (List.forall_mem_cons.mpr ⟨Lw_345, (List.forall_mem_cons.mpr ⟨Lw_346, (List.forall_mem_cons.mpr ⟨Lw_347, (List.forall_mem_cons.mpr ⟨Lw_624, (List.forall_mem_cons.mpr ⟨Lw_418, (List.forall_mem_cons.mpr ⟨Lw_419, (List.forall_mem_cons.mpr ⟨Lw_420, (List.forall_mem_cons.mpr ⟨Lw_272, (List.forall_mem_cons.mpr ⟨Lw_421, (List.forall_mem_cons.mpr ⟨Lw_422, (List.forall_mem_cons.mpr ⟨Lw_292, (List.forall_mem_cons.mpr ⟨Lw_293, (List.forall_mem_cons.mpr ⟨Lw_294, (List.forall_mem_cons.mpr ⟨Lw_295, (List.forall_mem_cons.mpr ⟨Lw_423, (List.forall_mem_cons.mpr ⟨Lw_424, (List.forall_mem_cons.mpr ⟨Lw_425, (List.forall_mem_cons.mpr ⟨Lw_426, (List.forall_mem_cons.mpr ⟨Lw_427, (fun _ h => absurd h List.not_mem_nil)⟩)⟩)⟩)⟩)⟩)⟩)⟩)⟩)⟩)⟩)⟩)⟩)⟩)⟩)⟩)⟩)⟩)⟩)⟩)⟩)⟩)⟩)⟩)⟩)
set_option maxRecDepth 100000 in
theorem in_wsX4_digest_r5 : ∀ w ∈ wsX4_digest_r5, w ∈ lw_tbl := (List.forall_mem_cons.mpr ⟨Lw_428, (List.forall_mem_cons.mpr ⟨Lw_429, (List.forall_mem_cons.mpr ⟨Lw_430, (List.forall_mem_cons.mpr ⟨Lw_431, (List.forall_mem_cons.mpr ⟨Lw_432, (List.forall_mem_cons.mpr ⟨Lw_433, (List.forall_mem_cons.mpr ⟨Lw_434, (List.forall_mem_cons.mpr ⟨Lw_435, (List.forall_mem_cons.mpr ⟨Lw_436, (List.forall_mem_cons.mpr ⟨Lw_437, (List.forall_mem_cons.mpr ⟨Lw_438, (List.forall_mem_cons.mpr ⟨Lw_625, (List.forall_mem_cons.mpr ⟨Lw_503, (List.forall_mem_cons.mpr ⟨Lw_504, (List.forall_mem_cons.mpr ⟨Lw_505, (List.forall_mem_cons.mpr ⟨Lw_626, (List.forall_mem_cons.mpr ⟨Lw_491, (List.forall_mem_cons.mpr ⟨Lw_492, (List.forall_mem_cons.mpr ⟨Lw_493, (List.forall_mem_cons.mpr ⟨Lw_477, (List.forall_mem_cons.mpr ⟨Lw_478, (List.forall_mem_cons.mpr ⟨Lw_479, (List.forall_mem_cons.mpr ⟨Lw_480, (List.forall_mem_cons.mpr ⟨Lw_32, (fun _ h => absurd h List.not_mem_nil)⟩)⟩)⟩)⟩)⟩)⟩)⟩)⟩)⟩)⟩)⟩)⟩)⟩)⟩)⟩)⟩)⟩)⟩)⟩)⟩)⟩)⟩)⟩)⟩)
set_option maxRecDepth 100000 in
theorem in_wsX4_digest_r6 : ∀ w ∈ wsX4_digest_r6, w ∈ lw_tbl := (List.forall_mem_cons.mpr ⟨Lw_481, (List.forall_mem_cons.mpr ⟨Lw_314, (List.forall_mem_cons.mpr ⟨Lw_627, (List.forall_mem_cons.mpr ⟨Lw_474, (List.forall_mem_cons.mpr ⟨Lw_475, (List.forall_mem_cons.mpr ⟨Lw_476, (List.forall_mem_cons.mpr ⟨Lw_628, (List.forall_mem_cons.mpr ⟨Lw_515, (List.forall_mem_cons.mpr ⟨Lw_516, (List.forall_mem_cons.mpr ⟨Lw_517, (List.forall_mem_cons.mpr ⟨Lw_36, (List.forall_mem_cons.mpr ⟨Lw_28, (List.forall_mem_cons.mpr ⟨Lw_33, (List.forall_mem_cons.mpr ⟨Lw_518, (List.forall_mem_cons.mpr ⟨Lw_519, (List.forall_mem_cons.mpr ⟨Lw_520, (List.forall_mem_cons.mpr ⟨Lw_521, (List.forall_mem_cons.mpr ⟨Lw_522, (List.forall_mem_cons.mpr ⟨Lw_523, (List.forall_mem_cons.mpr ⟨Lw_27, (List.forall_mem_cons.mpr ⟨Lw_524, (List.forall_mem_cons.mpr ⟨Lw_75, (List.forall_mem_cons.mpr ⟨Lw_70, (List.forall_mem_cons.mpr ⟨Lw_525, (fun _ h => absurd h List.not_mem_nil)⟩)⟩)⟩)⟩)⟩)⟩)⟩)⟩)⟩)⟩)⟩)⟩)⟩)⟩)⟩)⟩)⟩)⟩)⟩)⟩)⟩)⟩)⟩)⟩)
set_option maxRecDepth 100000 in
theorem in_wsX4_digest_r7 : ∀ w ∈ wsX4_digest_r7, w ∈ lw_tbl := (List.forall_mem_cons.mpr ⟨Lw_526, (List.forall_mem_cons.mpr ⟨Lw_527, (List.forall_mem_cons.mpr ⟨Lw_528, (List.forall_mem_cons.mpr ⟨Lw_77, (List.forall_mem_cons.mpr ⟨Lw_76, (List.forall_mem_cons.mpr ⟨Lw_529, (List.forall_mem_cons.mpr ⟨Lw_530, (List.forall_mem_cons.mpr ⟨Lw_531, (List.forall_mem_cons.mpr ⟨Lw_532, (List.forall_mem_cons.mpr ⟨Lw_533, (List.forall_mem_cons.mpr ⟨Lw_74, (List.forall_mem_cons.mpr ⟨Lw_71, (List.forall_mem_cons.mpr ⟨Lw_534, (List.forall_mem_cons.mpr ⟨Lw_73, (List.forall_mem_cons.mpr ⟨Lw_535, (List.forall_mem_cons.mpr ⟨Lw_536, (List.forall_mem_cons.mpr ⟨Lw_537, (List.forall_mem_cons.mpr ⟨Lw_538, (List.forall_mem_cons.mpr ⟨Lw_539, (List.forall_mem_cons.mpr ⟨Lw_540, (List.forall_mem_cons.mpr ⟨Lw_541, (List.forall_mem_cons.mpr ⟨Lw_542, (List.forall_mem_cons.mpr ⟨Lw_543, (List.forall_mem_cons.mpr ⟨Lw_544, (fun _ h => absurd h List.not_mem_nil)⟩)⟩)⟩)⟩)⟩)⟩)⟩)⟩)⟩)⟩)⟩)⟩)⟩)⟩)⟩)⟩)⟩)⟩)⟩)⟩)⟩)⟩)⟩)⟩)
set_option maxRecDepth 100000 in
theorem in_wsX4_digest_r8 : ∀ w ∈ wsX4_digest_r8, w ∈ lw_tbl := (List.forall_mem_cons.mpr ⟨Lw_545, (List.forall_mem_cons.mpr ⟨Lw_69, (List.forall_mem_cons.mpr ⟨Lw_546, (List.forall_mem_cons.mpr ⟨Lw_547, (List.forall_mem_cons.mpr ⟨Lw_548, (List.forall_mem_cons.mpr ⟨Lw_549, (List.forall_mem_cons.mpr ⟨Lw_629, (List.forall_mem_cons.mpr ⟨Lw_593, (List.forall_mem_cons.mpr ⟨Lw_594, (List.forall_mem_cons.mpr ⟨Lw_595, (List.forall_mem_cons.mpr ⟨Lw_34, (List.forall_mem_cons.mpr ⟨Lw_35, (fun _ h => absurd h List.not_mem_nil)⟩)⟩)⟩)⟩)⟩)⟩)⟩)⟩)⟩)⟩)⟩)⟩)
set_option maxRecDepth 100000 in
theorem inL_wsX4_digest : ∀ w ∈ wsX4_digest, w ∈ lw_tbl := List.forall_mem_cons.mpr ⟨Lw_607, (List.forall_mem_append.mpr ⟨(List.forall_mem_append.mpr ⟨(List.forall_mem_append.mpr ⟨(List.forall_mem_append.mpr ⟨(List.forall_mem_append.mpr ⟨(List.forall_mem_append.mpr ⟨in_wsX4_digest_r1, (List.forall_mem_append.mpr ⟨in_wsX4_digest_r2, (List.forall_mem_append.mpr ⟨in_wsX4_digest_r3, (List.forall_mem_append.mpr ⟨in_wsX4_digest_r4, (List.forall_mem_append.mpr ⟨in_wsX4_digest_r5, (List.forall_mem_append.mpr ⟨in_wsX4_digest_r6, (List.forall_mem_append.mpr ⟨in_wsX4_digest_r7, in_wsX4_digest_r8⟩)⟩)⟩)⟩)⟩)⟩)⟩), inLX4⟩), inLX3⟩), inLX1⟩), inLX0⟩), inLX2⟩)⟩
set_option maxRecDepth 100000 in
theorem gdL_wsX4_digest : GoodIn lw_tbl wsX4_digest := goodIn_sub inL_wsX4_digest (by decide +kernel)
set_option maxRecDepth 100000 in
theorem gL_X4_digest : GoodIn lw_tbl (wsV RL 87 RX4 yX4_digest wsX4_digest) := goodIn_app (goodIn_sub (List.forall_mem_cons.mpr ⟨Lw_604, (List.forall_mem_cons.mpr ⟨Lw_605, (List.forall_mem_cons.mpr ⟨Lw_606, (List.forall_mem_cons.mpr ⟨Lw_2, (fun _ h => absurd h List.not_mem_nil)⟩)⟩)⟩)⟩) (by decide +kernel)) gdL_wsX4_digest
theorem nLX4_digest : yX4_digest.cls = RX4 ∧ yX4_digest.cls ≠ "java/lang/invoke/MethodHandle" ∧ yX4_digest.cls ≠ "java/lang/invoke/VarHandle" ∧ (parseMethodDescriptor yX4_digest.desc).map (fun d => d.parameters.length) = some 0 := by decide +kernel
set_option maxRecDepth 100000 in
theorem in_wsX5_digest_r1 : ∀ w ∈ wsX5_digest_r1, w ∈ lw_tbl := (List.forall_mem_cons.mpr ⟨Lw_634, (List.forall_mem_cons.mpr ⟨Lw_635, (List.forall_mem_cons.mpr ⟨Lw_83, (List.forall_mem_cons.mpr ⟨Lw_258, (List.forall_mem_cons.mpr ⟨Lw_113, (List.forall_mem_cons.mpr ⟨Lw_82, (List.forall_mem_cons.mpr ⟨Lw_260, (List.forall_mem_cons.mpr ⟨Lw_261, (List.forall_mem_cons.mpr ⟨Lw_262, (List.forall_mem_cons.mpr ⟨Lw_5, (List.forall_mem_cons.mpr ⟨Lw_263, (List.forall_mem_cons.mpr ⟨Lw_115, (List.forall_mem_cons.mpr ⟨Lw_116, (List.forall_mem_cons.mpr ⟨Lw_117, (List.forall_mem_cons.mpr ⟨Lw_264, (List.forall_mem_cons.mpr ⟨Lw_265, (List.forall_mem_cons.mpr ⟨Lw_266, (List.forall_mem_cons.mpr ⟨Lw_267, (List.forall_mem_cons.mpr ⟨Lw_636, (List.forall_mem_cons.mpr ⟨Lw_637, (List.forall_mem_cons.mpr ⟨Lw_638, (List.forall_mem_cons.mpr ⟨Lw_639, (List.forall_mem_cons.mpr ⟨Lw_640, (List.forall_mem_cons.mpr ⟨Lw_641, (fun _ h => absurd h List.not_mem_nil)⟩)⟩)⟩)⟩)⟩)⟩)⟩)⟩)⟩)⟩)⟩)⟩)⟩)⟩)⟩)⟩)⟩)⟩)⟩)⟩)⟩)⟩)⟩)⟩)
set_option maxRecDepth 100000 in
theorem in_wsX5_digest_r2 : ∀ w ∈ wsX5_digest_r2, w ∈ lw_tbl := (List.forall_mem_cons.mpr ⟨Lw_642, (List.forall_mem_cons.mpr ⟨Lw_643, (List.forall_mem_cons.mpr ⟨Lw_644, (List.forall_mem_cons.mpr ⟨Lw_84, (List.forall_mem_cons.mpr ⟨Lw_645, (List.forall_mem_cons.mpr ⟨Lw_646, (List.forall_mem_cons.mpr ⟨Lw_647, (List.forall_mem_cons.mpr ⟨Lw_648, (List.forall_mem_cons.mpr ⟨Lw_89, (List.forall_mem_cons.mpr ⟨Lw_352, (List.forall_mem_cons.mpr ⟨Lw_353, (List.forall_mem_cons.mpr ⟨Lw_354, (List.forall_mem_cons.mpr ⟨Lw_355, (List.forall_mem_cons.mpr ⟨Lw_356, (List.forall_mem_cons.mpr ⟨Lw_357, (List.forall_mem_cons.mpr ⟨Lw_358, (List.forall_mem_cons.mpr ⟨Lw_359, (List.forall_mem_cons.mpr ⟨Lw_382, (List.forall_mem_cons.mpr ⟨Lw_383, (List.forall_mem_cons.mpr ⟨Lw_384, (List.forall_mem_cons.mpr ⟨Lw_385, (List.forall_mem_cons.mpr ⟨Lw_386, (List.forall_mem_cons.mpr ⟨Lw_387, (List.forall_mem_cons.mpr ⟨Lw_388, (fun _ h => absurd h List.not_mem_nil)⟩)⟩)⟩)⟩)⟩)⟩)⟩)⟩)⟩)⟩)⟩)⟩)⟩)⟩)⟩)⟩)⟩)⟩)⟩)⟩)⟩)⟩)⟩)⟩)
set_option maxRecDepth 100000 in
theorem in_wsX5_digest_r3 : ∀ w ∈ wsX5_digest_r3, w ∈ lw_tbl := (List.forall_mem_cons.mpr ⟨Lw_389, (List.forall_mem_cons.mpr ⟨Lw_390, (List.forall_mem_cons.mpr ⟨Lw_391, (List.forall_mem_cons.mpr ⟨Lw_392, (List.forall_mem_cons.mpr ⟨Lw_393, (List.forall_mem_cons.mpr ⟨Lw_394, (List.forall_mem_cons.mpr ⟨Lw_395, (List.forall_mem_cons.mpr ⟨Lw_396, (List.forall_mem_cons.mpr ⟨Lw_397, (List.forall_mem_cons.mpr ⟨Lw_398, (List.forall_mem_cons.mpr ⟨Lw_399, (List.forall_mem_cons.mpr ⟨Lw_400, (List.forall_mem_cons.mpr ⟨Lw_401, (List.forall_mem_cons.mpr ⟨Lw_402, (List.forall_mem_cons.mpr ⟨Lw_403, (List.forall_mem_cons.mpr ⟨Lw_404, (List.forall_mem_cons.mpr ⟨Lw_405, (List.forall_mem_cons.mpr ⟨Lw_406, (List.forall_mem_cons.mpr ⟨Lw_407, (List.forall_mem_cons.mpr ⟨Lw_408, (List.forall_mem_cons.mpr ⟨Lw_409, (List.forall_mem_cons.mpr ⟨Lw_410, (List.forall_mem_cons.mpr ⟨Lw_411, (List.forall_mem_cons.mpr ⟨Lw_412, (fun _ h => absurd h List.not_mem_nil)⟩)⟩)⟩)⟩)⟩)⟩)⟩)⟩)⟩)⟩)⟩)⟩)⟩)⟩)⟩)⟩)⟩)⟩)⟩)⟩)⟩)⟩)⟩)⟩)
set_option maxRecDepth 100000 in
theorem in_wsX5_digest_r4 : ∀ w ∈ wsX5_digest_r4, w ∈ lw_tbl := (List.forall_mem_cons.mpr ⟨Lw_88, (List.forall_mem_cons.mpr ⟨Lw_327, (List.forall_mem_cons.mpr ⟨Lw_328, (List.forall_mem_cons.mpr ⟨Lw_329, (List.forall_mem_cons.mpr ⟨Lw_330, (List.forall_mem_cons.mpr ⟨Lw_331, (List.forall_mem_cons.mpr ⟨Lw_332, (List.forall_mem_cons.mpr ⟨Lw_333, (List.forall_mem_cons.mpr ⟨Lw_334, (List.forall_mem_cons.mpr ⟨Lw_87, (List.forall_mem_cons.mpr ⟨Lw_413, (List.forall_mem_cons.mpr ⟨Lw_414, (List.forall_mem_cons.mpr ⟨Lw_415, (List.forall_mem_cons.mpr ⟨Lw_416, (List.forall_mem_cons.mpr ⟨Lw_335, (List.forall_mem_cons.mpr ⟨Lw_336, (List.forall_mem_cons.mpr ⟨Lw_337, (List.forall_mem_cons.mpr ⟨Lw_338, (List.forall_mem_cons.mpr ⟨Lw_649, (List.forall_mem_cons.mpr ⟨Lw_650, (List.forall_mem_cons.mpr ⟨Lw_651, (List.forall_mem_cons.mpr ⟨Lw_652, (List.forall_mem_cons.mpr ⟨Lw_446, (List.forall_mem_cons.mpr ⟨Lw_447, (fun _ h => absurd h List.not_mem_nil)⟩)⟩)⟩)⟩)⟩)⟩)⟩)⟩)⟩)⟩)⟩)⟩)⟩)⟩)⟩)⟩)⟩)⟩)⟩)⟩)⟩)⟩)⟩)⟩)
set_option maxRecDepth 100000 in
theorem in_wsX5_digest_r5 : ∀ w ∈ wsX5_digest_r5, w ∈ lw_tbl := (List.forall_mem_cons.mpr ⟨Lw_448, (List.forall_mem_cons.mpr ⟨Lw_449, (List.forall_mem_cons.mpr ⟨Lw_90, (List.forall_mem_cons.mpr ⟨Lw_450, (List.forall_mem_cons.mpr ⟨Lw_451, (List.forall_mem_cons.mpr ⟨Lw_452, (List.forall_mem_cons.mpr ⟨Lw_453, (List.forall_mem_cons.mpr ⟨Lw_454, (List.forall_mem_cons.mpr ⟨Lw_455, (List.forall_mem_cons.mpr ⟨Lw_456, (List.forall_mem_cons.mpr ⟨Lw_457, (List.forall_mem_cons.mpr ⟨Lw_458, (List.forall_mem_cons.mpr ⟨Lw_92, (List.forall_mem_cons.mpr ⟨Lw_459, (List.forall_mem_cons.mpr ⟨Lw_460, (List.forall_mem_cons.mpr ⟨Lw_461, (List.forall_mem_cons.mpr ⟨Lw_462, (List.forall_mem_cons.mpr ⟨Lw_463, (List.forall_mem_cons.mpr ⟨Lw_464, (List.forall_mem_cons.mpr ⟨Lw_465, (List.forall_mem_cons.mpr ⟨Lw_466, (List.forall_mem_cons.mpr ⟨Lw_91, (List.forall_mem_cons.mpr ⟨Lw_467, (List.forall_mem_cons.mpr ⟨Lw_468, (fun _ h => absurd h List.not_mem_nil)⟩)⟩)⟩)⟩)⟩)⟩)⟩)⟩)⟩)⟩)⟩)⟩)⟩)⟩)⟩)⟩)⟩)⟩)⟩)⟩)⟩)⟩)⟩)⟩)
set_option maxRecDepth 100000 in
theorem in_wsX5_digest_r6 : ∀ w ∈ wsX5_digest_r6, w ∈ lw_tbl := (List.forall_mem_cons.mpr ⟨Lw_469, (List.forall_mem_cons.mpr ⟨Lw_470, (List.forall_mem_cons.mpr ⟨Lw_471, (List.forall_mem_cons.mpr ⟨Lw_472, (List.forall_mem_cons.mpr ⟨Lw_510, (List.forall_mem_cons.mpr ⟨Lw_511, (List.forall_mem_cons.mpr ⟨Lw_512, (List.forall_mem_cons.mpr ⟨Lw_513, (List.forall_mem_cons.mpr ⟨Lw_498, (List.forall_mem_cons.mpr ⟨Lw_499, (List.forall_mem_cons.mpr ⟨Lw_500, (List.forall_mem_cons.mpr ⟨Lw_501, (List.forall_mem_cons.mpr ⟨Lw_486, (List.forall_mem_cons.mpr ⟨Lw_487, (List.forall_mem_cons.mpr ⟨Lw_488, (List.forall_mem_cons.mpr ⟨Lw_489, (List.forall_mem_cons.mpr ⟨Lw_554, (List.forall_mem_cons.mpr ⟨Lw_555, (List.forall_mem_cons.mpr ⟨Lw_556, (List.forall_mem_cons.mpr ⟨Lw_557, (List.forall_mem_cons.mpr ⟨Lw_558, (List.forall_mem_cons.mpr ⟨Lw_93, (List.forall_mem_cons.mpr ⟨Lw_94, (List.forall_mem_cons.mpr ⟨Lw_559, (fun _ h => absurd h List.not_mem_nil)⟩)⟩)⟩)⟩)⟩)⟩)⟩)⟩)⟩)⟩)⟩)⟩)⟩)⟩)⟩)⟩)⟩)⟩)⟩)⟩)⟩)⟩)⟩)⟩)
set_option maxRecDepth 100000 in
theorem in_wsX5_digest_r7 : ∀ w ∈ wsX5_digest_r7, w ∈ lw_tbl := (List.forall_mem_cons.mpr ⟨Lw_560, (List.forall_mem_cons.mpr ⟨Lw_561, (List.forall_mem_cons.mpr ⟨Lw_562, (List.forall_mem_cons.mpr ⟨Lw_85, (List.forall_mem_cons.mpr ⟨Lw_563, (List.forall_mem_cons.mpr ⟨Lw_564, (List.forall_mem_cons.mpr ⟨Lw_565, (List.forall_mem_cons.mpr ⟨Lw_566, (List.forall_mem_cons.mpr ⟨Lw_567, (List.forall_mem_cons.mpr ⟨Lw_568, (List.forall_mem_cons.mpr ⟨Lw_569, (List.forall_mem_cons.mpr ⟨Lw_570, (List.forall_mem_cons.mpr ⟨Lw_571, (List.forall_mem_cons.mpr ⟨Lw_572, (List.forall_mem_cons.mpr ⟨Lw_573, (List.forall_mem_cons.mpr ⟨Lw_574, (List.forall_mem_cons.mpr ⟨Lw_575, (List.forall_mem_cons.mpr ⟨Lw_576, (List.forall_mem_cons.mpr ⟨Lw_577, (List.forall_mem_cons.mpr ⟨Lw_578, (List.forall_mem_cons.mpr ⟨Lw_95, (List.forall_mem_cons.mpr ⟨Lw_96, (List.forall_mem_cons.mpr ⟨Lw_579, (List.forall_mem_cons.mpr ⟨Lw_580, (fun _ h => absurd h List.not_mem_nil)⟩)⟩)⟩)⟩)⟩)⟩)⟩)⟩)⟩)⟩)⟩)⟩)⟩)⟩)⟩)⟩)⟩)⟩)⟩)⟩)⟩)⟩)⟩)⟩)
set_option maxRecDepth 100000 in
theorem in_wsX5_digest_r8 : ∀ w ∈ wsX5_digest_r8, w ∈ lw_tbl := (List.forall_mem_cons.mpr ⟨Lw_581, (List.forall_mem_cons.mpr ⟨Lw_582, (List.forall_mem_cons.mpr ⟨Lw_583, (List.forall_mem_cons.mpr ⟨Lw_584, (List.forall_mem_cons.mpr ⟨Lw_585, (List.forall_mem_cons.mpr ⟨Lw_586, (List.forall_mem_cons.mpr ⟨Lw_587, (List.forall_mem_cons.mpr ⟨Lw_588, (List.forall_mem_cons.mpr ⟨Lw_589, (List.forall_mem_cons.mpr ⟨Lw_590, (List.forall_mem_cons.mpr ⟨Lw_591, (List.forall_mem_cons.mpr ⟨Lw_600, (List.forall_mem_cons.mpr ⟨Lw_601, (List.forall_mem_cons.mpr ⟨Lw_602, (List.forall_mem_cons.mpr ⟨Lw_603, (List.forall_mem_cons.mpr ⟨Lw_259, (List.forall_mem_cons.mpr ⟨Lw_326, (List.forall_mem_cons.mpr ⟨Lw_112, (fun _ h => absurd h List.not_mem_nil)⟩)⟩)⟩)⟩)⟩)⟩)⟩)⟩)⟩)⟩)⟩)⟩)⟩)⟩)⟩)⟩)⟩)⟩)
set_option maxRecDepth 100000 in
theorem inL_wsX5_digest : ∀ w ∈ wsX5_digest, w ∈ lw_tbl := List.forall_mem_cons.mpr ⟨Lw_633, (List.forall_mem_append.mpr ⟨(List.forall_mem_append.mpr ⟨in_wsX5_digest_r1, (List.forall_mem_append.mpr ⟨in_wsX5_digest_r2, (List.forall_mem_append.mpr ⟨in_wsX5_digest_r3, (List.forall_mem_append.mpr ⟨in_wsX5_digest_r4, (List.forall_mem_append.mpr ⟨in_wsX5_digest_r5, (List.forall_mem_append.mpr ⟨in_wsX5_digest_r6, (List.forall_mem_append.mpr ⟨in_wsX5_digest_r7, in_wsX5_digest_r8⟩)⟩)⟩)⟩)⟩)⟩)⟩), inLX5⟩)⟩
set_option maxRecDepth 100000 in
theorem gdL_wsX5_digest : GoodIn lw_tbl wsX5_digest := goodIn_sub inL_wsX5_digest (by decide +kernel)
set_option maxRecDepth 100000 in
theorem gL_X5_digest : GoodIn lw_tbl (wsV RL 90 RX5 yX5_digest wsX5_digest) := goodIn_app (goodIn_sub (List.forall_mem_cons.mpr ⟨Lw_630, (List.forall_mem_cons.mpr ⟨Lw_631, (List.forall_mem_cons.mpr ⟨Lw_632, (List.forall_mem_cons.mpr ⟨Lw_5, (fun _ h => absurd h List.not_mem_nil)⟩)⟩)⟩)⟩) (by decide +kernel)) gdL_wsX5_digest
theorem nLX5_digest : yX5_digest.cls = RX5 ∧ yX5_digest.cls ≠ "java/lang/invoke/MethodHandle" ∧ yX5_digest.cls ≠ "java/lang/invoke/VarHandle" ∧ (parseMethodDescriptor yX5_digest.desc).map (fun d => d.parameters.length) = some 0 := by decide +kernel
