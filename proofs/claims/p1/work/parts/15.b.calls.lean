/-! The law's calls -/
abbrev b_La_law : ByteArray := code
theorem gv_loc {ls : Array Slot} {n : Nat} {l l2 : List (Nat × Value)} (hl : lv_has ls n l) (js : List Nat) (h : js.map (fun j => l[j]?) = l2.map some) : lv_has ls n l2 := by
  refine ⟨hl.1, hl.2.1, fun q hq => hl.2.2 q ?_⟩
  have h9 : some q ∈ l2.map some := List.mem_map.mpr ⟨q, hq, rfl⟩
  rw [← h] at h9
  obtain ⟨j, -, hj⟩ := List.mem_map.mp h9
  exact List.mem_of_getElem? hj
section GLC
variable {p : Program} {l : Launch} {e : Env} {s : State} {m : MethodId} {args : Array Value} {below : List Frame} {meth : Method} {c : Code} {H : Heap} {locs : List Loc} {cells slots : Nat} {Q : State → Prop} {R : Room}
variable {cc : ByteArray} {pc : Nat} {ls : Array Slot} {rest st9 : List Value} {D : va_G} {s0 : State} {aC : Nat → ClassId} {M : gMem} {r : gRef} {ow : Int64} {cls : String} {n : Nat} {ret : Option FieldType} {post : Int32 → gMem → gRef → Int64 → Prop}
/-- a call of one of the law's own methods -/
theorem gl_call {y : MethodName} {bytes : ByteArray} {maxL index : Nat} {hh : List (Nat × Nat × Nat × Nat)} {As : List Value} (B : gB s0 D aC p e s m meth c cls cc n ret) (hsz : ls.size = n) (hw : gWd s0 D aC M r ow H locs) (hM : gLt l s0 D aC y (Cond.codeWith y bytes maxL (some .int) hh) 15 580 As M r ow post)
    (hcode : (Cond.codeWith y bytes maxL (some .int) hh).before args s = true) (hini : (Cond.initialized y.cls).before args s = true) (hlink : (Cond.methodLink cls index y).before args s = true) (hstat : (Cond.static y).before args s = true)
    (hy : y.cls ≠ "java/lang/invoke/MethodHandle" ∧ y.cls ≠ "java/lang/invoke/VarHandle" ∧ (parseMethodDescriptor y.desc).map (fun d => d.parameters.length) = some As.length) (hst9 : st9 = As.reverse ++ rest) (hWd : (rest.map fun v => v.category).sum ≤ 8) (hR : 15 + 1 ≤ R.frames ∧ 8 + (maxL + 11) + 580 ≤ R.locals) (hC : cells + 1 ≤ R.cells ∧ slots + 6 ≤ R.slots) (hdg : decode cc pc = .ok (.invokestatic index, 3))
    (kr : ∀ v M1 r1 ow1 H1 locs1, gWd s0 D aC M1 r1 ow1 H1 locs1 → post v M1 r1 ow1 → W p l e R s m args below meth c H1 locs1 (cells + 1) (slots + 6) Q (F0 m (pc + 3) ls (.int v :: rest))) : W p l e R s m args below meth c H locs cells slots Q (F0 m pc ls st9) := by
  obtain ⟨hx, hb, hml, -, hlocks, hown, T, -, hW0, -⟩ := B
  refine gt_callSW hx hb (hsz.trans hml.symm) hown hM hcode hini hlink hstat hy hst9 hWd hR hC hdg (fun U hU hW => ⟨rfl, State.WarmedH.trans hW0 hW, by rw [hU]; exact hw.none⟩) ⟨?_, ?_⟩
  · intro v st t L h0 hq hL
    obtain ⟨v1, M1, r1, ow1, h1, h2, h3⟩ := hq
    cases h1
    exact kr v1 M1 r1 ow1 t.heap (locs ++ L) (hw.back h2 hL) h3
  · intro x st t L h0 hq hL
    obtain ⟨v1, M1, r1, ow1, h1, h2, h3⟩ := hq
    cases h1
end GLC
theorem d_La_law_0 : decode b_La_law 0 = .ok (.new 8, 3) := by decide +kernel
theorem d_La_law_3 : decode b_La_law 3 = .ok (.dup, 1) := by decide +kernel
theorem d_La_law_4 : decode b_La_law 4 = .ok (.invokespecial 47, 3) := by decide +kernel
theorem d_La_law_7 : decode b_La_law 7 = .ok (.astore_n 1, 1) := by decide +kernel
theorem d_La_law_8 : decode b_La_law 8 = .ok (.new 48, 3) := by decide +kernel
theorem d_La_law_11 : decode b_La_law 11 = .ok (.dup, 1) := by decide +kernel
theorem d_La_law_12 : decode b_La_law 12 = .ok (.invokespecial 50, 3) := by decide +kernel
theorem d_La_law_15 : decode b_La_law 15 = .ok (.astore_n 2, 1) := by decide +kernel
theorem d_La_law_16 : decode b_La_law 16 = .ok (.iconst 1, 1) := by decide +kernel
theorem d_La_law_17 : decode b_La_law 17 = .ok (.newarray .long, 2) := by decide +kernel
theorem d_La_law_19 : decode b_La_law 19 = .ok (.astore_n 3, 1) := by decide +kernel
theorem d_La_law_20 : decode b_La_law 20 = .ok (.iconst 0, 1) := by decide +kernel
theorem d_La_law_21 : decode b_La_law 21 = .ok (.istore 4, 2) := by decide +kernel
theorem d_La_law_23 : decode b_La_law 23 = .ok (.iload 4, 2) := by decide +kernel
theorem d_La_law_25 : decode b_La_law 25 = .ok (.aload_n 0, 1) := by decide +kernel
theorem d_La_law_26 : decode b_La_law 26 = .ok (.arraylength, 1) := by decide +kernel
theorem d_La_law_27 : decode b_La_law 27 = .ok (.iconst 3, 1) := by decide +kernel
theorem d_La_law_28 : decode b_La_law 28 = .ok (.isub, 1) := by decide +kernel
theorem d_La_law_29 : decode b_La_law 29 = .ok (.if_icmp .gt 646, 3) := by decide +kernel
theorem d_La_law_32 : decode b_La_law 32 = .ok (.aload_n 0, 1) := by decide +kernel
theorem d_La_law_33 : decode b_La_law 33 = .ok (.iload 4, 2) := by decide +kernel
theorem d_La_law_35 : decode b_La_law 35 = .ok (.iaload, 1) := by decide +kernel
theorem d_La_law_36 : decode b_La_law 36 = .ok (.bipush 15, 2) := by decide +kernel
theorem d_La_law_38 : decode b_La_law 38 = .ok (.iand, 1) := by decide +kernel
theorem d_La_law_39 : decode b_La_law 39 = .ok (.tableswitch 630 0 13 #[69, 127, 138, 182, 195, 208, 276, 344, 412, 480, 493, 549, 593, 617], 69) := by decide +kernel
theorem d_La_law_108 : decode b_La_law 108 = .ok (.aload_n 1, 1) := by decide +kernel
theorem d_La_law_109 : decode b_La_law 109 = .ok (.aload_n 0, 1) := by decide +kernel
theorem d_La_law_110 : decode b_La_law 110 = .ok (.iload 4, 2) := by decide +kernel
theorem d_La_law_112 : decode b_La_law 112 = .ok (.iconst 1, 1) := by decide +kernel
theorem d_La_law_113 : decode b_La_law 113 = .ok (.iadd, 1) := by decide +kernel
theorem d_La_law_114 : decode b_La_law 114 = .ok (.iaload, 1) := by decide +kernel
theorem d_La_law_115 : decode b_La_law 115 = .ok (.i2c, 1) := by decide +kernel
theorem d_La_law_116 : decode b_La_law 116 = .ok (.aload_n 3, 1) := by decide +kernel
theorem d_La_law_117 : decode b_La_law 117 = .ok (.invokestatic 51, 3) := by decide +kernel
theorem d_La_law_120 : decode b_La_law 120 = .ok (.istore 5, 2) := by decide +kernel
theorem d_La_law_122 : decode b_La_law 122 = .ok (.aload_n 2, 1) := by decide +kernel
theorem d_La_law_123 : decode b_La_law 123 = .ok (.aload_n 0, 1) := by decide +kernel
theorem d_La_law_124 : decode b_La_law 124 = .ok (.iload 4, 2) := by decide +kernel
theorem d_La_law_126 : decode b_La_law 126 = .ok (.iconst 1, 1) := by decide +kernel
theorem d_La_law_127 : decode b_La_law 127 = .ok (.iadd, 1) := by decide +kernel
theorem d_La_law_128 : decode b_La_law 128 = .ok (.iaload, 1) := by decide +kernel
theorem d_La_law_129 : decode b_La_law 129 = .ok (.i2c, 1) := by decide +kernel
theorem d_La_law_130 : decode b_La_law 130 = .ok (.invokevirtual 56, 3) := by decide +kernel
theorem d_La_law_133 : decode b_La_law 133 = .ok (.istore 6, 2) := by decide +kernel
theorem d_La_law_135 : decode b_La_law 135 = .ok (.aload_n 2, 1) := by decide +kernel
theorem d_La_law_136 : decode b_La_law 136 = .ok (.invokevirtual 57, 3) := by decide +kernel
theorem d_La_law_139 : decode b_La_law 139 = .ok (.iload 5, 2) := by decide +kernel
theorem d_La_law_141 : decode b_La_law 141 = .ok (.if_icmp .eq 5, 3) := by decide +kernel
theorem d_La_law_144 : decode b_La_law 144 = .ok (.iconst 0, 1) := by decide +kernel
theorem d_La_law_145 : decode b_La_law 145 = .ok (.ireturn, 1) := by decide +kernel
theorem d_La_law_146 : decode b_La_law 146 = .ok (.iload 5, 2) := by decide +kernel
theorem d_La_law_148 : decode b_La_law 148 = .ok (.ifCond .ne 15, 3) := by decide +kernel
theorem d_La_law_151 : decode b_La_law 151 = .ok (.aload_n 3, 1) := by decide +kernel
theorem d_La_law_152 : decode b_La_law 152 = .ok (.iconst 0, 1) := by decide +kernel
theorem d_La_law_153 : decode b_La_law 153 = .ok (.laload, 1) := by decide +kernel
theorem d_La_law_154 : decode b_La_law 154 = .ok (.iload 6, 2) := by decide +kernel
theorem d_La_law_156 : decode b_La_law 156 = .ok (.i2l, 1) := by decide +kernel
theorem d_La_law_157 : decode b_La_law 157 = .ok (.lcmp, 1) := by decide +kernel
theorem d_La_law_158 : decode b_La_law 158 = .ok (.ifCond .eq 5, 3) := by decide +kernel
theorem d_La_law_161 : decode b_La_law 161 = .ok (.iconst 0, 1) := by decide +kernel
theorem d_La_law_162 : decode b_La_law 162 = .ok (.ireturn, 1) := by decide +kernel
theorem d_La_law_163 : decode b_La_law 163 = .ok (.goto 506, 3) := by decide +kernel
theorem d_La_law_166 : decode b_La_law 166 = .ok (.aload_n 1, 1) := by decide +kernel
theorem d_La_law_167 : decode b_La_law 167 = .ok (.invokevirtual 60, 3) := by decide +kernel
theorem d_La_law_170 : decode b_La_law 170 = .ok (.aload_n 2, 1) := by decide +kernel
theorem d_La_law_171 : decode b_La_law 171 = .ok (.invokevirtual 63, 3) := by decide +kernel
theorem d_La_law_174 : decode b_La_law 174 = .ok (.goto 495, 3) := by decide +kernel
theorem d_La_law_177 : decode b_La_law 177 = .ok (.aload_n 1, 1) := by decide +kernel
theorem d_La_law_178 : decode b_La_law 178 = .ok (.aload_n 3, 1) := by decide +kernel
theorem d_La_law_179 : decode b_La_law 179 = .ok (.invokestatic 64, 3) := by decide +kernel
theorem d_La_law_182 : decode b_La_law 182 = .ok (.istore 5, 2) := by decide +kernel
theorem d_La_law_184 : decode b_La_law 184 = .ok (.aload_n 2, 1) := by decide +kernel
theorem d_La_law_185 : decode b_La_law 185 = .ok (.invokevirtual 67, 3) := by decide +kernel
theorem d_La_law_188 : decode b_La_law 188 = .ok (.istore 6, 2) := by decide +kernel
theorem d_La_law_190 : decode b_La_law 190 = .ok (.aload_n 2, 1) := by decide +kernel
theorem d_La_law_191 : decode b_La_law 191 = .ok (.invokevirtual 57, 3) := by decide +kernel
theorem d_La_law_194 : decode b_La_law 194 = .ok (.iload 5, 2) := by decide +kernel
theorem d_La_law_196 : decode b_La_law 196 = .ok (.if_icmp .eq 5, 3) := by decide +kernel
theorem d_La_law_199 : decode b_La_law 199 = .ok (.iconst 0, 1) := by decide +kernel
theorem d_La_law_200 : decode b_La_law 200 = .ok (.ireturn, 1) := by decide +kernel
theorem d_La_law_201 : decode b_La_law 201 = .ok (.iload 5, 2) := by decide +kernel
theorem d_La_law_203 : decode b_La_law 203 = .ok (.ifCond .ne 15, 3) := by decide +kernel
theorem d_La_law_206 : decode b_La_law 206 = .ok (.aload_n 3, 1) := by decide +kernel
theorem d_La_law_207 : decode b_La_law 207 = .ok (.iconst 0, 1) := by decide +kernel
theorem d_La_law_208 : decode b_La_law 208 = .ok (.laload, 1) := by decide +kernel
theorem d_La_law_209 : decode b_La_law 209 = .ok (.iload 6, 2) := by decide +kernel
theorem d_La_law_211 : decode b_La_law 211 = .ok (.i2l, 1) := by decide +kernel
theorem d_La_law_212 : decode b_La_law 212 = .ok (.lcmp, 1) := by decide +kernel
theorem d_La_law_213 : decode b_La_law 213 = .ok (.ifCond .eq 5, 3) := by decide +kernel
theorem d_La_law_216 : decode b_La_law 216 = .ok (.iconst 0, 1) := by decide +kernel
theorem d_La_law_217 : decode b_La_law 217 = .ok (.ireturn, 1) := by decide +kernel
theorem d_La_law_218 : decode b_La_law 218 = .ok (.goto 451, 3) := by decide +kernel
theorem d_La_law_221 : decode b_La_law 221 = .ok (.aload_n 1, 1) := by decide +kernel
theorem d_La_law_222 : decode b_La_law 222 = .ok (.invokevirtual 68, 3) := by decide +kernel
theorem d_La_law_225 : decode b_La_law 225 = .ok (.aload_n 2, 1) := by decide +kernel
theorem d_La_law_226 : decode b_La_law 226 = .ok (.invokevirtual 71, 3) := by decide +kernel
theorem d_La_law_229 : decode b_La_law 229 = .ok (.if_icmp .eq 440, 3) := by decide +kernel
theorem d_La_law_232 : decode b_La_law 232 = .ok (.iconst 0, 1) := by decide +kernel
theorem d_La_law_233 : decode b_La_law 233 = .ok (.ireturn, 1) := by decide +kernel
theorem d_La_law_234 : decode b_La_law 234 = .ok (.aload_n 1, 1) := by decide +kernel
theorem d_La_law_235 : decode b_La_law 235 = .ok (.invokevirtual 72, 3) := by decide +kernel
theorem d_La_law_238 : decode b_La_law 238 = .ok (.aload_n 2, 1) := by decide +kernel
theorem d_La_law_239 : decode b_La_law 239 = .ok (.invokevirtual 75, 3) := by decide +kernel
theorem d_La_law_242 : decode b_La_law 242 = .ok (.if_icmp .eq 427, 3) := by decide +kernel
theorem d_La_law_245 : decode b_La_law 245 = .ok (.iconst 0, 1) := by decide +kernel
theorem d_La_law_246 : decode b_La_law 246 = .ok (.ireturn, 1) := by decide +kernel
theorem d_La_law_247 : decode b_La_law 247 = .ok (.aload_n 1, 1) := by decide +kernel
theorem d_La_law_248 : decode b_La_law 248 = .ok (.aload_n 0, 1) := by decide +kernel
theorem d_La_law_249 : decode b_La_law 249 = .ok (.iload 4, 2) := by decide +kernel
theorem d_La_law_251 : decode b_La_law 251 = .ok (.iconst 1, 1) := by decide +kernel
theorem d_La_law_252 : decode b_La_law 252 = .ok (.iadd, 1) := by decide +kernel
theorem d_La_law_253 : decode b_La_law 253 = .ok (.iaload, 1) := by decide +kernel
theorem d_La_law_254 : decode b_La_law 254 = .ok (.aload_n 0, 1) := by decide +kernel
theorem d_La_law_255 : decode b_La_law 255 = .ok (.iload 4, 2) := by decide +kernel
theorem d_La_law_257 : decode b_La_law 257 = .ok (.iconst 2, 1) := by decide +kernel
theorem d_La_law_258 : decode b_La_law 258 = .ok (.iadd, 1) := by decide +kernel
theorem d_La_law_259 : decode b_La_law 259 = .ok (.iaload, 1) := by decide +kernel
theorem d_La_law_260 : decode b_La_law 260 = .ok (.aload_n 3, 1) := by decide +kernel
theorem d_La_law_261 : decode b_La_law 261 = .ok (.invokestatic 76, 3) := by decide +kernel
theorem d_La_law_264 : decode b_La_law 264 = .ok (.istore 5, 2) := by decide +kernel
theorem d_La_law_266 : decode b_La_law 266 = .ok (.aload_n 2, 1) := by decide +kernel
theorem d_La_law_267 : decode b_La_law 267 = .ok (.aload_n 0, 1) := by decide +kernel
theorem d_La_law_268 : decode b_La_law 268 = .ok (.iload 4, 2) := by decide +kernel
theorem d_La_law_270 : decode b_La_law 270 = .ok (.iconst 1, 1) := by decide +kernel
theorem d_La_law_271 : decode b_La_law 271 = .ok (.iadd, 1) := by decide +kernel
theorem d_La_law_272 : decode b_La_law 272 = .ok (.iaload, 1) := by decide +kernel
theorem d_La_law_273 : decode b_La_law 273 = .ok (.aload_n 0, 1) := by decide +kernel
theorem d_La_law_274 : decode b_La_law 274 = .ok (.iload 4, 2) := by decide +kernel
theorem d_La_law_276 : decode b_La_law 276 = .ok (.iconst 2, 1) := by decide +kernel
theorem d_La_law_277 : decode b_La_law 277 = .ok (.iadd, 1) := by decide +kernel
theorem d_La_law_278 : decode b_La_law 278 = .ok (.iaload, 1) := by decide +kernel
theorem d_La_law_279 : decode b_La_law 279 = .ok (.invokevirtual 79, 3) := by decide +kernel
theorem d_La_law_282 : decode b_La_law 282 = .ok (.istore 6, 2) := by decide +kernel
theorem d_La_law_284 : decode b_La_law 284 = .ok (.aload_n 2, 1) := by decide +kernel
theorem d_La_law_285 : decode b_La_law 285 = .ok (.invokevirtual 57, 3) := by decide +kernel
theorem d_La_law_288 : decode b_La_law 288 = .ok (.iload 5, 2) := by decide +kernel
theorem d_La_law_290 : decode b_La_law 290 = .ok (.if_icmp .eq 5, 3) := by decide +kernel
theorem d_La_law_293 : decode b_La_law 293 = .ok (.iconst 0, 1) := by decide +kernel
theorem d_La_law_294 : decode b_La_law 294 = .ok (.ireturn, 1) := by decide +kernel
theorem d_La_law_295 : decode b_La_law 295 = .ok (.iload 5, 2) := by decide +kernel
theorem d_La_law_297 : decode b_La_law 297 = .ok (.ifCond .ne 15, 3) := by decide +kernel
theorem d_La_law_300 : decode b_La_law 300 = .ok (.aload_n 3, 1) := by decide +kernel
theorem d_La_law_301 : decode b_La_law 301 = .ok (.iconst 0, 1) := by decide +kernel
theorem d_La_law_302 : decode b_La_law 302 = .ok (.laload, 1) := by decide +kernel
theorem d_La_law_303 : decode b_La_law 303 = .ok (.iload 6, 2) := by decide +kernel
theorem d_La_law_305 : decode b_La_law 305 = .ok (.i2l, 1) := by decide +kernel
theorem d_La_law_306 : decode b_La_law 306 = .ok (.lcmp, 1) := by decide +kernel
theorem d_La_law_307 : decode b_La_law 307 = .ok (.ifCond .eq 5, 3) := by decide +kernel
theorem d_La_law_310 : decode b_La_law 310 = .ok (.iconst 0, 1) := by decide +kernel
theorem d_La_law_311 : decode b_La_law 311 = .ok (.ireturn, 1) := by decide +kernel
theorem d_La_law_312 : decode b_La_law 312 = .ok (.goto 357, 3) := by decide +kernel
theorem d_La_law_315 : decode b_La_law 315 = .ok (.aload_n 1, 1) := by decide +kernel
theorem d_La_law_316 : decode b_La_law 316 = .ok (.aload_n 0, 1) := by decide +kernel
theorem d_La_law_317 : decode b_La_law 317 = .ok (.iload 4, 2) := by decide +kernel
theorem d_La_law_319 : decode b_La_law 319 = .ok (.iconst 1, 1) := by decide +kernel
theorem d_La_law_320 : decode b_La_law 320 = .ok (.iadd, 1) := by decide +kernel
theorem d_La_law_321 : decode b_La_law 321 = .ok (.iaload, 1) := by decide +kernel
theorem d_La_law_322 : decode b_La_law 322 = .ok (.aload_n 0, 1) := by decide +kernel
theorem d_La_law_323 : decode b_La_law 323 = .ok (.iload 4, 2) := by decide +kernel
theorem d_La_law_325 : decode b_La_law 325 = .ok (.iconst 2, 1) := by decide +kernel
theorem d_La_law_326 : decode b_La_law 326 = .ok (.iadd, 1) := by decide +kernel
theorem d_La_law_327 : decode b_La_law 327 = .ok (.iaload, 1) := by decide +kernel
theorem d_La_law_328 : decode b_La_law 328 = .ok (.aload_n 3, 1) := by decide +kernel
theorem d_La_law_329 : decode b_La_law 329 = .ok (.invokestatic 80, 3) := by decide +kernel
theorem d_La_law_332 : decode b_La_law 332 = .ok (.istore 5, 2) := by decide +kernel
theorem d_La_law_334 : decode b_La_law 334 = .ok (.aload_n 2, 1) := by decide +kernel
theorem d_La_law_335 : decode b_La_law 335 = .ok (.aload_n 0, 1) := by decide +kernel
theorem d_La_law_336 : decode b_La_law 336 = .ok (.iload 4, 2) := by decide +kernel
theorem d_La_law_338 : decode b_La_law 338 = .ok (.iconst 1, 1) := by decide +kernel
theorem d_La_law_339 : decode b_La_law 339 = .ok (.iadd, 1) := by decide +kernel
theorem d_La_law_340 : decode b_La_law 340 = .ok (.iaload, 1) := by decide +kernel
theorem d_La_law_341 : decode b_La_law 341 = .ok (.aload_n 0, 1) := by decide +kernel
theorem d_La_law_342 : decode b_La_law 342 = .ok (.iload 4, 2) := by decide +kernel
theorem d_La_law_344 : decode b_La_law 344 = .ok (.iconst 2, 1) := by decide +kernel
theorem d_La_law_345 : decode b_La_law 345 = .ok (.iadd, 1) := by decide +kernel
theorem d_La_law_346 : decode b_La_law 346 = .ok (.iaload, 1) := by decide +kernel
theorem d_La_law_347 : decode b_La_law 347 = .ok (.invokevirtual 82, 3) := by decide +kernel
theorem d_La_law_350 : decode b_La_law 350 = .ok (.istore 6, 2) := by decide +kernel
theorem d_La_law_352 : decode b_La_law 352 = .ok (.aload_n 2, 1) := by decide +kernel
theorem d_La_law_353 : decode b_La_law 353 = .ok (.invokevirtual 57, 3) := by decide +kernel
theorem d_La_law_356 : decode b_La_law 356 = .ok (.iload 5, 2) := by decide +kernel
theorem d_La_law_358 : decode b_La_law 358 = .ok (.if_icmp .eq 5, 3) := by decide +kernel
theorem d_La_law_361 : decode b_La_law 361 = .ok (.iconst 0, 1) := by decide +kernel
theorem d_La_law_362 : decode b_La_law 362 = .ok (.ireturn, 1) := by decide +kernel
theorem d_La_law_363 : decode b_La_law 363 = .ok (.iload 5, 2) := by decide +kernel
theorem d_La_law_365 : decode b_La_law 365 = .ok (.ifCond .ne 15, 3) := by decide +kernel
theorem d_La_law_368 : decode b_La_law 368 = .ok (.aload_n 3, 1) := by decide +kernel
theorem d_La_law_369 : decode b_La_law 369 = .ok (.iconst 0, 1) := by decide +kernel
theorem d_La_law_370 : decode b_La_law 370 = .ok (.laload, 1) := by decide +kernel
theorem d_La_law_371 : decode b_La_law 371 = .ok (.iload 6, 2) := by decide +kernel
theorem d_La_law_373 : decode b_La_law 373 = .ok (.i2l, 1) := by decide +kernel
theorem d_La_law_374 : decode b_La_law 374 = .ok (.lcmp, 1) := by decide +kernel
theorem d_La_law_375 : decode b_La_law 375 = .ok (.ifCond .eq 5, 3) := by decide +kernel
theorem d_La_law_378 : decode b_La_law 378 = .ok (.iconst 0, 1) := by decide +kernel
theorem d_La_law_379 : decode b_La_law 379 = .ok (.ireturn, 1) := by decide +kernel
theorem d_La_law_380 : decode b_La_law 380 = .ok (.goto 289, 3) := by decide +kernel
theorem d_La_law_383 : decode b_La_law 383 = .ok (.aload_n 1, 1) := by decide +kernel
theorem d_La_law_384 : decode b_La_law 384 = .ok (.aload_n 0, 1) := by decide +kernel
theorem d_La_law_385 : decode b_La_law 385 = .ok (.iload 4, 2) := by decide +kernel
theorem d_La_law_387 : decode b_La_law 387 = .ok (.iconst 1, 1) := by decide +kernel
theorem d_La_law_388 : decode b_La_law 388 = .ok (.iadd, 1) := by decide +kernel
theorem d_La_law_389 : decode b_La_law 389 = .ok (.iaload, 1) := by decide +kernel
theorem d_La_law_390 : decode b_La_law 390 = .ok (.aload_n 0, 1) := by decide +kernel
theorem d_La_law_391 : decode b_La_law 391 = .ok (.iload 4, 2) := by decide +kernel
theorem d_La_law_393 : decode b_La_law 393 = .ok (.iconst 2, 1) := by decide +kernel
theorem d_La_law_394 : decode b_La_law 394 = .ok (.iadd, 1) := by decide +kernel
theorem d_La_law_395 : decode b_La_law 395 = .ok (.iaload, 1) := by decide +kernel
theorem d_La_law_396 : decode b_La_law 396 = .ok (.aload_n 3, 1) := by decide +kernel
theorem d_La_law_397 : decode b_La_law 397 = .ok (.invokestatic 83, 3) := by decide +kernel
theorem d_La_law_400 : decode b_La_law 400 = .ok (.istore 5, 2) := by decide +kernel
theorem d_La_law_402 : decode b_La_law 402 = .ok (.aload_n 2, 1) := by decide +kernel
theorem d_La_law_403 : decode b_La_law 403 = .ok (.aload_n 0, 1) := by decide +kernel
theorem d_La_law_404 : decode b_La_law 404 = .ok (.iload 4, 2) := by decide +kernel
theorem d_La_law_406 : decode b_La_law 406 = .ok (.iconst 1, 1) := by decide +kernel
theorem d_La_law_407 : decode b_La_law 407 = .ok (.iadd, 1) := by decide +kernel
theorem d_La_law_408 : decode b_La_law 408 = .ok (.iaload, 1) := by decide +kernel
theorem d_La_law_409 : decode b_La_law 409 = .ok (.aload_n 0, 1) := by decide +kernel
theorem d_La_law_410 : decode b_La_law 410 = .ok (.iload 4, 2) := by decide +kernel
theorem d_La_law_412 : decode b_La_law 412 = .ok (.iconst 2, 1) := by decide +kernel
theorem d_La_law_413 : decode b_La_law 413 = .ok (.iadd, 1) := by decide +kernel
theorem d_La_law_414 : decode b_La_law 414 = .ok (.iaload, 1) := by decide +kernel
theorem d_La_law_415 : decode b_La_law 415 = .ok (.invokevirtual 85, 3) := by decide +kernel
theorem d_La_law_418 : decode b_La_law 418 = .ok (.istore 6, 2) := by decide +kernel
theorem d_La_law_420 : decode b_La_law 420 = .ok (.aload_n 2, 1) := by decide +kernel
theorem d_La_law_421 : decode b_La_law 421 = .ok (.invokevirtual 57, 3) := by decide +kernel
theorem d_La_law_424 : decode b_La_law 424 = .ok (.iload 5, 2) := by decide +kernel
theorem d_La_law_426 : decode b_La_law 426 = .ok (.if_icmp .eq 5, 3) := by decide +kernel
theorem d_La_law_429 : decode b_La_law 429 = .ok (.iconst 0, 1) := by decide +kernel
theorem d_La_law_430 : decode b_La_law 430 = .ok (.ireturn, 1) := by decide +kernel
theorem d_La_law_431 : decode b_La_law 431 = .ok (.iload 5, 2) := by decide +kernel
theorem d_La_law_433 : decode b_La_law 433 = .ok (.ifCond .ne 15, 3) := by decide +kernel
theorem d_La_law_436 : decode b_La_law 436 = .ok (.aload_n 3, 1) := by decide +kernel
theorem d_La_law_437 : decode b_La_law 437 = .ok (.iconst 0, 1) := by decide +kernel
theorem d_La_law_438 : decode b_La_law 438 = .ok (.laload, 1) := by decide +kernel
theorem d_La_law_439 : decode b_La_law 439 = .ok (.iload 6, 2) := by decide +kernel
theorem d_La_law_441 : decode b_La_law 441 = .ok (.i2l, 1) := by decide +kernel
theorem d_La_law_442 : decode b_La_law 442 = .ok (.lcmp, 1) := by decide +kernel
theorem d_La_law_443 : decode b_La_law 443 = .ok (.ifCond .eq 5, 3) := by decide +kernel
theorem d_La_law_446 : decode b_La_law 446 = .ok (.iconst 0, 1) := by decide +kernel
theorem d_La_law_447 : decode b_La_law 447 = .ok (.ireturn, 1) := by decide +kernel
theorem d_La_law_448 : decode b_La_law 448 = .ok (.goto 221, 3) := by decide +kernel
theorem d_La_law_451 : decode b_La_law 451 = .ok (.aload_n 1, 1) := by decide +kernel
theorem d_La_law_452 : decode b_La_law 452 = .ok (.aload_n 0, 1) := by decide +kernel
theorem d_La_law_453 : decode b_La_law 453 = .ok (.iload 4, 2) := by decide +kernel
theorem d_La_law_455 : decode b_La_law 455 = .ok (.iconst 1, 1) := by decide +kernel
theorem d_La_law_456 : decode b_La_law 456 = .ok (.iadd, 1) := by decide +kernel
theorem d_La_law_457 : decode b_La_law 457 = .ok (.iaload, 1) := by decide +kernel
theorem d_La_law_458 : decode b_La_law 458 = .ok (.aload_n 0, 1) := by decide +kernel
theorem d_La_law_459 : decode b_La_law 459 = .ok (.iload 4, 2) := by decide +kernel
theorem d_La_law_461 : decode b_La_law 461 = .ok (.iconst 2, 1) := by decide +kernel
theorem d_La_law_462 : decode b_La_law 462 = .ok (.iadd, 1) := by decide +kernel
theorem d_La_law_463 : decode b_La_law 463 = .ok (.iaload, 1) := by decide +kernel
theorem d_La_law_464 : decode b_La_law 464 = .ok (.aload_n 3, 1) := by decide +kernel
theorem d_La_law_465 : decode b_La_law 465 = .ok (.invokestatic 86, 3) := by decide +kernel
theorem d_La_law_468 : decode b_La_law 468 = .ok (.istore 5, 2) := by decide +kernel
theorem d_La_law_470 : decode b_La_law 470 = .ok (.aload_n 2, 1) := by decide +kernel
theorem d_La_law_471 : decode b_La_law 471 = .ok (.aload_n 0, 1) := by decide +kernel
theorem d_La_law_472 : decode b_La_law 472 = .ok (.iload 4, 2) := by decide +kernel
theorem d_La_law_474 : decode b_La_law 474 = .ok (.iconst 1, 1) := by decide +kernel
theorem d_La_law_475 : decode b_La_law 475 = .ok (.iadd, 1) := by decide +kernel
theorem d_La_law_476 : decode b_La_law 476 = .ok (.iaload, 1) := by decide +kernel
theorem d_La_law_477 : decode b_La_law 477 = .ok (.aload_n 0, 1) := by decide +kernel
theorem d_La_law_478 : decode b_La_law 478 = .ok (.iload 4, 2) := by decide +kernel
theorem d_La_law_480 : decode b_La_law 480 = .ok (.iconst 2, 1) := by decide +kernel
theorem d_La_law_481 : decode b_La_law 481 = .ok (.iadd, 1) := by decide +kernel
theorem d_La_law_482 : decode b_La_law 482 = .ok (.iaload, 1) := by decide +kernel
theorem d_La_law_483 : decode b_La_law 483 = .ok (.invokevirtual 88, 3) := by decide +kernel
theorem d_La_law_486 : decode b_La_law 486 = .ok (.istore 6, 2) := by decide +kernel
theorem d_La_law_488 : decode b_La_law 488 = .ok (.aload_n 2, 1) := by decide +kernel
theorem d_La_law_489 : decode b_La_law 489 = .ok (.invokevirtual 57, 3) := by decide +kernel
theorem d_La_law_492 : decode b_La_law 492 = .ok (.iload 5, 2) := by decide +kernel
theorem d_La_law_494 : decode b_La_law 494 = .ok (.if_icmp .eq 5, 3) := by decide +kernel
theorem d_La_law_497 : decode b_La_law 497 = .ok (.iconst 0, 1) := by decide +kernel
theorem d_La_law_498 : decode b_La_law 498 = .ok (.ireturn, 1) := by decide +kernel
theorem d_La_law_499 : decode b_La_law 499 = .ok (.iload 5, 2) := by decide +kernel
theorem d_La_law_501 : decode b_La_law 501 = .ok (.ifCond .ne 15, 3) := by decide +kernel
theorem d_La_law_504 : decode b_La_law 504 = .ok (.aload_n 3, 1) := by decide +kernel
theorem d_La_law_505 : decode b_La_law 505 = .ok (.iconst 0, 1) := by decide +kernel
theorem d_La_law_506 : decode b_La_law 506 = .ok (.laload, 1) := by decide +kernel
theorem d_La_law_507 : decode b_La_law 507 = .ok (.iload 6, 2) := by decide +kernel
theorem d_La_law_509 : decode b_La_law 509 = .ok (.i2l, 1) := by decide +kernel
theorem d_La_law_510 : decode b_La_law 510 = .ok (.lcmp, 1) := by decide +kernel
theorem d_La_law_511 : decode b_La_law 511 = .ok (.ifCond .eq 5, 3) := by decide +kernel
theorem d_La_law_514 : decode b_La_law 514 = .ok (.iconst 0, 1) := by decide +kernel
theorem d_La_law_515 : decode b_La_law 515 = .ok (.ireturn, 1) := by decide +kernel
theorem d_La_law_516 : decode b_La_law 516 = .ok (.goto 153, 3) := by decide +kernel
theorem d_La_law_519 : decode b_La_law 519 = .ok (.aload_n 1, 1) := by decide +kernel
theorem d_La_law_520 : decode b_La_law 520 = .ok (.invokevirtual 89, 3) := by decide +kernel
theorem d_La_law_523 : decode b_La_law 523 = .ok (.aload_n 2, 1) := by decide +kernel
theorem d_La_law_524 : decode b_La_law 524 = .ok (.invokevirtual 92, 3) := by decide +kernel
theorem d_La_law_527 : decode b_La_law 527 = .ok (.if_icmp .eq 142, 3) := by decide +kernel
theorem d_La_law_530 : decode b_La_law 530 = .ok (.iconst 0, 1) := by decide +kernel
theorem d_La_law_531 : decode b_La_law 531 = .ok (.ireturn, 1) := by decide +kernel
theorem d_La_law_532 : decode b_La_law 532 = .ok (.aload_n 1, 1) := by decide +kernel
theorem d_La_law_533 : decode b_La_law 533 = .ok (.aload_n 0, 1) := by decide +kernel
theorem d_La_law_534 : decode b_La_law 534 = .ok (.iload 4, 2) := by decide +kernel
theorem d_La_law_536 : decode b_La_law 536 = .ok (.iconst 1, 1) := by decide +kernel
theorem d_La_law_537 : decode b_La_law 537 = .ok (.iadd, 1) := by decide +kernel
theorem d_La_law_538 : decode b_La_law 538 = .ok (.iaload, 1) := by decide +kernel
theorem d_La_law_539 : decode b_La_law 539 = .ok (.aload_n 3, 1) := by decide +kernel
theorem d_La_law_540 : decode b_La_law 540 = .ok (.invokestatic 93, 3) := by decide +kernel
theorem d_La_law_543 : decode b_La_law 543 = .ok (.istore 5, 2) := by decide +kernel
theorem d_La_law_545 : decode b_La_law 545 = .ok (.aload_n 2, 1) := by decide +kernel
theorem d_La_law_546 : decode b_La_law 546 = .ok (.aload_n 0, 1) := by decide +kernel
theorem d_La_law_547 : decode b_La_law 547 = .ok (.iload 4, 2) := by decide +kernel
theorem d_La_law_549 : decode b_La_law 549 = .ok (.iconst 1, 1) := by decide +kernel
theorem d_La_law_550 : decode b_La_law 550 = .ok (.iadd, 1) := by decide +kernel
theorem d_La_law_551 : decode b_La_law 551 = .ok (.iaload, 1) := by decide +kernel
theorem d_La_law_552 : decode b_La_law 552 = .ok (.invokevirtual 96, 3) := by decide +kernel
theorem d_La_law_555 : decode b_La_law 555 = .ok (.istore 6, 2) := by decide +kernel
theorem d_La_law_557 : decode b_La_law 557 = .ok (.aload_n 2, 1) := by decide +kernel
theorem d_La_law_558 : decode b_La_law 558 = .ok (.invokevirtual 57, 3) := by decide +kernel
theorem d_La_law_561 : decode b_La_law 561 = .ok (.iload 5, 2) := by decide +kernel
theorem d_La_law_563 : decode b_La_law 563 = .ok (.if_icmp .eq 5, 3) := by decide +kernel
theorem d_La_law_566 : decode b_La_law 566 = .ok (.iconst 0, 1) := by decide +kernel
theorem d_La_law_567 : decode b_La_law 567 = .ok (.ireturn, 1) := by decide +kernel
theorem d_La_law_568 : decode b_La_law 568 = .ok (.iload 5, 2) := by decide +kernel
theorem d_La_law_570 : decode b_La_law 570 = .ok (.ifCond .ne 15, 3) := by decide +kernel
theorem d_La_law_573 : decode b_La_law 573 = .ok (.aload_n 3, 1) := by decide +kernel
theorem d_La_law_574 : decode b_La_law 574 = .ok (.iconst 0, 1) := by decide +kernel
theorem d_La_law_575 : decode b_La_law 575 = .ok (.laload, 1) := by decide +kernel
theorem d_La_law_576 : decode b_La_law 576 = .ok (.iload 6, 2) := by decide +kernel
theorem d_La_law_578 : decode b_La_law 578 = .ok (.i2l, 1) := by decide +kernel
theorem d_La_law_579 : decode b_La_law 579 = .ok (.lcmp, 1) := by decide +kernel
theorem d_La_law_580 : decode b_La_law 580 = .ok (.ifCond .eq 5, 3) := by decide +kernel
theorem d_La_law_583 : decode b_La_law 583 = .ok (.iconst 0, 1) := by decide +kernel
theorem d_La_law_584 : decode b_La_law 584 = .ok (.ireturn, 1) := by decide +kernel
theorem d_La_law_585 : decode b_La_law 585 = .ok (.goto 84, 3) := by decide +kernel
theorem d_La_law_588 : decode b_La_law 588 = .ok (.aload_n 1, 1) := by decide +kernel
theorem d_La_law_589 : decode b_La_law 589 = .ok (.aload_n 3, 1) := by decide +kernel
theorem d_La_law_590 : decode b_La_law 590 = .ok (.invokestatic 97, 3) := by decide +kernel
theorem d_La_law_593 : decode b_La_law 593 = .ok (.istore 5, 2) := by decide +kernel
theorem d_La_law_595 : decode b_La_law 595 = .ok (.aload_n 2, 1) := by decide +kernel
theorem d_La_law_596 : decode b_La_law 596 = .ok (.invokevirtual 99, 3) := by decide +kernel
theorem d_La_law_599 : decode b_La_law 599 = .ok (.istore 6, 2) := by decide +kernel
theorem d_La_law_601 : decode b_La_law 601 = .ok (.aload_n 2, 1) := by decide +kernel
theorem d_La_law_602 : decode b_La_law 602 = .ok (.invokevirtual 57, 3) := by decide +kernel
theorem d_La_law_605 : decode b_La_law 605 = .ok (.iload 5, 2) := by decide +kernel
theorem d_La_law_607 : decode b_La_law 607 = .ok (.if_icmp .eq 5, 3) := by decide +kernel
theorem d_La_law_610 : decode b_La_law 610 = .ok (.iconst 0, 1) := by decide +kernel
theorem d_La_law_611 : decode b_La_law 611 = .ok (.ireturn, 1) := by decide +kernel
theorem d_La_law_612 : decode b_La_law 612 = .ok (.iload 5, 2) := by decide +kernel
theorem d_La_law_614 : decode b_La_law 614 = .ok (.ifCond .ne 15, 3) := by decide +kernel
theorem d_La_law_617 : decode b_La_law 617 = .ok (.aload_n 3, 1) := by decide +kernel
theorem d_La_law_618 : decode b_La_law 618 = .ok (.iconst 0, 1) := by decide +kernel
theorem d_La_law_619 : decode b_La_law 619 = .ok (.laload, 1) := by decide +kernel
theorem d_La_law_620 : decode b_La_law 620 = .ok (.iload 6, 2) := by decide +kernel
theorem d_La_law_622 : decode b_La_law 622 = .ok (.i2l, 1) := by decide +kernel
theorem d_La_law_623 : decode b_La_law 623 = .ok (.lcmp, 1) := by decide +kernel
theorem d_La_law_624 : decode b_La_law 624 = .ok (.ifCond .eq 5, 3) := by decide +kernel
theorem d_La_law_627 : decode b_La_law 627 = .ok (.iconst 0, 1) := by decide +kernel
theorem d_La_law_628 : decode b_La_law 628 = .ok (.ireturn, 1) := by decide +kernel
theorem d_La_law_629 : decode b_La_law 629 = .ok (.goto 40, 3) := by decide +kernel
theorem d_La_law_632 : decode b_La_law 632 = .ok (.aload_n 1, 1) := by decide +kernel
theorem d_La_law_633 : decode b_La_law 633 = .ok (.invokestatic 100, 3) := by decide +kernel
theorem d_La_law_636 : decode b_La_law 636 = .ok (.istore 5, 2) := by decide +kernel
theorem d_La_law_638 : decode b_La_law 638 = .ok (.aload_n 2, 1) := by decide +kernel
theorem d_La_law_639 : decode b_La_law 639 = .ok (.invokevirtual 103, 3) := by decide +kernel
theorem d_La_law_642 : decode b_La_law 642 = .ok (.aload_n 2, 1) := by decide +kernel
theorem d_La_law_643 : decode b_La_law 643 = .ok (.invokevirtual 57, 3) := by decide +kernel
theorem d_La_law_646 : decode b_La_law 646 = .ok (.iload 5, 2) := by decide +kernel
theorem d_La_law_648 : decode b_La_law 648 = .ok (.if_icmp .eq 5, 3) := by decide +kernel
theorem d_La_law_651 : decode b_La_law 651 = .ok (.iconst 0, 1) := by decide +kernel
theorem d_La_law_652 : decode b_La_law 652 = .ok (.ireturn, 1) := by decide +kernel
theorem d_La_law_653 : decode b_La_law 653 = .ok (.goto 16, 3) := by decide +kernel
theorem d_La_law_656 : decode b_La_law 656 = .ok (.aload_n 1, 1) := by decide +kernel
theorem d_La_law_657 : decode b_La_law 657 = .ok (.invokevirtual 104, 3) := by decide +kernel
theorem d_La_law_660 : decode b_La_law 660 = .ok (.aload_n 2, 1) := by decide +kernel
theorem d_La_law_661 : decode b_La_law 661 = .ok (.invokevirtual 108, 3) := by decide +kernel
theorem d_La_law_664 : decode b_La_law 664 = .ok (.if_icmp .eq 5, 3) := by decide +kernel
theorem d_La_law_667 : decode b_La_law 667 = .ok (.iconst 0, 1) := by decide +kernel
theorem d_La_law_668 : decode b_La_law 668 = .ok (.ireturn, 1) := by decide +kernel
theorem d_La_law_669 : decode b_La_law 669 = .ok (.iinc 4 3, 3) := by decide +kernel
theorem d_La_law_672 : decode b_La_law 672 = .ok (.goto (-649), 3) := by decide +kernel
theorem d_La_law_675 : decode b_La_law 675 = .ok (.iconst 1, 1) := by decide +kernel
theorem d_La_law_676 : decode b_La_law 676 = .ok (.ireturn, 1) := by decide +kernel
set_option maxHeartbeats 4000000 in
set_option maxRecDepth 100000 in
theorem w_type {p : Program} {l : Launch} {e : Env} {R : Room} {s0 : State} {m : MethodId} {args : Array Value} {below : List Frame} {meth : Method} {c : Code} {H : Heap} {locs : List Loc} {cells slots : Nat} {Q : State → Prop} {D : va_G} {aC : Nat → ClassId} {b L : Nat} {xs : Nat → Int32} {i : Int32} {ls : Array Slot} {M : gMem} {r : gRef} {ow : Int64} {I : gMem → gRef → Prop} (B : gB s0 D aC p e s0 m meth c R_La code 7 ret) (hX : va_X b L xs s0 s0.heap) (hbl : b < s0.heap.size) (hRm : 16 ≤ R.frames ∧ 604 ≤ R.locals) (hC : cells + 1 ≤ R.cells ∧ slots + 6 ≤ R.slots) (h1 : vp_in (i + 1) L) (h2 : vp_in (i + 2) L) (hl : lv_has ls 7 [(4, .int i), (3, .ref (s0.heap.size + 401)), (2, .ref (s0.heap.size + 383)), (1, .ref (s0.heap.size + 0)), (0, .ref b)]) (hw : gWd s0 D aC M r ow H locs) {pA : Int32 → gMem → gRef → Int64 → Prop} {pB : Int32 → Int64 → Option Value → gMem → gRef → Prop} {fr lo : Nat} (hA : gLt l s0 D aC y_La_type (Cond.codeWith y_La_type b_La_type 4 (some .int) [(0, 9, 12, 13), (0, 9, 15, 15)]) 15 580 [.ref (s0.heap.size + 0), .int (((xs (i + 1).toNatClampNeg).toUInt32 % 65536).toInt32), .ref (s0.heap.size + 401)] M r ow pA) (hRB : fr + 1 ≤ 16 ∧ 8 + (2 + 11) + lo ≤ 604) (hB : ∀ v M1 r1 ow1, pA v M1 r1 ow1 → gMet l s0 D aC y_Mo_type (Cond.code y_Mo_type b_Mo_type 2 (some .int)) fr lo 0 0 [.ref (s0.heap.size + 383), .int (((xs (i + 1).toNatClampNeg).toUInt32 % 65536).toInt32)] M1 r1 ow1 (pB v ow1) (fun _ _ _ => False)) (hT : ∀ M r ow, gMet l s0 D aC y_Mo_thrown (Cond.code y_Mo_thrown b_Mo_thrown 1 (some .int)) 0 0 0 0 [.ref (s0.heap.size + 383)] M r ow (fun v M1 r1 => v = some (.int (M 100 0)) ∧ M1 = M ∧ r1 = r) (fun _ _ _ => False)) (hE : ∀ v ow1 w M2 r2, pB v ow1 w M2 r2 → ∃ a, w = some (.int a) ∧ M2 100 0 = v ∧ (v = 0 → ow1 = a.toInt64) ∧ I M2 r2) (k : ∀ M r ow H locs ls, I M r → lv_has ls 7 [(4, .int i), (3, .ref (s0.heap.size + 401)), (2, .ref (s0.heap.size + 383)), (1, .ref (s0.heap.size + 0)), (0, .ref b)] → gWd s0 D aC M r ow H locs → W p l e R s0 m args below meth c H locs (cells + 1) (slots + 6) Q (F0 m 669 ls [])) : W p l e R s0 m args below meth c H locs cells slots Q (F0 m 108 ls []) := by
  have hx := B.1
  have hb := B.2.1
  have hown := B.2.2.2.2.2.1
  have T := B.2.2.2.2.2.2.1
  have hK := B.2.2.2.2.2.2.2.1
  have hbA : ¬ (fun q => s0.heap.size ≤ q) b := Nat.not_le.mpr hbl
  refine lv_aload_n hx hb d_La_law_108 rfl (lv_at hl 3 rfl) ?_
  refine lv_aload_n hx hb d_La_law_109 rfl (lv_at hl 4 rfl) ?_
  refine lv_iload hx hb d_La_law_110 (lv_at hl 0 rfl) ?_
  refine lv_iconst (v := 1) hx hb d_La_law_112 (by decide) ?_
  refine lv_iadd hx hb d_La_law_113 ?_
  refine va_sld hx hb hX hbl hbA hw.2 h1 d_La_law_114 ?_
  refine lv_i2c hx hb d_La_law_115 rfl ?_
  refine lv_aload_n hx hb d_La_law_116 rfl (lv_at hl 1 rfl) ?_
  refine gl_call (As := [.ref (s0.heap.size + 0), .int (((xs (i + 1).toNatClampNeg).toUInt32 % 65536).toInt32), .ref (s0.heap.size + 401)]) B hl.1 hw hA (kd_La_type T) (ki_La T) (km_La_51 T) (kt_La_type T) ⟨by decide, by decide, by rfl⟩ rfl (Nat.le_of_ble_eq_true rfl) ⟨hRm.1, Nat.le_trans (by decide) hRm.2⟩ hC d_La_law_117 (fun v M1 r1 ow1 H locs hw hp => ?_)
  refine lv_istore hx hb d_La_law_120 hl (by decide) rfl (fun ls hl => ?_)
  refine lv_aload_n hx hb d_La_law_122 rfl (lv_at hl 3 rfl) ?_
  refine lv_aload_n hx hb d_La_law_123 rfl (lv_at hl 5 rfl) ?_
  refine lv_iload hx hb d_La_law_124 (lv_at hl 1 rfl) ?_
  refine lv_iconst (v := 1) hx hb d_La_law_126 (by decide) ?_
  refine lv_iadd hx hb d_La_law_127 ?_
  refine va_sld hx hb hX hbl hbA hw.2 h1 d_La_law_128 ?_
  refine lv_i2c hx hb d_La_law_129 rfl ?_
  refine gy_V (As := [.int (((xs (i + 1).toNatClampNeg).toUInt32 % 65536).toInt32)]) B hl.1 hw (hB _ _ _ _ hp) (kd_Mo_type T) (ki_Mo T) (km_La_56 T) (ka_Mo_type T) (ks_Mo_type T) ⟨by decide, by decide, by rfl⟩ (rv_Mo hK hw rfl) rfl (Nat.le_of_ble_eq_true rfl) ⟨Nat.le_trans hRB.1 hRm.1, Nat.le_trans hRB.2 hRm.2⟩ hC d_La_law_130 (fun v9 M9 r9 H locs hw hp => ?_) (fun _ _ _ _ _ _ _ _ hp => hp.elim)
  obtain ⟨av9, rfl, ht9, he9, hi9⟩ := hE _ _ _ _ _ hp
  refine lv_istore hx hb d_La_law_133 hl (by decide) rfl (fun ls hl => ?_)
  refine lv_aload_n hx hb d_La_law_135 rfl (lv_at hl 4 rfl) ?_
  refine gy_V (As := []) B hl.1 hw (hT _ _ _) (kd_Mo_thrown T) (ki_Mo T) (km_La_57 T) (ka_Mo_thrown T) (ks_Mo_thrown T) ⟨by decide, by decide, by rfl⟩ (rv_Mo hK hw rfl) rfl (Nat.le_of_ble_eq_true rfl) ⟨Nat.le_trans (by decide) hRm.1, Nat.le_trans (by decide) hRm.2⟩ hC d_La_law_136 (fun v9 M9 r9 H locs hw hp => ?_) (fun _ _ _ _ _ _ _ _ hp => hp.elim)
  obtain ⟨rfl, hM9, hr9⟩ := hp
  rw [hM9, hr9] at hw
  refine lv_iload hx hb d_La_law_139 (lv_at hl 1 rfl) ?_
  refine lv_icmp_eq hx hb d_La_law_141 rfl (fun h141 => ?_) (fun h141 => absurd ht9 h141)
  refine lv_iload hx hb d_La_law_146 (lv_at hl 1 rfl) ?_
  refine lv_if_ne hx hb d_La_law_148 rfl (fun h148 => ?_) (fun h148 => ?_)
  · skip
    refine lv_goto hx hb d_La_law_163 rfl ?_
    exact k _ _ _ _ _ _ hi9 (gv_loc hl [2, 3, 4, 5, 6] rfl) hw
  · skip
    refine lv_aload_n hx hb d_La_law_151 rfl (lv_at hl 3 rfl) ?_
    refine lv_iconst (v := 0) hx hb d_La_law_152 (by decide) ?_
    refine ga_out hx hb hK hw rfl (gi_in0 (n := 0) (by decide) (by decide)) d_La_law_153 ?_
    refine lv_iload hx hb d_La_law_154 (lv_at hl 0 rfl) ?_
    refine lv_i2l hx hb d_La_law_156 rfl ?_
    refine W.lcmp hx hb d_La_law_157 ?_
    refine lv_if_eq hx hb d_La_law_158 rfl (fun h158 => ?_) (fun h158 => absurd ((lg_cmp_eq _ _).mpr (he9 h148)) h158)
    refine lv_goto hx hb d_La_law_163 rfl ?_
    exact k _ _ _ _ _ _ hi9 (gv_loc hl [2, 3, 4, 5, 6] rfl) hw
set_option maxHeartbeats 4000000 in
set_option maxRecDepth 100000 in
theorem w_read {p : Program} {l : Launch} {e : Env} {R : Room} {s0 : State} {m : MethodId} {args : Array Value} {below : List Frame} {meth : Method} {c : Code} {H : Heap} {locs : List Loc} {cells slots : Nat} {Q : State → Prop} {D : va_G} {aC : Nat → ClassId} {b L : Nat} {xs : Nat → Int32} {i : Int32} {ls : Array Slot} {M : gMem} {r : gRef} {ow : Int64} {I : gMem → gRef → Prop} (B : gB s0 D aC p e s0 m meth c R_La code 7 ret) (hX : va_X b L xs s0 s0.heap) (hbl : b < s0.heap.size) (hRm : 16 ≤ R.frames ∧ 604 ≤ R.locals) (hC : cells + 1 ≤ R.cells ∧ slots + 6 ≤ R.slots) (h1 : vp_in (i + 1) L) (h2 : vp_in (i + 2) L) (hl : lv_has ls 7 [(4, .int i), (3, .ref (s0.heap.size + 401)), (2, .ref (s0.heap.size + 383)), (1, .ref (s0.heap.size + 0)), (0, .ref b)]) (hw : gWd s0 D aC M r ow H locs) {pA : Int32 → gMem → gRef → Int64 → Prop} {pB : Int32 → Int64 → Option Value → gMem → gRef → Prop} {fr lo : Nat} (hA : gLt l s0 D aC y_La_read (Cond.codeWith y_La_read b_La_read 3 (some .int) [(0, 8, 11, 13)]) 15 580 [.ref (s0.heap.size + 0), .ref (s0.heap.size + 401)] M r ow pA) (hRB : fr + 1 ≤ 16 ∧ 8 + (1 + 11) + lo ≤ 604) (hB : ∀ v M1 r1 ow1, pA v M1 r1 ow1 → gMet l s0 D aC y_Mo_read (Cond.code y_Mo_read b_Mo_read 1 (some .int)) fr lo 0 0 [.ref (s0.heap.size + 383)] M1 r1 ow1 (pB v ow1) (fun _ _ _ => False)) (hT : ∀ M r ow, gMet l s0 D aC y_Mo_thrown (Cond.code y_Mo_thrown b_Mo_thrown 1 (some .int)) 0 0 0 0 [.ref (s0.heap.size + 383)] M r ow (fun v M1 r1 => v = some (.int (M 100 0)) ∧ M1 = M ∧ r1 = r) (fun _ _ _ => False)) (hE : ∀ v ow1 w M2 r2, pB v ow1 w M2 r2 → ∃ a, w = some (.int a) ∧ M2 100 0 = v ∧ (v = 0 → ow1 = a.toInt64) ∧ I M2 r2) (k : ∀ M r ow H locs ls, I M r → lv_has ls 7 [(4, .int i), (3, .ref (s0.heap.size + 401)), (2, .ref (s0.heap.size + 383)), (1, .ref (s0.heap.size + 0)), (0, .ref b)] → gWd s0 D aC M r ow H locs → W p l e R s0 m args below meth c H locs (cells + 1) (slots + 6) Q (F0 m 669 ls [])) : W p l e R s0 m args below meth c H locs cells slots Q (F0 m 177 ls []) := by
  have hx := B.1
  have hb := B.2.1
  have hown := B.2.2.2.2.2.1
  have T := B.2.2.2.2.2.2.1
  have hK := B.2.2.2.2.2.2.2.1
  have hbA : ¬ (fun q => s0.heap.size ≤ q) b := Nat.not_le.mpr hbl
  refine lv_aload_n hx hb d_La_law_177 rfl (lv_at hl 3 rfl) ?_
  refine lv_aload_n hx hb d_La_law_178 rfl (lv_at hl 1 rfl) ?_
  refine gl_call (As := [.ref (s0.heap.size + 0), .ref (s0.heap.size + 401)]) B hl.1 hw hA (kd_La_read T) (ki_La T) (km_La_64 T) (kt_La_read T) ⟨by decide, by decide, by rfl⟩ rfl (Nat.le_of_ble_eq_true rfl) ⟨hRm.1, Nat.le_trans (by decide) hRm.2⟩ hC d_La_law_179 (fun v M1 r1 ow1 H locs hw hp => ?_)
  refine lv_istore hx hb d_La_law_182 hl (by decide) rfl (fun ls hl => ?_)
  refine lv_aload_n hx hb d_La_law_184 rfl (lv_at hl 3 rfl) ?_
  refine gy_V (As := []) B hl.1 hw (hB _ _ _ _ hp) (kd_Mo_read T) (ki_Mo T) (km_La_67 T) (ka_Mo_read T) (ks_Mo_read T) ⟨by decide, by decide, by rfl⟩ (rv_Mo hK hw rfl) rfl (Nat.le_of_ble_eq_true rfl) ⟨Nat.le_trans hRB.1 hRm.1, Nat.le_trans hRB.2 hRm.2⟩ hC d_La_law_185 (fun v9 M9 r9 H locs hw hp => ?_) (fun _ _ _ _ _ _ _ _ hp => hp.elim)
  obtain ⟨av9, rfl, ht9, he9, hi9⟩ := hE _ _ _ _ _ hp
  refine lv_istore hx hb d_La_law_188 hl (by decide) rfl (fun ls hl => ?_)
  refine lv_aload_n hx hb d_La_law_190 rfl (lv_at hl 4 rfl) ?_
  refine gy_V (As := []) B hl.1 hw (hT _ _ _) (kd_Mo_thrown T) (ki_Mo T) (km_La_57 T) (ka_Mo_thrown T) (ks_Mo_thrown T) ⟨by decide, by decide, by rfl⟩ (rv_Mo hK hw rfl) rfl (Nat.le_of_ble_eq_true rfl) ⟨Nat.le_trans (by decide) hRm.1, Nat.le_trans (by decide) hRm.2⟩ hC d_La_law_191 (fun v9 M9 r9 H locs hw hp => ?_) (fun _ _ _ _ _ _ _ _ hp => hp.elim)
  obtain ⟨rfl, hM9, hr9⟩ := hp
  rw [hM9, hr9] at hw
  refine lv_iload hx hb d_La_law_194 (lv_at hl 1 rfl) ?_
  refine lv_icmp_eq hx hb d_La_law_196 rfl (fun h196 => ?_) (fun h196 => absurd ht9 h196)
  refine lv_iload hx hb d_La_law_201 (lv_at hl 1 rfl) ?_
  refine lv_if_ne hx hb d_La_law_203 rfl (fun h203 => ?_) (fun h203 => ?_)
  · skip
    refine lv_goto hx hb d_La_law_218 rfl ?_
    exact k _ _ _ _ _ _ hi9 (gv_loc hl [2, 3, 4, 5, 6] rfl) hw
  · skip
    refine lv_aload_n hx hb d_La_law_206 rfl (lv_at hl 3 rfl) ?_
    refine lv_iconst (v := 0) hx hb d_La_law_207 (by decide) ?_
    refine ga_out hx hb hK hw rfl (gi_in0 (n := 0) (by decide) (by decide)) d_La_law_208 ?_
    refine lv_iload hx hb d_La_law_209 (lv_at hl 0 rfl) ?_
    refine lv_i2l hx hb d_La_law_211 rfl ?_
    refine W.lcmp hx hb d_La_law_212 ?_
    refine lv_if_eq hx hb d_La_law_213 rfl (fun h213 => ?_) (fun h213 => absurd ((lg_cmp_eq _ _).mpr (he9 h203)) h213)
    refine lv_goto hx hb d_La_law_218 rfl ?_
    exact k _ _ _ _ _ _ hi9 (gv_loc hl [2, 3, 4, 5, 6] rfl) hw
set_option maxHeartbeats 4000000 in
set_option maxRecDepth 100000 in
theorem w_element {p : Program} {l : Launch} {e : Env} {R : Room} {s0 : State} {m : MethodId} {args : Array Value} {below : List Frame} {meth : Method} {c : Code} {H : Heap} {locs : List Loc} {cells slots : Nat} {Q : State → Prop} {D : va_G} {aC : Nat → ClassId} {b L : Nat} {xs : Nat → Int32} {i : Int32} {ls : Array Slot} {M : gMem} {r : gRef} {ow : Int64} {I : gMem → gRef → Prop} (B : gB s0 D aC p e s0 m meth c R_La code 7 ret) (hX : va_X b L xs s0 s0.heap) (hbl : b < s0.heap.size) (hRm : 16 ≤ R.frames ∧ 604 ≤ R.locals) (hC : cells + 1 ≤ R.cells ∧ slots + 6 ≤ R.slots) (h1 : vp_in (i + 1) L) (h2 : vp_in (i + 2) L) (hl : lv_has ls 7 [(4, .int i), (3, .ref (s0.heap.size + 401)), (2, .ref (s0.heap.size + 383)), (1, .ref (s0.heap.size + 0)), (0, .ref b)]) (hw : gWd s0 D aC M r ow H locs) {pA : Int32 → gMem → gRef → Int64 → Prop} {pB : Int32 → Int64 → Option Value → gMem → gRef → Prop} {fr lo : Nat} (hA : gLt l s0 D aC y_La_element (Cond.codeWith y_La_element b_La_element 5 (some .int) [(0, 10, 13, 25), (0, 10, 17, 13)]) 15 580 [.ref (s0.heap.size + 0), .int (xs (i + 1).toNatClampNeg), .int (xs (i + 2).toNatClampNeg), .ref (s0.heap.size + 401)] M r ow pA) (hRB : fr + 1 ≤ 16 ∧ 8 + (5 + 11) + lo ≤ 604) (hB : ∀ v M1 r1 ow1, pA v M1 r1 ow1 → gMet l s0 D aC y_Mo_element (Cond.code y_Mo_element b_Mo_element 5 (some .int)) fr lo 0 0 [.ref (s0.heap.size + 383), .int (xs (i + 1).toNatClampNeg), .int (xs (i + 2).toNatClampNeg)] M1 r1 ow1 (pB v ow1) (fun _ _ _ => False)) (hT : ∀ M r ow, gMet l s0 D aC y_Mo_thrown (Cond.code y_Mo_thrown b_Mo_thrown 1 (some .int)) 0 0 0 0 [.ref (s0.heap.size + 383)] M r ow (fun v M1 r1 => v = some (.int (M 100 0)) ∧ M1 = M ∧ r1 = r) (fun _ _ _ => False)) (hE : ∀ v ow1 w M2 r2, pB v ow1 w M2 r2 → ∃ a, w = some (.int a) ∧ M2 100 0 = v ∧ (v = 0 → ow1 = a.toInt64) ∧ I M2 r2) (k : ∀ M r ow H locs ls, I M r → lv_has ls 7 [(4, .int i), (3, .ref (s0.heap.size + 401)), (2, .ref (s0.heap.size + 383)), (1, .ref (s0.heap.size + 0)), (0, .ref b)] → gWd s0 D aC M r ow H locs → W p l e R s0 m args below meth c H locs (cells + 1) (slots + 6) Q (F0 m 669 ls [])) : W p l e R s0 m args below meth c H locs cells slots Q (F0 m 247 ls []) := by
  have hx := B.1
  have hb := B.2.1
  have hown := B.2.2.2.2.2.1
  have T := B.2.2.2.2.2.2.1
  have hK := B.2.2.2.2.2.2.2.1
  have hbA : ¬ (fun q => s0.heap.size ≤ q) b := Nat.not_le.mpr hbl
  refine lv_aload_n hx hb d_La_law_247 rfl (lv_at hl 3 rfl) ?_
  refine lv_aload_n hx hb d_La_law_248 rfl (lv_at hl 4 rfl) ?_
  refine lv_iload hx hb d_La_law_249 (lv_at hl 0 rfl) ?_
  refine lv_iconst (v := 1) hx hb d_La_law_251 (by decide) ?_
  refine lv_iadd hx hb d_La_law_252 ?_
  refine va_sld hx hb hX hbl hbA hw.2 h1 d_La_law_253 ?_
  refine lv_aload_n hx hb d_La_law_254 rfl (lv_at hl 4 rfl) ?_
  refine lv_iload hx hb d_La_law_255 (lv_at hl 0 rfl) ?_
  refine lv_iconst (v := 2) hx hb d_La_law_257 (by decide) ?_
  refine lv_iadd hx hb d_La_law_258 ?_
  refine va_sld hx hb hX hbl hbA hw.2 h2 d_La_law_259 ?_
  refine lv_aload_n hx hb d_La_law_260 rfl (lv_at hl 1 rfl) ?_
  refine gl_call (As := [.ref (s0.heap.size + 0), .int (xs (i + 1).toNatClampNeg), .int (xs (i + 2).toNatClampNeg), .ref (s0.heap.size + 401)]) B hl.1 hw hA (kd_La_element T) (ki_La T) (km_La_76 T) (kt_La_element T) ⟨by decide, by decide, by rfl⟩ rfl (Nat.le_of_ble_eq_true rfl) ⟨hRm.1, Nat.le_trans (by decide) hRm.2⟩ hC d_La_law_261 (fun v M1 r1 ow1 H locs hw hp => ?_)
  refine lv_istore hx hb d_La_law_264 hl (by decide) rfl (fun ls hl => ?_)
  refine lv_aload_n hx hb d_La_law_266 rfl (lv_at hl 3 rfl) ?_
  refine lv_aload_n hx hb d_La_law_267 rfl (lv_at hl 5 rfl) ?_
  refine lv_iload hx hb d_La_law_268 (lv_at hl 1 rfl) ?_
  refine lv_iconst (v := 1) hx hb d_La_law_270 (by decide) ?_
  refine lv_iadd hx hb d_La_law_271 ?_
  refine va_sld hx hb hX hbl hbA hw.2 h1 d_La_law_272 ?_
  refine lv_aload_n hx hb d_La_law_273 rfl (lv_at hl 5 rfl) ?_
  refine lv_iload hx hb d_La_law_274 (lv_at hl 1 rfl) ?_
  refine lv_iconst (v := 2) hx hb d_La_law_276 (by decide) ?_
  refine lv_iadd hx hb d_La_law_277 ?_
  refine va_sld hx hb hX hbl hbA hw.2 h2 d_La_law_278 ?_
  refine gy_V (As := [.int (xs (i + 1).toNatClampNeg), .int (xs (i + 2).toNatClampNeg)]) B hl.1 hw (hB _ _ _ _ hp) (kd_Mo_element T) (ki_Mo T) (km_La_79 T) (ka_Mo_element T) (ks_Mo_element T) ⟨by decide, by decide, by rfl⟩ (rv_Mo hK hw rfl) rfl (Nat.le_of_ble_eq_true rfl) ⟨Nat.le_trans hRB.1 hRm.1, Nat.le_trans hRB.2 hRm.2⟩ hC d_La_law_279 (fun v9 M9 r9 H locs hw hp => ?_) (fun _ _ _ _ _ _ _ _ hp => hp.elim)
  obtain ⟨av9, rfl, ht9, he9, hi9⟩ := hE _ _ _ _ _ hp
  refine lv_istore hx hb d_La_law_282 hl (by decide) rfl (fun ls hl => ?_)
  refine lv_aload_n hx hb d_La_law_284 rfl (lv_at hl 4 rfl) ?_
  refine gy_V (As := []) B hl.1 hw (hT _ _ _) (kd_Mo_thrown T) (ki_Mo T) (km_La_57 T) (ka_Mo_thrown T) (ks_Mo_thrown T) ⟨by decide, by decide, by rfl⟩ (rv_Mo hK hw rfl) rfl (Nat.le_of_ble_eq_true rfl) ⟨Nat.le_trans (by decide) hRm.1, Nat.le_trans (by decide) hRm.2⟩ hC d_La_law_285 (fun v9 M9 r9 H locs hw hp => ?_) (fun _ _ _ _ _ _ _ _ hp => hp.elim)
  obtain ⟨rfl, hM9, hr9⟩ := hp
  rw [hM9, hr9] at hw
  refine lv_iload hx hb d_La_law_288 (lv_at hl 1 rfl) ?_
  refine lv_icmp_eq hx hb d_La_law_290 rfl (fun h290 => ?_) (fun h290 => absurd ht9 h290)
  refine lv_iload hx hb d_La_law_295 (lv_at hl 1 rfl) ?_
  refine lv_if_ne hx hb d_La_law_297 rfl (fun h297 => ?_) (fun h297 => ?_)
  · skip
    refine lv_goto hx hb d_La_law_312 rfl ?_
    exact k _ _ _ _ _ _ hi9 (gv_loc hl [2, 3, 4, 5, 6] rfl) hw
  · skip
    refine lv_aload_n hx hb d_La_law_300 rfl (lv_at hl 3 rfl) ?_
    refine lv_iconst (v := 0) hx hb d_La_law_301 (by decide) ?_
    refine ga_out hx hb hK hw rfl (gi_in0 (n := 0) (by decide) (by decide)) d_La_law_302 ?_
    refine lv_iload hx hb d_La_law_303 (lv_at hl 0 rfl) ?_
    refine lv_i2l hx hb d_La_law_305 rfl ?_
    refine W.lcmp hx hb d_La_law_306 ?_
    refine lv_if_eq hx hb d_La_law_307 rfl (fun h307 => ?_) (fun h307 => absurd ((lg_cmp_eq _ _).mpr (he9 h297)) h307)
    refine lv_goto hx hb d_La_law_312 rfl ?_
    exact k _ _ _ _ _ _ hi9 (gv_loc hl [2, 3, 4, 5, 6] rfl) hw
set_option maxHeartbeats 4000000 in
set_option maxRecDepth 100000 in
theorem w_name {p : Program} {l : Launch} {e : Env} {R : Room} {s0 : State} {m : MethodId} {args : Array Value} {below : List Frame} {meth : Method} {c : Code} {H : Heap} {locs : List Loc} {cells slots : Nat} {Q : State → Prop} {D : va_G} {aC : Nat → ClassId} {b L : Nat} {xs : Nat → Int32} {i : Int32} {ls : Array Slot} {M : gMem} {r : gRef} {ow : Int64} {I : gMem → gRef → Prop} (B : gB s0 D aC p e s0 m meth c R_La code 7 ret) (hX : va_X b L xs s0 s0.heap) (hbl : b < s0.heap.size) (hRm : 16 ≤ R.frames ∧ 604 ≤ R.locals) (hC : cells + 1 ≤ R.cells ∧ slots + 6 ≤ R.slots) (h1 : vp_in (i + 1) L) (h2 : vp_in (i + 2) L) (hl : lv_has ls 7 [(4, .int i), (3, .ref (s0.heap.size + 401)), (2, .ref (s0.heap.size + 383)), (1, .ref (s0.heap.size + 0)), (0, .ref b)]) (hw : gWd s0 D aC M r ow H locs) {pA : Int32 → gMem → gRef → Int64 → Prop} {pB : Int32 → Int64 → Option Value → gMem → gRef → Prop} {fr lo : Nat} (hA : gLt l s0 D aC y_La_name (Cond.codeWith y_La_name b_La_name 5 (some .int) [(0, 10, 13, 25)]) 15 580 [.ref (s0.heap.size + 0), .int (xs (i + 1).toNatClampNeg), .int (xs (i + 2).toNatClampNeg), .ref (s0.heap.size + 401)] M r ow pA) (hRB : fr + 1 ≤ 16 ∧ 8 + (3 + 11) + lo ≤ 604) (hB : ∀ v M1 r1 ow1, pA v M1 r1 ow1 → gMet l s0 D aC y_Mo_name (Cond.code y_Mo_name b_Mo_name 3 (some .char)) fr lo 0 0 [.ref (s0.heap.size + 383), .int (xs (i + 1).toNatClampNeg), .int (xs (i + 2).toNatClampNeg)] M1 r1 ow1 (pB v ow1) (fun _ _ _ => False)) (hT : ∀ M r ow, gMet l s0 D aC y_Mo_thrown (Cond.code y_Mo_thrown b_Mo_thrown 1 (some .int)) 0 0 0 0 [.ref (s0.heap.size + 383)] M r ow (fun v M1 r1 => v = some (.int (M 100 0)) ∧ M1 = M ∧ r1 = r) (fun _ _ _ => False)) (hE : ∀ v ow1 w M2 r2, pB v ow1 w M2 r2 → ∃ a, w = some (.int a) ∧ M2 100 0 = v ∧ (v = 0 → ow1 = a.toInt64) ∧ I M2 r2) (k : ∀ M r ow H locs ls, I M r → lv_has ls 7 [(4, .int i), (3, .ref (s0.heap.size + 401)), (2, .ref (s0.heap.size + 383)), (1, .ref (s0.heap.size + 0)), (0, .ref b)] → gWd s0 D aC M r ow H locs → W p l e R s0 m args below meth c H locs (cells + 1) (slots + 6) Q (F0 m 669 ls [])) : W p l e R s0 m args below meth c H locs cells slots Q (F0 m 315 ls []) := by
  have hx := B.1
  have hb := B.2.1
  have hown := B.2.2.2.2.2.1
  have T := B.2.2.2.2.2.2.1
  have hK := B.2.2.2.2.2.2.2.1
  have hbA : ¬ (fun q => s0.heap.size ≤ q) b := Nat.not_le.mpr hbl
  refine lv_aload_n hx hb d_La_law_315 rfl (lv_at hl 3 rfl) ?_
  refine lv_aload_n hx hb d_La_law_316 rfl (lv_at hl 4 rfl) ?_
  refine lv_iload hx hb d_La_law_317 (lv_at hl 0 rfl) ?_
  refine lv_iconst (v := 1) hx hb d_La_law_319 (by decide) ?_
  refine lv_iadd hx hb d_La_law_320 ?_
  refine va_sld hx hb hX hbl hbA hw.2 h1 d_La_law_321 ?_
  refine lv_aload_n hx hb d_La_law_322 rfl (lv_at hl 4 rfl) ?_
  refine lv_iload hx hb d_La_law_323 (lv_at hl 0 rfl) ?_
  refine lv_iconst (v := 2) hx hb d_La_law_325 (by decide) ?_
  refine lv_iadd hx hb d_La_law_326 ?_
  refine va_sld hx hb hX hbl hbA hw.2 h2 d_La_law_327 ?_
  refine lv_aload_n hx hb d_La_law_328 rfl (lv_at hl 1 rfl) ?_
  refine gl_call (As := [.ref (s0.heap.size + 0), .int (xs (i + 1).toNatClampNeg), .int (xs (i + 2).toNatClampNeg), .ref (s0.heap.size + 401)]) B hl.1 hw hA (kd_La_name T) (ki_La T) (km_La_80 T) (kt_La_name T) ⟨by decide, by decide, by rfl⟩ rfl (Nat.le_of_ble_eq_true rfl) ⟨hRm.1, Nat.le_trans (by decide) hRm.2⟩ hC d_La_law_329 (fun v M1 r1 ow1 H locs hw hp => ?_)
  refine lv_istore hx hb d_La_law_332 hl (by decide) rfl (fun ls hl => ?_)
  refine lv_aload_n hx hb d_La_law_334 rfl (lv_at hl 3 rfl) ?_
  refine lv_aload_n hx hb d_La_law_335 rfl (lv_at hl 5 rfl) ?_
  refine lv_iload hx hb d_La_law_336 (lv_at hl 1 rfl) ?_
  refine lv_iconst (v := 1) hx hb d_La_law_338 (by decide) ?_
  refine lv_iadd hx hb d_La_law_339 ?_
  refine va_sld hx hb hX hbl hbA hw.2 h1 d_La_law_340 ?_
  refine lv_aload_n hx hb d_La_law_341 rfl (lv_at hl 5 rfl) ?_
  refine lv_iload hx hb d_La_law_342 (lv_at hl 1 rfl) ?_
  refine lv_iconst (v := 2) hx hb d_La_law_344 (by decide) ?_
  refine lv_iadd hx hb d_La_law_345 ?_
  refine va_sld hx hb hX hbl hbA hw.2 h2 d_La_law_346 ?_
  refine gy_V (As := [.int (xs (i + 1).toNatClampNeg), .int (xs (i + 2).toNatClampNeg)]) B hl.1 hw (hB _ _ _ _ hp) (kd_Mo_name T) (ki_Mo T) (km_La_82 T) (ka_Mo_name T) (ks_Mo_name T) ⟨by decide, by decide, by rfl⟩ (rv_Mo hK hw rfl) rfl (Nat.le_of_ble_eq_true rfl) ⟨Nat.le_trans hRB.1 hRm.1, Nat.le_trans hRB.2 hRm.2⟩ hC d_La_law_347 (fun v9 M9 r9 H locs hw hp => ?_) (fun _ _ _ _ _ _ _ _ hp => hp.elim)
  obtain ⟨av9, rfl, ht9, he9, hi9⟩ := hE _ _ _ _ _ hp
  refine lv_istore hx hb d_La_law_350 hl (by decide) rfl (fun ls hl => ?_)
  refine lv_aload_n hx hb d_La_law_352 rfl (lv_at hl 4 rfl) ?_
  refine gy_V (As := []) B hl.1 hw (hT _ _ _) (kd_Mo_thrown T) (ki_Mo T) (km_La_57 T) (ka_Mo_thrown T) (ks_Mo_thrown T) ⟨by decide, by decide, by rfl⟩ (rv_Mo hK hw rfl) rfl (Nat.le_of_ble_eq_true rfl) ⟨Nat.le_trans (by decide) hRm.1, Nat.le_trans (by decide) hRm.2⟩ hC d_La_law_353 (fun v9 M9 r9 H locs hw hp => ?_) (fun _ _ _ _ _ _ _ _ hp => hp.elim)
  obtain ⟨rfl, hM9, hr9⟩ := hp
  rw [hM9, hr9] at hw
  refine lv_iload hx hb d_La_law_356 (lv_at hl 1 rfl) ?_
  refine lv_icmp_eq hx hb d_La_law_358 rfl (fun h358 => ?_) (fun h358 => absurd ht9 h358)
  refine lv_iload hx hb d_La_law_363 (lv_at hl 1 rfl) ?_
  refine lv_if_ne hx hb d_La_law_365 rfl (fun h365 => ?_) (fun h365 => ?_)
  · skip
    refine lv_goto hx hb d_La_law_380 rfl ?_
    exact k _ _ _ _ _ _ hi9 (gv_loc hl [2, 3, 4, 5, 6] rfl) hw
  · skip
    refine lv_aload_n hx hb d_La_law_368 rfl (lv_at hl 3 rfl) ?_
    refine lv_iconst (v := 0) hx hb d_La_law_369 (by decide) ?_
    refine ga_out hx hb hK hw rfl (gi_in0 (n := 0) (by decide) (by decide)) d_La_law_370 ?_
    refine lv_iload hx hb d_La_law_371 (lv_at hl 0 rfl) ?_
    refine lv_i2l hx hb d_La_law_373 rfl ?_
    refine W.lcmp hx hb d_La_law_374 ?_
    refine lv_if_eq hx hb d_La_law_375 rfl (fun h375 => ?_) (fun h375 => absurd ((lg_cmp_eq _ _).mpr (he9 h365)) h375)
    refine lv_goto hx hb d_La_law_380 rfl ?_
    exact k _ _ _ _ _ _ hi9 (gv_loc hl [2, 3, 4, 5, 6] rfl) hw
set_option maxHeartbeats 4000000 in
set_option maxRecDepth 100000 in
theorem w_content {p : Program} {l : Launch} {e : Env} {R : Room} {s0 : State} {m : MethodId} {args : Array Value} {below : List Frame} {meth : Method} {c : Code} {H : Heap} {locs : List Loc} {cells slots : Nat} {Q : State → Prop} {D : va_G} {aC : Nat → ClassId} {b L : Nat} {xs : Nat → Int32} {i : Int32} {ls : Array Slot} {M : gMem} {r : gRef} {ow : Int64} {I : gMem → gRef → Prop} (B : gB s0 D aC p e s0 m meth c R_La code 7 ret) (hX : va_X b L xs s0 s0.heap) (hbl : b < s0.heap.size) (hRm : 16 ≤ R.frames ∧ 604 ≤ R.locals) (hC : cells + 1 ≤ R.cells ∧ slots + 6 ≤ R.slots) (h1 : vp_in (i + 1) L) (h2 : vp_in (i + 2) L) (hl : lv_has ls 7 [(4, .int i), (3, .ref (s0.heap.size + 401)), (2, .ref (s0.heap.size + 383)), (1, .ref (s0.heap.size + 0)), (0, .ref b)]) (hw : gWd s0 D aC M r ow H locs) {pA : Int32 → gMem → gRef → Int64 → Prop} {pB : Int32 → Int64 → Option Value → gMem → gRef → Prop} {fr lo : Nat} (hA : gLt l s0 D aC y_La_content (Cond.codeWith y_La_content b_La_content 5 (some .int) [(0, 10, 13, 25)]) 15 580 [.ref (s0.heap.size + 0), .int (xs (i + 1).toNatClampNeg), .int (xs (i + 2).toNatClampNeg), .ref (s0.heap.size + 401)] M r ow pA) (hRB : fr + 1 ≤ 16 ∧ 8 + (3 + 11) + lo ≤ 604) (hB : ∀ v M1 r1 ow1, pA v M1 r1 ow1 → gMet l s0 D aC y_Mo_content (Cond.code y_Mo_content b_Mo_content 3 (some .char)) fr lo 0 0 [.ref (s0.heap.size + 383), .int (xs (i + 1).toNatClampNeg), .int (xs (i + 2).toNatClampNeg)] M1 r1 ow1 (pB v ow1) (fun _ _ _ => False)) (hT : ∀ M r ow, gMet l s0 D aC y_Mo_thrown (Cond.code y_Mo_thrown b_Mo_thrown 1 (some .int)) 0 0 0 0 [.ref (s0.heap.size + 383)] M r ow (fun v M1 r1 => v = some (.int (M 100 0)) ∧ M1 = M ∧ r1 = r) (fun _ _ _ => False)) (hE : ∀ v ow1 w M2 r2, pB v ow1 w M2 r2 → ∃ a, w = some (.int a) ∧ M2 100 0 = v ∧ (v = 0 → ow1 = a.toInt64) ∧ I M2 r2) (k : ∀ M r ow H locs ls, I M r → lv_has ls 7 [(4, .int i), (3, .ref (s0.heap.size + 401)), (2, .ref (s0.heap.size + 383)), (1, .ref (s0.heap.size + 0)), (0, .ref b)] → gWd s0 D aC M r ow H locs → W p l e R s0 m args below meth c H locs (cells + 1) (slots + 6) Q (F0 m 669 ls [])) : W p l e R s0 m args below meth c H locs cells slots Q (F0 m 383 ls []) := by
  have hx := B.1
  have hb := B.2.1
  have hown := B.2.2.2.2.2.1
  have T := B.2.2.2.2.2.2.1
  have hK := B.2.2.2.2.2.2.2.1
  have hbA : ¬ (fun q => s0.heap.size ≤ q) b := Nat.not_le.mpr hbl
  refine lv_aload_n hx hb d_La_law_383 rfl (lv_at hl 3 rfl) ?_
  refine lv_aload_n hx hb d_La_law_384 rfl (lv_at hl 4 rfl) ?_
  refine lv_iload hx hb d_La_law_385 (lv_at hl 0 rfl) ?_
  refine lv_iconst (v := 1) hx hb d_La_law_387 (by decide) ?_
  refine lv_iadd hx hb d_La_law_388 ?_
  refine va_sld hx hb hX hbl hbA hw.2 h1 d_La_law_389 ?_
  refine lv_aload_n hx hb d_La_law_390 rfl (lv_at hl 4 rfl) ?_
  refine lv_iload hx hb d_La_law_391 (lv_at hl 0 rfl) ?_
  refine lv_iconst (v := 2) hx hb d_La_law_393 (by decide) ?_
  refine lv_iadd hx hb d_La_law_394 ?_
  refine va_sld hx hb hX hbl hbA hw.2 h2 d_La_law_395 ?_
  refine lv_aload_n hx hb d_La_law_396 rfl (lv_at hl 1 rfl) ?_
  refine gl_call (As := [.ref (s0.heap.size + 0), .int (xs (i + 1).toNatClampNeg), .int (xs (i + 2).toNatClampNeg), .ref (s0.heap.size + 401)]) B hl.1 hw hA (kd_La_content T) (ki_La T) (km_La_83 T) (kt_La_content T) ⟨by decide, by decide, by rfl⟩ rfl (Nat.le_of_ble_eq_true rfl) ⟨hRm.1, Nat.le_trans (by decide) hRm.2⟩ hC d_La_law_397 (fun v M1 r1 ow1 H locs hw hp => ?_)
  refine lv_istore hx hb d_La_law_400 hl (by decide) rfl (fun ls hl => ?_)
  refine lv_aload_n hx hb d_La_law_402 rfl (lv_at hl 3 rfl) ?_
  refine lv_aload_n hx hb d_La_law_403 rfl (lv_at hl 5 rfl) ?_
  refine lv_iload hx hb d_La_law_404 (lv_at hl 1 rfl) ?_
  refine lv_iconst (v := 1) hx hb d_La_law_406 (by decide) ?_
  refine lv_iadd hx hb d_La_law_407 ?_
  refine va_sld hx hb hX hbl hbA hw.2 h1 d_La_law_408 ?_
  refine lv_aload_n hx hb d_La_law_409 rfl (lv_at hl 5 rfl) ?_
  refine lv_iload hx hb d_La_law_410 (lv_at hl 1 rfl) ?_
  refine lv_iconst (v := 2) hx hb d_La_law_412 (by decide) ?_
  refine lv_iadd hx hb d_La_law_413 ?_
  refine va_sld hx hb hX hbl hbA hw.2 h2 d_La_law_414 ?_
  refine gy_V (As := [.int (xs (i + 1).toNatClampNeg), .int (xs (i + 2).toNatClampNeg)]) B hl.1 hw (hB _ _ _ _ hp) (kd_Mo_content T) (ki_Mo T) (km_La_85 T) (ka_Mo_content T) (ks_Mo_content T) ⟨by decide, by decide, by rfl⟩ (rv_Mo hK hw rfl) rfl (Nat.le_of_ble_eq_true rfl) ⟨Nat.le_trans hRB.1 hRm.1, Nat.le_trans hRB.2 hRm.2⟩ hC d_La_law_415 (fun v9 M9 r9 H locs hw hp => ?_) (fun _ _ _ _ _ _ _ _ hp => hp.elim)
  obtain ⟨av9, rfl, ht9, he9, hi9⟩ := hE _ _ _ _ _ hp
  refine lv_istore hx hb d_La_law_418 hl (by decide) rfl (fun ls hl => ?_)
  refine lv_aload_n hx hb d_La_law_420 rfl (lv_at hl 4 rfl) ?_
  refine gy_V (As := []) B hl.1 hw (hT _ _ _) (kd_Mo_thrown T) (ki_Mo T) (km_La_57 T) (ka_Mo_thrown T) (ks_Mo_thrown T) ⟨by decide, by decide, by rfl⟩ (rv_Mo hK hw rfl) rfl (Nat.le_of_ble_eq_true rfl) ⟨Nat.le_trans (by decide) hRm.1, Nat.le_trans (by decide) hRm.2⟩ hC d_La_law_421 (fun v9 M9 r9 H locs hw hp => ?_) (fun _ _ _ _ _ _ _ _ hp => hp.elim)
  obtain ⟨rfl, hM9, hr9⟩ := hp
  rw [hM9, hr9] at hw
  refine lv_iload hx hb d_La_law_424 (lv_at hl 1 rfl) ?_
  refine lv_icmp_eq hx hb d_La_law_426 rfl (fun h426 => ?_) (fun h426 => absurd ht9 h426)
  refine lv_iload hx hb d_La_law_431 (lv_at hl 1 rfl) ?_
  refine lv_if_ne hx hb d_La_law_433 rfl (fun h433 => ?_) (fun h433 => ?_)
  · skip
    refine lv_goto hx hb d_La_law_448 rfl ?_
    exact k _ _ _ _ _ _ hi9 (gv_loc hl [2, 3, 4, 5, 6] rfl) hw
  · skip
    refine lv_aload_n hx hb d_La_law_436 rfl (lv_at hl 3 rfl) ?_
    refine lv_iconst (v := 0) hx hb d_La_law_437 (by decide) ?_
    refine ga_out hx hb hK hw rfl (gi_in0 (n := 0) (by decide) (by decide)) d_La_law_438 ?_
    refine lv_iload hx hb d_La_law_439 (lv_at hl 0 rfl) ?_
    refine lv_i2l hx hb d_La_law_441 rfl ?_
    refine W.lcmp hx hb d_La_law_442 ?_
    refine lv_if_eq hx hb d_La_law_443 rfl (fun h443 => ?_) (fun h443 => absurd ((lg_cmp_eq _ _).mpr (he9 h433)) h443)
    refine lv_goto hx hb d_La_law_448 rfl ?_
    exact k _ _ _ _ _ _ hi9 (gv_loc hl [2, 3, 4, 5, 6] rfl) hw
set_option maxHeartbeats 4000000 in
set_option maxRecDepth 100000 in
theorem w_space {p : Program} {l : Launch} {e : Env} {R : Room} {s0 : State} {m : MethodId} {args : Array Value} {below : List Frame} {meth : Method} {c : Code} {H : Heap} {locs : List Loc} {cells slots : Nat} {Q : State → Prop} {D : va_G} {aC : Nat → ClassId} {b L : Nat} {xs : Nat → Int32} {i : Int32} {ls : Array Slot} {M : gMem} {r : gRef} {ow : Int64} {I : gMem → gRef → Prop} (B : gB s0 D aC p e s0 m meth c R_La code 7 ret) (hX : va_X b L xs s0 s0.heap) (hbl : b < s0.heap.size) (hRm : 16 ≤ R.frames ∧ 604 ≤ R.locals) (hC : cells + 1 ≤ R.cells ∧ slots + 6 ≤ R.slots) (h1 : vp_in (i + 1) L) (h2 : vp_in (i + 2) L) (hl : lv_has ls 7 [(4, .int i), (3, .ref (s0.heap.size + 401)), (2, .ref (s0.heap.size + 383)), (1, .ref (s0.heap.size + 0)), (0, .ref b)]) (hw : gWd s0 D aC M r ow H locs) {pA : Int32 → gMem → gRef → Int64 → Prop} {pB : Int32 → Int64 → Option Value → gMem → gRef → Prop} {fr lo : Nat} (hA : gLt l s0 D aC y_La_space (Cond.codeWith y_La_space b_La_space 5 (some .int) [(0, 10, 13, 25)]) 15 580 [.ref (s0.heap.size + 0), .int (xs (i + 1).toNatClampNeg), .int (xs (i + 2).toNatClampNeg), .ref (s0.heap.size + 401)] M r ow pA) (hRB : fr + 1 ≤ 16 ∧ 8 + (4 + 11) + lo ≤ 604) (hB : ∀ v M1 r1 ow1, pA v M1 r1 ow1 → gMet l s0 D aC y_Mo_space (Cond.code y_Mo_space b_Mo_space 4 (some .char)) fr lo 0 0 [.ref (s0.heap.size + 383), .int (xs (i + 1).toNatClampNeg), .int (xs (i + 2).toNatClampNeg)] M1 r1 ow1 (pB v ow1) (fun _ _ _ => False)) (hT : ∀ M r ow, gMet l s0 D aC y_Mo_thrown (Cond.code y_Mo_thrown b_Mo_thrown 1 (some .int)) 0 0 0 0 [.ref (s0.heap.size + 383)] M r ow (fun v M1 r1 => v = some (.int (M 100 0)) ∧ M1 = M ∧ r1 = r) (fun _ _ _ => False)) (hE : ∀ v ow1 w M2 r2, pB v ow1 w M2 r2 → ∃ a, w = some (.int a) ∧ M2 100 0 = v ∧ (v = 0 → ow1 = a.toInt64) ∧ I M2 r2) (k : ∀ M r ow H locs ls, I M r → lv_has ls 7 [(4, .int i), (3, .ref (s0.heap.size + 401)), (2, .ref (s0.heap.size + 383)), (1, .ref (s0.heap.size + 0)), (0, .ref b)] → gWd s0 D aC M r ow H locs → W p l e R s0 m args below meth c H locs (cells + 1) (slots + 6) Q (F0 m 669 ls [])) : W p l e R s0 m args below meth c H locs cells slots Q (F0 m 451 ls []) := by
  have hx := B.1
  have hb := B.2.1
  have hown := B.2.2.2.2.2.1
  have T := B.2.2.2.2.2.2.1
  have hK := B.2.2.2.2.2.2.2.1
  have hbA : ¬ (fun q => s0.heap.size ≤ q) b := Nat.not_le.mpr hbl
  refine lv_aload_n hx hb d_La_law_451 rfl (lv_at hl 3 rfl) ?_
  refine lv_aload_n hx hb d_La_law_452 rfl (lv_at hl 4 rfl) ?_
  refine lv_iload hx hb d_La_law_453 (lv_at hl 0 rfl) ?_
  refine lv_iconst (v := 1) hx hb d_La_law_455 (by decide) ?_
  refine lv_iadd hx hb d_La_law_456 ?_
  refine va_sld hx hb hX hbl hbA hw.2 h1 d_La_law_457 ?_
  refine lv_aload_n hx hb d_La_law_458 rfl (lv_at hl 4 rfl) ?_
  refine lv_iload hx hb d_La_law_459 (lv_at hl 0 rfl) ?_
  refine lv_iconst (v := 2) hx hb d_La_law_461 (by decide) ?_
  refine lv_iadd hx hb d_La_law_462 ?_
  refine va_sld hx hb hX hbl hbA hw.2 h2 d_La_law_463 ?_
  refine lv_aload_n hx hb d_La_law_464 rfl (lv_at hl 1 rfl) ?_
  refine gl_call (As := [.ref (s0.heap.size + 0), .int (xs (i + 1).toNatClampNeg), .int (xs (i + 2).toNatClampNeg), .ref (s0.heap.size + 401)]) B hl.1 hw hA (kd_La_space T) (ki_La T) (km_La_86 T) (kt_La_space T) ⟨by decide, by decide, by rfl⟩ rfl (Nat.le_of_ble_eq_true rfl) ⟨hRm.1, Nat.le_trans (by decide) hRm.2⟩ hC d_La_law_465 (fun v M1 r1 ow1 H locs hw hp => ?_)
  refine lv_istore hx hb d_La_law_468 hl (by decide) rfl (fun ls hl => ?_)
  refine lv_aload_n hx hb d_La_law_470 rfl (lv_at hl 3 rfl) ?_
  refine lv_aload_n hx hb d_La_law_471 rfl (lv_at hl 5 rfl) ?_
  refine lv_iload hx hb d_La_law_472 (lv_at hl 1 rfl) ?_
  refine lv_iconst (v := 1) hx hb d_La_law_474 (by decide) ?_
  refine lv_iadd hx hb d_La_law_475 ?_
  refine va_sld hx hb hX hbl hbA hw.2 h1 d_La_law_476 ?_
  refine lv_aload_n hx hb d_La_law_477 rfl (lv_at hl 5 rfl) ?_
  refine lv_iload hx hb d_La_law_478 (lv_at hl 1 rfl) ?_
  refine lv_iconst (v := 2) hx hb d_La_law_480 (by decide) ?_
  refine lv_iadd hx hb d_La_law_481 ?_
  refine va_sld hx hb hX hbl hbA hw.2 h2 d_La_law_482 ?_
  refine gy_V (As := [.int (xs (i + 1).toNatClampNeg), .int (xs (i + 2).toNatClampNeg)]) B hl.1 hw (hB _ _ _ _ hp) (kd_Mo_space T) (ki_Mo T) (km_La_88 T) (ka_Mo_space T) (ks_Mo_space T) ⟨by decide, by decide, by rfl⟩ (rv_Mo hK hw rfl) rfl (Nat.le_of_ble_eq_true rfl) ⟨Nat.le_trans hRB.1 hRm.1, Nat.le_trans hRB.2 hRm.2⟩ hC d_La_law_483 (fun v9 M9 r9 H locs hw hp => ?_) (fun _ _ _ _ _ _ _ _ hp => hp.elim)
  obtain ⟨av9, rfl, ht9, he9, hi9⟩ := hE _ _ _ _ _ hp
  refine lv_istore hx hb d_La_law_486 hl (by decide) rfl (fun ls hl => ?_)
  refine lv_aload_n hx hb d_La_law_488 rfl (lv_at hl 4 rfl) ?_
  refine gy_V (As := []) B hl.1 hw (hT _ _ _) (kd_Mo_thrown T) (ki_Mo T) (km_La_57 T) (ka_Mo_thrown T) (ks_Mo_thrown T) ⟨by decide, by decide, by rfl⟩ (rv_Mo hK hw rfl) rfl (Nat.le_of_ble_eq_true rfl) ⟨Nat.le_trans (by decide) hRm.1, Nat.le_trans (by decide) hRm.2⟩ hC d_La_law_489 (fun v9 M9 r9 H locs hw hp => ?_) (fun _ _ _ _ _ _ _ _ hp => hp.elim)
  obtain ⟨rfl, hM9, hr9⟩ := hp
  rw [hM9, hr9] at hw
  refine lv_iload hx hb d_La_law_492 (lv_at hl 1 rfl) ?_
  refine lv_icmp_eq hx hb d_La_law_494 rfl (fun h494 => ?_) (fun h494 => absurd ht9 h494)
  refine lv_iload hx hb d_La_law_499 (lv_at hl 1 rfl) ?_
  refine lv_if_ne hx hb d_La_law_501 rfl (fun h501 => ?_) (fun h501 => ?_)
  · skip
    refine lv_goto hx hb d_La_law_516 rfl ?_
    exact k _ _ _ _ _ _ hi9 (gv_loc hl [2, 3, 4, 5, 6] rfl) hw
  · skip
    refine lv_aload_n hx hb d_La_law_504 rfl (lv_at hl 3 rfl) ?_
    refine lv_iconst (v := 0) hx hb d_La_law_505 (by decide) ?_
    refine ga_out hx hb hK hw rfl (gi_in0 (n := 0) (by decide) (by decide)) d_La_law_506 ?_
    refine lv_iload hx hb d_La_law_507 (lv_at hl 0 rfl) ?_
    refine lv_i2l hx hb d_La_law_509 rfl ?_
    refine W.lcmp hx hb d_La_law_510 ?_
    refine lv_if_eq hx hb d_La_law_511 rfl (fun h511 => ?_) (fun h511 => absurd ((lg_cmp_eq _ _).mpr (he9 h501)) h511)
    refine lv_goto hx hb d_La_law_516 rfl ?_
    exact k _ _ _ _ _ _ hi9 (gv_loc hl [2, 3, 4, 5, 6] rfl) hw
set_option maxHeartbeats 4000000 in
set_option maxRecDepth 100000 in
theorem w_formAt {p : Program} {l : Launch} {e : Env} {R : Room} {s0 : State} {m : MethodId} {args : Array Value} {below : List Frame} {meth : Method} {c : Code} {H : Heap} {locs : List Loc} {cells slots : Nat} {Q : State → Prop} {D : va_G} {aC : Nat → ClassId} {b L : Nat} {xs : Nat → Int32} {i : Int32} {ls : Array Slot} {M : gMem} {r : gRef} {ow : Int64} {I : gMem → gRef → Prop} (B : gB s0 D aC p e s0 m meth c R_La code 7 ret) (hX : va_X b L xs s0 s0.heap) (hbl : b < s0.heap.size) (hRm : 16 ≤ R.frames ∧ 604 ≤ R.locals) (hC : cells + 1 ≤ R.cells ∧ slots + 6 ≤ R.slots) (h1 : vp_in (i + 1) L) (h2 : vp_in (i + 2) L) (hl : lv_has ls 7 [(4, .int i), (3, .ref (s0.heap.size + 401)), (2, .ref (s0.heap.size + 383)), (1, .ref (s0.heap.size + 0)), (0, .ref b)]) (hw : gWd s0 D aC M r ow H locs) {pA : Int32 → gMem → gRef → Int64 → Prop} {pB : Int32 → Int64 → Option Value → gMem → gRef → Prop} {fr lo : Nat} (hA : gLt l s0 D aC y_La_formAt (Cond.codeWith y_La_formAt b_La_formAt 4 (some .int) [(0, 9, 12, 25)]) 15 580 [.ref (s0.heap.size + 0), .int (xs (i + 1).toNatClampNeg), .ref (s0.heap.size + 401)] M r ow pA) (hRB : fr + 1 ≤ 16 ∧ 8 + (2 + 11) + lo ≤ 604) (hB : ∀ v M1 r1 ow1, pA v M1 r1 ow1 → gMet l s0 D aC y_Mo_formAt (Cond.code y_Mo_formAt b_Mo_formAt 2 (some .char)) fr lo 0 0 [.ref (s0.heap.size + 383), .int (xs (i + 1).toNatClampNeg)] M1 r1 ow1 (pB v ow1) (fun _ _ _ => False)) (hT : ∀ M r ow, gMet l s0 D aC y_Mo_thrown (Cond.code y_Mo_thrown b_Mo_thrown 1 (some .int)) 0 0 0 0 [.ref (s0.heap.size + 383)] M r ow (fun v M1 r1 => v = some (.int (M 100 0)) ∧ M1 = M ∧ r1 = r) (fun _ _ _ => False)) (hE : ∀ v ow1 w M2 r2, pB v ow1 w M2 r2 → ∃ a, w = some (.int a) ∧ M2 100 0 = v ∧ (v = 0 → ow1 = a.toInt64) ∧ I M2 r2) (k : ∀ M r ow H locs ls, I M r → lv_has ls 7 [(4, .int i), (3, .ref (s0.heap.size + 401)), (2, .ref (s0.heap.size + 383)), (1, .ref (s0.heap.size + 0)), (0, .ref b)] → gWd s0 D aC M r ow H locs → W p l e R s0 m args below meth c H locs (cells + 1) (slots + 6) Q (F0 m 669 ls [])) : W p l e R s0 m args below meth c H locs cells slots Q (F0 m 532 ls []) := by
  have hx := B.1
  have hb := B.2.1
  have hown := B.2.2.2.2.2.1
  have T := B.2.2.2.2.2.2.1
  have hK := B.2.2.2.2.2.2.2.1
  have hbA : ¬ (fun q => s0.heap.size ≤ q) b := Nat.not_le.mpr hbl
  refine lv_aload_n hx hb d_La_law_532 rfl (lv_at hl 3 rfl) ?_
  refine lv_aload_n hx hb d_La_law_533 rfl (lv_at hl 4 rfl) ?_
  refine lv_iload hx hb d_La_law_534 (lv_at hl 0 rfl) ?_
  refine lv_iconst (v := 1) hx hb d_La_law_536 (by decide) ?_
  refine lv_iadd hx hb d_La_law_537 ?_
  refine va_sld hx hb hX hbl hbA hw.2 h1 d_La_law_538 ?_
  refine lv_aload_n hx hb d_La_law_539 rfl (lv_at hl 1 rfl) ?_
  refine gl_call (As := [.ref (s0.heap.size + 0), .int (xs (i + 1).toNatClampNeg), .ref (s0.heap.size + 401)]) B hl.1 hw hA (kd_La_formAt T) (ki_La T) (km_La_93 T) (kt_La_formAt T) ⟨by decide, by decide, by rfl⟩ rfl (Nat.le_of_ble_eq_true rfl) ⟨hRm.1, Nat.le_trans (by decide) hRm.2⟩ hC d_La_law_540 (fun v M1 r1 ow1 H locs hw hp => ?_)
  refine lv_istore hx hb d_La_law_543 hl (by decide) rfl (fun ls hl => ?_)
  refine lv_aload_n hx hb d_La_law_545 rfl (lv_at hl 3 rfl) ?_
  refine lv_aload_n hx hb d_La_law_546 rfl (lv_at hl 5 rfl) ?_
  refine lv_iload hx hb d_La_law_547 (lv_at hl 1 rfl) ?_
  refine lv_iconst (v := 1) hx hb d_La_law_549 (by decide) ?_
  refine lv_iadd hx hb d_La_law_550 ?_
  refine va_sld hx hb hX hbl hbA hw.2 h1 d_La_law_551 ?_
  refine gy_V (As := [.int (xs (i + 1).toNatClampNeg)]) B hl.1 hw (hB _ _ _ _ hp) (kd_Mo_formAt T) (ki_Mo T) (km_La_96 T) (ka_Mo_formAt T) (ks_Mo_formAt T) ⟨by decide, by decide, by rfl⟩ (rv_Mo hK hw rfl) rfl (Nat.le_of_ble_eq_true rfl) ⟨Nat.le_trans hRB.1 hRm.1, Nat.le_trans hRB.2 hRm.2⟩ hC d_La_law_552 (fun v9 M9 r9 H locs hw hp => ?_) (fun _ _ _ _ _ _ _ _ hp => hp.elim)
  obtain ⟨av9, rfl, ht9, he9, hi9⟩ := hE _ _ _ _ _ hp
  refine lv_istore hx hb d_La_law_555 hl (by decide) rfl (fun ls hl => ?_)
  refine lv_aload_n hx hb d_La_law_557 rfl (lv_at hl 4 rfl) ?_
  refine gy_V (As := []) B hl.1 hw (hT _ _ _) (kd_Mo_thrown T) (ki_Mo T) (km_La_57 T) (ka_Mo_thrown T) (ks_Mo_thrown T) ⟨by decide, by decide, by rfl⟩ (rv_Mo hK hw rfl) rfl (Nat.le_of_ble_eq_true rfl) ⟨Nat.le_trans (by decide) hRm.1, Nat.le_trans (by decide) hRm.2⟩ hC d_La_law_558 (fun v9 M9 r9 H locs hw hp => ?_) (fun _ _ _ _ _ _ _ _ hp => hp.elim)
  obtain ⟨rfl, hM9, hr9⟩ := hp
  rw [hM9, hr9] at hw
  refine lv_iload hx hb d_La_law_561 (lv_at hl 1 rfl) ?_
  refine lv_icmp_eq hx hb d_La_law_563 rfl (fun h563 => ?_) (fun h563 => absurd ht9 h563)
  refine lv_iload hx hb d_La_law_568 (lv_at hl 1 rfl) ?_
  refine lv_if_ne hx hb d_La_law_570 rfl (fun h570 => ?_) (fun h570 => ?_)
  · skip
    refine lv_goto hx hb d_La_law_585 rfl ?_
    exact k _ _ _ _ _ _ hi9 (gv_loc hl [2, 3, 4, 5, 6] rfl) hw
  · skip
    refine lv_aload_n hx hb d_La_law_573 rfl (lv_at hl 3 rfl) ?_
    refine lv_iconst (v := 0) hx hb d_La_law_574 (by decide) ?_
    refine ga_out hx hb hK hw rfl (gi_in0 (n := 0) (by decide) (by decide)) d_La_law_575 ?_
    refine lv_iload hx hb d_La_law_576 (lv_at hl 0 rfl) ?_
    refine lv_i2l hx hb d_La_law_578 rfl ?_
    refine W.lcmp hx hb d_La_law_579 ?_
    refine lv_if_eq hx hb d_La_law_580 rfl (fun h580 => ?_) (fun h580 => absurd ((lg_cmp_eq _ _).mpr (he9 h570)) h580)
    refine lv_goto hx hb d_La_law_585 rfl ?_
    exact k _ _ _ _ _ _ hi9 (gv_loc hl [2, 3, 4, 5, 6] rfl) hw
set_option maxHeartbeats 4000000 in
set_option maxRecDepth 100000 in
theorem w_retype {p : Program} {l : Launch} {e : Env} {R : Room} {s0 : State} {m : MethodId} {args : Array Value} {below : List Frame} {meth : Method} {c : Code} {H : Heap} {locs : List Loc} {cells slots : Nat} {Q : State → Prop} {D : va_G} {aC : Nat → ClassId} {b L : Nat} {xs : Nat → Int32} {i : Int32} {ls : Array Slot} {M : gMem} {r : gRef} {ow : Int64} {I : gMem → gRef → Prop} (B : gB s0 D aC p e s0 m meth c R_La code 7 ret) (hX : va_X b L xs s0 s0.heap) (hbl : b < s0.heap.size) (hRm : 16 ≤ R.frames ∧ 604 ≤ R.locals) (hC : cells + 1 ≤ R.cells ∧ slots + 6 ≤ R.slots) (h1 : vp_in (i + 1) L) (h2 : vp_in (i + 2) L) (hl : lv_has ls 7 [(4, .int i), (3, .ref (s0.heap.size + 401)), (2, .ref (s0.heap.size + 383)), (1, .ref (s0.heap.size + 0)), (0, .ref b)]) (hw : gWd s0 D aC M r ow H locs) {pA : Int32 → gMem → gRef → Int64 → Prop} {pB : Int32 → Int64 → Option Value → gMem → gRef → Prop} {fr lo : Nat} (hA : gLt l s0 D aC y_La_retype (Cond.codeWith y_La_retype b_La_retype 3 (some .int) [(0, 8, 11, 15)]) 15 580 [.ref (s0.heap.size + 0), .ref (s0.heap.size + 401)] M r ow pA) (hRB : fr + 1 ≤ 16 ∧ 8 + (2 + 11) + lo ≤ 604) (hB : ∀ v M1 r1 ow1, pA v M1 r1 ow1 → gMet l s0 D aC y_Mo_retype (Cond.code y_Mo_retype b_Mo_retype 2 (some .int)) fr lo 0 0 [.ref (s0.heap.size + 383)] M1 r1 ow1 (pB v ow1) (fun _ _ _ => False)) (hT : ∀ M r ow, gMet l s0 D aC y_Mo_thrown (Cond.code y_Mo_thrown b_Mo_thrown 1 (some .int)) 0 0 0 0 [.ref (s0.heap.size + 383)] M r ow (fun v M1 r1 => v = some (.int (M 100 0)) ∧ M1 = M ∧ r1 = r) (fun _ _ _ => False)) (hE : ∀ v ow1 w M2 r2, pB v ow1 w M2 r2 → ∃ a, w = some (.int a) ∧ M2 100 0 = v ∧ (v = 0 → ow1 = a.toInt64) ∧ I M2 r2) (k : ∀ M r ow H locs ls, I M r → lv_has ls 7 [(4, .int i), (3, .ref (s0.heap.size + 401)), (2, .ref (s0.heap.size + 383)), (1, .ref (s0.heap.size + 0)), (0, .ref b)] → gWd s0 D aC M r ow H locs → W p l e R s0 m args below meth c H locs (cells + 1) (slots + 6) Q (F0 m 669 ls [])) : W p l e R s0 m args below meth c H locs cells slots Q (F0 m 588 ls []) := by
  have hx := B.1
  have hb := B.2.1
  have hown := B.2.2.2.2.2.1
  have T := B.2.2.2.2.2.2.1
  have hK := B.2.2.2.2.2.2.2.1
  have hbA : ¬ (fun q => s0.heap.size ≤ q) b := Nat.not_le.mpr hbl
  refine lv_aload_n hx hb d_La_law_588 rfl (lv_at hl 3 rfl) ?_
  refine lv_aload_n hx hb d_La_law_589 rfl (lv_at hl 1 rfl) ?_
  refine gl_call (As := [.ref (s0.heap.size + 0), .ref (s0.heap.size + 401)]) B hl.1 hw hA (kd_La_retype T) (ki_La T) (km_La_97 T) (kt_La_retype T) ⟨by decide, by decide, by rfl⟩ rfl (Nat.le_of_ble_eq_true rfl) ⟨hRm.1, Nat.le_trans (by decide) hRm.2⟩ hC d_La_law_590 (fun v M1 r1 ow1 H locs hw hp => ?_)
  refine lv_istore hx hb d_La_law_593 hl (by decide) rfl (fun ls hl => ?_)
  refine lv_aload_n hx hb d_La_law_595 rfl (lv_at hl 3 rfl) ?_
  refine gy_V (As := []) B hl.1 hw (hB _ _ _ _ hp) (kd_Mo_retype T) (ki_Mo T) (km_La_99 T) (ka_Mo_retype T) (ks_Mo_retype T) ⟨by decide, by decide, by rfl⟩ (rv_Mo hK hw rfl) rfl (Nat.le_of_ble_eq_true rfl) ⟨Nat.le_trans hRB.1 hRm.1, Nat.le_trans hRB.2 hRm.2⟩ hC d_La_law_596 (fun v9 M9 r9 H locs hw hp => ?_) (fun _ _ _ _ _ _ _ _ hp => hp.elim)
  obtain ⟨av9, rfl, ht9, he9, hi9⟩ := hE _ _ _ _ _ hp
  refine lv_istore hx hb d_La_law_599 hl (by decide) rfl (fun ls hl => ?_)
  refine lv_aload_n hx hb d_La_law_601 rfl (lv_at hl 4 rfl) ?_
  refine gy_V (As := []) B hl.1 hw (hT _ _ _) (kd_Mo_thrown T) (ki_Mo T) (km_La_57 T) (ka_Mo_thrown T) (ks_Mo_thrown T) ⟨by decide, by decide, by rfl⟩ (rv_Mo hK hw rfl) rfl (Nat.le_of_ble_eq_true rfl) ⟨Nat.le_trans (by decide) hRm.1, Nat.le_trans (by decide) hRm.2⟩ hC d_La_law_602 (fun v9 M9 r9 H locs hw hp => ?_) (fun _ _ _ _ _ _ _ _ hp => hp.elim)
  obtain ⟨rfl, hM9, hr9⟩ := hp
  rw [hM9, hr9] at hw
  refine lv_iload hx hb d_La_law_605 (lv_at hl 1 rfl) ?_
  refine lv_icmp_eq hx hb d_La_law_607 rfl (fun h607 => ?_) (fun h607 => absurd ht9 h607)
  refine lv_iload hx hb d_La_law_612 (lv_at hl 1 rfl) ?_
  refine lv_if_ne hx hb d_La_law_614 rfl (fun h614 => ?_) (fun h614 => ?_)
  · skip
    refine lv_goto hx hb d_La_law_629 rfl ?_
    exact k _ _ _ _ _ _ hi9 (gv_loc hl [2, 3, 4, 5, 6] rfl) hw
  · skip
    refine lv_aload_n hx hb d_La_law_617 rfl (lv_at hl 3 rfl) ?_
    refine lv_iconst (v := 0) hx hb d_La_law_618 (by decide) ?_
    refine ga_out hx hb hK hw rfl (gi_in0 (n := 0) (by decide) (by decide)) d_La_law_619 ?_
    refine lv_iload hx hb d_La_law_620 (lv_at hl 0 rfl) ?_
    refine lv_i2l hx hb d_La_law_622 rfl ?_
    refine W.lcmp hx hb d_La_law_623 ?_
    refine lv_if_eq hx hb d_La_law_624 rfl (fun h624 => ?_) (fun h624 => absurd ((lg_cmp_eq _ _).mpr (he9 h614)) h624)
    refine lv_goto hx hb d_La_law_629 rfl ?_
    exact k _ _ _ _ _ _ hi9 (gv_loc hl [2, 3, 4, 5, 6] rfl) hw
set_option maxHeartbeats 4000000 in
set_option maxRecDepth 100000 in
theorem w_keep {p : Program} {l : Launch} {e : Env} {R : Room} {s0 : State} {m : MethodId} {args : Array Value} {below : List Frame} {meth : Method} {c : Code} {H : Heap} {locs : List Loc} {cells slots : Nat} {Q : State → Prop} {D : va_G} {aC : Nat → ClassId} {b L : Nat} {xs : Nat → Int32} {i : Int32} {ls : Array Slot} {M : gMem} {r : gRef} {ow : Int64} {I : gMem → gRef → Prop} (B : gB s0 D aC p e s0 m meth c R_La code 7 ret) (hX : va_X b L xs s0 s0.heap) (hbl : b < s0.heap.size) (hRm : 16 ≤ R.frames ∧ 604 ≤ R.locals) (hC : cells + 1 ≤ R.cells ∧ slots + 6 ≤ R.slots) (h1 : vp_in (i + 1) L) (h2 : vp_in (i + 2) L) (hl : lv_has ls 7 [(4, .int i), (3, .ref (s0.heap.size + 401)), (2, .ref (s0.heap.size + 383)), (1, .ref (s0.heap.size + 0)), (0, .ref b)]) (hw : gWd s0 D aC M r ow H locs) {pA : Int32 → gMem → gRef → Int64 → Prop} {pB : Int32 → Int64 → Option Value → gMem → gRef → Prop} {fr lo : Nat} (hA : gLt l s0 D aC y_La_keep (Cond.codeWith y_La_keep b_La_keep 2 (some .int) [(0, 4, 7, 15)]) 15 580 [.ref (s0.heap.size + 0)] M r ow pA) (hRB : fr + 1 ≤ 16 ∧ 8 + (2 + 11) + lo ≤ 604) (hB : ∀ v M1 r1 ow1, pA v M1 r1 ow1 → gMet l s0 D aC y_Mo_keep (Cond.code y_Mo_keep b_Mo_keep 2 none) fr lo 0 0 [.ref (s0.heap.size + 383)] M1 r1 ow1 (pB v ow1) (fun _ _ _ => False)) (hT : ∀ M r ow, gMet l s0 D aC y_Mo_thrown (Cond.code y_Mo_thrown b_Mo_thrown 1 (some .int)) 0 0 0 0 [.ref (s0.heap.size + 383)] M r ow (fun v M1 r1 => v = some (.int (M 100 0)) ∧ M1 = M ∧ r1 = r) (fun _ _ _ => False)) (hE : ∀ v ow1 w M2 r2, pB v ow1 w M2 r2 → w = none ∧ M2 100 0 = v ∧ I M2 r2) (k : ∀ M r ow H locs ls, I M r → lv_has ls 7 [(4, .int i), (3, .ref (s0.heap.size + 401)), (2, .ref (s0.heap.size + 383)), (1, .ref (s0.heap.size + 0)), (0, .ref b)] → gWd s0 D aC M r ow H locs → W p l e R s0 m args below meth c H locs (cells + 1) (slots + 6) Q (F0 m 669 ls [])) : W p l e R s0 m args below meth c H locs cells slots Q (F0 m 632 ls []) := by
  have hx := B.1
  have hb := B.2.1
  have hown := B.2.2.2.2.2.1
  have T := B.2.2.2.2.2.2.1
  have hK := B.2.2.2.2.2.2.2.1
  have hbA : ¬ (fun q => s0.heap.size ≤ q) b := Nat.not_le.mpr hbl
  refine lv_aload_n hx hb d_La_law_632 rfl (lv_at hl 3 rfl) ?_
  refine gl_call (As := [.ref (s0.heap.size + 0)]) B hl.1 hw hA (kd_La_keep T) (ki_La T) (km_La_100 T) (kt_La_keep T) ⟨by decide, by decide, by rfl⟩ rfl (Nat.le_of_ble_eq_true rfl) ⟨hRm.1, Nat.le_trans (by decide) hRm.2⟩ hC d_La_law_633 (fun v M1 r1 ow1 H locs hw hp => ?_)
  refine lv_istore hx hb d_La_law_636 hl (by decide) rfl (fun ls hl => ?_)
  refine lv_aload_n hx hb d_La_law_638 rfl (lv_at hl 3 rfl) ?_
  refine gy_V (As := []) B hl.1 hw (hB _ _ _ _ hp) (kd_Mo_keep T) (ki_Mo T) (km_La_103 T) (ka_Mo_keep T) (ks_Mo_keep T) ⟨by decide, by decide, by rfl⟩ (rv_Mo hK hw rfl) rfl (Nat.le_of_ble_eq_true rfl) ⟨Nat.le_trans hRB.1 hRm.1, Nat.le_trans hRB.2 hRm.2⟩ hC d_La_law_639 (fun v9 M9 r9 H locs hw hp => ?_) (fun _ _ _ _ _ _ _ _ hp => hp.elim)
  obtain ⟨rfl, ht9, hi9⟩ := hE _ _ _ _ _ hp
  refine lv_aload_n hx hb d_La_law_642 rfl (lv_at hl 3 rfl) ?_
  refine gy_V (As := []) B hl.1 hw (hT _ _ _) (kd_Mo_thrown T) (ki_Mo T) (km_La_57 T) (ka_Mo_thrown T) (ks_Mo_thrown T) ⟨by decide, by decide, by rfl⟩ (rv_Mo hK hw rfl) rfl (Nat.le_of_ble_eq_true rfl) ⟨Nat.le_trans (by decide) hRm.1, Nat.le_trans (by decide) hRm.2⟩ hC d_La_law_643 (fun v9 M9 r9 H locs hw hp => ?_) (fun _ _ _ _ _ _ _ _ hp => hp.elim)
  obtain ⟨rfl, hM9, hr9⟩ := hp
  rw [hM9, hr9] at hw
  refine lv_iload hx hb d_La_law_646 (lv_at hl 0 rfl) ?_
  refine lv_icmp_eq hx hb d_La_law_648 rfl (fun h648 => ?_) (fun h648 => absurd ht9 h648)
  refine lv_goto hx hb d_La_law_653 rfl ?_
  exact k _ _ _ _ _ _ hi9 (gv_loc hl [1, 2, 3, 4, 5] rfl) hw
set_option maxHeartbeats 4000000 in
set_option maxRecDepth 100000 in
theorem w_wipe {p : Program} {l : Launch} {e : Env} {R : Room} {s0 : State} {m : MethodId} {args : Array Value} {below : List Frame} {meth : Method} {c : Code} {H : Heap} {locs : List Loc} {cells slots : Nat} {Q : State → Prop} {D : va_G} {aC : Nat → ClassId} {b L : Nat} {xs : Nat → Int32} {i : Int32} {ls : Array Slot} {M : gMem} {r : gRef} {ow : Int64} {I : gMem → gRef → Prop} (B : gB s0 D aC p e s0 m meth c R_La code 7 ret) (hX : va_X b L xs s0 s0.heap) (hbl : b < s0.heap.size) (hRm : 16 ≤ R.frames ∧ 604 ≤ R.locals) (hC : cells + 1 ≤ R.cells ∧ slots + 6 ≤ R.slots) (h1 : vp_in (i + 1) L) (h2 : vp_in (i + 2) L) (hl : lv_has ls 7 [(4, .int i), (3, .ref (s0.heap.size + 401)), (2, .ref (s0.heap.size + 383)), (1, .ref (s0.heap.size + 0)), (0, .ref b)]) (hw : gWd s0 D aC M r ow H locs) {pA : Option Value → gMem → gRef → Prop} {pB : Option Value → Option Value → gMem → gRef → Prop} {fr lo fr2 lo2 : Nat} (hRA : fr + 1 ≤ 16 ∧ 8 + (1 + 11) + lo ≤ 604) (hA : gMet l s0 D aC y_MR_wipe (Cond.code y_MR_wipe b_MR_wipe 1 none) fr lo 0 0 [.ref (s0.heap.size + 0)] M r ow pA (fun _ _ _ => False)) (hV : ∀ v M1 r1, pA v M1 r1 → v = none) (hRB : fr2 + 1 ≤ 16 ∧ 8 + (1 + 11) + lo2 ≤ 604) (hB : ∀ v M1 r1, pA v M1 r1 → gMet l s0 D aC y_Mo_wipe (Cond.code y_Mo_wipe b_Mo_wipe 1 none) fr2 lo2 0 0 [.ref (s0.heap.size + 383)] M1 r1 ow (pB v) (fun _ _ _ => False)) (hE : ∀ v w M2 r2, pB v w M2 r2 → v = none ∧ w = none ∧ I M2 r2) (k : ∀ M r ow H locs ls, I M r → lv_has ls 7 [(4, .int i), (3, .ref (s0.heap.size + 401)), (2, .ref (s0.heap.size + 383)), (1, .ref (s0.heap.size + 0)), (0, .ref b)] → gWd s0 D aC M r ow H locs → W p l e R s0 m args below meth c H locs (cells + 1) (slots + 6) Q (F0 m 669 ls [])) : W p l e R s0 m args below meth c H locs cells slots Q (F0 m 166 ls []) := by
  have hx := B.1
  have hb := B.2.1
  have hown := B.2.2.2.2.2.1
  have T := B.2.2.2.2.2.2.1
  have hK := B.2.2.2.2.2.2.2.1
  have hbA : ¬ (fun q => s0.heap.size ≤ q) b := Nat.not_le.mpr hbl
  refine lv_aload_n hx hb d_La_law_166 rfl (lv_at hl 3 rfl) ?_
  refine gy_V (As := []) B hl.1 hw (hA) (kd_MR_wipe T) (ki_MR T) (km_La_60 T) (ka_MR_wipe T) (ks_MR_wipe T) ⟨by decide, by decide, by rfl⟩ (rv_MR hK hw rfl) rfl (Nat.le_of_ble_eq_true rfl) ⟨Nat.le_trans hRA.1 hRm.1, Nat.le_trans hRA.2 hRm.2⟩ ⟨Nat.le_of_succ_le hC.1, Nat.le_trans (Nat.le_add_right _ 6) hC.2⟩ d_La_law_167 (fun v9 M9 r9 H locs hw hp => ?_) (fun _ _ _ _ _ _ _ _ hp => hp.elim)
  have hv9 := hV _ _ _ hp
  subst hv9
  have hp1 := hp
  refine lv_aload_n hx hb d_La_law_170 rfl (lv_at hl 2 rfl) ?_
  refine gy_V (As := []) B hl.1 hw (hB _ _ _ hp1) (kd_Mo_wipe T) (ki_Mo T) (km_La_63 T) (ka_Mo_wipe T) (ks_Mo_wipe T) ⟨by decide, by decide, by rfl⟩ (rv_Mo hK hw rfl) rfl (Nat.le_of_ble_eq_true rfl) ⟨Nat.le_trans hRB.1 hRm.1, Nat.le_trans hRB.2 hRm.2⟩ ⟨Nat.le_of_succ_le hC.1, Nat.le_trans (Nat.le_add_right _ 6) hC.2⟩ d_La_law_171 (fun v9 M9 r9 H locs hw hp => ?_) (fun _ _ _ _ _ _ _ _ hp => hp.elim)
  obtain ⟨-, rfl, hi9⟩ := hE _ _ _ _ hp
  refine lv_goto hx hb d_La_law_174 rfl ?_
  exact W.widen (Nat.le_add_right _ 1) (Nat.le_add_right _ 6) (k _ _ _ _ _ _ hi9 hl hw)
set_option maxHeartbeats 4000000 in
set_option maxRecDepth 100000 in
theorem w_reason {p : Program} {l : Launch} {e : Env} {R : Room} {s0 : State} {m : MethodId} {args : Array Value} {below : List Frame} {meth : Method} {c : Code} {H : Heap} {locs : List Loc} {cells slots : Nat} {Q : State → Prop} {D : va_G} {aC : Nat → ClassId} {b L : Nat} {xs : Nat → Int32} {i : Int32} {ls : Array Slot} {M : gMem} {r : gRef} {ow : Int64} {I : gMem → gRef → Prop} (B : gB s0 D aC p e s0 m meth c R_La code 7 ret) (hX : va_X b L xs s0 s0.heap) (hbl : b < s0.heap.size) (hRm : 16 ≤ R.frames ∧ 604 ≤ R.locals) (hC : cells + 1 ≤ R.cells ∧ slots + 6 ≤ R.slots) (h1 : vp_in (i + 1) L) (h2 : vp_in (i + 2) L) (hl : lv_has ls 7 [(4, .int i), (3, .ref (s0.heap.size + 401)), (2, .ref (s0.heap.size + 383)), (1, .ref (s0.heap.size + 0)), (0, .ref b)]) (hw : gWd s0 D aC M r ow H locs) {pA : Option Value → gMem → gRef → Prop} {pB : Option Value → Option Value → gMem → gRef → Prop} {fr lo fr2 lo2 : Nat} (hRA : fr + 1 ≤ 16 ∧ 8 + (1 + 11) + lo ≤ 604) (hA : gMet l s0 D aC y_MR_reason (Cond.code y_MR_reason b_MR_reason 1 (some .int)) fr lo 0 0 [.ref (s0.heap.size + 0)] M r ow pA (fun _ _ _ => False)) (hV : ∀ v M1 r1, pA v M1 r1 → ∃ a, v = some (.int a)) (hRB : fr2 + 1 ≤ 16 ∧ 8 + (1 + 11) + lo2 ≤ 604) (hB : ∀ v M1 r1, pA v M1 r1 → gMet l s0 D aC y_Mo_reason (Cond.code y_Mo_reason b_Mo_reason 1 (some .int)) fr2 lo2 0 0 [.ref (s0.heap.size + 383)] M1 r1 ow (pB v) (fun _ _ _ => False)) (hE : ∀ v w M2 r2, pB v w M2 r2 → ∃ a, v = some (.int a) ∧ w = some (.int a) ∧ I M2 r2) (k : ∀ M r ow H locs ls, I M r → lv_has ls 7 [(4, .int i), (3, .ref (s0.heap.size + 401)), (2, .ref (s0.heap.size + 383)), (1, .ref (s0.heap.size + 0)), (0, .ref b)] → gWd s0 D aC M r ow H locs → W p l e R s0 m args below meth c H locs (cells + 1) (slots + 6) Q (F0 m 669 ls [])) : W p l e R s0 m args below meth c H locs cells slots Q (F0 m 221 ls []) := by
  have hx := B.1
  have hb := B.2.1
  have hown := B.2.2.2.2.2.1
  have T := B.2.2.2.2.2.2.1
  have hK := B.2.2.2.2.2.2.2.1
  have hbA : ¬ (fun q => s0.heap.size ≤ q) b := Nat.not_le.mpr hbl
  refine lv_aload_n hx hb d_La_law_221 rfl (lv_at hl 3 rfl) ?_
  refine gy_V (As := []) B hl.1 hw (hA) (kd_MR_reason T) (ki_MR T) (km_La_68 T) (ka_MR_reason T) (ks_MR_reason T) ⟨by decide, by decide, by rfl⟩ (rv_MR hK hw rfl) rfl (Nat.le_of_ble_eq_true rfl) ⟨Nat.le_trans hRA.1 hRm.1, Nat.le_trans hRA.2 hRm.2⟩ ⟨Nat.le_of_succ_le hC.1, Nat.le_trans (Nat.le_add_right _ 6) hC.2⟩ d_La_law_222 (fun v9 M9 r9 H locs hw hp => ?_) (fun _ _ _ _ _ _ _ _ hp => hp.elim)
  obtain ⟨a9, rfl⟩ := hV _ _ _ hp
  have hp1 := hp
  refine lv_aload_n hx hb d_La_law_225 rfl (lv_at hl 2 rfl) ?_
  refine gy_V (As := []) B hl.1 hw (hB _ _ _ hp1) (kd_Mo_reason T) (ki_Mo T) (km_La_71 T) (ka_Mo_reason T) (ks_Mo_reason T) ⟨by decide, by decide, by rfl⟩ (rv_Mo hK hw rfl) rfl (Nat.le_of_ble_eq_true rfl) ⟨Nat.le_trans hRB.1 hRm.1, Nat.le_trans hRB.2 hRm.2⟩ ⟨Nat.le_of_succ_le hC.1, Nat.le_trans (Nat.le_add_right _ 6) hC.2⟩ d_La_law_226 (fun v9 M9 r9 H locs hw hp => ?_) (fun _ _ _ _ _ _ _ _ hp => hp.elim)
  obtain ⟨a8, ha8, rfl, hi9⟩ := hE _ _ _ _ hp
  cases ha8
  refine lv_icmp_eq hx hb d_La_law_229 rfl (fun h229 => ?_) (fun h229 => absurd rfl h229)
  exact W.widen (Nat.le_add_right _ 1) (Nat.le_add_right _ 6) (k _ _ _ _ _ _ hi9 hl hw)
set_option maxHeartbeats 4000000 in
set_option maxRecDepth 100000 in
theorem w_place {p : Program} {l : Launch} {e : Env} {R : Room} {s0 : State} {m : MethodId} {args : Array Value} {below : List Frame} {meth : Method} {c : Code} {H : Heap} {locs : List Loc} {cells slots : Nat} {Q : State → Prop} {D : va_G} {aC : Nat → ClassId} {b L : Nat} {xs : Nat → Int32} {i : Int32} {ls : Array Slot} {M : gMem} {r : gRef} {ow : Int64} {I : gMem → gRef → Prop} (B : gB s0 D aC p e s0 m meth c R_La code 7 ret) (hX : va_X b L xs s0 s0.heap) (hbl : b < s0.heap.size) (hRm : 16 ≤ R.frames ∧ 604 ≤ R.locals) (hC : cells + 1 ≤ R.cells ∧ slots + 6 ≤ R.slots) (h1 : vp_in (i + 1) L) (h2 : vp_in (i + 2) L) (hl : lv_has ls 7 [(4, .int i), (3, .ref (s0.heap.size + 401)), (2, .ref (s0.heap.size + 383)), (1, .ref (s0.heap.size + 0)), (0, .ref b)]) (hw : gWd s0 D aC M r ow H locs) {pA : Option Value → gMem → gRef → Prop} {pB : Option Value → Option Value → gMem → gRef → Prop} {fr lo fr2 lo2 : Nat} (hRA : fr + 1 ≤ 16 ∧ 8 + (1 + 11) + lo ≤ 604) (hA : gMet l s0 D aC y_MR_place (Cond.code y_MR_place b_MR_place 1 (some .int)) fr lo 0 0 [.ref (s0.heap.size + 0)] M r ow pA (fun _ _ _ => False)) (hV : ∀ v M1 r1, pA v M1 r1 → ∃ a, v = some (.int a)) (hRB : fr2 + 1 ≤ 16 ∧ 8 + (1 + 11) + lo2 ≤ 604) (hB : ∀ v M1 r1, pA v M1 r1 → gMet l s0 D aC y_Mo_place (Cond.code y_Mo_place b_Mo_place 1 (some .int)) fr2 lo2 0 0 [.ref (s0.heap.size + 383)] M1 r1 ow (pB v) (fun _ _ _ => False)) (hE : ∀ v w M2 r2, pB v w M2 r2 → ∃ a, v = some (.int a) ∧ w = some (.int a) ∧ I M2 r2) (k : ∀ M r ow H locs ls, I M r → lv_has ls 7 [(4, .int i), (3, .ref (s0.heap.size + 401)), (2, .ref (s0.heap.size + 383)), (1, .ref (s0.heap.size + 0)), (0, .ref b)] → gWd s0 D aC M r ow H locs → W p l e R s0 m args below meth c H locs (cells + 1) (slots + 6) Q (F0 m 669 ls [])) : W p l e R s0 m args below meth c H locs cells slots Q (F0 m 234 ls []) := by
  have hx := B.1
  have hb := B.2.1
  have hown := B.2.2.2.2.2.1
  have T := B.2.2.2.2.2.2.1
  have hK := B.2.2.2.2.2.2.2.1
  have hbA : ¬ (fun q => s0.heap.size ≤ q) b := Nat.not_le.mpr hbl
  refine lv_aload_n hx hb d_La_law_234 rfl (lv_at hl 3 rfl) ?_
  refine gy_V (As := []) B hl.1 hw (hA) (kd_MR_place T) (ki_MR T) (km_La_72 T) (ka_MR_place T) (ks_MR_place T) ⟨by decide, by decide, by rfl⟩ (rv_MR hK hw rfl) rfl (Nat.le_of_ble_eq_true rfl) ⟨Nat.le_trans hRA.1 hRm.1, Nat.le_trans hRA.2 hRm.2⟩ ⟨Nat.le_of_succ_le hC.1, Nat.le_trans (Nat.le_add_right _ 6) hC.2⟩ d_La_law_235 (fun v9 M9 r9 H locs hw hp => ?_) (fun _ _ _ _ _ _ _ _ hp => hp.elim)
  obtain ⟨a9, rfl⟩ := hV _ _ _ hp
  have hp1 := hp
  refine lv_aload_n hx hb d_La_law_238 rfl (lv_at hl 2 rfl) ?_
  refine gy_V (As := []) B hl.1 hw (hB _ _ _ hp1) (kd_Mo_place T) (ki_Mo T) (km_La_75 T) (ka_Mo_place T) (ks_Mo_place T) ⟨by decide, by decide, by rfl⟩ (rv_Mo hK hw rfl) rfl (Nat.le_of_ble_eq_true rfl) ⟨Nat.le_trans hRB.1 hRm.1, Nat.le_trans hRB.2 hRm.2⟩ ⟨Nat.le_of_succ_le hC.1, Nat.le_trans (Nat.le_add_right _ 6) hC.2⟩ d_La_law_239 (fun v9 M9 r9 H locs hw hp => ?_) (fun _ _ _ _ _ _ _ _ hp => hp.elim)
  obtain ⟨a8, ha8, rfl, hi9⟩ := hE _ _ _ _ hp
  cases ha8
  refine lv_icmp_eq hx hb d_La_law_242 rfl (fun h242 => ?_) (fun h242 => absurd rfl h242)
  exact W.widen (Nat.le_add_right _ 1) (Nat.le_add_right _ 6) (k _ _ _ _ _ _ hi9 hl hw)
set_option maxHeartbeats 4000000 in
set_option maxRecDepth 100000 in
theorem w_form {p : Program} {l : Launch} {e : Env} {R : Room} {s0 : State} {m : MethodId} {args : Array Value} {below : List Frame} {meth : Method} {c : Code} {H : Heap} {locs : List Loc} {cells slots : Nat} {Q : State → Prop} {D : va_G} {aC : Nat → ClassId} {b L : Nat} {xs : Nat → Int32} {i : Int32} {ls : Array Slot} {M : gMem} {r : gRef} {ow : Int64} {I : gMem → gRef → Prop} (B : gB s0 D aC p e s0 m meth c R_La code 7 ret) (hX : va_X b L xs s0 s0.heap) (hbl : b < s0.heap.size) (hRm : 16 ≤ R.frames ∧ 604 ≤ R.locals) (hC : cells + 1 ≤ R.cells ∧ slots + 6 ≤ R.slots) (h1 : vp_in (i + 1) L) (h2 : vp_in (i + 2) L) (hl : lv_has ls 7 [(4, .int i), (3, .ref (s0.heap.size + 401)), (2, .ref (s0.heap.size + 383)), (1, .ref (s0.heap.size + 0)), (0, .ref b)]) (hw : gWd s0 D aC M r ow H locs) {pA : Option Value → gMem → gRef → Prop} {pB : Option Value → Option Value → gMem → gRef → Prop} {fr lo fr2 lo2 : Nat} (hRA : fr + 1 ≤ 16 ∧ 8 + (1 + 11) + lo ≤ 604) (hA : gMet l s0 D aC y_MR_form (Cond.code y_MR_form b_MR_form 1 (some .int)) fr lo 0 0 [.ref (s0.heap.size + 0)] M r ow pA (fun _ _ _ => False)) (hV : ∀ v M1 r1, pA v M1 r1 → ∃ a, v = some (.int a)) (hRB : fr2 + 1 ≤ 16 ∧ 8 + (1 + 11) + lo2 ≤ 604) (hB : ∀ v M1 r1, pA v M1 r1 → gMet l s0 D aC y_Mo_form (Cond.code y_Mo_form b_Mo_form 1 (some .int)) fr2 lo2 0 0 [.ref (s0.heap.size + 383)] M1 r1 ow (pB v) (fun _ _ _ => False)) (hE : ∀ v w M2 r2, pB v w M2 r2 → ∃ a, v = some (.int a) ∧ w = some (.int a) ∧ I M2 r2) (k : ∀ M r ow H locs ls, I M r → lv_has ls 7 [(4, .int i), (3, .ref (s0.heap.size + 401)), (2, .ref (s0.heap.size + 383)), (1, .ref (s0.heap.size + 0)), (0, .ref b)] → gWd s0 D aC M r ow H locs → W p l e R s0 m args below meth c H locs (cells + 1) (slots + 6) Q (F0 m 669 ls [])) : W p l e R s0 m args below meth c H locs cells slots Q (F0 m 519 ls []) := by
  have hx := B.1
  have hb := B.2.1
  have hown := B.2.2.2.2.2.1
  have T := B.2.2.2.2.2.2.1
  have hK := B.2.2.2.2.2.2.2.1
  have hbA : ¬ (fun q => s0.heap.size ≤ q) b := Nat.not_le.mpr hbl
  refine lv_aload_n hx hb d_La_law_519 rfl (lv_at hl 3 rfl) ?_
  refine gy_V (As := []) B hl.1 hw (hA) (kd_MR_form T) (ki_MR T) (km_La_89 T) (ka_MR_form T) (ks_MR_form T) ⟨by decide, by decide, by rfl⟩ (rv_MR hK hw rfl) rfl (Nat.le_of_ble_eq_true rfl) ⟨Nat.le_trans hRA.1 hRm.1, Nat.le_trans hRA.2 hRm.2⟩ ⟨Nat.le_of_succ_le hC.1, Nat.le_trans (Nat.le_add_right _ 6) hC.2⟩ d_La_law_520 (fun v9 M9 r9 H locs hw hp => ?_) (fun _ _ _ _ _ _ _ _ hp => hp.elim)
  obtain ⟨a9, rfl⟩ := hV _ _ _ hp
  have hp1 := hp
  refine lv_aload_n hx hb d_La_law_523 rfl (lv_at hl 2 rfl) ?_
  refine gy_V (As := []) B hl.1 hw (hB _ _ _ hp1) (kd_Mo_form T) (ki_Mo T) (km_La_92 T) (ka_Mo_form T) (ks_Mo_form T) ⟨by decide, by decide, by rfl⟩ (rv_Mo hK hw rfl) rfl (Nat.le_of_ble_eq_true rfl) ⟨Nat.le_trans hRB.1 hRm.1, Nat.le_trans hRB.2 hRm.2⟩ ⟨Nat.le_of_succ_le hC.1, Nat.le_trans (Nat.le_add_right _ 6) hC.2⟩ d_La_law_524 (fun v9 M9 r9 H locs hw hp => ?_) (fun _ _ _ _ _ _ _ _ hp => hp.elim)
  obtain ⟨a8, ha8, rfl, hi9⟩ := hE _ _ _ _ hp
  cases ha8
  refine lv_icmp_eq hx hb d_La_law_527 rfl (fun h527 => ?_) (fun h527 => absurd rfl h527)
  exact W.widen (Nat.le_add_right _ 1) (Nat.le_add_right _ 6) (k _ _ _ _ _ _ hi9 hl hw)
set_option maxHeartbeats 4000000 in
set_option maxRecDepth 100000 in
theorem w_same {p : Program} {l : Launch} {e : Env} {R : Room} {s0 : State} {m : MethodId} {args : Array Value} {below : List Frame} {meth : Method} {c : Code} {H : Heap} {locs : List Loc} {cells slots : Nat} {Q : State → Prop} {D : va_G} {aC : Nat → ClassId} {b L : Nat} {xs : Nat → Int32} {i : Int32} {ls : Array Slot} {M : gMem} {r : gRef} {ow : Int64} {I : gMem → gRef → Prop} (B : gB s0 D aC p e s0 m meth c R_La code 7 ret) (hX : va_X b L xs s0 s0.heap) (hbl : b < s0.heap.size) (hRm : 16 ≤ R.frames ∧ 604 ≤ R.locals) (hC : cells + 1 ≤ R.cells ∧ slots + 6 ≤ R.slots) (h1 : vp_in (i + 1) L) (h2 : vp_in (i + 2) L) (hl : lv_has ls 7 [(4, .int i), (3, .ref (s0.heap.size + 401)), (2, .ref (s0.heap.size + 383)), (1, .ref (s0.heap.size + 0)), (0, .ref b)]) (hw : gWd s0 D aC M r ow H locs) {pA : Option Value → gMem → gRef → Prop} {pB : Option Value → Option Value → gMem → gRef → Prop} {fr lo fr2 lo2 : Nat} (hRA : fr + 1 ≤ 16 ∧ 8 + (1 + 11) + lo ≤ 604) (hA : gMet l s0 D aC y_MR_same (Cond.code y_MR_same b_MR_same 1 (some .boolean)) fr lo 0 0 [.ref (s0.heap.size + 0)] M r ow pA (fun _ _ _ => False)) (hV : ∀ v M1 r1, pA v M1 r1 → ∃ a, v = some (.int a)) (hRB : fr2 + 1 ≤ 16 ∧ 8 + (3 + 11) + lo2 ≤ 604) (hB : ∀ v M1 r1, pA v M1 r1 → gMet l s0 D aC y_Mo_same (Cond.code y_Mo_same b_Mo_same 3 (some .boolean)) fr2 lo2 0 0 [.ref (s0.heap.size + 383)] M1 r1 ow (pB v) (fun _ _ _ => False)) (hE : ∀ v w M2 r2, pB v w M2 r2 → ∃ a, v = some (.int a) ∧ w = some (.int a) ∧ I M2 r2) (k : ∀ M r ow H locs ls, I M r → lv_has ls 7 [(4, .int i), (3, .ref (s0.heap.size + 401)), (2, .ref (s0.heap.size + 383)), (1, .ref (s0.heap.size + 0)), (0, .ref b)] → gWd s0 D aC M r ow H locs → W p l e R s0 m args below meth c H locs (cells + 1) (slots + 6) Q (F0 m 669 ls [])) : W p l e R s0 m args below meth c H locs cells slots Q (F0 m 656 ls []) := by
  have hx := B.1
  have hb := B.2.1
  have hown := B.2.2.2.2.2.1
  have T := B.2.2.2.2.2.2.1
  have hK := B.2.2.2.2.2.2.2.1
  have hbA : ¬ (fun q => s0.heap.size ≤ q) b := Nat.not_le.mpr hbl
  refine lv_aload_n hx hb d_La_law_656 rfl (lv_at hl 3 rfl) ?_
  refine gy_V (As := []) B hl.1 hw (hA) (kd_MR_same T) (ki_MR T) (km_La_104 T) (ka_MR_same T) (ks_MR_same T) ⟨by decide, by decide, by rfl⟩ (rv_MR hK hw rfl) rfl (Nat.le_of_ble_eq_true rfl) ⟨Nat.le_trans hRA.1 hRm.1, Nat.le_trans hRA.2 hRm.2⟩ ⟨Nat.le_of_succ_le hC.1, Nat.le_trans (Nat.le_add_right _ 6) hC.2⟩ d_La_law_657 (fun v9 M9 r9 H locs hw hp => ?_) (fun _ _ _ _ _ _ _ _ hp => hp.elim)
  obtain ⟨a9, rfl⟩ := hV _ _ _ hp
  have hp1 := hp
  refine lv_aload_n hx hb d_La_law_660 rfl (lv_at hl 2 rfl) ?_
  refine gy_V (As := []) B hl.1 hw (hB _ _ _ hp1) (kd_Mo_same T) (ki_Mo T) (km_La_108 T) (ka_Mo_same T) (ks_Mo_same T) ⟨by decide, by decide, by rfl⟩ (rv_Mo hK hw rfl) rfl (Nat.le_of_ble_eq_true rfl) ⟨Nat.le_trans hRB.1 hRm.1, Nat.le_trans hRB.2 hRm.2⟩ ⟨Nat.le_of_succ_le hC.1, Nat.le_trans (Nat.le_add_right _ 6) hC.2⟩ d_La_law_661 (fun v9 M9 r9 H locs hw hp => ?_) (fun _ _ _ _ _ _ _ _ hp => hp.elim)
  obtain ⟨a8, ha8, rfl, hi9⟩ := hE _ _ _ _ hp
  cases ha8
  refine lv_icmp_eq hx hb d_La_law_664 rfl (fun h664 => ?_) (fun h664 => absurd rfl h664)
  exact W.widen (Nat.le_add_right _ 1) (Nat.le_add_right _ 6) (k _ _ _ _ _ _ hi9 hl hw)
