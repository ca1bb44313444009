theorem hq_gW {y : MethodName} {b : ByteArray} {n : Nat} {r : Option FieldType} {hh : List (Nat × Nat × Nat × Nat)} (h5 : Cond.codeWith y b n r hh ∈ tb0) : GoodIn tb0 (.codeWith y b n r hh :: tb0) := fun w hw => by
  rcases List.mem_cons.mp hw with rfl | h
  · exact ⟨h5, tb_ok h5⟩
  · exact ⟨h, tb_ok h⟩
theorem hq_len {d : String} {n : Nat} (h : (parseMethodDescriptor d).map (fun d => d.parameters.length) = some n) : ∀ sig, parseMethodDescriptor d = some sig → n = sig.parameters.length := fun sig hs => by
  rw [hs] at h
  exact (Option.some.inj h).symm
theorem hq_cL {D : va_G} {cl : List vw_C} {tys : List (ClassId × FieldType)} {s : State} {c1 c2 : ClassId} (hK : va_K D cl tys s) (i j : Nat) (hi : tys[i]? = some (c1, .long)) (hj : tys[j]? = some (c2, .long)) : c1 = c2 := by
  have h1 : s.vm.findClass _ = some c1 := (hK.2 i _ hi).2
  have h2 : s.vm.findClass _ = some c2 := (hK.2 j _ hj).2
  exact Option.some.inj (h1.symm.trans h2)
def R_law : String := "HoistPlannerLaw"
def lw_P (b : Addr) (xs : List Int32) (args : Array Value) (s : State) : Prop := args = #[.ref b] ∧ s.IntsAt b xs ∧ xs.length ≤ 2048 ∧ (Jvm.Cond.and given_1 narrow_1).before args s = true
def lw_Q (_ : Array Value) (s : State) (o : Outcome) (t : State) : Prop := o = .returned (some (.int 1)) ∧ Framed s o t [] 663733 7104905
def lw_Z (below : List Frame) (a : Array Value) (s : State) : State → Prop := fun t => ∃ o, t.status = .running ∧ Ended t below o ∧ lw_Q a s o t
/-- the law's own end, with 1 on the stack, nothing written that was there before, its room as the claim has it -/
theorem lw_ret {p : Program} {l : Launch} {e : Env} {s : State} {m : MethodId} {below : List Frame} {meth : Method} {c : Code} {b : Nat} (hx : p.tables.exec = Jvm.exec) (hb : c.code = code) (hr : meth.sig.returnType = ret) (hlocks : meth.locks = false) {pc : Nat} {H : Heap} {ls : Array Slot} (hdg : decode code pc = .ok (.ireturn, 1)) : W p l e room_1 s m #[Value.ref b] below meth c H [] 663733 7104905 (lw_Z below #[Value.ref b] s) (F0 m pc ls [.int 1]) := by
  intro T hT X
  obtain ⟨fs, hret, hrun, hended, hW, hframe⟩ := X.leave (v := some (.int 1)) (hlocks := hlocks) (fun h => by rw [hr] at h; cases h)
  have hmeth' : T.vm.method? m = some meth := X.method'
  refine ⟨T.setFrames fs, ?_, .returned (some (.int 1)), hrun, hended, rfl, ⟨_, rfl⟩, hW, hframe⟩
  jvm_step X.here [X.here.top, hx, hb, hdg, hmeth', hr, ret, narrow_b1]
  (try refine ⟨rfl, ?_⟩); (try refine ⟨rfl, ?_⟩)
  first | (intro acts; rw [hret _ acts rfl rfl rfl]) | rw [hret _ _ rfl rfl rfl]
  exact Steps.refl _
abbrev b_LW_law : ByteArray := code
theorem d_LW_law_0 : decode b_LW_law 0 = .ok (.new 8, 3) := by decide +kernel
theorem d_LW_law_3 : decode b_LW_law 3 = .ok (.dup, 1) := by decide +kernel
theorem d_LW_law_4 : decode b_LW_law 4 = .ok (.invokespecial 53, 3) := by decide +kernel
theorem d_LW_law_7 : decode b_LW_law 7 = .ok (.astore_n 1, 1) := by decide +kernel
theorem d_LW_law_8 : decode b_LW_law 8 = .ok (.new 54, 3) := by decide +kernel
theorem d_LW_law_11 : decode b_LW_law 11 = .ok (.dup, 1) := by decide +kernel
theorem d_LW_law_12 : decode b_LW_law 12 = .ok (.invokespecial 56, 3) := by decide +kernel
theorem d_LW_law_15 : decode b_LW_law 15 = .ok (.astore_n 2, 1) := by decide +kernel
theorem d_LW_law_16 : decode b_LW_law 16 = .ok (.iconst 1, 1) := by decide +kernel
theorem d_LW_law_17 : decode b_LW_law 17 = .ok (.newarray .long, 2) := by decide +kernel
theorem d_LW_law_19 : decode b_LW_law 19 = .ok (.astore_n 3, 1) := by decide +kernel
theorem d_LW_law_20 : decode b_LW_law 20 = .ok (.iconst 0, 1) := by decide +kernel
theorem d_LW_law_21 : decode b_LW_law 21 = .ok (.istore 4, 2) := by decide +kernel
theorem d_LW_law_23 : decode b_LW_law 23 = .ok (.iload 4, 2) := by decide +kernel
theorem d_LW_law_25 : decode b_LW_law 25 = .ok (.aload_n 0, 1) := by decide +kernel
theorem d_LW_law_26 : decode b_LW_law 26 = .ok (.arraylength, 1) := by decide +kernel
theorem d_LW_law_27 : decode b_LW_law 27 = .ok (.iconst 4, 1) := by decide +kernel
theorem d_LW_law_28 : decode b_LW_law 28 = .ok (.isub, 1) := by decide +kernel
theorem d_LW_law_29 : decode b_LW_law 29 = .ok (.if_icmp .gt 682, 3) := by decide +kernel
theorem d_LW_law_32 : decode b_LW_law 32 = .ok (.aload_n 0, 1) := by decide +kernel
theorem d_LW_law_33 : decode b_LW_law 33 = .ok (.iload 4, 2) := by decide +kernel
theorem d_LW_law_35 : decode b_LW_law 35 = .ok (.iaload, 1) := by decide +kernel
theorem d_LW_law_36 : decode b_LW_law 36 = .ok (.bipush 15, 2) := by decide +kernel
theorem d_LW_law_38 : decode b_LW_law 38 = .ok (.iand, 1) := by decide +kernel
theorem d_LW_law_39 : decode b_LW_law 39 = .ok (.tableswitch 666 0 11 #[61, 97, 157, 205, 265, 278, 322, 378, 446, 502, 554, 610], 61) := by decide +kernel
theorem d_LW_law_100 : decode b_LW_law 100 = .ok (.aload_n 1, 1) := by decide +kernel
theorem d_LW_law_101 : decode b_LW_law 101 = .ok (.aload_n 0, 1) := by decide +kernel
theorem d_LW_law_102 : decode b_LW_law 102 = .ok (.iload 4, 2) := by decide +kernel
theorem d_LW_law_104 : decode b_LW_law 104 = .ok (.iconst 1, 1) := by decide +kernel
theorem d_LW_law_105 : decode b_LW_law 105 = .ok (.iadd, 1) := by decide +kernel
theorem d_LW_law_106 : decode b_LW_law 106 = .ok (.iaload, 1) := by decide +kernel
theorem d_LW_law_107 : decode b_LW_law 107 = .ok (.invokestatic 57, 3) := by decide +kernel
theorem d_LW_law_110 : decode b_LW_law 110 = .ok (.istore 5, 2) := by decide +kernel
theorem d_LW_law_112 : decode b_LW_law 112 = .ok (.aload_n 2, 1) := by decide +kernel
theorem d_LW_law_113 : decode b_LW_law 113 = .ok (.aload_n 0, 1) := by decide +kernel
theorem d_LW_law_114 : decode b_LW_law 114 = .ok (.iload 4, 2) := by decide +kernel
theorem d_LW_law_116 : decode b_LW_law 116 = .ok (.iconst 1, 1) := by decide +kernel
theorem d_LW_law_117 : decode b_LW_law 117 = .ok (.iadd, 1) := by decide +kernel
theorem d_LW_law_118 : decode b_LW_law 118 = .ok (.iaload, 1) := by decide +kernel
theorem d_LW_law_119 : decode b_LW_law 119 = .ok (.invokevirtual 62, 3) := by decide +kernel
theorem d_LW_law_122 : decode b_LW_law 122 = .ok (.aload_n 2, 1) := by decide +kernel
theorem d_LW_law_123 : decode b_LW_law 123 = .ok (.invokevirtual 63, 3) := by decide +kernel
theorem d_LW_law_126 : decode b_LW_law 126 = .ok (.iload 5, 2) := by decide +kernel
theorem d_LW_law_128 : decode b_LW_law 128 = .ok (.if_icmp .eq 5, 3) := by decide +kernel
theorem d_LW_law_131 : decode b_LW_law 131 = .ok (.iconst 0, 1) := by decide +kernel
theorem d_LW_law_132 : decode b_LW_law 132 = .ok (.ireturn, 1) := by decide +kernel
theorem d_LW_law_133 : decode b_LW_law 133 = .ok (.goto 572, 3) := by decide +kernel
theorem d_LW_law_136 : decode b_LW_law 136 = .ok (.aload_n 1, 1) := by decide +kernel
theorem d_LW_law_137 : decode b_LW_law 137 = .ok (.aload_n 0, 1) := by decide +kernel
theorem d_LW_law_138 : decode b_LW_law 138 = .ok (.iload 4, 2) := by decide +kernel
theorem d_LW_law_140 : decode b_LW_law 140 = .ok (.iconst 1, 1) := by decide +kernel
theorem d_LW_law_141 : decode b_LW_law 141 = .ok (.iadd, 1) := by decide +kernel
theorem d_LW_law_142 : decode b_LW_law 142 = .ok (.iaload, 1) := by decide +kernel
theorem d_LW_law_143 : decode b_LW_law 143 = .ok (.aload_n 0, 1) := by decide +kernel
theorem d_LW_law_144 : decode b_LW_law 144 = .ok (.iload 4, 2) := by decide +kernel
theorem d_LW_law_146 : decode b_LW_law 146 = .ok (.iconst 2, 1) := by decide +kernel
theorem d_LW_law_147 : decode b_LW_law 147 = .ok (.iadd, 1) := by decide +kernel
theorem d_LW_law_148 : decode b_LW_law 148 = .ok (.iaload, 1) := by decide +kernel
theorem d_LW_law_149 : decode b_LW_law 149 = .ok (.aload_n 0, 1) := by decide +kernel
theorem d_LW_law_150 : decode b_LW_law 150 = .ok (.iload 4, 2) := by decide +kernel
theorem d_LW_law_152 : decode b_LW_law 152 = .ok (.iconst 3, 1) := by decide +kernel
theorem d_LW_law_153 : decode b_LW_law 153 = .ok (.iadd, 1) := by decide +kernel
theorem d_LW_law_154 : decode b_LW_law 154 = .ok (.iaload, 1) := by decide +kernel
theorem d_LW_law_155 : decode b_LW_law 155 = .ok (.invokestatic 66, 3) := by decide +kernel
theorem d_LW_law_158 : decode b_LW_law 158 = .ok (.istore 5, 2) := by decide +kernel
theorem d_LW_law_160 : decode b_LW_law 160 = .ok (.aload_n 2, 1) := by decide +kernel
theorem d_LW_law_161 : decode b_LW_law 161 = .ok (.aload_n 0, 1) := by decide +kernel
theorem d_LW_law_162 : decode b_LW_law 162 = .ok (.iload 4, 2) := by decide +kernel
theorem d_LW_law_164 : decode b_LW_law 164 = .ok (.iconst 1, 1) := by decide +kernel
theorem d_LW_law_165 : decode b_LW_law 165 = .ok (.iadd, 1) := by decide +kernel
theorem d_LW_law_166 : decode b_LW_law 166 = .ok (.iaload, 1) := by decide +kernel
theorem d_LW_law_167 : decode b_LW_law 167 = .ok (.aload_n 0, 1) := by decide +kernel
theorem d_LW_law_168 : decode b_LW_law 168 = .ok (.iload 4, 2) := by decide +kernel
theorem d_LW_law_170 : decode b_LW_law 170 = .ok (.iconst 2, 1) := by decide +kernel
theorem d_LW_law_171 : decode b_LW_law 171 = .ok (.iadd, 1) := by decide +kernel
theorem d_LW_law_172 : decode b_LW_law 172 = .ok (.iaload, 1) := by decide +kernel
theorem d_LW_law_173 : decode b_LW_law 173 = .ok (.aload_n 0, 1) := by decide +kernel
theorem d_LW_law_174 : decode b_LW_law 174 = .ok (.iload 4, 2) := by decide +kernel
theorem d_LW_law_176 : decode b_LW_law 176 = .ok (.iconst 3, 1) := by decide +kernel
theorem d_LW_law_177 : decode b_LW_law 177 = .ok (.iadd, 1) := by decide +kernel
theorem d_LW_law_178 : decode b_LW_law 178 = .ok (.iaload, 1) := by decide +kernel
theorem d_LW_law_179 : decode b_LW_law 179 = .ok (.invokevirtual 69, 3) := by decide +kernel
theorem d_LW_law_182 : decode b_LW_law 182 = .ok (.aload_n 2, 1) := by decide +kernel
theorem d_LW_law_183 : decode b_LW_law 183 = .ok (.invokevirtual 63, 3) := by decide +kernel
theorem d_LW_law_186 : decode b_LW_law 186 = .ok (.iload 5, 2) := by decide +kernel
theorem d_LW_law_188 : decode b_LW_law 188 = .ok (.if_icmp .eq 5, 3) := by decide +kernel
theorem d_LW_law_191 : decode b_LW_law 191 = .ok (.iconst 0, 1) := by decide +kernel
theorem d_LW_law_192 : decode b_LW_law 192 = .ok (.ireturn, 1) := by decide +kernel
theorem d_LW_law_193 : decode b_LW_law 193 = .ok (.goto 512, 3) := by decide +kernel
theorem d_LW_law_196 : decode b_LW_law 196 = .ok (.aload_n 1, 1) := by decide +kernel
theorem d_LW_law_197 : decode b_LW_law 197 = .ok (.aload_n 0, 1) := by decide +kernel
theorem d_LW_law_198 : decode b_LW_law 198 = .ok (.iload 4, 2) := by decide +kernel
theorem d_LW_law_200 : decode b_LW_law 200 = .ok (.iconst 1, 1) := by decide +kernel
theorem d_LW_law_201 : decode b_LW_law 201 = .ok (.iadd, 1) := by decide +kernel
theorem d_LW_law_202 : decode b_LW_law 202 = .ok (.iaload, 1) := by decide +kernel
theorem d_LW_law_203 : decode b_LW_law 203 = .ok (.aload_n 0, 1) := by decide +kernel
theorem d_LW_law_204 : decode b_LW_law 204 = .ok (.iload 4, 2) := by decide +kernel
theorem d_LW_law_206 : decode b_LW_law 206 = .ok (.iconst 2, 1) := by decide +kernel
theorem d_LW_law_207 : decode b_LW_law 207 = .ok (.iadd, 1) := by decide +kernel
theorem d_LW_law_208 : decode b_LW_law 208 = .ok (.iaload, 1) := by decide +kernel
theorem d_LW_law_209 : decode b_LW_law 209 = .ok (.invokestatic 70, 3) := by decide +kernel
theorem d_LW_law_212 : decode b_LW_law 212 = .ok (.istore 5, 2) := by decide +kernel
theorem d_LW_law_214 : decode b_LW_law 214 = .ok (.aload_n 2, 1) := by decide +kernel
theorem d_LW_law_215 : decode b_LW_law 215 = .ok (.aload_n 0, 1) := by decide +kernel
theorem d_LW_law_216 : decode b_LW_law 216 = .ok (.iload 4, 2) := by decide +kernel
theorem d_LW_law_218 : decode b_LW_law 218 = .ok (.iconst 1, 1) := by decide +kernel
theorem d_LW_law_219 : decode b_LW_law 219 = .ok (.iadd, 1) := by decide +kernel
theorem d_LW_law_220 : decode b_LW_law 220 = .ok (.iaload, 1) := by decide +kernel
theorem d_LW_law_221 : decode b_LW_law 221 = .ok (.aload_n 0, 1) := by decide +kernel
theorem d_LW_law_222 : decode b_LW_law 222 = .ok (.iload 4, 2) := by decide +kernel
theorem d_LW_law_224 : decode b_LW_law 224 = .ok (.iconst 2, 1) := by decide +kernel
theorem d_LW_law_225 : decode b_LW_law 225 = .ok (.iadd, 1) := by decide +kernel
theorem d_LW_law_226 : decode b_LW_law 226 = .ok (.iaload, 1) := by decide +kernel
theorem d_LW_law_227 : decode b_LW_law 227 = .ok (.invokevirtual 73, 3) := by decide +kernel
theorem d_LW_law_230 : decode b_LW_law 230 = .ok (.aload_n 2, 1) := by decide +kernel
theorem d_LW_law_231 : decode b_LW_law 231 = .ok (.invokevirtual 63, 3) := by decide +kernel
theorem d_LW_law_234 : decode b_LW_law 234 = .ok (.iload 5, 2) := by decide +kernel
theorem d_LW_law_236 : decode b_LW_law 236 = .ok (.if_icmp .eq 5, 3) := by decide +kernel
theorem d_LW_law_239 : decode b_LW_law 239 = .ok (.iconst 0, 1) := by decide +kernel
theorem d_LW_law_240 : decode b_LW_law 240 = .ok (.ireturn, 1) := by decide +kernel
theorem d_LW_law_241 : decode b_LW_law 241 = .ok (.goto 464, 3) := by decide +kernel
theorem d_LW_law_244 : decode b_LW_law 244 = .ok (.aload_n 1, 1) := by decide +kernel
theorem d_LW_law_245 : decode b_LW_law 245 = .ok (.aload_n 0, 1) := by decide +kernel
theorem d_LW_law_246 : decode b_LW_law 246 = .ok (.iload 4, 2) := by decide +kernel
theorem d_LW_law_248 : decode b_LW_law 248 = .ok (.iconst 1, 1) := by decide +kernel
theorem d_LW_law_249 : decode b_LW_law 249 = .ok (.iadd, 1) := by decide +kernel
theorem d_LW_law_250 : decode b_LW_law 250 = .ok (.iaload, 1) := by decide +kernel
theorem d_LW_law_251 : decode b_LW_law 251 = .ok (.aload_n 0, 1) := by decide +kernel
theorem d_LW_law_252 : decode b_LW_law 252 = .ok (.iload 4, 2) := by decide +kernel
theorem d_LW_law_254 : decode b_LW_law 254 = .ok (.iconst 2, 1) := by decide +kernel
theorem d_LW_law_255 : decode b_LW_law 255 = .ok (.iadd, 1) := by decide +kernel
theorem d_LW_law_256 : decode b_LW_law 256 = .ok (.iaload, 1) := by decide +kernel
theorem d_LW_law_257 : decode b_LW_law 257 = .ok (.aload_n 0, 1) := by decide +kernel
theorem d_LW_law_258 : decode b_LW_law 258 = .ok (.iload 4, 2) := by decide +kernel
theorem d_LW_law_260 : decode b_LW_law 260 = .ok (.iconst 3, 1) := by decide +kernel
theorem d_LW_law_261 : decode b_LW_law 261 = .ok (.iadd, 1) := by decide +kernel
theorem d_LW_law_262 : decode b_LW_law 262 = .ok (.iaload, 1) := by decide +kernel
theorem d_LW_law_263 : decode b_LW_law 263 = .ok (.invokestatic 74, 3) := by decide +kernel
theorem d_LW_law_266 : decode b_LW_law 266 = .ok (.istore 5, 2) := by decide +kernel
theorem d_LW_law_268 : decode b_LW_law 268 = .ok (.aload_n 2, 1) := by decide +kernel
theorem d_LW_law_269 : decode b_LW_law 269 = .ok (.aload_n 0, 1) := by decide +kernel
theorem d_LW_law_270 : decode b_LW_law 270 = .ok (.iload 4, 2) := by decide +kernel
theorem d_LW_law_272 : decode b_LW_law 272 = .ok (.iconst 1, 1) := by decide +kernel
theorem d_LW_law_273 : decode b_LW_law 273 = .ok (.iadd, 1) := by decide +kernel
theorem d_LW_law_274 : decode b_LW_law 274 = .ok (.iaload, 1) := by decide +kernel
theorem d_LW_law_275 : decode b_LW_law 275 = .ok (.aload_n 0, 1) := by decide +kernel
theorem d_LW_law_276 : decode b_LW_law 276 = .ok (.iload 4, 2) := by decide +kernel
theorem d_LW_law_278 : decode b_LW_law 278 = .ok (.iconst 2, 1) := by decide +kernel
theorem d_LW_law_279 : decode b_LW_law 279 = .ok (.iadd, 1) := by decide +kernel
theorem d_LW_law_280 : decode b_LW_law 280 = .ok (.iaload, 1) := by decide +kernel
theorem d_LW_law_281 : decode b_LW_law 281 = .ok (.aload_n 0, 1) := by decide +kernel
theorem d_LW_law_282 : decode b_LW_law 282 = .ok (.iload 4, 2) := by decide +kernel
theorem d_LW_law_284 : decode b_LW_law 284 = .ok (.iconst 3, 1) := by decide +kernel
theorem d_LW_law_285 : decode b_LW_law 285 = .ok (.iadd, 1) := by decide +kernel
theorem d_LW_law_286 : decode b_LW_law 286 = .ok (.iaload, 1) := by decide +kernel
theorem d_LW_law_287 : decode b_LW_law 287 = .ok (.invokevirtual 76, 3) := by decide +kernel
theorem d_LW_law_290 : decode b_LW_law 290 = .ok (.aload_n 2, 1) := by decide +kernel
theorem d_LW_law_291 : decode b_LW_law 291 = .ok (.invokevirtual 63, 3) := by decide +kernel
theorem d_LW_law_294 : decode b_LW_law 294 = .ok (.iload 5, 2) := by decide +kernel
theorem d_LW_law_296 : decode b_LW_law 296 = .ok (.if_icmp .eq 5, 3) := by decide +kernel
theorem d_LW_law_299 : decode b_LW_law 299 = .ok (.iconst 0, 1) := by decide +kernel
theorem d_LW_law_300 : decode b_LW_law 300 = .ok (.ireturn, 1) := by decide +kernel
theorem d_LW_law_301 : decode b_LW_law 301 = .ok (.goto 404, 3) := by decide +kernel
theorem d_LW_law_304 : decode b_LW_law 304 = .ok (.aload_n 1, 1) := by decide +kernel
theorem d_LW_law_305 : decode b_LW_law 305 = .ok (.invokevirtual 77, 3) := by decide +kernel
theorem d_LW_law_308 : decode b_LW_law 308 = .ok (.aload_n 2, 1) := by decide +kernel
theorem d_LW_law_309 : decode b_LW_law 309 = .ok (.invokevirtual 80, 3) := by decide +kernel
theorem d_LW_law_312 : decode b_LW_law 312 = .ok (.if_icmp .eq 393, 3) := by decide +kernel
theorem d_LW_law_315 : decode b_LW_law 315 = .ok (.iconst 0, 1) := by decide +kernel
theorem d_LW_law_316 : decode b_LW_law 316 = .ok (.ireturn, 1) := by decide +kernel
theorem d_LW_law_317 : decode b_LW_law 317 = .ok (.aload_n 1, 1) := by decide +kernel
theorem d_LW_law_318 : decode b_LW_law 318 = .ok (.aload_n 3, 1) := by decide +kernel
theorem d_LW_law_319 : decode b_LW_law 319 = .ok (.invokestatic 81, 3) := by decide +kernel
theorem d_LW_law_322 : decode b_LW_law 322 = .ok (.istore 5, 2) := by decide +kernel
theorem d_LW_law_324 : decode b_LW_law 324 = .ok (.aload_n 2, 1) := by decide +kernel
theorem d_LW_law_325 : decode b_LW_law 325 = .ok (.invokevirtual 84, 3) := by decide +kernel
theorem d_LW_law_328 : decode b_LW_law 328 = .ok (.istore 6, 2) := by decide +kernel
theorem d_LW_law_330 : decode b_LW_law 330 = .ok (.aload_n 2, 1) := by decide +kernel
theorem d_LW_law_331 : decode b_LW_law 331 = .ok (.invokevirtual 63, 3) := by decide +kernel
theorem d_LW_law_334 : decode b_LW_law 334 = .ok (.iload 5, 2) := by decide +kernel
theorem d_LW_law_336 : decode b_LW_law 336 = .ok (.if_icmp .eq 5, 3) := by decide +kernel
theorem d_LW_law_339 : decode b_LW_law 339 = .ok (.iconst 0, 1) := by decide +kernel
theorem d_LW_law_340 : decode b_LW_law 340 = .ok (.ireturn, 1) := by decide +kernel
theorem d_LW_law_341 : decode b_LW_law 341 = .ok (.iload 5, 2) := by decide +kernel
theorem d_LW_law_343 : decode b_LW_law 343 = .ok (.ifCond .ne 15, 3) := by decide +kernel
theorem d_LW_law_346 : decode b_LW_law 346 = .ok (.aload_n 3, 1) := by decide +kernel
theorem d_LW_law_347 : decode b_LW_law 347 = .ok (.iconst 0, 1) := by decide +kernel
theorem d_LW_law_348 : decode b_LW_law 348 = .ok (.laload, 1) := by decide +kernel
theorem d_LW_law_349 : decode b_LW_law 349 = .ok (.iload 6, 2) := by decide +kernel
theorem d_LW_law_351 : decode b_LW_law 351 = .ok (.i2l, 1) := by decide +kernel
theorem d_LW_law_352 : decode b_LW_law 352 = .ok (.lcmp, 1) := by decide +kernel
theorem d_LW_law_353 : decode b_LW_law 353 = .ok (.ifCond .eq 5, 3) := by decide +kernel
theorem d_LW_law_356 : decode b_LW_law 356 = .ok (.iconst 0, 1) := by decide +kernel
theorem d_LW_law_357 : decode b_LW_law 357 = .ok (.ireturn, 1) := by decide +kernel
theorem d_LW_law_358 : decode b_LW_law 358 = .ok (.goto 347, 3) := by decide +kernel
theorem d_LW_law_361 : decode b_LW_law 361 = .ok (.aload_n 1, 1) := by decide +kernel
theorem d_LW_law_362 : decode b_LW_law 362 = .ok (.aload_n 0, 1) := by decide +kernel
theorem d_LW_law_363 : decode b_LW_law 363 = .ok (.iload 4, 2) := by decide +kernel
theorem d_LW_law_365 : decode b_LW_law 365 = .ok (.iconst 1, 1) := by decide +kernel
theorem d_LW_law_366 : decode b_LW_law 366 = .ok (.iadd, 1) := by decide +kernel
theorem d_LW_law_367 : decode b_LW_law 367 = .ok (.iaload, 1) := by decide +kernel
theorem d_LW_law_368 : decode b_LW_law 368 = .ok (.aload_n 3, 1) := by decide +kernel
theorem d_LW_law_369 : decode b_LW_law 369 = .ok (.invokestatic 85, 3) := by decide +kernel
theorem d_LW_law_372 : decode b_LW_law 372 = .ok (.istore 5, 2) := by decide +kernel
theorem d_LW_law_374 : decode b_LW_law 374 = .ok (.aload_n 2, 1) := by decide +kernel
theorem d_LW_law_375 : decode b_LW_law 375 = .ok (.aload_n 0, 1) := by decide +kernel
theorem d_LW_law_376 : decode b_LW_law 376 = .ok (.iload 4, 2) := by decide +kernel
theorem d_LW_law_378 : decode b_LW_law 378 = .ok (.iconst 1, 1) := by decide +kernel
theorem d_LW_law_379 : decode b_LW_law 379 = .ok (.iadd, 1) := by decide +kernel
theorem d_LW_law_380 : decode b_LW_law 380 = .ok (.iaload, 1) := by decide +kernel
theorem d_LW_law_381 : decode b_LW_law 381 = .ok (.invokevirtual 88, 3) := by decide +kernel
theorem d_LW_law_384 : decode b_LW_law 384 = .ok (.istore 6, 2) := by decide +kernel
theorem d_LW_law_386 : decode b_LW_law 386 = .ok (.aload_n 2, 1) := by decide +kernel
theorem d_LW_law_387 : decode b_LW_law 387 = .ok (.invokevirtual 63, 3) := by decide +kernel
theorem d_LW_law_390 : decode b_LW_law 390 = .ok (.iload 5, 2) := by decide +kernel
theorem d_LW_law_392 : decode b_LW_law 392 = .ok (.if_icmp .eq 5, 3) := by decide +kernel
theorem d_LW_law_395 : decode b_LW_law 395 = .ok (.iconst 0, 1) := by decide +kernel
theorem d_LW_law_396 : decode b_LW_law 396 = .ok (.ireturn, 1) := by decide +kernel
theorem d_LW_law_397 : decode b_LW_law 397 = .ok (.iload 5, 2) := by decide +kernel
theorem d_LW_law_399 : decode b_LW_law 399 = .ok (.ifCond .ne 15, 3) := by decide +kernel
theorem d_LW_law_402 : decode b_LW_law 402 = .ok (.aload_n 3, 1) := by decide +kernel
theorem d_LW_law_403 : decode b_LW_law 403 = .ok (.iconst 0, 1) := by decide +kernel
theorem d_LW_law_404 : decode b_LW_law 404 = .ok (.laload, 1) := by decide +kernel
theorem d_LW_law_405 : decode b_LW_law 405 = .ok (.iload 6, 2) := by decide +kernel
theorem d_LW_law_407 : decode b_LW_law 407 = .ok (.i2l, 1) := by decide +kernel
theorem d_LW_law_408 : decode b_LW_law 408 = .ok (.lcmp, 1) := by decide +kernel
theorem d_LW_law_409 : decode b_LW_law 409 = .ok (.ifCond .eq 5, 3) := by decide +kernel
theorem d_LW_law_412 : decode b_LW_law 412 = .ok (.iconst 0, 1) := by decide +kernel
theorem d_LW_law_413 : decode b_LW_law 413 = .ok (.ireturn, 1) := by decide +kernel
theorem d_LW_law_414 : decode b_LW_law 414 = .ok (.goto 291, 3) := by decide +kernel
theorem d_LW_law_417 : decode b_LW_law 417 = .ok (.aload_n 1, 1) := by decide +kernel
theorem d_LW_law_418 : decode b_LW_law 418 = .ok (.aload_n 0, 1) := by decide +kernel
theorem d_LW_law_419 : decode b_LW_law 419 = .ok (.iload 4, 2) := by decide +kernel
theorem d_LW_law_421 : decode b_LW_law 421 = .ok (.iconst 1, 1) := by decide +kernel
theorem d_LW_law_422 : decode b_LW_law 422 = .ok (.iadd, 1) := by decide +kernel
theorem d_LW_law_423 : decode b_LW_law 423 = .ok (.iaload, 1) := by decide +kernel
theorem d_LW_law_424 : decode b_LW_law 424 = .ok (.aload_n 0, 1) := by decide +kernel
theorem d_LW_law_425 : decode b_LW_law 425 = .ok (.iload 4, 2) := by decide +kernel
theorem d_LW_law_427 : decode b_LW_law 427 = .ok (.iconst 2, 1) := by decide +kernel
theorem d_LW_law_428 : decode b_LW_law 428 = .ok (.iadd, 1) := by decide +kernel
theorem d_LW_law_429 : decode b_LW_law 429 = .ok (.iaload, 1) := by decide +kernel
theorem d_LW_law_430 : decode b_LW_law 430 = .ok (.aload_n 3, 1) := by decide +kernel
theorem d_LW_law_431 : decode b_LW_law 431 = .ok (.invokestatic 89, 3) := by decide +kernel
theorem d_LW_law_434 : decode b_LW_law 434 = .ok (.istore 5, 2) := by decide +kernel
theorem d_LW_law_436 : decode b_LW_law 436 = .ok (.aload_n 2, 1) := by decide +kernel
theorem d_LW_law_437 : decode b_LW_law 437 = .ok (.aload_n 0, 1) := by decide +kernel
theorem d_LW_law_438 : decode b_LW_law 438 = .ok (.iload 4, 2) := by decide +kernel
theorem d_LW_law_440 : decode b_LW_law 440 = .ok (.iconst 1, 1) := by decide +kernel
theorem d_LW_law_441 : decode b_LW_law 441 = .ok (.iadd, 1) := by decide +kernel
theorem d_LW_law_442 : decode b_LW_law 442 = .ok (.iaload, 1) := by decide +kernel
theorem d_LW_law_443 : decode b_LW_law 443 = .ok (.aload_n 0, 1) := by decide +kernel
theorem d_LW_law_444 : decode b_LW_law 444 = .ok (.iload 4, 2) := by decide +kernel
theorem d_LW_law_446 : decode b_LW_law 446 = .ok (.iconst 2, 1) := by decide +kernel
theorem d_LW_law_447 : decode b_LW_law 447 = .ok (.iadd, 1) := by decide +kernel
theorem d_LW_law_448 : decode b_LW_law 448 = .ok (.iaload, 1) := by decide +kernel
theorem d_LW_law_449 : decode b_LW_law 449 = .ok (.invokevirtual 92, 3) := by decide +kernel
theorem d_LW_law_452 : decode b_LW_law 452 = .ok (.istore 6, 2) := by decide +kernel
theorem d_LW_law_454 : decode b_LW_law 454 = .ok (.aload_n 2, 1) := by decide +kernel
theorem d_LW_law_455 : decode b_LW_law 455 = .ok (.invokevirtual 63, 3) := by decide +kernel
theorem d_LW_law_458 : decode b_LW_law 458 = .ok (.iload 5, 2) := by decide +kernel
theorem d_LW_law_460 : decode b_LW_law 460 = .ok (.if_icmp .eq 5, 3) := by decide +kernel
theorem d_LW_law_463 : decode b_LW_law 463 = .ok (.iconst 0, 1) := by decide +kernel
theorem d_LW_law_464 : decode b_LW_law 464 = .ok (.ireturn, 1) := by decide +kernel
theorem d_LW_law_465 : decode b_LW_law 465 = .ok (.iload 5, 2) := by decide +kernel
theorem d_LW_law_467 : decode b_LW_law 467 = .ok (.ifCond .ne 15, 3) := by decide +kernel
theorem d_LW_law_470 : decode b_LW_law 470 = .ok (.aload_n 3, 1) := by decide +kernel
theorem d_LW_law_471 : decode b_LW_law 471 = .ok (.iconst 0, 1) := by decide +kernel
theorem d_LW_law_472 : decode b_LW_law 472 = .ok (.laload, 1) := by decide +kernel
theorem d_LW_law_473 : decode b_LW_law 473 = .ok (.iload 6, 2) := by decide +kernel
theorem d_LW_law_475 : decode b_LW_law 475 = .ok (.i2l, 1) := by decide +kernel
theorem d_LW_law_476 : decode b_LW_law 476 = .ok (.lcmp, 1) := by decide +kernel
theorem d_LW_law_477 : decode b_LW_law 477 = .ok (.ifCond .eq 5, 3) := by decide +kernel
theorem d_LW_law_480 : decode b_LW_law 480 = .ok (.iconst 0, 1) := by decide +kernel
theorem d_LW_law_481 : decode b_LW_law 481 = .ok (.ireturn, 1) := by decide +kernel
theorem d_LW_law_482 : decode b_LW_law 482 = .ok (.goto 223, 3) := by decide +kernel
theorem d_LW_law_485 : decode b_LW_law 485 = .ok (.aload_n 1, 1) := by decide +kernel
theorem d_LW_law_486 : decode b_LW_law 486 = .ok (.aload_n 0, 1) := by decide +kernel
theorem d_LW_law_487 : decode b_LW_law 487 = .ok (.iload 4, 2) := by decide +kernel
theorem d_LW_law_489 : decode b_LW_law 489 = .ok (.iconst 1, 1) := by decide +kernel
theorem d_LW_law_490 : decode b_LW_law 490 = .ok (.iadd, 1) := by decide +kernel
theorem d_LW_law_491 : decode b_LW_law 491 = .ok (.iaload, 1) := by decide +kernel
theorem d_LW_law_492 : decode b_LW_law 492 = .ok (.aload_n 3, 1) := by decide +kernel
theorem d_LW_law_493 : decode b_LW_law 493 = .ok (.invokestatic 93, 3) := by decide +kernel
theorem d_LW_law_496 : decode b_LW_law 496 = .ok (.istore 5, 2) := by decide +kernel
theorem d_LW_law_498 : decode b_LW_law 498 = .ok (.aload_n 2, 1) := by decide +kernel
theorem d_LW_law_499 : decode b_LW_law 499 = .ok (.aload_n 0, 1) := by decide +kernel
theorem d_LW_law_500 : decode b_LW_law 500 = .ok (.iload 4, 2) := by decide +kernel
theorem d_LW_law_502 : decode b_LW_law 502 = .ok (.iconst 1, 1) := by decide +kernel
theorem d_LW_law_503 : decode b_LW_law 503 = .ok (.iadd, 1) := by decide +kernel
theorem d_LW_law_504 : decode b_LW_law 504 = .ok (.iaload, 1) := by decide +kernel
theorem d_LW_law_505 : decode b_LW_law 505 = .ok (.invokevirtual 95, 3) := by decide +kernel
theorem d_LW_law_508 : decode b_LW_law 508 = .ok (.istore 6, 2) := by decide +kernel
theorem d_LW_law_510 : decode b_LW_law 510 = .ok (.aload_n 2, 1) := by decide +kernel
theorem d_LW_law_511 : decode b_LW_law 511 = .ok (.invokevirtual 63, 3) := by decide +kernel
theorem d_LW_law_514 : decode b_LW_law 514 = .ok (.iload 5, 2) := by decide +kernel
theorem d_LW_law_516 : decode b_LW_law 516 = .ok (.if_icmp .eq 5, 3) := by decide +kernel
theorem d_LW_law_519 : decode b_LW_law 519 = .ok (.iconst 0, 1) := by decide +kernel
theorem d_LW_law_520 : decode b_LW_law 520 = .ok (.ireturn, 1) := by decide +kernel
theorem d_LW_law_521 : decode b_LW_law 521 = .ok (.iload 5, 2) := by decide +kernel
theorem d_LW_law_523 : decode b_LW_law 523 = .ok (.ifCond .ne 15, 3) := by decide +kernel
theorem d_LW_law_526 : decode b_LW_law 526 = .ok (.aload_n 3, 1) := by decide +kernel
theorem d_LW_law_527 : decode b_LW_law 527 = .ok (.iconst 0, 1) := by decide +kernel
theorem d_LW_law_528 : decode b_LW_law 528 = .ok (.laload, 1) := by decide +kernel
theorem d_LW_law_529 : decode b_LW_law 529 = .ok (.iload 6, 2) := by decide +kernel
theorem d_LW_law_531 : decode b_LW_law 531 = .ok (.i2l, 1) := by decide +kernel
theorem d_LW_law_532 : decode b_LW_law 532 = .ok (.lcmp, 1) := by decide +kernel
theorem d_LW_law_533 : decode b_LW_law 533 = .ok (.ifCond .eq 5, 3) := by decide +kernel
theorem d_LW_law_536 : decode b_LW_law 536 = .ok (.iconst 0, 1) := by decide +kernel
theorem d_LW_law_537 : decode b_LW_law 537 = .ok (.ireturn, 1) := by decide +kernel
theorem d_LW_law_538 : decode b_LW_law 538 = .ok (.goto 167, 3) := by decide +kernel
theorem d_LW_law_541 : decode b_LW_law 541 = .ok (.aload_n 1, 1) := by decide +kernel
theorem d_LW_law_542 : decode b_LW_law 542 = .ok (.aload_n 0, 1) := by decide +kernel
theorem d_LW_law_543 : decode b_LW_law 543 = .ok (.iload 4, 2) := by decide +kernel
theorem d_LW_law_545 : decode b_LW_law 545 = .ok (.iconst 1, 1) := by decide +kernel
theorem d_LW_law_546 : decode b_LW_law 546 = .ok (.iadd, 1) := by decide +kernel
theorem d_LW_law_547 : decode b_LW_law 547 = .ok (.iaload, 1) := by decide +kernel
theorem d_LW_law_548 : decode b_LW_law 548 = .ok (.ifCond .eq 7, 3) := by decide +kernel
theorem d_LW_law_551 : decode b_LW_law 551 = .ok (.iconst 1, 1) := by decide +kernel
theorem d_LW_law_552 : decode b_LW_law 552 = .ok (.goto 4, 3) := by decide +kernel
theorem d_LW_law_555 : decode b_LW_law 555 = .ok (.iconst 0, 1) := by decide +kernel
theorem d_LW_law_556 : decode b_LW_law 556 = .ok (.invokestatic 96, 3) := by decide +kernel
theorem d_LW_law_559 : decode b_LW_law 559 = .ok (.istore 5, 2) := by decide +kernel
theorem d_LW_law_561 : decode b_LW_law 561 = .ok (.aload_n 2, 1) := by decide +kernel
theorem d_LW_law_562 : decode b_LW_law 562 = .ok (.aload_n 0, 1) := by decide +kernel
theorem d_LW_law_563 : decode b_LW_law 563 = .ok (.iload 4, 2) := by decide +kernel
theorem d_LW_law_565 : decode b_LW_law 565 = .ok (.iconst 1, 1) := by decide +kernel
theorem d_LW_law_566 : decode b_LW_law 566 = .ok (.iadd, 1) := by decide +kernel
theorem d_LW_law_567 : decode b_LW_law 567 = .ok (.iaload, 1) := by decide +kernel
theorem d_LW_law_568 : decode b_LW_law 568 = .ok (.ifCond .eq 7, 3) := by decide +kernel
theorem d_LW_law_571 : decode b_LW_law 571 = .ok (.iconst 1, 1) := by decide +kernel
theorem d_LW_law_572 : decode b_LW_law 572 = .ok (.goto 4, 3) := by decide +kernel
theorem d_LW_law_575 : decode b_LW_law 575 = .ok (.iconst 0, 1) := by decide +kernel
theorem d_LW_law_576 : decode b_LW_law 576 = .ok (.invokevirtual 99, 3) := by decide +kernel
theorem d_LW_law_579 : decode b_LW_law 579 = .ok (.aload_n 2, 1) := by decide +kernel
theorem d_LW_law_580 : decode b_LW_law 580 = .ok (.invokevirtual 63, 3) := by decide +kernel
theorem d_LW_law_583 : decode b_LW_law 583 = .ok (.iload 5, 2) := by decide +kernel
theorem d_LW_law_585 : decode b_LW_law 585 = .ok (.if_icmp .eq 5, 3) := by decide +kernel
theorem d_LW_law_588 : decode b_LW_law 588 = .ok (.iconst 0, 1) := by decide +kernel
theorem d_LW_law_589 : decode b_LW_law 589 = .ok (.ireturn, 1) := by decide +kernel
theorem d_LW_law_590 : decode b_LW_law 590 = .ok (.goto 115, 3) := by decide +kernel
theorem d_LW_law_593 : decode b_LW_law 593 = .ok (.aload_n 1, 1) := by decide +kernel
theorem d_LW_law_594 : decode b_LW_law 594 = .ok (.aload_n 0, 1) := by decide +kernel
theorem d_LW_law_595 : decode b_LW_law 595 = .ok (.iload 4, 2) := by decide +kernel
theorem d_LW_law_597 : decode b_LW_law 597 = .ok (.iconst 1, 1) := by decide +kernel
theorem d_LW_law_598 : decode b_LW_law 598 = .ok (.iadd, 1) := by decide +kernel
theorem d_LW_law_599 : decode b_LW_law 599 = .ok (.iaload, 1) := by decide +kernel
theorem d_LW_law_600 : decode b_LW_law 600 = .ok (.aload_n 3, 1) := by decide +kernel
theorem d_LW_law_601 : decode b_LW_law 601 = .ok (.invokestatic 100, 3) := by decide +kernel
theorem d_LW_law_604 : decode b_LW_law 604 = .ok (.istore 5, 2) := by decide +kernel
theorem d_LW_law_606 : decode b_LW_law 606 = .ok (.aload_n 2, 1) := by decide +kernel
theorem d_LW_law_607 : decode b_LW_law 607 = .ok (.aload_n 0, 1) := by decide +kernel
theorem d_LW_law_608 : decode b_LW_law 608 = .ok (.iload 4, 2) := by decide +kernel
theorem d_LW_law_610 : decode b_LW_law 610 = .ok (.iconst 1, 1) := by decide +kernel
theorem d_LW_law_611 : decode b_LW_law 611 = .ok (.iadd, 1) := by decide +kernel
theorem d_LW_law_612 : decode b_LW_law 612 = .ok (.iaload, 1) := by decide +kernel
theorem d_LW_law_613 : decode b_LW_law 613 = .ok (.invokevirtual 102, 3) := by decide +kernel
theorem d_LW_law_616 : decode b_LW_law 616 = .ok (.istore 6, 2) := by decide +kernel
theorem d_LW_law_618 : decode b_LW_law 618 = .ok (.aload_n 2, 1) := by decide +kernel
theorem d_LW_law_619 : decode b_LW_law 619 = .ok (.invokevirtual 63, 3) := by decide +kernel
theorem d_LW_law_622 : decode b_LW_law 622 = .ok (.iload 5, 2) := by decide +kernel
theorem d_LW_law_624 : decode b_LW_law 624 = .ok (.if_icmp .eq 5, 3) := by decide +kernel
theorem d_LW_law_627 : decode b_LW_law 627 = .ok (.iconst 0, 1) := by decide +kernel
theorem d_LW_law_628 : decode b_LW_law 628 = .ok (.ireturn, 1) := by decide +kernel
theorem d_LW_law_629 : decode b_LW_law 629 = .ok (.iload 5, 2) := by decide +kernel
theorem d_LW_law_631 : decode b_LW_law 631 = .ok (.ifCond .ne 15, 3) := by decide +kernel
theorem d_LW_law_634 : decode b_LW_law 634 = .ok (.aload_n 3, 1) := by decide +kernel
theorem d_LW_law_635 : decode b_LW_law 635 = .ok (.iconst 0, 1) := by decide +kernel
theorem d_LW_law_636 : decode b_LW_law 636 = .ok (.laload, 1) := by decide +kernel
theorem d_LW_law_637 : decode b_LW_law 637 = .ok (.iload 6, 2) := by decide +kernel
theorem d_LW_law_639 : decode b_LW_law 639 = .ok (.i2l, 1) := by decide +kernel
theorem d_LW_law_640 : decode b_LW_law 640 = .ok (.lcmp, 1) := by decide +kernel
theorem d_LW_law_641 : decode b_LW_law 641 = .ok (.ifCond .eq 5, 3) := by decide +kernel
theorem d_LW_law_644 : decode b_LW_law 644 = .ok (.iconst 0, 1) := by decide +kernel
theorem d_LW_law_645 : decode b_LW_law 645 = .ok (.ireturn, 1) := by decide +kernel
theorem d_LW_law_646 : decode b_LW_law 646 = .ok (.goto 59, 3) := by decide +kernel
theorem d_LW_law_649 : decode b_LW_law 649 = .ok (.aload_n 1, 1) := by decide +kernel
theorem d_LW_law_650 : decode b_LW_law 650 = .ok (.aload_n 0, 1) := by decide +kernel
theorem d_LW_law_651 : decode b_LW_law 651 = .ok (.iload 4, 2) := by decide +kernel
theorem d_LW_law_653 : decode b_LW_law 653 = .ok (.iconst 1, 1) := by decide +kernel
theorem d_LW_law_654 : decode b_LW_law 654 = .ok (.iadd, 1) := by decide +kernel
theorem d_LW_law_655 : decode b_LW_law 655 = .ok (.iaload, 1) := by decide +kernel
theorem d_LW_law_656 : decode b_LW_law 656 = .ok (.aload_n 3, 1) := by decide +kernel
theorem d_LW_law_657 : decode b_LW_law 657 = .ok (.invokestatic 103, 3) := by decide +kernel
theorem d_LW_law_660 : decode b_LW_law 660 = .ok (.istore 5, 2) := by decide +kernel
theorem d_LW_law_662 : decode b_LW_law 662 = .ok (.aload_n 2, 1) := by decide +kernel
theorem d_LW_law_663 : decode b_LW_law 663 = .ok (.aload_n 0, 1) := by decide +kernel
theorem d_LW_law_664 : decode b_LW_law 664 = .ok (.iload 4, 2) := by decide +kernel
theorem d_LW_law_666 : decode b_LW_law 666 = .ok (.iconst 1, 1) := by decide +kernel
theorem d_LW_law_667 : decode b_LW_law 667 = .ok (.iadd, 1) := by decide +kernel
theorem d_LW_law_668 : decode b_LW_law 668 = .ok (.iaload, 1) := by decide +kernel
theorem d_LW_law_669 : decode b_LW_law 669 = .ok (.invokevirtual 105, 3) := by decide +kernel
theorem d_LW_law_672 : decode b_LW_law 672 = .ok (.istore 6, 2) := by decide +kernel
theorem d_LW_law_674 : decode b_LW_law 674 = .ok (.aload_n 2, 1) := by decide +kernel
theorem d_LW_law_675 : decode b_LW_law 675 = .ok (.invokevirtual 63, 3) := by decide +kernel
theorem d_LW_law_678 : decode b_LW_law 678 = .ok (.iload 5, 2) := by decide +kernel
theorem d_LW_law_680 : decode b_LW_law 680 = .ok (.if_icmp .eq 5, 3) := by decide +kernel
theorem d_LW_law_683 : decode b_LW_law 683 = .ok (.iconst 0, 1) := by decide +kernel
theorem d_LW_law_684 : decode b_LW_law 684 = .ok (.ireturn, 1) := by decide +kernel
theorem d_LW_law_685 : decode b_LW_law 685 = .ok (.iload 5, 2) := by decide +kernel
theorem d_LW_law_687 : decode b_LW_law 687 = .ok (.ifCond .ne 15, 3) := by decide +kernel
theorem d_LW_law_690 : decode b_LW_law 690 = .ok (.aload_n 3, 1) := by decide +kernel
theorem d_LW_law_691 : decode b_LW_law 691 = .ok (.iconst 0, 1) := by decide +kernel
theorem d_LW_law_692 : decode b_LW_law 692 = .ok (.laload, 1) := by decide +kernel
theorem d_LW_law_693 : decode b_LW_law 693 = .ok (.iload 6, 2) := by decide +kernel
theorem d_LW_law_695 : decode b_LW_law 695 = .ok (.i2l, 1) := by decide +kernel
theorem d_LW_law_696 : decode b_LW_law 696 = .ok (.lcmp, 1) := by decide +kernel
theorem d_LW_law_697 : decode b_LW_law 697 = .ok (.ifCond .eq 5, 3) := by decide +kernel
theorem d_LW_law_700 : decode b_LW_law 700 = .ok (.iconst 0, 1) := by decide +kernel
theorem d_LW_law_701 : decode b_LW_law 701 = .ok (.ireturn, 1) := by decide +kernel
theorem d_LW_law_702 : decode b_LW_law 702 = .ok (.goto 3, 3) := by decide +kernel
theorem d_LW_law_705 : decode b_LW_law 705 = .ok (.iinc 4 4, 3) := by decide +kernel
theorem d_LW_law_708 : decode b_LW_law 708 = .ok (.goto (-685), 3) := by decide +kernel
theorem d_LW_law_711 : decode b_LW_law 711 = .ok (.iconst 1, 1) := by decide +kernel
theorem d_LW_law_712 : decode b_LW_law 712 = .ok (.ireturn, 1) := by decide +kernel
theorem tw_423 : (Cond.codeWith y_LW_line b_LW_line 3 (some .int) [(0, 5, 8, 13)] : Cond) ∈ tb0 := tb_t 249 (by decide +kernel) (by decide +kernel)
theorem tw_424 : (Cond.initialized R_LW : Cond) ∈ tb0 := tb_t 0 (by decide +kernel) (by decide +kernel)
theorem tw_425 : (Cond.methodLink R_LW 57 y_LW_line : Cond) ∈ tb0 := tb_t 247 (by decide +kernel) (by decide +kernel)
theorem tw_426 : (Cond.static y_LW_line : Cond) ∈ tb0 := tb_t 248 (by decide +kernel) (by decide +kernel)
theorem tw_427 : (Cond.methodLink R_LW 62 y_MD_line : Cond) ∈ tb0 := tb_t 629 (by decide +kernel) (by decide +kernel)
theorem tw_428 : (Cond.instanceMethod y_MD_line : Cond) ∈ tb0 := tb_t 630 (by decide +kernel) (by decide +kernel)
theorem tw_429 : (Cond.selects R_MD y_MD_line y_MD_line : Cond) ∈ tb0 := tb_t 631 (by decide +kernel) (by decide +kernel)
theorem tw_430 : (Cond.code y_MD_line b_MD_line 2 none : Cond) ∈ tb0 := tb_t 632 (by decide +kernel) (by decide +kernel)
theorem tw_431 : (Cond.methodLink R_LW 63 y_MD_thrown : Cond) ∈ tb0 := tb_t 625 (by decide +kernel) (by decide +kernel)
theorem tw_432 : (Cond.instanceMethod y_MD_thrown : Cond) ∈ tb0 := tb_t 626 (by decide +kernel) (by decide +kernel)
theorem tw_433 : (Cond.selects R_MD y_MD_thrown y_MD_thrown : Cond) ∈ tb0 := tb_t 627 (by decide +kernel) (by decide +kernel)
theorem tw_434 : (Cond.code y_MD_thrown b_MD_thrown 1 (some .int) : Cond) ∈ tb0 := tb_t 628 (by decide +kernel) (by decide +kernel)
theorem tw_435 : (Cond.codeWith y_LW_soak b_LW_soak 5 (some .int) [(0, 7, 10, 13)] : Cond) ∈ tb0 := tb_t 326 (by decide +kernel) (by decide +kernel)
theorem tw_436 : (Cond.methodLink R_LW 66 y_LW_soak : Cond) ∈ tb0 := tb_t 324 (by decide +kernel) (by decide +kernel)
theorem tw_437 : (Cond.static y_LW_soak : Cond) ∈ tb0 := tb_t 325 (by decide +kernel) (by decide +kernel)
theorem tw_438 : (Cond.methodLink R_LW 69 y_MD_soak : Cond) ∈ tb0 := tb_t 640 (by decide +kernel) (by decide +kernel)
theorem tw_439 : (Cond.instanceMethod y_MD_soak : Cond) ∈ tb0 := tb_t 641 (by decide +kernel) (by decide +kernel)
theorem tw_440 : (Cond.selects R_MD y_MD_soak y_MD_soak : Cond) ∈ tb0 := tb_t 642 (by decide +kernel) (by decide +kernel)
theorem tw_441 : (Cond.code y_MD_soak b_MD_soak 4 none : Cond) ∈ tb0 := tb_t 643 (by decide +kernel) (by decide +kernel)
theorem tw_442 : (Cond.codeWith y_LW_loaded b_LW_loaded 4 (some .int) [(0, 6, 9, 13)] : Cond) ∈ tb0 := tb_t 337 (by decide +kernel) (by decide +kernel)
theorem tw_443 : (Cond.methodLink R_LW 70 y_LW_loaded : Cond) ∈ tb0 := tb_t 335 (by decide +kernel) (by decide +kernel)
theorem tw_444 : (Cond.static y_LW_loaded : Cond) ∈ tb0 := tb_t 336 (by decide +kernel) (by decide +kernel)
theorem tw_445 : (Cond.methodLink R_LW 73 y_MD_loaded : Cond) ∈ tb0 := tb_t 644 (by decide +kernel) (by decide +kernel)
theorem tw_446 : (Cond.instanceMethod y_MD_loaded : Cond) ∈ tb0 := tb_t 645 (by decide +kernel) (by decide +kernel)
theorem tw_447 : (Cond.selects R_MD y_MD_loaded y_MD_loaded : Cond) ∈ tb0 := tb_t 646 (by decide +kernel) (by decide +kernel)
theorem tw_448 : (Cond.code y_MD_loaded b_MD_loaded 3 none : Cond) ∈ tb0 := tb_t 647 (by decide +kernel) (by decide +kernel)
theorem tw_449 : (Cond.codeWith y_LW_empty b_LW_empty 5 (some .int) [(0, 7, 10, 13)] : Cond) ∈ tb0 := tb_t 348 (by decide +kernel) (by decide +kernel)
theorem tw_450 : (Cond.methodLink R_LW 74 y_LW_empty : Cond) ∈ tb0 := tb_t 346 (by decide +kernel) (by decide +kernel)
theorem tw_451 : (Cond.static y_LW_empty : Cond) ∈ tb0 := tb_t 347 (by decide +kernel) (by decide +kernel)
theorem tw_452 : (Cond.methodLink R_LW 76 y_MD_empty : Cond) ∈ tb0 := tb_t 648 (by decide +kernel) (by decide +kernel)
theorem tw_453 : (Cond.instanceMethod y_MD_empty : Cond) ∈ tb0 := tb_t 649 (by decide +kernel) (by decide +kernel)
theorem tw_454 : (Cond.selects R_MD y_MD_empty y_MD_empty : Cond) ∈ tb0 := tb_t 650 (by decide +kernel) (by decide +kernel)
theorem tw_455 : (Cond.code y_MD_empty b_MD_empty 4 none : Cond) ∈ tb0 := tb_t 651 (by decide +kernel) (by decide +kernel)
theorem tw_456 : (Cond.methodLink R_LW 77 y_HP_ready : Cond) ∈ tb0 := tb_t 231 (by decide +kernel) (by decide +kernel)
theorem tw_457 : (Cond.instanceMethod y_HP_ready : Cond) ∈ tb0 := tb_t 232 (by decide +kernel) (by decide +kernel)
theorem tw_458 : (Cond.selects R_HP y_HP_ready y_HP_ready : Cond) ∈ tb0 := tb_t 233 (by decide +kernel) (by decide +kernel)
theorem tw_459 : (Cond.code y_HP_ready b_HP_ready 1 (some .int) : Cond) ∈ tb0 := tb_t 234 (by decide +kernel) (by decide +kernel)
theorem tw_460 : (Cond.methodLink R_LW 80 y_MD_ready : Cond) ∈ tb0 := tb_t 652 (by decide +kernel) (by decide +kernel)
theorem tw_461 : (Cond.instanceMethod y_MD_ready : Cond) ∈ tb0 := tb_t 653 (by decide +kernel) (by decide +kernel)
theorem tw_462 : (Cond.selects R_MD y_MD_ready y_MD_ready : Cond) ∈ tb0 := tb_t 654 (by decide +kernel) (by decide +kernel)
theorem tw_463 : (Cond.code y_MD_ready b_MD_ready 1 (some .int) : Cond) ∈ tb0 := tb_t 655 (by decide +kernel) (by decide +kernel)
theorem tw_464 : (Cond.codeWith y_LW_solve b_LW_solve 3 (some .int) [(0, 8, 11, 30)] : Cond) ∈ tb0 := tb_t 359 (by decide +kernel) (by decide +kernel)
theorem tw_465 : (Cond.methodLink R_LW 81 y_LW_solve : Cond) ∈ tb0 := tb_t 357 (by decide +kernel) (by decide +kernel)
theorem tw_466 : (Cond.static y_LW_solve : Cond) ∈ tb0 := tb_t 358 (by decide +kernel) (by decide +kernel)
theorem tw_467 : (Cond.methodLink R_LW 84 y_MD_solve : Cond) ∈ tb0 := tb_t 696 (by decide +kernel) (by decide +kernel)
theorem tw_468 : (Cond.instanceMethod y_MD_solve : Cond) ∈ tb0 := tb_t 697 (by decide +kernel) (by decide +kernel)
theorem tw_469 : (Cond.selects R_MD y_MD_solve y_MD_solve : Cond) ∈ tb0 := tb_t 698 (by decide +kernel) (by decide +kernel)
theorem tw_470 : (Cond.code y_MD_solve b_MD_solve 5 (some .int) : Cond) ∈ tb0 := tb_t 699 (by decide +kernel) (by decide +kernel)
theorem tw_471 : (Cond.codeWith y_LW_least b_LW_least 4 (some .int) [(0, 9, 12, 30), (0, 9, 15, 13)] : Cond) ∈ tb0 := tb_t 460 (by decide +kernel) (by decide +kernel)
theorem tw_472 : (Cond.methodLink R_LW 85 y_LW_least : Cond) ∈ tb0 := tb_t 458 (by decide +kernel) (by decide +kernel)
theorem tw_473 : (Cond.static y_LW_least : Cond) ∈ tb0 := tb_t 459 (by decide +kernel) (by decide +kernel)
theorem tw_474 : (Cond.methodLink R_LW 88 y_MD_least : Cond) ∈ tb0 := tb_t 660 (by decide +kernel) (by decide +kernel)
theorem tw_475 : (Cond.instanceMethod y_MD_least : Cond) ∈ tb0 := tb_t 661 (by decide +kernel) (by decide +kernel)
theorem tw_476 : (Cond.selects R_MD y_MD_least y_MD_least : Cond) ∈ tb0 := tb_t 662 (by decide +kernel) (by decide +kernel)
theorem tw_477 : (Cond.code y_MD_least b_MD_least 3 (some .int) : Cond) ∈ tb0 := tb_t 663 (by decide +kernel) (by decide +kernel)
theorem tw_478 : (Cond.codeWith y_LW_plan b_LW_plan 5 (some .int) [(0, 10, 13, 30), (0, 10, 17, 13)] : Cond) ∈ tb0 := tb_t 472 (by decide +kernel) (by decide +kernel)
theorem tw_479 : (Cond.methodLink R_LW 89 y_LW_plan : Cond) ∈ tb0 := tb_t 470 (by decide +kernel) (by decide +kernel)
theorem tw_480 : (Cond.static y_LW_plan : Cond) ∈ tb0 := tb_t 471 (by decide +kernel) (by decide +kernel)
theorem tw_481 : (Cond.methodLink R_LW 92 y_MD_plan : Cond) ∈ tb0 := tb_t 708 (by decide +kernel) (by decide +kernel)
theorem tw_482 : (Cond.instanceMethod y_MD_plan : Cond) ∈ tb0 := tb_t 709 (by decide +kernel) (by decide +kernel)
theorem tw_483 : (Cond.selects R_MD y_MD_plan y_MD_plan : Cond) ∈ tb0 := tb_t 710 (by decide +kernel) (by decide +kernel)
theorem tw_484 : (Cond.code y_MD_plan b_MD_plan 6 (some .int) : Cond) ∈ tb0 := tb_t 711 (by decide +kernel) (by decide +kernel)
theorem tw_485 : (Cond.codeWith y_LW_run b_LW_run 4 (some .int) [(0, 9, 12, 30), (0, 9, 15, 13)] : Cond) ∈ tb0 := tb_t 492 (by decide +kernel) (by decide +kernel)
theorem tw_486 : (Cond.methodLink R_LW 93 y_LW_run : Cond) ∈ tb0 := tb_t 490 (by decide +kernel) (by decide +kernel)
theorem tw_487 : (Cond.static y_LW_run : Cond) ∈ tb0 := tb_t 491 (by decide +kernel) (by decide +kernel)
theorem tw_488 : (Cond.methodLink R_LW 95 y_MD_run : Cond) ∈ tb0 := tb_t 716 (by decide +kernel) (by decide +kernel)
theorem tw_489 : (Cond.instanceMethod y_MD_run : Cond) ∈ tb0 := tb_t 717 (by decide +kernel) (by decide +kernel)
theorem tw_490 : (Cond.selects R_MD y_MD_run y_MD_run : Cond) ∈ tb0 := tb_t 718 (by decide +kernel) (by decide +kernel)
theorem tw_491 : (Cond.code y_MD_run b_MD_run 5 (some .int) : Cond) ∈ tb0 := tb_t 719 (by decide +kernel) (by decide +kernel)
theorem tw_492 : (Cond.codeWith y_LW_stop b_LW_stop 3 (some .int) [(0, 5, 8, 30)] : Cond) ∈ tb0 := tb_t 519 (by decide +kernel) (by decide +kernel)
theorem tw_493 : (Cond.methodLink R_LW 96 y_LW_stop : Cond) ∈ tb0 := tb_t 517 (by decide +kernel) (by decide +kernel)
theorem tw_494 : (Cond.static y_LW_stop : Cond) ∈ tb0 := tb_t 518 (by decide +kernel) (by decide +kernel)
theorem tw_495 : (Cond.methodLink R_LW 99 y_MD_stop : Cond) ∈ tb0 := tb_t 728 (by decide +kernel) (by decide +kernel)
theorem tw_496 : (Cond.instanceMethod y_MD_stop : Cond) ∈ tb0 := tb_t 729 (by decide +kernel) (by decide +kernel)
theorem tw_497 : (Cond.selects R_MD y_MD_stop y_MD_stop : Cond) ∈ tb0 := tb_t 730 (by decide +kernel) (by decide +kernel)
theorem tw_498 : (Cond.code y_MD_stop b_MD_stop 2 none : Cond) ∈ tb0 := tb_t 731 (by decide +kernel) (by decide +kernel)
theorem tw_499 : (Cond.codeWith y_LW_tank b_LW_tank 4 (some .int) [(0, 9, 12, 30), (0, 9, 15, 13)] : Cond) ∈ tb0 := tb_t 526 (by decide +kernel) (by decide +kernel)
theorem tw_500 : (Cond.methodLink R_LW 100 y_LW_tank : Cond) ∈ tb0 := tb_t 524 (by decide +kernel) (by decide +kernel)
theorem tw_501 : (Cond.static y_LW_tank : Cond) ∈ tb0 := tb_t 525 (by decide +kernel) (by decide +kernel)
theorem tw_502 : (Cond.methodLink R_LW 102 y_MD_tank : Cond) ∈ tb0 := tb_t 732 (by decide +kernel) (by decide +kernel)
theorem tw_503 : (Cond.instanceMethod y_MD_tank : Cond) ∈ tb0 := tb_t 733 (by decide +kernel) (by decide +kernel)
theorem tw_504 : (Cond.selects R_MD y_MD_tank y_MD_tank : Cond) ∈ tb0 := tb_t 734 (by decide +kernel) (by decide +kernel)
theorem tw_505 : (Cond.code y_MD_tank b_MD_tank 2 (some .int) : Cond) ∈ tb0 := tb_t 735 (by decide +kernel) (by decide +kernel)
theorem tw_506 : (Cond.codeWith y_LW_state b_LW_state 4 (some .int) [(0, 9, 12, 30), (0, 9, 15, 13)] : Cond) ∈ tb0 := tb_t 533 (by decide +kernel) (by decide +kernel)
theorem tw_507 : (Cond.methodLink R_LW 103 y_LW_state : Cond) ∈ tb0 := tb_t 531 (by decide +kernel) (by decide +kernel)
theorem tw_508 : (Cond.static y_LW_state : Cond) ∈ tb0 := tb_t 532 (by decide +kernel) (by decide +kernel)
theorem tw_509 : (Cond.methodLink R_LW 105 y_MD_state : Cond) ∈ tb0 := tb_t 736 (by decide +kernel) (by decide +kernel)
theorem tw_510 : (Cond.instanceMethod y_MD_state : Cond) ∈ tb0 := tb_t 737 (by decide +kernel) (by decide +kernel)
theorem tw_511 : (Cond.selects R_MD y_MD_state y_MD_state : Cond) ∈ tb0 := tb_t 738 (by decide +kernel) (by decide +kernel)
theorem tw_512 : (Cond.code y_MD_state b_MD_state 4 (some .int) : Cond) ∈ tb0 := tb_t 739 (by decide +kernel) (by decide +kernel)
/-- the class's state: v_x_planned, v_x_layout_tanks, v_x_tried_count, v_x_timing_rules, v_x_found_cycle, v_x_found_order_count, v_x_works_second, v_x_works_cycleSecond, v_x_works_nextRank, v_x_works_entryStopped, v_x_works_entered, v_x_works_done, v_x_works_lastStay, v_x_works_hoistCarrier, v_x_works_hoistMove, v_x_works_hoistEntry, v_x_works_hoistEnd, f_x_layout_low, f_x_layout_high, f_x_layout_loadedSeconds, f_x_tried_moves, f_x_tried_rank, f_x_timing_before, f_x_timing_after, f_x_timing_seconds, f_x_timing_turns, f_x_timing_cause, f_x_timing_times, f_x_found_order_moves, f_x_found_order_rank, f_x_found_times, f_x_works_carriers, f_x_works_entries, f_out, f_x_layout_emptySeconds -/
abbrev XS : Type := Int32 × Int32 × Int32 × Int32 × Int32 × Int32 × Int32 × Int32 × Int32 × Int32 × Int32 × Int32 × Int32 × Int32 × Int32 × Int32 × Int32 × (Nat → Int32) × (Nat → Int32) × (Nat → Int32) × (Nat → Int32) × (Nat → Int32) × (Nat → Int32) × (Nat → Int32) × (Nat → Int32) × (Nat → Int32) × (Nat → Int32) × (Nat → Int32) × (Nat → Int32) × (Nat → Int32) × (Nat → Int32) × (Nat → Int32) × (Nat → Int32) × (Nat → Int64) × (Nat → Nat → Int32)
/-- the reference's state: v_m_thrown, v_m_tanks, v_m_hasPlan, v_m_cycle, v_m_second, v_m_entered, v_m_done, v_m_took, v_m_stopped, v_m_move, v_m_ends, v_m_onHoist, v_m_began, f_m_low, f_m_high, f_m_loaded, f_m_empty, f_m_order, f_m_places, f_m_times, f_m_planOrder, f_m_planTimes, f_m_carriers, f_m_begins -/
abbrev MS : Type := Int32 × Int32 × Int32 × Int32 × Int32 × Int32 × Int32 × Int32 × Int32 × Int32 × Int32 × Int32 × Int32 × (Nat → Int32) × (Nat → Int32) × (Nat → Int32) × (Nat → Int32) × (Nat → Int32) × (Nat → Int32) × (Nat → Int32) × (Nat → Int32) × (Nat → Int32) × (Nat → Int32) × (Nat → Int32)
def cs_LW_0 (z : Nat) (L : Nat) (xs : Nat → Int32) (rec : Int32 → XS → MS → Option Int32) (i4 : Int32) : XS → MS → Option Int32
  | (v_x_planned, v_x_layout_tanks, v_x_tried_count, v_x_timing_rules, v_x_found_cycle, v_x_found_order_count, v_x_works_second, v_x_works_cycleSecond, v_x_works_nextRank, v_x_works_entryStopped, v_x_works_entered, v_x_works_done, v_x_works_lastStay, v_x_works_hoistCarrier, v_x_works_hoistMove, v_x_works_hoistEntry, v_x_works_hoistEnd, f_x_layout_low, f_x_layout_high, f_x_layout_loadedSeconds, f_x_tried_moves, f_x_tried_rank, f_x_timing_before, f_x_timing_after, f_x_timing_seconds, f_x_timing_turns, f_x_timing_cause, f_x_timing_times, f_x_found_order_moves, f_x_found_order_rank, f_x_found_times, f_x_works_carriers, f_x_works_entries, f_out, f_x_layout_emptySeconds), (v_m_thrown, v_m_tanks, v_m_hasPlan, v_m_cycle, v_m_second, v_m_entered, v_m_done, v_m_took, v_m_stopped, v_m_move, v_m_ends, v_m_onHoist, v_m_began, f_m_low, f_m_high, f_m_loaded, f_m_empty, f_m_order, f_m_places, f_m_times, f_m_planOrder, f_m_planTimes, f_m_carriers, f_m_begins) =>
    ox_gd (i4 + 1) L (
    ox_cl (fn_LW_line z (xs (i4 + 1).toNatClampNeg) v_x_planned v_x_layout_tanks f_x_layout_low f_x_layout_high f_x_layout_loadedSeconds f_x_layout_emptySeconds) fun (r2, s2_v_p0_planned, s2_v_p0_layout_tanks, s2_f_p0_layout_low, s2_f_p0_layout_high, s2_f_p0_layout_loadedSeconds, s2_f_p0_layout_emptySeconds) =>
    ox_gd (i4 + 1) L (
    ox_cl (fn_MD_line z (xs (i4 + 1).toNatClampNeg) v_m_thrown v_m_tanks v_m_hasPlan f_m_low f_m_high f_m_loaded f_m_empty) fun (s3_v_thrown, s3_v_tanks, s3_v_hasPlan, s3_f_low, s3_f_high, s3_f_loaded, s3_f_empty) =>
    ox_cl (fn_MD_thrown s3_v_thrown) fun r4 =>
    if r4 = r2 then
      rec (i4 + 4) (s2_v_p0_planned, s2_v_p0_layout_tanks, v_x_tried_count, v_x_timing_rules, v_x_found_cycle, v_x_found_order_count, v_x_works_second, v_x_works_cycleSecond, v_x_works_nextRank, v_x_works_entryStopped, v_x_works_entered, v_x_works_done, v_x_works_lastStay, v_x_works_hoistCarrier, v_x_works_hoistMove, v_x_works_hoistEntry, v_x_works_hoistEnd, s2_f_p0_layout_low, s2_f_p0_layout_high, s2_f_p0_layout_loadedSeconds, f_x_tried_moves, f_x_tried_rank, f_x_timing_before, f_x_timing_after, f_x_timing_seconds, f_x_timing_turns, f_x_timing_cause, f_x_timing_times, f_x_found_order_moves, f_x_found_order_rank, f_x_found_times, f_x_works_carriers, f_x_works_entries, f_out, s2_f_p0_layout_emptySeconds) (s3_v_thrown, s3_v_tanks, s3_v_hasPlan, v_m_cycle, v_m_second, v_m_entered, v_m_done, v_m_took, v_m_stopped, v_m_move, v_m_ends, v_m_onHoist, v_m_began, s3_f_low, s3_f_high, s3_f_loaded, s3_f_empty, f_m_order, f_m_places, f_m_times, f_m_planOrder, f_m_planTimes, f_m_carriers, f_m_begins)
    else
      some 0))
def cs_LW_1 (z : Nat) (L : Nat) (xs : Nat → Int32) (rec : Int32 → XS → MS → Option Int32) (i4 : Int32) : XS → MS → Option Int32
  | (v_x_planned, v_x_layout_tanks, v_x_tried_count, v_x_timing_rules, v_x_found_cycle, v_x_found_order_count, v_x_works_second, v_x_works_cycleSecond, v_x_works_nextRank, v_x_works_entryStopped, v_x_works_entered, v_x_works_done, v_x_works_lastStay, v_x_works_hoistCarrier, v_x_works_hoistMove, v_x_works_hoistEntry, v_x_works_hoistEnd, f_x_layout_low, f_x_layout_high, f_x_layout_loadedSeconds, f_x_tried_moves, f_x_tried_rank, f_x_timing_before, f_x_timing_after, f_x_timing_seconds, f_x_timing_turns, f_x_timing_cause, f_x_timing_times, f_x_found_order_moves, f_x_found_order_rank, f_x_found_times, f_x_works_carriers, f_x_works_entries, f_out, f_x_layout_emptySeconds), (v_m_thrown, v_m_tanks, v_m_hasPlan, v_m_cycle, v_m_second, v_m_entered, v_m_done, v_m_took, v_m_stopped, v_m_move, v_m_ends, v_m_onHoist, v_m_began, f_m_low, f_m_high, f_m_loaded, f_m_empty, f_m_order, f_m_places, f_m_times, f_m_planOrder, f_m_planTimes, f_m_carriers, f_m_begins) =>
    ox_gd (i4 + 1) L (
    ox_gd (i4 + 2) L (
    ox_gd (i4 + 3) L (
    ox_cl (fn_LW_soak (xs (i4 + 1).toNatClampNeg) (xs (i4 + 2).toNatClampNeg) (xs (i4 + 3).toNatClampNeg) v_x_planned v_x_layout_tanks f_x_layout_low f_x_layout_high) fun (r6, s6_v_p0_planned, s6_f_p0_layout_low, s6_f_p0_layout_high) =>
    ox_gd (i4 + 1) L (
    ox_gd (i4 + 2) L (
    ox_gd (i4 + 3) L (
    ox_cl (fn_MD_soak (xs (i4 + 1).toNatClampNeg) (xs (i4 + 2).toNatClampNeg) (xs (i4 + 3).toNatClampNeg) v_m_thrown v_m_tanks v_m_hasPlan f_m_low f_m_high) fun (s7_v_thrown, s7_v_hasPlan, s7_f_low, s7_f_high) =>
    ox_cl (fn_MD_thrown s7_v_thrown) fun r8 =>
    if r8 = r6 then
      rec (i4 + 4) (s6_v_p0_planned, v_x_layout_tanks, v_x_tried_count, v_x_timing_rules, v_x_found_cycle, v_x_found_order_count, v_x_works_second, v_x_works_cycleSecond, v_x_works_nextRank, v_x_works_entryStopped, v_x_works_entered, v_x_works_done, v_x_works_lastStay, v_x_works_hoistCarrier, v_x_works_hoistMove, v_x_works_hoistEntry, v_x_works_hoistEnd, s6_f_p0_layout_low, s6_f_p0_layout_high, f_x_layout_loadedSeconds, f_x_tried_moves, f_x_tried_rank, f_x_timing_before, f_x_timing_after, f_x_timing_seconds, f_x_timing_turns, f_x_timing_cause, f_x_timing_times, f_x_found_order_moves, f_x_found_order_rank, f_x_found_times, f_x_works_carriers, f_x_works_entries, f_out, f_x_layout_emptySeconds) (s7_v_thrown, v_m_tanks, s7_v_hasPlan, v_m_cycle, v_m_second, v_m_entered, v_m_done, v_m_took, v_m_stopped, v_m_move, v_m_ends, v_m_onHoist, v_m_began, s7_f_low, s7_f_high, f_m_loaded, f_m_empty, f_m_order, f_m_places, f_m_times, f_m_planOrder, f_m_planTimes, f_m_carriers, f_m_begins)
    else
      some 0))))))
def cs_LW_2 (z : Nat) (L : Nat) (xs : Nat → Int32) (rec : Int32 → XS → MS → Option Int32) (i4 : Int32) : XS → MS → Option Int32
  | (v_x_planned, v_x_layout_tanks, v_x_tried_count, v_x_timing_rules, v_x_found_cycle, v_x_found_order_count, v_x_works_second, v_x_works_cycleSecond, v_x_works_nextRank, v_x_works_entryStopped, v_x_works_entered, v_x_works_done, v_x_works_lastStay, v_x_works_hoistCarrier, v_x_works_hoistMove, v_x_works_hoistEntry, v_x_works_hoistEnd, f_x_layout_low, f_x_layout_high, f_x_layout_loadedSeconds, f_x_tried_moves, f_x_tried_rank, f_x_timing_before, f_x_timing_after, f_x_timing_seconds, f_x_timing_turns, f_x_timing_cause, f_x_timing_times, f_x_found_order_moves, f_x_found_order_rank, f_x_found_times, f_x_works_carriers, f_x_works_entries, f_out, f_x_layout_emptySeconds), (v_m_thrown, v_m_tanks, v_m_hasPlan, v_m_cycle, v_m_second, v_m_entered, v_m_done, v_m_took, v_m_stopped, v_m_move, v_m_ends, v_m_onHoist, v_m_began, f_m_low, f_m_high, f_m_loaded, f_m_empty, f_m_order, f_m_places, f_m_times, f_m_planOrder, f_m_planTimes, f_m_carriers, f_m_begins) =>
    ox_gd (i4 + 1) L (
    ox_gd (i4 + 2) L (
    ox_cl (fn_LW_loaded (xs (i4 + 1).toNatClampNeg) (xs (i4 + 2).toNatClampNeg) v_x_planned v_x_layout_tanks f_x_layout_loadedSeconds) fun (r10, s10_v_p0_planned, s10_f_p0_layout_loadedSeconds) =>
    ox_gd (i4 + 1) L (
    ox_gd (i4 + 2) L (
    ox_cl (fn_MD_loaded (xs (i4 + 1).toNatClampNeg) (xs (i4 + 2).toNatClampNeg) v_m_thrown v_m_tanks v_m_hasPlan f_m_loaded) fun (s11_v_thrown, s11_v_hasPlan, s11_f_loaded) =>
    ox_cl (fn_MD_thrown s11_v_thrown) fun r12 =>
    if r12 = r10 then
      rec (i4 + 4) (s10_v_p0_planned, v_x_layout_tanks, v_x_tried_count, v_x_timing_rules, v_x_found_cycle, v_x_found_order_count, v_x_works_second, v_x_works_cycleSecond, v_x_works_nextRank, v_x_works_entryStopped, v_x_works_entered, v_x_works_done, v_x_works_lastStay, v_x_works_hoistCarrier, v_x_works_hoistMove, v_x_works_hoistEntry, v_x_works_hoistEnd, f_x_layout_low, f_x_layout_high, s10_f_p0_layout_loadedSeconds, f_x_tried_moves, f_x_tried_rank, f_x_timing_before, f_x_timing_after, f_x_timing_seconds, f_x_timing_turns, f_x_timing_cause, f_x_timing_times, f_x_found_order_moves, f_x_found_order_rank, f_x_found_times, f_x_works_carriers, f_x_works_entries, f_out, f_x_layout_emptySeconds) (s11_v_thrown, v_m_tanks, s11_v_hasPlan, v_m_cycle, v_m_second, v_m_entered, v_m_done, v_m_took, v_m_stopped, v_m_move, v_m_ends, v_m_onHoist, v_m_began, f_m_low, f_m_high, s11_f_loaded, f_m_empty, f_m_order, f_m_places, f_m_times, f_m_planOrder, f_m_planTimes, f_m_carriers, f_m_begins)
    else
      some 0))))
def cs_LW_3 (z : Nat) (L : Nat) (xs : Nat → Int32) (rec : Int32 → XS → MS → Option Int32) (i4 : Int32) : XS → MS → Option Int32
  | (v_x_planned, v_x_layout_tanks, v_x_tried_count, v_x_timing_rules, v_x_found_cycle, v_x_found_order_count, v_x_works_second, v_x_works_cycleSecond, v_x_works_nextRank, v_x_works_entryStopped, v_x_works_entered, v_x_works_done, v_x_works_lastStay, v_x_works_hoistCarrier, v_x_works_hoistMove, v_x_works_hoistEntry, v_x_works_hoistEnd, f_x_layout_low, f_x_layout_high, f_x_layout_loadedSeconds, f_x_tried_moves, f_x_tried_rank, f_x_timing_before, f_x_timing_after, f_x_timing_seconds, f_x_timing_turns, f_x_timing_cause, f_x_timing_times, f_x_found_order_moves, f_x_found_order_rank, f_x_found_times, f_x_works_carriers, f_x_works_entries, f_out, f_x_layout_emptySeconds), (v_m_thrown, v_m_tanks, v_m_hasPlan, v_m_cycle, v_m_second, v_m_entered, v_m_done, v_m_took, v_m_stopped, v_m_move, v_m_ends, v_m_onHoist, v_m_began, f_m_low, f_m_high, f_m_loaded, f_m_empty, f_m_order, f_m_places, f_m_times, f_m_planOrder, f_m_planTimes, f_m_carriers, f_m_begins) =>
    ox_gd (i4 + 1) L (
    ox_gd (i4 + 2) L (
    ox_gd (i4 + 3) L (
    ox_cl (fn_LW_empty (xs (i4 + 1).toNatClampNeg) (xs (i4 + 2).toNatClampNeg) (xs (i4 + 3).toNatClampNeg) v_x_planned v_x_layout_tanks f_x_layout_emptySeconds) fun (r14, s14_v_p0_planned, s14_f_p0_layout_emptySeconds) =>
    ox_gd (i4 + 1) L (
    ox_gd (i4 + 2) L (
    ox_gd (i4 + 3) L (
    ox_cl (fn_MD_empty (xs (i4 + 1).toNatClampNeg) (xs (i4 + 2).toNatClampNeg) (xs (i4 + 3).toNatClampNeg) v_m_thrown v_m_tanks v_m_hasPlan f_m_empty) fun (s15_v_thrown, s15_v_hasPlan, s15_f_empty) =>
    ox_cl (fn_MD_thrown s15_v_thrown) fun r16 =>
    if r16 = r14 then
      rec (i4 + 4) (s14_v_p0_planned, v_x_layout_tanks, v_x_tried_count, v_x_timing_rules, v_x_found_cycle, v_x_found_order_count, v_x_works_second, v_x_works_cycleSecond, v_x_works_nextRank, v_x_works_entryStopped, v_x_works_entered, v_x_works_done, v_x_works_lastStay, v_x_works_hoistCarrier, v_x_works_hoistMove, v_x_works_hoistEntry, v_x_works_hoistEnd, f_x_layout_low, f_x_layout_high, f_x_layout_loadedSeconds, f_x_tried_moves, f_x_tried_rank, f_x_timing_before, f_x_timing_after, f_x_timing_seconds, f_x_timing_turns, f_x_timing_cause, f_x_timing_times, f_x_found_order_moves, f_x_found_order_rank, f_x_found_times, f_x_works_carriers, f_x_works_entries, f_out, s14_f_p0_layout_emptySeconds) (s15_v_thrown, v_m_tanks, s15_v_hasPlan, v_m_cycle, v_m_second, v_m_entered, v_m_done, v_m_took, v_m_stopped, v_m_move, v_m_ends, v_m_onHoist, v_m_began, f_m_low, f_m_high, f_m_loaded, s15_f_empty, f_m_order, f_m_places, f_m_times, f_m_planOrder, f_m_planTimes, f_m_carriers, f_m_begins)
    else
      some 0))))))
def cs_LW_4 (z : Nat) (L : Nat) (xs : Nat → Int32) (rec : Int32 → XS → MS → Option Int32) (i4 : Int32) : XS → MS → Option Int32
  | (v_x_planned, v_x_layout_tanks, v_x_tried_count, v_x_timing_rules, v_x_found_cycle, v_x_found_order_count, v_x_works_second, v_x_works_cycleSecond, v_x_works_nextRank, v_x_works_entryStopped, v_x_works_entered, v_x_works_done, v_x_works_lastStay, v_x_works_hoistCarrier, v_x_works_hoistMove, v_x_works_hoistEntry, v_x_works_hoistEnd, f_x_layout_low, f_x_layout_high, f_x_layout_loadedSeconds, f_x_tried_moves, f_x_tried_rank, f_x_timing_before, f_x_timing_after, f_x_timing_seconds, f_x_timing_turns, f_x_timing_cause, f_x_timing_times, f_x_found_order_moves, f_x_found_order_rank, f_x_found_times, f_x_works_carriers, f_x_works_entries, f_out, f_x_layout_emptySeconds), (v_m_thrown, v_m_tanks, v_m_hasPlan, v_m_cycle, v_m_second, v_m_entered, v_m_done, v_m_took, v_m_stopped, v_m_move, v_m_ends, v_m_onHoist, v_m_began, f_m_low, f_m_high, f_m_loaded, f_m_empty, f_m_order, f_m_places, f_m_times, f_m_planOrder, f_m_planTimes, f_m_carriers, f_m_begins) =>
    ox_cl (fn_HP_ready z v_x_layout_tanks f_x_layout_loadedSeconds f_x_layout_emptySeconds) fun r18 =>
    ox_cl (fn_MD_ready z v_m_thrown v_m_tanks f_m_empty f_m_loaded) fun (r19, s19_v_thrown) =>
    if r18 = r19 then
      rec (i4 + 4) (v_x_planned, v_x_layout_tanks, v_x_tried_count, v_x_timing_rules, v_x_found_cycle, v_x_found_order_count, v_x_works_second, v_x_works_cycleSecond, v_x_works_nextRank, v_x_works_entryStopped, v_x_works_entered, v_x_works_done, v_x_works_lastStay, v_x_works_hoistCarrier, v_x_works_hoistMove, v_x_works_hoistEntry, v_x_works_hoistEnd, f_x_layout_low, f_x_layout_high, f_x_layout_loadedSeconds, f_x_tried_moves, f_x_tried_rank, f_x_timing_before, f_x_timing_after, f_x_timing_seconds, f_x_timing_turns, f_x_timing_cause, f_x_timing_times, f_x_found_order_moves, f_x_found_order_rank, f_x_found_times, f_x_works_carriers, f_x_works_entries, f_out, f_x_layout_emptySeconds) (s19_v_thrown, v_m_tanks, v_m_hasPlan, v_m_cycle, v_m_second, v_m_entered, v_m_done, v_m_took, v_m_stopped, v_m_move, v_m_ends, v_m_onHoist, v_m_began, f_m_low, f_m_high, f_m_loaded, f_m_empty, f_m_order, f_m_places, f_m_times, f_m_planOrder, f_m_planTimes, f_m_carriers, f_m_begins)
    else
      some 0
def cs_LW_5 (z : Nat) (L : Nat) (xs : Nat → Int32) (rec : Int32 → XS → MS → Option Int32) (i4 : Int32) : XS → MS → Option Int32
  | (v_x_planned, v_x_layout_tanks, v_x_tried_count, v_x_timing_rules, v_x_found_cycle, v_x_found_order_count, v_x_works_second, v_x_works_cycleSecond, v_x_works_nextRank, v_x_works_entryStopped, v_x_works_entered, v_x_works_done, v_x_works_lastStay, v_x_works_hoistCarrier, v_x_works_hoistMove, v_x_works_hoistEntry, v_x_works_hoistEnd, f_x_layout_low, f_x_layout_high, f_x_layout_loadedSeconds, f_x_tried_moves, f_x_tried_rank, f_x_timing_before, f_x_timing_after, f_x_timing_seconds, f_x_timing_turns, f_x_timing_cause, f_x_timing_times, f_x_found_order_moves, f_x_found_order_rank, f_x_found_times, f_x_works_carriers, f_x_works_entries, f_out, f_x_layout_emptySeconds), (v_m_thrown, v_m_tanks, v_m_hasPlan, v_m_cycle, v_m_second, v_m_entered, v_m_done, v_m_took, v_m_stopped, v_m_move, v_m_ends, v_m_onHoist, v_m_began, f_m_low, f_m_high, f_m_loaded, f_m_empty, f_m_order, f_m_places, f_m_times, f_m_planOrder, f_m_planTimes, f_m_carriers, f_m_begins) =>
    ox_cl (fn_LW_solve z v_x_planned v_x_layout_tanks v_x_tried_count v_x_timing_rules v_x_found_cycle v_x_found_order_count v_x_works_second v_x_works_cycleSecond v_x_works_nextRank v_x_works_entryStopped v_x_works_entered v_x_works_done v_x_works_lastStay v_x_works_hoistCarrier v_x_works_hoistMove v_x_works_hoistEntry v_x_works_hoistEnd f_x_layout_loadedSeconds f_x_tried_moves f_x_tried_rank f_x_timing_before f_x_timing_after f_x_timing_seconds f_x_timing_turns f_x_layout_low f_x_layout_high f_x_timing_times f_x_timing_cause f_x_found_order_moves f_x_found_order_rank f_x_found_times f_x_works_carriers f_x_works_entries f_out f_x_layout_emptySeconds) fun (r21, s21_v_p0_planned, s21_v_p0_tried_count, s21_v_p0_timing_rules, s21_v_p0_found_cycle, s21_v_p0_found_order_count, s21_v_p0_works_second, s21_v_p0_works_cycleSecond, s21_v_p0_works_nextRank, s21_v_p0_works_entryStopped, s21_v_p0_works_entered, s21_v_p0_works_done, s21_v_p0_works_lastStay, s21_v_p0_works_hoistCarrier, s21_v_p0_works_hoistMove, s21_v_p0_works_hoistEntry, s21_v_p0_works_hoistEnd, s21_f_p0_tried_moves, s21_f_p0_tried_rank, s21_f_p0_timing_before, s21_f_p0_timing_after, s21_f_p0_timing_seconds, s21_f_p0_timing_turns, s21_f_p0_timing_times, s21_f_p0_timing_cause, s21_f_p0_found_order_moves, s21_f_p0_found_order_rank, s21_f_p0_found_times, s21_f_p0_works_carriers, s21_f_p0_works_entries, s21_f_p1) =>
    ox_cl (fn_MD_solve z v_m_thrown v_m_tanks v_m_hasPlan v_m_cycle v_m_second v_m_entered v_m_done v_m_took v_m_stopped v_m_move v_m_onHoist f_m_empty f_m_loaded f_m_carriers f_m_order f_m_places f_m_times f_m_low f_m_high f_m_planOrder f_m_planTimes) fun (r22, s22_v_thrown, s22_v_hasPlan, s22_v_cycle, s22_v_second, s22_v_entered, s22_v_done, s22_v_took, s22_v_stopped, s22_v_move, s22_v_onHoist, s22_f_carriers, s22_f_order, s22_f_places, s22_f_times, s22_f_planOrder, s22_f_planTimes) =>
    ox_cl (fn_MD_thrown s22_v_thrown) fun r23 =>
    if r23 = r21 then
      if ¬ r21 = 0 then
        rec (i4 + 4) (s21_v_p0_planned, v_x_layout_tanks, s21_v_p0_tried_count, s21_v_p0_timing_rules, s21_v_p0_found_cycle, s21_v_p0_found_order_count, s21_v_p0_works_second, s21_v_p0_works_cycleSecond, s21_v_p0_works_nextRank, s21_v_p0_works_entryStopped, s21_v_p0_works_entered, s21_v_p0_works_done, s21_v_p0_works_lastStay, s21_v_p0_works_hoistCarrier, s21_v_p0_works_hoistMove, s21_v_p0_works_hoistEntry, s21_v_p0_works_hoistEnd, f_x_layout_low, f_x_layout_high, f_x_layout_loadedSeconds, s21_f_p0_tried_moves, s21_f_p0_tried_rank, s21_f_p0_timing_before, s21_f_p0_timing_after, s21_f_p0_timing_seconds, s21_f_p0_timing_turns, s21_f_p0_timing_cause, s21_f_p0_timing_times, s21_f_p0_found_order_moves, s21_f_p0_found_order_rank, s21_f_p0_found_times, s21_f_p0_works_carriers, s21_f_p0_works_entries, s21_f_p1, f_x_layout_emptySeconds) (s22_v_thrown, v_m_tanks, s22_v_hasPlan, s22_v_cycle, s22_v_second, s22_v_entered, s22_v_done, s22_v_took, s22_v_stopped, s22_v_move, v_m_ends, s22_v_onHoist, v_m_began, f_m_low, f_m_high, f_m_loaded, f_m_empty, s22_f_order, s22_f_places, s22_f_times, s22_f_planOrder, s22_f_planTimes, s22_f_carriers, f_m_begins)
      else
        if (lg_cmp (s21_f_p1 0) r22.toInt64) = 0 then
          rec (i4 + 4) (s21_v_p0_planned, v_x_layout_tanks, s21_v_p0_tried_count, s21_v_p0_timing_rules, s21_v_p0_found_cycle, s21_v_p0_found_order_count, s21_v_p0_works_second, s21_v_p0_works_cycleSecond, s21_v_p0_works_nextRank, s21_v_p0_works_entryStopped, s21_v_p0_works_entered, s21_v_p0_works_done, s21_v_p0_works_lastStay, s21_v_p0_works_hoistCarrier, s21_v_p0_works_hoistMove, s21_v_p0_works_hoistEntry, s21_v_p0_works_hoistEnd, f_x_layout_low, f_x_layout_high, f_x_layout_loadedSeconds, s21_f_p0_tried_moves, s21_f_p0_tried_rank, s21_f_p0_timing_before, s21_f_p0_timing_after, s21_f_p0_timing_seconds, s21_f_p0_timing_turns, s21_f_p0_timing_cause, s21_f_p0_timing_times, s21_f_p0_found_order_moves, s21_f_p0_found_order_rank, s21_f_p0_found_times, s21_f_p0_works_carriers, s21_f_p0_works_entries, s21_f_p1, f_x_layout_emptySeconds) (s22_v_thrown, v_m_tanks, s22_v_hasPlan, s22_v_cycle, s22_v_second, s22_v_entered, s22_v_done, s22_v_took, s22_v_stopped, s22_v_move, v_m_ends, s22_v_onHoist, v_m_began, f_m_low, f_m_high, f_m_loaded, f_m_empty, s22_f_order, s22_f_places, s22_f_times, s22_f_planOrder, s22_f_planTimes, s22_f_carriers, f_m_begins)
        else
          some 0
    else
      some 0
def cs_LW_6 (z : Nat) (L : Nat) (xs : Nat → Int32) (rec : Int32 → XS → MS → Option Int32) (i4 : Int32) : XS → MS → Option Int32
  | (v_x_planned, v_x_layout_tanks, v_x_tried_count, v_x_timing_rules, v_x_found_cycle, v_x_found_order_count, v_x_works_second, v_x_works_cycleSecond, v_x_works_nextRank, v_x_works_entryStopped, v_x_works_entered, v_x_works_done, v_x_works_lastStay, v_x_works_hoistCarrier, v_x_works_hoistMove, v_x_works_hoistEntry, v_x_works_hoistEnd, f_x_layout_low, f_x_layout_high, f_x_layout_loadedSeconds, f_x_tried_moves, f_x_tried_rank, f_x_timing_before, f_x_timing_after, f_x_timing_seconds, f_x_timing_turns, f_x_timing_cause, f_x_timing_times, f_x_found_order_moves, f_x_found_order_rank, f_x_found_times, f_x_works_carriers, f_x_works_entries, f_out, f_x_layout_emptySeconds), (v_m_thrown, v_m_tanks, v_m_hasPlan, v_m_cycle, v_m_second, v_m_entered, v_m_done, v_m_took, v_m_stopped, v_m_move, v_m_ends, v_m_onHoist, v_m_began, f_m_low, f_m_high, f_m_loaded, f_m_empty, f_m_order, f_m_places, f_m_times, f_m_planOrder, f_m_planTimes, f_m_carriers, f_m_begins) =>
    ox_gd (i4 + 1) L (
    ox_cl (fn_LW_least z (xs (i4 + 1).toNatClampNeg) v_x_layout_tanks v_x_tried_count v_x_timing_rules f_x_layout_loadedSeconds f_x_tried_rank f_x_tried_moves f_x_timing_before f_x_timing_after f_x_timing_seconds f_x_timing_turns f_x_layout_low f_x_layout_high f_x_timing_times f_x_timing_cause f_out f_x_layout_emptySeconds) fun (r27, s27_v_p0_tried_count, s27_v_p0_timing_rules, s27_f_p0_tried_rank, s27_f_p0_tried_moves, s27_f_p0_timing_before, s27_f_p0_timing_after, s27_f_p0_timing_seconds, s27_f_p0_timing_turns, s27_f_p0_timing_times, s27_f_p0_timing_cause, s27_f_p2) =>
    ox_gd (i4 + 1) L (
    ox_cl (fn_MD_least z (xs (i4 + 1).toNatClampNeg) v_m_thrown v_m_tanks f_m_empty f_m_loaded f_m_order f_m_places f_m_times f_m_low f_m_high) fun (r28, s28_v_thrown, s28_f_order, s28_f_places, s28_f_times) =>
    ox_cl (fn_MD_thrown s28_v_thrown) fun r29 =>
    if r29 = r27 then
      if ¬ r27 = 0 then
        rec (i4 + 4) (v_x_planned, v_x_layout_tanks, s27_v_p0_tried_count, s27_v_p0_timing_rules, v_x_found_cycle, v_x_found_order_count, v_x_works_second, v_x_works_cycleSecond, v_x_works_nextRank, v_x_works_entryStopped, v_x_works_entered, v_x_works_done, v_x_works_lastStay, v_x_works_hoistCarrier, v_x_works_hoistMove, v_x_works_hoistEntry, v_x_works_hoistEnd, f_x_layout_low, f_x_layout_high, f_x_layout_loadedSeconds, s27_f_p0_tried_moves, s27_f_p0_tried_rank, s27_f_p0_timing_before, s27_f_p0_timing_after, s27_f_p0_timing_seconds, s27_f_p0_timing_turns, s27_f_p0_timing_cause, s27_f_p0_timing_times, f_x_found_order_moves, f_x_found_order_rank, f_x_found_times, f_x_works_carriers, f_x_works_entries, s27_f_p2, f_x_layout_emptySeconds) (s28_v_thrown, v_m_tanks, v_m_hasPlan, v_m_cycle, v_m_second, v_m_entered, v_m_done, v_m_took, v_m_stopped, v_m_move, v_m_ends, v_m_onHoist, v_m_began, f_m_low, f_m_high, f_m_loaded, f_m_empty, s28_f_order, s28_f_places, s28_f_times, f_m_planOrder, f_m_planTimes, f_m_carriers, f_m_begins)
      else
        if (lg_cmp (s27_f_p2 0) r28.toInt64) = 0 then
          rec (i4 + 4) (v_x_planned, v_x_layout_tanks, s27_v_p0_tried_count, s27_v_p0_timing_rules, v_x_found_cycle, v_x_found_order_count, v_x_works_second, v_x_works_cycleSecond, v_x_works_nextRank, v_x_works_entryStopped, v_x_works_entered, v_x_works_done, v_x_works_lastStay, v_x_works_hoistCarrier, v_x_works_hoistMove, v_x_works_hoistEntry, v_x_works_hoistEnd, f_x_layout_low, f_x_layout_high, f_x_layout_loadedSeconds, s27_f_p0_tried_moves, s27_f_p0_tried_rank, s27_f_p0_timing_before, s27_f_p0_timing_after, s27_f_p0_timing_seconds, s27_f_p0_timing_turns, s27_f_p0_timing_cause, s27_f_p0_timing_times, f_x_found_order_moves, f_x_found_order_rank, f_x_found_times, f_x_works_carriers, f_x_works_entries, s27_f_p2, f_x_layout_emptySeconds) (s28_v_thrown, v_m_tanks, v_m_hasPlan, v_m_cycle, v_m_second, v_m_entered, v_m_done, v_m_took, v_m_stopped, v_m_move, v_m_ends, v_m_onHoist, v_m_began, f_m_low, f_m_high, f_m_loaded, f_m_empty, s28_f_order, s28_f_places, s28_f_times, f_m_planOrder, f_m_planTimes, f_m_carriers, f_m_begins)
        else
          some 0
    else
      some 0))
def cs_LW_7 (z : Nat) (L : Nat) (xs : Nat → Int32) (rec : Int32 → XS → MS → Option Int32) (i4 : Int32) : XS → MS → Option Int32
  | (v_x_planned, v_x_layout_tanks, v_x_tried_count, v_x_timing_rules, v_x_found_cycle, v_x_found_order_count, v_x_works_second, v_x_works_cycleSecond, v_x_works_nextRank, v_x_works_entryStopped, v_x_works_entered, v_x_works_done, v_x_works_lastStay, v_x_works_hoistCarrier, v_x_works_hoistMove, v_x_works_hoistEntry, v_x_works_hoistEnd, f_x_layout_low, f_x_layout_high, f_x_layout_loadedSeconds, f_x_tried_moves, f_x_tried_rank, f_x_timing_before, f_x_timing_after, f_x_timing_seconds, f_x_timing_turns, f_x_timing_cause, f_x_timing_times, f_x_found_order_moves, f_x_found_order_rank, f_x_found_times, f_x_works_carriers, f_x_works_entries, f_out, f_x_layout_emptySeconds), (v_m_thrown, v_m_tanks, v_m_hasPlan, v_m_cycle, v_m_second, v_m_entered, v_m_done, v_m_took, v_m_stopped, v_m_move, v_m_ends, v_m_onHoist, v_m_began, f_m_low, f_m_high, f_m_loaded, f_m_empty, f_m_order, f_m_places, f_m_times, f_m_planOrder, f_m_planTimes, f_m_carriers, f_m_begins) =>
    ox_gd (i4 + 1) L (
    ox_gd (i4 + 2) L (
    ox_cl (fn_LW_plan z (xs (i4 + 1).toNatClampNeg) (xs (i4 + 2).toNatClampNeg) v_x_planned v_x_layout_tanks v_x_found_cycle v_x_found_order_count f_x_found_order_moves f_x_found_times f_x_layout_loadedSeconds f_x_found_order_rank f_out) fun (r33, s33_f_p3) =>
    ox_gd (i4 + 1) L (
    ox_gd (i4 + 2) L (
    ox_cl (fn_MD_plan z (xs (i4 + 1).toNatClampNeg) (xs (i4 + 2).toNatClampNeg) v_m_thrown v_m_tanks v_m_hasPlan v_m_cycle f_m_planOrder f_m_planTimes f_m_loaded) fun (r34, s34_v_thrown) =>
    ox_cl (fn_MD_thrown s34_v_thrown) fun r35 =>
    if r35 = r33 then
      if ¬ r33 = 0 then
        rec (i4 + 4) (v_x_planned, v_x_layout_tanks, v_x_tried_count, v_x_timing_rules, v_x_found_cycle, v_x_found_order_count, v_x_works_second, v_x_works_cycleSecond, v_x_works_nextRank, v_x_works_entryStopped, v_x_works_entered, v_x_works_done, v_x_works_lastStay, v_x_works_hoistCarrier, v_x_works_hoistMove, v_x_works_hoistEntry, v_x_works_hoistEnd, f_x_layout_low, f_x_layout_high, f_x_layout_loadedSeconds, f_x_tried_moves, f_x_tried_rank, f_x_timing_before, f_x_timing_after, f_x_timing_seconds, f_x_timing_turns, f_x_timing_cause, f_x_timing_times, f_x_found_order_moves, f_x_found_order_rank, f_x_found_times, f_x_works_carriers, f_x_works_entries, s33_f_p3, f_x_layout_emptySeconds) (s34_v_thrown, v_m_tanks, v_m_hasPlan, v_m_cycle, v_m_second, v_m_entered, v_m_done, v_m_took, v_m_stopped, v_m_move, v_m_ends, v_m_onHoist, v_m_began, f_m_low, f_m_high, f_m_loaded, f_m_empty, f_m_order, f_m_places, f_m_times, f_m_planOrder, f_m_planTimes, f_m_carriers, f_m_begins)
      else
        if (lg_cmp (s33_f_p3 0) r34.toInt64) = 0 then
          rec (i4 + 4) (v_x_planned, v_x_layout_tanks, v_x_tried_count, v_x_timing_rules, v_x_found_cycle, v_x_found_order_count, v_x_works_second, v_x_works_cycleSecond, v_x_works_nextRank, v_x_works_entryStopped, v_x_works_entered, v_x_works_done, v_x_works_lastStay, v_x_works_hoistCarrier, v_x_works_hoistMove, v_x_works_hoistEntry, v_x_works_hoistEnd, f_x_layout_low, f_x_layout_high, f_x_layout_loadedSeconds, f_x_tried_moves, f_x_tried_rank, f_x_timing_before, f_x_timing_after, f_x_timing_seconds, f_x_timing_turns, f_x_timing_cause, f_x_timing_times, f_x_found_order_moves, f_x_found_order_rank, f_x_found_times, f_x_works_carriers, f_x_works_entries, s33_f_p3, f_x_layout_emptySeconds) (s34_v_thrown, v_m_tanks, v_m_hasPlan, v_m_cycle, v_m_second, v_m_entered, v_m_done, v_m_took, v_m_stopped, v_m_move, v_m_ends, v_m_onHoist, v_m_began, f_m_low, f_m_high, f_m_loaded, f_m_empty, f_m_order, f_m_places, f_m_times, f_m_planOrder, f_m_planTimes, f_m_carriers, f_m_begins)
        else
          some 0
    else
      some 0))))
def cs_LW_8 (z : Nat) (L : Nat) (xs : Nat → Int32) (rec : Int32 → XS → MS → Option Int32) (i4 : Int32) : XS → MS → Option Int32
  | (v_x_planned, v_x_layout_tanks, v_x_tried_count, v_x_timing_rules, v_x_found_cycle, v_x_found_order_count, v_x_works_second, v_x_works_cycleSecond, v_x_works_nextRank, v_x_works_entryStopped, v_x_works_entered, v_x_works_done, v_x_works_lastStay, v_x_works_hoistCarrier, v_x_works_hoistMove, v_x_works_hoistEntry, v_x_works_hoistEnd, f_x_layout_low, f_x_layout_high, f_x_layout_loadedSeconds, f_x_tried_moves, f_x_tried_rank, f_x_timing_before, f_x_timing_after, f_x_timing_seconds, f_x_timing_turns, f_x_timing_cause, f_x_timing_times, f_x_found_order_moves, f_x_found_order_rank, f_x_found_times, f_x_works_carriers, f_x_works_entries, f_out, f_x_layout_emptySeconds), (v_m_thrown, v_m_tanks, v_m_hasPlan, v_m_cycle, v_m_second, v_m_entered, v_m_done, v_m_took, v_m_stopped, v_m_move, v_m_ends, v_m_onHoist, v_m_began, f_m_low, f_m_high, f_m_loaded, f_m_empty, f_m_order, f_m_places, f_m_times, f_m_planOrder, f_m_planTimes, f_m_carriers, f_m_begins) =>
    ox_gd (i4 + 1) L (
    ox_cl (fn_LW_run z (xs (i4 + 1).toNatClampNeg) v_x_planned v_x_works_second v_x_works_cycleSecond v_x_works_nextRank v_x_works_entryStopped v_x_works_entered v_x_works_done v_x_works_lastStay v_x_works_hoistCarrier v_x_works_hoistMove v_x_works_hoistEntry v_x_works_hoistEnd v_x_found_cycle v_x_layout_tanks f_x_found_order_moves f_x_found_times f_x_works_carriers f_x_works_entries f_x_layout_loadedSeconds f_out) fun (r39, s39_v_p0_works_second, s39_v_p0_works_cycleSecond, s39_v_p0_works_nextRank, s39_v_p0_works_entered, s39_v_p0_works_done, s39_v_p0_works_lastStay, s39_v_p0_works_hoistCarrier, s39_v_p0_works_hoistMove, s39_v_p0_works_hoistEntry, s39_v_p0_works_hoistEnd, s39_f_p0_works_carriers, s39_f_p0_works_entries, s39_f_p2) =>
    ox_gd (i4 + 1) L (
    ox_cl (fn_MD_run z (xs (i4 + 1).toNatClampNeg) v_m_thrown v_m_tanks v_m_hasPlan v_m_cycle v_m_second v_m_entered v_m_done v_m_took v_m_stopped v_m_move v_m_ends v_m_onHoist v_m_began f_m_carriers f_m_begins f_m_planTimes f_m_loaded) fun (r40, s40_v_thrown, s40_v_second, s40_v_entered, s40_v_done, s40_v_took, s40_v_move, s40_v_ends, s40_v_onHoist, s40_v_began, s40_f_carriers, s40_f_begins) =>
    ox_cl (fn_MD_thrown s40_v_thrown) fun r41 =>
    if r41 = r39 then
      if ¬ r39 = 0 then
        rec (i4 + 4) (v_x_planned, v_x_layout_tanks, v_x_tried_count, v_x_timing_rules, v_x_found_cycle, v_x_found_order_count, s39_v_p0_works_second, s39_v_p0_works_cycleSecond, s39_v_p0_works_nextRank, v_x_works_entryStopped, s39_v_p0_works_entered, s39_v_p0_works_done, s39_v_p0_works_lastStay, s39_v_p0_works_hoistCarrier, s39_v_p0_works_hoistMove, s39_v_p0_works_hoistEntry, s39_v_p0_works_hoistEnd, f_x_layout_low, f_x_layout_high, f_x_layout_loadedSeconds, f_x_tried_moves, f_x_tried_rank, f_x_timing_before, f_x_timing_after, f_x_timing_seconds, f_x_timing_turns, f_x_timing_cause, f_x_timing_times, f_x_found_order_moves, f_x_found_order_rank, f_x_found_times, s39_f_p0_works_carriers, s39_f_p0_works_entries, s39_f_p2, f_x_layout_emptySeconds) (s40_v_thrown, v_m_tanks, v_m_hasPlan, v_m_cycle, s40_v_second, s40_v_entered, s40_v_done, s40_v_took, v_m_stopped, s40_v_move, s40_v_ends, s40_v_onHoist, s40_v_began, f_m_low, f_m_high, f_m_loaded, f_m_empty, f_m_order, f_m_places, f_m_times, f_m_planOrder, f_m_planTimes, s40_f_carriers, s40_f_begins)
      else
        if (lg_cmp (s39_f_p2 0) r40.toInt64) = 0 then
          rec (i4 + 4) (v_x_planned, v_x_layout_tanks, v_x_tried_count, v_x_timing_rules, v_x_found_cycle, v_x_found_order_count, s39_v_p0_works_second, s39_v_p0_works_cycleSecond, s39_v_p0_works_nextRank, v_x_works_entryStopped, s39_v_p0_works_entered, s39_v_p0_works_done, s39_v_p0_works_lastStay, s39_v_p0_works_hoistCarrier, s39_v_p0_works_hoistMove, s39_v_p0_works_hoistEntry, s39_v_p0_works_hoistEnd, f_x_layout_low, f_x_layout_high, f_x_layout_loadedSeconds, f_x_tried_moves, f_x_tried_rank, f_x_timing_before, f_x_timing_after, f_x_timing_seconds, f_x_timing_turns, f_x_timing_cause, f_x_timing_times, f_x_found_order_moves, f_x_found_order_rank, f_x_found_times, s39_f_p0_works_carriers, s39_f_p0_works_entries, s39_f_p2, f_x_layout_emptySeconds) (s40_v_thrown, v_m_tanks, v_m_hasPlan, v_m_cycle, s40_v_second, s40_v_entered, s40_v_done, s40_v_took, v_m_stopped, s40_v_move, s40_v_ends, s40_v_onHoist, s40_v_began, f_m_low, f_m_high, f_m_loaded, f_m_empty, f_m_order, f_m_places, f_m_times, f_m_planOrder, f_m_planTimes, s40_f_carriers, s40_f_begins)
        else
          some 0
    else
      some 0))
def cs_LW_9 (z : Nat) (L : Nat) (xs : Nat → Int32) (rec : Int32 → XS → MS → Option Int32) (i4 : Int32) : XS → MS → Option Int32
  | (v_x_planned, v_x_layout_tanks, v_x_tried_count, v_x_timing_rules, v_x_found_cycle, v_x_found_order_count, v_x_works_second, v_x_works_cycleSecond, v_x_works_nextRank, v_x_works_entryStopped, v_x_works_entered, v_x_works_done, v_x_works_lastStay, v_x_works_hoistCarrier, v_x_works_hoistMove, v_x_works_hoistEntry, v_x_works_hoistEnd, f_x_layout_low, f_x_layout_high, f_x_layout_loadedSeconds, f_x_tried_moves, f_x_tried_rank, f_x_timing_before, f_x_timing_after, f_x_timing_seconds, f_x_timing_turns, f_x_timing_cause, f_x_timing_times, f_x_found_order_moves, f_x_found_order_rank, f_x_found_times, f_x_works_carriers, f_x_works_entries, f_out, f_x_layout_emptySeconds), (v_m_thrown, v_m_tanks, v_m_hasPlan, v_m_cycle, v_m_second, v_m_entered, v_m_done, v_m_took, v_m_stopped, v_m_move, v_m_ends, v_m_onHoist, v_m_began, f_m_low, f_m_high, f_m_loaded, f_m_empty, f_m_order, f_m_places, f_m_times, f_m_planOrder, f_m_planTimes, f_m_carriers, f_m_begins) =>
    ox_gd (i4 + 1) L (
    if (xs (i4 + 1).toNatClampNeg) = 0 then
      ox_cl (fn_LW_stop 0 v_x_planned v_x_works_entryStopped) fun (r46, s46_v_p0_works_entryStopped) =>
      ox_gd (i4 + 1) L (
      ox_cl (fn_MD_stop 0 v_m_thrown v_m_hasPlan v_m_stopped) fun (s47_v_thrown, s47_v_stopped) =>
      ox_cl (fn_MD_thrown s47_v_thrown) fun r48 =>
      if r48 = r46 then
        rec (i4 + 4) (v_x_planned, v_x_layout_tanks, v_x_tried_count, v_x_timing_rules, v_x_found_cycle, v_x_found_order_count, v_x_works_second, v_x_works_cycleSecond, v_x_works_nextRank, s46_v_p0_works_entryStopped, v_x_works_entered, v_x_works_done, v_x_works_lastStay, v_x_works_hoistCarrier, v_x_works_hoistMove, v_x_works_hoistEntry, v_x_works_hoistEnd, f_x_layout_low, f_x_layout_high, f_x_layout_loadedSeconds, f_x_tried_moves, f_x_tried_rank, f_x_timing_before, f_x_timing_after, f_x_timing_seconds, f_x_timing_turns, f_x_timing_cause, f_x_timing_times, f_x_found_order_moves, f_x_found_order_rank, f_x_found_times, f_x_works_carriers, f_x_works_entries, f_out, f_x_layout_emptySeconds) (s47_v_thrown, v_m_tanks, v_m_hasPlan, v_m_cycle, v_m_second, v_m_entered, v_m_done, v_m_took, s47_v_stopped, v_m_move, v_m_ends, v_m_onHoist, v_m_began, f_m_low, f_m_high, f_m_loaded, f_m_empty, f_m_order, f_m_places, f_m_times, f_m_planOrder, f_m_planTimes, f_m_carriers, f_m_begins)
      else
        some 0)
    else
      ox_cl (fn_LW_stop 1 v_x_planned v_x_works_entryStopped) fun (r50, s50_v_p0_works_entryStopped) =>
      ox_gd (i4 + 1) L (
      ox_cl (fn_MD_stop 1 v_m_thrown v_m_hasPlan v_m_stopped) fun (s51_v_thrown, s51_v_stopped) =>
      ox_cl (fn_MD_thrown s51_v_thrown) fun r52 =>
      if r52 = r50 then
        rec (i4 + 4) (v_x_planned, v_x_layout_tanks, v_x_tried_count, v_x_timing_rules, v_x_found_cycle, v_x_found_order_count, v_x_works_second, v_x_works_cycleSecond, v_x_works_nextRank, s50_v_p0_works_entryStopped, v_x_works_entered, v_x_works_done, v_x_works_lastStay, v_x_works_hoistCarrier, v_x_works_hoistMove, v_x_works_hoistEntry, v_x_works_hoistEnd, f_x_layout_low, f_x_layout_high, f_x_layout_loadedSeconds, f_x_tried_moves, f_x_tried_rank, f_x_timing_before, f_x_timing_after, f_x_timing_seconds, f_x_timing_turns, f_x_timing_cause, f_x_timing_times, f_x_found_order_moves, f_x_found_order_rank, f_x_found_times, f_x_works_carriers, f_x_works_entries, f_out, f_x_layout_emptySeconds) (s51_v_thrown, v_m_tanks, v_m_hasPlan, v_m_cycle, v_m_second, v_m_entered, v_m_done, v_m_took, s51_v_stopped, v_m_move, v_m_ends, v_m_onHoist, v_m_began, f_m_low, f_m_high, f_m_loaded, f_m_empty, f_m_order, f_m_places, f_m_times, f_m_planOrder, f_m_planTimes, f_m_carriers, f_m_begins)
      else
        some 0))
def cs_LW_10 (z : Nat) (L : Nat) (xs : Nat → Int32) (rec : Int32 → XS → MS → Option Int32) (i4 : Int32) : XS → MS → Option Int32
  | (v_x_planned, v_x_layout_tanks, v_x_tried_count, v_x_timing_rules, v_x_found_cycle, v_x_found_order_count, v_x_works_second, v_x_works_cycleSecond, v_x_works_nextRank, v_x_works_entryStopped, v_x_works_entered, v_x_works_done, v_x_works_lastStay, v_x_works_hoistCarrier, v_x_works_hoistMove, v_x_works_hoistEntry, v_x_works_hoistEnd, f_x_layout_low, f_x_layout_high, f_x_layout_loadedSeconds, f_x_tried_moves, f_x_tried_rank, f_x_timing_before, f_x_timing_after, f_x_timing_seconds, f_x_timing_turns, f_x_timing_cause, f_x_timing_times, f_x_found_order_moves, f_x_found_order_rank, f_x_found_times, f_x_works_carriers, f_x_works_entries, f_out, f_x_layout_emptySeconds), (v_m_thrown, v_m_tanks, v_m_hasPlan, v_m_cycle, v_m_second, v_m_entered, v_m_done, v_m_took, v_m_stopped, v_m_move, v_m_ends, v_m_onHoist, v_m_began, f_m_low, f_m_high, f_m_loaded, f_m_empty, f_m_order, f_m_places, f_m_times, f_m_planOrder, f_m_planTimes, f_m_carriers, f_m_begins) =>
    ox_gd (i4 + 1) L (
    ox_cl (fn_LW_tank (xs (i4 + 1).toNatClampNeg) v_x_planned v_x_layout_tanks f_x_works_carriers f_out) fun (r54, s54_f_p2) =>
    ox_gd (i4 + 1) L (
    ox_cl (fn_MD_tank (xs (i4 + 1).toNatClampNeg) v_m_thrown v_m_tanks v_m_hasPlan f_m_carriers) fun (r55, s55_v_thrown) =>
    ox_cl (fn_MD_thrown s55_v_thrown) fun r56 =>
    if r56 = r54 then
      if ¬ r54 = 0 then
        rec (i4 + 4) (v_x_planned, v_x_layout_tanks, v_x_tried_count, v_x_timing_rules, v_x_found_cycle, v_x_found_order_count, v_x_works_second, v_x_works_cycleSecond, v_x_works_nextRank, v_x_works_entryStopped, v_x_works_entered, v_x_works_done, v_x_works_lastStay, v_x_works_hoistCarrier, v_x_works_hoistMove, v_x_works_hoistEntry, v_x_works_hoistEnd, f_x_layout_low, f_x_layout_high, f_x_layout_loadedSeconds, f_x_tried_moves, f_x_tried_rank, f_x_timing_before, f_x_timing_after, f_x_timing_seconds, f_x_timing_turns, f_x_timing_cause, f_x_timing_times, f_x_found_order_moves, f_x_found_order_rank, f_x_found_times, f_x_works_carriers, f_x_works_entries, s54_f_p2, f_x_layout_emptySeconds) (s55_v_thrown, v_m_tanks, v_m_hasPlan, v_m_cycle, v_m_second, v_m_entered, v_m_done, v_m_took, v_m_stopped, v_m_move, v_m_ends, v_m_onHoist, v_m_began, f_m_low, f_m_high, f_m_loaded, f_m_empty, f_m_order, f_m_places, f_m_times, f_m_planOrder, f_m_planTimes, f_m_carriers, f_m_begins)
      else
        if (lg_cmp (s54_f_p2 0) r55.toInt64) = 0 then
          rec (i4 + 4) (v_x_planned, v_x_layout_tanks, v_x_tried_count, v_x_timing_rules, v_x_found_cycle, v_x_found_order_count, v_x_works_second, v_x_works_cycleSecond, v_x_works_nextRank, v_x_works_entryStopped, v_x_works_entered, v_x_works_done, v_x_works_lastStay, v_x_works_hoistCarrier, v_x_works_hoistMove, v_x_works_hoistEntry, v_x_works_hoistEnd, f_x_layout_low, f_x_layout_high, f_x_layout_loadedSeconds, f_x_tried_moves, f_x_tried_rank, f_x_timing_before, f_x_timing_after, f_x_timing_seconds, f_x_timing_turns, f_x_timing_cause, f_x_timing_times, f_x_found_order_moves, f_x_found_order_rank, f_x_found_times, f_x_works_carriers, f_x_works_entries, s54_f_p2, f_x_layout_emptySeconds) (s55_v_thrown, v_m_tanks, v_m_hasPlan, v_m_cycle, v_m_second, v_m_entered, v_m_done, v_m_took, v_m_stopped, v_m_move, v_m_ends, v_m_onHoist, v_m_began, f_m_low, f_m_high, f_m_loaded, f_m_empty, f_m_order, f_m_places, f_m_times, f_m_planOrder, f_m_planTimes, f_m_carriers, f_m_begins)
        else
          some 0
    else
      some 0))
def cs_LW_11 (z : Nat) (L : Nat) (xs : Nat → Int32) (rec : Int32 → XS → MS → Option Int32) (i4 : Int32) : XS → MS → Option Int32
  | (v_x_planned, v_x_layout_tanks, v_x_tried_count, v_x_timing_rules, v_x_found_cycle, v_x_found_order_count, v_x_works_second, v_x_works_cycleSecond, v_x_works_nextRank, v_x_works_entryStopped, v_x_works_entered, v_x_works_done, v_x_works_lastStay, v_x_works_hoistCarrier, v_x_works_hoistMove, v_x_works_hoistEntry, v_x_works_hoistEnd, f_x_layout_low, f_x_layout_high, f_x_layout_loadedSeconds, f_x_tried_moves, f_x_tried_rank, f_x_timing_before, f_x_timing_after, f_x_timing_seconds, f_x_timing_turns, f_x_timing_cause, f_x_timing_times, f_x_found_order_moves, f_x_found_order_rank, f_x_found_times, f_x_works_carriers, f_x_works_entries, f_out, f_x_layout_emptySeconds), (v_m_thrown, v_m_tanks, v_m_hasPlan, v_m_cycle, v_m_second, v_m_entered, v_m_done, v_m_took, v_m_stopped, v_m_move, v_m_ends, v_m_onHoist, v_m_began, f_m_low, f_m_high, f_m_loaded, f_m_empty, f_m_order, f_m_places, f_m_times, f_m_planOrder, f_m_planTimes, f_m_carriers, f_m_begins) =>
    ox_gd (i4 + 1) L (
    ox_cl (fn_LW_state z (xs (i4 + 1).toNatClampNeg) v_x_planned v_x_works_second v_x_works_entered v_x_works_done v_x_works_lastStay v_x_works_hoistCarrier v_x_works_hoistMove v_x_layout_tanks f_x_works_carriers f_out) fun (r60, s60_f_p2) =>
    ox_gd (i4 + 1) L (
    ox_cl (fn_MD_state z (xs (i4 + 1).toNatClampNeg) v_m_thrown v_m_tanks v_m_hasPlan v_m_second v_m_entered v_m_done v_m_took v_m_move v_m_onHoist f_m_carriers) fun (r61, s61_v_thrown) =>
    ox_cl (fn_MD_thrown s61_v_thrown) fun r62 =>
    if r62 = r60 then
      if ¬ r60 = 0 then
        rec (i4 + 4) (v_x_planned, v_x_layout_tanks, v_x_tried_count, v_x_timing_rules, v_x_found_cycle, v_x_found_order_count, v_x_works_second, v_x_works_cycleSecond, v_x_works_nextRank, v_x_works_entryStopped, v_x_works_entered, v_x_works_done, v_x_works_lastStay, v_x_works_hoistCarrier, v_x_works_hoistMove, v_x_works_hoistEntry, v_x_works_hoistEnd, f_x_layout_low, f_x_layout_high, f_x_layout_loadedSeconds, f_x_tried_moves, f_x_tried_rank, f_x_timing_before, f_x_timing_after, f_x_timing_seconds, f_x_timing_turns, f_x_timing_cause, f_x_timing_times, f_x_found_order_moves, f_x_found_order_rank, f_x_found_times, f_x_works_carriers, f_x_works_entries, s60_f_p2, f_x_layout_emptySeconds) (s61_v_thrown, v_m_tanks, v_m_hasPlan, v_m_cycle, v_m_second, v_m_entered, v_m_done, v_m_took, v_m_stopped, v_m_move, v_m_ends, v_m_onHoist, v_m_began, f_m_low, f_m_high, f_m_loaded, f_m_empty, f_m_order, f_m_places, f_m_times, f_m_planOrder, f_m_planTimes, f_m_carriers, f_m_begins)
      else
        if (lg_cmp (s60_f_p2 0) r61.toInt64) = 0 then
          rec (i4 + 4) (v_x_planned, v_x_layout_tanks, v_x_tried_count, v_x_timing_rules, v_x_found_cycle, v_x_found_order_count, v_x_works_second, v_x_works_cycleSecond, v_x_works_nextRank, v_x_works_entryStopped, v_x_works_entered, v_x_works_done, v_x_works_lastStay, v_x_works_hoistCarrier, v_x_works_hoistMove, v_x_works_hoistEntry, v_x_works_hoistEnd, f_x_layout_low, f_x_layout_high, f_x_layout_loadedSeconds, f_x_tried_moves, f_x_tried_rank, f_x_timing_before, f_x_timing_after, f_x_timing_seconds, f_x_timing_turns, f_x_timing_cause, f_x_timing_times, f_x_found_order_moves, f_x_found_order_rank, f_x_found_times, f_x_works_carriers, f_x_works_entries, s60_f_p2, f_x_layout_emptySeconds) (s61_v_thrown, v_m_tanks, v_m_hasPlan, v_m_cycle, v_m_second, v_m_entered, v_m_done, v_m_took, v_m_stopped, v_m_move, v_m_ends, v_m_onHoist, v_m_began, f_m_low, f_m_high, f_m_loaded, f_m_empty, f_m_order, f_m_places, f_m_times, f_m_planOrder, f_m_planTimes, f_m_carriers, f_m_begins)
        else
          some 0
    else
      some 0))
def st_LW_law (z : Nat) (L : Nat) (xs : Nat → Int32) (rec : Int32 → XS → MS → Option Int32) (i4 : Int32) (X : XS) (M : MS) : Option Int32 :=
  if ((Int32.ofNat L) - 4) < i4 then
    some 1
  else
    ox_gd i4 L (
    if ((xs i4.toNatClampNeg) &&& 15) = 0 then cs_LW_0 z L xs rec i4 X M
    else
    if ((xs i4.toNatClampNeg) &&& 15) = 1 then cs_LW_1 z L xs rec i4 X M
    else
    if ((xs i4.toNatClampNeg) &&& 15) = 2 then cs_LW_2 z L xs rec i4 X M
    else
    if ((xs i4.toNatClampNeg) &&& 15) = 3 then cs_LW_3 z L xs rec i4 X M
    else
    if ((xs i4.toNatClampNeg) &&& 15) = 4 then cs_LW_4 z L xs rec i4 X M
    else
    if ((xs i4.toNatClampNeg) &&& 15) = 5 then cs_LW_5 z L xs rec i4 X M
    else
    if ((xs i4.toNatClampNeg) &&& 15) = 6 then cs_LW_6 z L xs rec i4 X M
    else
    if ((xs i4.toNatClampNeg) &&& 15) = 7 then cs_LW_7 z L xs rec i4 X M
    else
    if ((xs i4.toNatClampNeg) &&& 15) = 8 then cs_LW_8 z L xs rec i4 X M
    else
    if ((xs i4.toNatClampNeg) &&& 15) = 9 then cs_LW_9 z L xs rec i4 X M
    else
    if ((xs i4.toNatClampNeg) &&& 15) = 10 then cs_LW_10 z L xs rec i4 X M
    else
    if ((xs i4.toNatClampNeg) &&& 15) = 11 then cs_LW_11 z L xs rec i4 X M
    else
    rec (i4 + 4) X M)
def lp_LW_law (z : Nat) (L : Nat) (xs : Nat → Int32) : Nat → Int32 → XS → MS → Option Int32
  | 0 => fun _ _ _ => none
  | fu+1 => st_LW_law z L xs (lp_LW_law z L xs fu)
