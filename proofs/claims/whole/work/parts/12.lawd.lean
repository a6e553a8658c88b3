/-! THE CLAIM OUT OF ONE WALK OF THE LAW'S BODY. Your part is whole_start (and what it stands on); all else here is the same for every law, but numbers. -/
def R_law : String := "NoneWordsLaw"
def lw_P (b : Addr) (xs : List Int32) (args : Array Value) (s : State) : Prop := args = #[.ref b] ∧ s.IntsAt b xs ∧ xs.length ≤ 3072 ∧ (Jvm.Cond.and given_1 narrow_1).before args s = true
def lw_Q (_ : Array Value) (s : State) (o : Outcome) (t : State) : Prop := o = .returned (some (.int 1)) ∧ Framed s o t [] 600000 7302250
def lw_Z (below : List Frame) (a : Array Value) (s : State) : State → Prop := fun t => ∃ o, t.status = .running ∧ Ended t below o ∧ lw_Q a s o t
/-- the law's own end, with 1 on the stack, nothing written that was there before, its room as the claim has it -/
theorem lw_ret {p : Program} {l : Launch} {e : Env} {s : State} {m : MethodId} {below : List Frame} {meth : Method} {c : Code} {b : Nat} (hx : p.tables.exec = Jvm.exec) (hb : c.code = code) (hr : meth.sig.returnType = ret) (hlocks : meth.locks = false) {pc : Nat} {H : Heap} {ls : Array Slot} (hdg : decode code pc = .ok (.ireturn, 1)) : W p l e room_1 s m #[Value.ref b] below meth c H [] 600000 7302250 (lw_Z below #[Value.ref b] s) (F0 m pc ls [.int 1]) := by
  intro T hT X
  obtain ⟨fs, hret, hrun, hended, hW, hframe⟩ := X.leave (v := some (.int 1)) (hlocks := hlocks) (fun h => by rw [hr] at h; cases h)
  have hmeth' : T.vm.method? m = some meth := X.method'
  refine ⟨T.setFrames fs, ?_, .returned (some (.int 1)), hrun, hended, rfl, ⟨_, rfl⟩, hW, hframe⟩
  jvm_step X.here [X.here.top, hx, hb, hdg, hmeth', hr, ret, narrow_b1]
  (try refine ⟨rfl, ?_⟩); (try refine ⟨rfl, ?_⟩)
  first | (intro acts; rw [hret _ acts rfl rfl rfl]) | rw [hret _ _ rfl rfl rfl]
  exact Steps.refl _
/-- what holds at the law's entry: the machine, the code, the tables' words (any of lw_tbl by 'hts w (by decide +kernel)'), the script of L ints xs at the cell b, what the Statement gives of the start (any of its parts by flat_of_before) -/
def lw_At (p : Program) (s : State) (m : MethodId) (meth : Method) (c : Code) (b L : Nat) (xs : Nat → Int32) : Prop :=
  p.tables.exec = Jvm.exec ∧ c.code = code ∧ meth.sig.returnType = ret ∧ c.maxLocals = 4 ∧ s.vm.findClass R_law = some m.cls ∧ (∀ w ∈ lw_tbl, w.before #[Value.ref b] s = true) ∧ va_X b L xs s s.heap ∧ b < s.heap.size ∧ meth.locks = false ∧ (Jvm.Cond.and given_1 narrow_1).before #[Value.ref b] s = true

theorem d_L_0 : decode code 0 = .ok (.new 7, 3) := by decide +kernel
theorem d_L_3 : decode code 3 = .ok (.dup, 1) := by decide +kernel
theorem d_L_4 : decode code 4 = .ok (.invokespecial 9, 3) := by decide +kernel
theorem d_L_7 : decode code 7 = .ok (.astore_n 1, 1) := by decide +kernel
theorem d_L_8 : decode code 8 = .ok (.new 10, 3) := by decide +kernel
theorem d_L_11 : decode code 11 = .ok (.dup, 1) := by decide +kernel
theorem d_L_12 : decode code 12 = .ok (.invokespecial 12, 3) := by decide +kernel
theorem d_L_15 : decode code 15 = .ok (.astore_n 2, 1) := by decide +kernel
theorem d_L_16 : decode code 16 = .ok (.iconst 0, 1) := by decide +kernel
theorem d_L_17 : decode code 17 = .ok (.istore_n 3, 1) := by decide +kernel
theorem d_L_18 : decode code 18 = .ok (.iload_n 3, 1) := by decide +kernel
theorem d_L_19 : decode code 19 = .ok (.aload_n 0, 1) := by decide +kernel
theorem d_L_20 : decode code 20 = .ok (.arraylength, 1) := by decide +kernel
theorem d_L_21 : decode code 21 = .ok (.bipush 6, 2) := by decide +kernel
theorem d_L_23 : decode code 23 = .ok (.isub, 1) := by decide +kernel
theorem d_L_24 : decode code 24 = .ok (.if_icmp .gt 478, 3) := by decide +kernel
theorem d_L_27 : decode code 27 = .ok (.aload_n 0, 1) := by decide +kernel
theorem d_L_28 : decode code 28 = .ok (.iload_n 3, 1) := by decide +kernel
theorem d_L_29 : decode code 29 = .ok (.iaload, 1) := by decide +kernel
theorem d_L_30 : decode code 30 = .ok (.bipush 15, 2) := by decide +kernel
theorem d_L_32 : decode code 32 = .ok (.iand, 1) := by decide +kernel
theorem d_L_33 : decode code 33 = .ok (.tableswitch 463 0 13 #[71, 94, 157, 200, 223, 266, 289, 312, 345, 368, 391, 404, 417, 440], 71) := by decide +kernel
theorem d_L_104 : decode code 104 = .ok (.aload_n 1, 1) := by decide +kernel
theorem d_L_105 : decode code 105 = .ok (.aload_n 0, 1) := by decide +kernel
theorem d_L_106 : decode code 106 = .ok (.iload_n 3, 1) := by decide +kernel
theorem d_L_107 : decode code 107 = .ok (.iconst 1, 1) := by decide +kernel
theorem d_L_108 : decode code 108 = .ok (.iadd, 1) := by decide +kernel
theorem d_L_109 : decode code 109 = .ok (.iaload, 1) := by decide +kernel
theorem d_L_110 : decode code 110 = .ok (.invokevirtual 13, 3) := by decide +kernel
theorem d_L_113 : decode code 113 = .ok (.aload_n 2, 1) := by decide +kernel
theorem d_L_114 : decode code 114 = .ok (.aload_n 0, 1) := by decide +kernel
theorem d_L_115 : decode code 115 = .ok (.iload_n 3, 1) := by decide +kernel
theorem d_L_116 : decode code 116 = .ok (.iconst 1, 1) := by decide +kernel
theorem d_L_117 : decode code 117 = .ok (.iadd, 1) := by decide +kernel
theorem d_L_118 : decode code 118 = .ok (.iaload, 1) := by decide +kernel
theorem d_L_119 : decode code 119 = .ok (.invokevirtual 17, 3) := by decide +kernel
theorem d_L_122 : decode code 122 = .ok (.if_icmp .eq 374, 3) := by decide +kernel
theorem d_L_125 : decode code 125 = .ok (.iconst 0, 1) := by decide +kernel
theorem d_L_126 : decode code 126 = .ok (.ireturn, 1) := by decide +kernel
theorem d_L_127 : decode code 127 = .ok (.aload_n 1, 1) := by decide +kernel
theorem d_L_128 : decode code 128 = .ok (.aload_n 0, 1) := by decide +kernel
theorem d_L_129 : decode code 129 = .ok (.iload_n 3, 1) := by decide +kernel
theorem d_L_130 : decode code 130 = .ok (.iconst 1, 1) := by decide +kernel
theorem d_L_131 : decode code 131 = .ok (.iadd, 1) := by decide +kernel
theorem d_L_132 : decode code 132 = .ok (.iaload, 1) := by decide +kernel
theorem d_L_133 : decode code 133 = .ok (.aload_n 0, 1) := by decide +kernel
theorem d_L_134 : decode code 134 = .ok (.iload_n 3, 1) := by decide +kernel
theorem d_L_135 : decode code 135 = .ok (.iconst 2, 1) := by decide +kernel
theorem d_L_136 : decode code 136 = .ok (.iadd, 1) := by decide +kernel
theorem d_L_137 : decode code 137 = .ok (.iaload, 1) := by decide +kernel
theorem d_L_138 : decode code 138 = .ok (.aload_n 0, 1) := by decide +kernel
theorem d_L_139 : decode code 139 = .ok (.iload_n 3, 1) := by decide +kernel
theorem d_L_140 : decode code 140 = .ok (.iconst 3, 1) := by decide +kernel
theorem d_L_141 : decode code 141 = .ok (.iadd, 1) := by decide +kernel
theorem d_L_142 : decode code 142 = .ok (.iaload, 1) := by decide +kernel
theorem d_L_143 : decode code 143 = .ok (.aload_n 0, 1) := by decide +kernel
theorem d_L_144 : decode code 144 = .ok (.iload_n 3, 1) := by decide +kernel
theorem d_L_145 : decode code 145 = .ok (.iconst 4, 1) := by decide +kernel
theorem d_L_146 : decode code 146 = .ok (.iadd, 1) := by decide +kernel
theorem d_L_147 : decode code 147 = .ok (.iaload, 1) := by decide +kernel
theorem d_L_148 : decode code 148 = .ok (.aload_n 0, 1) := by decide +kernel
theorem d_L_149 : decode code 149 = .ok (.iload_n 3, 1) := by decide +kernel
theorem d_L_150 : decode code 150 = .ok (.iconst 5, 1) := by decide +kernel
theorem d_L_151 : decode code 151 = .ok (.iadd, 1) := by decide +kernel
theorem d_L_152 : decode code 152 = .ok (.iaload, 1) := by decide +kernel
theorem d_L_153 : decode code 153 = .ok (.invokevirtual 18, 3) := by decide +kernel
theorem d_L_156 : decode code 156 = .ok (.aload_n 2, 1) := by decide +kernel
theorem d_L_157 : decode code 157 = .ok (.aload_n 0, 1) := by decide +kernel
theorem d_L_158 : decode code 158 = .ok (.iload_n 3, 1) := by decide +kernel
theorem d_L_159 : decode code 159 = .ok (.iconst 1, 1) := by decide +kernel
theorem d_L_160 : decode code 160 = .ok (.iadd, 1) := by decide +kernel
theorem d_L_161 : decode code 161 = .ok (.iaload, 1) := by decide +kernel
theorem d_L_162 : decode code 162 = .ok (.aload_n 0, 1) := by decide +kernel
theorem d_L_163 : decode code 163 = .ok (.iload_n 3, 1) := by decide +kernel
theorem d_L_164 : decode code 164 = .ok (.iconst 2, 1) := by decide +kernel
theorem d_L_165 : decode code 165 = .ok (.iadd, 1) := by decide +kernel
theorem d_L_166 : decode code 166 = .ok (.iaload, 1) := by decide +kernel
theorem d_L_167 : decode code 167 = .ok (.aload_n 0, 1) := by decide +kernel
theorem d_L_168 : decode code 168 = .ok (.iload_n 3, 1) := by decide +kernel
theorem d_L_169 : decode code 169 = .ok (.iconst 3, 1) := by decide +kernel
theorem d_L_170 : decode code 170 = .ok (.iadd, 1) := by decide +kernel
theorem d_L_171 : decode code 171 = .ok (.iaload, 1) := by decide +kernel
theorem d_L_172 : decode code 172 = .ok (.aload_n 0, 1) := by decide +kernel
theorem d_L_173 : decode code 173 = .ok (.iload_n 3, 1) := by decide +kernel
theorem d_L_174 : decode code 174 = .ok (.iconst 4, 1) := by decide +kernel
theorem d_L_175 : decode code 175 = .ok (.iadd, 1) := by decide +kernel
theorem d_L_176 : decode code 176 = .ok (.iaload, 1) := by decide +kernel
theorem d_L_177 : decode code 177 = .ok (.aload_n 0, 1) := by decide +kernel
theorem d_L_178 : decode code 178 = .ok (.iload_n 3, 1) := by decide +kernel
theorem d_L_179 : decode code 179 = .ok (.iconst 5, 1) := by decide +kernel
theorem d_L_180 : decode code 180 = .ok (.iadd, 1) := by decide +kernel
theorem d_L_181 : decode code 181 = .ok (.iaload, 1) := by decide +kernel
theorem d_L_182 : decode code 182 = .ok (.invokevirtual 22, 3) := by decide +kernel
theorem d_L_185 : decode code 185 = .ok (.if_icmp .eq 311, 3) := by decide +kernel
theorem d_L_188 : decode code 188 = .ok (.iconst 0, 1) := by decide +kernel
theorem d_L_189 : decode code 189 = .ok (.ireturn, 1) := by decide +kernel
theorem d_L_190 : decode code 190 = .ok (.aload_n 1, 1) := by decide +kernel
theorem d_L_191 : decode code 191 = .ok (.aload_n 0, 1) := by decide +kernel
theorem d_L_192 : decode code 192 = .ok (.iload_n 3, 1) := by decide +kernel
theorem d_L_193 : decode code 193 = .ok (.iconst 1, 1) := by decide +kernel
theorem d_L_194 : decode code 194 = .ok (.iadd, 1) := by decide +kernel
theorem d_L_195 : decode code 195 = .ok (.iaload, 1) := by decide +kernel
theorem d_L_196 : decode code 196 = .ok (.aload_n 0, 1) := by decide +kernel
theorem d_L_197 : decode code 197 = .ok (.iload_n 3, 1) := by decide +kernel
theorem d_L_198 : decode code 198 = .ok (.iconst 2, 1) := by decide +kernel
theorem d_L_199 : decode code 199 = .ok (.iadd, 1) := by decide +kernel
theorem d_L_200 : decode code 200 = .ok (.iaload, 1) := by decide +kernel
theorem d_L_201 : decode code 201 = .ok (.aload_n 0, 1) := by decide +kernel
theorem d_L_202 : decode code 202 = .ok (.iload_n 3, 1) := by decide +kernel
theorem d_L_203 : decode code 203 = .ok (.iconst 3, 1) := by decide +kernel
theorem d_L_204 : decode code 204 = .ok (.iadd, 1) := by decide +kernel
theorem d_L_205 : decode code 205 = .ok (.iaload, 1) := by decide +kernel
theorem d_L_206 : decode code 206 = .ok (.invokevirtual 23, 3) := by decide +kernel
theorem d_L_209 : decode code 209 = .ok (.aload_n 2, 1) := by decide +kernel
theorem d_L_210 : decode code 210 = .ok (.aload_n 0, 1) := by decide +kernel
theorem d_L_211 : decode code 211 = .ok (.iload_n 3, 1) := by decide +kernel
theorem d_L_212 : decode code 212 = .ok (.iconst 1, 1) := by decide +kernel
theorem d_L_213 : decode code 213 = .ok (.iadd, 1) := by decide +kernel
theorem d_L_214 : decode code 214 = .ok (.iaload, 1) := by decide +kernel
theorem d_L_215 : decode code 215 = .ok (.aload_n 0, 1) := by decide +kernel
theorem d_L_216 : decode code 216 = .ok (.iload_n 3, 1) := by decide +kernel
theorem d_L_217 : decode code 217 = .ok (.iconst 2, 1) := by decide +kernel
theorem d_L_218 : decode code 218 = .ok (.iadd, 1) := by decide +kernel
theorem d_L_219 : decode code 219 = .ok (.iaload, 1) := by decide +kernel
theorem d_L_220 : decode code 220 = .ok (.aload_n 0, 1) := by decide +kernel
theorem d_L_221 : decode code 221 = .ok (.iload_n 3, 1) := by decide +kernel
theorem d_L_222 : decode code 222 = .ok (.iconst 3, 1) := by decide +kernel
theorem d_L_223 : decode code 223 = .ok (.iadd, 1) := by decide +kernel
theorem d_L_224 : decode code 224 = .ok (.iaload, 1) := by decide +kernel
theorem d_L_225 : decode code 225 = .ok (.invokevirtual 27, 3) := by decide +kernel
theorem d_L_228 : decode code 228 = .ok (.if_icmp .eq 268, 3) := by decide +kernel
theorem d_L_231 : decode code 231 = .ok (.iconst 0, 1) := by decide +kernel
theorem d_L_232 : decode code 232 = .ok (.ireturn, 1) := by decide +kernel
theorem d_L_233 : decode code 233 = .ok (.aload_n 1, 1) := by decide +kernel
theorem d_L_234 : decode code 234 = .ok (.aload_n 0, 1) := by decide +kernel
theorem d_L_235 : decode code 235 = .ok (.iload_n 3, 1) := by decide +kernel
theorem d_L_236 : decode code 236 = .ok (.iconst 1, 1) := by decide +kernel
theorem d_L_237 : decode code 237 = .ok (.iadd, 1) := by decide +kernel
theorem d_L_238 : decode code 238 = .ok (.iaload, 1) := by decide +kernel
theorem d_L_239 : decode code 239 = .ok (.invokevirtual 28, 3) := by decide +kernel
theorem d_L_242 : decode code 242 = .ok (.aload_n 2, 1) := by decide +kernel
theorem d_L_243 : decode code 243 = .ok (.aload_n 0, 1) := by decide +kernel
theorem d_L_244 : decode code 244 = .ok (.iload_n 3, 1) := by decide +kernel
theorem d_L_245 : decode code 245 = .ok (.iconst 1, 1) := by decide +kernel
theorem d_L_246 : decode code 246 = .ok (.iadd, 1) := by decide +kernel
theorem d_L_247 : decode code 247 = .ok (.iaload, 1) := by decide +kernel
theorem d_L_248 : decode code 248 = .ok (.invokevirtual 31, 3) := by decide +kernel
theorem d_L_251 : decode code 251 = .ok (.if_icmp .eq 245, 3) := by decide +kernel
theorem d_L_254 : decode code 254 = .ok (.iconst 0, 1) := by decide +kernel
theorem d_L_255 : decode code 255 = .ok (.ireturn, 1) := by decide +kernel
theorem d_L_256 : decode code 256 = .ok (.aload_n 1, 1) := by decide +kernel
theorem d_L_257 : decode code 257 = .ok (.aload_n 0, 1) := by decide +kernel
theorem d_L_258 : decode code 258 = .ok (.iload_n 3, 1) := by decide +kernel
theorem d_L_259 : decode code 259 = .ok (.iconst 1, 1) := by decide +kernel
theorem d_L_260 : decode code 260 = .ok (.iadd, 1) := by decide +kernel
theorem d_L_261 : decode code 261 = .ok (.iaload, 1) := by decide +kernel
theorem d_L_262 : decode code 262 = .ok (.aload_n 0, 1) := by decide +kernel
theorem d_L_263 : decode code 263 = .ok (.iload_n 3, 1) := by decide +kernel
theorem d_L_264 : decode code 264 = .ok (.iconst 2, 1) := by decide +kernel
theorem d_L_265 : decode code 265 = .ok (.iadd, 1) := by decide +kernel
theorem d_L_266 : decode code 266 = .ok (.iaload, 1) := by decide +kernel
theorem d_L_267 : decode code 267 = .ok (.aload_n 0, 1) := by decide +kernel
theorem d_L_268 : decode code 268 = .ok (.iload_n 3, 1) := by decide +kernel
theorem d_L_269 : decode code 269 = .ok (.iconst 3, 1) := by decide +kernel
theorem d_L_270 : decode code 270 = .ok (.iadd, 1) := by decide +kernel
theorem d_L_271 : decode code 271 = .ok (.iaload, 1) := by decide +kernel
theorem d_L_272 : decode code 272 = .ok (.invokevirtual 32, 3) := by decide +kernel
theorem d_L_275 : decode code 275 = .ok (.aload_n 2, 1) := by decide +kernel
theorem d_L_276 : decode code 276 = .ok (.aload_n 0, 1) := by decide +kernel
theorem d_L_277 : decode code 277 = .ok (.iload_n 3, 1) := by decide +kernel
theorem d_L_278 : decode code 278 = .ok (.iconst 1, 1) := by decide +kernel
theorem d_L_279 : decode code 279 = .ok (.iadd, 1) := by decide +kernel
theorem d_L_280 : decode code 280 = .ok (.iaload, 1) := by decide +kernel
theorem d_L_281 : decode code 281 = .ok (.aload_n 0, 1) := by decide +kernel
theorem d_L_282 : decode code 282 = .ok (.iload_n 3, 1) := by decide +kernel
theorem d_L_283 : decode code 283 = .ok (.iconst 2, 1) := by decide +kernel
theorem d_L_284 : decode code 284 = .ok (.iadd, 1) := by decide +kernel
theorem d_L_285 : decode code 285 = .ok (.iaload, 1) := by decide +kernel
theorem d_L_286 : decode code 286 = .ok (.aload_n 0, 1) := by decide +kernel
theorem d_L_287 : decode code 287 = .ok (.iload_n 3, 1) := by decide +kernel
theorem d_L_288 : decode code 288 = .ok (.iconst 3, 1) := by decide +kernel
theorem d_L_289 : decode code 289 = .ok (.iadd, 1) := by decide +kernel
theorem d_L_290 : decode code 290 = .ok (.iaload, 1) := by decide +kernel
theorem d_L_291 : decode code 291 = .ok (.invokevirtual 35, 3) := by decide +kernel
theorem d_L_294 : decode code 294 = .ok (.if_icmp .eq 202, 3) := by decide +kernel
theorem d_L_297 : decode code 297 = .ok (.iconst 0, 1) := by decide +kernel
theorem d_L_298 : decode code 298 = .ok (.ireturn, 1) := by decide +kernel
theorem d_L_299 : decode code 299 = .ok (.aload_n 1, 1) := by decide +kernel
theorem d_L_300 : decode code 300 = .ok (.aload_n 0, 1) := by decide +kernel
theorem d_L_301 : decode code 301 = .ok (.iload_n 3, 1) := by decide +kernel
theorem d_L_302 : decode code 302 = .ok (.iconst 1, 1) := by decide +kernel
theorem d_L_303 : decode code 303 = .ok (.iadd, 1) := by decide +kernel
theorem d_L_304 : decode code 304 = .ok (.iaload, 1) := by decide +kernel
theorem d_L_305 : decode code 305 = .ok (.invokevirtual 36, 3) := by decide +kernel
theorem d_L_308 : decode code 308 = .ok (.aload_n 2, 1) := by decide +kernel
theorem d_L_309 : decode code 309 = .ok (.aload_n 0, 1) := by decide +kernel
theorem d_L_310 : decode code 310 = .ok (.iload_n 3, 1) := by decide +kernel
theorem d_L_311 : decode code 311 = .ok (.iconst 1, 1) := by decide +kernel
theorem d_L_312 : decode code 312 = .ok (.iadd, 1) := by decide +kernel
theorem d_L_313 : decode code 313 = .ok (.iaload, 1) := by decide +kernel
theorem d_L_314 : decode code 314 = .ok (.invokevirtual 39, 3) := by decide +kernel
theorem d_L_317 : decode code 317 = .ok (.if_icmp .eq 179, 3) := by decide +kernel
theorem d_L_320 : decode code 320 = .ok (.iconst 0, 1) := by decide +kernel
theorem d_L_321 : decode code 321 = .ok (.ireturn, 1) := by decide +kernel
theorem d_L_322 : decode code 322 = .ok (.aload_n 1, 1) := by decide +kernel
theorem d_L_323 : decode code 323 = .ok (.aload_n 0, 1) := by decide +kernel
theorem d_L_324 : decode code 324 = .ok (.iload_n 3, 1) := by decide +kernel
theorem d_L_325 : decode code 325 = .ok (.iconst 1, 1) := by decide +kernel
theorem d_L_326 : decode code 326 = .ok (.iadd, 1) := by decide +kernel
theorem d_L_327 : decode code 327 = .ok (.iaload, 1) := by decide +kernel
theorem d_L_328 : decode code 328 = .ok (.invokevirtual 40, 3) := by decide +kernel
theorem d_L_331 : decode code 331 = .ok (.aload_n 2, 1) := by decide +kernel
theorem d_L_332 : decode code 332 = .ok (.aload_n 0, 1) := by decide +kernel
theorem d_L_333 : decode code 333 = .ok (.iload_n 3, 1) := by decide +kernel
theorem d_L_334 : decode code 334 = .ok (.iconst 1, 1) := by decide +kernel
theorem d_L_335 : decode code 335 = .ok (.iadd, 1) := by decide +kernel
theorem d_L_336 : decode code 336 = .ok (.iaload, 1) := by decide +kernel
theorem d_L_337 : decode code 337 = .ok (.invokevirtual 43, 3) := by decide +kernel
theorem d_L_340 : decode code 340 = .ok (.if_icmp .eq 156, 3) := by decide +kernel
theorem d_L_343 : decode code 343 = .ok (.iconst 0, 1) := by decide +kernel
theorem d_L_344 : decode code 344 = .ok (.ireturn, 1) := by decide +kernel
theorem d_L_345 : decode code 345 = .ok (.aload_n 1, 1) := by decide +kernel
theorem d_L_346 : decode code 346 = .ok (.aload_n 0, 1) := by decide +kernel
theorem d_L_347 : decode code 347 = .ok (.iload_n 3, 1) := by decide +kernel
theorem d_L_348 : decode code 348 = .ok (.iconst 1, 1) := by decide +kernel
theorem d_L_349 : decode code 349 = .ok (.iadd, 1) := by decide +kernel
theorem d_L_350 : decode code 350 = .ok (.iaload, 1) := by decide +kernel
theorem d_L_351 : decode code 351 = .ok (.aload_n 0, 1) := by decide +kernel
theorem d_L_352 : decode code 352 = .ok (.iload_n 3, 1) := by decide +kernel
theorem d_L_353 : decode code 353 = .ok (.iconst 2, 1) := by decide +kernel
theorem d_L_354 : decode code 354 = .ok (.iadd, 1) := by decide +kernel
theorem d_L_355 : decode code 355 = .ok (.iaload, 1) := by decide +kernel
theorem d_L_356 : decode code 356 = .ok (.invokevirtual 44, 3) := by decide +kernel
theorem d_L_359 : decode code 359 = .ok (.aload_n 2, 1) := by decide +kernel
theorem d_L_360 : decode code 360 = .ok (.aload_n 0, 1) := by decide +kernel
theorem d_L_361 : decode code 361 = .ok (.iload_n 3, 1) := by decide +kernel
theorem d_L_362 : decode code 362 = .ok (.iconst 1, 1) := by decide +kernel
theorem d_L_363 : decode code 363 = .ok (.iadd, 1) := by decide +kernel
theorem d_L_364 : decode code 364 = .ok (.iaload, 1) := by decide +kernel
theorem d_L_365 : decode code 365 = .ok (.aload_n 0, 1) := by decide +kernel
theorem d_L_366 : decode code 366 = .ok (.iload_n 3, 1) := by decide +kernel
theorem d_L_367 : decode code 367 = .ok (.iconst 2, 1) := by decide +kernel
theorem d_L_368 : decode code 368 = .ok (.iadd, 1) := by decide +kernel
theorem d_L_369 : decode code 369 = .ok (.iaload, 1) := by decide +kernel
theorem d_L_370 : decode code 370 = .ok (.invokevirtual 48, 3) := by decide +kernel
theorem d_L_373 : decode code 373 = .ok (.if_icmp .eq 123, 3) := by decide +kernel
theorem d_L_376 : decode code 376 = .ok (.iconst 0, 1) := by decide +kernel
theorem d_L_377 : decode code 377 = .ok (.ireturn, 1) := by decide +kernel
theorem d_L_378 : decode code 378 = .ok (.aload_n 1, 1) := by decide +kernel
theorem d_L_379 : decode code 379 = .ok (.aload_n 0, 1) := by decide +kernel
theorem d_L_380 : decode code 380 = .ok (.iload_n 3, 1) := by decide +kernel
theorem d_L_381 : decode code 381 = .ok (.iconst 1, 1) := by decide +kernel
theorem d_L_382 : decode code 382 = .ok (.iadd, 1) := by decide +kernel
theorem d_L_383 : decode code 383 = .ok (.iaload, 1) := by decide +kernel
theorem d_L_384 : decode code 384 = .ok (.invokevirtual 49, 3) := by decide +kernel
theorem d_L_387 : decode code 387 = .ok (.aload_n 2, 1) := by decide +kernel
theorem d_L_388 : decode code 388 = .ok (.aload_n 0, 1) := by decide +kernel
theorem d_L_389 : decode code 389 = .ok (.iload_n 3, 1) := by decide +kernel
theorem d_L_390 : decode code 390 = .ok (.iconst 1, 1) := by decide +kernel
theorem d_L_391 : decode code 391 = .ok (.iadd, 1) := by decide +kernel
theorem d_L_392 : decode code 392 = .ok (.iaload, 1) := by decide +kernel
theorem d_L_393 : decode code 393 = .ok (.invokevirtual 52, 3) := by decide +kernel
theorem d_L_396 : decode code 396 = .ok (.if_icmp .eq 100, 3) := by decide +kernel
theorem d_L_399 : decode code 399 = .ok (.iconst 0, 1) := by decide +kernel
theorem d_L_400 : decode code 400 = .ok (.ireturn, 1) := by decide +kernel
theorem d_L_401 : decode code 401 = .ok (.aload_n 1, 1) := by decide +kernel
theorem d_L_402 : decode code 402 = .ok (.aload_n 0, 1) := by decide +kernel
theorem d_L_403 : decode code 403 = .ok (.iload_n 3, 1) := by decide +kernel
theorem d_L_404 : decode code 404 = .ok (.iconst 1, 1) := by decide +kernel
theorem d_L_405 : decode code 405 = .ok (.iadd, 1) := by decide +kernel
theorem d_L_406 : decode code 406 = .ok (.iaload, 1) := by decide +kernel
theorem d_L_407 : decode code 407 = .ok (.invokevirtual 53, 3) := by decide +kernel
theorem d_L_410 : decode code 410 = .ok (.aload_n 2, 1) := by decide +kernel
theorem d_L_411 : decode code 411 = .ok (.aload_n 0, 1) := by decide +kernel
theorem d_L_412 : decode code 412 = .ok (.iload_n 3, 1) := by decide +kernel
theorem d_L_413 : decode code 413 = .ok (.iconst 1, 1) := by decide +kernel
theorem d_L_414 : decode code 414 = .ok (.iadd, 1) := by decide +kernel
theorem d_L_415 : decode code 415 = .ok (.iaload, 1) := by decide +kernel
theorem d_L_416 : decode code 416 = .ok (.invokevirtual 56, 3) := by decide +kernel
theorem d_L_419 : decode code 419 = .ok (.if_icmp .eq 77, 3) := by decide +kernel
theorem d_L_422 : decode code 422 = .ok (.iconst 0, 1) := by decide +kernel
theorem d_L_423 : decode code 423 = .ok (.ireturn, 1) := by decide +kernel
theorem d_L_424 : decode code 424 = .ok (.aload_n 1, 1) := by decide +kernel
theorem d_L_425 : decode code 425 = .ok (.invokevirtual 57, 3) := by decide +kernel
theorem d_L_428 : decode code 428 = .ok (.aload_n 2, 1) := by decide +kernel
theorem d_L_429 : decode code 429 = .ok (.invokevirtual 61, 3) := by decide +kernel
theorem d_L_432 : decode code 432 = .ok (.if_icmp .eq 64, 3) := by decide +kernel
theorem d_L_435 : decode code 435 = .ok (.iconst 0, 1) := by decide +kernel
theorem d_L_436 : decode code 436 = .ok (.ireturn, 1) := by decide +kernel
theorem d_L_437 : decode code 437 = .ok (.aload_n 1, 1) := by decide +kernel
theorem d_L_438 : decode code 438 = .ok (.invokevirtual 62, 3) := by decide +kernel
theorem d_L_441 : decode code 441 = .ok (.aload_n 2, 1) := by decide +kernel
theorem d_L_442 : decode code 442 = .ok (.invokevirtual 66, 3) := by decide +kernel
theorem d_L_445 : decode code 445 = .ok (.if_icmp .eq 51, 3) := by decide +kernel
theorem d_L_448 : decode code 448 = .ok (.iconst 0, 1) := by decide +kernel
theorem d_L_449 : decode code 449 = .ok (.ireturn, 1) := by decide +kernel
theorem d_L_450 : decode code 450 = .ok (.aload_n 1, 1) := by decide +kernel
theorem d_L_451 : decode code 451 = .ok (.aload_n 0, 1) := by decide +kernel
theorem d_L_452 : decode code 452 = .ok (.iload_n 3, 1) := by decide +kernel
theorem d_L_453 : decode code 453 = .ok (.iconst 1, 1) := by decide +kernel
theorem d_L_454 : decode code 454 = .ok (.iadd, 1) := by decide +kernel
theorem d_L_455 : decode code 455 = .ok (.iaload, 1) := by decide +kernel
theorem d_L_456 : decode code 456 = .ok (.invokevirtual 67, 3) := by decide +kernel
theorem d_L_459 : decode code 459 = .ok (.aload_n 2, 1) := by decide +kernel
theorem d_L_460 : decode code 460 = .ok (.aload_n 0, 1) := by decide +kernel
theorem d_L_461 : decode code 461 = .ok (.iload_n 3, 1) := by decide +kernel
theorem d_L_462 : decode code 462 = .ok (.iconst 1, 1) := by decide +kernel
theorem d_L_463 : decode code 463 = .ok (.iadd, 1) := by decide +kernel
theorem d_L_464 : decode code 464 = .ok (.iaload, 1) := by decide +kernel
theorem d_L_465 : decode code 465 = .ok (.invokevirtual 70, 3) := by decide +kernel
theorem d_L_468 : decode code 468 = .ok (.if_icmp .eq 28, 3) := by decide +kernel
theorem d_L_471 : decode code 471 = .ok (.iconst 0, 1) := by decide +kernel
theorem d_L_472 : decode code 472 = .ok (.ireturn, 1) := by decide +kernel
theorem d_L_473 : decode code 473 = .ok (.aload_n 1, 1) := by decide +kernel
theorem d_L_474 : decode code 474 = .ok (.aload_n 0, 1) := by decide +kernel
theorem d_L_475 : decode code 475 = .ok (.iload_n 3, 1) := by decide +kernel
theorem d_L_476 : decode code 476 = .ok (.iconst 1, 1) := by decide +kernel
theorem d_L_477 : decode code 477 = .ok (.iadd, 1) := by decide +kernel
theorem d_L_478 : decode code 478 = .ok (.iaload, 1) := by decide +kernel
theorem d_L_479 : decode code 479 = .ok (.invokevirtual 71, 3) := by decide +kernel
theorem d_L_482 : decode code 482 = .ok (.aload_n 2, 1) := by decide +kernel
theorem d_L_483 : decode code 483 = .ok (.aload_n 0, 1) := by decide +kernel
theorem d_L_484 : decode code 484 = .ok (.iload_n 3, 1) := by decide +kernel
theorem d_L_485 : decode code 485 = .ok (.iconst 1, 1) := by decide +kernel
theorem d_L_486 : decode code 486 = .ok (.iadd, 1) := by decide +kernel
theorem d_L_487 : decode code 487 = .ok (.iaload, 1) := by decide +kernel
theorem d_L_488 : decode code 488 = .ok (.invokevirtual 74, 3) := by decide +kernel
theorem d_L_491 : decode code 491 = .ok (.if_icmp .eq 5, 3) := by decide +kernel
theorem d_L_494 : decode code 494 = .ok (.iconst 0, 1) := by decide +kernel
theorem d_L_495 : decode code 495 = .ok (.ireturn, 1) := by decide +kernel
theorem d_L_496 : decode code 496 = .ok (.iinc 3 6, 3) := by decide +kernel
theorem d_L_499 : decode code 499 = .ok (.goto (-481), 3) := by decide +kernel
theorem d_L_502 : decode code 502 = .ok (.iconst 1, 1) := by decide +kernel
theorem d_L_503 : decode code 503 = .ok (.ireturn, 1) := by decide +kernel
