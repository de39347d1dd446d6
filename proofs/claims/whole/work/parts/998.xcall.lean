/-! THE CLAIM OUT OF ONE WALK OF THE LAW'S BODY. Your part is whole_start (and what it stands on); all else here is the same for every law, but numbers. -/
def R_law : String := "BasisWalkLaw"
def lw_P (b : Addr) (xs : List Int32) (args : Array Value) (s : State) : Prop := args = #[.ref b] ∧ s.IntsAt b xs ∧ xs.length ≤ 2560 ∧ (Jvm.Cond.and given_1 narrow_1).before args s = true
def lw_Q (_ : Array Value) (s : State) (o : Outcome) (t : State) : Prop := o = .returned (some (.int 1)) ∧ Framed s o t [] 600000 7302250
def lw_Z (below : List Frame) (a : Array Value) (s : State) : State → Prop := fun t => ∃ o, t.status = .running ∧ Ended t below o ∧ lw_Q a s o t
/-- the law's own end, with 1 on the stack, nothing written that was there before, its room as the claim has it -/
theorem lw_ret {p : Program} {l : Launch} {e : Env} {s : State} {m : MethodId} {below : List Frame} {meth : Method} {c : Code} {b : Nat} (hx : p.tables.exec = Jvm.exec) (hb : c.code = code) (hr : meth.sig.returnType = ret) (hlocks : meth.locks = false) {pc : Nat} {H : Heap} {ls : Array Slot} (hdg : decode code pc = .ok (.ireturn, 1)) : W p l e room_1 s m #[Value.ref b] below meth c H [] 600000 7302250 (lw_Z below #[Value.ref b] s) (F0 m pc ls [.int 1]) := by
  intro T hT X
  obtain ⟨fs, hret, hrun, hended, hW, hframe⟩ := X.leave (v := some (.int 1)) (hlocks := hlocks) (fun h => by rw [hr] at h; cases h)
  have hmeth' : T.vm.method? m = some meth := X.method'
  refine ⟨T.setFrames fs, ?_, .returned (some (.int 1)), hrun, hended, rfl, ⟨_, rfl⟩, hW, hframe⟩
  jvm_step X.here [X.here.top, hx, hb, hdg, hmeth', hr, ret, narrow_b1]
  (try refine ⟨rfl, ?_⟩); (try refine ⟨rfl, ?_⟩)
  first | (intro acts; rw [hret _ acts rfl rfl rfl]) | rw [hret _ _ rfl rfl rfl]
  exact Steps.refl _
/-- what holds at the law's entry: the machine, the code, the tables' words (any of lw_tbl by 'hts w (by decide +kernel)'), the script of L ints xs at the cell b, what the Statement gives of the start (any of its parts by flat_of_before) -/
def lw_At (p : Program) (s : State) (m : MethodId) (meth : Method) (c : Code) (b L : Nat) (xs : Nat → Int32) : Prop :=
  p.tables.exec = Jvm.exec ∧ c.code = code ∧ meth.sig.returnType = ret ∧ c.maxLocals = 4 ∧ s.vm.findClass R_law = some m.cls ∧ (∀ w ∈ lw_tbl, w.before #[Value.ref b] s = true) ∧ va_X b L xs s s.heap ∧ b < s.heap.size ∧ meth.locks = false ∧ (Jvm.Cond.and given_1 narrow_1).before #[Value.ref b] s = true
theorem d_law_0 : decode code 0 = .ok (.new 7, 3) := by decide +kernel
theorem d_law_3 : decode code 3 = .ok (.dup, 1) := by decide +kernel
theorem d_law_4 : decode code 4 = .ok (.invokespecial 9, 3) := by decide +kernel
theorem d_law_7 : decode code 7 = .ok (.astore_n 1, 1) := by decide +kernel
theorem d_law_8 : decode code 8 = .ok (.new 10, 3) := by decide +kernel
theorem d_law_11 : decode code 11 = .ok (.dup, 1) := by decide +kernel
theorem d_law_12 : decode code 12 = .ok (.invokespecial 12, 3) := by decide +kernel
theorem d_law_15 : decode code 15 = .ok (.astore_n 2, 1) := by decide +kernel
theorem d_law_16 : decode code 16 = .ok (.iconst 0, 1) := by decide +kernel
theorem d_law_17 : decode code 17 = .ok (.istore_n 3, 1) := by decide +kernel
theorem d_law_18 : decode code 18 = .ok (.iload_n 3, 1) := by decide +kernel
theorem d_law_19 : decode code 19 = .ok (.aload_n 0, 1) := by decide +kernel
theorem d_law_20 : decode code 20 = .ok (.arraylength, 1) := by decide +kernel
theorem d_law_21 : decode code 21 = .ok (.iconst 5, 1) := by decide +kernel
theorem d_law_22 : decode code 22 = .ok (.isub, 1) := by decide +kernel
theorem d_law_23 : decode code 23 = .ok (.if_icmp .gt 415, 3) := by decide +kernel
theorem d_law_26 : decode code 26 = .ok (.aload_n 0, 1) := by decide +kernel
theorem d_law_27 : decode code 27 = .ok (.iload_n 3, 1) := by decide +kernel
theorem d_law_28 : decode code 28 = .ok (.iaload, 1) := by decide +kernel
theorem d_law_29 : decode code 29 = .ok (.bipush 15, 2) := by decide +kernel
theorem d_law_31 : decode code 31 = .ok (.iand, 1) := by decide +kernel
theorem d_law_32 : decode code 32 = .ok (.tableswitch 400 0 8 #[52, 105, 158, 181, 214, 247, 290, 334, 367], 52) := by decide +kernel
theorem d_law_84 : decode code 84 = .ok (.aload_n 1, 1) := by decide +kernel
theorem d_law_85 : decode code 85 = .ok (.aload_n 0, 1) := by decide +kernel
theorem d_law_86 : decode code 86 = .ok (.iload_n 3, 1) := by decide +kernel
theorem d_law_87 : decode code 87 = .ok (.iconst 1, 1) := by decide +kernel
theorem d_law_88 : decode code 88 = .ok (.iadd, 1) := by decide +kernel
theorem d_law_89 : decode code 89 = .ok (.iaload, 1) := by decide +kernel
theorem d_law_90 : decode code 90 = .ok (.aload_n 0, 1) := by decide +kernel
theorem d_law_91 : decode code 91 = .ok (.iload_n 3, 1) := by decide +kernel
theorem d_law_92 : decode code 92 = .ok (.iconst 2, 1) := by decide +kernel
theorem d_law_93 : decode code 93 = .ok (.iadd, 1) := by decide +kernel
theorem d_law_94 : decode code 94 = .ok (.iaload, 1) := by decide +kernel
theorem d_law_95 : decode code 95 = .ok (.aload_n 0, 1) := by decide +kernel
theorem d_law_96 : decode code 96 = .ok (.iload_n 3, 1) := by decide +kernel
theorem d_law_97 : decode code 97 = .ok (.iconst 3, 1) := by decide +kernel
theorem d_law_98 : decode code 98 = .ok (.iadd, 1) := by decide +kernel
theorem d_law_99 : decode code 99 = .ok (.iaload, 1) := by decide +kernel
theorem d_law_100 : decode code 100 = .ok (.aload_n 0, 1) := by decide +kernel
theorem d_law_101 : decode code 101 = .ok (.iload_n 3, 1) := by decide +kernel
theorem d_law_102 : decode code 102 = .ok (.iconst 4, 1) := by decide +kernel
theorem d_law_103 : decode code 103 = .ok (.iadd, 1) := by decide +kernel
theorem d_law_104 : decode code 104 = .ok (.iaload, 1) := by decide +kernel
theorem d_law_105 : decode code 105 = .ok (.invokevirtual 13, 3) := by decide +kernel
theorem d_law_108 : decode code 108 = .ok (.aload_n 2, 1) := by decide +kernel
theorem d_law_109 : decode code 109 = .ok (.aload_n 0, 1) := by decide +kernel
theorem d_law_110 : decode code 110 = .ok (.iload_n 3, 1) := by decide +kernel
theorem d_law_111 : decode code 111 = .ok (.iconst 1, 1) := by decide +kernel
theorem d_law_112 : decode code 112 = .ok (.iadd, 1) := by decide +kernel
theorem d_law_113 : decode code 113 = .ok (.iaload, 1) := by decide +kernel
theorem d_law_114 : decode code 114 = .ok (.aload_n 0, 1) := by decide +kernel
theorem d_law_115 : decode code 115 = .ok (.iload_n 3, 1) := by decide +kernel
theorem d_law_116 : decode code 116 = .ok (.iconst 2, 1) := by decide +kernel
theorem d_law_117 : decode code 117 = .ok (.iadd, 1) := by decide +kernel
theorem d_law_118 : decode code 118 = .ok (.iaload, 1) := by decide +kernel
theorem d_law_119 : decode code 119 = .ok (.aload_n 0, 1) := by decide +kernel
theorem d_law_120 : decode code 120 = .ok (.iload_n 3, 1) := by decide +kernel
theorem d_law_121 : decode code 121 = .ok (.iconst 3, 1) := by decide +kernel
theorem d_law_122 : decode code 122 = .ok (.iadd, 1) := by decide +kernel
theorem d_law_123 : decode code 123 = .ok (.iaload, 1) := by decide +kernel
theorem d_law_124 : decode code 124 = .ok (.aload_n 0, 1) := by decide +kernel
theorem d_law_125 : decode code 125 = .ok (.iload_n 3, 1) := by decide +kernel
theorem d_law_126 : decode code 126 = .ok (.iconst 4, 1) := by decide +kernel
theorem d_law_127 : decode code 127 = .ok (.iadd, 1) := by decide +kernel
theorem d_law_128 : decode code 128 = .ok (.iaload, 1) := by decide +kernel
theorem d_law_129 : decode code 129 = .ok (.invokevirtual 17, 3) := by decide +kernel
theorem d_law_132 : decode code 132 = .ok (.if_icmp .eq 300, 3) := by decide +kernel
theorem d_law_135 : decode code 135 = .ok (.iconst 0, 1) := by decide +kernel
theorem d_law_136 : decode code 136 = .ok (.ireturn, 1) := by decide +kernel
theorem d_law_137 : decode code 137 = .ok (.aload_n 1, 1) := by decide +kernel
theorem d_law_138 : decode code 138 = .ok (.aload_n 0, 1) := by decide +kernel
theorem d_law_139 : decode code 139 = .ok (.iload_n 3, 1) := by decide +kernel
theorem d_law_140 : decode code 140 = .ok (.iconst 1, 1) := by decide +kernel
theorem d_law_141 : decode code 141 = .ok (.iadd, 1) := by decide +kernel
theorem d_law_142 : decode code 142 = .ok (.iaload, 1) := by decide +kernel
theorem d_law_143 : decode code 143 = .ok (.aload_n 0, 1) := by decide +kernel
theorem d_law_144 : decode code 144 = .ok (.iload_n 3, 1) := by decide +kernel
theorem d_law_145 : decode code 145 = .ok (.iconst 2, 1) := by decide +kernel
theorem d_law_146 : decode code 146 = .ok (.iadd, 1) := by decide +kernel
theorem d_law_147 : decode code 147 = .ok (.iaload, 1) := by decide +kernel
theorem d_law_148 : decode code 148 = .ok (.aload_n 0, 1) := by decide +kernel
theorem d_law_149 : decode code 149 = .ok (.iload_n 3, 1) := by decide +kernel
theorem d_law_150 : decode code 150 = .ok (.iconst 3, 1) := by decide +kernel
theorem d_law_151 : decode code 151 = .ok (.iadd, 1) := by decide +kernel
theorem d_law_152 : decode code 152 = .ok (.iaload, 1) := by decide +kernel
theorem d_law_153 : decode code 153 = .ok (.aload_n 0, 1) := by decide +kernel
theorem d_law_154 : decode code 154 = .ok (.iload_n 3, 1) := by decide +kernel
theorem d_law_155 : decode code 155 = .ok (.iconst 4, 1) := by decide +kernel
theorem d_law_156 : decode code 156 = .ok (.iadd, 1) := by decide +kernel
theorem d_law_157 : decode code 157 = .ok (.iaload, 1) := by decide +kernel
theorem d_law_158 : decode code 158 = .ok (.invokevirtual 18, 3) := by decide +kernel
theorem d_law_161 : decode code 161 = .ok (.aload_n 2, 1) := by decide +kernel
theorem d_law_162 : decode code 162 = .ok (.aload_n 0, 1) := by decide +kernel
theorem d_law_163 : decode code 163 = .ok (.iload_n 3, 1) := by decide +kernel
theorem d_law_164 : decode code 164 = .ok (.iconst 1, 1) := by decide +kernel
theorem d_law_165 : decode code 165 = .ok (.iadd, 1) := by decide +kernel
theorem d_law_166 : decode code 166 = .ok (.iaload, 1) := by decide +kernel
theorem d_law_167 : decode code 167 = .ok (.aload_n 0, 1) := by decide +kernel
theorem d_law_168 : decode code 168 = .ok (.iload_n 3, 1) := by decide +kernel
theorem d_law_169 : decode code 169 = .ok (.iconst 2, 1) := by decide +kernel
theorem d_law_170 : decode code 170 = .ok (.iadd, 1) := by decide +kernel
theorem d_law_171 : decode code 171 = .ok (.iaload, 1) := by decide +kernel
theorem d_law_172 : decode code 172 = .ok (.aload_n 0, 1) := by decide +kernel
theorem d_law_173 : decode code 173 = .ok (.iload_n 3, 1) := by decide +kernel
theorem d_law_174 : decode code 174 = .ok (.iconst 3, 1) := by decide +kernel
theorem d_law_175 : decode code 175 = .ok (.iadd, 1) := by decide +kernel
theorem d_law_176 : decode code 176 = .ok (.iaload, 1) := by decide +kernel
theorem d_law_177 : decode code 177 = .ok (.aload_n 0, 1) := by decide +kernel
theorem d_law_178 : decode code 178 = .ok (.iload_n 3, 1) := by decide +kernel
theorem d_law_179 : decode code 179 = .ok (.iconst 4, 1) := by decide +kernel
theorem d_law_180 : decode code 180 = .ok (.iadd, 1) := by decide +kernel
theorem d_law_181 : decode code 181 = .ok (.iaload, 1) := by decide +kernel
theorem d_law_182 : decode code 182 = .ok (.invokevirtual 21, 3) := by decide +kernel
theorem d_law_185 : decode code 185 = .ok (.if_icmp .eq 247, 3) := by decide +kernel
theorem d_law_188 : decode code 188 = .ok (.iconst 0, 1) := by decide +kernel
theorem d_law_189 : decode code 189 = .ok (.ireturn, 1) := by decide +kernel
theorem d_law_190 : decode code 190 = .ok (.aload_n 1, 1) := by decide +kernel
theorem d_law_191 : decode code 191 = .ok (.aload_n 0, 1) := by decide +kernel
theorem d_law_192 : decode code 192 = .ok (.iload_n 3, 1) := by decide +kernel
theorem d_law_193 : decode code 193 = .ok (.iconst 1, 1) := by decide +kernel
theorem d_law_194 : decode code 194 = .ok (.iadd, 1) := by decide +kernel
theorem d_law_195 : decode code 195 = .ok (.iaload, 1) := by decide +kernel
theorem d_law_196 : decode code 196 = .ok (.invokevirtual 22, 3) := by decide +kernel
theorem d_law_199 : decode code 199 = .ok (.aload_n 2, 1) := by decide +kernel
theorem d_law_200 : decode code 200 = .ok (.aload_n 0, 1) := by decide +kernel
theorem d_law_201 : decode code 201 = .ok (.iload_n 3, 1) := by decide +kernel
theorem d_law_202 : decode code 202 = .ok (.iconst 1, 1) := by decide +kernel
theorem d_law_203 : decode code 203 = .ok (.iadd, 1) := by decide +kernel
theorem d_law_204 : decode code 204 = .ok (.iaload, 1) := by decide +kernel
theorem d_law_205 : decode code 205 = .ok (.invokevirtual 26, 3) := by decide +kernel
theorem d_law_208 : decode code 208 = .ok (.if_icmp .eq 224, 3) := by decide +kernel
theorem d_law_211 : decode code 211 = .ok (.iconst 0, 1) := by decide +kernel
theorem d_law_212 : decode code 212 = .ok (.ireturn, 1) := by decide +kernel
theorem d_law_213 : decode code 213 = .ok (.aload_n 1, 1) := by decide +kernel
theorem d_law_214 : decode code 214 = .ok (.aload_n 0, 1) := by decide +kernel
theorem d_law_215 : decode code 215 = .ok (.iload_n 3, 1) := by decide +kernel
theorem d_law_216 : decode code 216 = .ok (.iconst 1, 1) := by decide +kernel
theorem d_law_217 : decode code 217 = .ok (.iadd, 1) := by decide +kernel
theorem d_law_218 : decode code 218 = .ok (.iaload, 1) := by decide +kernel
theorem d_law_219 : decode code 219 = .ok (.aload_n 0, 1) := by decide +kernel
theorem d_law_220 : decode code 220 = .ok (.iload_n 3, 1) := by decide +kernel
theorem d_law_221 : decode code 221 = .ok (.iconst 2, 1) := by decide +kernel
theorem d_law_222 : decode code 222 = .ok (.iadd, 1) := by decide +kernel
theorem d_law_223 : decode code 223 = .ok (.iaload, 1) := by decide +kernel
theorem d_law_224 : decode code 224 = .ok (.invokevirtual 27, 3) := by decide +kernel
theorem d_law_227 : decode code 227 = .ok (.aload_n 2, 1) := by decide +kernel
theorem d_law_228 : decode code 228 = .ok (.aload_n 0, 1) := by decide +kernel
theorem d_law_229 : decode code 229 = .ok (.iload_n 3, 1) := by decide +kernel
theorem d_law_230 : decode code 230 = .ok (.iconst 1, 1) := by decide +kernel
theorem d_law_231 : decode code 231 = .ok (.iadd, 1) := by decide +kernel
theorem d_law_232 : decode code 232 = .ok (.iaload, 1) := by decide +kernel
theorem d_law_233 : decode code 233 = .ok (.aload_n 0, 1) := by decide +kernel
theorem d_law_234 : decode code 234 = .ok (.iload_n 3, 1) := by decide +kernel
theorem d_law_235 : decode code 235 = .ok (.iconst 2, 1) := by decide +kernel
theorem d_law_236 : decode code 236 = .ok (.iadd, 1) := by decide +kernel
theorem d_law_237 : decode code 237 = .ok (.iaload, 1) := by decide +kernel
theorem d_law_238 : decode code 238 = .ok (.invokevirtual 31, 3) := by decide +kernel
theorem d_law_241 : decode code 241 = .ok (.if_icmp .eq 191, 3) := by decide +kernel
theorem d_law_244 : decode code 244 = .ok (.iconst 0, 1) := by decide +kernel
theorem d_law_245 : decode code 245 = .ok (.ireturn, 1) := by decide +kernel
theorem d_law_246 : decode code 246 = .ok (.aload_n 1, 1) := by decide +kernel
theorem d_law_247 : decode code 247 = .ok (.aload_n 0, 1) := by decide +kernel
theorem d_law_248 : decode code 248 = .ok (.iload_n 3, 1) := by decide +kernel
theorem d_law_249 : decode code 249 = .ok (.iconst 1, 1) := by decide +kernel
theorem d_law_250 : decode code 250 = .ok (.iadd, 1) := by decide +kernel
theorem d_law_251 : decode code 251 = .ok (.iaload, 1) := by decide +kernel
theorem d_law_252 : decode code 252 = .ok (.aload_n 0, 1) := by decide +kernel
theorem d_law_253 : decode code 253 = .ok (.iload_n 3, 1) := by decide +kernel
theorem d_law_254 : decode code 254 = .ok (.iconst 2, 1) := by decide +kernel
theorem d_law_255 : decode code 255 = .ok (.iadd, 1) := by decide +kernel
theorem d_law_256 : decode code 256 = .ok (.iaload, 1) := by decide +kernel
theorem d_law_257 : decode code 257 = .ok (.invokevirtual 32, 3) := by decide +kernel
theorem d_law_260 : decode code 260 = .ok (.aload_n 2, 1) := by decide +kernel
theorem d_law_261 : decode code 261 = .ok (.aload_n 0, 1) := by decide +kernel
theorem d_law_262 : decode code 262 = .ok (.iload_n 3, 1) := by decide +kernel
theorem d_law_263 : decode code 263 = .ok (.iconst 1, 1) := by decide +kernel
theorem d_law_264 : decode code 264 = .ok (.iadd, 1) := by decide +kernel
theorem d_law_265 : decode code 265 = .ok (.iaload, 1) := by decide +kernel
theorem d_law_266 : decode code 266 = .ok (.aload_n 0, 1) := by decide +kernel
theorem d_law_267 : decode code 267 = .ok (.iload_n 3, 1) := by decide +kernel
theorem d_law_268 : decode code 268 = .ok (.iconst 2, 1) := by decide +kernel
theorem d_law_269 : decode code 269 = .ok (.iadd, 1) := by decide +kernel
theorem d_law_270 : decode code 270 = .ok (.iaload, 1) := by decide +kernel
theorem d_law_271 : decode code 271 = .ok (.invokevirtual 35, 3) := by decide +kernel
theorem d_law_274 : decode code 274 = .ok (.if_icmp .eq 158, 3) := by decide +kernel
theorem d_law_277 : decode code 277 = .ok (.iconst 0, 1) := by decide +kernel
theorem d_law_278 : decode code 278 = .ok (.ireturn, 1) := by decide +kernel
theorem d_law_279 : decode code 279 = .ok (.aload_n 1, 1) := by decide +kernel
theorem d_law_280 : decode code 280 = .ok (.aload_n 0, 1) := by decide +kernel
theorem d_law_281 : decode code 281 = .ok (.iload_n 3, 1) := by decide +kernel
theorem d_law_282 : decode code 282 = .ok (.iconst 1, 1) := by decide +kernel
theorem d_law_283 : decode code 283 = .ok (.iadd, 1) := by decide +kernel
theorem d_law_284 : decode code 284 = .ok (.iaload, 1) := by decide +kernel
theorem d_law_285 : decode code 285 = .ok (.aload_n 0, 1) := by decide +kernel
theorem d_law_286 : decode code 286 = .ok (.iload_n 3, 1) := by decide +kernel
theorem d_law_287 : decode code 287 = .ok (.iconst 2, 1) := by decide +kernel
theorem d_law_288 : decode code 288 = .ok (.iadd, 1) := by decide +kernel
theorem d_law_289 : decode code 289 = .ok (.iaload, 1) := by decide +kernel
theorem d_law_290 : decode code 290 = .ok (.aload_n 0, 1) := by decide +kernel
theorem d_law_291 : decode code 291 = .ok (.iload_n 3, 1) := by decide +kernel
theorem d_law_292 : decode code 292 = .ok (.iconst 3, 1) := by decide +kernel
theorem d_law_293 : decode code 293 = .ok (.iadd, 1) := by decide +kernel
theorem d_law_294 : decode code 294 = .ok (.iaload, 1) := by decide +kernel
theorem d_law_295 : decode code 295 = .ok (.invokevirtual 36, 3) := by decide +kernel
theorem d_law_298 : decode code 298 = .ok (.aload_n 2, 1) := by decide +kernel
theorem d_law_299 : decode code 299 = .ok (.aload_n 0, 1) := by decide +kernel
theorem d_law_300 : decode code 300 = .ok (.iload_n 3, 1) := by decide +kernel
theorem d_law_301 : decode code 301 = .ok (.iconst 1, 1) := by decide +kernel
theorem d_law_302 : decode code 302 = .ok (.iadd, 1) := by decide +kernel
theorem d_law_303 : decode code 303 = .ok (.iaload, 1) := by decide +kernel
theorem d_law_304 : decode code 304 = .ok (.aload_n 0, 1) := by decide +kernel
theorem d_law_305 : decode code 305 = .ok (.iload_n 3, 1) := by decide +kernel
theorem d_law_306 : decode code 306 = .ok (.iconst 2, 1) := by decide +kernel
theorem d_law_307 : decode code 307 = .ok (.iadd, 1) := by decide +kernel
theorem d_law_308 : decode code 308 = .ok (.iaload, 1) := by decide +kernel
theorem d_law_309 : decode code 309 = .ok (.aload_n 0, 1) := by decide +kernel
theorem d_law_310 : decode code 310 = .ok (.iload_n 3, 1) := by decide +kernel
theorem d_law_311 : decode code 311 = .ok (.iconst 3, 1) := by decide +kernel
theorem d_law_312 : decode code 312 = .ok (.iadd, 1) := by decide +kernel
theorem d_law_313 : decode code 313 = .ok (.iaload, 1) := by decide +kernel
theorem d_law_314 : decode code 314 = .ok (.invokevirtual 40, 3) := by decide +kernel
theorem d_law_317 : decode code 317 = .ok (.if_icmp .eq 115, 3) := by decide +kernel
theorem d_law_320 : decode code 320 = .ok (.iconst 0, 1) := by decide +kernel
theorem d_law_321 : decode code 321 = .ok (.ireturn, 1) := by decide +kernel
theorem d_law_322 : decode code 322 = .ok (.aload_n 1, 1) := by decide +kernel
theorem d_law_323 : decode code 323 = .ok (.aload_n 0, 1) := by decide +kernel
theorem d_law_324 : decode code 324 = .ok (.iload_n 3, 1) := by decide +kernel
theorem d_law_325 : decode code 325 = .ok (.iconst 1, 1) := by decide +kernel
theorem d_law_326 : decode code 326 = .ok (.iadd, 1) := by decide +kernel
theorem d_law_327 : decode code 327 = .ok (.iaload, 1) := by decide +kernel
theorem d_law_328 : decode code 328 = .ok (.aload_n 0, 1) := by decide +kernel
theorem d_law_329 : decode code 329 = .ok (.iload_n 3, 1) := by decide +kernel
theorem d_law_330 : decode code 330 = .ok (.iconst 2, 1) := by decide +kernel
theorem d_law_331 : decode code 331 = .ok (.iadd, 1) := by decide +kernel
theorem d_law_332 : decode code 332 = .ok (.iaload, 1) := by decide +kernel
theorem d_law_333 : decode code 333 = .ok (.aload_n 0, 1) := by decide +kernel
theorem d_law_334 : decode code 334 = .ok (.iload_n 3, 1) := by decide +kernel
theorem d_law_335 : decode code 335 = .ok (.iconst 3, 1) := by decide +kernel
theorem d_law_336 : decode code 336 = .ok (.iadd, 1) := by decide +kernel
theorem d_law_337 : decode code 337 = .ok (.iaload, 1) := by decide +kernel
theorem d_law_338 : decode code 338 = .ok (.invokevirtual 41, 3) := by decide +kernel
theorem d_law_341 : decode code 341 = .ok (.aload_n 2, 1) := by decide +kernel
theorem d_law_342 : decode code 342 = .ok (.aload_n 0, 1) := by decide +kernel
theorem d_law_343 : decode code 343 = .ok (.iload_n 3, 1) := by decide +kernel
theorem d_law_344 : decode code 344 = .ok (.iconst 1, 1) := by decide +kernel
theorem d_law_345 : decode code 345 = .ok (.iadd, 1) := by decide +kernel
theorem d_law_346 : decode code 346 = .ok (.iaload, 1) := by decide +kernel
theorem d_law_347 : decode code 347 = .ok (.aload_n 0, 1) := by decide +kernel
theorem d_law_348 : decode code 348 = .ok (.iload_n 3, 1) := by decide +kernel
theorem d_law_349 : decode code 349 = .ok (.iconst 2, 1) := by decide +kernel
theorem d_law_350 : decode code 350 = .ok (.iadd, 1) := by decide +kernel
theorem d_law_351 : decode code 351 = .ok (.iaload, 1) := by decide +kernel
theorem d_law_352 : decode code 352 = .ok (.aload_n 0, 1) := by decide +kernel
theorem d_law_353 : decode code 353 = .ok (.iload_n 3, 1) := by decide +kernel
theorem d_law_354 : decode code 354 = .ok (.iconst 3, 1) := by decide +kernel
theorem d_law_355 : decode code 355 = .ok (.iadd, 1) := by decide +kernel
theorem d_law_356 : decode code 356 = .ok (.iaload, 1) := by decide +kernel
theorem d_law_357 : decode code 357 = .ok (.invokevirtual 45, 3) := by decide +kernel
theorem d_law_360 : decode code 360 = .ok (.lcmp, 1) := by decide +kernel
theorem d_law_361 : decode code 361 = .ok (.ifCond .eq 71, 3) := by decide +kernel
theorem d_law_364 : decode code 364 = .ok (.iconst 0, 1) := by decide +kernel
theorem d_law_365 : decode code 365 = .ok (.ireturn, 1) := by decide +kernel
theorem d_law_366 : decode code 366 = .ok (.aload_n 1, 1) := by decide +kernel
theorem d_law_367 : decode code 367 = .ok (.aload_n 0, 1) := by decide +kernel
theorem d_law_368 : decode code 368 = .ok (.iload_n 3, 1) := by decide +kernel
theorem d_law_369 : decode code 369 = .ok (.iconst 1, 1) := by decide +kernel
theorem d_law_370 : decode code 370 = .ok (.iadd, 1) := by decide +kernel
theorem d_law_371 : decode code 371 = .ok (.iaload, 1) := by decide +kernel
theorem d_law_372 : decode code 372 = .ok (.aload_n 0, 1) := by decide +kernel
theorem d_law_373 : decode code 373 = .ok (.iload_n 3, 1) := by decide +kernel
theorem d_law_374 : decode code 374 = .ok (.iconst 2, 1) := by decide +kernel
theorem d_law_375 : decode code 375 = .ok (.iadd, 1) := by decide +kernel
theorem d_law_376 : decode code 376 = .ok (.iaload, 1) := by decide +kernel
theorem d_law_377 : decode code 377 = .ok (.invokevirtual 46, 3) := by decide +kernel
theorem d_law_380 : decode code 380 = .ok (.aload_n 2, 1) := by decide +kernel
theorem d_law_381 : decode code 381 = .ok (.aload_n 0, 1) := by decide +kernel
theorem d_law_382 : decode code 382 = .ok (.iload_n 3, 1) := by decide +kernel
theorem d_law_383 : decode code 383 = .ok (.iconst 1, 1) := by decide +kernel
theorem d_law_384 : decode code 384 = .ok (.iadd, 1) := by decide +kernel
theorem d_law_385 : decode code 385 = .ok (.iaload, 1) := by decide +kernel
theorem d_law_386 : decode code 386 = .ok (.aload_n 0, 1) := by decide +kernel
theorem d_law_387 : decode code 387 = .ok (.iload_n 3, 1) := by decide +kernel
theorem d_law_388 : decode code 388 = .ok (.iconst 2, 1) := by decide +kernel
theorem d_law_389 : decode code 389 = .ok (.iadd, 1) := by decide +kernel
theorem d_law_390 : decode code 390 = .ok (.iaload, 1) := by decide +kernel
theorem d_law_391 : decode code 391 = .ok (.invokevirtual 49, 3) := by decide +kernel
theorem d_law_394 : decode code 394 = .ok (.if_icmp .eq 38, 3) := by decide +kernel
theorem d_law_397 : decode code 397 = .ok (.iconst 0, 1) := by decide +kernel
theorem d_law_398 : decode code 398 = .ok (.ireturn, 1) := by decide +kernel
theorem d_law_399 : decode code 399 = .ok (.aload_n 1, 1) := by decide +kernel
theorem d_law_400 : decode code 400 = .ok (.aload_n 0, 1) := by decide +kernel
theorem d_law_401 : decode code 401 = .ok (.iload_n 3, 1) := by decide +kernel
theorem d_law_402 : decode code 402 = .ok (.iconst 1, 1) := by decide +kernel
theorem d_law_403 : decode code 403 = .ok (.iadd, 1) := by decide +kernel
theorem d_law_404 : decode code 404 = .ok (.iaload, 1) := by decide +kernel
theorem d_law_405 : decode code 405 = .ok (.aload_n 0, 1) := by decide +kernel
theorem d_law_406 : decode code 406 = .ok (.iload_n 3, 1) := by decide +kernel
theorem d_law_407 : decode code 407 = .ok (.iconst 2, 1) := by decide +kernel
theorem d_law_408 : decode code 408 = .ok (.iadd, 1) := by decide +kernel
theorem d_law_409 : decode code 409 = .ok (.iaload, 1) := by decide +kernel
theorem d_law_410 : decode code 410 = .ok (.invokevirtual 50, 3) := by decide +kernel
theorem d_law_413 : decode code 413 = .ok (.aload_n 2, 1) := by decide +kernel
theorem d_law_414 : decode code 414 = .ok (.aload_n 0, 1) := by decide +kernel
theorem d_law_415 : decode code 415 = .ok (.iload_n 3, 1) := by decide +kernel
theorem d_law_416 : decode code 416 = .ok (.iconst 1, 1) := by decide +kernel
theorem d_law_417 : decode code 417 = .ok (.iadd, 1) := by decide +kernel
theorem d_law_418 : decode code 418 = .ok (.iaload, 1) := by decide +kernel
theorem d_law_419 : decode code 419 = .ok (.aload_n 0, 1) := by decide +kernel
theorem d_law_420 : decode code 420 = .ok (.iload_n 3, 1) := by decide +kernel
theorem d_law_421 : decode code 421 = .ok (.iconst 2, 1) := by decide +kernel
theorem d_law_422 : decode code 422 = .ok (.iadd, 1) := by decide +kernel
theorem d_law_423 : decode code 423 = .ok (.iaload, 1) := by decide +kernel
theorem d_law_424 : decode code 424 = .ok (.invokevirtual 53, 3) := by decide +kernel
theorem d_law_427 : decode code 427 = .ok (.if_icmp .eq 5, 3) := by decide +kernel
theorem d_law_430 : decode code 430 = .ok (.iconst 0, 1) := by decide +kernel
theorem d_law_431 : decode code 431 = .ok (.ireturn, 1) := by decide +kernel
theorem d_law_432 : decode code 432 = .ok (.iinc 3 5, 3) := by decide +kernel
theorem d_law_435 : decode code 435 = .ok (.goto (-417), 3) := by decide +kernel
theorem d_law_438 : decode code 438 = .ok (.iconst 1, 1) := by decide +kernel
theorem d_law_439 : decode code 439 = .ok (.ireturn, 1) := by decide +kernel
/-- the law's words, as every method's here: a head, then the good words of the tables -/
def w_lw : List Cond := .initialized "BasisWalkLaw" :: tb_w
theorem lw_hts {b : Nat} {s : State} (hts : ∀ w ∈ lw_tbl, w.before #[Value.ref b] s = true) : ∀ w ∈ w_lw, w.before #[Value.ref b] s = true := by
  intro w hw
  rcases List.mem_cons.mp hw with e | e
  · rw [e]; exact hts _ (List.mem_filter.mp tw_0).1
  · exact hts w (List.mem_filter.mp e).1
/-- what the law's walk keeps -/
def LX (p : Program) (s : State) (m : MethodId) (c : Code) (b : Nat) (dC : Nat → ClassId) (dI : Nat → Nat → Nat) (cI cJ cB cZ cT cN : ClassId) : Prop := p.tables.exec = Jvm.exec ∧ c.code = code ∧ c.maxLocals = 4 ∧ s.vm.findClass "BasisWalkLaw" = some m.cls ∧ (∀ w ∈ w_lw, w.before #[Value.ref b] s = true) ∧ NW s ∧ va_K (dC, dI) cl_all [(cI, .int), (cJ, .long), (cB, .byte), (cZ, .boolean), (cT, .object "BasisWalk$Table"), (cN, .object "BasisWalkModel$Num")] s
/-- both systems' cells, apart, behind what was there before -/
def LW (s : State) (dC : Nat → ClassId) (dI : Nat → Nat → Nat) (cI cJ cB cZ cT cN : ClassId) (g ha NA ND : Nat → Nat) (K : KS) (R : RS) (H : Heap) (locs : List Loc) : Prop := va_P (dC, dI) cl_all (CW cI cJ cT g K ++ RW cI cJ cB cZ cN ha NA ND R) H ∧ va_D (fun q : Nat => s.heap.size ≤ q) (CW cI cJ cT g K ++ RW cI cJ cB cZ cN ha NA ND R) ∧ va_S (fun q : Nat => s.heap.size ≤ q) s.heap H locs
section LawSteps
variable {p : Program} {l : Launch} {e : Env} {s : State} {m : MethodId} {below : List Frame} {meth : Method} {c : Code} {b : Nat} {dC : Nat → ClassId} {dI : Nat → Nat → Nat} {cI cJ cB cZ cT cN : ClassId} {g ha NA ND : Nat → Nat} {K : KS} {R : RS} {H : Heap} {locs : List Loc} {ls : Array Slot} {lv : List (Nat × Value)} {Q : State → Prop}
theorem x_beginV (C : LX p s m c b dC dI cI cJ cB cZ cT cN) {t : Nat} (ht : t < 4) {f w k : Int32} {a : Int32 × Int32 × Int32 × Int32 × Int32 × (Nat → Int32)} (h : f_B_beginV 4 (K.fld t) (K.rcn t) (K.ccn t) (K.std t) 144 (K.num t) (nI t) f w k = some a) (hw : LW s dC dI cI cJ cB cZ cT cN g ha NA ND K R H locs) (hl : lv_has ls 4 lv)
    (kk : ∀ (H : Heap) (locs : List Loc), LW s dC dI cI cJ cB cZ cT cN g ha NA ND (kbeg K t a.2) R H locs → W p l e room_1 s m #[Value.ref b] below meth c H locs 600000 7302250 Q (F0 m 108 ls [.int a.1])) : W p l e room_1 s m #[Value.ref b] below meth c H locs 600000 7302250 Q (F0 m 105 ls [.int k, .int w, .int f, .int (nI t), .ref (g 0)]) := by
  obtain ⟨hx, hb, hml, hown, hts, hN, hK⟩ := C
  obtain ⟨hP, hD, hS⟩ := hw
  obtain ⟨hPc, hDc⟩ := pw_sub (plG t) (pw_appL (cw_G (cI := cI) (cJ := cJ) (cT := cT) (g := g) (s := K) ht)) (nd_G ht) hP hD
  have hFc := pw_free hDc hS (fun q h => h)
  refine va_calli (va_runV (As := [.int (nI t), .int f, .int w, .int k]) (rest := []) ⟨hx, hb, hml, hown, hts⟩ (c_B_beginV l dC dI cI cJ cB cZ cT cN H.size (g 0) (g (2 + 8 * t)) (g 1) (g 34) (g 38) (g (3 + 8 * t)) (g (4 + 8 * t)) 4 (tf g) (K.fld t) (K.rcn t) (K.ccn t) (K.std t) 144 (K.num t) (nI t) f w k a h (tf_at ht)) (cwV 4 hts (tb_V tw_136 tw_137 tw_138 tw_1 tw_139) rfl rfl rfl (by decide +kernel) ⟨Nat.le_of_ble_eq_true rfl, Nat.le_of_ble_eq_true rfl⟩) ⟨fun a U g mk q => by obtain ⟨q0, q1, qP, qK, qN, qD⟩ := q; exact ⟨q0, q1, qP, va_K.moved (u := U) (U := U.calling g mk a) (Vm.Alike.refl U.vm) qK, qN.same rfl, qD⟩, va_recv hK hPc (ci := 4) (q0 := 0) rfl rfl, fun U hU hW => ⟨rfl, by rw [hU], by rw [hU]; exact hPc, va_K.moved hW.alike hK, hN.warm hW, hDc.weaken (fun _ _ _ _ => trivial)⟩⟩ rfl rfl hl.1 rfl (lv_room (Nat.le_of_ble_eq_true rfl)) d_law_105 ⟨Nat.le_of_ble_eq_true rfl, Nat.le_of_ble_eq_true rfl⟩) hS (fun q _ h => hFc q h) hFc (fun rr u t1 H1 locs ht1 hvm hw hB hz1 hk1 hS => ?_)
  subst hw
  obtain ⟨hP1, -, hD1⟩ := hB
  rw [ht1] at hP1
  have hP1 : va_P (dC, dI) cl_all (wG cI cJ cT g (kbeg K t u) t) H1 := by rw [wG_b ht]; exact hP1
  obtain ⟨hP, hD⟩ := pw_swapL (X := CW cI cJ cT g K) (X' := CW cI cJ cT g (kbeg K t u)) (plG t) (cw_G ht) (cw_G ht) rfl cw_adr (off_B ht) hP hD hk1 hP1
  exact kk H1 locs ⟨hP, hD, hS⟩
theorem x_beginN (C : LX p s m c b dC dI cI cJ cB cZ cT cN) {x0 f w k : Int32} {a : Int32} (h : f_B_beginN x0 = some a) (hw : LW s dC dI cI cJ cB cZ cT cN g ha NA ND K R H locs) (hl : lv_has ls 4 lv)
    (kk : ∀ (H : Heap) (locs : List Loc), LW s dC dI cI cJ cB cZ cT cN g ha NA ND K R H locs → W p l e room_1 s m #[Value.ref b] below meth c H locs 600000 7302250 Q (F0 m 108 ls [.int a])) : W p l e room_1 s m #[Value.ref b] below meth c H locs 600000 7302250 Q (F0 m 105 ls [.int k, .int w, .int f, .int x0, .ref (g 0)]) := by
  obtain ⟨hx, hb, hml, hown, hts, hN, hK⟩ := C
  obtain ⟨hP, hD, hS⟩ := hw
  obtain ⟨hPc, hDc⟩ := pw_sub [0, 1] (pw_appL (cw_N (cI := cI) (cJ := cJ) (cT := cT) (g := g) (s := K))) (by decide) hP hD
  have hFc := pw_free hDc hS (fun q h => h)
  refine va_calli (va_runV (As := [.int x0, .int f, .int w, .int k]) (rest := []) ⟨hx, hb, hml, hown, hts⟩ (c_B_beginN l dC dI cI cJ cB cZ cT cN H.size (g 0) (g 1) (g 34) (g 38) 4 (tf g) x0 f w k a h) (cwV 4 hts (tb_V tw_136 tw_137 tw_138 tw_1 tw_139) rfl rfl rfl (by decide +kernel) ⟨Nat.le_of_ble_eq_true rfl, Nat.le_of_ble_eq_true rfl⟩) ⟨fun a U g mk q => by obtain ⟨q0, q1, qP, qK, qN, qD⟩ := q; exact ⟨q0, q1, qP, va_K.moved (u := U) (U := U.calling g mk a) (Vm.Alike.refl U.vm) qK, qN.same rfl, qD⟩, va_recv hK hPc (ci := 4) (q0 := 0) rfl rfl, fun U hU hW => ⟨rfl, by rw [hU], by rw [hU]; exact hPc, va_K.moved hW.alike hK, hN.warm hW, hDc.weaken (fun _ _ _ _ => trivial)⟩⟩ rfl rfl hl.1 rfl (lv_room (Nat.le_of_ble_eq_true rfl)) d_law_105 ⟨Nat.le_of_ble_eq_true rfl, Nat.le_of_ble_eq_true rfl⟩) hS (fun q _ h => hFc q h) hFc (fun rr u t1 H1 locs ht1 hvm hw hB hz1 hk1 hS => ?_)
  subst hw
  obtain ⟨hP1, -, hD1⟩ := hB
  rw [ht1] at hP1
  obtain ⟨hP, hD⟩ := pw_swapL (X := CW cI cJ cT g K) (X' := CW cI cJ cT g K) [0, 1] (cw_N (cI := cI) (cJ := cJ) (cT := cT) (g := g) (s := K)) (cw_N (cI := cI) (cJ := cJ) (cT := cT) (g := g) (s := K)) rfl (fun _ => rfl) (fun _ _ => rfl) hP hD hk1 hP1
  exact kk H1 locs ⟨hP, hD, hS⟩
theorem x_putV (C : LX p s m c b dC dI cI cJ cB cZ cT cN) {t : Nat} (ht : t < 4) {w k v : Int32} {a : Int32 × (Nat → Int32) × Int32} (h : f_B_putV 4 (K.fld t) (K.rcn t) (K.ccn t) (K.std t) 144 (K.num t) (nI t) w k v = some a) (hw : LW s dC dI cI cJ cB cZ cT cN g ha NA ND K R H locs) (hl : lv_has ls 4 lv)
    (kk : ∀ (H : Heap) (locs : List Loc), LW s dC dI cI cJ cB cZ cT cN g ha NA ND (kput K t a.2) R H locs → W p l e room_1 s m #[Value.ref b] below meth c H locs 600000 7302250 Q (F0 m 161 ls [.int a.1])) : W p l e room_1 s m #[Value.ref b] below meth c H locs 600000 7302250 Q (F0 m 158 ls [.int v, .int k, .int w, .int (nI t), .ref (g 0)]) := by
  obtain ⟨hx, hb, hml, hown, hts, hN, hK⟩ := C
  obtain ⟨hP, hD, hS⟩ := hw
  obtain ⟨hPc, hDc⟩ := pw_sub (plG t) (pw_appL (cw_G (cI := cI) (cJ := cJ) (cT := cT) (g := g) (s := K) ht)) (nd_G ht) hP hD
  have hFc := pw_free hDc hS (fun q h => h)
  refine va_calli (va_runV (As := [.int (nI t), .int w, .int k, .int v]) (rest := []) ⟨hx, hb, hml, hown, hts⟩ (c_B_putV l dC dI cI cJ cB cZ cT cN H.size (g 0) (g (2 + 8 * t)) (g 1) (g 34) (g 38) (g (3 + 8 * t)) (g (4 + 8 * t)) 4 (tf g) (K.fld t) (K.rcn t) (K.ccn t) (K.std t) 144 (K.num t) (nI t) w k v a h (tf_at ht)) (cwV 4 hts (tb_V tw_157 tw_158 tw_159 tw_1 tw_160) rfl rfl rfl (by decide +kernel) ⟨Nat.le_of_ble_eq_true rfl, Nat.le_of_ble_eq_true rfl⟩) ⟨fun a U g mk q => by obtain ⟨q0, q1, qP, qK, qN, qD⟩ := q; exact ⟨q0, q1, qP, va_K.moved (u := U) (U := U.calling g mk a) (Vm.Alike.refl U.vm) qK, qN.same rfl, qD⟩, va_recv hK hPc (ci := 4) (q0 := 0) rfl rfl, fun U hU hW => ⟨rfl, by rw [hU], by rw [hU]; exact hPc, va_K.moved hW.alike hK, hN.warm hW, hDc.weaken (fun _ _ _ _ => trivial)⟩⟩ rfl rfl hl.1 rfl (lv_room (Nat.le_of_ble_eq_true rfl)) d_law_158 ⟨Nat.le_of_ble_eq_true rfl, Nat.le_of_ble_eq_true rfl⟩) hS (fun q _ h => hFc q h) hFc (fun rr u t1 H1 locs ht1 hvm hw hB hz1 hk1 hS => ?_)
  subst hw
  obtain ⟨hP1, -, hD1⟩ := hB
  rw [ht1] at hP1
  have hP1 : va_P (dC, dI) cl_all (wG cI cJ cT g (kput K t u) t) H1 := by rw [wG_p ht]; exact hP1
  obtain ⟨hP, hD⟩ := pw_swapL (X := CW cI cJ cT g K) (X' := CW cI cJ cT g (kput K t u)) (plG t) (cw_G ht) (cw_G ht) rfl cw_adr (off_P ht) hP hD hk1 hP1
  exact kk H1 locs ⟨hP, hD, hS⟩
theorem x_putN (C : LX p s m c b dC dI cI cJ cB cZ cT cN) {x0 w k v : Int32} {a : Int32} (h : f_B_putN x0 = some a) (hw : LW s dC dI cI cJ cB cZ cT cN g ha NA ND K R H locs) (hl : lv_has ls 4 lv)
    (kk : ∀ (H : Heap) (locs : List Loc), LW s dC dI cI cJ cB cZ cT cN g ha NA ND K R H locs → W p l e room_1 s m #[Value.ref b] below meth c H locs 600000 7302250 Q (F0 m 161 ls [.int a])) : W p l e room_1 s m #[Value.ref b] below meth c H locs 600000 7302250 Q (F0 m 158 ls [.int v, .int k, .int w, .int x0, .ref (g 0)]) := by
  obtain ⟨hx, hb, hml, hown, hts, hN, hK⟩ := C
  obtain ⟨hP, hD, hS⟩ := hw
  obtain ⟨hPc, hDc⟩ := pw_sub [0, 1] (pw_appL (cw_N (cI := cI) (cJ := cJ) (cT := cT) (g := g) (s := K))) (by decide) hP hD
  have hFc := pw_free hDc hS (fun q h => h)
  refine va_calli (va_runV (As := [.int x0, .int w, .int k, .int v]) (rest := []) ⟨hx, hb, hml, hown, hts⟩ (c_B_putN l dC dI cI cJ cB cZ cT cN H.size (g 0) (g 1) (g 34) (g 38) 4 (tf g) x0 w k v a h) (cwV 4 hts (tb_V tw_157 tw_158 tw_159 tw_1 tw_160) rfl rfl rfl (by decide +kernel) ⟨Nat.le_of_ble_eq_true rfl, Nat.le_of_ble_eq_true rfl⟩) ⟨fun a U g mk q => by obtain ⟨q0, q1, qP, qK, qN, qD⟩ := q; exact ⟨q0, q1, qP, va_K.moved (u := U) (U := U.calling g mk a) (Vm.Alike.refl U.vm) qK, qN.same rfl, qD⟩, va_recv hK hPc (ci := 4) (q0 := 0) rfl rfl, fun U hU hW => ⟨rfl, by rw [hU], by rw [hU]; exact hPc, va_K.moved hW.alike hK, hN.warm hW, hDc.weaken (fun _ _ _ _ => trivial)⟩⟩ rfl rfl hl.1 rfl (lv_room (Nat.le_of_ble_eq_true rfl)) d_law_158 ⟨Nat.le_of_ble_eq_true rfl, Nat.le_of_ble_eq_true rfl⟩) hS (fun q _ h => hFc q h) hFc (fun rr u t1 H1 locs ht1 hvm hw hB hz1 hk1 hS => ?_)
  subst hw
  obtain ⟨hP1, -, hD1⟩ := hB
  rw [ht1] at hP1
  obtain ⟨hP, hD⟩ := pw_swapL (X := CW cI cJ cT g K) (X' := CW cI cJ cT g K) [0, 1] (cw_N (cI := cI) (cJ := cJ) (cT := cT) (g := g) (s := K)) (cw_N (cI := cI) (cJ := cJ) (cT := cT) (g := g) (s := K)) rfl (fun _ => rfl) (fun _ _ => rfl) hP hD hk1 hP1
  exact kk H1 locs ⟨hP, hD, hS⟩
theorem x_columnsV (C : LX p s m c b dC dI cI cJ cB cZ cT cN) {t : Nat} (ht : t < 4) {a : Int32} (h : f_B_columnsV 4 (K.ccn t) (nI t)  = some a) (hw : LW s dC dI cI cJ cB cZ cT cN g ha NA ND K R H locs) (hl : lv_has ls 4 lv)
    (kk : ∀ (H : Heap) (locs : List Loc), LW s dC dI cI cJ cB cZ cT cN g ha NA ND K R H locs → W p l e room_1 s m #[Value.ref b] below meth c H locs 600000 7302250 Q (F0 m 199 ls [.int a])) : W p l e room_1 s m #[Value.ref b] below meth c H locs 600000 7302250 Q (F0 m 196 ls [.int (nI t), .ref (g 0)]) := by
  obtain ⟨hx, hb, hml, hown, hts, hN, hK⟩ := C
  obtain ⟨hP, hD, hS⟩ := hw
  obtain ⟨hPc, hDc⟩ := pw_sub (plC t) (pw_appL (cw_C (cI := cI) (cJ := cJ) (cT := cT) (g := g) (s := K) ht)) (nd_C ht) hP hD
  have hFc := pw_free hDc hS (fun q h => h)
  refine va_calli (va_runV (As := [.int (nI t)]) (rest := []) ⟨hx, hb, hml, hown, hts⟩ (c_B_columnsV l dC dI cI cJ cB cZ cT cN H.size (g 0) (g (2 + 8 * t)) (g 1) (g 34) (g 38) (g (3 + 8 * t)) (g (4 + 8 * t)) 4 (tf g) (K.fld t) (K.rcn t) (K.ccn t) (K.std t) (nI t)  a h (tf_at ht)) (cwV 1 hts (tb_V tw_172 tw_173 tw_174 tw_1 tw_175) rfl rfl rfl (by decide +kernel) ⟨Nat.le_of_ble_eq_true rfl, Nat.le_of_ble_eq_true rfl⟩) ⟨fun a U g mk q => by obtain ⟨q0, q1, qP, qK, qN, qD⟩ := q; exact ⟨q0, q1, qP, va_K.moved (u := U) (U := U.calling g mk a) (Vm.Alike.refl U.vm) qK, qN.same rfl, qD⟩, va_recv hK hPc (ci := 4) (q0 := 0) rfl rfl, fun U hU hW => ⟨rfl, by rw [hU], by rw [hU]; exact hPc, va_K.moved hW.alike hK, hN.warm hW, hDc.weaken (fun _ _ _ _ => trivial)⟩⟩ rfl rfl hl.1 rfl (lv_room (Nat.le_of_ble_eq_true rfl)) d_law_196 ⟨Nat.le_of_ble_eq_true rfl, Nat.le_of_ble_eq_true rfl⟩) hS (fun q _ h => hFc q h) hFc (fun rr u t1 H1 locs ht1 hvm hw hB hz1 hk1 hS => ?_)
  subst hw
  obtain ⟨hP1, -, hD1⟩ := hB
  rw [ht1] at hP1
  obtain ⟨hP, hD⟩ := pw_swapL (X := CW cI cJ cT g K) (X' := CW cI cJ cT g K) (plC t) (cw_C ht) (cw_C ht) rfl (fun _ => rfl) (fun _ _ => rfl) hP hD hk1 hP1
  exact kk H1 locs ⟨hP, hD, hS⟩
theorem x_columnsN (C : LX p s m c b dC dI cI cJ cB cZ cT cN) {x0  : Int32} {a : Int32} (h : f_B_columnsN x0 = some a) (hw : LW s dC dI cI cJ cB cZ cT cN g ha NA ND K R H locs) (hl : lv_has ls 4 lv)
    (kk : ∀ (H : Heap) (locs : List Loc), LW s dC dI cI cJ cB cZ cT cN g ha NA ND K R H locs → W p l e room_1 s m #[Value.ref b] below meth c H locs 600000 7302250 Q (F0 m 199 ls [.int a])) : W p l e room_1 s m #[Value.ref b] below meth c H locs 600000 7302250 Q (F0 m 196 ls [.int x0, .ref (g 0)]) := by
  obtain ⟨hx, hb, hml, hown, hts, hN, hK⟩ := C
  obtain ⟨hP, hD, hS⟩ := hw
  obtain ⟨hPc, hDc⟩ := pw_sub [0, 1] (pw_appL (cw_N (cI := cI) (cJ := cJ) (cT := cT) (g := g) (s := K))) (by decide) hP hD
  have hFc := pw_free hDc hS (fun q h => h)
  refine va_calli (va_runV (As := [.int x0]) (rest := []) ⟨hx, hb, hml, hown, hts⟩ (c_B_columnsN l dC dI cI cJ cB cZ cT cN H.size (g 0) (g 1) (g 34) (g 38) 4 (tf g) x0  a h) (cwV 1 hts (tb_V tw_172 tw_173 tw_174 tw_1 tw_175) rfl rfl rfl (by decide +kernel) ⟨Nat.le_of_ble_eq_true rfl, Nat.le_of_ble_eq_true rfl⟩) ⟨fun a U g mk q => by obtain ⟨q0, q1, qP, qK, qN, qD⟩ := q; exact ⟨q0, q1, qP, va_K.moved (u := U) (U := U.calling g mk a) (Vm.Alike.refl U.vm) qK, qN.same rfl, qD⟩, va_recv hK hPc (ci := 4) (q0 := 0) rfl rfl, fun U hU hW => ⟨rfl, by rw [hU], by rw [hU]; exact hPc, va_K.moved hW.alike hK, hN.warm hW, hDc.weaken (fun _ _ _ _ => trivial)⟩⟩ rfl rfl hl.1 rfl (lv_room (Nat.le_of_ble_eq_true rfl)) d_law_196 ⟨Nat.le_of_ble_eq_true rfl, Nat.le_of_ble_eq_true rfl⟩) hS (fun q _ h => hFc q h) hFc (fun rr u t1 H1 locs ht1 hvm hw hB hz1 hk1 hS => ?_)
  subst hw
  obtain ⟨hP1, -, hD1⟩ := hB
  rw [ht1] at hP1
  obtain ⟨hP, hD⟩ := pw_swapL (X := CW cI cJ cT g K) (X' := CW cI cJ cT g K) [0, 1] (cw_N (cI := cI) (cJ := cJ) (cT := cT) (g := g) (s := K)) (cw_N (cI := cI) (cJ := cJ) (cT := cT) (g := g) (s := K)) rfl (fun _ => rfl) (fun _ _ => rfl) hP hD hk1 hP1
  exact kk H1 locs ⟨hP, hD, hS⟩
theorem x_rankV (C : LX p s m c b dC dI cI cJ cB cZ cT cN) {t : Nat} (ht : t < 4) {x : Int32} {a : Int32 × C15} (h : f_B_rankV 4 K.occ 4096 K.sets 14 K.starts 13 K.nexts 4096 K.lo 4096 K.mi 4096 K.hi (K.fld t) (K.rcn t) (K.ccn t) (K.std t) 144 (K.num t) (K.scc t) (K.sfr t) 4096 (K.rk t) 4096 (K.sg t) 6868 (K.mem t) 5 (K.sst t) 169 (K.df t) (nI t) x = some a) (hw : LW s dC dI cI cJ cB cZ cT cN g ha NA ND K R H locs) (hl : lv_has ls 4 lv)
    (kk : ∀ (H : Heap) (locs : List Loc), LW s dC dI cI cJ cB cZ cT cN g ha NA ND (kset K t a.2) R H locs → W p l e room_1 s m #[Value.ref b] below meth c H locs 600000 7302250 Q (F0 m 227 ls [.int a.1])) : W p l e room_1 s m #[Value.ref b] below meth c H locs 600000 7302250 Q (F0 m 224 ls [.int x, .int (nI t), .ref (g 0)]) := by
  obtain ⟨hx, hb, hml, hown, hts, hN, hK⟩ := C
  obtain ⟨hP, hD, hS⟩ := hw
  obtain ⟨hPc, hDc⟩ := pw_sub (plV t) (pw_appL (cw_V (cI := cI) (cJ := cJ) (cT := cT) (g := g) (s := K) ht)) (nd_V ht) hP hD
  have hFc := pw_free hDc hS (fun q h => h)
  refine va_calli (va_runV (As := [.int (nI t), .int x]) (rest := []) ⟨hx, hb, hml, hown, hts⟩ (c_B_rankV l dC dI cI cJ cB cZ cT cN H.size (g 0) (g (2 + 8 * t)) (g 1) (g 34) (g 38) (g 35) (g 36) (g 37) (g 39) (g 40) (g 41) (g (3 + 8 * t)) (g (4 + 8 * t)) (g (5 + 8 * t)) (g (6 + 8 * t)) (g (7 + 8 * t)) (g (8 + 8 * t)) (g (9 + 8 * t)) 4 (tf g) K.occ 4096 K.sets 14 K.starts 13 K.nexts 4096 K.lo 4096 K.mi 4096 K.hi (K.fld t) (K.rcn t) (K.ccn t) (K.std t) 144 (K.num t) (K.scc t) (K.sfr t) 4096 (K.rk t) 4096 (K.sg t) 6868 (K.mem t) 5 (K.sst t) 169 (K.df t) (nI t) x a h (tf_at ht)) (cwV 2 hts (tb_V tw_176 tw_177 tw_178 tw_1 tw_179) rfl rfl rfl (by decide +kernel) ⟨Nat.le_of_ble_eq_true rfl, Nat.le_of_ble_eq_true rfl⟩) ⟨fun a U g mk q => by obtain ⟨q0, q1, qP, qK, qN, qD⟩ := q; exact ⟨q0, q1, qP, va_K.moved (u := U) (U := U.calling g mk a) (Vm.Alike.refl U.vm) qK, qN.same rfl, qD⟩, va_recv hK hPc (ci := 4) (q0 := 0) rfl rfl, fun U hU hW => ⟨rfl, by rw [hU], by rw [hU]; exact hPc, va_K.moved hW.alike hK, hN.warm hW, hDc.weaken (fun _ _ _ _ => trivial)⟩⟩ rfl rfl hl.1 rfl (lv_room (Nat.le_of_ble_eq_true rfl)) d_law_224 ⟨Nat.le_of_ble_eq_true rfl, Nat.le_of_ble_eq_true rfl⟩) hS (fun q _ h => hFc q h) hFc (fun rr u t1 H1 locs ht1 hvm hw hB hz1 hk1 hS => ?_)
  subst hw
  obtain ⟨hP1, -, hD1⟩ := hB
  rw [ht1] at hP1
  have hP1 : va_P (dC, dI) cl_all (wV cI cJ cT g (kset K t u) t) H1 := by rw [wV_k ht]; exact hP1
  obtain ⟨hP, hD⟩ := pw_swapL (X := CW cI cJ cT g K) (X' := CW cI cJ cT g (kset K t u)) (plV t) (cw_V ht) (cw_V ht) rfl cw_adr (off_V ht) hP hD hk1 hP1
  exact kk H1 locs ⟨hP, hD, hS⟩
theorem x_rankN (C : LX p s m c b dC dI cI cJ cB cZ cT cN) {x0 x : Int32} {a : Int32} (h : f_B_rankN x0 = some a) (hw : LW s dC dI cI cJ cB cZ cT cN g ha NA ND K R H locs) (hl : lv_has ls 4 lv)
    (kk : ∀ (H : Heap) (locs : List Loc), LW s dC dI cI cJ cB cZ cT cN g ha NA ND K R H locs → W p l e room_1 s m #[Value.ref b] below meth c H locs 600000 7302250 Q (F0 m 227 ls [.int a])) : W p l e room_1 s m #[Value.ref b] below meth c H locs 600000 7302250 Q (F0 m 224 ls [.int x, .int x0, .ref (g 0)]) := by
  obtain ⟨hx, hb, hml, hown, hts, hN, hK⟩ := C
  obtain ⟨hP, hD, hS⟩ := hw
  obtain ⟨hPc, hDc⟩ := pw_sub [0, 1] (pw_appL (cw_N (cI := cI) (cJ := cJ) (cT := cT) (g := g) (s := K))) (by decide) hP hD
  have hFc := pw_free hDc hS (fun q h => h)
  refine va_calli (va_runV (As := [.int x0, .int x]) (rest := []) ⟨hx, hb, hml, hown, hts⟩ (c_B_rankN l dC dI cI cJ cB cZ cT cN H.size (g 0) (g 1) (g 34) (g 38) 4 (tf g) x0 x a h) (cwV 2 hts (tb_V tw_176 tw_177 tw_178 tw_1 tw_179) rfl rfl rfl (by decide +kernel) ⟨Nat.le_of_ble_eq_true rfl, Nat.le_of_ble_eq_true rfl⟩) ⟨fun a U g mk q => by obtain ⟨q0, q1, qP, qK, qN, qD⟩ := q; exact ⟨q0, q1, qP, va_K.moved (u := U) (U := U.calling g mk a) (Vm.Alike.refl U.vm) qK, qN.same rfl, qD⟩, va_recv hK hPc (ci := 4) (q0 := 0) rfl rfl, fun U hU hW => ⟨rfl, by rw [hU], by rw [hU]; exact hPc, va_K.moved hW.alike hK, hN.warm hW, hDc.weaken (fun _ _ _ _ => trivial)⟩⟩ rfl rfl hl.1 rfl (lv_room (Nat.le_of_ble_eq_true rfl)) d_law_224 ⟨Nat.le_of_ble_eq_true rfl, Nat.le_of_ble_eq_true rfl⟩) hS (fun q _ h => hFc q h) hFc (fun rr u t1 H1 locs ht1 hvm hw hB hz1 hk1 hS => ?_)
  subst hw
  obtain ⟨hP1, -, hD1⟩ := hB
  rw [ht1] at hP1
  obtain ⟨hP, hD⟩ := pw_swapL (X := CW cI cJ cT g K) (X' := CW cI cJ cT g K) [0, 1] (cw_N (cI := cI) (cJ := cJ) (cT := cT) (g := g) (s := K)) (cw_N (cI := cI) (cJ := cJ) (cT := cT) (g := g) (s := K)) rfl (fun _ => rfl) (fun _ _ => rfl) hP hD hk1 hP1
  exact kk H1 locs ⟨hP, hD, hS⟩
theorem x_countV (C : LX p s m c b dC dI cI cJ cB cZ cT cN) {t : Nat} (ht : t < 4) {x : Int32} {a : Int32 × C15} (h : f_B_countV 4 K.occ 4096 K.sets 14 K.starts 13 K.nexts 4096 K.lo 4096 K.mi 4096 K.hi (K.fld t) (K.rcn t) (K.ccn t) (K.std t) 144 (K.num t) (K.scc t) (K.sfr t) 4096 (K.rk t) 4096 (K.sg t) 6868 (K.mem t) 5 (K.sst t) 169 (K.df t) (nI t) x = some a) (hw : LW s dC dI cI cJ cB cZ cT cN g ha NA ND K R H locs) (hl : lv_has ls 4 lv)
    (kk : ∀ (H : Heap) (locs : List Loc), LW s dC dI cI cJ cB cZ cT cN g ha NA ND (kset K t a.2) R H locs → W p l e room_1 s m #[Value.ref b] below meth c H locs 600000 7302250 Q (F0 m 260 ls [.int a.1])) : W p l e room_1 s m #[Value.ref b] below meth c H locs 600000 7302250 Q (F0 m 257 ls [.int x, .int (nI t), .ref (g 0)]) := by
  obtain ⟨hx, hb, hml, hown, hts, hN, hK⟩ := C
  obtain ⟨hP, hD, hS⟩ := hw
  obtain ⟨hPc, hDc⟩ := pw_sub (plV t) (pw_appL (cw_V (cI := cI) (cJ := cJ) (cT := cT) (g := g) (s := K) ht)) (nd_V ht) hP hD
  have hFc := pw_free hDc hS (fun q h => h)
  refine va_calli (va_runV (As := [.int (nI t), .int x]) (rest := []) ⟨hx, hb, hml, hown, hts⟩ (c_B_countV l dC dI cI cJ cB cZ cT cN H.size (g 0) (g (2 + 8 * t)) (g 1) (g 34) (g 38) (g 35) (g 36) (g 37) (g 39) (g 40) (g 41) (g (3 + 8 * t)) (g (4 + 8 * t)) (g (5 + 8 * t)) (g (6 + 8 * t)) (g (7 + 8 * t)) (g (8 + 8 * t)) (g (9 + 8 * t)) 4 (tf g) K.occ 4096 K.sets 14 K.starts 13 K.nexts 4096 K.lo 4096 K.mi 4096 K.hi (K.fld t) (K.rcn t) (K.ccn t) (K.std t) 144 (K.num t) (K.scc t) (K.sfr t) 4096 (K.rk t) 4096 (K.sg t) 6868 (K.mem t) 5 (K.sst t) 169 (K.df t) (nI t) x a h (tf_at ht)) (cwV 2 hts (tb_V tw_280 tw_281 tw_282 tw_1 tw_283) rfl rfl rfl (by decide +kernel) ⟨Nat.le_of_ble_eq_true rfl, Nat.le_of_ble_eq_true rfl⟩) ⟨fun a U g mk q => by obtain ⟨q0, q1, qP, qK, qN, qD⟩ := q; exact ⟨q0, q1, qP, va_K.moved (u := U) (U := U.calling g mk a) (Vm.Alike.refl U.vm) qK, qN.same rfl, qD⟩, va_recv hK hPc (ci := 4) (q0 := 0) rfl rfl, fun U hU hW => ⟨rfl, by rw [hU], by rw [hU]; exact hPc, va_K.moved hW.alike hK, hN.warm hW, hDc.weaken (fun _ _ _ _ => trivial)⟩⟩ rfl rfl hl.1 rfl (lv_room (Nat.le_of_ble_eq_true rfl)) d_law_257 ⟨Nat.le_of_ble_eq_true rfl, Nat.le_of_ble_eq_true rfl⟩) hS (fun q _ h => hFc q h) hFc (fun rr u t1 H1 locs ht1 hvm hw hB hz1 hk1 hS => ?_)
  subst hw
  obtain ⟨hP1, -, hD1⟩ := hB
  rw [ht1] at hP1
  have hP1 : va_P (dC, dI) cl_all (wV cI cJ cT g (kset K t u) t) H1 := by rw [wV_k ht]; exact hP1
  obtain ⟨hP, hD⟩ := pw_swapL (X := CW cI cJ cT g K) (X' := CW cI cJ cT g (kset K t u)) (plV t) (cw_V ht) (cw_V ht) rfl cw_adr (off_V ht) hP hD hk1 hP1
  exact kk H1 locs ⟨hP, hD, hS⟩
theorem x_countN (C : LX p s m c b dC dI cI cJ cB cZ cT cN) {x0 x : Int32} {a : Int32} (h : f_B_countN x0 = some a) (hw : LW s dC dI cI cJ cB cZ cT cN g ha NA ND K R H locs) (hl : lv_has ls 4 lv)
    (kk : ∀ (H : Heap) (locs : List Loc), LW s dC dI cI cJ cB cZ cT cN g ha NA ND K R H locs → W p l e room_1 s m #[Value.ref b] below meth c H locs 600000 7302250 Q (F0 m 260 ls [.int a])) : W p l e room_1 s m #[Value.ref b] below meth c H locs 600000 7302250 Q (F0 m 257 ls [.int x, .int x0, .ref (g 0)]) := by
  obtain ⟨hx, hb, hml, hown, hts, hN, hK⟩ := C
  obtain ⟨hP, hD, hS⟩ := hw
  obtain ⟨hPc, hDc⟩ := pw_sub [0, 1] (pw_appL (cw_N (cI := cI) (cJ := cJ) (cT := cT) (g := g) (s := K))) (by decide) hP hD
  have hFc := pw_free hDc hS (fun q h => h)
  refine va_calli (va_runV (As := [.int x0, .int x]) (rest := []) ⟨hx, hb, hml, hown, hts⟩ (c_B_countN l dC dI cI cJ cB cZ cT cN H.size (g 0) (g 1) (g 34) (g 38) 4 (tf g) x0 x a h) (cwV 2 hts (tb_V tw_280 tw_281 tw_282 tw_1 tw_283) rfl rfl rfl (by decide +kernel) ⟨Nat.le_of_ble_eq_true rfl, Nat.le_of_ble_eq_true rfl⟩) ⟨fun a U g mk q => by obtain ⟨q0, q1, qP, qK, qN, qD⟩ := q; exact ⟨q0, q1, qP, va_K.moved (u := U) (U := U.calling g mk a) (Vm.Alike.refl U.vm) qK, qN.same rfl, qD⟩, va_recv hK hPc (ci := 4) (q0 := 0) rfl rfl, fun U hU hW => ⟨rfl, by rw [hU], by rw [hU]; exact hPc, va_K.moved hW.alike hK, hN.warm hW, hDc.weaken (fun _ _ _ _ => trivial)⟩⟩ rfl rfl hl.1 rfl (lv_room (Nat.le_of_ble_eq_true rfl)) d_law_257 ⟨Nat.le_of_ble_eq_true rfl, Nat.le_of_ble_eq_true rfl⟩) hS (fun q _ h => hFc q h) hFc (fun rr u t1 H1 locs ht1 hvm hw hB hz1 hk1 hS => ?_)
  subst hw
  obtain ⟨hP1, -, hD1⟩ := hB
  rw [ht1] at hP1
  obtain ⟨hP, hD⟩ := pw_swapL (X := CW cI cJ cT g K) (X' := CW cI cJ cT g K) [0, 1] (cw_N (cI := cI) (cJ := cJ) (cT := cT) (g := g) (s := K)) (cw_N (cI := cI) (cJ := cJ) (cT := cT) (g := g) (s := K)) rfl (fun _ => rfl) (fun _ _ => rfl) hP hD hk1 hP1
  exact kk H1 locs ⟨hP, hD, hS⟩
theorem x_memberV (C : LX p s m c b dC dI cI cJ cB cZ cT cN) {t : Nat} (ht : t < 4) {x i : Int32} {a : Int32 × C15} (h : f_B_memberV 4 K.occ 4096 K.sets 14 K.starts 13 K.nexts 4096 K.lo 4096 K.mi 4096 K.hi (K.fld t) (K.rcn t) (K.ccn t) (K.std t) 144 (K.num t) (K.scc t) (K.sfr t) 4096 (K.rk t) 4096 (K.sg t) 6868 (K.mem t) 5 (K.sst t) 169 (K.df t) (nI t) x i = some a) (hw : LW s dC dI cI cJ cB cZ cT cN g ha NA ND K R H locs) (hl : lv_has ls 4 lv)
    (kk : ∀ (H : Heap) (locs : List Loc), LW s dC dI cI cJ cB cZ cT cN g ha NA ND (kset K t a.2) R H locs → W p l e room_1 s m #[Value.ref b] below meth c H locs 600000 7302250 Q (F0 m 298 ls [.int a.1])) : W p l e room_1 s m #[Value.ref b] below meth c H locs 600000 7302250 Q (F0 m 295 ls [.int i, .int x, .int (nI t), .ref (g 0)]) := by
  obtain ⟨hx, hb, hml, hown, hts, hN, hK⟩ := C
  obtain ⟨hP, hD, hS⟩ := hw
  obtain ⟨hPc, hDc⟩ := pw_sub (plV t) (pw_appL (cw_V (cI := cI) (cJ := cJ) (cT := cT) (g := g) (s := K) ht)) (nd_V ht) hP hD
  have hFc := pw_free hDc hS (fun q h => h)
  refine va_calli (va_runV (As := [.int (nI t), .int x, .int i]) (rest := []) ⟨hx, hb, hml, hown, hts⟩ (c_B_memberV l dC dI cI cJ cB cZ cT cN H.size (g 0) (g (2 + 8 * t)) (g 1) (g 34) (g 38) (g 35) (g 36) (g 37) (g 39) (g 40) (g 41) (g (3 + 8 * t)) (g (4 + 8 * t)) (g (5 + 8 * t)) (g (6 + 8 * t)) (g (7 + 8 * t)) (g (8 + 8 * t)) (g (9 + 8 * t)) 4 (tf g) K.occ 4096 K.sets 14 K.starts 13 K.nexts 4096 K.lo 4096 K.mi 4096 K.hi (K.fld t) (K.rcn t) (K.ccn t) (K.std t) 144 (K.num t) (K.scc t) (K.sfr t) 4096 (K.rk t) 4096 (K.sg t) 6868 (K.mem t) 5 (K.sst t) 169 (K.df t) (nI t) x i a h (tf_at ht)) (cwV 3 hts (tb_V tw_291 tw_292 tw_293 tw_1 tw_294) rfl rfl rfl (by decide +kernel) ⟨Nat.le_of_ble_eq_true rfl, Nat.le_of_ble_eq_true rfl⟩) ⟨fun a U g mk q => by obtain ⟨q0, q1, qP, qK, qN, qD⟩ := q; exact ⟨q0, q1, qP, va_K.moved (u := U) (U := U.calling g mk a) (Vm.Alike.refl U.vm) qK, qN.same rfl, qD⟩, va_recv hK hPc (ci := 4) (q0 := 0) rfl rfl, fun U hU hW => ⟨rfl, by rw [hU], by rw [hU]; exact hPc, va_K.moved hW.alike hK, hN.warm hW, hDc.weaken (fun _ _ _ _ => trivial)⟩⟩ rfl rfl hl.1 rfl (lv_room (Nat.le_of_ble_eq_true rfl)) d_law_295 ⟨Nat.le_of_ble_eq_true rfl, Nat.le_of_ble_eq_true rfl⟩) hS (fun q _ h => hFc q h) hFc (fun rr u t1 H1 locs ht1 hvm hw hB hz1 hk1 hS => ?_)
  subst hw
  obtain ⟨hP1, -, hD1⟩ := hB
  rw [ht1] at hP1
  have hP1 : va_P (dC, dI) cl_all (wV cI cJ cT g (kset K t u) t) H1 := by rw [wV_k ht]; exact hP1
  obtain ⟨hP, hD⟩ := pw_swapL (X := CW cI cJ cT g K) (X' := CW cI cJ cT g (kset K t u)) (plV t) (cw_V ht) (cw_V ht) rfl cw_adr (off_V ht) hP hD hk1 hP1
  exact kk H1 locs ⟨hP, hD, hS⟩
theorem x_memberN (C : LX p s m c b dC dI cI cJ cB cZ cT cN) {x0 x i : Int32} {a : Int32} (h : f_B_memberN x0 = some a) (hw : LW s dC dI cI cJ cB cZ cT cN g ha NA ND K R H locs) (hl : lv_has ls 4 lv)
    (kk : ∀ (H : Heap) (locs : List Loc), LW s dC dI cI cJ cB cZ cT cN g ha NA ND K R H locs → W p l e room_1 s m #[Value.ref b] below meth c H locs 600000 7302250 Q (F0 m 298 ls [.int a])) : W p l e room_1 s m #[Value.ref b] below meth c H locs 600000 7302250 Q (F0 m 295 ls [.int i, .int x, .int x0, .ref (g 0)]) := by
  obtain ⟨hx, hb, hml, hown, hts, hN, hK⟩ := C
  obtain ⟨hP, hD, hS⟩ := hw
  obtain ⟨hPc, hDc⟩ := pw_sub [0, 1] (pw_appL (cw_N (cI := cI) (cJ := cJ) (cT := cT) (g := g) (s := K))) (by decide) hP hD
  have hFc := pw_free hDc hS (fun q h => h)
  refine va_calli (va_runV (As := [.int x0, .int x, .int i]) (rest := []) ⟨hx, hb, hml, hown, hts⟩ (c_B_memberN l dC dI cI cJ cB cZ cT cN H.size (g 0) (g 1) (g 34) (g 38) 4 (tf g) x0 x i a h) (cwV 3 hts (tb_V tw_291 tw_292 tw_293 tw_1 tw_294) rfl rfl rfl (by decide +kernel) ⟨Nat.le_of_ble_eq_true rfl, Nat.le_of_ble_eq_true rfl⟩) ⟨fun a U g mk q => by obtain ⟨q0, q1, qP, qK, qN, qD⟩ := q; exact ⟨q0, q1, qP, va_K.moved (u := U) (U := U.calling g mk a) (Vm.Alike.refl U.vm) qK, qN.same rfl, qD⟩, va_recv hK hPc (ci := 4) (q0 := 0) rfl rfl, fun U hU hW => ⟨rfl, by rw [hU], by rw [hU]; exact hPc, va_K.moved hW.alike hK, hN.warm hW, hDc.weaken (fun _ _ _ _ => trivial)⟩⟩ rfl rfl hl.1 rfl (lv_room (Nat.le_of_ble_eq_true rfl)) d_law_295 ⟨Nat.le_of_ble_eq_true rfl, Nat.le_of_ble_eq_true rfl⟩) hS (fun q _ h => hFc q h) hFc (fun rr u t1 H1 locs ht1 hvm hw hB hz1 hk1 hS => ?_)
  subst hw
  obtain ⟨hP1, -, hD1⟩ := hB
  rw [ht1] at hP1
  obtain ⟨hP, hD⟩ := pw_swapL (X := CW cI cJ cT g K) (X' := CW cI cJ cT g K) [0, 1] (cw_N (cI := cI) (cJ := cJ) (cT := cT) (g := g) (s := K)) (cw_N (cI := cI) (cJ := cJ) (cT := cT) (g := g) (s := K)) rfl (fun _ => rfl) (fun _ _ => rfl) hP hD hk1 hP1
  exact kk H1 locs ⟨hP, hD, hS⟩
theorem x_tutteV (C : LX p s m c b dC dI cI cJ cB cZ cT cN) {t : Nat} (ht : t < 4) {x y : Int32} {a : Int64 × C15} (h : f_B_tutteV 4 K.occ 4096 K.sets 14 K.starts 13 K.nexts 4096 K.lo 4096 K.mi 4096 K.hi (K.fld t) (K.rcn t) (K.ccn t) (K.std t) 144 (K.num t) (K.scc t) (K.sfr t) 4096 (K.rk t) 4096 (K.sg t) 6868 (K.mem t) 5 (K.sst t) 169 (K.df t) (nI t) x y = some a) (hw : LW s dC dI cI cJ cB cZ cT cN g ha NA ND K R H locs) (hl : lv_has ls 4 lv)
    (kk : ∀ (H : Heap) (locs : List Loc), LW s dC dI cI cJ cB cZ cT cN g ha NA ND (kset K t a.2) R H locs → W p l e room_1 s m #[Value.ref b] below meth c H locs 600000 7302250 Q (F0 m 341 ls [.long a.1])) : W p l e room_1 s m #[Value.ref b] below meth c H locs 600000 7302250 Q (F0 m 338 ls [.int y, .int x, .int (nI t), .ref (g 0)]) := by
  obtain ⟨hx, hb, hml, hown, hts, hN, hK⟩ := C
  obtain ⟨hP, hD, hS⟩ := hw
  obtain ⟨hPc, hDc⟩ := pw_sub (plV t) (pw_appL (cw_V (cI := cI) (cJ := cJ) (cT := cT) (g := g) (s := K) ht)) (nd_V ht) hP hD
  have hFc := pw_free hDc hS (fun q h => h)
  refine va_calll (va_runV (As := [.int (nI t), .int x, .int y]) (rest := []) ⟨hx, hb, hml, hown, hts⟩ (c_B_tutteV l dC dI cI cJ cB cZ cT cN H.size (g 0) (g (2 + 8 * t)) (g 1) (g 34) (g 38) (g 35) (g 36) (g 37) (g 39) (g 40) (g 41) (g (3 + 8 * t)) (g (4 + 8 * t)) (g (5 + 8 * t)) (g (6 + 8 * t)) (g (7 + 8 * t)) (g (8 + 8 * t)) (g (9 + 8 * t)) 4 (tf g) K.occ 4096 K.sets 14 K.starts 13 K.nexts 4096 K.lo 4096 K.mi 4096 K.hi (K.fld t) (K.rcn t) (K.ccn t) (K.std t) 144 (K.num t) (K.scc t) (K.sfr t) 4096 (K.rk t) 4096 (K.sg t) 6868 (K.mem t) 5 (K.sst t) 169 (K.df t) (nI t) x y a h (tf_at ht)) (cwV 3 hts (tb_V tw_300 tw_301 tw_302 tw_1 tw_303) rfl rfl rfl (by decide +kernel) ⟨Nat.le_of_ble_eq_true rfl, Nat.le_of_ble_eq_true rfl⟩) ⟨fun a U g mk q => by obtain ⟨q0, q1, qP, qK, qN, qD⟩ := q; exact ⟨q0, q1, qP, va_K.moved (u := U) (U := U.calling g mk a) (Vm.Alike.refl U.vm) qK, qN.same rfl, qD⟩, va_recv hK hPc (ci := 4) (q0 := 0) rfl rfl, fun U hU hW => ⟨rfl, by rw [hU], by rw [hU]; exact hPc, va_K.moved hW.alike hK, hN.warm hW, hDc.weaken (fun _ _ _ _ => trivial)⟩⟩ rfl rfl hl.1 rfl (lv_room (Nat.le_of_ble_eq_true rfl)) d_law_338 ⟨Nat.le_of_ble_eq_true rfl, Nat.le_of_ble_eq_true rfl⟩) hS (fun q _ h => hFc q h) hFc (fun rr u t1 H1 locs ht1 hvm hw hB hz1 hk1 hS => ?_)
  subst hw
  obtain ⟨hP1, -, hD1⟩ := hB
  rw [ht1] at hP1
  have hP1 : va_P (dC, dI) cl_all (wV cI cJ cT g (kset K t u) t) H1 := by rw [wV_k ht]; exact hP1
  obtain ⟨hP, hD⟩ := pw_swapL (X := CW cI cJ cT g K) (X' := CW cI cJ cT g (kset K t u)) (plV t) (cw_V ht) (cw_V ht) rfl cw_adr (off_V ht) hP hD hk1 hP1
  exact kk H1 locs ⟨hP, hD, hS⟩
theorem x_tutteN (C : LX p s m c b dC dI cI cJ cB cZ cT cN) {x0 x y : Int32} {a : Int64} (h : f_B_tutteN x0 = some a) (hw : LW s dC dI cI cJ cB cZ cT cN g ha NA ND K R H locs) (hl : lv_has ls 4 lv)
    (kk : ∀ (H : Heap) (locs : List Loc), LW s dC dI cI cJ cB cZ cT cN g ha NA ND K R H locs → W p l e room_1 s m #[Value.ref b] below meth c H locs 600000 7302250 Q (F0 m 341 ls [.long a])) : W p l e room_1 s m #[Value.ref b] below meth c H locs 600000 7302250 Q (F0 m 338 ls [.int y, .int x, .int x0, .ref (g 0)]) := by
  obtain ⟨hx, hb, hml, hown, hts, hN, hK⟩ := C
  obtain ⟨hP, hD, hS⟩ := hw
  obtain ⟨hPc, hDc⟩ := pw_sub [0, 1] (pw_appL (cw_N (cI := cI) (cJ := cJ) (cT := cT) (g := g) (s := K))) (by decide) hP hD
  have hFc := pw_free hDc hS (fun q h => h)
  refine va_calll (va_runV (As := [.int x0, .int x, .int y]) (rest := []) ⟨hx, hb, hml, hown, hts⟩ (c_B_tutteN l dC dI cI cJ cB cZ cT cN H.size (g 0) (g 1) (g 34) (g 38) 4 (tf g) x0 x y a h) (cwV 3 hts (tb_V tw_300 tw_301 tw_302 tw_1 tw_303) rfl rfl rfl (by decide +kernel) ⟨Nat.le_of_ble_eq_true rfl, Nat.le_of_ble_eq_true rfl⟩) ⟨fun a U g mk q => by obtain ⟨q0, q1, qP, qK, qN, qD⟩ := q; exact ⟨q0, q1, qP, va_K.moved (u := U) (U := U.calling g mk a) (Vm.Alike.refl U.vm) qK, qN.same rfl, qD⟩, va_recv hK hPc (ci := 4) (q0 := 0) rfl rfl, fun U hU hW => ⟨rfl, by rw [hU], by rw [hU]; exact hPc, va_K.moved hW.alike hK, hN.warm hW, hDc.weaken (fun _ _ _ _ => trivial)⟩⟩ rfl rfl hl.1 rfl (lv_room (Nat.le_of_ble_eq_true rfl)) d_law_338 ⟨Nat.le_of_ble_eq_true rfl, Nat.le_of_ble_eq_true rfl⟩) hS (fun q _ h => hFc q h) hFc (fun rr u t1 H1 locs ht1 hvm hw hB hz1 hk1 hS => ?_)
  subst hw
  obtain ⟨hP1, -, hD1⟩ := hB
  rw [ht1] at hP1
  obtain ⟨hP, hD⟩ := pw_swapL (X := CW cI cJ cT g K) (X' := CW cI cJ cT g K) [0, 1] (cw_N (cI := cI) (cJ := cJ) (cT := cT) (g := g) (s := K)) (cw_N (cI := cI) (cJ := cJ) (cT := cT) (g := g) (s := K)) rfl (fun _ => rfl) (fun _ _ => rfl) hP hD hk1 hP1
  exact kk H1 locs ⟨hP, hD, hS⟩
theorem x_signV (C : LX p s m c b dC dI cI cJ cB cZ cT cN) {t : Nat} (ht : t < 4) {x : Int32} {a : Int32 × C15} (h : f_B_signV 4 K.occ 4096 K.sets 14 K.starts 13 K.nexts 4096 K.lo 4096 K.mi 4096 K.hi (K.fld t) (K.rcn t) (K.ccn t) (K.std t) 144 (K.num t) (K.scc t) (K.sfr t) 4096 (K.rk t) 4096 (K.sg t) 6868 (K.mem t) 5 (K.sst t) 169 (K.df t) (nI t) x = some a) (hw : LW s dC dI cI cJ cB cZ cT cN g ha NA ND K R H locs) (hl : lv_has ls 4 lv)
    (kk : ∀ (H : Heap) (locs : List Loc), LW s dC dI cI cJ cB cZ cT cN g ha NA ND (kset K t a.2) R H locs → W p l e room_1 s m #[Value.ref b] below meth c H locs 600000 7302250 Q (F0 m 380 ls [.int a.1])) : W p l e room_1 s m #[Value.ref b] below meth c H locs 600000 7302250 Q (F0 m 377 ls [.int x, .int (nI t), .ref (g 0)]) := by
  obtain ⟨hx, hb, hml, hown, hts, hN, hK⟩ := C
  obtain ⟨hP, hD, hS⟩ := hw
  obtain ⟨hPc, hDc⟩ := pw_sub (plV t) (pw_appL (cw_V (cI := cI) (cJ := cJ) (cT := cT) (g := g) (s := K) ht)) (nd_V ht) hP hD
  have hFc := pw_free hDc hS (fun q h => h)
  refine va_calli (va_runV (As := [.int (nI t), .int x]) (rest := []) ⟨hx, hb, hml, hown, hts⟩ (c_B_signV l dC dI cI cJ cB cZ cT cN H.size (g 0) (g (2 + 8 * t)) (g 1) (g 34) (g 38) (g 35) (g 36) (g 37) (g 39) (g 40) (g 41) (g (3 + 8 * t)) (g (4 + 8 * t)) (g (5 + 8 * t)) (g (6 + 8 * t)) (g (7 + 8 * t)) (g (8 + 8 * t)) (g (9 + 8 * t)) 4 (tf g) K.occ 4096 K.sets 14 K.starts 13 K.nexts 4096 K.lo 4096 K.mi 4096 K.hi (K.fld t) (K.rcn t) (K.ccn t) (K.std t) 144 (K.num t) (K.scc t) (K.sfr t) 4096 (K.rk t) 4096 (K.sg t) 6868 (K.mem t) 5 (K.sst t) 169 (K.df t) (nI t) x a h (tf_at ht)) (cwV 2 hts (tb_V tw_309 tw_310 tw_311 tw_1 tw_312) rfl rfl rfl (by decide +kernel) ⟨Nat.le_of_ble_eq_true rfl, Nat.le_of_ble_eq_true rfl⟩) ⟨fun a U g mk q => by obtain ⟨q0, q1, qP, qK, qN, qD⟩ := q; exact ⟨q0, q1, qP, va_K.moved (u := U) (U := U.calling g mk a) (Vm.Alike.refl U.vm) qK, qN.same rfl, qD⟩, va_recv hK hPc (ci := 4) (q0 := 0) rfl rfl, fun U hU hW => ⟨rfl, by rw [hU], by rw [hU]; exact hPc, va_K.moved hW.alike hK, hN.warm hW, hDc.weaken (fun _ _ _ _ => trivial)⟩⟩ rfl rfl hl.1 rfl (lv_room (Nat.le_of_ble_eq_true rfl)) d_law_377 ⟨Nat.le_of_ble_eq_true rfl, Nat.le_of_ble_eq_true rfl⟩) hS (fun q _ h => hFc q h) hFc (fun rr u t1 H1 locs ht1 hvm hw hB hz1 hk1 hS => ?_)
  subst hw
  obtain ⟨hP1, -, hD1⟩ := hB
  rw [ht1] at hP1
  have hP1 : va_P (dC, dI) cl_all (wV cI cJ cT g (kset K t u) t) H1 := by rw [wV_k ht]; exact hP1
  obtain ⟨hP, hD⟩ := pw_swapL (X := CW cI cJ cT g K) (X' := CW cI cJ cT g (kset K t u)) (plV t) (cw_V ht) (cw_V ht) rfl cw_adr (off_V ht) hP hD hk1 hP1
  exact kk H1 locs ⟨hP, hD, hS⟩
theorem x_signN (C : LX p s m c b dC dI cI cJ cB cZ cT cN) {x0 x : Int32} {a : Int32} (h : f_B_signN x0 = some a) (hw : LW s dC dI cI cJ cB cZ cT cN g ha NA ND K R H locs) (hl : lv_has ls 4 lv)
    (kk : ∀ (H : Heap) (locs : List Loc), LW s dC dI cI cJ cB cZ cT cN g ha NA ND K R H locs → W p l e room_1 s m #[Value.ref b] below meth c H locs 600000 7302250 Q (F0 m 380 ls [.int a])) : W p l e room_1 s m #[Value.ref b] below meth c H locs 600000 7302250 Q (F0 m 377 ls [.int x, .int x0, .ref (g 0)]) := by
  obtain ⟨hx, hb, hml, hown, hts, hN, hK⟩ := C
  obtain ⟨hP, hD, hS⟩ := hw
  obtain ⟨hPc, hDc⟩ := pw_sub [0, 1] (pw_appL (cw_N (cI := cI) (cJ := cJ) (cT := cT) (g := g) (s := K))) (by decide) hP hD
  have hFc := pw_free hDc hS (fun q h => h)
  refine va_calli (va_runV (As := [.int x0, .int x]) (rest := []) ⟨hx, hb, hml, hown, hts⟩ (c_B_signN l dC dI cI cJ cB cZ cT cN H.size (g 0) (g 1) (g 34) (g 38) 4 (tf g) x0 x a h) (cwV 2 hts (tb_V tw_309 tw_310 tw_311 tw_1 tw_312) rfl rfl rfl (by decide +kernel) ⟨Nat.le_of_ble_eq_true rfl, Nat.le_of_ble_eq_true rfl⟩) ⟨fun a U g mk q => by obtain ⟨q0, q1, qP, qK, qN, qD⟩ := q; exact ⟨q0, q1, qP, va_K.moved (u := U) (U := U.calling g mk a) (Vm.Alike.refl U.vm) qK, qN.same rfl, qD⟩, va_recv hK hPc (ci := 4) (q0 := 0) rfl rfl, fun U hU hW => ⟨rfl, by rw [hU], by rw [hU]; exact hPc, va_K.moved hW.alike hK, hN.warm hW, hDc.weaken (fun _ _ _ _ => trivial)⟩⟩ rfl rfl hl.1 rfl (lv_room (Nat.le_of_ble_eq_true rfl)) d_law_377 ⟨Nat.le_of_ble_eq_true rfl, Nat.le_of_ble_eq_true rfl⟩) hS (fun q _ h => hFc q h) hFc (fun rr u t1 H1 locs ht1 hvm hw hB hz1 hk1 hS => ?_)
  subst hw
  obtain ⟨hP1, -, hD1⟩ := hB
  rw [ht1] at hP1
  obtain ⟨hP, hD⟩ := pw_swapL (X := CW cI cJ cT g K) (X' := CW cI cJ cT g K) [0, 1] (cw_N (cI := cI) (cJ := cJ) (cT := cT) (g := g) (s := K)) (cw_N (cI := cI) (cJ := cJ) (cT := cT) (g := g) (s := K)) rfl (fun _ => rfl) (fun _ _ => rfl) hP hD hk1 hP1
  exact kk H1 locs ⟨hP, hD, hS⟩
theorem x_belowV (C : LX p s m c b dC dI cI cJ cB cZ cT cN) {t : Nat} (ht : t < 4) {x : Int32} {a : Int32 × C15} (h : f_B_belowV 4 K.occ 4096 K.sets 14 K.starts 13 K.nexts 4096 K.lo 4096 K.mi 4096 K.hi (K.fld t) (K.rcn t) (K.ccn t) (K.std t) 144 (K.num t) (K.scc t) (K.sfr t) 4096 (K.rk t) 4096 (K.sg t) 6868 (K.mem t) 5 (K.sst t) 169 (K.df t) (nI t) x = some a) (hw : LW s dC dI cI cJ cB cZ cT cN g ha NA ND K R H locs) (hl : lv_has ls 4 lv)
    (kk : ∀ (H : Heap) (locs : List Loc), LW s dC dI cI cJ cB cZ cT cN g ha NA ND (kset K t a.2) R H locs → W p l e room_1 s m #[Value.ref b] below meth c H locs 600000 7302250 Q (F0 m 413 ls [.int a.1])) : W p l e room_1 s m #[Value.ref b] below meth c H locs 600000 7302250 Q (F0 m 410 ls [.int x, .int (nI t), .ref (g 0)]) := by
  obtain ⟨hx, hb, hml, hown, hts, hN, hK⟩ := C
  obtain ⟨hP, hD, hS⟩ := hw
  obtain ⟨hPc, hDc⟩ := pw_sub (plV t) (pw_appL (cw_V (cI := cI) (cJ := cJ) (cT := cT) (g := g) (s := K) ht)) (nd_V ht) hP hD
  have hFc := pw_free hDc hS (fun q h => h)
  refine va_calli (va_runV (As := [.int (nI t), .int x]) (rest := []) ⟨hx, hb, hml, hown, hts⟩ (c_B_belowV l dC dI cI cJ cB cZ cT cN H.size (g 0) (g (2 + 8 * t)) (g 1) (g 34) (g 38) (g 35) (g 36) (g 37) (g 39) (g 40) (g 41) (g (3 + 8 * t)) (g (4 + 8 * t)) (g (5 + 8 * t)) (g (6 + 8 * t)) (g (7 + 8 * t)) (g (8 + 8 * t)) (g (9 + 8 * t)) 4 (tf g) K.occ 4096 K.sets 14 K.starts 13 K.nexts 4096 K.lo 4096 K.mi 4096 K.hi (K.fld t) (K.rcn t) (K.ccn t) (K.std t) 144 (K.num t) (K.scc t) (K.sfr t) 4096 (K.rk t) 4096 (K.sg t) 6868 (K.mem t) 5 (K.sst t) 169 (K.df t) (nI t) x a h (tf_at ht)) (cwV 2 hts (tb_V tw_314 tw_315 tw_316 tw_1 tw_317) rfl rfl rfl (by decide +kernel) ⟨Nat.le_of_ble_eq_true rfl, Nat.le_of_ble_eq_true rfl⟩) ⟨fun a U g mk q => by obtain ⟨q0, q1, qP, qK, qN, qD⟩ := q; exact ⟨q0, q1, qP, va_K.moved (u := U) (U := U.calling g mk a) (Vm.Alike.refl U.vm) qK, qN.same rfl, qD⟩, va_recv hK hPc (ci := 4) (q0 := 0) rfl rfl, fun U hU hW => ⟨rfl, by rw [hU], by rw [hU]; exact hPc, va_K.moved hW.alike hK, hN.warm hW, hDc.weaken (fun _ _ _ _ => trivial)⟩⟩ rfl rfl hl.1 rfl (lv_room (Nat.le_of_ble_eq_true rfl)) d_law_410 ⟨Nat.le_of_ble_eq_true rfl, Nat.le_of_ble_eq_true rfl⟩) hS (fun q _ h => hFc q h) hFc (fun rr u t1 H1 locs ht1 hvm hw hB hz1 hk1 hS => ?_)
  subst hw
  obtain ⟨hP1, -, hD1⟩ := hB
  rw [ht1] at hP1
  have hP1 : va_P (dC, dI) cl_all (wV cI cJ cT g (kset K t u) t) H1 := by rw [wV_k ht]; exact hP1
  obtain ⟨hP, hD⟩ := pw_swapL (X := CW cI cJ cT g K) (X' := CW cI cJ cT g (kset K t u)) (plV t) (cw_V ht) (cw_V ht) rfl cw_adr (off_V ht) hP hD hk1 hP1
  exact kk H1 locs ⟨hP, hD, hS⟩
theorem x_belowN (C : LX p s m c b dC dI cI cJ cB cZ cT cN) {x0 x : Int32} {a : Int32} (h : f_B_belowN x0 = some a) (hw : LW s dC dI cI cJ cB cZ cT cN g ha NA ND K R H locs) (hl : lv_has ls 4 lv)
    (kk : ∀ (H : Heap) (locs : List Loc), LW s dC dI cI cJ cB cZ cT cN g ha NA ND K R H locs → W p l e room_1 s m #[Value.ref b] below meth c H locs 600000 7302250 Q (F0 m 413 ls [.int a])) : W p l e room_1 s m #[Value.ref b] below meth c H locs 600000 7302250 Q (F0 m 410 ls [.int x, .int x0, .ref (g 0)]) := by
  obtain ⟨hx, hb, hml, hown, hts, hN, hK⟩ := C
  obtain ⟨hP, hD, hS⟩ := hw
  obtain ⟨hPc, hDc⟩ := pw_sub [0, 1] (pw_appL (cw_N (cI := cI) (cJ := cJ) (cT := cT) (g := g) (s := K))) (by decide) hP hD
  have hFc := pw_free hDc hS (fun q h => h)
  refine va_calli (va_runV (As := [.int x0, .int x]) (rest := []) ⟨hx, hb, hml, hown, hts⟩ (c_B_belowN l dC dI cI cJ cB cZ cT cN H.size (g 0) (g 1) (g 34) (g 38) 4 (tf g) x0 x a h) (cwV 2 hts (tb_V tw_314 tw_315 tw_316 tw_1 tw_317) rfl rfl rfl (by decide +kernel) ⟨Nat.le_of_ble_eq_true rfl, Nat.le_of_ble_eq_true rfl⟩) ⟨fun a U g mk q => by obtain ⟨q0, q1, qP, qK, qN, qD⟩ := q; exact ⟨q0, q1, qP, va_K.moved (u := U) (U := U.calling g mk a) (Vm.Alike.refl U.vm) qK, qN.same rfl, qD⟩, va_recv hK hPc (ci := 4) (q0 := 0) rfl rfl, fun U hU hW => ⟨rfl, by rw [hU], by rw [hU]; exact hPc, va_K.moved hW.alike hK, hN.warm hW, hDc.weaken (fun _ _ _ _ => trivial)⟩⟩ rfl rfl hl.1 rfl (lv_room (Nat.le_of_ble_eq_true rfl)) d_law_410 ⟨Nat.le_of_ble_eq_true rfl, Nat.le_of_ble_eq_true rfl⟩) hS (fun q _ h => hFc q h) hFc (fun rr u t1 H1 locs ht1 hvm hw hB hz1 hk1 hS => ?_)
  subst hw
  obtain ⟨hP1, -, hD1⟩ := hB
  rw [ht1] at hP1
  obtain ⟨hP, hD⟩ := pw_swapL (X := CW cI cJ cT g K) (X' := CW cI cJ cT g K) [0, 1] (cw_N (cI := cI) (cJ := cJ) (cT := cT) (g := g) (s := K)) (cw_N (cI := cI) (cJ := cJ) (cT := cT) (g := g) (s := K)) rfl (fun _ => rfl) (fun _ _ => rfl) hP hD hk1 hP1
  exact kk H1 locs ⟨hP, hD, hS⟩
end LawSteps
