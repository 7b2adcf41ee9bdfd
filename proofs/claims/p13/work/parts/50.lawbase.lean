/-! THE CLAIM OUT OF ONE WALK OF THE LAW'S BODY. Your part is whole_start (and what it stands on); all else here is the same for every law, but numbers. -/
def R_law : String := "GrownGraphsLaw"
def lw_P (b : Addr) (xs : List Int32) (args : Array Value) (s : State) : Prop := args = #[.ref b] ∧ s.IntsAt b xs ∧ xs.length ≤ 2048 ∧ (Jvm.Cond.and given_1 narrow_1).before args s = true
def lw_Q (_ : Array Value) (s : State) (o : Outcome) (t : State) : Prop := o = .returned (some (.int 1)) ∧ Framed s o t [] 600000 7302250
def lw_Z (below : List Frame) (a : Array Value) (s : State) : State → Prop := fun t => ∃ o, t.status = .running ∧ Ended t below o ∧ lw_Q a s o t
/-- the law's own end, with 1 on the stack, nothing written that was there before, its room as the claim has it -/
theorem lw_ret {p : Program} {l : Launch} {e : Env} {s : State} {m : MethodId} {below : List Frame} {meth : Method} {c : Code} {b : Nat} (hx : p.tables.exec = Jvm.exec) (hb : c.code = code) (hr : meth.sig.returnType = ret) (hlocks : meth.locks = false) {pc : Nat} {H : Heap} {ls : Array Slot} (hdg : decode code pc = .ok (.ireturn, 1)) : W p l e room_1 s m #[Value.ref b] below meth c H [] 600000 7302250 (lw_Z below #[Value.ref b] s) (F0 m pc ls [.int 1]) := by
  intro T hT X
  obtain ⟨fs, hret, hrun, hended, hW, hframe⟩ := X.leave (v := some (.int 1)) (hlocks := hlocks) (fun h => by rw [hr] at h; cases h)
  have hmeth' : T.vm.method? m = some meth := X.method'
  refine ⟨T.setFrames fs, ?_, .returned (some (.int 1)), hrun, hended, rfl, ⟨_, rfl⟩, hW, hframe⟩
  jvm_step X.here [X.here.top, hx, hb, hdg, hmeth', hr, ret, narrow_b1]
  (try refine ⟨rfl, ?_⟩); (try refine ⟨rfl, ?_⟩)
  first | (intro acts; rw [hret _ acts rfl rfl rfl]) | rw [hret _ _ rfl rfl rfl]
  exact Steps.refl _
/-- what holds at the law's entry: the machine, the code, the tables' words (any of lw_tbl by 'hts w (by decide +kernel)'), the script of L ints xs at the cell b, what the Statement gives of the start (any of its parts by flat_of_before) -/
def lw_At (p : Program) (s : State) (m : MethodId) (meth : Method) (c : Code) (b L : Nat) (xs : Nat → Int32) : Prop :=
  p.tables.exec = Jvm.exec ∧ c.code = code ∧ meth.sig.returnType = ret ∧ c.maxLocals = 4 ∧ s.vm.findClass R_law = some m.cls ∧ (∀ w ∈ lw_tbl, w.before #[Value.ref b] s = true) ∧ va_X b L xs s s.heap ∧ b < s.heap.size ∧ meth.locks = false ∧ (Jvm.Cond.and given_1 narrow_1).before #[Value.ref b] s = true

theorem arr0 {args : Array Value} {s : State} {ty : FieldType} (h : (Cond.arrayClass ty).before args s = true) : ∃ cA : ClassId, ArrOfT s cA ty ∧ s.vm.findClass ("[" ++ ty.toString) = some cA := by
  obtain ⟨cA, kA, comp, h1, h2, h3⟩ := Cond.arrayClass_spec h
  exact ⟨cA, fun n z => ⟨fun k h => (by cases h), kA, h2, comp, h3⟩, h1⟩
theorem arr1 {s : State} {C : String} (h : va_AO C s) : ∃ cA : ClassId, ArrOfT s cA (.object C) ∧ va_RA s cA (.object C) := by
  obtain ⟨comp, cA, kA, h1, h2, h3, h4, h5⟩ := Cond.arrayOver_spec h
  exact ⟨cA, fun n z => ⟨fun k h => (by cases h), kA, h3, comp, h4⟩, kA, comp, h3, h4, h1, h5⟩
theorem law_N {args : Array Value} {s : State} (hts : ∀ w ∈ tables_1, w.before args s = true) : kN s := by
  exact ⟨va_Nw.of rfl (hts (.methodLinkNest RX6 9 yX3_init RX6) (List.mem_of_getElem? (i := 22) (by decide +kernel))), va_Nw.of rfl (hts (.methodLinkNest RX5 21 yX4_init RX6) (List.mem_of_getElem? (i := 45) (by decide +kernel))), va_Nw.of rfl (hts (.methodLinkNest RX6 34 yX2_init RX6) (List.mem_of_getElem? (i := 119) (by decide +kernel))), va_Nw.of rfl (hts (.methodLinkNest RX6 41 yX1_init RX6) (List.mem_of_getElem? (i := 132) (by decide +kernel))), va_Nw.of rfl (hts (.methodLinkNest RX3 31 yX6_isOpen RX6) (List.mem_of_getElem? (i := 216) (by decide +kernel))), va_Nw.of rfl (hts (.methodLinkNest RX0 32 yX6_isOpen RX6) (List.mem_of_getElem? (i := 373) (by decide +kernel))), va_Nw.of rfl (hts (.methodLinkNest RX2 102 yX6_isOpen RX6) (List.mem_of_getElem? (i := 429) (by decide +kernel))), va_AO.of (hts (.arrayOver (.object "GrownGraphs$Rule")) (List.mem_of_getElem? (i := 43) (by decide +kernel)))⟩
theorem law_K {args : Array Value} {s : State} (hts : ∀ w ∈ gT, w.before args s = true) (hN : kN s) : ∃ (D : va_G) (cI cJ cZ cR : ClassId), kK D cI cJ cZ cR s := by
  obtain ⟨c0, i0, h0⟩ := u_known (C := RX0) (T := TX0) (N := 5) (n := 5) hts iT_X0 (hts _ t_50)
  obtain ⟨c1, i1, h1⟩ := u_known (C := RX1) (T := TX1) (N := 5) (n := 5) hts iT_X1 (hts _ t_131)
  obtain ⟨c2, i2, h2⟩ := u_known (C := RX2) (T := TX2) (N := 2) (n := 2) hts iT_X2 (hts _ t_118)
  obtain ⟨c3, i3, h3⟩ := u_known (C := RX3) (T := TX3) (N := 2) (n := 2) hts iT_X3 (hts _ t_21)
  obtain ⟨c4, i4, h4⟩ := u_known (C := RX4) (T := TX4) (N := 5) (n := 5) hts iT_X4 (hts _ t_44)
  obtain ⟨c5, i5, h5⟩ := u_known (C := RX5) (T := TX5) (N := 2) (n := 2) hts iT_X5 (hts _ t_37)
  obtain ⟨c6, i6, h6⟩ := u_known (C := RX6) (T := TX6) (N := 10) (n := 10) hts iT_X6 (hts _ t_13)
  obtain ⟨c7, i7, h7⟩ := u_known (C := RX7) (T := TX7) (N := 27) (n := 27) hts iT_X7 (hts _ t_546)
  obtain ⟨cI, aI, bI⟩ := arr0 (hts _ t_35)
  obtain ⟨cJ, aJ, bJ⟩ := arr0 (hts _ t_152)
  obtain ⟨cZ, aZ, bZ⟩ := arr0 (hts _ t_153)
  obtain ⟨cR, aR, bR⟩ := arr1 hN.2.2.2.2.2.2.2
  refine ⟨(fun k => match k with | 0 => c0 | 1 => c1 | 2 => c2 | 3 => c3 | 4 => c4 | 5 => c5 | 6 => c6 | _ => c7, fun k => match k with | 0 => i0 | 1 => i1 | 2 => i2 | 3 => i3 | 4 => i4 | 5 => i5 | 6 => i6 | _ => i7), cI, cJ, cZ, cR, ⟨fun k q hq => ?_, fun k q hk => ?_⟩, hN⟩
  · match k, hq with
    | 0, hq => cases hq; exact h0
    | 1, hq => cases hq; exact h1
    | 2, hq => cases hq; exact h2
    | 3, hq => cases hq; exact h3
    | 4, hq => cases hq; exact h4
    | 5, hq => cases hq; exact h5
    | 6, hq => cases hq; exact h6
    | 7, hq => cases hq; exact h7
    | k + 8, hq => simp [vwCl] at hq
  · match k, hk with
    | 0, hk => cases hk; exact ⟨aI, bI⟩
    | 1, hk => cases hk; exact ⟨aJ, bJ⟩
    | 2, hk => cases hk; exact ⟨aZ, bZ⟩
    | 3, hk => cases hk; exact ⟨aR, bR⟩
    | k + 4, hk => simp [gY] at hk
theorem dL_law_0 : decode code 0 = .ok (.new 7, 3) := by decide +kernel
theorem dL_law_3 : decode code 3 = .ok (.dup, 1) := by decide +kernel
theorem dL_law_4 : decode code 4 = .ok (.invokespecial 9, 3) := by decide +kernel
theorem dL_law_7 : decode code 7 = .ok (.astore_n 1, 1) := by decide +kernel
theorem dL_law_8 : decode code 8 = .ok (.new 10, 3) := by decide +kernel
theorem dL_law_11 : decode code 11 = .ok (.dup, 1) := by decide +kernel
theorem dL_law_12 : decode code 12 = .ok (.invokespecial 12, 3) := by decide +kernel
theorem dL_law_15 : decode code 15 = .ok (.astore_n 2, 1) := by decide +kernel
theorem dL_law_16 : decode code 16 = .ok (.iconst 0, 1) := by decide +kernel
theorem dL_law_17 : decode code 17 = .ok (.istore_n 3, 1) := by decide +kernel
theorem dL_law_18 : decode code 18 = .ok (.iload_n 3, 1) := by decide +kernel
theorem dL_law_19 : decode code 19 = .ok (.aload_n 0, 1) := by decide +kernel
theorem dL_law_20 : decode code 20 = .ok (.arraylength, 1) := by decide +kernel
theorem dL_law_21 : decode code 21 = .ok (.iconst 4, 1) := by decide +kernel
theorem dL_law_22 : decode code 22 = .ok (.isub, 1) := by decide +kernel
theorem dL_law_23 : decode code 23 = .ok (.if_icmp .gt 469, 3) := by decide +kernel
theorem dL_law_26 : decode code 26 = .ok (.aload_n 0, 1) := by decide +kernel
theorem dL_law_27 : decode code 27 = .ok (.iload_n 3, 1) := by decide +kernel
theorem dL_law_28 : decode code 28 = .ok (.iaload, 1) := by decide +kernel
theorem dL_law_29 : decode code 29 = .ok (.bipush 15, 2) := by decide +kernel
theorem dL_law_31 : decode code 31 = .ok (.iand, 1) := by decide +kernel
theorem dL_law_32 : decode code 32 = .ok (.tableswitch 454 0 15 #[80, 103, 116, 155, 168, 191, 204, 237, 260, 293, 316, 329, 352, 375, 418, 441], 80) := by decide +kernel
theorem dL_law_112 : decode code 112 = .ok (.aload_n 1, 1) := by decide +kernel
theorem dL_law_113 : decode code 113 = .ok (.aload_n 0, 1) := by decide +kernel
theorem dL_law_114 : decode code 114 = .ok (.iload_n 3, 1) := by decide +kernel
theorem dL_law_115 : decode code 115 = .ok (.iconst 1, 1) := by decide +kernel
theorem dL_law_116 : decode code 116 = .ok (.iadd, 1) := by decide +kernel
theorem dL_law_117 : decode code 117 = .ok (.iaload, 1) := by decide +kernel
theorem dL_law_118 : decode code 118 = .ok (.invokevirtual 13, 3) := by decide +kernel
theorem dL_law_121 : decode code 121 = .ok (.pop, 1) := by decide +kernel
theorem dL_law_122 : decode code 122 = .ok (.aload_n 2, 1) := by decide +kernel
theorem dL_law_123 : decode code 123 = .ok (.aload_n 0, 1) := by decide +kernel
theorem dL_law_124 : decode code 124 = .ok (.iload_n 3, 1) := by decide +kernel
theorem dL_law_125 : decode code 125 = .ok (.iconst 1, 1) := by decide +kernel
theorem dL_law_126 : decode code 126 = .ok (.iadd, 1) := by decide +kernel
theorem dL_law_127 : decode code 127 = .ok (.iaload, 1) := by decide +kernel
theorem dL_law_128 : decode code 128 = .ok (.invokevirtual 17, 3) := by decide +kernel
theorem dL_law_131 : decode code 131 = .ok (.pop, 1) := by decide +kernel
theorem dL_law_132 : decode code 132 = .ok (.goto 354, 3) := by decide +kernel
theorem dL_law_135 : decode code 135 = .ok (.aload_n 1, 1) := by decide +kernel
theorem dL_law_136 : decode code 136 = .ok (.invokevirtual 18, 3) := by decide +kernel
theorem dL_law_139 : decode code 139 = .ok (.pop, 1) := by decide +kernel
theorem dL_law_140 : decode code 140 = .ok (.aload_n 2, 1) := by decide +kernel
theorem dL_law_141 : decode code 141 = .ok (.invokevirtual 22, 3) := by decide +kernel
theorem dL_law_144 : decode code 144 = .ok (.pop, 1) := by decide +kernel
theorem dL_law_145 : decode code 145 = .ok (.goto 341, 3) := by decide +kernel
theorem dL_law_148 : decode code 148 = .ok (.aload_n 1, 1) := by decide +kernel
theorem dL_law_149 : decode code 149 = .ok (.aload_n 0, 1) := by decide +kernel
theorem dL_law_150 : decode code 150 = .ok (.iload_n 3, 1) := by decide +kernel
theorem dL_law_151 : decode code 151 = .ok (.iconst 1, 1) := by decide +kernel
theorem dL_law_152 : decode code 152 = .ok (.iadd, 1) := by decide +kernel
theorem dL_law_153 : decode code 153 = .ok (.iaload, 1) := by decide +kernel
theorem dL_law_154 : decode code 154 = .ok (.ifCond .eq 7, 3) := by decide +kernel
theorem dL_law_157 : decode code 157 = .ok (.iconst 1, 1) := by decide +kernel
theorem dL_law_158 : decode code 158 = .ok (.goto 4, 3) := by decide +kernel
theorem dL_law_161 : decode code 161 = .ok (.iconst 0, 1) := by decide +kernel
theorem dL_law_162 : decode code 162 = .ok (.invokevirtual 23, 3) := by decide +kernel
theorem dL_law_165 : decode code 165 = .ok (.pop, 1) := by decide +kernel
theorem dL_law_166 : decode code 166 = .ok (.aload_n 2, 1) := by decide +kernel
theorem dL_law_167 : decode code 167 = .ok (.aload_n 0, 1) := by decide +kernel
theorem dL_law_168 : decode code 168 = .ok (.iload_n 3, 1) := by decide +kernel
theorem dL_law_169 : decode code 169 = .ok (.iconst 1, 1) := by decide +kernel
theorem dL_law_170 : decode code 170 = .ok (.iadd, 1) := by decide +kernel
theorem dL_law_171 : decode code 171 = .ok (.iaload, 1) := by decide +kernel
theorem dL_law_172 : decode code 172 = .ok (.ifCond .eq 7, 3) := by decide +kernel
theorem dL_law_175 : decode code 175 = .ok (.iconst 1, 1) := by decide +kernel
theorem dL_law_176 : decode code 176 = .ok (.goto 4, 3) := by decide +kernel
theorem dL_law_179 : decode code 179 = .ok (.iconst 0, 1) := by decide +kernel
theorem dL_law_180 : decode code 180 = .ok (.invokevirtual 27, 3) := by decide +kernel
theorem dL_law_183 : decode code 183 = .ok (.pop, 1) := by decide +kernel
theorem dL_law_184 : decode code 184 = .ok (.goto 302, 3) := by decide +kernel
theorem dL_law_187 : decode code 187 = .ok (.aload_n 1, 1) := by decide +kernel
theorem dL_law_188 : decode code 188 = .ok (.invokevirtual 28, 3) := by decide +kernel
theorem dL_law_191 : decode code 191 = .ok (.pop, 1) := by decide +kernel
theorem dL_law_192 : decode code 192 = .ok (.aload_n 2, 1) := by decide +kernel
theorem dL_law_193 : decode code 193 = .ok (.invokevirtual 31, 3) := by decide +kernel
theorem dL_law_196 : decode code 196 = .ok (.pop, 1) := by decide +kernel
theorem dL_law_197 : decode code 197 = .ok (.goto 289, 3) := by decide +kernel
theorem dL_law_200 : decode code 200 = .ok (.aload_n 1, 1) := by decide +kernel
theorem dL_law_201 : decode code 201 = .ok (.aload_n 0, 1) := by decide +kernel
theorem dL_law_202 : decode code 202 = .ok (.iload_n 3, 1) := by decide +kernel
theorem dL_law_203 : decode code 203 = .ok (.iconst 1, 1) := by decide +kernel
theorem dL_law_204 : decode code 204 = .ok (.iadd, 1) := by decide +kernel
theorem dL_law_205 : decode code 205 = .ok (.iaload, 1) := by decide +kernel
theorem dL_law_206 : decode code 206 = .ok (.invokevirtual 32, 3) := by decide +kernel
theorem dL_law_209 : decode code 209 = .ok (.pop, 1) := by decide +kernel
theorem dL_law_210 : decode code 210 = .ok (.aload_n 2, 1) := by decide +kernel
theorem dL_law_211 : decode code 211 = .ok (.aload_n 0, 1) := by decide +kernel
theorem dL_law_212 : decode code 212 = .ok (.iload_n 3, 1) := by decide +kernel
theorem dL_law_213 : decode code 213 = .ok (.iconst 1, 1) := by decide +kernel
theorem dL_law_214 : decode code 214 = .ok (.iadd, 1) := by decide +kernel
theorem dL_law_215 : decode code 215 = .ok (.iaload, 1) := by decide +kernel
theorem dL_law_216 : decode code 216 = .ok (.invokevirtual 35, 3) := by decide +kernel
theorem dL_law_219 : decode code 219 = .ok (.pop, 1) := by decide +kernel
theorem dL_law_220 : decode code 220 = .ok (.goto 266, 3) := by decide +kernel
theorem dL_law_223 : decode code 223 = .ok (.aload_n 1, 1) := by decide +kernel
theorem dL_law_224 : decode code 224 = .ok (.invokevirtual 36, 3) := by decide +kernel
theorem dL_law_227 : decode code 227 = .ok (.pop, 1) := by decide +kernel
theorem dL_law_228 : decode code 228 = .ok (.aload_n 2, 1) := by decide +kernel
theorem dL_law_229 : decode code 229 = .ok (.invokevirtual 39, 3) := by decide +kernel
theorem dL_law_232 : decode code 232 = .ok (.pop, 1) := by decide +kernel
theorem dL_law_233 : decode code 233 = .ok (.goto 253, 3) := by decide +kernel
theorem dL_law_236 : decode code 236 = .ok (.aload_n 1, 1) := by decide +kernel
theorem dL_law_237 : decode code 237 = .ok (.aload_n 0, 1) := by decide +kernel
theorem dL_law_238 : decode code 238 = .ok (.iload_n 3, 1) := by decide +kernel
theorem dL_law_239 : decode code 239 = .ok (.iconst 1, 1) := by decide +kernel
theorem dL_law_240 : decode code 240 = .ok (.iadd, 1) := by decide +kernel
theorem dL_law_241 : decode code 241 = .ok (.iaload, 1) := by decide +kernel
theorem dL_law_242 : decode code 242 = .ok (.aload_n 0, 1) := by decide +kernel
theorem dL_law_243 : decode code 243 = .ok (.iload_n 3, 1) := by decide +kernel
theorem dL_law_244 : decode code 244 = .ok (.iconst 2, 1) := by decide +kernel
theorem dL_law_245 : decode code 245 = .ok (.iadd, 1) := by decide +kernel
theorem dL_law_246 : decode code 246 = .ok (.iaload, 1) := by decide +kernel
theorem dL_law_247 : decode code 247 = .ok (.invokevirtual 40, 3) := by decide +kernel
theorem dL_law_250 : decode code 250 = .ok (.pop, 1) := by decide +kernel
theorem dL_law_251 : decode code 251 = .ok (.aload_n 2, 1) := by decide +kernel
theorem dL_law_252 : decode code 252 = .ok (.aload_n 0, 1) := by decide +kernel
theorem dL_law_253 : decode code 253 = .ok (.iload_n 3, 1) := by decide +kernel
theorem dL_law_254 : decode code 254 = .ok (.iconst 1, 1) := by decide +kernel
theorem dL_law_255 : decode code 255 = .ok (.iadd, 1) := by decide +kernel
theorem dL_law_256 : decode code 256 = .ok (.iaload, 1) := by decide +kernel
theorem dL_law_257 : decode code 257 = .ok (.aload_n 0, 1) := by decide +kernel
theorem dL_law_258 : decode code 258 = .ok (.iload_n 3, 1) := by decide +kernel
theorem dL_law_259 : decode code 259 = .ok (.iconst 2, 1) := by decide +kernel
theorem dL_law_260 : decode code 260 = .ok (.iadd, 1) := by decide +kernel
theorem dL_law_261 : decode code 261 = .ok (.iaload, 1) := by decide +kernel
theorem dL_law_262 : decode code 262 = .ok (.invokevirtual 44, 3) := by decide +kernel
theorem dL_law_265 : decode code 265 = .ok (.pop, 1) := by decide +kernel
theorem dL_law_266 : decode code 266 = .ok (.goto 220, 3) := by decide +kernel
theorem dL_law_269 : decode code 269 = .ok (.aload_n 1, 1) := by decide +kernel
theorem dL_law_270 : decode code 270 = .ok (.aload_n 0, 1) := by decide +kernel
theorem dL_law_271 : decode code 271 = .ok (.iload_n 3, 1) := by decide +kernel
theorem dL_law_272 : decode code 272 = .ok (.iconst 1, 1) := by decide +kernel
theorem dL_law_273 : decode code 273 = .ok (.iadd, 1) := by decide +kernel
theorem dL_law_274 : decode code 274 = .ok (.iaload, 1) := by decide +kernel
theorem dL_law_275 : decode code 275 = .ok (.invokevirtual 45, 3) := by decide +kernel
theorem dL_law_278 : decode code 278 = .ok (.pop, 1) := by decide +kernel
theorem dL_law_279 : decode code 279 = .ok (.aload_n 2, 1) := by decide +kernel
theorem dL_law_280 : decode code 280 = .ok (.aload_n 0, 1) := by decide +kernel
theorem dL_law_281 : decode code 281 = .ok (.iload_n 3, 1) := by decide +kernel
theorem dL_law_282 : decode code 282 = .ok (.iconst 1, 1) := by decide +kernel
theorem dL_law_283 : decode code 283 = .ok (.iadd, 1) := by decide +kernel
theorem dL_law_284 : decode code 284 = .ok (.iaload, 1) := by decide +kernel
theorem dL_law_285 : decode code 285 = .ok (.invokevirtual 48, 3) := by decide +kernel
theorem dL_law_288 : decode code 288 = .ok (.pop, 1) := by decide +kernel
theorem dL_law_289 : decode code 289 = .ok (.goto 197, 3) := by decide +kernel
theorem dL_law_292 : decode code 292 = .ok (.aload_n 1, 1) := by decide +kernel
theorem dL_law_293 : decode code 293 = .ok (.aload_n 0, 1) := by decide +kernel
theorem dL_law_294 : decode code 294 = .ok (.iload_n 3, 1) := by decide +kernel
theorem dL_law_295 : decode code 295 = .ok (.iconst 1, 1) := by decide +kernel
theorem dL_law_296 : decode code 296 = .ok (.iadd, 1) := by decide +kernel
theorem dL_law_297 : decode code 297 = .ok (.iaload, 1) := by decide +kernel
theorem dL_law_298 : decode code 298 = .ok (.aload_n 0, 1) := by decide +kernel
theorem dL_law_299 : decode code 299 = .ok (.iload_n 3, 1) := by decide +kernel
theorem dL_law_300 : decode code 300 = .ok (.iconst 2, 1) := by decide +kernel
theorem dL_law_301 : decode code 301 = .ok (.iadd, 1) := by decide +kernel
theorem dL_law_302 : decode code 302 = .ok (.iaload, 1) := by decide +kernel
theorem dL_law_303 : decode code 303 = .ok (.invokevirtual 49, 3) := by decide +kernel
theorem dL_law_306 : decode code 306 = .ok (.pop, 1) := by decide +kernel
theorem dL_law_307 : decode code 307 = .ok (.aload_n 2, 1) := by decide +kernel
theorem dL_law_308 : decode code 308 = .ok (.aload_n 0, 1) := by decide +kernel
theorem dL_law_309 : decode code 309 = .ok (.iload_n 3, 1) := by decide +kernel
theorem dL_law_310 : decode code 310 = .ok (.iconst 1, 1) := by decide +kernel
theorem dL_law_311 : decode code 311 = .ok (.iadd, 1) := by decide +kernel
theorem dL_law_312 : decode code 312 = .ok (.iaload, 1) := by decide +kernel
theorem dL_law_313 : decode code 313 = .ok (.aload_n 0, 1) := by decide +kernel
theorem dL_law_314 : decode code 314 = .ok (.iload_n 3, 1) := by decide +kernel
theorem dL_law_315 : decode code 315 = .ok (.iconst 2, 1) := by decide +kernel
theorem dL_law_316 : decode code 316 = .ok (.iadd, 1) := by decide +kernel
theorem dL_law_317 : decode code 317 = .ok (.iaload, 1) := by decide +kernel
theorem dL_law_318 : decode code 318 = .ok (.invokevirtual 52, 3) := by decide +kernel
theorem dL_law_321 : decode code 321 = .ok (.pop, 1) := by decide +kernel
theorem dL_law_322 : decode code 322 = .ok (.goto 164, 3) := by decide +kernel
theorem dL_law_325 : decode code 325 = .ok (.aload_n 1, 1) := by decide +kernel
theorem dL_law_326 : decode code 326 = .ok (.aload_n 0, 1) := by decide +kernel
theorem dL_law_327 : decode code 327 = .ok (.iload_n 3, 1) := by decide +kernel
theorem dL_law_328 : decode code 328 = .ok (.iconst 1, 1) := by decide +kernel
theorem dL_law_329 : decode code 329 = .ok (.iadd, 1) := by decide +kernel
theorem dL_law_330 : decode code 330 = .ok (.iaload, 1) := by decide +kernel
theorem dL_law_331 : decode code 331 = .ok (.invokevirtual 53, 3) := by decide +kernel
theorem dL_law_334 : decode code 334 = .ok (.pop, 1) := by decide +kernel
theorem dL_law_335 : decode code 335 = .ok (.aload_n 2, 1) := by decide +kernel
theorem dL_law_336 : decode code 336 = .ok (.aload_n 0, 1) := by decide +kernel
theorem dL_law_337 : decode code 337 = .ok (.iload_n 3, 1) := by decide +kernel
theorem dL_law_338 : decode code 338 = .ok (.iconst 1, 1) := by decide +kernel
theorem dL_law_339 : decode code 339 = .ok (.iadd, 1) := by decide +kernel
theorem dL_law_340 : decode code 340 = .ok (.iaload, 1) := by decide +kernel
theorem dL_law_341 : decode code 341 = .ok (.invokevirtual 56, 3) := by decide +kernel
theorem dL_law_344 : decode code 344 = .ok (.pop, 1) := by decide +kernel
theorem dL_law_345 : decode code 345 = .ok (.goto 141, 3) := by decide +kernel
theorem dL_law_348 : decode code 348 = .ok (.aload_n 1, 1) := by decide +kernel
theorem dL_law_349 : decode code 349 = .ok (.invokevirtual 57, 3) := by decide +kernel
theorem dL_law_352 : decode code 352 = .ok (.pop, 1) := by decide +kernel
theorem dL_law_353 : decode code 353 = .ok (.aload_n 2, 1) := by decide +kernel
theorem dL_law_354 : decode code 354 = .ok (.invokevirtual 60, 3) := by decide +kernel
theorem dL_law_357 : decode code 357 = .ok (.pop, 1) := by decide +kernel
theorem dL_law_358 : decode code 358 = .ok (.goto 128, 3) := by decide +kernel
theorem dL_law_361 : decode code 361 = .ok (.aload_n 1, 1) := by decide +kernel
theorem dL_law_362 : decode code 362 = .ok (.aload_n 0, 1) := by decide +kernel
theorem dL_law_363 : decode code 363 = .ok (.iload_n 3, 1) := by decide +kernel
theorem dL_law_364 : decode code 364 = .ok (.iconst 1, 1) := by decide +kernel
theorem dL_law_365 : decode code 365 = .ok (.iadd, 1) := by decide +kernel
theorem dL_law_366 : decode code 366 = .ok (.iaload, 1) := by decide +kernel
theorem dL_law_367 : decode code 367 = .ok (.invokevirtual 61, 3) := by decide +kernel
theorem dL_law_370 : decode code 370 = .ok (.aload_n 2, 1) := by decide +kernel
theorem dL_law_371 : decode code 371 = .ok (.aload_n 0, 1) := by decide +kernel
theorem dL_law_372 : decode code 372 = .ok (.iload_n 3, 1) := by decide +kernel
theorem dL_law_373 : decode code 373 = .ok (.iconst 1, 1) := by decide +kernel
theorem dL_law_374 : decode code 374 = .ok (.iadd, 1) := by decide +kernel
theorem dL_law_375 : decode code 375 = .ok (.iaload, 1) := by decide +kernel
theorem dL_law_376 : decode code 376 = .ok (.invokevirtual 64, 3) := by decide +kernel
theorem dL_law_379 : decode code 379 = .ok (.if_icmp .eq 107, 3) := by decide +kernel
theorem dL_law_384 : decode code 384 = .ok (.aload_n 1, 1) := by decide +kernel
theorem dL_law_385 : decode code 385 = .ok (.aload_n 0, 1) := by decide +kernel
theorem dL_law_386 : decode code 386 = .ok (.iload_n 3, 1) := by decide +kernel
theorem dL_law_387 : decode code 387 = .ok (.iconst 1, 1) := by decide +kernel
theorem dL_law_388 : decode code 388 = .ok (.iadd, 1) := by decide +kernel
theorem dL_law_389 : decode code 389 = .ok (.iaload, 1) := by decide +kernel
theorem dL_law_390 : decode code 390 = .ok (.invokevirtual 65, 3) := by decide +kernel
theorem dL_law_393 : decode code 393 = .ok (.pop, 1) := by decide +kernel
theorem dL_law_394 : decode code 394 = .ok (.aload_n 2, 1) := by decide +kernel
theorem dL_law_395 : decode code 395 = .ok (.aload_n 0, 1) := by decide +kernel
theorem dL_law_396 : decode code 396 = .ok (.iload_n 3, 1) := by decide +kernel
theorem dL_law_397 : decode code 397 = .ok (.iconst 1, 1) := by decide +kernel
theorem dL_law_398 : decode code 398 = .ok (.iadd, 1) := by decide +kernel
theorem dL_law_399 : decode code 399 = .ok (.iaload, 1) := by decide +kernel
theorem dL_law_400 : decode code 400 = .ok (.invokevirtual 68, 3) := by decide +kernel
theorem dL_law_403 : decode code 403 = .ok (.pop, 1) := by decide +kernel
theorem dL_law_404 : decode code 404 = .ok (.goto 82, 3) := by decide +kernel
theorem dL_law_407 : decode code 407 = .ok (.aload_n 1, 1) := by decide +kernel
theorem dL_law_408 : decode code 408 = .ok (.aload_n 0, 1) := by decide +kernel
theorem dL_law_409 : decode code 409 = .ok (.iload_n 3, 1) := by decide +kernel
theorem dL_law_410 : decode code 410 = .ok (.iconst 1, 1) := by decide +kernel
theorem dL_law_411 : decode code 411 = .ok (.iadd, 1) := by decide +kernel
theorem dL_law_412 : decode code 412 = .ok (.iaload, 1) := by decide +kernel
theorem dL_law_413 : decode code 413 = .ok (.aload_n 0, 1) := by decide +kernel
theorem dL_law_414 : decode code 414 = .ok (.iload_n 3, 1) := by decide +kernel
theorem dL_law_415 : decode code 415 = .ok (.iconst 2, 1) := by decide +kernel
theorem dL_law_416 : decode code 416 = .ok (.iadd, 1) := by decide +kernel
theorem dL_law_417 : decode code 417 = .ok (.iaload, 1) := by decide +kernel
theorem dL_law_418 : decode code 418 = .ok (.aload_n 0, 1) := by decide +kernel
theorem dL_law_419 : decode code 419 = .ok (.iload_n 3, 1) := by decide +kernel
theorem dL_law_420 : decode code 420 = .ok (.iconst 3, 1) := by decide +kernel
theorem dL_law_421 : decode code 421 = .ok (.iadd, 1) := by decide +kernel
theorem dL_law_422 : decode code 422 = .ok (.iaload, 1) := by decide +kernel
theorem dL_law_423 : decode code 423 = .ok (.invokevirtual 69, 3) := by decide +kernel
theorem dL_law_426 : decode code 426 = .ok (.pop, 1) := by decide +kernel
theorem dL_law_427 : decode code 427 = .ok (.aload_n 2, 1) := by decide +kernel
theorem dL_law_428 : decode code 428 = .ok (.aload_n 0, 1) := by decide +kernel
theorem dL_law_429 : decode code 429 = .ok (.iload_n 3, 1) := by decide +kernel
theorem dL_law_430 : decode code 430 = .ok (.iconst 1, 1) := by decide +kernel
theorem dL_law_431 : decode code 431 = .ok (.iadd, 1) := by decide +kernel
theorem dL_law_432 : decode code 432 = .ok (.iaload, 1) := by decide +kernel
theorem dL_law_433 : decode code 433 = .ok (.aload_n 0, 1) := by decide +kernel
theorem dL_law_434 : decode code 434 = .ok (.iload_n 3, 1) := by decide +kernel
theorem dL_law_435 : decode code 435 = .ok (.iconst 2, 1) := by decide +kernel
theorem dL_law_436 : decode code 436 = .ok (.iadd, 1) := by decide +kernel
theorem dL_law_437 : decode code 437 = .ok (.iaload, 1) := by decide +kernel
theorem dL_law_438 : decode code 438 = .ok (.aload_n 0, 1) := by decide +kernel
theorem dL_law_439 : decode code 439 = .ok (.iload_n 3, 1) := by decide +kernel
theorem dL_law_440 : decode code 440 = .ok (.iconst 3, 1) := by decide +kernel
theorem dL_law_441 : decode code 441 = .ok (.iadd, 1) := by decide +kernel
theorem dL_law_442 : decode code 442 = .ok (.iaload, 1) := by decide +kernel
theorem dL_law_443 : decode code 443 = .ok (.invokevirtual 73, 3) := by decide +kernel
theorem dL_law_446 : decode code 446 = .ok (.pop, 1) := by decide +kernel
theorem dL_law_447 : decode code 447 = .ok (.goto 39, 3) := by decide +kernel
theorem dL_law_450 : decode code 450 = .ok (.aload_n 1, 1) := by decide +kernel
theorem dL_law_451 : decode code 451 = .ok (.aload_n 0, 1) := by decide +kernel
theorem dL_law_452 : decode code 452 = .ok (.iload_n 3, 1) := by decide +kernel
theorem dL_law_453 : decode code 453 = .ok (.iconst 1, 1) := by decide +kernel
theorem dL_law_454 : decode code 454 = .ok (.iadd, 1) := by decide +kernel
theorem dL_law_455 : decode code 455 = .ok (.iaload, 1) := by decide +kernel
theorem dL_law_456 : decode code 456 = .ok (.invokevirtual 74, 3) := by decide +kernel
theorem dL_law_459 : decode code 459 = .ok (.pop, 1) := by decide +kernel
theorem dL_law_460 : decode code 460 = .ok (.aload_n 2, 1) := by decide +kernel
theorem dL_law_461 : decode code 461 = .ok (.aload_n 0, 1) := by decide +kernel
theorem dL_law_462 : decode code 462 = .ok (.iload_n 3, 1) := by decide +kernel
theorem dL_law_463 : decode code 463 = .ok (.iconst 1, 1) := by decide +kernel
theorem dL_law_464 : decode code 464 = .ok (.iadd, 1) := by decide +kernel
theorem dL_law_465 : decode code 465 = .ok (.iaload, 1) := by decide +kernel
theorem dL_law_466 : decode code 466 = .ok (.invokevirtual 77, 3) := by decide +kernel
theorem dL_law_469 : decode code 469 = .ok (.pop, 1) := by decide +kernel
theorem dL_law_470 : decode code 470 = .ok (.goto 16, 3) := by decide +kernel
theorem dL_law_473 : decode code 473 = .ok (.aload_n 1, 1) := by decide +kernel
theorem dL_law_474 : decode code 474 = .ok (.invokevirtual 78, 3) := by decide +kernel
theorem dL_law_477 : decode code 477 = .ok (.pop2, 1) := by decide +kernel
theorem dL_law_478 : decode code 478 = .ok (.aload_n 2, 1) := by decide +kernel
theorem dL_law_479 : decode code 479 = .ok (.invokevirtual 82, 3) := by decide +kernel
theorem dL_law_482 : decode code 482 = .ok (.pop2, 1) := by decide +kernel
theorem dL_law_483 : decode code 483 = .ok (.goto 3, 3) := by decide +kernel
theorem dL_law_486 : decode code 486 = .ok (.iinc 3 4, 3) := by decide +kernel
theorem dL_law_489 : decode code 489 = .ok (.goto (-471), 3) := by decide +kernel
theorem dL_law_492 : decode code 492 = .ok (.iconst 1, 1) := by decide +kernel
theorem dL_law_493 : decode code 493 = .ok (.ireturn, 1) := by decide +kernel
theorem pm_76 {c0 c1 c2 c3 c4 c5 c6 c7 c8 c9 c10 c11 c12 c13 c14 c15 c16 c17 c18 : Nat × va_E} : List.Perm ([c0, c1, c2, c3, c4, c5, c6, c7, c8, c9, c10, c11, c12, c13, c14, c15, c16, c17, c18] : va_W) ([c18] ++ [c0, c1, c2, c3, c4, c5, c6, c7, c8, c9, c10, c11, c12, c13, c14, c15, c16, c17]) := pick_perm 19 rfl [18] [0, 1, 2, 3, 4, 5, 6, 7, 8, 9, 10, 11, 12, 13, 14, 15, 16, 17] (by decide +kernel) rfl rfl
theorem pm_77 {c0 c1 c2 c3 c4 c5 c6 c7 c8 c9 c10 c11 c12 c13 c14 c15 c16 c17 c18 c19 c20 c21 c22 c23 c24 c25 c26 c27 c28 c29 c30 c31 : Nat × va_E} : List.Perm ([c0, c1, c2, c3, c4, c5, c6, c7, c8, c9, c10, c11, c12, c13, c14, c15, c16, c17, c18, c19, c20, c21, c22, c23, c24, c25, c26, c27, c28, c29, c30, c31] : va_W) ([c0, c1, c2, c3, c4, c5, c6, c7, c8, c9, c10, c11, c12, c13, c14, c15, c16, c17, c18, c19, c20, c21, c22, c23, c24, c25, c26, c27, c28, c29, c30, c31] ++ []) := pick_perm 32 rfl [0, 1, 2, 3, 4, 5, 6, 7, 8, 9, 10, 11, 12, 13, 14, 15, 16, 17, 18, 19, 20, 21, 22, 23, 24, 25, 26, 27, 28, 29, 30, 31] [] (by decide +kernel) rfl rfl
theorem pm_78 {c0 c1 c2 c3 c4 c5 c6 c7 c8 c9 c10 c11 c12 c13 c14 c15 c16 c17 c18 c19 c20 c21 c22 c23 c24 c25 c26 c27 c28 c29 c30 c31 : Nat × va_E} : List.Perm ([c0, c1, c2, c3, c4, c5, c6, c7, c8, c9, c10, c11, c12, c13, c14, c15, c16, c17, c18, c19, c20, c21, c22, c23, c24, c25, c26, c27, c28, c29, c30, c31] : va_W) ([c0, c1, c2] ++ [c3, c4, c5, c6, c7, c8, c9, c10, c11, c12, c13, c14, c15, c16, c17, c18, c19, c20, c21, c22, c23, c24, c25, c26, c27, c28, c29, c30, c31]) := pick_perm 32 rfl [0, 1, 2] [3, 4, 5, 6, 7, 8, 9, 10, 11, 12, 13, 14, 15, 16, 17, 18, 19, 20, 21, 22, 23, 24, 25, 26, 27, 28, 29, 30, 31] (by decide +kernel) rfl rfl
theorem pm_79 {c0 c1 c2 c3 c4 c5 c6 c7 c8 c9 c10 c11 c12 c13 c14 c15 c16 c17 c18 c19 c20 c21 c22 c23 c24 c25 c26 c27 c28 c29 c30 c31 : Nat × va_E} : List.Perm ([c0, c1, c2, c3, c4, c5, c6, c7, c8, c9, c10, c11, c12, c13, c14, c15, c16, c17, c18, c19, c20, c21, c22, c23, c24, c25, c26, c27, c28, c29, c30, c31] : va_W) ([c15, c16] ++ [c0, c1, c2, c3, c4, c5, c6, c7, c8, c9, c10, c11, c12, c13, c14, c17, c18, c19, c20, c21, c22, c23, c24, c25, c26, c27, c28, c29, c30, c31]) := pick_perm 32 rfl [15, 16] [0, 1, 2, 3, 4, 5, 6, 7, 8, 9, 10, 11, 12, 13, 14, 17, 18, 19, 20, 21, 22, 23, 24, 25, 26, 27, 28, 29, 30, 31] (by decide +kernel) rfl rfl
theorem pm_80 {c0 c1 c2 c3 c4 c5 c6 c7 c8 c9 c10 c11 c12 c13 c14 c15 c16 c17 c18 c19 c20 c21 c22 c23 c24 c25 c26 c27 c28 c29 c30 c31 : Nat × va_E} : List.Perm ([c0, c1, c2, c3, c4, c5, c6, c7, c8, c9, c10, c11, c12, c13, c14, c15, c16, c17, c18, c19, c20, c21, c22, c23, c24, c25, c26, c27, c28, c29, c30, c31] : va_W) ([c27, c28, c29, c0, c1, c2, c3, c4, c5, c6, c7, c8, c9, c10, c11, c12, c13, c14, c30, c31, c15, c16, c17, c18, c19, c20, c21, c22, c23, c24, c25, c26] ++ []) := pick_perm 32 rfl [27, 28, 29, 0, 1, 2, 3, 4, 5, 6, 7, 8, 9, 10, 11, 12, 13, 14, 30, 31, 15, 16, 17, 18, 19, 20, 21, 22, 23, 24, 25, 26] [] (by decide +kernel) rfl rfl
theorem pm_81 {c0 c1 c2 c3 c4 c5 c6 c7 c8 c9 c10 c11 c12 c13 c14 c15 c16 c17 c18 c19 c20 c21 c22 c23 c24 c25 c26 c27 c28 c29 c30 c31 : Nat × va_E} : List.Perm ([c0, c1, c2, c3, c4, c5, c6, c7, c8, c9, c10, c11, c12, c13, c14, c15, c16, c17, c18, c19, c20, c21, c22, c23, c24, c25, c26, c27, c28, c29, c30, c31] : va_W) ([c0, c1] ++ [c2, c3, c4, c5, c6, c7, c8, c9, c10, c11, c12, c13, c14, c15, c16, c17, c18, c19, c20, c21, c22, c23, c24, c25, c26, c27, c28, c29, c30, c31]) := pick_perm 32 rfl [0, 1] [2, 3, 4, 5, 6, 7, 8, 9, 10, 11, 12, 13, 14, 15, 16, 17, 18, 19, 20, 21, 22, 23, 24, 25, 26, 27, 28, 29, 30, 31] (by decide +kernel) rfl rfl
theorem pm_82 {c0 c1 c2 c3 c4 c5 c6 c7 c8 c9 c10 c11 c12 c13 c14 c15 c16 c17 c18 c19 c20 c21 c22 c23 c24 c25 c26 c27 c28 c29 c30 c31 : Nat × va_E} : List.Perm ([c0, c1, c2, c3, c4, c5, c6, c7, c8, c9, c10, c11, c12, c13, c14, c15, c16, c17, c18, c19, c20, c21, c22, c23, c24, c25, c26, c27, c28, c29, c30, c31] : va_W) ([c16] ++ [c0, c1, c2, c3, c4, c5, c6, c7, c8, c9, c10, c11, c12, c13, c14, c15, c17, c18, c19, c20, c21, c22, c23, c24, c25, c26, c27, c28, c29, c30, c31]) := pick_perm 32 rfl [16] [0, 1, 2, 3, 4, 5, 6, 7, 8, 9, 10, 11, 12, 13, 14, 15, 17, 18, 19, 20, 21, 22, 23, 24, 25, 26, 27, 28, 29, 30, 31] (by decide +kernel) rfl rfl
theorem pm_83 {c0 c1 c2 c3 c4 c5 c6 c7 c8 c9 c10 c11 c12 c13 c14 c15 c16 c17 c18 c19 c20 c21 c22 c23 c24 c25 c26 c27 c28 c29 c30 c31 : Nat × va_E} : List.Perm ([c0, c1, c2, c3, c4, c5, c6, c7, c8, c9, c10, c11, c12, c13, c14, c15, c16, c17, c18, c19, c20, c21, c22, c23, c24, c25, c26, c27, c28, c29, c30, c31] : va_W) ([c29, c30, c0, c1, c2, c3, c4, c5, c6, c7, c8, c9, c10, c11, c12, c13, c14, c15, c31, c16, c17, c18, c19, c20, c21, c22, c23, c24, c25, c26, c27, c28] ++ []) := pick_perm 32 rfl [29, 30, 0, 1, 2, 3, 4, 5, 6, 7, 8, 9, 10, 11, 12, 13, 14, 15, 31, 16, 17, 18, 19, 20, 21, 22, 23, 24, 25, 26, 27, 28] [] (by decide +kernel) rfl rfl
theorem pm_84 {c0 c1 c2 c3 c4 c5 c6 c7 c8 c9 c10 c11 c12 c13 c14 c15 c16 c17 c18 c19 c20 c21 c22 c23 c24 c25 c26 c27 c28 c29 c30 c31 : Nat × va_E} : List.Perm ([c0, c1, c2, c3, c4, c5, c6, c7, c8, c9, c10, c11, c12, c13, c14, c15, c16, c17, c18, c19, c20, c21, c22, c23, c24, c25, c26, c27, c28, c29, c30, c31] : va_W) ([c15, c16, c22] ++ [c0, c1, c2, c3, c4, c5, c6, c7, c8, c9, c10, c11, c12, c13, c14, c17, c18, c19, c20, c21, c23, c24, c25, c26, c27, c28, c29, c30, c31]) := pick_perm 32 rfl [15, 16, 22] [0, 1, 2, 3, 4, 5, 6, 7, 8, 9, 10, 11, 12, 13, 14, 17, 18, 19, 20, 21, 23, 24, 25, 26, 27, 28, 29, 30, 31] (by decide +kernel) rfl rfl
theorem pm_85 {c0 c1 c2 c3 c4 c5 c6 c7 c8 c9 c10 c11 c12 c13 c14 c15 c16 c17 c18 c19 c20 c21 c22 c23 c24 c25 c26 c27 c28 c29 c30 c31 : Nat × va_E} : List.Perm ([c0, c1, c2, c3, c4, c5, c6, c7, c8, c9, c10, c11, c12, c13, c14, c15, c16, c17, c18, c19, c20, c21, c22, c23, c24, c25, c26, c27, c28, c29, c30, c31] : va_W) ([c26, c27, c28, c0, c1, c2, c3, c4, c5, c6, c7, c8, c9, c10, c11, c12, c13, c14, c29, c30, c15, c16, c17, c18, c19, c31, c20, c21, c22, c23, c24, c25] ++ []) := pick_perm 32 rfl [26, 27, 28, 0, 1, 2, 3, 4, 5, 6, 7, 8, 9, 10, 11, 12, 13, 14, 29, 30, 15, 16, 17, 18, 19, 31, 20, 21, 22, 23, 24, 25] [] (by decide +kernel) rfl rfl
theorem pm_86 {c0 c1 c2 c3 c4 c5 c6 c7 c8 c9 c10 c11 c12 c13 c14 c15 c16 c17 c18 c19 c20 c21 c22 c23 c24 c25 c26 c27 c28 c29 c30 c31 : Nat × va_E} : List.Perm ([c0, c1, c2, c3, c4, c5, c6, c7, c8, c9, c10, c11, c12, c13, c14, c15, c16, c17, c18, c19, c20, c21, c22, c23, c24, c25, c26, c27, c28, c29, c30, c31] : va_W) ([c0, c1, c2, c3, c4] ++ [c5, c6, c7, c8, c9, c10, c11, c12, c13, c14, c15, c16, c17, c18, c19, c20, c21, c22, c23, c24, c25, c26, c27, c28, c29, c30, c31]) := pick_perm 32 rfl [0, 1, 2, 3, 4] [5, 6, 7, 8, 9, 10, 11, 12, 13, 14, 15, 16, 17, 18, 19, 20, 21, 22, 23, 24, 25, 26, 27, 28, 29, 30, 31] (by decide +kernel) rfl rfl
theorem pm_87 {c0 c1 c2 c3 c4 c5 c6 c7 c8 c9 c10 c11 c12 c13 c14 c15 c16 c17 c18 c19 c20 c21 c22 c23 c24 c25 c26 c27 c28 c29 c30 c31 : Nat × va_E} : List.Perm ([c0, c1, c2, c3, c4, c5, c6, c7, c8, c9, c10, c11, c12, c13, c14, c15, c16, c17, c18, c19, c20, c21, c22, c23, c24, c25, c26, c27, c28, c29, c30, c31] : va_W) ([c13, c14, c20, c15, c16, c17, c18] ++ [c0, c1, c2, c3, c4, c5, c6, c7, c8, c9, c10, c11, c12, c19, c21, c22, c23, c24, c25, c26, c27, c28, c29, c30, c31]) := pick_perm 32 rfl [13, 14, 20, 15, 16, 17, 18] [0, 1, 2, 3, 4, 5, 6, 7, 8, 9, 10, 11, 12, 19, 21, 22, 23, 24, 25, 26, 27, 28, 29, 30, 31] (by decide +kernel) rfl rfl
theorem pm_88 {c0 c1 c2 c3 c4 c5 c6 c7 c8 c9 c10 c11 c12 c13 c14 c15 c16 c17 c18 c19 c20 c21 c22 c23 c24 c25 c26 c27 c28 c29 c30 c31 : Nat × va_E} : List.Perm ([c0, c1, c2, c3, c4, c5, c6, c7, c8, c9, c10, c11, c12, c13, c14, c15, c16, c17, c18, c19, c20, c21, c22, c23, c24, c25, c26, c27, c28, c29, c30, c31] : va_W) ([c20, c21, c22, c23, c24, c0, c1, c2, c3, c4, c5, c6, c7, c8, c9, c10, c11, c12, c25, c26, c28, c29, c30, c31, c13, c27, c14, c15, c16, c17, c18, c19] ++ []) := pick_perm 32 rfl [20, 21, 22, 23, 24, 0, 1, 2, 3, 4, 5, 6, 7, 8, 9, 10, 11, 12, 25, 26, 28, 29, 30, 31, 13, 27, 14, 15, 16, 17, 18, 19] [] (by decide +kernel) rfl rfl
theorem pm_89 {c0 c1 c2 c3 c4 c5 c6 c7 c8 c9 c10 c11 c12 c13 c14 c15 c16 c17 c18 c19 c20 c21 c22 c23 c24 c25 c26 c27 c28 c29 c30 c31 : Nat × va_E} : List.Perm ([c0, c1, c2, c3, c4, c5, c6, c7, c8, c9, c10, c11, c12, c13, c14, c15, c16, c17, c18, c19, c20, c21, c22, c23, c24, c25, c26, c27, c28, c29, c30, c31] : va_W) ([c0, c3, c4] ++ [c1, c2, c5, c6, c7, c8, c9, c10, c11, c12, c13, c14, c15, c16, c17, c18, c19, c20, c21, c22, c23, c24, c25, c26, c27, c28, c29, c30, c31]) := pick_perm 32 rfl [0, 3, 4] [1, 2, 5, 6, 7, 8, 9, 10, 11, 12, 13, 14, 15, 16, 17, 18, 19, 20, 21, 22, 23, 24, 25, 26, 27, 28, 29, 30, 31] (by decide +kernel) rfl rfl
theorem pm_90 {c0 c1 c2 c3 c4 c5 c6 c7 c8 c9 c10 c11 c12 c13 c14 c15 c16 c17 c18 c19 c20 c21 c22 c23 c24 c25 c26 c27 c28 c29 c30 c31 : Nat × va_E} : List.Perm ([c0, c1, c2, c3, c4, c5, c6, c7, c8, c9, c10, c11, c12, c13, c14, c15, c16, c17, c18, c19, c20, c21, c22, c23, c24, c25, c26, c27, c28, c29, c30, c31] : va_W) ([c15, c17, c18, c19, c20] ++ [c0, c1, c2, c3, c4, c5, c6, c7, c8, c9, c10, c11, c12, c13, c14, c16, c21, c22, c23, c24, c25, c26, c27, c28, c29, c30, c31]) := pick_perm 32 rfl [15, 17, 18, 19, 20] [0, 1, 2, 3, 4, 5, 6, 7, 8, 9, 10, 11, 12, 13, 14, 16, 21, 22, 23, 24, 25, 26, 27, 28, 29, 30, 31] (by decide +kernel) rfl rfl
theorem pm_91 {c0 c1 c2 c3 c4 c5 c6 c7 c8 c9 c10 c11 c12 c13 c14 c15 c16 c17 c18 c19 c20 c21 c22 c23 c24 c25 c26 c27 c28 c29 c30 c31 : Nat × va_E} : List.Perm ([c0, c1, c2, c3, c4, c5, c6, c7, c8, c9, c10, c11, c12, c13, c14, c15, c16, c17, c18, c19, c20, c21, c22, c23, c24, c25, c26, c27, c28, c29, c30, c31] : va_W) ([c24, c0, c1, c25, c26, c2, c3, c4, c5, c6, c7, c8, c9, c10, c11, c12, c13, c14, c27, c15, c28, c29, c30, c31, c16, c17, c18, c19, c20, c21, c22, c23] ++ []) := pick_perm 32 rfl [24, 0, 1, 25, 26, 2, 3, 4, 5, 6, 7, 8, 9, 10, 11, 12, 13, 14, 27, 15, 28, 29, 30, 31, 16, 17, 18, 19, 20, 21, 22, 23] [] (by decide +kernel) rfl rfl
theorem pm_92 {c0 c1 c2 c3 c4 c5 c6 c7 c8 c9 c10 c11 c12 c13 c14 c15 c16 c17 c18 c19 c20 c21 c22 c23 c24 c25 c26 c27 c28 c29 c30 c31 : Nat × va_E} : List.Perm ([c0, c1, c2, c3, c4, c5, c6, c7, c8, c9, c10, c11, c12, c13, c14, c15, c16, c17, c18, c19, c20, c21, c22, c23, c24, c25, c26, c27, c28, c29, c30, c31] : va_W) ([c0, c1, c2, c5, c6, c7, c8] ++ [c3, c4, c9, c10, c11, c12, c13, c14, c15, c16, c17, c18, c19, c20, c21, c22, c23, c24, c25, c26, c27, c28, c29, c30, c31]) := pick_perm 32 rfl [0, 1, 2, 5, 6, 7, 8] [3, 4, 9, 10, 11, 12, 13, 14, 15, 16, 17, 18, 19, 20, 21, 22, 23, 24, 25, 26, 27, 28, 29, 30, 31] (by decide +kernel) rfl rfl
theorem pm_93 {c0 c1 c2 c3 c4 c5 c6 c7 c8 c9 c10 c11 c12 c13 c14 c15 c16 c17 c18 c19 c20 c21 c22 c23 c24 c25 c26 c27 c28 c29 c30 c31 : Nat × va_E} : List.Perm ([c0, c1, c2, c3, c4, c5, c6, c7, c8, c9, c10, c11, c12, c13, c14, c15, c16, c17, c18, c19, c20, c21, c22, c23, c24, c25, c26, c27, c28, c29, c30, c31] : va_W) ([c11, c12, c18, c17] ++ [c0, c1, c2, c3, c4, c5, c6, c7, c8, c9, c10, c13, c14, c15, c16, c19, c20, c21, c22, c23, c24, c25, c26, c27, c28, c29, c30, c31]) := pick_perm 32 rfl [11, 12, 18, 17] [0, 1, 2, 3, 4, 5, 6, 7, 8, 9, 10, 13, 14, 15, 16, 19, 20, 21, 22, 23, 24, 25, 26, 27, 28, 29, 30, 31] (by decide +kernel) rfl rfl
theorem pm_94 {c0 c1 c2 c3 c4 c5 c6 c7 c8 c9 c10 c11 c12 c13 c14 c15 c16 c17 c18 c19 c20 c21 c22 c23 c24 c25 c26 c27 c28 c29 c30 c31 : Nat × va_E} : List.Perm ([c0, c1, c2, c3, c4, c5, c6, c7, c8, c9, c10, c11, c12, c13, c14, c15, c16, c17, c18, c19, c20, c21, c22, c23, c24, c25, c26, c27, c28, c29, c30, c31] : va_W) ([c21, c22, c23, c0, c1, c24, c25, c26, c27, c2, c3, c4, c5, c6, c7, c8, c9, c10, c28, c29, c11, c12, c13, c14, c31, c30, c15, c16, c17, c18, c19, c20] ++ []) := pick_perm 32 rfl [21, 22, 23, 0, 1, 24, 25, 26, 27, 2, 3, 4, 5, 6, 7, 8, 9, 10, 28, 29, 11, 12, 13, 14, 31, 30, 15, 16, 17, 18, 19, 20] [] (by decide +kernel) rfl rfl
theorem pm_95 {c0 c1 c2 c3 c4 c5 c6 c7 c8 c9 c10 c11 c12 c13 c14 c15 c16 c17 c18 c19 c20 c21 c22 c23 c24 c25 c26 c27 c28 c29 c30 c31 : Nat × va_E} : List.Perm ([c0, c1, c2, c3, c4, c5, c6, c7, c8, c9, c10, c11, c12, c13, c14, c15, c16, c17, c18, c19, c20, c21, c22, c23, c24, c25, c26, c27, c28, c29, c30, c31] : va_W) ([c0, c5, c6, c7, c8] ++ [c1, c2, c3, c4, c9, c10, c11, c12, c13, c14, c15, c16, c17, c18, c19, c20, c21, c22, c23, c24, c25, c26, c27, c28, c29, c30, c31]) := pick_perm 32 rfl [0, 5, 6, 7, 8] [1, 2, 3, 4, 9, 10, 11, 12, 13, 14, 15, 16, 17, 18, 19, 20, 21, 22, 23, 24, 25, 26, 27, 28, 29, 30, 31] (by decide +kernel) rfl rfl
theorem pm_96 {c0 c1 c2 c3 c4 c5 c6 c7 c8 c9 c10 c11 c12 c13 c14 c15 c16 c17 c18 c19 c20 c21 c22 c23 c24 c25 c26 c27 c28 c29 c30 c31 : Nat × va_E} : List.Perm ([c0, c1, c2, c3, c4, c5, c6, c7, c8, c9, c10, c11, c12, c13, c14, c15, c16, c17, c18, c19, c20, c21, c22, c23, c24, c25, c26, c27, c28, c29, c30, c31] : va_W) ([c13, c19] ++ [c0, c1, c2, c3, c4, c5, c6, c7, c8, c9, c10, c11, c12, c14, c15, c16, c17, c18, c20, c21, c22, c23, c24, c25, c26, c27, c28, c29, c30, c31]) := pick_perm 32 rfl [13, 19] [0, 1, 2, 3, 4, 5, 6, 7, 8, 9, 10, 11, 12, 14, 15, 16, 17, 18, 20, 21, 22, 23, 24, 25, 26, 27, 28, 29, 30, 31] (by decide +kernel) rfl rfl
theorem pm_97 {c0 c1 c2 c3 c4 c5 c6 c7 c8 c9 c10 c11 c12 c13 c14 c15 c16 c17 c18 c19 c20 c21 c22 c23 c24 c25 c26 c27 c28 c29 c30 c31 : Nat × va_E} : List.Perm ([c0, c1, c2, c3, c4, c5, c6, c7, c8, c9, c10, c11, c12, c13, c14, c15, c16, c17, c18, c19, c20, c21, c22, c23, c24, c25, c26, c27, c28, c29, c30, c31] : va_W) ([c25, c0, c1, c2, c3, c26, c27, c28, c29, c4, c5, c6, c7, c8, c9, c10, c11, c12, c30, c13, c14, c15, c16, c17, c31, c18, c19, c20, c21, c22, c23, c24] ++ []) := pick_perm 32 rfl [25, 0, 1, 2, 3, 26, 27, 28, 29, 4, 5, 6, 7, 8, 9, 10, 11, 12, 30, 13, 14, 15, 16, 17, 31, 18, 19, 20, 21, 22, 23, 24] [] (by decide +kernel) rfl rfl
theorem pm_98 {c0 c1 c2 c3 c4 c5 c6 c7 c8 c9 c10 c11 c12 c13 c14 c15 c16 c17 c18 c19 c20 c21 c22 c23 c24 c25 c26 c27 c28 c29 c30 c31 : Nat × va_E} : List.Perm ([c0, c1, c2, c3, c4, c5, c6, c7, c8, c9, c10, c11, c12, c13, c14, c15, c16, c17, c18, c19, c20, c21, c22, c23, c24, c25, c26, c27, c28, c29, c30, c31] : va_W) ([c0, c3, c4, c5, c6, c7, c8] ++ [c1, c2, c9, c10, c11, c12, c13, c14, c15, c16, c17, c18, c19, c20, c21, c22, c23, c24, c25, c26, c27, c28, c29, c30, c31]) := pick_perm 32 rfl [0, 3, 4, 5, 6, 7, 8] [1, 2, 9, 10, 11, 12, 13, 14, 15, 16, 17, 18, 19, 20, 21, 22, 23, 24, 25, 26, 27, 28, 29, 30, 31] (by decide +kernel) rfl rfl
theorem pm_99 {c0 c1 c2 c3 c4 c5 c6 c7 c8 c9 c10 c11 c12 c13 c14 c15 c16 c17 c18 c19 c20 c21 c22 c23 c24 c25 c26 c27 c28 c29 c30 c31 : Nat × va_E} : List.Perm ([c0, c1, c2, c3, c4, c5, c6, c7, c8, c9, c10, c11, c12, c13, c14, c15, c16, c17, c18, c19, c20, c21, c22, c23, c24, c25, c26, c27, c28, c29, c30, c31] : va_W) ([c11, c17, c13, c14, c15, c16] ++ [c0, c1, c2, c3, c4, c5, c6, c7, c8, c9, c10, c12, c18, c19, c20, c21, c22, c23, c24, c25, c26, c27, c28, c29, c30, c31]) := pick_perm 32 rfl [11, 17, 13, 14, 15, 16] [0, 1, 2, 3, 4, 5, 6, 7, 8, 9, 10, 12, 18, 19, 20, 21, 22, 23, 24, 25, 26, 27, 28, 29, 30, 31] (by decide +kernel) rfl rfl
theorem pm_100 {c0 c1 c2 c3 c4 c5 c6 c7 c8 c9 c10 c11 c12 c13 c14 c15 c16 c17 c18 c19 c20 c21 c22 c23 c24 c25 c26 c27 c28 c29 c30 c31 : Nat × va_E} : List.Perm ([c0, c1, c2, c3, c4, c5, c6, c7, c8, c9, c10, c11, c12, c13, c14, c15, c16, c17, c18, c19, c20, c21, c22, c23, c24, c25, c26, c27, c28, c29, c30, c31] : va_W) ([c19, c0, c1, c20, c21, c22, c23, c24, c25, c2, c3, c4, c5, c6, c7, c8, c9, c10, c26, c11, c28, c29, c30, c31, c27, c12, c13, c14, c15, c16, c17, c18] ++ []) := pick_perm 32 rfl [19, 0, 1, 20, 21, 22, 23, 24, 25, 2, 3, 4, 5, 6, 7, 8, 9, 10, 26, 11, 28, 29, 30, 31, 27, 12, 13, 14, 15, 16, 17, 18] [] (by decide +kernel) rfl rfl
theorem pm_101 {c0 c1 c2 c3 c4 c5 c6 c7 c8 c9 c10 c11 c12 c13 c14 c15 c16 c17 c18 c19 c20 c21 c22 c23 c24 c25 c26 c27 c28 c29 c30 c31 : Nat × va_E} : List.Perm ([c0, c1, c2, c3, c4, c5, c6, c7, c8, c9, c10, c11, c12, c13, c14, c15, c16, c17, c18, c19, c20, c21, c22, c23, c24, c25, c26, c27, c28, c29, c30, c31] : va_W) ([c0, c3, c4, c5, c6, c7, c8, c9, c10, c11] ++ [c1, c2, c12, c13, c14, c15, c16, c17, c18, c19, c20, c21, c22, c23, c24, c25, c26, c27, c28, c29, c30, c31]) := pick_perm 32 rfl [0, 3, 4, 5, 6, 7, 8, 9, 10, 11] [1, 2, 12, 13, 14, 15, 16, 17, 18, 19, 20, 21, 22, 23, 24, 25, 26, 27, 28, 29, 30, 31] (by decide +kernel) rfl rfl
theorem pm_102 {c0 c1 c2 c3 c4 c5 c6 c7 c8 c9 c10 c11 c12 c13 c14 c15 c16 c17 c18 c19 c20 c21 c22 c23 c24 c25 c26 c27 c28 c29 c30 c31 : Nat × va_E} : List.Perm ([c0, c1, c2, c3, c4, c5, c6, c7, c8, c9, c10, c11, c12, c13, c14, c15, c16, c17, c18, c19, c20, c21, c22, c23, c24, c25, c26, c27, c28, c29, c30, c31] : va_W) ([c8, c10, c11, c12, c13, c14, c16, c17, c18] ++ [c0, c1, c2, c3, c4, c5, c6, c7, c9, c15, c19, c20, c21, c22, c23, c24, c25, c26, c27, c28, c29, c30, c31]) := pick_perm 32 rfl [8, 10, 11, 12, 13, 14, 16, 17, 18] [0, 1, 2, 3, 4, 5, 6, 7, 9, 15, 19, 20, 21, 22, 23, 24, 25, 26, 27, 28, 29, 30, 31] (by decide +kernel) rfl rfl
theorem pm_103 {c0 c1 c2 c3 c4 c5 c6 c7 c8 c9 c10 c11 c12 c13 c14 c15 c16 c17 c18 c19 c20 c21 c22 c23 c24 c25 c26 c27 c28 c29 c30 c31 : Nat × va_E} : List.Perm ([c0, c1, c2, c3, c4, c5, c6, c7, c8, c9, c10, c11, c12, c13, c14, c15, c16, c17, c18, c19, c20, c21, c22, c23, c24, c25, c26, c27, c28, c29, c30, c31] : va_W) ([c13, c0, c1, c14, c15, c16, c17, c18, c19, c20, c21, c22, c2, c3, c4, c5, c6, c7, c23, c8, c24, c25, c26, c27, c28, c9, c29, c30, c31, c10, c11, c12] ++ []) := pick_perm 32 rfl [13, 0, 1, 14, 15, 16, 17, 18, 19, 20, 21, 22, 2, 3, 4, 5, 6, 7, 23, 8, 24, 25, 26, 27, 28, 9, 29, 30, 31, 10, 11, 12] [] (by decide +kernel) rfl rfl
theorem pm_104 {c0 c1 c2 c3 c4 c5 c6 c7 c8 c9 c10 c11 c12 c13 c14 c15 c16 c17 c18 c19 c20 c21 c22 c23 c24 c25 c26 c27 c28 c29 c30 c31 : Nat × va_E} : List.Perm ([c0, c1, c2, c3, c4, c5, c6, c7, c8, c9, c10, c11, c12, c13, c14, c15, c16, c17, c18, c19, c20, c21, c22, c23, c24, c25, c26, c27, c28, c29, c30, c31] : va_W) ([c0, c12, c13, c14, c15, c16, c17, c3, c4] ++ [c1, c2, c5, c6, c7, c8, c9, c10, c11, c18, c19, c20, c21, c22, c23, c24, c25, c26, c27, c28, c29, c30, c31]) := pick_perm 32 rfl [0, 12, 13, 14, 15, 16, 17, 3, 4] [1, 2, 5, 6, 7, 8, 9, 10, 11, 18, 19, 20, 21, 22, 23, 24, 25, 26, 27, 28, 29, 30, 31] (by decide +kernel) rfl rfl
theorem pm_105 {c0 c1 c2 c3 c4 c5 c6 c7 c8 c9 c10 c11 c12 c13 c14 c15 c16 c17 c18 c19 c20 c21 c22 c23 c24 c25 c26 c27 c28 c29 c30 c31 : Nat × va_E} : List.Perm ([c0, c1, c2, c3, c4, c5, c6, c7, c8, c9, c10, c11, c12, c13, c14, c15, c16, c17, c18, c19, c20, c21, c22, c23, c24, c25, c26, c27, c28, c29, c30, c31] : va_W) ([c9, c12, c14, c22, c11, c13, c20, c21] ++ [c0, c1, c2, c3, c4, c5, c6, c7, c8, c10, c15, c16, c17, c18, c19, c23, c24, c25, c26, c27, c28, c29, c30, c31]) := pick_perm 32 rfl [9, 12, 14, 22, 11, 13, 20, 21] [0, 1, 2, 3, 4, 5, 6, 7, 8, 10, 15, 16, 17, 18, 19, 23, 24, 25, 26, 27, 28, 29, 30, 31] (by decide +kernel) rfl rfl
theorem pm_106 {c0 c1 c2 c3 c4 c5 c6 c7 c8 c9 c10 c11 c12 c13 c14 c15 c16 c17 c18 c19 c20 c21 c22 c23 c24 c25 c26 c27 c28 c29 c30 c31 : Nat × va_E} : List.Perm ([c0, c1, c2, c3, c4, c5, c6, c7, c8, c9, c10, c11, c12, c13, c14, c15, c16, c17, c18, c19, c20, c21, c22, c23, c24, c25, c26, c27, c28, c29, c30, c31] : va_W) ([c15, c0, c1, c22, c23, c2, c3, c4, c5, c6, c7, c8, c16, c17, c18, c19, c20, c21, c24, c9, c28, c25, c29, c26, c10, c11, c12, c13, c14, c30, c31, c27] ++ []) := pick_perm 32 rfl [15, 0, 1, 22, 23, 2, 3, 4, 5, 6, 7, 8, 16, 17, 18, 19, 20, 21, 24, 9, 28, 25, 29, 26, 10, 11, 12, 13, 14, 30, 31, 27] [] (by decide +kernel) rfl rfl
theorem pm_107 {c0 c1 c2 c3 c4 c5 c6 c7 c8 c9 c10 c11 c12 c13 c14 c15 c16 c17 c18 c19 c20 c21 c22 c23 c24 c25 c26 c27 c28 c29 c30 c31 : Nat × va_E} : List.Perm ([c0, c1, c2, c3, c4, c5, c6, c7, c8, c9, c10, c11, c12, c13, c14, c15, c16, c17, c18, c19, c20, c21, c22, c23, c24, c25, c26, c27, c28, c29, c30, c31] : va_W) ([c0, c1, c3, c5, c6, c7, c8] ++ [c2, c4, c9, c10, c11, c12, c13, c14, c15, c16, c17, c18, c19, c20, c21, c22, c23, c24, c25, c26, c27, c28, c29, c30, c31]) := pick_perm 32 rfl [0, 1, 3, 5, 6, 7, 8] [2, 4, 9, 10, 11, 12, 13, 14, 15, 16, 17, 18, 19, 20, 21, 22, 23, 24, 25, 26, 27, 28, 29, 30, 31] (by decide +kernel) rfl rfl
theorem pm_108 {c0 c1 c2 c3 c4 c5 c6 c7 c8 c9 c10 c11 c12 c13 c14 c15 c16 c17 c18 c19 c20 c21 c22 c23 c24 c25 c26 c27 c28 c29 c30 c31 : Nat × va_E} : List.Perm ([c0, c1, c2, c3, c4, c5, c6, c7, c8, c9, c10, c11, c12, c13, c14, c15, c16, c17, c18, c19, c20, c21, c22, c23, c24, c25, c26, c27, c28, c29, c30, c31] : va_W) ([c11, c17] ++ [c0, c1, c2, c3, c4, c5, c6, c7, c8, c9, c10, c12, c13, c14, c15, c16, c18, c19, c20, c21, c22, c23, c24, c25, c26, c27, c28, c29, c30, c31]) := pick_perm 32 rfl [11, 17] [0, 1, 2, 3, 4, 5, 6, 7, 8, 9, 10, 12, 13, 14, 15, 16, 18, 19, 20, 21, 22, 23, 24, 25, 26, 27, 28, 29, 30, 31] (by decide +kernel) rfl rfl
theorem pm_109 {c0 c1 c2 c3 c4 c5 c6 c7 c8 c9 c10 c11 c12 c13 c14 c15 c16 c17 c18 c19 c20 c21 c22 c23 c24 c25 c26 c27 c28 c29 c30 c31 : Nat × va_E} : List.Perm ([c0, c1, c2, c3, c4, c5, c6, c7, c8, c9, c10, c11, c12, c13, c14, c15, c16, c17, c18, c19, c20, c21, c22, c23, c24, c25, c26, c27, c28, c29, c30, c31] : va_W) ([c23, c24, c0, c25, c1, c26, c27, c28, c29, c2, c3, c4, c5, c6, c7, c8, c9, c10, c30, c11, c12, c13, c14, c15, c31, c16, c17, c18, c19, c20, c21, c22] ++ []) := pick_perm 32 rfl [23, 24, 0, 25, 1, 26, 27, 28, 29, 2, 3, 4, 5, 6, 7, 8, 9, 10, 30, 11, 12, 13, 14, 15, 31, 16, 17, 18, 19, 20, 21, 22] [] (by decide +kernel) rfl rfl
theorem pm_110 {c0 c1 c2 c3 c4 c5 c6 c7 c8 c9 c10 c11 c12 c13 c14 c15 c16 c17 c18 c19 c20 c21 c22 c23 c24 c25 c26 c27 c28 c29 c30 c31 : Nat × va_E} : List.Perm ([c0, c1, c2, c3, c4, c5, c6, c7, c8, c9, c10, c11, c12, c13, c14, c15, c16, c17, c18, c19, c20, c21, c22, c23, c24, c25, c26, c27, c28, c29, c30, c31] : va_W) ([c0, c1, c2, c3, c4, c5, c6, c7, c8, c9, c10, c11, c12, c13, c14, c15, c16, c17] ++ [c18, c19, c20, c21, c22, c23, c24, c25, c26, c27, c28, c29, c30, c31]) := pick_perm 32 rfl [0, 1, 2, 3, 4, 5, 6, 7, 8, 9, 10, 11, 12, 13, 14, 15, 16, 17] [18, 19, 20, 21, 22, 23, 24, 25, 26, 27, 28, 29, 30, 31] (by decide +kernel) rfl rfl
theorem pm_111 {c0 c1 c2 c3 c4 c5 c6 c7 c8 c9 c10 c11 c12 c13 c14 c15 c16 c17 c18 c19 c20 c21 c22 c23 c24 c25 c26 c27 c28 c29 c30 c31 : Nat × va_E} : List.Perm ([c0, c1, c2, c3, c4, c5, c6, c7, c8, c9, c10, c11, c12, c13, c14, c15, c16, c17, c18, c19, c20, c21, c22, c23, c24, c25, c26, c27, c28, c29, c30, c31] : va_W) ([c0, c2, c3, c4, c5, c6, c8, c9, c10, c11, c12, c13, c1] ++ [c7, c14, c15, c16, c17, c18, c19, c20, c21, c22, c23, c24, c25, c26, c27, c28, c29, c30, c31]) := pick_perm 32 rfl [0, 2, 3, 4, 5, 6, 8, 9, 10, 11, 12, 13, 1] [7, 14, 15, 16, 17, 18, 19, 20, 21, 22, 23, 24, 25, 26, 27, 28, 29, 30, 31] (by decide +kernel) rfl rfl
theorem pm_112 {c0 c1 c2 c3 c4 c5 c6 c7 c8 c9 c10 c11 c12 c13 c14 c15 c16 c17 c18 c19 c20 c21 c22 c23 c24 c25 c26 c27 c28 c29 c30 c31 : Nat × va_E} : List.Perm ([c0, c1, c2, c3, c4, c5, c6, c7, c8, c9, c10, c11, c12, c13, c14, c15, c16, c17, c18, c19, c20, c21, c22, c23, c24, c25, c26, c27, c28, c29, c30, c31] : va_W) ([c1, c2, c3, c4, c5, c6, c7, c8, c9, c10, c11, c12, c13, c14, c15, c16, c17, c18, c19, c31, c20, c21, c22, c23, c24, c0, c25, c26, c27, c28, c29, c30] ++ []) := pick_perm 32 rfl [1, 2, 3, 4, 5, 6, 7, 8, 9, 10, 11, 12, 13, 14, 15, 16, 17, 18, 19, 31, 20, 21, 22, 23, 24, 0, 25, 26, 27, 28, 29, 30] [] (by decide +kernel) rfl rfl
theorem sw_15 (x : Int32) : x = 0 ∨ x = 1 ∨ x = 2 ∨ x = 3 ∨ x = 4 ∨ x = 5 ∨ x = 6 ∨ x = 7 ∨ x = 8 ∨ x = 9 ∨ x = 10 ∨ x = 11 ∨ x = 12 ∨ x = 13 ∨ x = 14 ∨ x = 15 ∨ (x.toInt < 0 ∨ 15 < x.toInt) := by
  simp only [← Int32.toInt_inj]
  have h0 : (0 : Int32).toInt = 0 := by decide
  have h1 : (1 : Int32).toInt = 1 := by decide
  have h2 : (2 : Int32).toInt = 2 := by decide
  have h3 : (3 : Int32).toInt = 3 := by decide
  have h4 : (4 : Int32).toInt = 4 := by decide
  have h5 : (5 : Int32).toInt = 5 := by decide
  have h6 : (6 : Int32).toInt = 6 := by decide
  have h7 : (7 : Int32).toInt = 7 := by decide
  have h8 : (8 : Int32).toInt = 8 := by decide
  have h9 : (9 : Int32).toInt = 9 := by decide
  have h10 : (10 : Int32).toInt = 10 := by decide
  have h11 : (11 : Int32).toInt = 11 := by decide
  have h12 : (12 : Int32).toInt = 12 := by decide
  have h13 : (13 : Int32).toInt = 13 := by decide
  have h14 : (14 : Int32).toInt = 14 := by decide
  have h15 : (15 : Int32).toInt = 15 := by decide
  omega
theorem lg_len {L i : Nat} (hL : L ≤ 2048) (hi : i ≤ 2048) : (nI L - 4 < nI i) ↔ L < i + 4 := by
  rcases Nat.lt_or_ge L 4 with h | h
  · refine ⟨fun _ => by omega, fun _ => ?_⟩
    have e1 : nI L - 4 < 0 := by
      rcases (show L = 0 ∨ L = 1 ∨ L = 2 ∨ L = 3 by omega) with rfl | rfl | rfl | rfl <;> decide
    have e2 : (0 : Int32) ≤ nI i := nI_pos' (by omega)
    simp only [Int32.lt_iff_toInt_lt, Int32.le_iff_toInt_le] at e1 e2 ⊢
    omega
  · have e : nI L - 4 = nI (L - 4) := pk_sub (a := L) (b := 4) h
    rw [e, nI_ltI (by omega) (by omega)]
    omega
theorem lt_z {p : Int32} {z z2 : Nat} {pf pf2 : Nat → Int32} (hz : z ≤ 16) (h : (letOK p z ∧ z2 = z + 1 ∧ pf2 = upd pf z p) ∨ (¬ letOK p z ∧ z2 = z ∧ pf2 = pf)) : z2 ≤ 16 := by
  rcases h with ⟨h1, rfl, -⟩ | ⟨-, rfl, -⟩
  · have := ltN (a := z) (b := 16) (by decide) (by omega) h1.2.2
    omega
  · exact hz
theorem lt_zm {p : Int32} {z z2 : Nat} {pf pf2 : Nat → Int32} (hz : z ≤ 16) (h : (¬ wi p 32 126 = 0 ∧ ¬ nI z = 16 ∧ z2 = z + 1 ∧ pf2 = upd pf z p) ∨ ((wi p 32 126 = 0 ∨ nI z = 16) ∧ z2 = z ∧ pf2 = pf)) : z2 ≤ 16 := by
  rcases h with ⟨-, h1, rfl, -⟩ | ⟨-, rfl, -⟩
  · have := lt16z hz h1
    omega
  · exact hz
theorem ru_inv {pf : Nat → Int32} {z r : Nat} {ρ : Nat → RT} {a : Int32} {z2 r2 : Nat} {ρ2 : Nat → RT} (hz : z ≤ 16) (hr : r ≤ 9) (hB : BI ρ r) (h : RuP pf z r ρ a z2 r2 ρ2) : z2 ≤ 16 ∧ r2 ≤ 9 ∧ BI ρ2 r2 := by
  rcases h with ⟨-, -, rfl, rfl, rfl⟩ | ⟨-, -, -, rfl, rfl, rfl⟩ | ⟨h1, h2, -, rfl, rfl, h3, h4⟩
  · exact ⟨hz, hr, hB⟩
  · exact ⟨hz, hr, hB⟩
  · exact ⟨Nat.zero_le _, h2, BI_add hB h1 h3 h4⟩
theorem dr_inv {p : Int32} {r : Nat} {ρ : Nat → RT} {a : Int32} {r2 : Nat} {ρ2 : Nat → RT} (hr : r ≤ 9) (hB : BI ρ r) (h : DrP p r ρ a r2 ρ2) : r2 ≤ 9 ∧ BI ρ2 r2 := by
  rcases h with ⟨-, -, rfl, rfl⟩ | ⟨k, hk, -, -, rfl, rfl⟩
  · exact ⟨hr, hB⟩
  · exact ⟨by omega, BI_drop hB hk⟩
theorem gr_z {pf : Nat → Int32} {z n v : Nat} {x1 x2 x3 : Nat → Int32} {a : Int32} {z2 n2 v2 : Nat} {y1 y2 y3 : Nat → Int32} (hz : z ≤ 16) (h : GrP pf z n v x1 x2 x3 a z2 n2 v2 y1 y2 y3) : z2 ≤ 16 := by
  rcases h with ⟨-, -, rfl, -⟩ | ⟨-, -, rfl, -⟩
  · exact hz
  · exact Nat.zero_le _
theorem be_fg2 {p : Int32} {n v n2 v2 : Nat} {g1 g2 g3 y1 y2 y3 : Nat → Int32} {s1 s3 a b : Int32} (hf : FgI n v) (h : (opn p = 0 ∧ n2 = n ∧ v2 = v ∧ y1 = g1 ∧ y2 = g2 ∧ y3 = g3 ∧ a = s1 ∧ b = s3) ∨ (¬ opn p = 0 ∧ n2 = 1 ∧ v2 = 2 ∧ y1 = upd g1 0 p ∧ y2 = upd g2 0 0 ∧ y3 = upd g3 0 1 ∧ a = 0 ∧ b = s3 + 1)) : FgI n2 v2 := by
  rcases h with ⟨-, rfl, rfl, -⟩ | ⟨-, rfl, rfl, -⟩
  · exact hf
  · exact ⟨by decide, by decide, Or.inr (by decide)⟩
theorem beg_eq (x : Int32) : (if opn x = 0 then (-1001 : Int32) else 1) = (if wi x 0 2 = 0 then -1001 else 1) := by rw [opn_wi]
def lawI (oS : Int32) (lS : Int32) (s1 : Int32) (s2 : Int32) (s3 : Int32) (z : Nat) (pf : Nat → Int32) (r9 : Nat) (rho : Nat → RT) (n9 : Nat) (v : Nat) (g1 : Nat → Int32) (g2 : Nat → Int32) (g3 : Nat → Int32) (sf : Nat → Int32) (sd : Nat → Int32) (ff : Nat → Int64) (gf : Nat → Int32) (zf : Nat → Int32) (kf : Nat → Int32) (cf : Nat → Int32) (zm : Nat) (rm : Nat) (nm : Nat) (vm : Nat) (k1 : Int32) (k2 : Int32) (k3 : Int32) (k4 : Int32) (k5 : Int32) (k6 : Int32) (k7 : Int32) (k8 : Int32) (k9 : Int32) (hv : Int64) (pm : Nat → Int32) (ro : Nat → Int32) (re : Nat → Int32) (rn : Nat → Int32) (rg : Nat → Int32) (ea : Nat → Int32) (ne : Nat → Int32) (fw : Nat → Int32) (nf : Nat → Int32) (na : Nat → Int32) (la : Nat → Int64) (fa : Nat → Int32) (cn : Nat → Int32) : Prop := (z ≤ 16) ∧ (r9 ≤ 9) ∧ (BI rho r9) ∧ (FgI n9 v) ∧ (z = zm) ∧ (pf = pm) ∧ (r9 = rm) ∧ (n9 = nm) ∧ (v = vm) ∧ (s1 = k1) ∧ (s2 = k2) ∧ (s3 = k3) ∧ (MRI ro re rn rg rm) ∧ (FWI fw) ∧ (SDn 4 na) ∧ (LR la) ∧ (RREL rho ro re rn rg r9) ∧ (FREL g1 g2 g3 ea n9 v) ∧ (RRQ rho r9) ∧ (¬ oS = 0 → OFin n9 v g1 g2 g3 rho r9 sf) ∧ (¬ k8 = 0 → MOF nm vm ea ro re rn rg rm fw)
def lawC (p : Program) (l : Launch) (e : Env) (s : State) (m : MethodId) (below : List Frame) (meth : Method) (c : Code) (b : Nat) (D : va_G) (cI cJ cZ cR : ClassId) (A : Nat → Prop) (h0 pg pc bk br fg f1 f2 f3 og o1 o2 lg l1 l2 l3 l4 l5 m0 m1 m2 m3 m4 m5 m6 m7 m8 m9 m10 m11 m12 m13 pc0 i : Nat) : Prop :=
  ∀ (oS : Int32) (lS : Int32) (s1 : Int32) (s2 : Int32) (s3 : Int32) (z : Nat) (pf : Nat → Int32) (r9 : Nat) (rho : Nat → RT) (n9 : Nat) (v : Nat) (g1 : Nat → Int32) (g2 : Nat → Int32) (g3 : Nat → Int32) (sf : Nat → Int32) (sd : Nat → Int32) (ff : Nat → Int64) (gf : Nat → Int32) (zf : Nat → Int32) (kf : Nat → Int32) (cf : Nat → Int32) (zm : Nat) (rm : Nat) (nm : Nat) (vm : Nat) (k1 : Int32) (k2 : Int32) (k3 : Int32) (k4 : Int32) (k5 : Int32) (k6 : Int32) (k7 : Int32) (k8 : Int32) (k9 : Int32) (hv : Int64) (pm : Nat → Int32) (ro : Nat → Int32) (re : Nat → Int32) (rn : Nat → Int32) (rg : Nat → Int32) (ea : Nat → Int32) (ne : Nat → Int32) (fw : Nat → Int32) (nf : Nat → Int32) (na : Nat → Int32) (la : Nat → Int64) (fa : Nat → Int32) (cn : Nat → Int32), lawI oS lS s1 s2 s3 z pf r9 rho n9 v g1 g2 g3 sf sd ff gf zf kf cf zm rm nm vm k1 k2 k3 k4 k5 k6 k7 k8 k9 hv pm ro re rn rg ea ne fw nf na la fa cn → ∀ (H : Heap) (locs : List Loc) (ls : Array Slot), va_P D vwCl ([kX6 h0 pg bk fg og lg oS lS s1 s2 s3, kX3 pg pc (nI z), kI cI pc 16 pf, kX5 bk br (nI r9), kQ cR br 9 (fun k => some ((rho k).1.1)), kX0 fg f1 f2 f3 (nI n9) (nI v), kI cI f1 12 g1, kI cI f2 12 g2, kI cI f3 12 g3, kX2 og o1 o2, kI cI o1 2400 sf, kI cI o2 4 sd, kX1 lg l1 l2 l3 l4 l5, kJ cJ l1 96 ff, kI cI l2 96 gf, kI cZ l3 96 zf, kI cI l4 96 kf, kI cI l5 6 cf, kX7 m0 (nI zm) m1 (nI rm) m2 m3 m4 m5 (nI nm) (nI vm) m6 k1 k2 k3 k4 m7 k5 k6 k7 k8 m8 m9 m10 k9 m11 m12 m13 hv, kI cI m1 16 pm, kI cI m2 9 ro, kI cI m3 9 re, kI cI m4 9 rn, kI cI m5 27 rg, kI cI m6 12 ea, kI cI m7 5 ne, kI cI m8 2400 fw, kI cI m9 32 nf, kI cI m10 4 na, kJ cJ m11 80 la, kI cI m12 48 fa, kI cI m13 3 cn] ++ RB cI rho) H → va_D A ([kX6 h0 pg bk fg og lg oS lS s1 s2 s3, kX3 pg pc (nI z), kI cI pc 16 pf, kX5 bk br (nI r9), kQ cR br 9 (fun k => some ((rho k).1.1)), kX0 fg f1 f2 f3 (nI n9) (nI v), kI cI f1 12 g1, kI cI f2 12 g2, kI cI f3 12 g3, kX2 og o1 o2, kI cI o1 2400 sf, kI cI o2 4 sd, kX1 lg l1 l2 l3 l4 l5, kJ cJ l1 96 ff, kI cI l2 96 gf, kI cZ l3 96 zf, kI cI l4 96 kf, kI cI l5 6 cf, kX7 m0 (nI zm) m1 (nI rm) m2 m3 m4 m5 (nI nm) (nI vm) m6 k1 k2 k3 k4 m7 k5 k6 k7 k8 m8 m9 m10 k9 m11 m12 m13 hv, kI cI m1 16 pm, kI cI m2 9 ro, kI cI m3 9 re, kI cI m4 9 rn, kI cI m5 27 rg, kI cI m6 12 ea, kI cI m7 5 ne, kI cI m8 2400 fw, kI cI m9 32 nf, kI cI m10 4 na, kJ cJ m11 80 la, kI cI m12 48 fa, kI cI m13 3 cn] ++ RB cI rho) → va_S A s.heap H locs → lv_has ls 4 [(0, .ref b), (1, .ref h0), (2, .ref m0), (3, .int (nI i))] → W p l e room_1 s m #[Value.ref b] below meth c H locs 104 6912 (lw_Z below #[Value.ref b] s) (F0 m pc0 ls [])
