theorem mV_X6_digest : Cond.instanceMethod yX6_digest ∈ gT ∧ Cond.selects RX6 yX6_digest yX6_digest ∈ gT ∧ Cond.initialized RX6 ∈ gT ∧ Cond.code yX6_digest cX6_digest 5 (some .long) ∈ gT := ⟨t_530, t_531, t_1, t_532⟩
theorem hV_X6_digest : yX6_digest.cls = RX6 ∧ yX6_digest.cls ≠ "java/lang/invoke/MethodHandle" ∧ yX6_digest.cls ≠ "java/lang/invoke/VarHandle" ∧ (parseMethodDescriptor yX6_digest.desc).map (fun d => d.parameters.length) = some 0 := by decide +kernel
theorem dX6_digest_0 : decode cX6_digest 0 = .ok (.ldc2_w 173, 3) := by decide +kernel
theorem dX6_digest_3 : decode cX6_digest 3 = .ok (.lstore_n 1, 1) := by decide +kernel
theorem dX6_digest_4 : decode cX6_digest 4 = .ok (.iconst 0, 1) := by decide +kernel
theorem dX6_digest_5 : decode cX6_digest 5 = .ok (.istore_n 3, 1) := by decide +kernel
theorem dX6_digest_6 : decode cX6_digest 6 = .ok (.iload_n 3, 1) := by decide +kernel
theorem dX6_digest_7 : decode cX6_digest 7 = .ok (.aload_n 0, 1) := by decide +kernel
theorem dX6_digest_8 : decode cX6_digest 8 = .ok (.getfield 19, 3) := by decide +kernel
theorem dX6_digest_11 : decode cX6_digest 11 = .ok (.getfield 80, 3) := by decide +kernel
theorem dX6_digest_14 : decode cX6_digest 14 = .ok (.if_icmp .ge 65, 3) := by decide +kernel
theorem dX6_digest_79 : decode cX6_digest 79 = .ok (.iconst 0, 1) := by decide +kernel
theorem dX6_digest_80 : decode cX6_digest 80 = .ok (.istore_n 3, 1) := by decide +kernel
theorem dX6_digest_81 : decode cX6_digest 81 = .ok (.iload_n 3, 1) := by decide +kernel
theorem dX6_digest_82 : decode cX6_digest 82 = .ok (.aload_n 0, 1) := by decide +kernel
theorem dX6_digest_83 : decode cX6_digest 83 = .ok (.getfield 28, 3) := by decide +kernel
theorem dX6_digest_86 : decode cX6_digest 86 = .ok (.getfield 102, 3) := by decide +kernel
theorem dX6_digest_89 : decode cX6_digest 89 = .ok (.if_icmp .ge 19, 3) := by decide +kernel
theorem dX6_digest_108 : decode cX6_digest 108 = .ok (.lload_n 1, 1) := by decide +kernel
theorem dX6_digest_109 : decode cX6_digest 109 = .ok (.aload_n 0, 1) := by decide +kernel
theorem dX6_digest_110 : decode cX6_digest 110 = .ok (.invokevirtual 185, 3) := by decide +kernel
theorem dX6_digest_113 : decode cX6_digest 113 = .ok (.invokestatic 178, 3) := by decide +kernel
theorem dX6_digest_116 : decode cX6_digest 116 = .ok (.lstore_n 1, 1) := by decide +kernel
theorem dX6_digest_117 : decode cX6_digest 117 = .ok (.iconst 0, 1) := by decide +kernel
theorem dX6_digest_118 : decode cX6_digest 118 = .ok (.istore_n 3, 1) := by decide +kernel
theorem dX6_digest_119 : decode cX6_digest 119 = .ok (.iload_n 3, 1) := by decide +kernel
theorem dX6_digest_120 : decode cX6_digest 120 = .ok (.iconst 3, 1) := by decide +kernel
theorem dX6_digest_121 : decode cX6_digest 121 = .ok (.if_icmp .ge 67, 3) := by decide +kernel
theorem dX6_digest_124 : decode cX6_digest 124 = .ok (.lload_n 1, 1) := by decide +kernel
theorem dX6_digest_125 : decode cX6_digest 125 = .ok (.aload_n 0, 1) := by decide +kernel
theorem dX6_digest_126 : decode cX6_digest 126 = .ok (.iload_n 3, 1) := by decide +kernel
theorem dX6_digest_127 : decode cX6_digest 127 = .ok (.invokevirtual 188, 3) := by decide +kernel
theorem dX6_digest_130 : decode cX6_digest 130 = .ok (.invokestatic 178, 3) := by decide +kernel
theorem dX6_digest_133 : decode cX6_digest 133 = .ok (.aload_n 0, 1) := by decide +kernel
theorem dX6_digest_134 : decode cX6_digest 134 = .ok (.iload_n 3, 1) := by decide +kernel
theorem dX6_digest_135 : decode cX6_digest 135 = .ok (.invokevirtual 191, 3) := by decide +kernel
theorem dX6_digest_138 : decode cX6_digest 138 = .ok (.invokestatic 178, 3) := by decide +kernel
theorem dX6_digest_141 : decode cX6_digest 141 = .ok (.lstore_n 1, 1) := by decide +kernel
theorem dX6_digest_142 : decode cX6_digest 142 = .ok (.iconst 0, 1) := by decide +kernel
theorem dX6_digest_143 : decode cX6_digest 143 = .ok (.istore 4, 2) := by decide +kernel
theorem dX6_digest_145 : decode cX6_digest 145 = .ok (.iload 4, 2) := by decide +kernel
theorem dX6_digest_147 : decode cX6_digest 147 = .ok (.bipush 16, 2) := by decide +kernel
theorem dX6_digest_149 : decode cX6_digest 149 = .ok (.if_icmp .ge 33, 3) := by decide +kernel
theorem dX6_digest_152 : decode cX6_digest 152 = .ok (.lload_n 1, 1) := by decide +kernel
theorem dX6_digest_153 : decode cX6_digest 153 = .ok (.aload_n 0, 1) := by decide +kernel
theorem dX6_digest_154 : decode cX6_digest 154 = .ok (.iload_n 3, 1) := by decide +kernel
theorem dX6_digest_155 : decode cX6_digest 155 = .ok (.iload 4, 2) := by decide +kernel
theorem dX6_digest_157 : decode cX6_digest 157 = .ok (.iconst 0, 1) := by decide +kernel
theorem dX6_digest_158 : decode cX6_digest 158 = .ok (.invokevirtual 194, 3) := by decide +kernel
theorem dX6_digest_161 : decode cX6_digest 161 = .ok (.invokestatic 178, 3) := by decide +kernel
theorem dX6_digest_164 : decode cX6_digest 164 = .ok (.aload_n 0, 1) := by decide +kernel
theorem dX6_digest_165 : decode cX6_digest 165 = .ok (.iload_n 3, 1) := by decide +kernel
theorem dX6_digest_166 : decode cX6_digest 166 = .ok (.iload 4, 2) := by decide +kernel
theorem dX6_digest_168 : decode cX6_digest 168 = .ok (.iconst 1, 1) := by decide +kernel
theorem dX6_digest_169 : decode cX6_digest 169 = .ok (.invokevirtual 194, 3) := by decide +kernel
theorem dX6_digest_172 : decode cX6_digest 172 = .ok (.invokestatic 178, 3) := by decide +kernel
theorem dX6_digest_175 : decode cX6_digest 175 = .ok (.lstore_n 1, 1) := by decide +kernel
theorem dX6_digest_176 : decode cX6_digest 176 = .ok (.iinc 4 1, 3) := by decide +kernel
theorem dX6_digest_179 : decode cX6_digest 179 = .ok (.goto (-34), 3) := by decide +kernel
theorem dX6_digest_182 : decode cX6_digest 182 = .ok (.iinc 3 1, 3) := by decide +kernel
theorem dX6_digest_185 : decode cX6_digest 185 = .ok (.goto (-66), 3) := by decide +kernel
theorem dX6_digest_188 : decode cX6_digest 188 = .ok (.iconst 0, 1) := by decide +kernel
theorem dX6_digest_189 : decode cX6_digest 189 = .ok (.istore_n 3, 1) := by decide +kernel
theorem dX6_digest_190 : decode cX6_digest 190 = .ok (.iload_n 3, 1) := by decide +kernel
theorem dX6_digest_191 : decode cX6_digest 191 = .ok (.aload_n 0, 1) := by decide +kernel
theorem dX6_digest_192 : decode cX6_digest 192 = .ok (.getfield 10, 3) := by decide +kernel
theorem dX6_digest_195 : decode cX6_digest 195 = .ok (.getfield 63, 3) := by decide +kernel
theorem dX6_digest_198 : decode cX6_digest 198 = .ok (.if_icmp .ge 23, 3) := by decide +kernel
theorem dX6_digest_221 : decode cX6_digest 221 = .ok (.iconst 0, 1) := by decide +kernel
theorem dX6_digest_222 : decode cX6_digest 222 = .ok (.istore_n 3, 1) := by decide +kernel
theorem dX6_digest_223 : decode cX6_digest 223 = .ok (.iload_n 3, 1) := by decide +kernel
theorem dX6_digest_224 : decode cX6_digest 224 = .ok (.bipush 8, 2) := by decide +kernel
theorem dX6_digest_226 : decode cX6_digest 226 = .ok (.if_icmp .ge 19, 3) := by decide +kernel
theorem dX6_digest_229 : decode cX6_digest 229 = .ok (.lload_n 1, 1) := by decide +kernel
theorem dX6_digest_230 : decode cX6_digest 230 = .ok (.aload_n 0, 1) := by decide +kernel
theorem dX6_digest_231 : decode cX6_digest 231 = .ok (.iload_n 3, 1) := by decide +kernel
theorem dX6_digest_232 : decode cX6_digest 232 = .ok (.invokevirtual 201, 3) := by decide +kernel
theorem dX6_digest_235 : decode cX6_digest 235 = .ok (.invokestatic 178, 3) := by decide +kernel
theorem dX6_digest_238 : decode cX6_digest 238 = .ok (.lstore_n 1, 1) := by decide +kernel
theorem dX6_digest_239 : decode cX6_digest 239 = .ok (.iinc 3 1, 3) := by decide +kernel
theorem dX6_digest_242 : decode cX6_digest 242 = .ok (.goto (-19), 3) := by decide +kernel
theorem dX6_digest_245 : decode cX6_digest 245 = .ok (.lload_n 1, 1) := by decide +kernel
theorem dX6_digest_246 : decode cX6_digest 246 = .ok (.lreturn, 1) := by decide +kernel
section
variable (l : Launch) (D : va_G) (cI cJ cZ cR : ClassId)
theorem c_kinds_g (sz : Nat) (h0 : Nat) (pg : Nat) (bk : Nat) (fg : Nat) (og : Nat) (lg : Nat) (br : Nat) (l1 : Nat) (l2 : Nat) (l3 : Nat) (l4 : Nat) (l5 : Nat) (a : Nat) (ff : Nat → Int64) (gf : Nat → Int32) (zf : Nat → Int32) (kf : Nat → Int32) (cf : Nat → Int32) (lsv : Int32) (ha : a < 3) (hL : LSt lsv ff gf) : CTi l D cI cJ cZ cR yX6_kinds cX6_kinds 4 (some .int) 4 89 0 0 sz [.ref h0, .int (nI a)] [(h0, .inr (6, [.ref pg, .ref bk, .ref fg, .ref og, .ref lg, .int 0, .int lsv, .int 0, .int 0, .int 0])), (lg, .inr (1, [.ref l1, .ref l2, .ref l3, .ref l4, .ref l5])), (l1, .inl (cJ, 96, .inr (.inl ff))), (l2, .inl (cI, 96, .inl gf)), (l3, .inl (cZ, 96, .inl zf)), (l4, .inl (cI, 96, .inl kf)), (l5, .inl (cI, 6, .inl cf)), (bk, .inr (5, [.ref br, .int 0]))] (fun (r : Int32) (u : (Nat → Int64) × (Nat → Int32) × (Nat → Int32) × (Nat → Int32) × (Nat → Int32)) => (r = 0) ∧ (Lz u.1 u.2.1)) (fun (u : (Nat → Int64) × (Nat → Int32) × (Nat → Int32) × (Nat → Int32) × (Nat → Int32)) => [(h0, .inr (6, [.ref pg, .ref bk, .ref fg, .ref og, .ref lg, .int 0, .int 1, .int 0, .int 0, .int 0])), (lg, .inr (1, [.ref l1, .ref l2, .ref l3, .ref l4, .ref l5])), (l1, .inl (cJ, 96, .inr (.inl u.1))), (l2, .inl (cI, 96, .inl u.2.1)), (l3, .inl (cZ, 96, .inl u.2.2.1)), (l4, .inl (cI, 96, .inl u.2.2.2.1)), (l5, .inl (cI, 6, .inl u.2.2.2.2)), (bk, .inr (5, [.ref br, .int 0]))]) := by
  rcases hL with rfl | ⟨rfl, h⟩
  · exact c_kinds_0 l D cI cJ cZ cR sz h0 pg bk fg og lg br l1 l2 l3 l4 l5 a ff gf zf kf cf ha
  · exact c_kinds_1 l D cI cJ cZ cR sz h0 pg bk fg og lg br l1 l2 l3 l4 l5 a ff gf zf kf cf ha h
set_option maxHeartbeats 4000000 in
set_option maxRecDepth 100000 in
theorem c_X6_digest (sz : Nat) (h0 : Nat) (pg : Nat) (bk : Nat) (fg : Nat) (og : Nat) (lg : Nat) (br : Nat) (l1 : Nat) (l2 : Nat) (l3 : Nat) (l4 : Nat) (l5 : Nat) (pc : Nat) (w1 : Nat) (w2 : Nat) (w3 : Nat) (ff : Nat → Int64) (gf : Nat → Int32) (zf : Nat → Int32) (kf : Nat → Int32) (cf : Nat → Int32)  : CTl l D cI cJ cZ cR yX6_digest cX6_digest 5 (some .long) 5 112 0 0 sz [.ref h0] [(h0, .inr (6, [.ref pg, .ref bk, .ref fg, .ref og, .ref lg, .int 0, .int 0, .int 0, .int 0, .int 0])), (lg, .inr (1, [.ref l1, .ref l2, .ref l3, .ref l4, .ref l5])), (l1, .inl (cJ, 96, .inr (.inl ff))), (l2, .inl (cI, 96, .inl gf)), (l3, .inl (cZ, 96, .inl zf)), (l4, .inl (cI, 96, .inl kf)), (l5, .inl (cI, 6, .inl cf)), (bk, .inr (5, [.ref br, .int 0])), (pg, .inr (3, [.ref pc, .int 0])), (fg, .inr (0, [.ref w1, .ref w2, .ref w3, .int 0, .int 0]))] (fun (r : Int64) (u : Unit) => (r = (dC (dO 3) 8))) (fun (u : Unit) => []) := by
  refine CTl.of (by decide) (Nat.le_of_ble_eq_true rfl) rfl ?_
  intro p e s m below meth c A Q ls hd hin hK hsz hP hD hA hS hl hret
  obtain ⟨hx, hb, hml, hown, hts⟩ := id hd
  have hK1 := hK.1
  have hown : s.vm.findClass RX6 = some m.cls := hown
  have hl : lv_has ls 5 [(0, .ref h0)] := hl
  refine lv_ldc2 hx hb hown (hts _ t_533) dX6_digest_0 ?_
  refine lv_lstore_n (lv' := [(1, .long 1709), (0, .ref h0)]) hx hb dX6_digest_3 rfl hl (by decide) rfl (fun ls hl => ?_)
  refine lv_iconst (v := 0) hx hb dX6_digest_4 (by decide) ?_
  refine lv_istore_n (lv' := [(3, .int 0), (1, .long 1709), (0, .ref h0)]) hx hb dX6_digest_5 rfl hl (by decide) rfl (fun ls hl => ?_)
  refine lv_iload_n hx hb dX6_digest_6 rfl (lv_at hl 0 rfl) ?_
  refine lv_aload_n hx hb dX6_digest_7 rfl (lv_at hl 2 rfl) ?_
  refine va_get (D := D) (ci := 6) (v := .ref bk) (C := RX6) (T := TX6) (N := 10) hx hb hts iT_X6 hown hK1 hP 0 rfl rfl 1 (by decide) (hts _ t_155) (fun _ h9 => h9) rfl dX6_digest_8 ?_
  refine va_get (D := D) (ci := 5) (v := .int 0) (C := RX5) (T := TX5) (N := 2) hx hb hts iT_X5 hown hK1 hP 7 rfl rfl 1 (by decide) (hts _ t_107) (fun _ h9 => h9) rfl dX6_digest_11 ?_
  refine lv_icmp_ge (tgt := 79) hx hb dX6_digest_14 (by decide) (fun c_1 => ?_) (fun c_1 => ?_)
  rotate_left
  · exact absurd c_1 (by decide)
  refine lv_iconst (v := 0) hx hb dX6_digest_79 (by decide) ?_
  refine lv_istore_n (lv' := [(3, .int 0), (1, .long 1709), (0, .ref h0)]) hx hb dX6_digest_80 rfl hl (by decide) rfl (fun ls hl => ?_)
  refine lv_iload_n hx hb dX6_digest_81 rfl (lv_at hl 0 rfl) ?_
  refine lv_aload_n hx hb dX6_digest_82 rfl (lv_at hl 2 rfl) ?_
  refine va_get (D := D) (ci := 6) (v := .ref fg) (C := RX6) (T := TX6) (N := 10) hx hb hts iT_X6 hown hK1 hP 0 rfl rfl 2 (by decide) (hts _ t_156) (fun _ h9 => h9) rfl dX6_digest_83 ?_
  refine va_get (D := D) (ci := 0) (v := .int 0) (C := RX0) (T := TX0) (N := 5) hx hb hts iT_X0 hown hK1 hP 9 rfl rfl 3 (by decide) (hts _ t_64) (fun _ h9 => h9) rfl dX6_digest_86 ?_
  refine lv_icmp_ge (tgt := 108) hx hb dX6_digest_89 (by decide) (fun c_2 => ?_) (fun c_2 => ?_)
  rotate_left
  · exact absurd c_2 (by decide)
  refine lv_lload_n hx hb dX6_digest_108 rfl (lv_at hl 1 rfl) ?_
  refine lv_aload_n hx hb dX6_digest_109 rfl (lv_at hl 2 rfl) ?_
  refine xc_i (wc := [(h0, .inr (6, [.ref pg, .ref bk, .ref fg, .ref og, .ref lg, .int 0, .int 0, .int 0, .int 0, .int 0])), (fg, .inr (0, [.ref w1, .ref w2, .ref w3, .int 0, .int 0]))]) (wr := [(lg, .inr (1, [.ref l1, .ref l2, .ref l3, .ref l4, .ref l5])), (l1, .inl (cJ, 96, .inr (.inl ff))), (l2, .inl (cI, 96, .inl gf)), (l3, .inl (cZ, 96, .inl zf)), (l4, .inl (cI, 96, .inl kf)), (l5, .inl (cI, 6, .inl cf)), (bk, .inr (5, [.ref br, .int 0])), (pg, .inr (3, [.ref pc, .int 0]))]) (xrV (n := 0) (As := []) (rest := [.long 1709]) (ci := 6) (q0 := 0) hd hK hP hD (c_X6_kind l D cI cJ cZ cR _ h0 pg bk fg og lg w1 w2 w3 0 ) (gV t_540 mV_X6_kind) hV_X6_kind ⟨(Nat.le_of_ble_eq_true rfl), (Nat.le_of_ble_eq_true rfl)⟩ rfl rfl [0, 9] rfl rfl rfl hl.1 rfl (Nat.le_of_ble_eq_true rfl) dX6_digest_110 ⟨(Nat.le_of_ble_eq_true rfl), (Nat.le_of_ble_eq_true rfl)⟩) hP hD hS hA [0, 9] [1, 2, 3, 4, 5, 6, 7, 8] rfl rfl rfl (by decide) (fun r_3 u_4 H locs hw_5 hP hD hS => ?_)
  have hw_6 : r_3 = (-1003) := hw_5
  subst hw_6
  have hP : va_P D vwCl [(lg, .inr (1, [.ref l1, .ref l2, .ref l3, .ref l4, .ref l5])), (l1, .inl (cJ, 96, .inr (.inl ff))), (l2, .inl (cI, 96, .inl gf)), (l3, .inl (cZ, 96, .inl zf)), (l4, .inl (cI, 96, .inl kf)), (l5, .inl (cI, 6, .inl cf)), (bk, .inr (5, [.ref br, .int 0])), (pg, .inr (3, [.ref pc, .int 0])), (h0, .inr (6, [.ref pg, .ref bk, .ref fg, .ref og, .ref lg, .int 0, .int 0, .int 0, .int 0, .int 0])), (fg, .inr (0, [.ref w1, .ref w2, .ref w3, .int 0, .int 0]))] H := hP
  have hD : va_D A [(lg, .inr (1, [.ref l1, .ref l2, .ref l3, .ref l4, .ref l5])), (l1, .inl (cJ, 96, .inr (.inl ff))), (l2, .inl (cI, 96, .inl gf)), (l3, .inl (cZ, 96, .inl zf)), (l4, .inl (cI, 96, .inl kf)), (l5, .inl (cI, 6, .inl cf)), (bk, .inr (5, [.ref br, .int 0])), (pg, .inr (3, [.ref pc, .int 0])), (h0, .inr (6, [.ref pg, .ref bk, .ref fg, .ref og, .ref lg, .int 0, .int 0, .int 0, .int 0, .int 0])), (fg, .inr (0, [.ref w1, .ref w2, .ref w3, .int 0, .int 0]))] := hD
  refine xc_l (wc := []) (wr := [(lg, .inr (1, [.ref l1, .ref l2, .ref l3, .ref l4, .ref l5])), (l1, .inl (cJ, 96, .inr (.inl ff))), (l2, .inl (cI, 96, .inl gf)), (l3, .inl (cZ, 96, .inl zf)), (l4, .inl (cI, 96, .inl kf)), (l5, .inl (cI, 6, .inl cf)), (bk, .inr (5, [.ref br, .int 0])), (pg, .inr (3, [.ref pc, .int 0])), (h0, .inr (6, [.ref pg, .ref bk, .ref fg, .ref og, .ref lg, .int 0, .int 0, .int 0, .int 0, .int 0])), (fg, .inr (0, [.ref w1, .ref w2, .ref w3, .int 0, .int 0]))]) (xrS (n := 2) (As := [.long 1709, .int (-1003)]) (rest := []) hd hK hP hD (c_X6_mix l D cI cJ cZ cR _ 1709 (-1003) ) (gS t_535 mS_X6_mix) hS_X6_mix ⟨(Nat.le_of_ble_eq_true rfl), (Nat.le_of_ble_eq_true rfl)⟩ [] rfl rfl rfl hl.1 rfl (Nat.le_of_ble_eq_true rfl) dX6_digest_113 ⟨(Nat.le_of_ble_eq_true rfl), (Nat.le_of_ble_eq_true rfl)⟩) hP hD hS hA [] [0, 1, 2, 3, 4, 5, 6, 7, 8, 9] rfl rfl rfl (by decide) (fun r_7 u_8 H locs hw_9 hP hD hS => ?_)
  have hw_10 : r_7 = (31 * 1709 + Int32.toInt64 (-1003)) := hw_9
  subst hw_10
  have hP : va_P D vwCl [(lg, .inr (1, [.ref l1, .ref l2, .ref l3, .ref l4, .ref l5])), (l1, .inl (cJ, 96, .inr (.inl ff))), (l2, .inl (cI, 96, .inl gf)), (l3, .inl (cZ, 96, .inl zf)), (l4, .inl (cI, 96, .inl kf)), (l5, .inl (cI, 6, .inl cf)), (bk, .inr (5, [.ref br, .int 0])), (pg, .inr (3, [.ref pc, .int 0])), (h0, .inr (6, [.ref pg, .ref bk, .ref fg, .ref og, .ref lg, .int 0, .int 0, .int 0, .int 0, .int 0])), (fg, .inr (0, [.ref w1, .ref w2, .ref w3, .int 0, .int 0]))] H := hP
  have hD : va_D A [(lg, .inr (1, [.ref l1, .ref l2, .ref l3, .ref l4, .ref l5])), (l1, .inl (cJ, 96, .inr (.inl ff))), (l2, .inl (cI, 96, .inl gf)), (l3, .inl (cZ, 96, .inl zf)), (l4, .inl (cI, 96, .inl kf)), (l5, .inl (cI, 6, .inl cf)), (bk, .inr (5, [.ref br, .int 0])), (pg, .inr (3, [.ref pc, .int 0])), (h0, .inr (6, [.ref pg, .ref bk, .ref fg, .ref og, .ref lg, .int 0, .int 0, .int 0, .int 0, .int 0])), (fg, .inr (0, [.ref w1, .ref w2, .ref w3, .int 0, .int 0]))] := hD
  refine lv_nml (show _ = (dO 0 : Int64) from by rw [show Int32.toInt64 (-1003) = -1003 from by decide +kernel]; rfl) ?_
  refine lv_lstore_n (lv' := [(1, .long (dO 0)), (3, .int 0), (0, .ref h0)]) hx hb dX6_digest_116 rfl hl (by decide) rfl (fun ls hl => ?_)
  refine lv_iconst (v := 0) hx hb dX6_digest_117 (by decide) ?_
  refine lv_istore_n (lv' := [(3, .int 0), (1, .long (dO 0)), (0, .ref h0)]) hx hb dX6_digest_118 rfl hl (by decide) rfl (fun ls hl => ?_)
  have LOOP_119 : ∀ (n : Nat) (i : Nat) (lsv : Int32) (ff : Nat → Int64) (gf : Nat → Int32) (zf : Nat → Int32) (kf : Nat → Int32) (cf : Nat → Int32), (i + n = 3) → (LSt lsv ff gf) → ∀ (H : Heap) (locs : List Loc) (ls : Array Slot), va_P D vwCl [(h0, .inr (6, [.ref pg, .ref bk, .ref fg, .ref og, .ref lg, .int 0, .int lsv, .int 0, .int 0, .int 0])), (lg, .inr (1, [.ref l1, .ref l2, .ref l3, .ref l4, .ref l5])), (l1, .inl (cJ, 96, .inr (.inl ff))), (l2, .inl (cI, 96, .inl gf)), (l3, .inl (cZ, 96, .inl zf)), (l4, .inl (cI, 96, .inl kf)), (l5, .inl (cI, 6, .inl cf)), (bk, .inr (5, [.ref br, .int 0])), (pg, .inr (3, [.ref pc, .int 0])), (fg, .inr (0, [.ref w1, .ref w2, .ref w3, .int 0, .int 0]))] H → va_D A [(h0, .inr (6, [.ref pg, .ref bk, .ref fg, .ref og, .ref lg, .int 0, .int lsv, .int 0, .int 0, .int 0])), (lg, .inr (1, [.ref l1, .ref l2, .ref l3, .ref l4, .ref l5])), (l1, .inl (cJ, 96, .inr (.inl ff))), (l2, .inl (cI, 96, .inl gf)), (l3, .inl (cZ, 96, .inl zf)), (l4, .inl (cI, 96, .inl kf)), (l5, .inl (cI, 6, .inl cf)), (bk, .inr (5, [.ref br, .int 0])), (pg, .inr (3, [.ref pc, .int 0])), (fg, .inr (0, [.ref w1, .ref w2, .ref w3, .int 0, .int 0]))] → va_S A s.heap H locs → lv_has ls 5 [(0, .ref h0), (1, .long (dO i)), (3, .int (nI i))] → W p l e (rM 5 0 0 112) s m ([.ref h0] : List Value).toArray below meth c H locs 0 0 Q (F0 m 119 ls []) := by
    intro n
    induction n with
    | zero =>
      intro i lsv ff gf zf kf cf hi hL H locs ls hP hD hS hl
      refine lv_iload_n hx hb dX6_digest_119 rfl (lv_at hl 2 rfl) ?_
      refine lv_iconst (v := 3) hx hb dX6_digest_120 (by decide) ?_
      refine lv_icmp_ge (tgt := 188) hx hb dX6_digest_121 (by decide) (fun c_11 => ?_) (fun c_11 => ?_)
      rotate_left
      · exact absurd (nI_le (a := 3) (b := i) (by omega) (by omega)) c_11
      refine lv_iconst (v := 0) hx hb dX6_digest_188 (by decide) ?_
      refine lv_istore_n (lv' := [(3, .int 0), (0, .ref h0), (1, .long (dO i))]) hx hb dX6_digest_189 rfl hl (by decide) rfl (fun ls hl => ?_)
      refine lv_iload_n hx hb dX6_digest_190 rfl (lv_at hl 0 rfl) ?_
      refine lv_aload_n hx hb dX6_digest_191 rfl (lv_at hl 1 rfl) ?_
      refine va_get (D := D) (ci := 6) (v := .ref pg) (C := RX6) (T := TX6) (N := 10) hx hb hts iT_X6 hown hK1 hP 0 rfl rfl 0 (by decide) (hts _ t_154) (fun _ h9 => h9) rfl dX6_digest_192 ?_
      refine va_get (D := D) (ci := 3) (v := .int 0) (C := RX3) (T := TX3) (N := 2) hx hb hts iT_X3 hown hK1 hP 8 rfl rfl 1 (by decide) (hts _ t_29) (fun _ h9 => h9) rfl dX6_digest_195 ?_
      refine lv_icmp_ge (tgt := 221) hx hb dX6_digest_198 (by decide) (fun c_12 => ?_) (fun c_12 => ?_)
      rotate_left
      · exact absurd c_12 (by decide)
      refine lv_iconst (v := 0) hx hb dX6_digest_221 (by decide) ?_
      refine lv_istore_n (lv' := [(3, .int 0), (0, .ref h0), (1, .long (dO i))]) hx hb dX6_digest_222 rfl hl (by decide) rfl (fun ls hl => ?_)
      have LOOP_223 : ∀ (n : Nat) (j : Nat), (j + n = 8) → ∀ (H : Heap) (locs : List Loc) (ls : Array Slot), va_P D vwCl [(h0, .inr (6, [.ref pg, .ref bk, .ref fg, .ref og, .ref lg, .int 0, .int lsv, .int 0, .int 0, .int 0])), (lg, .inr (1, [.ref l1, .ref l2, .ref l3, .ref l4, .ref l5])), (l1, .inl (cJ, 96, .inr (.inl ff))), (l2, .inl (cI, 96, .inl gf)), (l3, .inl (cZ, 96, .inl zf)), (l4, .inl (cI, 96, .inl kf)), (l5, .inl (cI, 6, .inl cf)), (bk, .inr (5, [.ref br, .int 0])), (pg, .inr (3, [.ref pc, .int 0])), (fg, .inr (0, [.ref w1, .ref w2, .ref w3, .int 0, .int 0]))] H → va_D A [(h0, .inr (6, [.ref pg, .ref bk, .ref fg, .ref og, .ref lg, .int 0, .int lsv, .int 0, .int 0, .int 0])), (lg, .inr (1, [.ref l1, .ref l2, .ref l3, .ref l4, .ref l5])), (l1, .inl (cJ, 96, .inr (.inl ff))), (l2, .inl (cI, 96, .inl gf)), (l3, .inl (cZ, 96, .inl zf)), (l4, .inl (cI, 96, .inl kf)), (l5, .inl (cI, 6, .inl cf)), (bk, .inr (5, [.ref br, .int 0])), (pg, .inr (3, [.ref pc, .int 0])), (fg, .inr (0, [.ref w1, .ref w2, .ref w3, .int 0, .int 0]))] → va_S A s.heap H locs → lv_has ls 5 [(0, .ref h0), (1, .long (dC (dO i) j)), (3, .int (nI j))] → W p l e (rM 5 0 0 112) s m ([.ref h0] : List Value).toArray below meth c H locs 0 0 Q (F0 m 223 ls []) := by
        intro n
        induction n with
        | zero =>
          intro j hj H locs ls hP hD hS hl
          refine lv_iload_n hx hb dX6_digest_223 rfl (lv_at hl 2 rfl) ?_
          refine lv_bipush (v := 8) hx hb dX6_digest_224 (by decide) ?_
          refine lv_icmp_ge (tgt := 245) hx hb dX6_digest_226 (by decide) (fun c_13 => ?_) (fun c_13 => ?_)
          rotate_left
          · exact absurd (nI_le (a := 8) (b := j) (by omega) (by omega)) c_13
          refine lv_lload_n hx hb dX6_digest_245 rfl (lv_at hl 1 rfl) ?_
          exact hret _ _ _ _ _ _ (dC (dO i) j) () dX6_digest_246 hS (Nat.le_of_ble_eq_true rfl) (Nat.le_of_ble_eq_true rfl) (by rw [show j = 8 by omega, show i = 3 by omega]) (hP.sub [] rfl) (hD.sub [] rfl rfl)
        | succ n ih_223 =>
          intro j hj H locs ls hP hD hS hl
          refine lv_iload_n hx hb dX6_digest_223 rfl (lv_at hl 2 rfl) ?_
          refine lv_bipush (v := 8) hx hb dX6_digest_224 (by decide) ?_
          refine lv_icmp_ge (tgt := 245) hx hb dX6_digest_226 (by decide) (fun c_14 => ?_) (fun c_14 => ?_)
          · exact absurd c_14 (nI_ge (a := j) (b := 8) (by omega) (by omega))
          refine lv_lload_n hx hb dX6_digest_229 rfl (lv_at hl 1 rfl) ?_
          refine lv_aload_n hx hb dX6_digest_230 rfl (lv_at hl 0 rfl) ?_
          refine lv_iload_n hx hb dX6_digest_231 rfl (lv_at hl 2 rfl) ?_
          refine xc_i (wc := [(h0, .inr (6, [.ref pg, .ref bk, .ref fg, .ref og, .ref lg, .int 0, .int lsv, .int 0, .int 0, .int 0])), (pg, .inr (3, [.ref pc, .int 0])), (bk, .inr (5, [.ref br, .int 0])), (fg, .inr (0, [.ref w1, .ref w2, .ref w3, .int 0, .int 0]))]) (wr := [(lg, .inr (1, [.ref l1, .ref l2, .ref l3, .ref l4, .ref l5])), (l1, .inl (cJ, 96, .inr (.inl ff))), (l2, .inl (cI, 96, .inl gf)), (l3, .inl (cZ, 96, .inl zf)), (l4, .inl (cI, 96, .inl kf)), (l5, .inl (cI, 6, .inl cf))]) (xrV (n := 1) (As := [.int (nI j)]) (rest := [.long (dC (dO i) j)]) (ci := 6) (q0 := 0) hd hK hP hD (c_X6_count l D cI cJ cZ cR _ h0 pg bk fg og lg w1 w2 w3 pc br lsv (nI j) ) (gV t_544 mV_X6_count) hV_X6_count ⟨(Nat.le_of_ble_eq_true rfl), (Nat.le_of_ble_eq_true rfl)⟩ rfl rfl [0, 8, 7, 9] rfl rfl rfl hl.1 rfl (Nat.le_of_ble_eq_true rfl) dX6_digest_232 ⟨(Nat.le_of_ble_eq_true rfl), (Nat.le_of_ble_eq_true rfl)⟩) hP hD hS hA [0, 8, 7, 9] [1, 2, 3, 4, 5, 6] rfl rfl rfl (by decide) (fun r_15 u_16 H locs hw_17 hP hD hS => ?_)
          have hw_18 : r_15 = (cnt0 (nI j)) := hw_17
          subst hw_18
          have hP : va_P D vwCl [(lg, .inr (1, [.ref l1, .ref l2, .ref l3, .ref l4, .ref l5])), (l1, .inl (cJ, 96, .inr (.inl ff))), (l2, .inl (cI, 96, .inl gf)), (l3, .inl (cZ, 96, .inl zf)), (l4, .inl (cI, 96, .inl kf)), (l5, .inl (cI, 6, .inl cf)), (h0, .inr (6, [.ref pg, .ref bk, .ref fg, .ref og, .ref lg, .int 0, .int lsv, .int 0, .int 0, .int 0])), (pg, .inr (3, [.ref pc, .int 0])), (bk, .inr (5, [.ref br, .int 0])), (fg, .inr (0, [.ref w1, .ref w2, .ref w3, .int 0, .int 0]))] H := hP
          have hD : va_D A [(lg, .inr (1, [.ref l1, .ref l2, .ref l3, .ref l4, .ref l5])), (l1, .inl (cJ, 96, .inr (.inl ff))), (l2, .inl (cI, 96, .inl gf)), (l3, .inl (cZ, 96, .inl zf)), (l4, .inl (cI, 96, .inl kf)), (l5, .inl (cI, 6, .inl cf)), (h0, .inr (6, [.ref pg, .ref bk, .ref fg, .ref og, .ref lg, .int 0, .int lsv, .int 0, .int 0, .int 0])), (pg, .inr (3, [.ref pc, .int 0])), (bk, .inr (5, [.ref br, .int 0])), (fg, .inr (0, [.ref w1, .ref w2, .ref w3, .int 0, .int 0]))] := hD
          refine lv_nmi (show _ = (0 : Int32) from cnt0_ok (by omega)) ?_
          refine xc_l (wc := []) (wr := [(lg, .inr (1, [.ref l1, .ref l2, .ref l3, .ref l4, .ref l5])), (l1, .inl (cJ, 96, .inr (.inl ff))), (l2, .inl (cI, 96, .inl gf)), (l3, .inl (cZ, 96, .inl zf)), (l4, .inl (cI, 96, .inl kf)), (l5, .inl (cI, 6, .inl cf)), (h0, .inr (6, [.ref pg, .ref bk, .ref fg, .ref og, .ref lg, .int 0, .int lsv, .int 0, .int 0, .int 0])), (pg, .inr (3, [.ref pc, .int 0])), (bk, .inr (5, [.ref br, .int 0])), (fg, .inr (0, [.ref w1, .ref w2, .ref w3, .int 0, .int 0]))]) (xrS (n := 2) (As := [.long (dC (dO i) j), .int 0]) (rest := []) hd hK hP hD (c_X6_mix l D cI cJ cZ cR _ (dC (dO i) j) 0 ) (gS t_535 mS_X6_mix) hS_X6_mix ⟨(Nat.le_of_ble_eq_true rfl), (Nat.le_of_ble_eq_true rfl)⟩ [] rfl rfl rfl hl.1 rfl (Nat.le_of_ble_eq_true rfl) dX6_digest_235 ⟨(Nat.le_of_ble_eq_true rfl), (Nat.le_of_ble_eq_true rfl)⟩) hP hD hS hA [] [0, 1, 2, 3, 4, 5, 6, 7, 8, 9] rfl rfl rfl (by decide) (fun r_19 u_20 H locs hw_21 hP hD hS => ?_)
          have hw_22 : r_19 = (31 * (dC (dO i) j) + Int32.toInt64 0) := hw_21
          subst hw_22
          have hP : va_P D vwCl [(lg, .inr (1, [.ref l1, .ref l2, .ref l3, .ref l4, .ref l5])), (l1, .inl (cJ, 96, .inr (.inl ff))), (l2, .inl (cI, 96, .inl gf)), (l3, .inl (cZ, 96, .inl zf)), (l4, .inl (cI, 96, .inl kf)), (l5, .inl (cI, 6, .inl cf)), (h0, .inr (6, [.ref pg, .ref bk, .ref fg, .ref og, .ref lg, .int 0, .int lsv, .int 0, .int 0, .int 0])), (pg, .inr (3, [.ref pc, .int 0])), (bk, .inr (5, [.ref br, .int 0])), (fg, .inr (0, [.ref w1, .ref w2, .ref w3, .int 0, .int 0]))] H := hP
          have hD : va_D A [(lg, .inr (1, [.ref l1, .ref l2, .ref l3, .ref l4, .ref l5])), (l1, .inl (cJ, 96, .inr (.inl ff))), (l2, .inl (cI, 96, .inl gf)), (l3, .inl (cZ, 96, .inl zf)), (l4, .inl (cI, 96, .inl kf)), (l5, .inl (cI, 6, .inl cf)), (h0, .inr (6, [.ref pg, .ref bk, .ref fg, .ref og, .ref lg, .int 0, .int lsv, .int 0, .int 0, .int 0])), (pg, .inr (3, [.ref pc, .int 0])), (bk, .inr (5, [.ref br, .int 0])), (fg, .inr (0, [.ref w1, .ref w2, .ref w3, .int 0, .int 0]))] := hD
          refine lv_nml (show _ = (31 * dC (dO i) j + 0 : Int64) from by rw [show Int32.toInt64 (0) = 0 from by decide +kernel]) ?_
          refine lv_lstore_n (lv' := [(1, .long (31 * dC (dO i) j + 0)), (0, .ref h0), (3, .int (nI j))]) hx hb dX6_digest_238 rfl hl (by decide) rfl (fun ls hl => ?_)
          refine lv_iinc (v := nI (j + 1)) (lv' := [(3, .int (nI (j + 1))), (1, .long (31 * dC (dO i) j + 0)), (0, .ref h0)]) hx hb dX6_digest_239 hl (k := 2) rfl (nI_1 j) (by decide) rfl (fun ls hl => ?_)
          refine lv_goto (tgt := 223) hx hb dX6_digest_242 (by decide) ?_
          exact ih_223 (j + 1) (by omega) _ _ _ (hP.sub [6, 0, 1, 2, 3, 4, 5, 8, 7, 9] rfl) (hD.sub [6, 0, 1, 2, 3, 4, 5, 8, 7, 9] rfl rfl) hS (lv_sub hl [2, 1, 0] rfl)
      exact LOOP_223 8 0 (by omega) _ _ _ (hP.sub [0, 1, 2, 3, 4, 5, 6, 7, 8, 9] rfl) (hD.sub [0, 1, 2, 3, 4, 5, 6, 7, 8, 9] rfl rfl) hS (lv_sub hl [1, 2, 0] rfl)
    | succ n ih_119 =>
      intro i lsv ff gf zf kf cf hi hL H locs ls hP hD hS hl
      refine lv_iload_n hx hb dX6_digest_119 rfl (lv_at hl 2 rfl) ?_
      refine lv_iconst (v := 3) hx hb dX6_digest_120 (by decide) ?_
      refine lv_icmp_ge (tgt := 188) hx hb dX6_digest_121 (by decide) (fun c_23 => ?_) (fun c_23 => ?_)
      · exact absurd c_23 (nI_ge (a := i) (b := 3) (by omega) (by omega))
      refine lv_lload_n hx hb dX6_digest_124 rfl (lv_at hl 1 rfl) ?_
      refine lv_aload_n hx hb dX6_digest_125 rfl (lv_at hl 0 rfl) ?_
      refine lv_iload_n hx hb dX6_digest_126 rfl (lv_at hl 2 rfl) ?_
      refine xc_i (wc := [(h0, .inr (6, [.ref pg, .ref bk, .ref fg, .ref og, .ref lg, .int 0, .int lsv, .int 0, .int 0, .int 0])), (fg, .inr (0, [.ref w1, .ref w2, .ref w3, .int 0, .int 0]))]) (wr := [(lg, .inr (1, [.ref l1, .ref l2, .ref l3, .ref l4, .ref l5])), (l1, .inl (cJ, 96, .inr (.inl ff))), (l2, .inl (cI, 96, .inl gf)), (l3, .inl (cZ, 96, .inl zf)), (l4, .inl (cI, 96, .inl kf)), (l5, .inl (cI, 6, .inl cf)), (bk, .inr (5, [.ref br, .int 0])), (pg, .inr (3, [.ref pc, .int 0]))]) (xrV (n := 1) (As := [.int (nI i)]) (rest := [.long (dO i)]) (ci := 6) (q0 := 0) hd hK hP hD (c_X6_fewest l D cI cJ cZ cR _ h0 pg bk fg og lg w1 w2 w3 lsv (nI i) ) (gV t_541 mV_X6_fewest) hV_X6_fewest ⟨(Nat.le_of_ble_eq_true rfl), (Nat.le_of_ble_eq_true rfl)⟩ rfl rfl [0, 9] rfl rfl rfl hl.1 rfl (Nat.le_of_ble_eq_true rfl) dX6_digest_127 ⟨(Nat.le_of_ble_eq_true rfl), (Nat.le_of_ble_eq_true rfl)⟩) hP hD hS hA [0, 9] [1, 2, 3, 4, 5, 6, 7, 8] rfl rfl rfl (by decide) (fun r_24 u_25 H locs hw_26 hP hD hS => ?_)
      have hw_27 : r_24 = (if (nI i) < 0 then -1001 else if 3 ≤ (nI i) then -1001 else -1003) := hw_26
      subst hw_27
      have hP : va_P D vwCl [(lg, .inr (1, [.ref l1, .ref l2, .ref l3, .ref l4, .ref l5])), (l1, .inl (cJ, 96, .inr (.inl ff))), (l2, .inl (cI, 96, .inl gf)), (l3, .inl (cZ, 96, .inl zf)), (l4, .inl (cI, 96, .inl kf)), (l5, .inl (cI, 6, .inl cf)), (bk, .inr (5, [.ref br, .int 0])), (pg, .inr (3, [.ref pc, .int 0])), (h0, .inr (6, [.ref pg, .ref bk, .ref fg, .ref og, .ref lg, .int 0, .int lsv, .int 0, .int 0, .int 0])), (fg, .inr (0, [.ref w1, .ref w2, .ref w3, .int 0, .int 0]))] H := hP
      have hD : va_D A [(lg, .inr (1, [.ref l1, .ref l2, .ref l3, .ref l4, .ref l5])), (l1, .inl (cJ, 96, .inr (.inl ff))), (l2, .inl (cI, 96, .inl gf)), (l3, .inl (cZ, 96, .inl zf)), (l4, .inl (cI, 96, .inl kf)), (l5, .inl (cI, 6, .inl cf)), (bk, .inr (5, [.ref br, .int 0])), (pg, .inr (3, [.ref pc, .int 0])), (h0, .inr (6, [.ref pg, .ref bk, .ref fg, .ref og, .ref lg, .int 0, .int lsv, .int 0, .int 0, .int 0])), (fg, .inr (0, [.ref w1, .ref w2, .ref w3, .int 0, .int 0]))] := hD
      refine lv_nmi (show _ = (-1003 : Int32) from few_ok (by omega)) ?_
      refine xc_l (wc := []) (wr := [(lg, .inr (1, [.ref l1, .ref l2, .ref l3, .ref l4, .ref l5])), (l1, .inl (cJ, 96, .inr (.inl ff))), (l2, .inl (cI, 96, .inl gf)), (l3, .inl (cZ, 96, .inl zf)), (l4, .inl (cI, 96, .inl kf)), (l5, .inl (cI, 6, .inl cf)), (bk, .inr (5, [.ref br, .int 0])), (pg, .inr (3, [.ref pc, .int 0])), (h0, .inr (6, [.ref pg, .ref bk, .ref fg, .ref og, .ref lg, .int 0, .int lsv, .int 0, .int 0, .int 0])), (fg, .inr (0, [.ref w1, .ref w2, .ref w3, .int 0, .int 0]))]) (xrS (n := 2) (As := [.long (dO i), .int (-1003)]) (rest := []) hd hK hP hD (c_X6_mix l D cI cJ cZ cR _ (dO i) (-1003) ) (gS t_535 mS_X6_mix) hS_X6_mix ⟨(Nat.le_of_ble_eq_true rfl), (Nat.le_of_ble_eq_true rfl)⟩ [] rfl rfl rfl hl.1 rfl (Nat.le_of_ble_eq_true rfl) dX6_digest_130 ⟨(Nat.le_of_ble_eq_true rfl), (Nat.le_of_ble_eq_true rfl)⟩) hP hD hS hA [] [0, 1, 2, 3, 4, 5, 6, 7, 8, 9] rfl rfl rfl (by decide) (fun r_28 u_29 H locs hw_30 hP hD hS => ?_)
      have hw_31 : r_28 = (31 * (dO i) + Int32.toInt64 (-1003)) := hw_30
      subst hw_31
      have hP : va_P D vwCl [(lg, .inr (1, [.ref l1, .ref l2, .ref l3, .ref l4, .ref l5])), (l1, .inl (cJ, 96, .inr (.inl ff))), (l2, .inl (cI, 96, .inl gf)), (l3, .inl (cZ, 96, .inl zf)), (l4, .inl (cI, 96, .inl kf)), (l5, .inl (cI, 6, .inl cf)), (bk, .inr (5, [.ref br, .int 0])), (pg, .inr (3, [.ref pc, .int 0])), (h0, .inr (6, [.ref pg, .ref bk, .ref fg, .ref og, .ref lg, .int 0, .int lsv, .int 0, .int 0, .int 0])), (fg, .inr (0, [.ref w1, .ref w2, .ref w3, .int 0, .int 0]))] H := hP
      have hD : va_D A [(lg, .inr (1, [.ref l1, .ref l2, .ref l3, .ref l4, .ref l5])), (l1, .inl (cJ, 96, .inr (.inl ff))), (l2, .inl (cI, 96, .inl gf)), (l3, .inl (cZ, 96, .inl zf)), (l4, .inl (cI, 96, .inl kf)), (l5, .inl (cI, 6, .inl cf)), (bk, .inr (5, [.ref br, .int 0])), (pg, .inr (3, [.ref pc, .int 0])), (h0, .inr (6, [.ref pg, .ref bk, .ref fg, .ref og, .ref lg, .int 0, .int lsv, .int 0, .int 0, .int 0])), (fg, .inr (0, [.ref w1, .ref w2, .ref w3, .int 0, .int 0]))] := hD
      refine lv_nml (show _ = (31 * dO i + (-1003) : Int64) from by rw [show Int32.toInt64 (-1003) = -1003 from by decide +kernel]) ?_
      refine lv_aload_n hx hb dX6_digest_133 rfl (lv_at hl 0 rfl) ?_
      refine lv_iload_n hx hb dX6_digest_134 rfl (lv_at hl 2 rfl) ?_
      refine xc_i (wc := [(h0, .inr (6, [.ref pg, .ref bk, .ref fg, .ref og, .ref lg, .int 0, .int lsv, .int 0, .int 0, .int 0])), (lg, .inr (1, [.ref l1, .ref l2, .ref l3, .ref l4, .ref l5])), (l1, .inl (cJ, 96, .inr (.inl ff))), (l2, .inl (cI, 96, .inl gf)), (l3, .inl (cZ, 96, .inl zf)), (l4, .inl (cI, 96, .inl kf)), (l5, .inl (cI, 6, .inl cf)), (bk, .inr (5, [.ref br, .int 0]))]) (wr := [(pg, .inr (3, [.ref pc, .int 0])), (fg, .inr (0, [.ref w1, .ref w2, .ref w3, .int 0, .int 0]))]) (xrV (n := 1) (As := [.int (nI i)]) (rest := [.long (31 * dO i + (-1003))]) (ci := 6) (q0 := 8) hd hK hP hD (c_kinds_g l D cI cJ cZ cR _ h0 pg bk fg og lg br l1 l2 l3 l4 l5 i ff gf zf kf cf lsv (by omega) hL) (gV t_542 mV_X6_kinds) hV_X6_kinds ⟨(Nat.le_of_ble_eq_true rfl), (Nat.le_of_ble_eq_true rfl)⟩ rfl rfl [8, 0, 1, 2, 3, 4, 5, 6] rfl rfl rfl hl.1 rfl (Nat.le_of_ble_eq_true rfl) dX6_digest_135 ⟨(Nat.le_of_ble_eq_true rfl), (Nat.le_of_ble_eq_true rfl)⟩) hP hD hS hA [8, 0, 1, 2, 3, 4, 5, 6] [7, 9] rfl rfl rfl (by decide) (fun r_32 u_33 H locs hw_34 hP hD hS => ?_)
      obtain ⟨f2_35, g2_36, z2_37, k2_38, c2_39⟩ := u_33
      obtain ⟨hw_40, hw_41⟩ : (r_32 = 0) ∧ (Lz f2_35 g2_36) := hw_34
      subst hw_40
      have hLz := hw_41
      have hP : va_P D vwCl [(pg, .inr (3, [.ref pc, .int 0])), (fg, .inr (0, [.ref w1, .ref w2, .ref w3, .int 0, .int 0])), (h0, .inr (6, [.ref pg, .ref bk, .ref fg, .ref og, .ref lg, .int 0, .int 1, .int 0, .int 0, .int 0])), (lg, .inr (1, [.ref l1, .ref l2, .ref l3, .ref l4, .ref l5])), (l1, .inl (cJ, 96, .inr (.inl f2_35))), (l2, .inl (cI, 96, .inl g2_36)), (l3, .inl (cZ, 96, .inl z2_37)), (l4, .inl (cI, 96, .inl k2_38)), (l5, .inl (cI, 6, .inl c2_39)), (bk, .inr (5, [.ref br, .int 0]))] H := hP
      have hD : va_D A [(pg, .inr (3, [.ref pc, .int 0])), (fg, .inr (0, [.ref w1, .ref w2, .ref w3, .int 0, .int 0])), (h0, .inr (6, [.ref pg, .ref bk, .ref fg, .ref og, .ref lg, .int 0, .int 1, .int 0, .int 0, .int 0])), (lg, .inr (1, [.ref l1, .ref l2, .ref l3, .ref l4, .ref l5])), (l1, .inl (cJ, 96, .inr (.inl f2_35))), (l2, .inl (cI, 96, .inl g2_36)), (l3, .inl (cZ, 96, .inl z2_37)), (l4, .inl (cI, 96, .inl k2_38)), (l5, .inl (cI, 6, .inl c2_39)), (bk, .inr (5, [.ref br, .int 0]))] := hD
      refine xc_l (wc := []) (wr := [(pg, .inr (3, [.ref pc, .int 0])), (fg, .inr (0, [.ref w1, .ref w2, .ref w3, .int 0, .int 0])), (h0, .inr (6, [.ref pg, .ref bk, .ref fg, .ref og, .ref lg, .int 0, .int 1, .int 0, .int 0, .int 0])), (lg, .inr (1, [.ref l1, .ref l2, .ref l3, .ref l4, .ref l5])), (l1, .inl (cJ, 96, .inr (.inl f2_35))), (l2, .inl (cI, 96, .inl g2_36)), (l3, .inl (cZ, 96, .inl z2_37)), (l4, .inl (cI, 96, .inl k2_38)), (l5, .inl (cI, 6, .inl c2_39)), (bk, .inr (5, [.ref br, .int 0]))]) (xrS (n := 2) (As := [.long (31 * dO i + (-1003)), .int 0]) (rest := []) hd hK hP hD (c_X6_mix l D cI cJ cZ cR _ (31 * dO i + (-1003)) 0 ) (gS t_535 mS_X6_mix) hS_X6_mix ⟨(Nat.le_of_ble_eq_true rfl), (Nat.le_of_ble_eq_true rfl)⟩ [] rfl rfl rfl hl.1 rfl (Nat.le_of_ble_eq_true rfl) dX6_digest_138 ⟨(Nat.le_of_ble_eq_true rfl), (Nat.le_of_ble_eq_true rfl)⟩) hP hD hS hA [] [0, 1, 2, 3, 4, 5, 6, 7, 8, 9] rfl rfl rfl (by decide) (fun r_42 u_43 H locs hw_44 hP hD hS => ?_)
      have hw_45 : r_42 = (31 * (31 * dO i + (-1003)) + Int32.toInt64 0) := hw_44
      subst hw_45
      have hP : va_P D vwCl [(pg, .inr (3, [.ref pc, .int 0])), (fg, .inr (0, [.ref w1, .ref w2, .ref w3, .int 0, .int 0])), (h0, .inr (6, [.ref pg, .ref bk, .ref fg, .ref og, .ref lg, .int 0, .int 1, .int 0, .int 0, .int 0])), (lg, .inr (1, [.ref l1, .ref l2, .ref l3, .ref l4, .ref l5])), (l1, .inl (cJ, 96, .inr (.inl f2_35))), (l2, .inl (cI, 96, .inl g2_36)), (l3, .inl (cZ, 96, .inl z2_37)), (l4, .inl (cI, 96, .inl k2_38)), (l5, .inl (cI, 6, .inl c2_39)), (bk, .inr (5, [.ref br, .int 0]))] H := hP
      have hD : va_D A [(pg, .inr (3, [.ref pc, .int 0])), (fg, .inr (0, [.ref w1, .ref w2, .ref w3, .int 0, .int 0])), (h0, .inr (6, [.ref pg, .ref bk, .ref fg, .ref og, .ref lg, .int 0, .int 1, .int 0, .int 0, .int 0])), (lg, .inr (1, [.ref l1, .ref l2, .ref l3, .ref l4, .ref l5])), (l1, .inl (cJ, 96, .inr (.inl f2_35))), (l2, .inl (cI, 96, .inl g2_36)), (l3, .inl (cZ, 96, .inl z2_37)), (l4, .inl (cI, 96, .inl k2_38)), (l5, .inl (cI, 6, .inl c2_39)), (bk, .inr (5, [.ref br, .int 0]))] := hD
      refine lv_nml (show _ = (31 * (31 * dO i + (-1003)) + 0 : Int64) from by rw [show Int32.toInt64 (0) = 0 from by decide +kernel]) ?_
      refine lv_lstore_n (lv' := [(1, .long (31 * (31 * dO i + (-1003)) + 0)), (0, .ref h0), (3, .int (nI i))]) hx hb dX6_digest_141 rfl hl (by decide) rfl (fun ls hl => ?_)
      refine lv_iconst (v := 0) hx hb dX6_digest_142 (by decide) ?_
      refine lv_istore (lv' := [(4, .int 0), (1, .long (31 * (31 * dO i + (-1003)) + 0)), (0, .ref h0), (3, .int (nI i))]) hx hb dX6_digest_143 hl (by decide) rfl (fun ls hl => ?_)
      have LOOP_145 : ∀ (n : Nat) (j : Nat), (j + n = 16) → ∀ (H : Heap) (locs : List Loc) (ls : Array Slot), va_P D vwCl [(pg, .inr (3, [.ref pc, .int 0])), (fg, .inr (0, [.ref w1, .ref w2, .ref w3, .int 0, .int 0])), (h0, .inr (6, [.ref pg, .ref bk, .ref fg, .ref og, .ref lg, .int 0, .int 1, .int 0, .int 0, .int 0])), (lg, .inr (1, [.ref l1, .ref l2, .ref l3, .ref l4, .ref l5])), (l1, .inl (cJ, 96, .inr (.inl f2_35))), (l2, .inl (cI, 96, .inl g2_36)), (l3, .inl (cZ, 96, .inl z2_37)), (l4, .inl (cI, 96, .inl k2_38)), (l5, .inl (cI, 6, .inl c2_39)), (bk, .inr (5, [.ref br, .int 0]))] H → va_D A [(pg, .inr (3, [.ref pc, .int 0])), (fg, .inr (0, [.ref w1, .ref w2, .ref w3, .int 0, .int 0])), (h0, .inr (6, [.ref pg, .ref bk, .ref fg, .ref og, .ref lg, .int 0, .int 1, .int 0, .int 0, .int 0])), (lg, .inr (1, [.ref l1, .ref l2, .ref l3, .ref l4, .ref l5])), (l1, .inl (cJ, 96, .inr (.inl f2_35))), (l2, .inl (cI, 96, .inl g2_36)), (l3, .inl (cZ, 96, .inl z2_37)), (l4, .inl (cI, 96, .inl k2_38)), (l5, .inl (cI, 6, .inl c2_39)), (bk, .inr (5, [.ref br, .int 0]))] → va_S A s.heap H locs → lv_has ls 5 [(0, .ref h0), (1, .long (dk (31 * (31 * dO i + (-1003)) + 0) j)), (3, .int (nI i)), (4, .int (nI j))] → W p l e (rM 5 0 0 112) s m ([.ref h0] : List Value).toArray below meth c H locs 0 0 Q (F0 m 145 ls []) := by
        intro n
        induction n with
        | zero =>
          intro j hj H locs ls hP hD hS hl
          refine lv_iload hx hb dX6_digest_145 (lv_at hl 3 rfl) ?_
          refine lv_bipush (v := 16) hx hb dX6_digest_147 (by decide) ?_
          refine lv_icmp_ge (tgt := 182) hx hb dX6_digest_149 (by decide) (fun c_46 => ?_) (fun c_46 => ?_)
          rotate_left
          · exact absurd (nI_le (a := 16) (b := j) (by omega) (by omega)) c_46
          refine lv_iinc (v := nI (i + 1)) (lv' := [(3, .int (nI (i + 1))), (0, .ref h0), (1, .long (dk (31 * (31 * dO i + (-1003)) + 0) j)), (4, .int (nI j))]) hx hb dX6_digest_182 hl (k := 2) rfl (nI_1 i) (by decide) rfl (fun ls hl => ?_)
          refine lv_goto (tgt := 119) hx hb dX6_digest_185 (by decide) ?_
          exact ih_119 (i + 1) 1 f2_35 g2_36 z2_37 k2_38 c2_39 (by omega) (Or.inr ⟨rfl, hLz⟩) _ _ _ (hP.sub [2, 3, 4, 5, 6, 7, 8, 9, 0, 1] rfl) (hD.sub [2, 3, 4, 5, 6, 7, 8, 9, 0, 1] rfl rfl) hS (lv_sub hl [1, 2, 0] (by rw [show j = 16 by omega]; rfl))
        | succ n ih_145 =>
          intro j hj H locs ls hP hD hS hl
          refine lv_iload hx hb dX6_digest_145 (lv_at hl 3 rfl) ?_
          refine lv_bipush (v := 16) hx hb dX6_digest_147 (by decide) ?_
          refine lv_icmp_ge (tgt := 182) hx hb dX6_digest_149 (by decide) (fun c_47 => ?_) (fun c_47 => ?_)
          · exact absurd c_47 (nI_ge (a := j) (b := 16) (by omega) (by omega))
          refine lv_lload_n hx hb dX6_digest_152 rfl (lv_at hl 1 rfl) ?_
          refine lv_aload_n hx hb dX6_digest_153 rfl (lv_at hl 0 rfl) ?_
          refine lv_iload_n hx hb dX6_digest_154 rfl (lv_at hl 2 rfl) ?_
          refine lv_iload hx hb dX6_digest_155 (lv_at hl 3 rfl) ?_
          refine lv_iconst (v := 0) hx hb dX6_digest_157 (by decide) ?_
          refine xc_i (wc := [(h0, .inr (6, [.ref pg, .ref bk, .ref fg, .ref og, .ref lg, .int 0, .int 1, .int 0, .int 0, .int 0])), (lg, .inr (1, [.ref l1, .ref l2, .ref l3, .ref l4, .ref l5])), (l1, .inl (cJ, 96, .inr (.inl f2_35))), (l2, .inl (cI, 96, .inl g2_36)), (l3, .inl (cZ, 96, .inl z2_37)), (l4, .inl (cI, 96, .inl k2_38)), (l5, .inl (cI, 6, .inl c2_39)), (bk, .inr (5, [.ref br, .int 0]))]) (wr := [(pg, .inr (3, [.ref pc, .int 0])), (fg, .inr (0, [.ref w1, .ref w2, .ref w3, .int 0, .int 0]))]) (xrV (n := 3) (As := [.int (nI i), .int (nI j), .int 0]) (rest := [.long (dk (31 * (31 * dO i + (-1003)) + 0) j)]) (ci := 6) (q0 := 2) hd hK hP hD (c_light_10 l D cI cJ cZ cR _ h0 pg bk fg og lg br l1 l2 l3 l4 l5 i j f2_35 g2_36 z2_37 k2_38 c2_39 (by omega) (by omega) hLz) (gV t_543 mV_X6_light) hV_X6_light ⟨(Nat.le_of_ble_eq_true rfl), (Nat.le_of_ble_eq_true rfl)⟩ rfl rfl [2, 3, 4, 5, 6, 7, 8, 9] rfl rfl rfl hl.1 rfl (Nat.le_of_ble_eq_true rfl) dX6_digest_158 ⟨(Nat.le_of_ble_eq_true rfl), (Nat.le_of_ble_eq_true rfl)⟩) hP hD hS hA [2, 3, 4, 5, 6, 7, 8, 9] [0, 1] rfl rfl rfl (by decide) (fun r_48 u_49 H locs hw_50 hP hD hS => ?_)
          have hw_51 : r_48 = (-1) := hw_50
          subst hw_51
          have hP : va_P D vwCl [(pg, .inr (3, [.ref pc, .int 0])), (fg, .inr (0, [.ref w1, .ref w2, .ref w3, .int 0, .int 0])), (h0, .inr (6, [.ref pg, .ref bk, .ref fg, .ref og, .ref lg, .int 0, .int 1, .int 0, .int 0, .int 0])), (lg, .inr (1, [.ref l1, .ref l2, .ref l3, .ref l4, .ref l5])), (l1, .inl (cJ, 96, .inr (.inl f2_35))), (l2, .inl (cI, 96, .inl g2_36)), (l3, .inl (cZ, 96, .inl z2_37)), (l4, .inl (cI, 96, .inl k2_38)), (l5, .inl (cI, 6, .inl c2_39)), (bk, .inr (5, [.ref br, .int 0]))] H := hP
          have hD : va_D A [(pg, .inr (3, [.ref pc, .int 0])), (fg, .inr (0, [.ref w1, .ref w2, .ref w3, .int 0, .int 0])), (h0, .inr (6, [.ref pg, .ref bk, .ref fg, .ref og, .ref lg, .int 0, .int 1, .int 0, .int 0, .int 0])), (lg, .inr (1, [.ref l1, .ref l2, .ref l3, .ref l4, .ref l5])), (l1, .inl (cJ, 96, .inr (.inl f2_35))), (l2, .inl (cI, 96, .inl g2_36)), (l3, .inl (cZ, 96, .inl z2_37)), (l4, .inl (cI, 96, .inl k2_38)), (l5, .inl (cI, 6, .inl c2_39)), (bk, .inr (5, [.ref br, .int 0]))] := hD
          refine xc_l (wc := []) (wr := [(pg, .inr (3, [.ref pc, .int 0])), (fg, .inr (0, [.ref w1, .ref w2, .ref w3, .int 0, .int 0])), (h0, .inr (6, [.ref pg, .ref bk, .ref fg, .ref og, .ref lg, .int 0, .int 1, .int 0, .int 0, .int 0])), (lg, .inr (1, [.ref l1, .ref l2, .ref l3, .ref l4, .ref l5])), (l1, .inl (cJ, 96, .inr (.inl f2_35))), (l2, .inl (cI, 96, .inl g2_36)), (l3, .inl (cZ, 96, .inl z2_37)), (l4, .inl (cI, 96, .inl k2_38)), (l5, .inl (cI, 6, .inl c2_39)), (bk, .inr (5, [.ref br, .int 0]))]) (xrS (n := 2) (As := [.long (dk (31 * (31 * dO i + (-1003)) + 0) j), .int (-1)]) (rest := []) hd hK hP hD (c_X6_mix l D cI cJ cZ cR _ (dk (31 * (31 * dO i + (-1003)) + 0) j) (-1) ) (gS t_535 mS_X6_mix) hS_X6_mix ⟨(Nat.le_of_ble_eq_true rfl), (Nat.le_of_ble_eq_true rfl)⟩ [] rfl rfl rfl hl.1 rfl (Nat.le_of_ble_eq_true rfl) dX6_digest_161 ⟨(Nat.le_of_ble_eq_true rfl), (Nat.le_of_ble_eq_true rfl)⟩) hP hD hS hA [] [0, 1, 2, 3, 4, 5, 6, 7, 8, 9] rfl rfl rfl (by decide) (fun r_52 u_53 H locs hw_54 hP hD hS => ?_)
          have hw_55 : r_52 = (31 * (dk (31 * (31 * dO i + (-1003)) + 0) j) + Int32.toInt64 (-1)) := hw_54
          subst hw_55
          have hP : va_P D vwCl [(pg, .inr (3, [.ref pc, .int 0])), (fg, .inr (0, [.ref w1, .ref w2, .ref w3, .int 0, .int 0])), (h0, .inr (6, [.ref pg, .ref bk, .ref fg, .ref og, .ref lg, .int 0, .int 1, .int 0, .int 0, .int 0])), (lg, .inr (1, [.ref l1, .ref l2, .ref l3, .ref l4, .ref l5])), (l1, .inl (cJ, 96, .inr (.inl f2_35))), (l2, .inl (cI, 96, .inl g2_36)), (l3, .inl (cZ, 96, .inl z2_37)), (l4, .inl (cI, 96, .inl k2_38)), (l5, .inl (cI, 6, .inl c2_39)), (bk, .inr (5, [.ref br, .int 0]))] H := hP
          have hD : va_D A [(pg, .inr (3, [.ref pc, .int 0])), (fg, .inr (0, [.ref w1, .ref w2, .ref w3, .int 0, .int 0])), (h0, .inr (6, [.ref pg, .ref bk, .ref fg, .ref og, .ref lg, .int 0, .int 1, .int 0, .int 0, .int 0])), (lg, .inr (1, [.ref l1, .ref l2, .ref l3, .ref l4, .ref l5])), (l1, .inl (cJ, 96, .inr (.inl f2_35))), (l2, .inl (cI, 96, .inl g2_36)), (l3, .inl (cZ, 96, .inl z2_37)), (l4, .inl (cI, 96, .inl k2_38)), (l5, .inl (cI, 6, .inl c2_39)), (bk, .inr (5, [.ref br, .int 0]))] := hD
          refine lv_nml (show _ = (31 * dk (31 * (31 * dO i + (-1003)) + 0) j + (-1) : Int64) from by rw [show Int32.toInt64 (-1) = -1 from by decide +kernel]) ?_
          refine lv_aload_n hx hb dX6_digest_164 rfl (lv_at hl 0 rfl) ?_
          refine lv_iload_n hx hb dX6_digest_165 rfl (lv_at hl 2 rfl) ?_
          refine lv_iload hx hb dX6_digest_166 (lv_at hl 3 rfl) ?_
          refine lv_iconst (v := 1) hx hb dX6_digest_168 (by decide) ?_
          refine xc_i (wc := [(h0, .inr (6, [.ref pg, .ref bk, .ref fg, .ref og, .ref lg, .int 0, .int 1, .int 0, .int 0, .int 0])), (lg, .inr (1, [.ref l1, .ref l2, .ref l3, .ref l4, .ref l5])), (l1, .inl (cJ, 96, .inr (.inl f2_35))), (l2, .inl (cI, 96, .inl g2_36)), (l3, .inl (cZ, 96, .inl z2_37)), (l4, .inl (cI, 96, .inl k2_38)), (l5, .inl (cI, 6, .inl c2_39)), (bk, .inr (5, [.ref br, .int 0]))]) (wr := [(pg, .inr (3, [.ref pc, .int 0])), (fg, .inr (0, [.ref w1, .ref w2, .ref w3, .int 0, .int 0]))]) (xrV (n := 3) (As := [.int (nI i), .int (nI j), .int 1]) (rest := [.long (31 * dk (31 * (31 * dO i + (-1003)) + 0) j + (-1))]) (ci := 6) (q0 := 2) hd hK hP hD (c_light_11 l D cI cJ cZ cR _ h0 pg bk fg og lg br l1 l2 l3 l4 l5 i j f2_35 g2_36 z2_37 k2_38 c2_39 (by omega) (by omega) hLz) (gV t_543 mV_X6_light) hV_X6_light ⟨(Nat.le_of_ble_eq_true rfl), (Nat.le_of_ble_eq_true rfl)⟩ rfl rfl [2, 3, 4, 5, 6, 7, 8, 9] rfl rfl rfl hl.1 rfl (Nat.le_of_ble_eq_true rfl) dX6_digest_169 ⟨(Nat.le_of_ble_eq_true rfl), (Nat.le_of_ble_eq_true rfl)⟩) hP hD hS hA [2, 3, 4, 5, 6, 7, 8, 9] [0, 1] rfl rfl rfl (by decide) (fun r_56 u_57 H locs hw_58 hP hD hS => ?_)
          have hw_59 : r_56 = (-1) := hw_58
          subst hw_59
          have hP : va_P D vwCl [(pg, .inr (3, [.ref pc, .int 0])), (fg, .inr (0, [.ref w1, .ref w2, .ref w3, .int 0, .int 0])), (h0, .inr (6, [.ref pg, .ref bk, .ref fg, .ref og, .ref lg, .int 0, .int 1, .int 0, .int 0, .int 0])), (lg, .inr (1, [.ref l1, .ref l2, .ref l3, .ref l4, .ref l5])), (l1, .inl (cJ, 96, .inr (.inl f2_35))), (l2, .inl (cI, 96, .inl g2_36)), (l3, .inl (cZ, 96, .inl z2_37)), (l4, .inl (cI, 96, .inl k2_38)), (l5, .inl (cI, 6, .inl c2_39)), (bk, .inr (5, [.ref br, .int 0]))] H := hP
          have hD : va_D A [(pg, .inr (3, [.ref pc, .int 0])), (fg, .inr (0, [.ref w1, .ref w2, .ref w3, .int 0, .int 0])), (h0, .inr (6, [.ref pg, .ref bk, .ref fg, .ref og, .ref lg, .int 0, .int 1, .int 0, .int 0, .int 0])), (lg, .inr (1, [.ref l1, .ref l2, .ref l3, .ref l4, .ref l5])), (l1, .inl (cJ, 96, .inr (.inl f2_35))), (l2, .inl (cI, 96, .inl g2_36)), (l3, .inl (cZ, 96, .inl z2_37)), (l4, .inl (cI, 96, .inl k2_38)), (l5, .inl (cI, 6, .inl c2_39)), (bk, .inr (5, [.ref br, .int 0]))] := hD
          refine xc_l (wc := []) (wr := [(pg, .inr (3, [.ref pc, .int 0])), (fg, .inr (0, [.ref w1, .ref w2, .ref w3, .int 0, .int 0])), (h0, .inr (6, [.ref pg, .ref bk, .ref fg, .ref og, .ref lg, .int 0, .int 1, .int 0, .int 0, .int 0])), (lg, .inr (1, [.ref l1, .ref l2, .ref l3, .ref l4, .ref l5])), (l1, .inl (cJ, 96, .inr (.inl f2_35))), (l2, .inl (cI, 96, .inl g2_36)), (l3, .inl (cZ, 96, .inl z2_37)), (l4, .inl (cI, 96, .inl k2_38)), (l5, .inl (cI, 6, .inl c2_39)), (bk, .inr (5, [.ref br, .int 0]))]) (xrS (n := 2) (As := [.long (31 * dk (31 * (31 * dO i + (-1003)) + 0) j + (-1)), .int (-1)]) (rest := []) hd hK hP hD (c_X6_mix l D cI cJ cZ cR _ (31 * dk (31 * (31 * dO i + (-1003)) + 0) j + (-1)) (-1) ) (gS t_535 mS_X6_mix) hS_X6_mix ⟨(Nat.le_of_ble_eq_true rfl), (Nat.le_of_ble_eq_true rfl)⟩ [] rfl rfl rfl hl.1 rfl (Nat.le_of_ble_eq_true rfl) dX6_digest_172 ⟨(Nat.le_of_ble_eq_true rfl), (Nat.le_of_ble_eq_true rfl)⟩) hP hD hS hA [] [0, 1, 2, 3, 4, 5, 6, 7, 8, 9] rfl rfl rfl (by decide) (fun r_60 u_61 H locs hw_62 hP hD hS => ?_)
          have hw_63 : r_60 = (31 * (31 * dk (31 * (31 * dO i + (-1003)) + 0) j + (-1)) + Int32.toInt64 (-1)) := hw_62
          subst hw_63
          have hP : va_P D vwCl [(pg, .inr (3, [.ref pc, .int 0])), (fg, .inr (0, [.ref w1, .ref w2, .ref w3, .int 0, .int 0])), (h0, .inr (6, [.ref pg, .ref bk, .ref fg, .ref og, .ref lg, .int 0, .int 1, .int 0, .int 0, .int 0])), (lg, .inr (1, [.ref l1, .ref l2, .ref l3, .ref l4, .ref l5])), (l1, .inl (cJ, 96, .inr (.inl f2_35))), (l2, .inl (cI, 96, .inl g2_36)), (l3, .inl (cZ, 96, .inl z2_37)), (l4, .inl (cI, 96, .inl k2_38)), (l5, .inl (cI, 6, .inl c2_39)), (bk, .inr (5, [.ref br, .int 0]))] H := hP
          have hD : va_D A [(pg, .inr (3, [.ref pc, .int 0])), (fg, .inr (0, [.ref w1, .ref w2, .ref w3, .int 0, .int 0])), (h0, .inr (6, [.ref pg, .ref bk, .ref fg, .ref og, .ref lg, .int 0, .int 1, .int 0, .int 0, .int 0])), (lg, .inr (1, [.ref l1, .ref l2, .ref l3, .ref l4, .ref l5])), (l1, .inl (cJ, 96, .inr (.inl f2_35))), (l2, .inl (cI, 96, .inl g2_36)), (l3, .inl (cZ, 96, .inl z2_37)), (l4, .inl (cI, 96, .inl k2_38)), (l5, .inl (cI, 6, .inl c2_39)), (bk, .inr (5, [.ref br, .int 0]))] := hD
          refine lv_nml (show _ = (31 * (31 * dk (31 * (31 * dO i + (-1003)) + 0) j + (-1)) + (-1) : Int64) from by rw [show Int32.toInt64 (-1) = -1 from by decide +kernel]) ?_
          refine lv_lstore_n (lv' := [(1, .long (31 * (31 * dk (31 * (31 * dO i + (-1003)) + 0) j + (-1)) + (-1))), (0, .ref h0), (3, .int (nI i)), (4, .int (nI j))]) hx hb dX6_digest_175 rfl hl (by decide) rfl (fun ls hl => ?_)
          refine lv_iinc (v := nI (j + 1)) (lv' := [(4, .int (nI (j + 1))), (1, .long (31 * (31 * dk (31 * (31 * dO i + (-1003)) + 0) j + (-1)) + (-1))), (0, .ref h0), (3, .int (nI i))]) hx hb dX6_digest_176 hl (k := 3) rfl (nI_1 j) (by decide) rfl (fun ls hl => ?_)
          refine lv_goto (tgt := 145) hx hb dX6_digest_179 (by decide) ?_
          exact ih_145 (j + 1) (by omega) _ _ _ (hP.sub [0, 1, 2, 3, 4, 5, 6, 7, 8, 9] rfl) (hD.sub [0, 1, 2, 3, 4, 5, 6, 7, 8, 9] rfl rfl) hS (lv_sub hl [2, 1, 3, 0] rfl)
      exact LOOP_145 16 0 (by omega) _ _ _ (hP.sub [0, 1, 2, 3, 4, 5, 6, 7, 8, 9] rfl) (hD.sub [0, 1, 2, 3, 4, 5, 6, 7, 8, 9] rfl rfl) hS (lv_sub hl [2, 1, 3, 0] rfl)
  exact LOOP_119 3 0 0 ff gf zf kf cf (by omega) (Or.inl rfl) _ _ _ (hP.sub [8, 0, 1, 2, 3, 4, 5, 6, 7, 9] rfl) (hD.sub [8, 0, 1, 2, 3, 4, 5, 6, 7, 9] rfl rfl) hS (lv_sub hl [2, 1, 0] rfl)
end
