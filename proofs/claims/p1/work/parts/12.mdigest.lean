theorem mV_X7_digest : Cond.instanceMethod yX7_digest ∈ gT ∧ Cond.selects RX7 yX7_digest yX7_digest ∈ gT ∧ Cond.initialized RX7 ∈ gT ∧ Cond.code yX7_digest cX7_digest 3 (some .long) ∈ gT := ⟨t_859, t_860, t_8, t_861⟩
theorem hV_X7_digest : yX7_digest.cls = RX7 ∧ yX7_digest.cls ≠ "java/lang/invoke/MethodHandle" ∧ yX7_digest.cls ≠ "java/lang/invoke/VarHandle" ∧ (parseMethodDescriptor yX7_digest.desc).map (fun d => d.parameters.length) = some 0 := by decide +kernel
theorem dX7_digest_0 : decode cX7_digest 0 = .ok (.aload_n 0, 1) := by decide +kernel
theorem dX7_digest_1 : decode cX7_digest 1 = .ok (.ldc2_w 251, 3) := by decide +kernel
theorem dX7_digest_4 : decode cX7_digest 4 = .ok (.putfield 243, 3) := by decide +kernel
theorem dX7_digest_7 : decode cX7_digest 7 = .ok (.iconst 0, 1) := by decide +kernel
theorem dX7_digest_8 : decode cX7_digest 8 = .ok (.istore_n 1, 1) := by decide +kernel
theorem dX7_digest_9 : decode cX7_digest 9 = .ok (.iload_n 1, 1) := by decide +kernel
theorem dX7_digest_10 : decode cX7_digest 10 = .ok (.aload_n 0, 1) := by decide +kernel
theorem dX7_digest_11 : decode cX7_digest 11 = .ok (.getfield 94, 3) := by decide +kernel
theorem dX7_digest_14 : decode cX7_digest 14 = .ok (.if_icmp .ge 45, 3) := by decide +kernel
theorem dX7_digest_59 : decode cX7_digest 59 = .ok (.iconst 0, 1) := by decide +kernel
theorem dX7_digest_60 : decode cX7_digest 60 = .ok (.istore_n 1, 1) := by decide +kernel
theorem dX7_digest_61 : decode cX7_digest 61 = .ok (.iload_n 1, 1) := by decide +kernel
theorem dX7_digest_62 : decode cX7_digest 62 = .ok (.aload_n 0, 1) := by decide +kernel
theorem dX7_digest_63 : decode cX7_digest 63 = .ok (.getfield 108, 3) := by decide +kernel
theorem dX7_digest_66 : decode cX7_digest 66 = .ok (.if_icmp .ge 20, 3) := by decide +kernel
theorem dX7_digest_86 : decode cX7_digest 86 = .ok (.aload_n 0, 1) := by decide +kernel
theorem dX7_digest_87 : decode cX7_digest 87 = .ok (.aload_n 0, 1) := by decide +kernel
theorem dX7_digest_88 : decode cX7_digest 88 = .ok (.invokevirtual 152, 3) := by decide +kernel
theorem dX7_digest_91 : decode cX7_digest 91 = .ok (.ifCond .eq 11, 3) := by decide +kernel
theorem dX7_digest_102 : decode cX7_digest 102 = .ok (.ldc2_w 253, 3) := by decide +kernel
theorem dX7_digest_105 : decode cX7_digest 105 = .ok (.invokevirtual 247, 3) := by decide +kernel
theorem dX7_digest_108 : decode cX7_digest 108 = .ok (.iconst 0, 1) := by decide +kernel
theorem dX7_digest_109 : decode cX7_digest 109 = .ok (.istore_n 1, 1) := by decide +kernel
theorem dX7_digest_110 : decode cX7_digest 110 = .ok (.iload_n 1, 1) := by decide +kernel
theorem dX7_digest_111 : decode cX7_digest 111 = .ok (.iconst 3, 1) := by decide +kernel
theorem dX7_digest_112 : decode cX7_digest 112 = .ok (.if_icmp .ge 14, 3) := by decide +kernel
theorem dX7_digest_115 : decode cX7_digest 115 = .ok (.aload_n 0, 1) := by decide +kernel
theorem dX7_digest_116 : decode cX7_digest 116 = .ok (.iload_n 1, 1) := by decide +kernel
theorem dX7_digest_117 : decode cX7_digest 117 = .ok (.invokevirtual 255, 3) := by decide +kernel
theorem dX7_digest_120 : decode cX7_digest 120 = .ok (.iinc 1 1, 3) := by decide +kernel
theorem dX7_digest_123 : decode cX7_digest 123 = .ok (.goto (-13), 3) := by decide +kernel
theorem dX7_digest_126 : decode cX7_digest 126 = .ok (.iconst 0, 1) := by decide +kernel
theorem dX7_digest_127 : decode cX7_digest 127 = .ok (.istore_n 1, 1) := by decide +kernel
theorem dX7_digest_128 : decode cX7_digest 128 = .ok (.iload_n 1, 1) := by decide +kernel
theorem dX7_digest_129 : decode cX7_digest 129 = .ok (.aload_n 0, 1) := by decide +kernel
theorem dX7_digest_130 : decode cX7_digest 130 = .ok (.getfield 54, 3) := by decide +kernel
theorem dX7_digest_133 : decode cX7_digest 133 = .ok (.if_icmp .ge 20, 3) := by decide +kernel
theorem dX7_digest_153 : decode cX7_digest 153 = .ok (.iconst 0, 1) := by decide +kernel
theorem dX7_digest_154 : decode cX7_digest 154 = .ok (.istore_n 1, 1) := by decide +kernel
theorem dX7_digest_155 : decode cX7_digest 155 = .ok (.iload_n 1, 1) := by decide +kernel
theorem dX7_digest_156 : decode cX7_digest 156 = .ok (.bipush 8, 2) := by decide +kernel
theorem dX7_digest_158 : decode cX7_digest 158 = .ok (.if_icmp .ge 19, 3) := by decide +kernel
theorem dX7_digest_161 : decode cX7_digest 161 = .ok (.aload_n 0, 1) := by decide +kernel
theorem dX7_digest_162 : decode cX7_digest 162 = .ok (.aload_n 0, 1) := by decide +kernel
theorem dX7_digest_163 : decode cX7_digest 163 = .ok (.iload_n 1, 1) := by decide +kernel
theorem dX7_digest_164 : decode cX7_digest 164 = .ok (.invokevirtual 238, 3) := by decide +kernel
theorem dX7_digest_167 : decode cX7_digest 167 = .ok (.i2l, 1) := by decide +kernel
theorem dX7_digest_168 : decode cX7_digest 168 = .ok (.invokevirtual 247, 3) := by decide +kernel
theorem dX7_digest_171 : decode cX7_digest 171 = .ok (.iinc 1 1, 3) := by decide +kernel
theorem dX7_digest_174 : decode cX7_digest 174 = .ok (.goto (-19), 3) := by decide +kernel
theorem dX7_digest_177 : decode cX7_digest 177 = .ok (.aload_n 0, 1) := by decide +kernel
theorem dX7_digest_178 : decode cX7_digest 178 = .ok (.getfield 243, 3) := by decide +kernel
theorem dX7_digest_181 : decode cX7_digest 181 = .ok (.lreturn, 1) := by decide +kernel
section
variable (l : Launch) (D : va_G) (cI cJ cZ cR : ClassId)
theorem c_mixOpen_g (sz : Nat) (h0 : Nat) (m1 : Nat) (m2 : Nat) (m3 : Nat) (m4 : Nat) (m5 : Nat) (m6 : Nat) (m7 : Nat) (m8 : Nat) (m9 : Nat) (m10 : Nat) (m11 : Nat) (m12 : Nat) (m13 : Nat) (hv : Int64) (ll : Nat → Int64) (fl : Nat → Int32) (a : Nat) (lsv : Int32) (ha : a < 3) (hL : LMt lsv ll fl) : CTv l D cI cJ cZ cR yX7_mixOpen cX7_mixOpen 3 none 3 66 0 0 sz [.ref h0, .int (nI a)] [(h0, .inr (7, [.int 0, .ref m1, .int 0, .ref m2, .ref m3, .ref m4, .ref m5, .int 0, .int 0, .ref m6, .int 0, .int 0, .int 0, .int 0, .ref m7, .int 0, .int 0, .int 0, .int 0, .ref m8, .ref m9, .ref m10, .int lsv, .ref m11, .ref m12, .ref m13, .long hv])), (m11, .inl (cJ, 80, .inr (.inl ll))), (m12, .inl (cI, 48, .inl fl))] (fun (u : (Nat → Int64) × (Nat → Int32)) => (Lm u.1 u.2)) (fun (u : (Nat → Int64) × (Nat → Int32)) => [(h0, .inr (7, [.int 0, .ref m1, .int 0, .ref m2, .ref m3, .ref m4, .ref m5, .int 0, .int 0, .ref m6, .int 0, .int 0, .int 0, .int 0, .ref m7, .int 0, .int 0, .int 0, .int 0, .ref m8, .ref m9, .ref m10, .int 1, .ref m11, .ref m12, .ref m13, .long (dk ((31 * ((31 * hv) + (-1003))) + 0) 16)])), (m11, .inl (cJ, 80, .inr (.inl u.1))), (m12, .inl (cI, 48, .inl u.2))]) := by
  rcases hL with rfl | ⟨rfl, h⟩
  · exact c_mixOpen_0 l D cI cJ cZ cR sz h0 m1 m2 m3 m4 m5 m6 m7 m8 m9 m10 m11 m12 m13 hv ll fl a ha
  · exact c_mixOpen_1 l D cI cJ cZ cR sz h0 m1 m2 m3 m4 m5 m6 m7 m8 m9 m10 m11 m12 m13 hv ll fl a ha h
set_option maxHeartbeats 4000000 in
set_option maxRecDepth 100000 in
theorem c_X7_digest (sz : Nat) (h0 : Nat) (m1 : Nat) (m2 : Nat) (m3 : Nat) (m4 : Nat) (m5 : Nat) (m6 : Nat) (m7 : Nat) (m8 : Nat) (m9 : Nat) (m10 : Nat) (m11 : Nat) (m12 : Nat) (m13 : Nat) (hv : Int64) (ll : Nat → Int64) (fl : Nat → Int32)  : CTl l D cI cJ cZ cR yX7_digest cX7_digest 3 (some .long) 4 88 0 0 sz [.ref h0] [(h0, .inr (7, [.int 0, .ref m1, .int 0, .ref m2, .ref m3, .ref m4, .ref m5, .int 0, .int 0, .ref m6, .int 0, .int 0, .int 0, .int 0, .ref m7, .int 0, .int 0, .int 0, .int 0, .ref m8, .ref m9, .ref m10, .int 0, .ref m11, .ref m12, .ref m13, .long hv])), (m11, .inl (cJ, 80, .inr (.inl ll))), (m12, .inl (cI, 48, .inl fl))] (fun (r : Int64) (u : Unit) => (r = (dC (dO 3) 8))) (fun (u : Unit) => []) := by
  refine CTl.of (by decide) (Nat.le_of_ble_eq_true rfl) rfl ?_
  intro p e s m below meth c A Q ls hd hin hK hsz hP hD hA hS hl hret
  obtain ⟨hx, hb, hml, hown, hts⟩ := id hd
  have hK1 := hK.1
  have hown : s.vm.findClass RX7 = some m.cls := hown
  have hl : lv_has ls 3 [(0, .ref h0)] := hl
  refine lv_aload_n hx hb dX7_digest_0 rfl (lv_at hl 0 rfl) ?_
  refine lv_ldc2 hx hb hown (hts _ t_862) dX7_digest_1 ?_
  refine va_put (D := D) (ci := 7) (v := .long 1709) (ty := .long) (C := RX7) (T := TX7) (N := 27) hx hb hts iT_X7 tyX7 tyX7_ok nmX7 hown hK1 hP hD hS 0 rfl rfl 26 (by decide) (hts _ t_577) (fun _ h9 => h9) rfl (by decide +kernel) rfl rfl (Nat.le_of_ble_eq_true rfl) dX7_digest_4 (fun H locs hP hD hS => ?_)
  have hP : va_P D vwCl [(h0, .inr (7, [.int 0, .ref m1, .int 0, .ref m2, .ref m3, .ref m4, .ref m5, .int 0, .int 0, .ref m6, .int 0, .int 0, .int 0, .int 0, .ref m7, .int 0, .int 0, .int 0, .int 0, .ref m8, .ref m9, .ref m10, .int 0, .ref m11, .ref m12, .ref m13, .long 1709])), (m11, .inl (cJ, 80, .inr (.inl ll))), (m12, .inl (cI, 48, .inl fl))] H := hP
  have hD : va_D A [(h0, .inr (7, [.int 0, .ref m1, .int 0, .ref m2, .ref m3, .ref m4, .ref m5, .int 0, .int 0, .ref m6, .int 0, .int 0, .int 0, .int 0, .ref m7, .int 0, .int 0, .int 0, .int 0, .ref m8, .ref m9, .ref m10, .int 0, .ref m11, .ref m12, .ref m13, .long 1709])), (m11, .inl (cJ, 80, .inr (.inl ll))), (m12, .inl (cI, 48, .inl fl))] := hD
  refine lv_iconst (v := 0) hx hb dX7_digest_7 (by decide) ?_
  refine lv_istore_n (lv' := [(1, .int 0), (0, .ref h0)]) hx hb dX7_digest_8 rfl hl (by decide) rfl (fun ls hl => ?_)
  refine lv_iload_n hx hb dX7_digest_9 rfl (lv_at hl 0 rfl) ?_
  refine lv_aload_n hx hb dX7_digest_10 rfl (lv_at hl 1 rfl) ?_
  refine va_get (D := D) (ci := 7) (v := .int 0) (C := RX7) (T := TX7) (N := 27) hx hb hts iT_X7 hown hK1 hP 0 rfl rfl 2 (by decide) (hts _ t_553) (fun _ h9 => h9) rfl dX7_digest_11 ?_
  refine lv_icmp_ge (tgt := 59) hx hb dX7_digest_14 (by decide) (fun c_1 => ?_) (fun c_1 => ?_)
  rotate_left
  · exact absurd c_1 (by decide)
  refine lv_iconst (v := 0) hx hb dX7_digest_59 (by decide) ?_
  refine lv_istore_n (lv' := [(1, .int 0), (0, .ref h0)]) hx hb dX7_digest_60 rfl hl (by decide) rfl (fun ls hl => ?_)
  refine lv_iload_n hx hb dX7_digest_61 rfl (lv_at hl 0 rfl) ?_
  refine lv_aload_n hx hb dX7_digest_62 rfl (lv_at hl 1 rfl) ?_
  refine va_get (D := D) (ci := 7) (v := .int 0) (C := RX7) (T := TX7) (N := 27) hx hb hts iT_X7 hown hK1 hP 0 rfl rfl 7 (by decide) (hts _ t_558) (fun _ h9 => h9) rfl dX7_digest_63 ?_
  refine lv_icmp_ge (tgt := 86) hx hb dX7_digest_66 (by decide) (fun c_2 => ?_) (fun c_2 => ?_)
  rotate_left
  · exact absurd c_2 (by decide)
  refine lv_aload_n hx hb dX7_digest_86 rfl (lv_at hl 1 rfl) ?_
  refine lv_aload_n hx hb dX7_digest_87 rfl (lv_at hl 1 rfl) ?_
  refine xc_i (wc := [(h0, .inr (7, [.int 0, .ref m1, .int 0, .ref m2, .ref m3, .ref m4, .ref m5, .int 0, .int 0, .ref m6, .int 0, .int 0, .int 0, .int 0, .ref m7, .int 0, .int 0, .int 0, .int 0, .ref m8, .ref m9, .ref m10, .int 0, .ref m11, .ref m12, .ref m13, .long 1709]))]) (wr := [(m11, .inl (cJ, 80, .inr (.inl ll))), (m12, .inl (cI, 48, .inl fl))]) (xrV (n := 0) (As := []) (rest := [.ref h0]) (ci := 7) (q0 := 0) hd hK hP hD (c_X7_isDone l D cI cJ cZ cR _ h0 m1 m2 m3 m4 m5 m6 m7 m8 m9 m10 m11 m12 m13 1709 0 ) (gV t_734 mV_X7_isDone) hV_X7_isDone ⟨(Nat.le_of_ble_eq_true rfl), (Nat.le_of_ble_eq_true rfl)⟩ rfl rfl [0] rfl rfl rfl hl.1 rfl (Nat.le_of_ble_eq_true rfl) dX7_digest_88 ⟨(Nat.le_of_ble_eq_true rfl), (Nat.le_of_ble_eq_true rfl)⟩) hP hD hS hA [0] [1, 2] rfl rfl rfl (by decide) (fun r_3 u_4 H locs hw_5 hP hD hS => ?_)
  have hw_6 : r_3 = 0 := hw_5
  subst hw_6
  have hP : va_P D vwCl [(m11, .inl (cJ, 80, .inr (.inl ll))), (m12, .inl (cI, 48, .inl fl)), (h0, .inr (7, [.int 0, .ref m1, .int 0, .ref m2, .ref m3, .ref m4, .ref m5, .int 0, .int 0, .ref m6, .int 0, .int 0, .int 0, .int 0, .ref m7, .int 0, .int 0, .int 0, .int 0, .ref m8, .ref m9, .ref m10, .int 0, .ref m11, .ref m12, .ref m13, .long 1709]))] H := hP
  have hD : va_D A [(m11, .inl (cJ, 80, .inr (.inl ll))), (m12, .inl (cI, 48, .inl fl)), (h0, .inr (7, [.int 0, .ref m1, .int 0, .ref m2, .ref m3, .ref m4, .ref m5, .int 0, .int 0, .ref m6, .int 0, .int 0, .int 0, .int 0, .ref m7, .int 0, .int 0, .int 0, .int 0, .ref m8, .ref m9, .ref m10, .int 0, .ref m11, .ref m12, .ref m13, .long 1709]))] := hD
  refine lv_if_eq (tgt := 102) hx hb dX7_digest_91 (by decide) (fun c_7 => ?_) (fun c_7 => ?_)
  rotate_left
  · exact absurd c_7 (by decide)
  refine lv_ldc2 hx hb hown (hts _ t_868) dX7_digest_102 ?_
  refine xc_v (wc := [(h0, .inr (7, [.int 0, .ref m1, .int 0, .ref m2, .ref m3, .ref m4, .ref m5, .int 0, .int 0, .ref m6, .int 0, .int 0, .int 0, .int 0, .ref m7, .int 0, .int 0, .int 0, .int 0, .ref m8, .ref m9, .ref m10, .int 0, .ref m11, .ref m12, .ref m13, .long 1709]))]) (wr := [(m11, .inl (cJ, 80, .inr (.inl ll))), (m12, .inl (cI, 48, .inl fl))]) (xrV (n := 1) (As := [.long (-1003)]) (rest := []) (ci := 7) (q0 := 2) hd hK hP hD (c_X7_mix l D cI cJ cZ cR _ h0 m1 m2 m3 m4 m5 m6 m7 m8 m9 m10 m11 m12 m13 1709 0 (-1003) ) (gV t_863 mV_X7_mix) hV_X7_mix ⟨(Nat.le_of_ble_eq_true rfl), (Nat.le_of_ble_eq_true rfl)⟩ rfl rfl [2] rfl rfl rfl hl.1 rfl (Nat.le_of_ble_eq_true rfl) dX7_digest_105 ⟨(Nat.le_of_ble_eq_true rfl), (Nat.le_of_ble_eq_true rfl)⟩) hP hD hS hA [2] [0, 1] rfl rfl rfl (by decide) (fun u_9 H locs hw_10 hP hD hS => ?_)
  have hP : va_P D vwCl [(m11, .inl (cJ, 80, .inr (.inl ll))), (m12, .inl (cI, 48, .inl fl)), (h0, .inr (7, [.int 0, .ref m1, .int 0, .ref m2, .ref m3, .ref m4, .ref m5, .int 0, .int 0, .ref m6, .int 0, .int 0, .int 0, .int 0, .ref m7, .int 0, .int 0, .int 0, .int 0, .ref m8, .ref m9, .ref m10, .int 0, .ref m11, .ref m12, .ref m13, .long ((31 * 1709) + (-1003))]))] H := hP
  have hD : va_D A [(m11, .inl (cJ, 80, .inr (.inl ll))), (m12, .inl (cI, 48, .inl fl)), (h0, .inr (7, [.int 0, .ref m1, .int 0, .ref m2, .ref m3, .ref m4, .ref m5, .int 0, .int 0, .ref m6, .int 0, .int 0, .int 0, .int 0, .ref m7, .int 0, .int 0, .int 0, .int 0, .ref m8, .ref m9, .ref m10, .int 0, .ref m11, .ref m12, .ref m13, .long ((31 * 1709) + (-1003))]))] := hD
  refine lv_iconst (v := 0) hx hb dX7_digest_108 (by decide) ?_
  refine lv_istore_n (lv' := [(1, .int 0), (0, .ref h0)]) hx hb dX7_digest_109 rfl hl (by decide) rfl (fun ls hl => ?_)
  have LOOP_110 : ∀ (n : Nat) (i : Nat) (lsv : Int32) (ll : Nat → Int64) (fl : Nat → Int32), (i + n = 3) → (LMt lsv ll fl) → ∀ (H : Heap) (locs : List Loc) (ls : Array Slot), va_P D vwCl [(h0, .inr (7, [.int 0, .ref m1, .int 0, .ref m2, .ref m3, .ref m4, .ref m5, .int 0, .int 0, .ref m6, .int 0, .int 0, .int 0, .int 0, .ref m7, .int 0, .int 0, .int 0, .int 0, .ref m8, .ref m9, .ref m10, .int lsv, .ref m11, .ref m12, .ref m13, .long (dO i)])), (m11, .inl (cJ, 80, .inr (.inl ll))), (m12, .inl (cI, 48, .inl fl))] H → va_D A [(h0, .inr (7, [.int 0, .ref m1, .int 0, .ref m2, .ref m3, .ref m4, .ref m5, .int 0, .int 0, .ref m6, .int 0, .int 0, .int 0, .int 0, .ref m7, .int 0, .int 0, .int 0, .int 0, .ref m8, .ref m9, .ref m10, .int lsv, .ref m11, .ref m12, .ref m13, .long (dO i)])), (m11, .inl (cJ, 80, .inr (.inl ll))), (m12, .inl (cI, 48, .inl fl))] → va_S A s.heap H locs → lv_has ls 3 [(0, .ref h0), (1, .int (nI i))] → W p l e (rM 4 0 0 88) s m ([.ref h0] : List Value).toArray below meth c H locs 0 0 Q (F0 m 110 ls []) := by
    intro n
    induction n with
    | zero =>
      intro i lsv ll fl hi hL H locs ls hP hD hS hl
      obtain rfl : i = 3 := by omega
      refine lv_iload_n hx hb dX7_digest_110 rfl (lv_at hl 1 rfl) ?_
      refine lv_iconst (v := 3) hx hb dX7_digest_111 (by decide) ?_
      refine lv_icmp_ge (tgt := 126) hx hb dX7_digest_112 (by decide) (fun c_11 => ?_) (fun c_11 => ?_)
      rotate_left
      · exact absurd (nI_le (a := 3) (b := 3) (by omega) (by omega)) c_11
      refine lv_iconst (v := 0) hx hb dX7_digest_126 (by decide) ?_
      refine lv_istore_n (lv' := [(1, .int 0), (0, .ref h0)]) hx hb dX7_digest_127 rfl hl (by decide) rfl (fun ls hl => ?_)
      refine lv_iload_n hx hb dX7_digest_128 rfl (lv_at hl 0 rfl) ?_
      refine lv_aload_n hx hb dX7_digest_129 rfl (lv_at hl 1 rfl) ?_
      refine va_get (D := D) (ci := 7) (v := .int 0) (C := RX7) (T := TX7) (N := 27) hx hb hts iT_X7 hown hK1 hP 0 rfl rfl 0 (by decide) (hts _ t_551) (fun _ h9 => h9) rfl dX7_digest_130 ?_
      refine lv_icmp_ge (tgt := 153) hx hb dX7_digest_133 (by decide) (fun c_12 => ?_) (fun c_12 => ?_)
      rotate_left
      · exact absurd c_12 (by decide)
      refine lv_iconst (v := 0) hx hb dX7_digest_153 (by decide) ?_
      refine lv_istore_n (lv' := [(1, .int 0), (0, .ref h0)]) hx hb dX7_digest_154 rfl hl (by decide) rfl (fun ls hl => ?_)
      have LOOP_155 : ∀ (n : Nat) (j : Nat), (j + n = 8) → ∀ (H : Heap) (locs : List Loc) (ls : Array Slot), va_P D vwCl [(h0, .inr (7, [.int 0, .ref m1, .int 0, .ref m2, .ref m3, .ref m4, .ref m5, .int 0, .int 0, .ref m6, .int 0, .int 0, .int 0, .int 0, .ref m7, .int 0, .int 0, .int 0, .int 0, .ref m8, .ref m9, .ref m10, .int lsv, .ref m11, .ref m12, .ref m13, .long (dC (dO 3) j)])), (m11, .inl (cJ, 80, .inr (.inl ll))), (m12, .inl (cI, 48, .inl fl))] H → va_D A [(h0, .inr (7, [.int 0, .ref m1, .int 0, .ref m2, .ref m3, .ref m4, .ref m5, .int 0, .int 0, .ref m6, .int 0, .int 0, .int 0, .int 0, .ref m7, .int 0, .int 0, .int 0, .int 0, .ref m8, .ref m9, .ref m10, .int lsv, .ref m11, .ref m12, .ref m13, .long (dC (dO 3) j)])), (m11, .inl (cJ, 80, .inr (.inl ll))), (m12, .inl (cI, 48, .inl fl))] → va_S A s.heap H locs → lv_has ls 3 [(0, .ref h0), (1, .int (nI j))] → W p l e (rM 4 0 0 88) s m ([.ref h0] : List Value).toArray below meth c H locs 0 0 Q (F0 m 155 ls []) := by
        intro n
        induction n with
        | zero =>
          intro j hj H locs ls hP hD hS hl
          obtain rfl : j = 8 := by omega
          refine lv_iload_n hx hb dX7_digest_155 rfl (lv_at hl 1 rfl) ?_
          refine lv_bipush (v := 8) hx hb dX7_digest_156 (by decide) ?_
          refine lv_icmp_ge (tgt := 177) hx hb dX7_digest_158 (by decide) (fun c_13 => ?_) (fun c_13 => ?_)
          rotate_left
          · exact absurd (nI_le (a := 8) (b := 8) (by omega) (by omega)) c_13
          refine lv_aload_n hx hb dX7_digest_177 rfl (lv_at hl 0 rfl) ?_
          refine va_get (D := D) (ci := 7) (v := .long (dC (dO 3) 8)) (C := RX7) (T := TX7) (N := 27) hx hb hts iT_X7 hown hK1 hP 0 rfl rfl 26 (by decide) (hts _ t_577) (fun _ h9 => h9) rfl dX7_digest_178 ?_
          exact hret _ _ _ _ _ _ (dC (dO 3) 8) () dX7_digest_181 hS (Nat.le_of_ble_eq_true rfl) (Nat.le_of_ble_eq_true rfl) rfl (hP.sub [] rfl) (hD.sub [] rfl rfl)
        | succ n ih_155 =>
          intro j hj H locs ls hP hD hS hl
          refine lv_iload_n hx hb dX7_digest_155 rfl (lv_at hl 1 rfl) ?_
          refine lv_bipush (v := 8) hx hb dX7_digest_156 (by decide) ?_
          refine lv_icmp_ge (tgt := 177) hx hb dX7_digest_158 (by decide) (fun c_14 => ?_) (fun c_14 => ?_)
          · exact absurd c_14 (nI_ge (a := j) (b := 8) (by omega) (by omega))
          refine lv_aload_n hx hb dX7_digest_161 rfl (lv_at hl 0 rfl) ?_
          refine lv_aload_n hx hb dX7_digest_162 rfl (lv_at hl 0 rfl) ?_
          refine lv_iload_n hx hb dX7_digest_163 rfl (lv_at hl 1 rfl) ?_
          refine xc_i (wc := [(h0, .inr (7, [.int 0, .ref m1, .int 0, .ref m2, .ref m3, .ref m4, .ref m5, .int 0, .int 0, .ref m6, .int 0, .int 0, .int 0, .int 0, .ref m7, .int 0, .int 0, .int 0, .int 0, .ref m8, .ref m9, .ref m10, .int lsv, .ref m11, .ref m12, .ref m13, .long (dC (dO 3) j)]))]) (wr := [(m11, .inl (cJ, 80, .inr (.inl ll))), (m12, .inl (cI, 48, .inl fl))]) (xrV (n := 1) (As := [.int (nI j)]) (rest := [.ref h0]) (ci := 7) (q0 := 0) hd hK hP hD (c_X7_howMany l D cI cJ cZ cR _ h0 m1 m2 m3 m4 m5 m6 m7 m8 m9 m10 m11 m12 m13 (dC (dO 3) j) lsv (nI j) ) (gV t_854 mV_X7_howMany) hV_X7_howMany ⟨(Nat.le_of_ble_eq_true rfl), (Nat.le_of_ble_eq_true rfl)⟩ rfl rfl [0] rfl rfl rfl hl.1 rfl (Nat.le_of_ble_eq_true rfl) dX7_digest_164 ⟨(Nat.le_of_ble_eq_true rfl), (Nat.le_of_ble_eq_true rfl)⟩) hP hD hS hA [0] [1, 2] rfl rfl rfl (by decide) (fun r_15 u_16 H locs hw_17 hP hD hS => ?_)
          have hw_18 : r_15 = (cnt0 (nI j)) := hw_17
          subst hw_18
          have hP : va_P D vwCl [(m11, .inl (cJ, 80, .inr (.inl ll))), (m12, .inl (cI, 48, .inl fl)), (h0, .inr (7, [.int 0, .ref m1, .int 0, .ref m2, .ref m3, .ref m4, .ref m5, .int 0, .int 0, .ref m6, .int 0, .int 0, .int 0, .int 0, .ref m7, .int 0, .int 0, .int 0, .int 0, .ref m8, .ref m9, .ref m10, .int lsv, .ref m11, .ref m12, .ref m13, .long (dC (dO 3) j)]))] H := hP
          have hD : va_D A [(m11, .inl (cJ, 80, .inr (.inl ll))), (m12, .inl (cI, 48, .inl fl)), (h0, .inr (7, [.int 0, .ref m1, .int 0, .ref m2, .ref m3, .ref m4, .ref m5, .int 0, .int 0, .ref m6, .int 0, .int 0, .int 0, .int 0, .ref m7, .int 0, .int 0, .int 0, .int 0, .ref m8, .ref m9, .ref m10, .int lsv, .ref m11, .ref m12, .ref m13, .long (dC (dO 3) j)]))] := hD
          refine lv_nmi (show _ = (0 : Int32) from cnt0_ok (by omega)) ?_
          refine lv_i2l (v := 0) hx hb dX7_digest_167 (by decide) ?_
          refine xc_v (wc := [(h0, .inr (7, [.int 0, .ref m1, .int 0, .ref m2, .ref m3, .ref m4, .ref m5, .int 0, .int 0, .ref m6, .int 0, .int 0, .int 0, .int 0, .ref m7, .int 0, .int 0, .int 0, .int 0, .ref m8, .ref m9, .ref m10, .int lsv, .ref m11, .ref m12, .ref m13, .long (dC (dO 3) j)]))]) (wr := [(m11, .inl (cJ, 80, .inr (.inl ll))), (m12, .inl (cI, 48, .inl fl))]) (xrV (n := 1) (As := [.long 0]) (rest := []) (ci := 7) (q0 := 2) hd hK hP hD (c_X7_mix l D cI cJ cZ cR _ h0 m1 m2 m3 m4 m5 m6 m7 m8 m9 m10 m11 m12 m13 (dC (dO 3) j) lsv 0 ) (gV t_863 mV_X7_mix) hV_X7_mix ⟨(Nat.le_of_ble_eq_true rfl), (Nat.le_of_ble_eq_true rfl)⟩ rfl rfl [2] rfl rfl rfl hl.1 rfl (Nat.le_of_ble_eq_true rfl) dX7_digest_168 ⟨(Nat.le_of_ble_eq_true rfl), (Nat.le_of_ble_eq_true rfl)⟩) hP hD hS hA [2] [0, 1] rfl rfl rfl (by decide) (fun u_20 H locs hw_21 hP hD hS => ?_)
          have hP : va_P D vwCl [(m11, .inl (cJ, 80, .inr (.inl ll))), (m12, .inl (cI, 48, .inl fl)), (h0, .inr (7, [.int 0, .ref m1, .int 0, .ref m2, .ref m3, .ref m4, .ref m5, .int 0, .int 0, .ref m6, .int 0, .int 0, .int 0, .int 0, .ref m7, .int 0, .int 0, .int 0, .int 0, .ref m8, .ref m9, .ref m10, .int lsv, .ref m11, .ref m12, .ref m13, .long ((31 * (dC (dO 3) j)) + 0)]))] H := hP
          have hD : va_D A [(m11, .inl (cJ, 80, .inr (.inl ll))), (m12, .inl (cI, 48, .inl fl)), (h0, .inr (7, [.int 0, .ref m1, .int 0, .ref m2, .ref m3, .ref m4, .ref m5, .int 0, .int 0, .ref m6, .int 0, .int 0, .int 0, .int 0, .ref m7, .int 0, .int 0, .int 0, .int 0, .ref m8, .ref m9, .ref m10, .int lsv, .ref m11, .ref m12, .ref m13, .long ((31 * (dC (dO 3) j)) + 0)]))] := hD
          refine lv_iinc (v := nI (j + 1)) (lv' := [(1, .int (nI (j + 1))), (0, .ref h0)]) hx hb dX7_digest_171 hl (k := 1) rfl (nI_1 j) (by decide) rfl (fun ls hl => ?_)
          refine lv_goto (tgt := 155) hx hb dX7_digest_174 (by decide) ?_
          exact ih_155 (j + 1) (by omega) _ _ _ (hP.sub [2, 0, 1] rfl) (hD.sub [2, 0, 1] rfl rfl) hS (lv_sub hl [1, 0] rfl)
      exact LOOP_155 8 0 (by omega) _ _ _ (hP.sub [0, 1, 2] rfl) (hD.sub [0, 1, 2] rfl rfl) hS (lv_sub hl [1, 0] rfl)
    | succ n ih_110 =>
      intro i lsv ll fl hi hL H locs ls hP hD hS hl
      refine lv_iload_n hx hb dX7_digest_110 rfl (lv_at hl 1 rfl) ?_
      refine lv_iconst (v := 3) hx hb dX7_digest_111 (by decide) ?_
      refine lv_icmp_ge (tgt := 126) hx hb dX7_digest_112 (by decide) (fun c_22 => ?_) (fun c_22 => ?_)
      · exact absurd c_22 (nI_ge (a := i) (b := 3) (by omega) (by omega))
      refine lv_aload_n hx hb dX7_digest_115 rfl (lv_at hl 0 rfl) ?_
      refine lv_iload_n hx hb dX7_digest_116 rfl (lv_at hl 1 rfl) ?_
      refine xc_v (wc := [(h0, .inr (7, [.int 0, .ref m1, .int 0, .ref m2, .ref m3, .ref m4, .ref m5, .int 0, .int 0, .ref m6, .int 0, .int 0, .int 0, .int 0, .ref m7, .int 0, .int 0, .int 0, .int 0, .ref m8, .ref m9, .ref m10, .int lsv, .ref m11, .ref m12, .ref m13, .long (dO i)])), (m11, .inl (cJ, 80, .inr (.inl ll))), (m12, .inl (cI, 48, .inl fl))]) (wr := []) (xrV (n := 1) (As := [.int (nI i)]) (rest := []) (ci := 7) (q0 := 0) hd hK hP hD (c_mixOpen_g l D cI cJ cZ cR _ h0 m1 m2 m3 m4 m5 m6 m7 m8 m9 m10 m11 m12 m13 (dO i) ll fl i lsv (by omega) hL) (gV t_869 mV_X7_mixOpen) hV_X7_mixOpen ⟨(Nat.le_of_ble_eq_true rfl), (Nat.le_of_ble_eq_true rfl)⟩ rfl rfl [0, 1, 2] rfl rfl rfl hl.1 rfl (Nat.le_of_ble_eq_true rfl) dX7_digest_117 ⟨(Nat.le_of_ble_eq_true rfl), (Nat.le_of_ble_eq_true rfl)⟩) hP hD hS hA [0, 1, 2] [] rfl rfl rfl (by decide) (fun u_24 H locs hw_25 hP hD hS => ?_)
      obtain ⟨l2_26, f2_27⟩ := u_24
      have hw_28 : Lm l2_26 f2_27 := hw_25
      have hLm := hw_28
      have hP : va_P D vwCl [(h0, .inr (7, [.int 0, .ref m1, .int 0, .ref m2, .ref m3, .ref m4, .ref m5, .int 0, .int 0, .ref m6, .int 0, .int 0, .int 0, .int 0, .ref m7, .int 0, .int 0, .int 0, .int 0, .ref m8, .ref m9, .ref m10, .int 1, .ref m11, .ref m12, .ref m13, .long (dk ((31 * ((31 * (dO i)) + (-1003))) + 0) 16)])), (m11, .inl (cJ, 80, .inr (.inl l2_26))), (m12, .inl (cI, 48, .inl f2_27))] H := hP
      have hD : va_D A [(h0, .inr (7, [.int 0, .ref m1, .int 0, .ref m2, .ref m3, .ref m4, .ref m5, .int 0, .int 0, .ref m6, .int 0, .int 0, .int 0, .int 0, .ref m7, .int 0, .int 0, .int 0, .int 0, .ref m8, .ref m9, .ref m10, .int 1, .ref m11, .ref m12, .ref m13, .long (dk ((31 * ((31 * (dO i)) + (-1003))) + 0) 16)])), (m11, .inl (cJ, 80, .inr (.inl l2_26))), (m12, .inl (cI, 48, .inl f2_27))] := hD
      refine lv_iinc (v := nI (i + 1)) (lv' := [(1, .int (nI (i + 1))), (0, .ref h0)]) hx hb dX7_digest_120 hl (k := 1) rfl (nI_1 i) (by decide) rfl (fun ls hl => ?_)
      refine lv_goto (tgt := 110) hx hb dX7_digest_123 (by decide) ?_
      exact ih_110 (i + 1) 1 l2_26 f2_27 (by omega) (Or.inr ⟨rfl, hLm⟩) _ _ _ (hP.sub [0, 1, 2] rfl) (hD.sub [0, 1, 2] rfl rfl) hS (lv_sub hl [1, 0] rfl)
  exact LOOP_110 3 0 0 ll fl (by omega) (Or.inl rfl) _ _ _ (hP.sub [2, 0, 1] rfl) (hD.sub [2, 0, 1] rfl rfl) hS (lv_sub hl [1, 0] rfl)
end
