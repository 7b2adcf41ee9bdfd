theorem mV_X7_layRule : Cond.instanceMethod yX7_layRule ∈ gT ∧ Cond.selects RX7 yX7_layRule yX7_layRule ∈ gT ∧ Cond.initialized RX7 ∈ gT ∧ Cond.code yX7_layRule cX7_layRule 9 (some .boolean) ∈ gT := ⟨t_828, ts_56, t_8, t_829⟩
theorem hV_X7_layRule : yX7_layRule.cls = RX7 ∧ yX7_layRule.cls ≠ "java/lang/invoke/MethodHandle" ∧ yX7_layRule.cls ≠ "java/lang/invoke/VarHandle" ∧ (parseMethodDescriptor yX7_layRule.desc).map (fun d => d.parameters.length) = some 2 := by decide +kernel
theorem dX7_layRule_0 : decode cX7_layRule 0 = .ok (.iconst 0, 1) := by decide +kernel
theorem dX7_layRule_1 : decode cX7_layRule 1 = .ok (.istore_n 3, 1) := by decide +kernel
theorem dX7_layRule_2 : decode cX7_layRule 2 = .ok (.iconst 1, 1) := by decide +kernel
theorem dX7_layRule_3 : decode cX7_layRule 3 = .ok (.istore 4, 2) := by decide +kernel
theorem dX7_layRule_5 : decode cX7_layRule 5 = .ok (.iconst 0, 1) := by decide +kernel
theorem dX7_layRule_6 : decode cX7_layRule 6 = .ok (.istore 5, 2) := by decide +kernel
theorem dX7_layRule_8 : decode cX7_layRule 8 = .ok (.iload 5, 2) := by decide +kernel
theorem dX7_layRule_10 : decode cX7_layRule 10 = .ok (.aload_n 0, 1) := by decide +kernel
theorem dX7_layRule_11 : decode cX7_layRule 11 = .ok (.getfield 16, 3) := by decide +kernel
theorem dX7_layRule_14 : decode cX7_layRule 14 = .ok (.iload_n 1, 1) := by decide +kernel
theorem dX7_layRule_15 : decode cX7_layRule 15 = .ok (.iaload, 1) := by decide +kernel
theorem dX7_layRule_16 : decode cX7_layRule 16 = .ok (.if_icmp .ge 16, 3) := by decide +kernel
theorem dX7_layRule_19 : decode cX7_layRule 19 = .ok (.iload 4, 2) := by decide +kernel
theorem dX7_layRule_21 : decode cX7_layRule 21 = .ok (.bipush 16, 2) := by decide +kernel
theorem dX7_layRule_23 : decode cX7_layRule 23 = .ok (.imul, 1) := by decide +kernel
theorem dX7_layRule_24 : decode cX7_layRule 24 = .ok (.istore 4, 2) := by decide +kernel
theorem dX7_layRule_26 : decode cX7_layRule 26 = .ok (.iinc 5 1, 3) := by decide +kernel
theorem dX7_layRule_29 : decode cX7_layRule 29 = .ok (.goto (-21), 3) := by decide +kernel
theorem dX7_layRule_32 : decode cX7_layRule 32 = .ok (.iconst 0, 1) := by decide +kernel
theorem dX7_layRule_33 : decode cX7_layRule 33 = .ok (.istore 5, 2) := by decide +kernel
theorem dX7_layRule_35 : decode cX7_layRule 35 = .ok (.iload 5, 2) := by decide +kernel
theorem dX7_layRule_37 : decode cX7_layRule 37 = .ok (.iload 4, 2) := by decide +kernel
theorem dX7_layRule_39 : decode cX7_layRule 39 = .ok (.if_icmp .ge 114, 3) := by decide +kernel
theorem dX7_layRule_42 : decode cX7_layRule 42 = .ok (.lconst 1, 1) := by decide +kernel
theorem dX7_layRule_43 : decode cX7_layRule 43 = .ok (.lstore 6, 2) := by decide +kernel
theorem dX7_layRule_45 : decode cX7_layRule 45 = .ok (.iconst 0, 1) := by decide +kernel
theorem dX7_layRule_46 : decode cX7_layRule 46 = .ok (.istore 8, 2) := by decide +kernel
theorem dX7_layRule_48 : decode cX7_layRule 48 = .ok (.iload 8, 2) := by decide +kernel
theorem dX7_layRule_50 : decode cX7_layRule 50 = .ok (.aload_n 0, 1) := by decide +kernel
theorem dX7_layRule_51 : decode cX7_layRule 51 = .ok (.getfield 16, 3) := by decide +kernel
theorem dX7_layRule_54 : decode cX7_layRule 54 = .ok (.iload_n 1, 1) := by decide +kernel
theorem dX7_layRule_55 : decode cX7_layRule 55 = .ok (.iaload, 1) := by decide +kernel
theorem dX7_layRule_56 : decode cX7_layRule 56 = .ok (.if_icmp .ge 61, 3) := by decide +kernel
theorem dX7_layRule_59 : decode cX7_layRule 59 = .ok (.aload_n 0, 1) := by decide +kernel
theorem dX7_layRule_60 : decode cX7_layRule 60 = .ok (.getfield 47, 3) := by decide +kernel
theorem dX7_layRule_63 : decode cX7_layRule 63 = .ok (.iload 8, 2) := by decide +kernel
theorem dX7_layRule_65 : decode cX7_layRule 65 = .ok (.iload 5, 2) := by decide +kernel
theorem dX7_layRule_67 : decode cX7_layRule 67 = .ok (.iconst 4, 1) := by decide +kernel
theorem dX7_layRule_68 : decode cX7_layRule 68 = .ok (.iload 8, 2) := by decide +kernel
theorem dX7_layRule_70 : decode cX7_layRule 70 = .ok (.imul, 1) := by decide +kernel
theorem dX7_layRule_71 : decode cX7_layRule 71 = .ok (.ishr, 1) := by decide +kernel
theorem dX7_layRule_72 : decode cX7_layRule 72 = .ok (.bipush 15, 2) := by decide +kernel
theorem dX7_layRule_74 : decode cX7_layRule 74 = .ok (.iand, 1) := by decide +kernel
theorem dX7_layRule_75 : decode cX7_layRule 75 = .ok (.iastore, 1) := by decide +kernel
theorem dX7_layRule_76 : decode cX7_layRule 76 = .ok (.lload 6, 2) := by decide +kernel
theorem dX7_layRule_78 : decode cX7_layRule 78 = .ok (.aload_n 0, 1) := by decide +kernel
theorem dX7_layRule_79 : decode cX7_layRule 79 = .ok (.getfield 40, 3) := by decide +kernel
theorem dX7_layRule_82 : decode cX7_layRule 82 = .ok (.bipush 16, 2) := by decide +kernel
theorem dX7_layRule_84 : decode cX7_layRule 84 = .ok (.aload_n 0, 1) := by decide +kernel
theorem dX7_layRule_85 : decode cX7_layRule 85 = .ok (.getfield 22, 3) := by decide +kernel
theorem dX7_layRule_88 : decode cX7_layRule 88 = .ok (.iconst 3, 1) := by decide +kernel
theorem dX7_layRule_89 : decode cX7_layRule 89 = .ok (.iload_n 1, 1) := by decide +kernel
theorem dX7_layRule_90 : decode cX7_layRule 90 = .ok (.imul, 1) := by decide +kernel
theorem dX7_layRule_91 : decode cX7_layRule 91 = .ok (.iload 8, 2) := by decide +kernel
theorem dX7_layRule_93 : decode cX7_layRule 93 = .ok (.iadd, 1) := by decide +kernel
theorem dX7_layRule_94 : decode cX7_layRule 94 = .ok (.iaload, 1) := by decide +kernel
theorem dX7_layRule_95 : decode cX7_layRule 95 = .ok (.invokestatic 127, 3) := by decide +kernel
theorem dX7_layRule_98 : decode cX7_layRule 98 = .ok (.imul, 1) := by decide +kernel
theorem dX7_layRule_99 : decode cX7_layRule 99 = .ok (.aload_n 0, 1) := by decide +kernel
theorem dX7_layRule_100 : decode cX7_layRule 100 = .ok (.getfield 47, 3) := by decide +kernel
theorem dX7_layRule_103 : decode cX7_layRule 103 = .ok (.iload 8, 2) := by decide +kernel
theorem dX7_layRule_105 : decode cX7_layRule 105 = .ok (.iaload, 1) := by decide +kernel
theorem dX7_layRule_106 : decode cX7_layRule 106 = .ok (.iadd, 1) := by decide +kernel
theorem dX7_layRule_107 : decode cX7_layRule 107 = .ok (.laload, 1) := by decide +kernel
theorem dX7_layRule_108 : decode cX7_layRule 108 = .ok (.ladd, 1) := by decide +kernel
theorem dX7_layRule_109 : decode cX7_layRule 109 = .ok (.lstore 6, 2) := by decide +kernel
theorem dX7_layRule_111 : decode cX7_layRule 111 = .ok (.iinc 8 1, 3) := by decide +kernel
theorem dX7_layRule_114 : decode cX7_layRule 114 = .ok (.goto (-66), 3) := by decide +kernel
theorem dX7_layRule_117 : decode cX7_layRule 117 = .ok (.lload 6, 2) := by decide +kernel
theorem dX7_layRule_119 : decode cX7_layRule 119 = .ok (.ldc2_w 210, 3) := by decide +kernel
theorem dX7_layRule_122 : decode cX7_layRule 122 = .ok (.lcmp, 1) := by decide +kernel
theorem dX7_layRule_123 : decode cX7_layRule 123 = .ok (.ifCond .ge 24, 3) := by decide +kernel
theorem dX7_layRule_126 : decode cX7_layRule 126 = .ok (.aload_n 0, 1) := by decide +kernel
theorem dX7_layRule_127 : decode cX7_layRule 127 = .ok (.iload_n 1, 1) := by decide +kernel
theorem dX7_layRule_128 : decode cX7_layRule 128 = .ok (.lload 6, 2) := by decide +kernel
theorem dX7_layRule_130 : decode cX7_layRule 130 = .ok (.iload_n 2, 1) := by decide +kernel
theorem dX7_layRule_131 : decode cX7_layRule 131 = .ok (.invokevirtual 212, 3) := by decide +kernel
theorem dX7_layRule_134 : decode cX7_layRule 134 = .ok (.ifCond .ne 7, 3) := by decide +kernel
theorem dX7_layRule_137 : decode cX7_layRule 137 = .ok (.iload_n 3, 1) := by decide +kernel
theorem dX7_layRule_138 : decode cX7_layRule 138 = .ok (.ifCond .eq 7, 3) := by decide +kernel
theorem dX7_layRule_141 : decode cX7_layRule 141 = .ok (.iconst 1, 1) := by decide +kernel
theorem dX7_layRule_142 : decode cX7_layRule 142 = .ok (.goto 4, 3) := by decide +kernel
theorem dX7_layRule_145 : decode cX7_layRule 145 = .ok (.iconst 0, 1) := by decide +kernel
theorem dX7_layRule_146 : decode cX7_layRule 146 = .ok (.istore_n 3, 1) := by decide +kernel
theorem dX7_layRule_147 : decode cX7_layRule 147 = .ok (.iinc 5 1, 3) := by decide +kernel
theorem dX7_layRule_150 : decode cX7_layRule 150 = .ok (.goto (-115), 3) := by decide +kernel
theorem dX7_layRule_153 : decode cX7_layRule 153 = .ok (.iload_n 3, 1) := by decide +kernel
theorem dX7_layRule_154 : decode cX7_layRule 154 = .ok (.ireturn, 1) := by decide +kernel
section
variable (l : Launch) (D : va_G) (cI cJ cZ cR : ClassId)
set_option maxHeartbeats 4000000 in
set_option maxRecDepth 100000 in
theorem g_layRule_0 (sz : Nat) (m0 : Nat) (m1 : Nat) (m2 : Nat) (m3 : Nat) (m4 : Nat) (m5 : Nat) (m6 : Nat) (m7 : Nat) (m8 : Nat) (m9 : Nat) (m10 : Nat) (m11 : Nat) (m12 : Nat) (m13 : Nat) (z : Nat) (r9 : Nat) (n9 : Nat) (v : Nat) (k1 : Int32) (k2 : Int32) (k3 : Int32) (k4 : Int32) (k5 : Int32) (k6 : Int32) (k7 : Int32) (k8 : Int32) (k9 : Int32) (hv : Int64) (j : Nat) (e9 : Nat) (re : Nat → Int32) (rg : Nat → Int32) (cn : Nat → Int32) (ro : Nat → Int32) (fa : Nat → Int32) (la : Nat → Int64) (o9 : Nat) (hj : j < 9) (hej : re j = nI e9) (he3 : e9 ≤ 3) (hoj : ro j = nI o9) (ho3 : o9 < 3) (hLR : LR la) (hev : ∀ k, k < e9 → EV 4 (rg (3 * j + k))) : CTi l D cI cJ cZ cR yX7_layRule cX7_layRule 9 (some .boolean) 3 73 0 0 sz [.ref m0, .int (nI j), .int 0] [kX7 m0 (nI z) m1 (nI r9) m2 m3 m4 m5 (nI n9) (nI v) m6 k1 k2 k3 k4 m7 k5 k6 k7 k8 m8 m9 m10 k9 m11 m12 m13 hv, kI cI m3 9 re, kI cI m5 27 rg, kI cI m13 3 cn, kI cI m2 9 ro, kJ cJ m11 80 la, kI cI m12 48 fa] (fun (r : Int32) (u : (Nat → Int64) × (Nat → Int32)) => (LD la u.1 r)) (fun (u : (Nat → Int64) × (Nat → Int32)) => [kX7 m0 (nI z) m1 (nI r9) m2 m3 m4 m5 (nI n9) (nI v) m6 k1 k2 k3 k4 m7 k5 k6 k7 k8 m8 m9 m10 k9 m11 m12 m13 hv, kI cI m3 9 re, kI cI m5 27 rg, kI cI m13 3 u.2, kI cI m2 9 ro, kJ cJ m11 80 u.1, kI cI m12 48 fa]) := by
  refine CTi.of (ty := .boolean) (by decide) (Nat.le_of_ble_eq_true rfl) rfl ?_
  intro p e s m below meth c A Q ls hd hin hK hsz hP hD hA hS hl hret
  obtain ⟨hx, hb, hml, hown, hts⟩ := id hd
  have hK1 := hK.1
  have hown : s.vm.findClass RX7 = some m.cls := hown
  have hl : lv_has ls 9 [(0, .ref m0), (1, .int (nI j)), (2, .int 0)] := hl
  refine lv_iconst (v := 0) hx hb dX7_layRule_0 (by decide) ?_
  refine lv_istore_n (lv' := [(3, .int 0), (0, .ref m0), (1, .int (nI j)), (2, .int 0)]) hx hb dX7_layRule_1 rfl hl (by decide) rfl (fun ls hl => ?_)
  refine lv_iconst (v := 1) hx hb dX7_layRule_2 (by decide) ?_
  refine lv_istore (lv' := [(4, .int 1), (3, .int 0), (0, .ref m0), (1, .int (nI j)), (2, .int 0)]) hx hb dX7_layRule_3 hl (by decide) rfl (fun ls hl => ?_)
  refine lv_iconst (v := 0) hx hb dX7_layRule_5 (by decide) ?_
  refine lv_istore (lv' := [(5, .int 0), (4, .int 1), (3, .int 0), (0, .ref m0), (1, .int (nI j)), (2, .int 0)]) hx hb dX7_layRule_6 hl (by decide) rfl (fun ls hl => ?_)
  have LOOP_8 : ∀ (n : Nat) (i : Nat) (a9 : Nat), (i + n = e9) → (a9 = 16 ^ i) → ∀ (H : Heap) (locs : List Loc) (ls : Array Slot), va_P D vwCl [kX7 m0 (nI z) m1 (nI r9) m2 m3 m4 m5 (nI n9) (nI v) m6 k1 k2 k3 k4 m7 k5 k6 k7 k8 m8 m9 m10 k9 m11 m12 m13 hv, kI cI m3 9 re, kI cI m5 27 rg, kI cI m13 3 cn, kI cI m2 9 ro, kJ cJ m11 80 la, kI cI m12 48 fa] H → va_D A [kX7 m0 (nI z) m1 (nI r9) m2 m3 m4 m5 (nI n9) (nI v) m6 k1 k2 k3 k4 m7 k5 k6 k7 k8 m8 m9 m10 k9 m11 m12 m13 hv, kI cI m3 9 re, kI cI m5 27 rg, kI cI m13 3 cn, kI cI m2 9 ro, kJ cJ m11 80 la, kI cI m12 48 fa] → va_S A s.heap H locs → lv_has ls 9 [(0, .ref m0), (1, .int (nI j)), (2, .int 0), (3, .int 0), (4, .int (nI a9)), (5, .int (nI i))] → W p l e (rM 3 0 0 73) s m ([.ref m0, .int (nI j), .int 0] : List Value).toArray below meth c H locs 0 0 Q (F0 m 8 ls []) := by
    intro n
    induction n with
    | zero =>
      intro i a9 hi ha9 H locs ls hP hD hS hl
      have h4096 := pow16 (i := i) (by omega)
      refine lv_iload hx hb dX7_layRule_8 (lv_at hl 5 rfl) ?_
      refine lv_aload_n hx hb dX7_layRule_10 rfl (lv_at hl 0 rfl) ?_
      refine va_get (D := D) (ci := 7) (v := .ref m3) (C := RX7) (T := TX7) (N := 27) hx hb hts iT_X7 hown hK1 hP 0 rfl rfl 4 (by decide) (hts _ t_555) (fun _ h9 => h9) rfl dX7_layRule_11 ?_
      refine lv_iload_n hx hb dX7_layRule_14 rfl (lv_at hl 1 rfl) ?_
      refine va_iald hx hb hK1 hP 1 0 rfl rfl (vp_in_nI (by omega) (by omega)) dX7_layRule_15 ?_
      refine lv_nmi (show _ = re j from by rw [nI_clamp (n := j) (by omega)]) ?_
      refine lv_nmi (show _ = (nI e9 : Int32) from hej) ?_
      refine lv_icmp_ge (tgt := 32) hx hb dX7_layRule_16 (by decide) (fun c_1 => ?_) (fun c_1 => ?_)
      rotate_left
      · exact absurd (nI_le (a := e9) (b := i) (by omega) (by omega)) c_1
      refine lv_iconst (v := 0) hx hb dX7_layRule_32 (by decide) ?_
      refine lv_istore (lv' := [(5, .int 0), (0, .ref m0), (1, .int (nI j)), (2, .int 0), (3, .int 0), (4, .int (nI a9))]) hx hb dX7_layRule_33 hl (by decide) rfl (fun ls hl => ?_)
      have LOOP_35 : ∀ (n : Nat) (t : Nat) (go : Int32) (lx : Nat → Int64) (cx : Nat → Int32), (t + n = a9) → (LD la lx go) → ∀ (H : Heap) (locs : List Loc) (ls : Array Slot), va_P D vwCl [kX7 m0 (nI z) m1 (nI r9) m2 m3 m4 m5 (nI n9) (nI v) m6 k1 k2 k3 k4 m7 k5 k6 k7 k8 m8 m9 m10 k9 m11 m12 m13 hv, kI cI m3 9 re, kI cI m5 27 rg, kI cI m13 3 cx, kI cI m2 9 ro, kJ cJ m11 80 lx, kI cI m12 48 fa] H → va_D A [kX7 m0 (nI z) m1 (nI r9) m2 m3 m4 m5 (nI n9) (nI v) m6 k1 k2 k3 k4 m7 k5 k6 k7 k8 m8 m9 m10 k9 m11 m12 m13 hv, kI cI m3 9 re, kI cI m5 27 rg, kI cI m13 3 cx, kI cI m2 9 ro, kJ cJ m11 80 lx, kI cI m12 48 fa] → va_S A s.heap H locs → lv_has ls 9 [(0, .ref m0), (1, .int (nI j)), (2, .int 0), (3, .int go), (4, .int (nI a9)), (5, .int (nI t))] → W p l e (rM 3 0 0 73) s m ([.ref m0, .int (nI j), .int 0] : List Value).toArray below meth c H locs 0 0 Q (F0 m 35 ls []) := by
        intro n
        induction n with
        | zero =>
          intro t go lx cx ht hLD H locs ls hP hD hS hl
          refine lv_iload hx hb dX7_layRule_35 (lv_at hl 5 rfl) ?_
          refine lv_iload hx hb dX7_layRule_37 (lv_at hl 4 rfl) ?_
          refine lv_icmp_ge (tgt := 153) hx hb dX7_layRule_39 (by decide) (fun c_2 => ?_) (fun c_2 => ?_)
          rotate_left
          · exact absurd (nI_le (a := a9) (b := t) (by omega) (by omega)) c_2
          refine lv_iload_n hx hb dX7_layRule_153 rfl (lv_at hl 3 rfl) ?_
          exact hret _ _ _ _ _ _ go (lx, cx) dX7_layRule_154 (hLD.nar) hS (Nat.le_of_ble_eq_true rfl) (Nat.le_of_ble_eq_true rfl) hLD (hP.sub [0, 1, 2, 3, 4, 5, 6] rfl) (hD.sub [0, 1, 2, 3, 4, 5, 6] rfl rfl)
        | succ n ih_35 =>
          intro t go lx cx ht hLD H locs ls hP hD hS hl
          refine lv_iload hx hb dX7_layRule_35 (lv_at hl 5 rfl) ?_
          refine lv_iload hx hb dX7_layRule_37 (lv_at hl 4 rfl) ?_
          refine lv_icmp_ge (tgt := 153) hx hb dX7_layRule_39 (by decide) (fun c_3 => ?_) (fun c_3 => ?_)
          · exact absurd c_3 (nI_ge (a := t) (b := a9) (by omega) (by omega))
          refine lv_lconst (v := 1) hx hb dX7_layRule_42 (by decide) ?_
          refine lv_lstore (lv' := [(6, .long 1), (0, .ref m0), (1, .int (nI j)), (2, .int 0), (3, .int go), (4, .int (nI a9)), (5, .int (nI t))]) hx hb dX7_layRule_43 hl (by decide) rfl (fun ls hl => ?_)
          refine lv_iconst (v := 0) hx hb dX7_layRule_45 (by decide) ?_
          refine lv_istore (lv' := [(8, .int 0), (6, .long 1), (0, .ref m0), (1, .int (nI j)), (2, .int 0), (3, .int go), (4, .int (nI a9)), (5, .int (nI t))]) hx hb dX7_layRule_46 hl (by decide) rfl (fun ls hl => ?_)
          have LOOP_48 : ∀ (n : Nat) (k : Nat) (nw : Int64) (cy : Nat → Int32), (k + n = e9) → (NB nw k) → ∀ (H : Heap) (locs : List Loc) (ls : Array Slot), va_P D vwCl [kX7 m0 (nI z) m1 (nI r9) m2 m3 m4 m5 (nI n9) (nI v) m6 k1 k2 k3 k4 m7 k5 k6 k7 k8 m8 m9 m10 k9 m11 m12 m13 hv, kI cI m3 9 re, kI cI m5 27 rg, kI cI m13 3 cy, kI cI m2 9 ro, kJ cJ m11 80 lx, kI cI m12 48 fa] H → va_D A [kX7 m0 (nI z) m1 (nI r9) m2 m3 m4 m5 (nI n9) (nI v) m6 k1 k2 k3 k4 m7 k5 k6 k7 k8 m8 m9 m10 k9 m11 m12 m13 hv, kI cI m3 9 re, kI cI m5 27 rg, kI cI m13 3 cy, kI cI m2 9 ro, kJ cJ m11 80 lx, kI cI m12 48 fa] → va_S A s.heap H locs → lv_has ls 9 [(0, .ref m0), (1, .int (nI j)), (2, .int 0), (3, .int go), (4, .int (nI a9)), (5, .int (nI t)), (6, .long nw), (8, .int (nI k))] → W p l e (rM 3 0 0 73) s m ([.ref m0, .int (nI j), .int 0] : List Value).toArray below meth c H locs 0 0 Q (F0 m 48 ls []) := by
            intro n
            induction n with
            | zero =>
              intro k nw cy hk hNB H locs ls hP hD hS hl
              refine lv_iload hx hb dX7_layRule_48 (lv_at hl 7 rfl) ?_
              refine lv_aload_n hx hb dX7_layRule_50 rfl (lv_at hl 0 rfl) ?_
              refine va_get (D := D) (ci := 7) (v := .ref m3) (C := RX7) (T := TX7) (N := 27) hx hb hts iT_X7 hown hK1 hP 0 rfl rfl 4 (by decide) (hts _ t_555) (fun _ h9 => h9) rfl dX7_layRule_51 ?_
              refine lv_iload_n hx hb dX7_layRule_54 rfl (lv_at hl 1 rfl) ?_
              refine va_iald hx hb hK1 hP 1 0 rfl rfl (vp_in_nI (by omega) (by omega)) dX7_layRule_55 ?_
              refine lv_nmi (show _ = re j from by rw [nI_clamp (n := j) (by omega)]) ?_
              refine lv_nmi (show _ = (nI e9 : Int32) from hej) ?_
              refine lv_icmp_ge (tgt := 117) hx hb dX7_layRule_56 (by decide) (fun c_4 => ?_) (fun c_4 => ?_)
              rotate_left
              · exact absurd (nI_le (a := e9) (b := k) (by omega) (by omega)) c_4
              refine lv_lload hx hb dX7_layRule_117 (lv_at hl 6 rfl) ?_
              refine lv_ldc2 hx hb hown (hts _ t_825) dX7_layRule_119 ?_
              refine W.lcmp hx hb dX7_layRule_122 ?_
              refine lv_if_ge (tgt := 147) hx hb dX7_layRule_123 (by decide) (fun c_5 => ?_) (fun c_5 => ?_)
              · skip
                refine lv_iinc (v := nI (t + 1)) (lv' := [(5, .int (nI (t + 1))), (0, .ref m0), (1, .int (nI j)), (2, .int 0), (3, .int go), (4, .int (nI a9)), (6, .long nw), (8, .int (nI k))]) hx hb dX7_layRule_147 hl (k := 5) rfl (nI_1 t) (by decide) rfl (fun ls hl => ?_)
                refine lv_goto (tgt := 35) hx hb dX7_layRule_150 (by decide) ?_
                exact ih_35 (t + 1) go lx cy (by omega) hLD _ _ _ (hP.sub [0, 1, 2, 3, 4, 5, 6] rfl) (hD.sub [0, 1, 2, 3, 4, 5, 6] rfl rfl) hS (lv_sub hl [1, 2, 3, 4, 5, 0] rfl)
              · skip
                refine lv_aload_n hx hb dX7_layRule_126 rfl (lv_at hl 0 rfl) ?_
                refine lv_iload_n hx hb dX7_layRule_127 rfl (lv_at hl 1 rfl) ?_
                refine lv_lload hx hb dX7_layRule_128 (lv_at hl 6 rfl) ?_
                refine lv_iload_n hx hb dX7_layRule_130 rfl (lv_at hl 2 rfl) ?_
                refine xc_i (wc := [kX7 m0 (nI z) m1 (nI r9) m2 m3 m4 m5 (nI n9) (nI v) m6 k1 k2 k3 k4 m7 k5 k6 k7 k8 m8 m9 m10 k9 m11 m12 m13 hv, kI cI m3 9 re, kI cI m5 27 rg, kI cI m13 3 cy, kI cI m2 9 ro, kJ cJ m11 80 lx, kI cI m12 48 fa]) (wr := []) (xrV (n := 3) (As := [.int (nI j), .long nw, .int 0]) (rest := []) (ci := 7) (q0 := 0) hd hK hP hD (g_layLight_0 l D cI cJ cZ cR _ m0 m1 m2 m3 m4 m5 m6 m7 m8 m9 m10 m11 m12 m13 z r9 n9 v k1 k2 k3 k4 k5 k6 k7 k8 k9 hv j e9 re rg cy ro fa lx o9 nw hj hej he3 hoj ho3 hLD.1 hNB.1) (gV t_830 mV_X7_layLight) hV_X7_layLight ⟨(Nat.le_of_ble_eq_true rfl), (Nat.le_of_ble_eq_true rfl)⟩ rfl rfl [0, 1, 2, 3, 4, 5, 6] rfl rfl rfl hl.1 rfl (Nat.le_of_ble_eq_true rfl) dX7_layRule_131 ⟨(Nat.le_of_ble_eq_true rfl), (Nat.le_of_ble_eq_true rfl)⟩) hP hD hS hA [0, 1, 2, 3, 4, 5, 6] [] rfl rfl rfl (by decide) (fun r_6 u_7 H locs hw_8 hP hD hS => ?_)
                obtain ⟨la2_9, rfl⟩ : ∃ z9, z9 = u_7 := ⟨_, rfl⟩
                have hw_10 : LD lx la2_9 r_6 := hw_8
                have hL2 := hw_10
                have hP : va_P D vwCl [kX7 m0 (nI z) m1 (nI r9) m2 m3 m4 m5 (nI n9) (nI v) m6 k1 k2 k3 k4 m7 k5 k6 k7 k8 m8 m9 m10 k9 m11 m12 m13 hv, kI cI m3 9 re, kI cI m5 27 rg, kI cI m13 3 cy, kI cI m2 9 ro, kJ cJ m11 80 la2_9, kI cI m12 48 fa] H := hP
                have hD : va_D A [kX7 m0 (nI z) m1 (nI r9) m2 m3 m4 m5 (nI n9) (nI v) m6 k1 k2 k3 k4 m7 k5 k6 k7 k8 m8 m9 m10 k9 m11 m12 m13 hv, kI cI m3 9 re, kI cI m5 27 rg, kI cI m13 3 cy, kI cI m2 9 ro, kJ cJ m11 80 la2_9, kI cI m12 48 fa] := hD
                refine lv_if_ne (tgt := 141) hx hb dX7_layRule_134 (by decide) (fun c_11 => ?_) (fun c_11 => ?_)
                · skip
                  refine lv_iconst (v := 1) hx hb dX7_layRule_141 (by decide) ?_
                  refine lv_goto (tgt := 146) hx hb dX7_layRule_142 (by decide) ?_
                  refine lv_istore_n (lv' := [(3, .int 1), (0, .ref m0), (1, .int (nI j)), (2, .int 0), (4, .int (nI a9)), (5, .int (nI t)), (6, .long nw), (8, .int (nI k))]) hx hb dX7_layRule_146 rfl hl (by decide) rfl (fun ls hl => ?_)
                  refine lv_iinc (v := nI (t + 1)) (lv' := [(5, .int (nI (t + 1))), (3, .int 1), (0, .ref m0), (1, .int (nI j)), (2, .int 0), (4, .int (nI a9)), (6, .long nw), (8, .int (nI k))]) hx hb dX7_layRule_147 hl (k := 5) rfl (nI_1 t) (by decide) rfl (fun ls hl => ?_)
                  refine lv_goto (tgt := 35) hx hb dX7_layRule_150 (by decide) ?_
                  exact ih_35 (t + 1) 1 la2_9 cy (by omega) (LD_1 hLD hL2 c_11) _ _ _ (hP.sub [0, 1, 2, 3, 4, 5, 6] rfl) (hD.sub [0, 1, 2, 3, 4, 5, 6] rfl rfl) hS (lv_sub hl [2, 3, 4, 1, 5, 0] rfl)
                · skip
                  refine lv_iload_n hx hb dX7_layRule_137 rfl (lv_at hl 3 rfl) ?_
                  refine lv_if_eq (tgt := 145) hx hb dX7_layRule_138 (by decide) (fun c_12 => ?_) (fun c_12 => ?_)
                  · skip
                    refine lv_iconst (v := 0) hx hb dX7_layRule_145 (by decide) ?_
                    refine lv_istore_n (lv' := [(3, .int 0), (0, .ref m0), (1, .int (nI j)), (2, .int 0), (4, .int (nI a9)), (5, .int (nI t)), (6, .long nw), (8, .int (nI k))]) hx hb dX7_layRule_146 rfl hl (by decide) rfl (fun ls hl => ?_)
                    refine lv_iinc (v := nI (t + 1)) (lv' := [(5, .int (nI (t + 1))), (3, .int 0), (0, .ref m0), (1, .int (nI j)), (2, .int 0), (4, .int (nI a9)), (6, .long nw), (8, .int (nI k))]) hx hb dX7_layRule_147 hl (k := 5) rfl (nI_1 t) (by decide) rfl (fun ls hl => ?_)
                    refine lv_goto (tgt := 35) hx hb dX7_layRule_150 (by decide) ?_
                    exact ih_35 (t + 1) 0 la2_9 cy (by omega) (LD_3 hLD hL2) _ _ _ (hP.sub [0, 1, 2, 3, 4, 5, 6] rfl) (hD.sub [0, 1, 2, 3, 4, 5, 6] rfl rfl) hS (lv_sub hl [2, 3, 4, 1, 5, 0] rfl)
                  · skip
                    refine lv_iconst (v := 1) hx hb dX7_layRule_141 (by decide) ?_
                    refine lv_goto (tgt := 146) hx hb dX7_layRule_142 (by decide) ?_
                    refine lv_istore_n (lv' := [(3, .int 1), (0, .ref m0), (1, .int (nI j)), (2, .int 0), (4, .int (nI a9)), (5, .int (nI t)), (6, .long nw), (8, .int (nI k))]) hx hb dX7_layRule_146 rfl hl (by decide) rfl (fun ls hl => ?_)
                    refine lv_iinc (v := nI (t + 1)) (lv' := [(5, .int (nI (t + 1))), (3, .int 1), (0, .ref m0), (1, .int (nI j)), (2, .int 0), (4, .int (nI a9)), (6, .long nw), (8, .int (nI k))]) hx hb dX7_layRule_147 hl (k := 5) rfl (nI_1 t) (by decide) rfl (fun ls hl => ?_)
                    refine lv_goto (tgt := 35) hx hb dX7_layRule_150 (by decide) ?_
                    exact ih_35 (t + 1) 1 la2_9 cy (by omega) (LD_2 hLD hL2 c_12) _ _ _ (hP.sub [0, 1, 2, 3, 4, 5, 6] rfl) (hD.sub [0, 1, 2, 3, 4, 5, 6] rfl rfl) hS (lv_sub hl [2, 3, 4, 1, 5, 0] rfl)
            | succ n ih_48 =>
              intro k nw cy hk hNB H locs ls hP hD hS hl
              refine lv_iload hx hb dX7_layRule_48 (lv_at hl 7 rfl) ?_
              refine lv_aload_n hx hb dX7_layRule_50 rfl (lv_at hl 0 rfl) ?_
              refine va_get (D := D) (ci := 7) (v := .ref m3) (C := RX7) (T := TX7) (N := 27) hx hb hts iT_X7 hown hK1 hP 0 rfl rfl 4 (by decide) (hts _ t_555) (fun _ h9 => h9) rfl dX7_layRule_51 ?_
              refine lv_iload_n hx hb dX7_layRule_54 rfl (lv_at hl 1 rfl) ?_
              refine va_iald hx hb hK1 hP 1 0 rfl rfl (vp_in_nI (by omega) (by omega)) dX7_layRule_55 ?_
              refine lv_nmi (show _ = re j from by rw [nI_clamp (n := j) (by omega)]) ?_
              refine lv_nmi (show _ = (nI e9 : Int32) from hej) ?_
              refine lv_icmp_ge (tgt := 117) hx hb dX7_layRule_56 (by decide) (fun c_13 => ?_) (fun c_13 => ?_)
              · exact absurd c_13 (nI_ge (a := k) (b := e9) (by omega) (by omega))
              refine lv_aload_n hx hb dX7_layRule_59 rfl (lv_at hl 0 rfl) ?_
              refine va_get (D := D) (ci := 7) (v := .ref m13) (C := RX7) (T := TX7) (N := 27) hx hb hts iT_X7 hown hK1 hP 0 rfl rfl 25 (by decide) (hts _ t_576) (fun _ h9 => h9) rfl dX7_layRule_60 ?_
              refine lv_iload hx hb dX7_layRule_63 (lv_at hl 7 rfl) ?_
              refine lv_iload hx hb dX7_layRule_65 (lv_at hl 5 rfl) ?_
              refine lv_iconst (v := 4) hx hb dX7_layRule_67 (by decide) ?_
              refine lv_iload hx hb dX7_layRule_68 (lv_at hl 7 rfl) ?_
              refine lv_imul hx hb dX7_layRule_70 ?_
              refine lv_nmi (show _ = (nI (4 * k)) from pk_mul (4) (k)) ?_
              refine lv_ishr hx hb dX7_layRule_71 ?_
              obtain ⟨q15, hq15, eq15⟩ := and15 (nI t >>> (nI (4 * k) &&& 31))
              refine lv_bipush (v := 15) hx hb dX7_layRule_72 (by decide) ?_
              refine lv_iand hx hb dX7_layRule_74 ?_
              refine lv_nmi (show _ = (nI q15 : Int32) from eq15) ?_
              refine va_iast hx hb hK1 hP hD hS 3 0 rfl rfl (vp_in_nI (by omega) (by omega)) dX7_layRule_75 (fun H locs hP hD hS => ?_)
              rw [nI_clamp (n := k) (by omega)] at hP hD
              have hP : va_P D vwCl [kX7 m0 (nI z) m1 (nI r9) m2 m3 m4 m5 (nI n9) (nI v) m6 k1 k2 k3 k4 m7 k5 k6 k7 k8 m8 m9 m10 k9 m11 m12 m13 hv, kI cI m3 9 re, kI cI m5 27 rg, kI cI m13 3 (upd cy k (nI q15)), kI cI m2 9 ro, kJ cJ m11 80 lx, kI cI m12 48 fa] H := hP
              have hD : va_D A [kX7 m0 (nI z) m1 (nI r9) m2 m3 m4 m5 (nI n9) (nI v) m6 k1 k2 k3 k4 m7 k5 k6 k7 k8 m8 m9 m10 k9 m11 m12 m13 hv, kI cI m3 9 re, kI cI m5 27 rg, kI cI m13 3 (upd cy k (nI q15)), kI cI m2 9 ro, kJ cJ m11 80 lx, kI cI m12 48 fa] := hD
              refine lv_lload hx hb dX7_layRule_76 (lv_at hl 6 rfl) ?_
              refine lv_aload_n hx hb dX7_layRule_78 rfl (lv_at hl 0 rfl) ?_
              refine va_get (D := D) (ci := 7) (v := .ref m11) (C := RX7) (T := TX7) (N := 27) hx hb hts iT_X7 hown hK1 hP 0 rfl rfl 23 (by decide) (hts _ t_574) (fun _ h9 => h9) rfl dX7_layRule_79 ?_
              refine lv_bipush (v := 16) hx hb dX7_layRule_82 (by decide) ?_
              refine lv_aload_n hx hb dX7_layRule_84 rfl (lv_at hl 0 rfl) ?_
              refine va_get (D := D) (ci := 7) (v := .ref m5) (C := RX7) (T := TX7) (N := 27) hx hb hts iT_X7 hown hK1 hP 0 rfl rfl 6 (by decide) (hts _ t_557) (fun _ h9 => h9) rfl dX7_layRule_85 ?_
              refine lv_iconst (v := 3) hx hb dX7_layRule_88 (by decide) ?_
              refine lv_iload_n hx hb dX7_layRule_89 rfl (lv_at hl 1 rfl) ?_
              refine lv_imul hx hb dX7_layRule_90 ?_
              refine lv_nmi (show _ = (nI (3 * j)) from pk_mul (3) (j)) ?_
              refine lv_iload hx hb dX7_layRule_91 (lv_at hl 7 rfl) ?_
              refine lv_iadd hx hb dX7_layRule_93 ?_
              refine lv_nmi (show _ = (nI ((3 * j) + k)) from nI_add ((3 * j)) (k)) ?_
              obtain ⟨w7, a7, b7, hw7, ha7, hb7, ex7⟩ := hev k (by omega)
              refine va_iald hx hb hK1 hP 2 0 rfl rfl (vp_in_nI (by omega) (by omega)) dX7_layRule_94 ?_
              refine lv_nmi (show _ = rg ((3 * j) + k) from by rw [nI_clamp (n := ((3 * j) + k)) (by omega)]) ?_
              refine lv_nmi (show _ = (nI (100 * w7 + 10 * a7 + b7) : Int32) from ex7) ?_
              refine xc_i (wc := []) (wr := [kX7 m0 (nI z) m1 (nI r9) m2 m3 m4 m5 (nI n9) (nI v) m6 k1 k2 k3 k4 m7 k5 k6 k7 k8 m8 m9 m10 k9 m11 m12 m13 hv, kI cI m3 9 re, kI cI m5 27 rg, kI cI m13 3 (upd cy k (nI q15)), kI cI m2 9 ro, kJ cJ m11 80 lx, kI cI m12 48 fa]) (xrS (n := 1) (As := [.int (nI (100 * w7 + 10 * a7 + b7))]) (rest := [.int 16, .ref m11, .long nw]) hd hK hP hD (n_letterOf l D cI cJ cZ cR _ (100 * w7 + 10 * a7 + b7) (by omega)) (gS t_713 mS_X7_letterOf) hS_X7_letterOf ⟨(Nat.le_of_ble_eq_true rfl), (Nat.le_of_ble_eq_true rfl)⟩ [] rfl rfl rfl hl.1 rfl (Nat.le_of_ble_eq_true rfl) dX7_layRule_95 ⟨(Nat.le_of_ble_eq_true rfl), (Nat.le_of_ble_eq_true rfl)⟩) hP hD hS hA [] [0, 1, 2, 3, 4, 5, 6] rfl rfl rfl (by decide) (fun r_14 u_15 H locs hw_16 hP hD hS => ?_)
              have hw_17 : r_14 = (nI ((100 * w7 + 10 * a7 + b7) / 100)) := hw_16
              subst hw_17
              have hP : va_P D vwCl [kX7 m0 (nI z) m1 (nI r9) m2 m3 m4 m5 (nI n9) (nI v) m6 k1 k2 k3 k4 m7 k5 k6 k7 k8 m8 m9 m10 k9 m11 m12 m13 hv, kI cI m3 9 re, kI cI m5 27 rg, kI cI m13 3 (upd cy k (nI q15)), kI cI m2 9 ro, kJ cJ m11 80 lx, kI cI m12 48 fa] H := hP
              have hD : va_D A [kX7 m0 (nI z) m1 (nI r9) m2 m3 m4 m5 (nI n9) (nI v) m6 k1 k2 k3 k4 m7 k5 k6 k7 k8 m8 m9 m10 k9 m11 m12 m13 hv, kI cI m3 9 re, kI cI m5 27 rg, kI cI m13 3 (upd cy k (nI q15)), kI cI m2 9 ro, kJ cJ m11 80 lx, kI cI m12 48 fa] := hD
              refine lv_imul hx hb dX7_layRule_98 ?_
              refine lv_nmi (show _ = (nI (16 * ((100 * w7 + 10 * a7 + b7) / 100))) from pk_mul (16) (((100 * w7 + 10 * a7 + b7) / 100))) ?_
              refine lv_aload_n hx hb dX7_layRule_99 rfl (lv_at hl 0 rfl) ?_
              refine va_get (D := D) (ci := 7) (v := .ref m13) (C := RX7) (T := TX7) (N := 27) hx hb hts iT_X7 hown hK1 hP 0 rfl rfl 25 (by decide) (hts _ t_576) (fun _ h9 => h9) rfl dX7_layRule_100 ?_
              refine lv_iload hx hb dX7_layRule_103 (lv_at hl 7 rfl) ?_
              refine va_iald hx hb hK1 hP 3 0 rfl rfl (vp_in_nI (by omega) (by omega)) dX7_layRule_105 ?_
              refine lv_nmi (show _ = (upd cy k (nI q15)) k from by rw [nI_clamp (n := k) (by omega)]) ?_
              refine lv_nmi (show _ = (nI q15 : Int32) from pk_us) ?_
              refine lv_iadd hx hb dX7_layRule_106 ?_
              refine lv_nmi (show _ = (nI ((16 * ((100 * w7 + 10 * a7 + b7) / 100)) + q15)) from nI_add ((16 * ((100 * w7 + 10 * a7 + b7) / 100))) (q15)) ?_
              refine va_lald hx hb hK1 hP 5 1 rfl rfl (vp_in_nI (by omega) (by omega)) dX7_layRule_107 ?_
              refine lv_nml (show _ = lx ((16 * ((100 * w7 + 10 * a7 + b7) / 100)) + q15) from by rw [nI_clamp (n := ((16 * ((100 * w7 + 10 * a7 + b7) / 100)) + q15)) (by omega)]) ?_
              refine lv_ladd hx hb dX7_layRule_108 ?_
              refine lv_lstore (lv' := [(6, .long (nw + (lx ((16 * ((100 * w7 + 10 * a7 + b7) / 100)) + q15)))), (0, .ref m0), (1, .int (nI j)), (2, .int 0), (3, .int go), (4, .int (nI a9)), (5, .int (nI t)), (8, .int (nI k))]) hx hb dX7_layRule_109 hl (by decide) rfl (fun ls hl => ?_)
              refine lv_iinc (v := nI (k + 1)) (lv' := [(8, .int (nI (k + 1))), (6, .long (nw + (lx ((16 * ((100 * w7 + 10 * a7 + b7) / 100)) + q15)))), (0, .ref m0), (1, .int (nI j)), (2, .int 0), (3, .int go), (4, .int (nI a9)), (5, .int (nI t))]) hx hb dX7_layRule_111 hl (k := 7) rfl (nI_1 k) (by decide) rfl (fun ls hl => ?_)
              refine lv_goto (tgt := 48) hx hb dX7_layRule_114 (by decide) ?_
              exact ih_48 (k + 1) (nw + (lx ((16 * ((100 * w7 + 10 * a7 + b7) / 100)) + q15))) (upd cy k (nI q15)) (by omega) (NB_s hNB (by omega) (hLD.1 _ (by omega))) _ _ _ (hP.sub [0, 1, 2, 3, 4, 5, 6] rfl) (hD.sub [0, 1, 2, 3, 4, 5, 6] rfl rfl) hS (lv_sub hl [2, 3, 4, 5, 6, 7, 1, 0] rfl)
          exact LOOP_48 e9 0 1 cx (by omega) NB_0 _ _ _ (hP.sub [0, 1, 2, 3, 4, 5, 6] rfl) (hD.sub [0, 1, 2, 3, 4, 5, 6] rfl rfl) hS (lv_sub hl [2, 3, 4, 5, 6, 7, 1, 0] rfl)
      exact LOOP_35 a9 0 0 la cn (by omega) (LD_no hLR) _ _ _ (hP.sub [0, 1, 2, 3, 4, 5, 6] rfl) (hD.sub [0, 1, 2, 3, 4, 5, 6] rfl rfl) hS (lv_sub hl [1, 2, 3, 4, 5, 0] rfl)
    | succ n ih_8 =>
      intro i a9 hi ha9 H locs ls hP hD hS hl
      refine lv_iload hx hb dX7_layRule_8 (lv_at hl 5 rfl) ?_
      refine lv_aload_n hx hb dX7_layRule_10 rfl (lv_at hl 0 rfl) ?_
      refine va_get (D := D) (ci := 7) (v := .ref m3) (C := RX7) (T := TX7) (N := 27) hx hb hts iT_X7 hown hK1 hP 0 rfl rfl 4 (by decide) (hts _ t_555) (fun _ h9 => h9) rfl dX7_layRule_11 ?_
      refine lv_iload_n hx hb dX7_layRule_14 rfl (lv_at hl 1 rfl) ?_
      refine va_iald hx hb hK1 hP 1 0 rfl rfl (vp_in_nI (by omega) (by omega)) dX7_layRule_15 ?_
      refine lv_nmi (show _ = re j from by rw [nI_clamp (n := j) (by omega)]) ?_
      refine lv_nmi (show _ = (nI e9 : Int32) from hej) ?_
      refine lv_icmp_ge (tgt := 32) hx hb dX7_layRule_16 (by decide) (fun c_18 => ?_) (fun c_18 => ?_)
      · exact absurd c_18 (nI_ge (a := i) (b := e9) (by omega) (by omega))
      refine lv_iload hx hb dX7_layRule_19 (lv_at hl 4 rfl) ?_
      refine lv_bipush (v := 16) hx hb dX7_layRule_21 (by decide) ?_
      refine lv_imul hx hb dX7_layRule_23 ?_
      refine lv_nmi (show _ = (nI (a9 * 16)) from pk_mul (a9) (16)) ?_
      refine lv_istore (lv' := [(4, .int (nI (a9 * 16))), (0, .ref m0), (1, .int (nI j)), (2, .int 0), (3, .int 0), (5, .int (nI i))]) hx hb dX7_layRule_24 hl (by decide) rfl (fun ls hl => ?_)
      refine lv_iinc (v := nI (i + 1)) (lv' := [(5, .int (nI (i + 1))), (4, .int (nI (a9 * 16))), (0, .ref m0), (1, .int (nI j)), (2, .int 0), (3, .int 0)]) hx hb dX7_layRule_26 hl (k := 5) rfl (nI_1 i) (by decide) rfl (fun ls hl => ?_)
      refine lv_goto (tgt := 8) hx hb dX7_layRule_29 (by decide) ?_
      exact ih_8 (i + 1) (a9 * 16) (by omega) (by rw [ha9, Nat.pow_succ]) _ _ _ (hP.sub [0, 1, 2, 3, 4, 5, 6] rfl) (hD.sub [0, 1, 2, 3, 4, 5, 6] rfl rfl) hS (lv_sub hl [2, 3, 4, 5, 1, 0] rfl)
  exact LOOP_8 e9 0 1 (by omega) rfl _ _ _ (hP.sub [0, 1, 2, 3, 4, 5, 6] rfl) (hD.sub [0, 1, 2, 3, 4, 5, 6] rfl rfl) hS (lv_sub hl [3, 4, 5, 2, 1, 0] rfl)
set_option maxHeartbeats 4000000 in
set_option maxRecDepth 100000 in
theorem g_layRule_1 (sz : Nat) (m0 : Nat) (m1 : Nat) (m2 : Nat) (m3 : Nat) (m4 : Nat) (m5 : Nat) (m6 : Nat) (m7 : Nat) (m8 : Nat) (m9 : Nat) (m10 : Nat) (m11 : Nat) (m12 : Nat) (m13 : Nat) (z : Nat) (r9 : Nat) (n9 : Nat) (v : Nat) (k1 : Int32) (k2 : Int32) (k3 : Int32) (k4 : Int32) (k5 : Int32) (k6 : Int32) (k7 : Int32) (k8 : Int32) (k9 : Int32) (hv : Int64) (j : Nat) (e9 : Nat) (re : Nat → Int32) (rg : Nat → Int32) (cn : Nat → Int32) (ro : Nat → Int32) (fa : Nat → Int32) (la : Nat → Int64) (o9 : Nat) (hj : j < 9) (hej : re j = nI e9) (he3 : e9 ≤ 3) (hoj : ro j = nI o9) (ho3 : o9 < 3) (hLR : LR la) (hev : ∀ k, k < e9 → EV 4 (rg (3 * j + k))) : CTi l D cI cJ cZ cR yX7_layRule cX7_layRule 9 (some .boolean) 3 73 0 0 sz [.ref m0, .int (nI j), .int 1] [kX7 m0 (nI z) m1 (nI r9) m2 m3 m4 m5 (nI n9) (nI v) m6 k1 k2 k3 k4 m7 k5 k6 k7 k8 m8 m9 m10 k9 m11 m12 m13 hv, kI cI m3 9 re, kI cI m5 27 rg, kI cI m13 3 cn, kI cI m2 9 ro, kJ cJ m11 80 la, kI cI m12 48 fa] (fun (r : Int32) (u : (Nat → Int32) × (Nat → Int32)) => True) (fun (u : (Nat → Int32) × (Nat → Int32)) => [kX7 m0 (nI z) m1 (nI r9) m2 m3 m4 m5 (nI n9) (nI v) m6 k1 k2 k3 k4 m7 k5 k6 k7 k8 m8 m9 m10 k9 m11 m12 m13 hv, kI cI m3 9 re, kI cI m5 27 rg, kI cI m13 3 u.2, kI cI m2 9 ro, kJ cJ m11 80 la, kI cI m12 48 u.1]) := by
  refine CTi.of (ty := .boolean) (by decide) (Nat.le_of_ble_eq_true rfl) rfl ?_
  intro p e s m below meth c A Q ls hd hin hK hsz hP hD hA hS hl hret
  obtain ⟨hx, hb, hml, hown, hts⟩ := id hd
  have hK1 := hK.1
  have hown : s.vm.findClass RX7 = some m.cls := hown
  have hl : lv_has ls 9 [(0, .ref m0), (1, .int (nI j)), (2, .int 1)] := hl
  refine lv_iconst (v := 0) hx hb dX7_layRule_0 (by decide) ?_
  refine lv_istore_n (lv' := [(3, .int 0), (0, .ref m0), (1, .int (nI j)), (2, .int 1)]) hx hb dX7_layRule_1 rfl hl (by decide) rfl (fun ls hl => ?_)
  refine lv_iconst (v := 1) hx hb dX7_layRule_2 (by decide) ?_
  refine lv_istore (lv' := [(4, .int 1), (3, .int 0), (0, .ref m0), (1, .int (nI j)), (2, .int 1)]) hx hb dX7_layRule_3 hl (by decide) rfl (fun ls hl => ?_)
  refine lv_iconst (v := 0) hx hb dX7_layRule_5 (by decide) ?_
  refine lv_istore (lv' := [(5, .int 0), (4, .int 1), (3, .int 0), (0, .ref m0), (1, .int (nI j)), (2, .int 1)]) hx hb dX7_layRule_6 hl (by decide) rfl (fun ls hl => ?_)
  have LOOP_8 : ∀ (n : Nat) (i : Nat) (a9 : Nat), (i + n = e9) → (a9 = 16 ^ i) → ∀ (H : Heap) (locs : List Loc) (ls : Array Slot), va_P D vwCl [kX7 m0 (nI z) m1 (nI r9) m2 m3 m4 m5 (nI n9) (nI v) m6 k1 k2 k3 k4 m7 k5 k6 k7 k8 m8 m9 m10 k9 m11 m12 m13 hv, kI cI m3 9 re, kI cI m5 27 rg, kI cI m13 3 cn, kI cI m2 9 ro, kJ cJ m11 80 la, kI cI m12 48 fa] H → va_D A [kX7 m0 (nI z) m1 (nI r9) m2 m3 m4 m5 (nI n9) (nI v) m6 k1 k2 k3 k4 m7 k5 k6 k7 k8 m8 m9 m10 k9 m11 m12 m13 hv, kI cI m3 9 re, kI cI m5 27 rg, kI cI m13 3 cn, kI cI m2 9 ro, kJ cJ m11 80 la, kI cI m12 48 fa] → va_S A s.heap H locs → lv_has ls 9 [(0, .ref m0), (1, .int (nI j)), (2, .int 1), (3, .int 0), (4, .int (nI a9)), (5, .int (nI i))] → W p l e (rM 3 0 0 73) s m ([.ref m0, .int (nI j), .int 1] : List Value).toArray below meth c H locs 0 0 Q (F0 m 8 ls []) := by
    intro n
    induction n with
    | zero =>
      intro i a9 hi ha9 H locs ls hP hD hS hl
      have h4096 := pow16 (i := i) (by omega)
      refine lv_iload hx hb dX7_layRule_8 (lv_at hl 5 rfl) ?_
      refine lv_aload_n hx hb dX7_layRule_10 rfl (lv_at hl 0 rfl) ?_
      refine va_get (D := D) (ci := 7) (v := .ref m3) (C := RX7) (T := TX7) (N := 27) hx hb hts iT_X7 hown hK1 hP 0 rfl rfl 4 (by decide) (hts _ t_555) (fun _ h9 => h9) rfl dX7_layRule_11 ?_
      refine lv_iload_n hx hb dX7_layRule_14 rfl (lv_at hl 1 rfl) ?_
      refine va_iald hx hb hK1 hP 1 0 rfl rfl (vp_in_nI (by omega) (by omega)) dX7_layRule_15 ?_
      refine lv_nmi (show _ = re j from by rw [nI_clamp (n := j) (by omega)]) ?_
      refine lv_nmi (show _ = (nI e9 : Int32) from hej) ?_
      refine lv_icmp_ge (tgt := 32) hx hb dX7_layRule_16 (by decide) (fun c_1 => ?_) (fun c_1 => ?_)
      rotate_left
      · exact absurd (nI_le (a := e9) (b := i) (by omega) (by omega)) c_1
      refine lv_iconst (v := 0) hx hb dX7_layRule_32 (by decide) ?_
      refine lv_istore (lv' := [(5, .int 0), (0, .ref m0), (1, .int (nI j)), (2, .int 1), (3, .int 0), (4, .int (nI a9))]) hx hb dX7_layRule_33 hl (by decide) rfl (fun ls hl => ?_)
      have LOOP_35 : ∀ (n : Nat) (t : Nat) (go : Int32) (fx : Nat → Int32) (cx : Nat → Int32), (t + n = a9) → (go = 0 ∨ go = 1) → ∀ (H : Heap) (locs : List Loc) (ls : Array Slot), va_P D vwCl [kX7 m0 (nI z) m1 (nI r9) m2 m3 m4 m5 (nI n9) (nI v) m6 k1 k2 k3 k4 m7 k5 k6 k7 k8 m8 m9 m10 k9 m11 m12 m13 hv, kI cI m3 9 re, kI cI m5 27 rg, kI cI m13 3 cx, kI cI m2 9 ro, kJ cJ m11 80 la, kI cI m12 48 fx] H → va_D A [kX7 m0 (nI z) m1 (nI r9) m2 m3 m4 m5 (nI n9) (nI v) m6 k1 k2 k3 k4 m7 k5 k6 k7 k8 m8 m9 m10 k9 m11 m12 m13 hv, kI cI m3 9 re, kI cI m5 27 rg, kI cI m13 3 cx, kI cI m2 9 ro, kJ cJ m11 80 la, kI cI m12 48 fx] → va_S A s.heap H locs → lv_has ls 9 [(0, .ref m0), (1, .int (nI j)), (2, .int 1), (3, .int go), (4, .int (nI a9)), (5, .int (nI t))] → W p l e (rM 3 0 0 73) s m ([.ref m0, .int (nI j), .int 1] : List Value).toArray below meth c H locs 0 0 Q (F0 m 35 ls []) := by
        intro n
        induction n with
        | zero =>
          intro t go fx cx ht hg01 H locs ls hP hD hS hl
          refine lv_iload hx hb dX7_layRule_35 (lv_at hl 5 rfl) ?_
          refine lv_iload hx hb dX7_layRule_37 (lv_at hl 4 rfl) ?_
          refine lv_icmp_ge (tgt := 153) hx hb dX7_layRule_39 (by decide) (fun c_2 => ?_) (fun c_2 => ?_)
          rotate_left
          · exact absurd (nI_le (a := a9) (b := t) (by omega) (by omega)) c_2
          refine lv_iload_n hx hb dX7_layRule_153 rfl (lv_at hl 3 rfl) ?_
          exact hret _ _ _ _ _ _ go (fx, cx) dX7_layRule_154 (nar_01 hg01) hS (Nat.le_of_ble_eq_true rfl) (Nat.le_of_ble_eq_true rfl) trivial (hP.sub [0, 1, 2, 3, 4, 5, 6] rfl) (hD.sub [0, 1, 2, 3, 4, 5, 6] rfl rfl)
        | succ n ih_35 =>
          intro t go fx cx ht hg01 H locs ls hP hD hS hl
          refine lv_iload hx hb dX7_layRule_35 (lv_at hl 5 rfl) ?_
          refine lv_iload hx hb dX7_layRule_37 (lv_at hl 4 rfl) ?_
          refine lv_icmp_ge (tgt := 153) hx hb dX7_layRule_39 (by decide) (fun c_3 => ?_) (fun c_3 => ?_)
          · exact absurd c_3 (nI_ge (a := t) (b := a9) (by omega) (by omega))
          refine lv_lconst (v := 1) hx hb dX7_layRule_42 (by decide) ?_
          refine lv_lstore (lv' := [(6, .long 1), (0, .ref m0), (1, .int (nI j)), (2, .int 1), (3, .int go), (4, .int (nI a9)), (5, .int (nI t))]) hx hb dX7_layRule_43 hl (by decide) rfl (fun ls hl => ?_)
          refine lv_iconst (v := 0) hx hb dX7_layRule_45 (by decide) ?_
          refine lv_istore (lv' := [(8, .int 0), (6, .long 1), (0, .ref m0), (1, .int (nI j)), (2, .int 1), (3, .int go), (4, .int (nI a9)), (5, .int (nI t))]) hx hb dX7_layRule_46 hl (by decide) rfl (fun ls hl => ?_)
          have LOOP_48 : ∀ (n : Nat) (k : Nat) (nw : Int64) (cy : Nat → Int32), (k + n = e9) → (NB nw k) → ∀ (H : Heap) (locs : List Loc) (ls : Array Slot), va_P D vwCl [kX7 m0 (nI z) m1 (nI r9) m2 m3 m4 m5 (nI n9) (nI v) m6 k1 k2 k3 k4 m7 k5 k6 k7 k8 m8 m9 m10 k9 m11 m12 m13 hv, kI cI m3 9 re, kI cI m5 27 rg, kI cI m13 3 cy, kI cI m2 9 ro, kJ cJ m11 80 la, kI cI m12 48 fx] H → va_D A [kX7 m0 (nI z) m1 (nI r9) m2 m3 m4 m5 (nI n9) (nI v) m6 k1 k2 k3 k4 m7 k5 k6 k7 k8 m8 m9 m10 k9 m11 m12 m13 hv, kI cI m3 9 re, kI cI m5 27 rg, kI cI m13 3 cy, kI cI m2 9 ro, kJ cJ m11 80 la, kI cI m12 48 fx] → va_S A s.heap H locs → lv_has ls 9 [(0, .ref m0), (1, .int (nI j)), (2, .int 1), (3, .int go), (4, .int (nI a9)), (5, .int (nI t)), (6, .long nw), (8, .int (nI k))] → W p l e (rM 3 0 0 73) s m ([.ref m0, .int (nI j), .int 1] : List Value).toArray below meth c H locs 0 0 Q (F0 m 48 ls []) := by
            intro n
            induction n with
            | zero =>
              intro k nw cy hk hNB H locs ls hP hD hS hl
              refine lv_iload hx hb dX7_layRule_48 (lv_at hl 7 rfl) ?_
              refine lv_aload_n hx hb dX7_layRule_50 rfl (lv_at hl 0 rfl) ?_
              refine va_get (D := D) (ci := 7) (v := .ref m3) (C := RX7) (T := TX7) (N := 27) hx hb hts iT_X7 hown hK1 hP 0 rfl rfl 4 (by decide) (hts _ t_555) (fun _ h9 => h9) rfl dX7_layRule_51 ?_
              refine lv_iload_n hx hb dX7_layRule_54 rfl (lv_at hl 1 rfl) ?_
              refine va_iald hx hb hK1 hP 1 0 rfl rfl (vp_in_nI (by omega) (by omega)) dX7_layRule_55 ?_
              refine lv_nmi (show _ = re j from by rw [nI_clamp (n := j) (by omega)]) ?_
              refine lv_nmi (show _ = (nI e9 : Int32) from hej) ?_
              refine lv_icmp_ge (tgt := 117) hx hb dX7_layRule_56 (by decide) (fun c_4 => ?_) (fun c_4 => ?_)
              rotate_left
              · exact absurd (nI_le (a := e9) (b := k) (by omega) (by omega)) c_4
              refine lv_lload hx hb dX7_layRule_117 (lv_at hl 6 rfl) ?_
              refine lv_ldc2 hx hb hown (hts _ t_825) dX7_layRule_119 ?_
              refine W.lcmp hx hb dX7_layRule_122 ?_
              refine lv_if_ge (tgt := 147) hx hb dX7_layRule_123 (by decide) (fun c_5 => ?_) (fun c_5 => ?_)
              · skip
                refine lv_iinc (v := nI (t + 1)) (lv' := [(5, .int (nI (t + 1))), (0, .ref m0), (1, .int (nI j)), (2, .int 1), (3, .int go), (4, .int (nI a9)), (6, .long nw), (8, .int (nI k))]) hx hb dX7_layRule_147 hl (k := 5) rfl (nI_1 t) (by decide) rfl (fun ls hl => ?_)
                refine lv_goto (tgt := 35) hx hb dX7_layRule_150 (by decide) ?_
                exact ih_35 (t + 1) go fx cy (by omega) hg01 _ _ _ (hP.sub [0, 1, 2, 3, 4, 5, 6] rfl) (hD.sub [0, 1, 2, 3, 4, 5, 6] rfl rfl) hS (lv_sub hl [1, 2, 3, 4, 5, 0] rfl)
              · skip
                refine lv_aload_n hx hb dX7_layRule_126 rfl (lv_at hl 0 rfl) ?_
                refine lv_iload_n hx hb dX7_layRule_127 rfl (lv_at hl 1 rfl) ?_
                refine lv_lload hx hb dX7_layRule_128 (lv_at hl 6 rfl) ?_
                refine lv_iload_n hx hb dX7_layRule_130 rfl (lv_at hl 2 rfl) ?_
                refine xc_i (wc := [kX7 m0 (nI z) m1 (nI r9) m2 m3 m4 m5 (nI n9) (nI v) m6 k1 k2 k3 k4 m7 k5 k6 k7 k8 m8 m9 m10 k9 m11 m12 m13 hv, kI cI m3 9 re, kI cI m5 27 rg, kI cI m13 3 cy, kI cI m2 9 ro, kJ cJ m11 80 la, kI cI m12 48 fx]) (wr := []) (xrV (n := 3) (As := [.int (nI j), .long nw, .int 1]) (rest := []) (ci := 7) (q0 := 0) hd hK hP hD (g_layLight_1 l D cI cJ cZ cR _ m0 m1 m2 m3 m4 m5 m6 m7 m8 m9 m10 m11 m12 m13 z r9 n9 v k1 k2 k3 k4 k5 k6 k7 k8 k9 hv j e9 re rg cy ro fx la o9 nw hj hej he3 hoj ho3 hLR) (gV t_830 mV_X7_layLight) hV_X7_layLight ⟨(Nat.le_of_ble_eq_true rfl), (Nat.le_of_ble_eq_true rfl)⟩ rfl rfl [0, 1, 2, 3, 4, 5, 6] rfl rfl rfl hl.1 rfl (Nat.le_of_ble_eq_true rfl) dX7_layRule_131 ⟨(Nat.le_of_ble_eq_true rfl), (Nat.le_of_ble_eq_true rfl)⟩) hP hD hS hA [0, 1, 2, 3, 4, 5, 6] [] rfl rfl rfl (by decide) (fun r_6 u_7 H locs hw_8 hP hD hS => ?_)
                obtain ⟨fa2_9, rfl⟩ : ∃ z9, z9 = u_7 := ⟨_, rfl⟩
                have hw_10 : r_6 = 0 := hw_8
                subst hw_10
                have hP : va_P D vwCl [kX7 m0 (nI z) m1 (nI r9) m2 m3 m4 m5 (nI n9) (nI v) m6 k1 k2 k3 k4 m7 k5 k6 k7 k8 m8 m9 m10 k9 m11 m12 m13 hv, kI cI m3 9 re, kI cI m5 27 rg, kI cI m13 3 cy, kI cI m2 9 ro, kJ cJ m11 80 la, kI cI m12 48 fa2_9] H := hP
                have hD : va_D A [kX7 m0 (nI z) m1 (nI r9) m2 m3 m4 m5 (nI n9) (nI v) m6 k1 k2 k3 k4 m7 k5 k6 k7 k8 m8 m9 m10 k9 m11 m12 m13 hv, kI cI m3 9 re, kI cI m5 27 rg, kI cI m13 3 cy, kI cI m2 9 ro, kJ cJ m11 80 la, kI cI m12 48 fa2_9] := hD
                refine lv_if_ne (tgt := 141) hx hb dX7_layRule_134 (by decide) (fun c_11 => ?_) (fun c_11 => ?_)
                · exact absurd c_11 (by decide)
                refine lv_iload_n hx hb dX7_layRule_137 rfl (lv_at hl 3 rfl) ?_
                refine lv_if_eq (tgt := 145) hx hb dX7_layRule_138 (by decide) (fun c_12 => ?_) (fun c_12 => ?_)
                · skip
                  refine lv_iconst (v := 0) hx hb dX7_layRule_145 (by decide) ?_
                  refine lv_istore_n (lv' := [(3, .int 0), (0, .ref m0), (1, .int (nI j)), (2, .int 1), (4, .int (nI a9)), (5, .int (nI t)), (6, .long nw), (8, .int (nI k))]) hx hb dX7_layRule_146 rfl hl (by decide) rfl (fun ls hl => ?_)
                  refine lv_iinc (v := nI (t + 1)) (lv' := [(5, .int (nI (t + 1))), (3, .int 0), (0, .ref m0), (1, .int (nI j)), (2, .int 1), (4, .int (nI a9)), (6, .long nw), (8, .int (nI k))]) hx hb dX7_layRule_147 hl (k := 5) rfl (nI_1 t) (by decide) rfl (fun ls hl => ?_)
                  refine lv_goto (tgt := 35) hx hb dX7_layRule_150 (by decide) ?_
                  exact ih_35 (t + 1) 0 fa2_9 cy (by omega) (Or.inl rfl) _ _ _ (hP.sub [0, 1, 2, 3, 4, 5, 6] rfl) (hD.sub [0, 1, 2, 3, 4, 5, 6] rfl rfl) hS (lv_sub hl [2, 3, 4, 1, 5, 0] rfl)
                · skip
                  refine lv_iconst (v := 1) hx hb dX7_layRule_141 (by decide) ?_
                  refine lv_goto (tgt := 146) hx hb dX7_layRule_142 (by decide) ?_
                  refine lv_istore_n (lv' := [(3, .int 1), (0, .ref m0), (1, .int (nI j)), (2, .int 1), (4, .int (nI a9)), (5, .int (nI t)), (6, .long nw), (8, .int (nI k))]) hx hb dX7_layRule_146 rfl hl (by decide) rfl (fun ls hl => ?_)
                  refine lv_iinc (v := nI (t + 1)) (lv' := [(5, .int (nI (t + 1))), (3, .int 1), (0, .ref m0), (1, .int (nI j)), (2, .int 1), (4, .int (nI a9)), (6, .long nw), (8, .int (nI k))]) hx hb dX7_layRule_147 hl (k := 5) rfl (nI_1 t) (by decide) rfl (fun ls hl => ?_)
                  refine lv_goto (tgt := 35) hx hb dX7_layRule_150 (by decide) ?_
                  exact ih_35 (t + 1) 1 fa2_9 cy (by omega) (Or.inr rfl) _ _ _ (hP.sub [0, 1, 2, 3, 4, 5, 6] rfl) (hD.sub [0, 1, 2, 3, 4, 5, 6] rfl rfl) hS (lv_sub hl [2, 3, 4, 1, 5, 0] rfl)
            | succ n ih_48 =>
              intro k nw cy hk hNB H locs ls hP hD hS hl
              refine lv_iload hx hb dX7_layRule_48 (lv_at hl 7 rfl) ?_
              refine lv_aload_n hx hb dX7_layRule_50 rfl (lv_at hl 0 rfl) ?_
              refine va_get (D := D) (ci := 7) (v := .ref m3) (C := RX7) (T := TX7) (N := 27) hx hb hts iT_X7 hown hK1 hP 0 rfl rfl 4 (by decide) (hts _ t_555) (fun _ h9 => h9) rfl dX7_layRule_51 ?_
              refine lv_iload_n hx hb dX7_layRule_54 rfl (lv_at hl 1 rfl) ?_
              refine va_iald hx hb hK1 hP 1 0 rfl rfl (vp_in_nI (by omega) (by omega)) dX7_layRule_55 ?_
              refine lv_nmi (show _ = re j from by rw [nI_clamp (n := j) (by omega)]) ?_
              refine lv_nmi (show _ = (nI e9 : Int32) from hej) ?_
              refine lv_icmp_ge (tgt := 117) hx hb dX7_layRule_56 (by decide) (fun c_13 => ?_) (fun c_13 => ?_)
              · exact absurd c_13 (nI_ge (a := k) (b := e9) (by omega) (by omega))
              refine lv_aload_n hx hb dX7_layRule_59 rfl (lv_at hl 0 rfl) ?_
              refine va_get (D := D) (ci := 7) (v := .ref m13) (C := RX7) (T := TX7) (N := 27) hx hb hts iT_X7 hown hK1 hP 0 rfl rfl 25 (by decide) (hts _ t_576) (fun _ h9 => h9) rfl dX7_layRule_60 ?_
              refine lv_iload hx hb dX7_layRule_63 (lv_at hl 7 rfl) ?_
              refine lv_iload hx hb dX7_layRule_65 (lv_at hl 5 rfl) ?_
              refine lv_iconst (v := 4) hx hb dX7_layRule_67 (by decide) ?_
              refine lv_iload hx hb dX7_layRule_68 (lv_at hl 7 rfl) ?_
              refine lv_imul hx hb dX7_layRule_70 ?_
              refine lv_nmi (show _ = (nI (4 * k)) from pk_mul (4) (k)) ?_
              refine lv_ishr hx hb dX7_layRule_71 ?_
              obtain ⟨q15, hq15, eq15⟩ := and15 (nI t >>> (nI (4 * k) &&& 31))
              refine lv_bipush (v := 15) hx hb dX7_layRule_72 (by decide) ?_
              refine lv_iand hx hb dX7_layRule_74 ?_
              refine lv_nmi (show _ = (nI q15 : Int32) from eq15) ?_
              refine va_iast hx hb hK1 hP hD hS 3 0 rfl rfl (vp_in_nI (by omega) (by omega)) dX7_layRule_75 (fun H locs hP hD hS => ?_)
              rw [nI_clamp (n := k) (by omega)] at hP hD
              have hP : va_P D vwCl [kX7 m0 (nI z) m1 (nI r9) m2 m3 m4 m5 (nI n9) (nI v) m6 k1 k2 k3 k4 m7 k5 k6 k7 k8 m8 m9 m10 k9 m11 m12 m13 hv, kI cI m3 9 re, kI cI m5 27 rg, kI cI m13 3 (upd cy k (nI q15)), kI cI m2 9 ro, kJ cJ m11 80 la, kI cI m12 48 fx] H := hP
              have hD : va_D A [kX7 m0 (nI z) m1 (nI r9) m2 m3 m4 m5 (nI n9) (nI v) m6 k1 k2 k3 k4 m7 k5 k6 k7 k8 m8 m9 m10 k9 m11 m12 m13 hv, kI cI m3 9 re, kI cI m5 27 rg, kI cI m13 3 (upd cy k (nI q15)), kI cI m2 9 ro, kJ cJ m11 80 la, kI cI m12 48 fx] := hD
              refine lv_lload hx hb dX7_layRule_76 (lv_at hl 6 rfl) ?_
              refine lv_aload_n hx hb dX7_layRule_78 rfl (lv_at hl 0 rfl) ?_
              refine va_get (D := D) (ci := 7) (v := .ref m11) (C := RX7) (T := TX7) (N := 27) hx hb hts iT_X7 hown hK1 hP 0 rfl rfl 23 (by decide) (hts _ t_574) (fun _ h9 => h9) rfl dX7_layRule_79 ?_
              refine lv_bipush (v := 16) hx hb dX7_layRule_82 (by decide) ?_
              refine lv_aload_n hx hb dX7_layRule_84 rfl (lv_at hl 0 rfl) ?_
              refine va_get (D := D) (ci := 7) (v := .ref m5) (C := RX7) (T := TX7) (N := 27) hx hb hts iT_X7 hown hK1 hP 0 rfl rfl 6 (by decide) (hts _ t_557) (fun _ h9 => h9) rfl dX7_layRule_85 ?_
              refine lv_iconst (v := 3) hx hb dX7_layRule_88 (by decide) ?_
              refine lv_iload_n hx hb dX7_layRule_89 rfl (lv_at hl 1 rfl) ?_
              refine lv_imul hx hb dX7_layRule_90 ?_
              refine lv_nmi (show _ = (nI (3 * j)) from pk_mul (3) (j)) ?_
              refine lv_iload hx hb dX7_layRule_91 (lv_at hl 7 rfl) ?_
              refine lv_iadd hx hb dX7_layRule_93 ?_
              refine lv_nmi (show _ = (nI ((3 * j) + k)) from nI_add ((3 * j)) (k)) ?_
              obtain ⟨w7, a7, b7, hw7, ha7, hb7, ex7⟩ := hev k (by omega)
              refine va_iald hx hb hK1 hP 2 0 rfl rfl (vp_in_nI (by omega) (by omega)) dX7_layRule_94 ?_
              refine lv_nmi (show _ = rg ((3 * j) + k) from by rw [nI_clamp (n := ((3 * j) + k)) (by omega)]) ?_
              refine lv_nmi (show _ = (nI (100 * w7 + 10 * a7 + b7) : Int32) from ex7) ?_
              refine xc_i (wc := []) (wr := [kX7 m0 (nI z) m1 (nI r9) m2 m3 m4 m5 (nI n9) (nI v) m6 k1 k2 k3 k4 m7 k5 k6 k7 k8 m8 m9 m10 k9 m11 m12 m13 hv, kI cI m3 9 re, kI cI m5 27 rg, kI cI m13 3 (upd cy k (nI q15)), kI cI m2 9 ro, kJ cJ m11 80 la, kI cI m12 48 fx]) (xrS (n := 1) (As := [.int (nI (100 * w7 + 10 * a7 + b7))]) (rest := [.int 16, .ref m11, .long nw]) hd hK hP hD (n_letterOf l D cI cJ cZ cR _ (100 * w7 + 10 * a7 + b7) (by omega)) (gS t_713 mS_X7_letterOf) hS_X7_letterOf ⟨(Nat.le_of_ble_eq_true rfl), (Nat.le_of_ble_eq_true rfl)⟩ [] rfl rfl rfl hl.1 rfl (Nat.le_of_ble_eq_true rfl) dX7_layRule_95 ⟨(Nat.le_of_ble_eq_true rfl), (Nat.le_of_ble_eq_true rfl)⟩) hP hD hS hA [] [0, 1, 2, 3, 4, 5, 6] rfl rfl rfl (by decide) (fun r_14 u_15 H locs hw_16 hP hD hS => ?_)
              have hw_17 : r_14 = (nI ((100 * w7 + 10 * a7 + b7) / 100)) := hw_16
              subst hw_17
              have hP : va_P D vwCl [kX7 m0 (nI z) m1 (nI r9) m2 m3 m4 m5 (nI n9) (nI v) m6 k1 k2 k3 k4 m7 k5 k6 k7 k8 m8 m9 m10 k9 m11 m12 m13 hv, kI cI m3 9 re, kI cI m5 27 rg, kI cI m13 3 (upd cy k (nI q15)), kI cI m2 9 ro, kJ cJ m11 80 la, kI cI m12 48 fx] H := hP
              have hD : va_D A [kX7 m0 (nI z) m1 (nI r9) m2 m3 m4 m5 (nI n9) (nI v) m6 k1 k2 k3 k4 m7 k5 k6 k7 k8 m8 m9 m10 k9 m11 m12 m13 hv, kI cI m3 9 re, kI cI m5 27 rg, kI cI m13 3 (upd cy k (nI q15)), kI cI m2 9 ro, kJ cJ m11 80 la, kI cI m12 48 fx] := hD
              refine lv_imul hx hb dX7_layRule_98 ?_
              refine lv_nmi (show _ = (nI (16 * ((100 * w7 + 10 * a7 + b7) / 100))) from pk_mul (16) (((100 * w7 + 10 * a7 + b7) / 100))) ?_
              refine lv_aload_n hx hb dX7_layRule_99 rfl (lv_at hl 0 rfl) ?_
              refine va_get (D := D) (ci := 7) (v := .ref m13) (C := RX7) (T := TX7) (N := 27) hx hb hts iT_X7 hown hK1 hP 0 rfl rfl 25 (by decide) (hts _ t_576) (fun _ h9 => h9) rfl dX7_layRule_100 ?_
              refine lv_iload hx hb dX7_layRule_103 (lv_at hl 7 rfl) ?_
              refine va_iald hx hb hK1 hP 3 0 rfl rfl (vp_in_nI (by omega) (by omega)) dX7_layRule_105 ?_
              refine lv_nmi (show _ = (upd cy k (nI q15)) k from by rw [nI_clamp (n := k) (by omega)]) ?_
              refine lv_nmi (show _ = (nI q15 : Int32) from pk_us) ?_
              refine lv_iadd hx hb dX7_layRule_106 ?_
              refine lv_nmi (show _ = (nI ((16 * ((100 * w7 + 10 * a7 + b7) / 100)) + q15)) from nI_add ((16 * ((100 * w7 + 10 * a7 + b7) / 100))) (q15)) ?_
              refine va_lald hx hb hK1 hP 5 1 rfl rfl (vp_in_nI (by omega) (by omega)) dX7_layRule_107 ?_
              refine lv_nml (show _ = la ((16 * ((100 * w7 + 10 * a7 + b7) / 100)) + q15) from by rw [nI_clamp (n := ((16 * ((100 * w7 + 10 * a7 + b7) / 100)) + q15)) (by omega)]) ?_
              refine lv_ladd hx hb dX7_layRule_108 ?_
              refine lv_lstore (lv' := [(6, .long (nw + (la ((16 * ((100 * w7 + 10 * a7 + b7) / 100)) + q15)))), (0, .ref m0), (1, .int (nI j)), (2, .int 1), (3, .int go), (4, .int (nI a9)), (5, .int (nI t)), (8, .int (nI k))]) hx hb dX7_layRule_109 hl (by decide) rfl (fun ls hl => ?_)
              refine lv_iinc (v := nI (k + 1)) (lv' := [(8, .int (nI (k + 1))), (6, .long (nw + (la ((16 * ((100 * w7 + 10 * a7 + b7) / 100)) + q15)))), (0, .ref m0), (1, .int (nI j)), (2, .int 1), (3, .int go), (4, .int (nI a9)), (5, .int (nI t))]) hx hb dX7_layRule_111 hl (k := 7) rfl (nI_1 k) (by decide) rfl (fun ls hl => ?_)
              refine lv_goto (tgt := 48) hx hb dX7_layRule_114 (by decide) ?_
              exact ih_48 (k + 1) (nw + (la ((16 * ((100 * w7 + 10 * a7 + b7) / 100)) + q15))) (upd cy k (nI q15)) (by omega) (NB_s hNB (by omega) (hLR _ (by omega))) _ _ _ (hP.sub [0, 1, 2, 3, 4, 5, 6] rfl) (hD.sub [0, 1, 2, 3, 4, 5, 6] rfl rfl) hS (lv_sub hl [2, 3, 4, 5, 6, 7, 1, 0] rfl)
          exact LOOP_48 e9 0 1 cx (by omega) NB_0 _ _ _ (hP.sub [0, 1, 2, 3, 4, 5, 6] rfl) (hD.sub [0, 1, 2, 3, 4, 5, 6] rfl rfl) hS (lv_sub hl [2, 3, 4, 5, 6, 7, 1, 0] rfl)
      exact LOOP_35 a9 0 0 fa cn (by omega) (Or.inl rfl) _ _ _ (hP.sub [0, 1, 2, 3, 4, 5, 6] rfl) (hD.sub [0, 1, 2, 3, 4, 5, 6] rfl rfl) hS (lv_sub hl [1, 2, 3, 4, 5, 0] rfl)
    | succ n ih_8 =>
      intro i a9 hi ha9 H locs ls hP hD hS hl
      refine lv_iload hx hb dX7_layRule_8 (lv_at hl 5 rfl) ?_
      refine lv_aload_n hx hb dX7_layRule_10 rfl (lv_at hl 0 rfl) ?_
      refine va_get (D := D) (ci := 7) (v := .ref m3) (C := RX7) (T := TX7) (N := 27) hx hb hts iT_X7 hown hK1 hP 0 rfl rfl 4 (by decide) (hts _ t_555) (fun _ h9 => h9) rfl dX7_layRule_11 ?_
      refine lv_iload_n hx hb dX7_layRule_14 rfl (lv_at hl 1 rfl) ?_
      refine va_iald hx hb hK1 hP 1 0 rfl rfl (vp_in_nI (by omega) (by omega)) dX7_layRule_15 ?_
      refine lv_nmi (show _ = re j from by rw [nI_clamp (n := j) (by omega)]) ?_
      refine lv_nmi (show _ = (nI e9 : Int32) from hej) ?_
      refine lv_icmp_ge (tgt := 32) hx hb dX7_layRule_16 (by decide) (fun c_18 => ?_) (fun c_18 => ?_)
      · exact absurd c_18 (nI_ge (a := i) (b := e9) (by omega) (by omega))
      refine lv_iload hx hb dX7_layRule_19 (lv_at hl 4 rfl) ?_
      refine lv_bipush (v := 16) hx hb dX7_layRule_21 (by decide) ?_
      refine lv_imul hx hb dX7_layRule_23 ?_
      refine lv_nmi (show _ = (nI (a9 * 16)) from pk_mul (a9) (16)) ?_
      refine lv_istore (lv' := [(4, .int (nI (a9 * 16))), (0, .ref m0), (1, .int (nI j)), (2, .int 1), (3, .int 0), (5, .int (nI i))]) hx hb dX7_layRule_24 hl (by decide) rfl (fun ls hl => ?_)
      refine lv_iinc (v := nI (i + 1)) (lv' := [(5, .int (nI (i + 1))), (4, .int (nI (a9 * 16))), (0, .ref m0), (1, .int (nI j)), (2, .int 1), (3, .int 0)]) hx hb dX7_layRule_26 hl (k := 5) rfl (nI_1 i) (by decide) rfl (fun ls hl => ?_)
      refine lv_goto (tgt := 8) hx hb dX7_layRule_29 (by decide) ?_
      exact ih_8 (i + 1) (a9 * 16) (by omega) (by rw [ha9, Nat.pow_succ]) _ _ _ (hP.sub [0, 1, 2, 3, 4, 5, 6] rfl) (hD.sub [0, 1, 2, 3, 4, 5, 6] rfl rfl) hS (lv_sub hl [2, 3, 4, 5, 1, 0] rfl)
  exact LOOP_8 e9 0 1 (by omega) rfl _ _ _ (hP.sub [0, 1, 2, 3, 4, 5, 6] rfl) (hD.sub [0, 1, 2, 3, 4, 5, 6] rfl rfl) hS (lv_sub hl [3, 4, 5, 2, 1, 0] rfl)
end
