theorem mV_X4_read : Cond.instanceMethod yX4_read ∈ gT ∧ Cond.selects RX4 yX4_read yX4_read ∈ gT ∧ Cond.initialized RX4 ∈ gT ∧ Cond.code yX4_read cX4_read 3 none ∈ gT := ⟨t_249, t_250, t_4, t_251⟩
theorem hV_X4_read : yX4_read.cls = RX4 ∧ yX4_read.cls ≠ "java/lang/invoke/MethodHandle" ∧ yX4_read.cls ≠ "java/lang/invoke/VarHandle" ∧ (parseMethodDescriptor yX4_read.desc).map (fun d => d.parameters.length) = some 1 := by decide +kernel
theorem mV_X5_has : Cond.instanceMethod yX5_has ∈ gT ∧ Cond.selects RX5 yX5_has yX5_has ∈ gT ∧ Cond.initialized RX5 ∈ gT ∧ Cond.code yX5_has cX5_has 2 (some .boolean) ∈ gT := ⟨t_304, t_305, t_3, t_306⟩
theorem hV_X5_has : yX5_has.cls = RX5 ∧ yX5_has.cls ≠ "java/lang/invoke/MethodHandle" ∧ yX5_has.cls ≠ "java/lang/invoke/VarHandle" ∧ (parseMethodDescriptor yX5_has.desc).map (fun d => d.parameters.length) = some 1 := by decide +kernel
theorem mV_X5_add : Cond.instanceMethod yX5_add ∈ gT ∧ Cond.selects RX5 yX5_add yX5_add ∈ gT ∧ Cond.initialized RX5 ∈ gT ∧ Cond.code yX5_add cX5_add 2 none ∈ gT := ⟨t_245, t_246, t_3, t_247⟩
theorem hV_X5_add : yX5_add.cls = RX5 ∧ yX5_add.cls ≠ "java/lang/invoke/MethodHandle" ∧ yX5_add.cls ≠ "java/lang/invoke/VarHandle" ∧ (parseMethodDescriptor yX5_add.desc).map (fun d => d.parameters.length) = some 1 := by decide +kernel
theorem mV_X5_remove : Cond.instanceMethod yX5_remove ∈ gT ∧ Cond.selects RX5 yX5_remove yX5_remove ∈ gT ∧ Cond.initialized RX5 ∈ gT ∧ Cond.code yX5_remove cX5_remove 4 none ∈ gT := ⟨t_308, t_309, t_3, t_310⟩
theorem hV_X5_remove : yX5_remove.cls = RX5 ∧ yX5_remove.cls ≠ "java/lang/invoke/MethodHandle" ∧ yX5_remove.cls ≠ "java/lang/invoke/VarHandle" ∧ (parseMethodDescriptor yX5_remove.desc).map (fun d => d.parameters.length) = some 1 := by decide +kernel
theorem pm_8 {c0 c1 c2 c3 c4 c5 c6 c7 c8 c9 c10 c11 : Nat × va_E} : List.Perm ([c0, c1, c2, c3, c4, c5, c6, c7, c8, c9, c10, c11] : va_W) ([c4, c5, c6, c7, c8, c9, c10, c11, c2, c3] ++ [c0, c1]) := pick_perm 12 rfl [4, 5, 6, 7, 8, 9, 10, 11, 2, 3] [0, 1] (by decide +kernel) rfl rfl
theorem pm_9 {c0 c1 c2 c3 c4 c5 c6 c7 c8 c9 c10 c11 : Nat × va_E} : List.Perm ([c0, c1, c2, c3, c4, c5, c6, c7, c8, c9, c10, c11] : va_W) ([c0, c1, c10, c11, c2, c3, c4, c5, c6, c7, c8, c9] ++ []) := pick_perm 12 rfl [0, 1, 10, 11, 2, 3, 4, 5, 6, 7, 8, 9] [] (by decide +kernel) rfl rfl
theorem pm_10 {c0 c1 c2 c3 : Nat × va_E} : List.Perm ([c0, c1, c2, c3] : va_W) ([c0, c1, c2, c3] ++ []) := pick_perm 4 rfl [0, 1, 2, 3] [] (by decide +kernel) rfl rfl
theorem pm_11 {c0 c1 : Nat × va_E} : List.Perm ([c0, c1] : va_W) ([c0] ++ [c1]) := pick_perm 2 rfl [0] [1] (by decide +kernel) rfl rfl
theorem pm_12 {c0 c1 : Nat × va_E} : List.Perm ([c0, c1] : va_W) ([c1, c0] ++ []) := pick_perm 2 rfl [1, 0] [] (by decide +kernel) rfl rfl
theorem dX4_read_0 : decode cX4_read 0 = .ok (.aload_n 0, 1) := by decide +kernel
theorem dX4_read_1 : decode cX4_read 1 = .ok (.aload_n 1, 1) := by decide +kernel
theorem dX4_read_2 : decode cX4_read 2 = .ok (.invokevirtual 34, 3) := by decide +kernel
theorem dX4_read_5 : decode cX4_read 5 = .ok (.putfield 9, 3) := by decide +kernel
theorem dX4_read_8 : decode cX4_read 8 = .ok (.aload_n 1, 1) := by decide +kernel
theorem dX4_read_9 : decode cX4_read 9 = .ok (.aload_n 0, 1) := by decide +kernel
theorem dX4_read_10 : decode cX4_read 10 = .ok (.getfield 20, 3) := by decide +kernel
theorem dX4_read_13 : decode cX4_read 13 = .ok (.invokevirtual 40, 3) := by decide +kernel
theorem dX4_read_16 : decode cX4_read 16 = .ok (.iconst 0, 1) := by decide +kernel
theorem dX4_read_17 : decode cX4_read 17 = .ok (.istore_n 2, 1) := by decide +kernel
theorem dX4_read_18 : decode cX4_read 18 = .ok (.iload_n 2, 1) := by decide +kernel
theorem dX4_read_19 : decode cX4_read 19 = .ok (.iconst 3, 1) := by decide +kernel
theorem dX4_read_20 : decode cX4_read 20 = .ok (.if_icmp .ge 39, 3) := by decide +kernel
theorem dX4_read_23 : decode cX4_read 23 = .ok (.aload_n 0, 1) := by decide +kernel
theorem dX4_read_24 : decode cX4_read 24 = .ok (.getfield 24, 3) := by decide +kernel
theorem dX4_read_27 : decode cX4_read 27 = .ok (.iload_n 2, 1) := by decide +kernel
theorem dX4_read_28 : decode cX4_read 28 = .ok (.aload_n 0, 1) := by decide +kernel
theorem dX4_read_29 : decode cX4_read 29 = .ok (.getfield 20, 3) := by decide +kernel
theorem dX4_read_32 : decode cX4_read 32 = .ok (.iload_n 2, 1) := by decide +kernel
theorem dX4_read_33 : decode cX4_read 33 = .ok (.invokevirtual 44, 3) := by decide +kernel
theorem dX4_read_36 : decode cX4_read 36 = .ok (.ifCond .eq 15, 3) := by decide +kernel
theorem dX4_read_39 : decode cX4_read 39 = .ok (.aload_n 0, 1) := by decide +kernel
theorem dX4_read_40 : decode cX4_read 40 = .ok (.getfield 20, 3) := by decide +kernel
theorem dX4_read_43 : decode cX4_read 43 = .ok (.getfield 48, 3) := by decide +kernel
theorem dX4_read_46 : decode cX4_read 46 = .ok (.iload_n 2, 1) := by decide +kernel
theorem dX4_read_47 : decode cX4_read 47 = .ok (.iaload, 1) := by decide +kernel
theorem dX4_read_48 : decode cX4_read 48 = .ok (.goto 4, 3) := by decide +kernel
theorem dX4_read_51 : decode cX4_read 51 = .ok (.iconst 5, 1) := by decide +kernel
theorem dX4_read_52 : decode cX4_read 52 = .ok (.iastore, 1) := by decide +kernel
theorem dX4_read_53 : decode cX4_read 53 = .ok (.iinc 2 1, 3) := by decide +kernel
theorem dX4_read_56 : decode cX4_read 56 = .ok (.goto (-38), 3) := by decide +kernel
theorem dX4_read_59 : decode cX4_read 59 = .ok (.iconst 0, 1) := by decide +kernel
theorem dX4_read_60 : decode cX4_read 60 = .ok (.istore_n 2, 1) := by decide +kernel
theorem dX4_read_61 : decode cX4_read 61 = .ok (.iload_n 2, 1) := by decide +kernel
theorem dX4_read_62 : decode cX4_read 62 = .ok (.bipush 64, 2) := by decide +kernel
theorem dX4_read_64 : decode cX4_read 64 = .ok (.if_icmp .ge 37, 3) := by decide +kernel
theorem dX4_read_67 : decode cX4_read 67 = .ok (.aload_n 0, 1) := by decide +kernel
theorem dX4_read_68 : decode cX4_read 68 = .ok (.getfield 28, 3) := by decide +kernel
theorem dX4_read_71 : decode cX4_read 71 = .ok (.iload_n 2, 1) := by decide +kernel
theorem dX4_read_72 : decode cX4_read 72 = .ok (.aload_n 0, 1) := by decide +kernel
theorem dX4_read_73 : decode cX4_read 73 = .ok (.getfield 20, 3) := by decide +kernel
theorem dX4_read_76 : decode cX4_read 76 = .ok (.iload_n 2, 1) := by decide +kernel
theorem dX4_read_77 : decode cX4_read 77 = .ok (.invokevirtual 51, 3) := by decide +kernel
theorem dX4_read_80 : decode cX4_read 80 = .ok (.iastore, 1) := by decide +kernel
theorem dX4_read_81 : decode cX4_read 81 = .ok (.aload_n 0, 1) := by decide +kernel
theorem dX4_read_82 : decode cX4_read 82 = .ok (.getfield 31, 3) := by decide +kernel
theorem dX4_read_85 : decode cX4_read 85 = .ok (.iload_n 2, 1) := by decide +kernel
theorem dX4_read_86 : decode cX4_read 86 = .ok (.aload_n 0, 1) := by decide +kernel
theorem dX4_read_87 : decode cX4_read 87 = .ok (.getfield 20, 3) := by decide +kernel
theorem dX4_read_90 : decode cX4_read 90 = .ok (.iload_n 2, 1) := by decide +kernel
theorem dX4_read_91 : decode cX4_read 91 = .ok (.invokevirtual 55, 3) := by decide +kernel
theorem dX4_read_94 : decode cX4_read 94 = .ok (.iastore, 1) := by decide +kernel
theorem dX4_read_95 : decode cX4_read 95 = .ok (.iinc 2 1, 3) := by decide +kernel
theorem dX4_read_98 : decode cX4_read 98 = .ok (.goto (-37), 3) := by decide +kernel
theorem dX4_read_101 : decode cX4_read 101 = .ok (.return_, 1) := by decide +kernel
theorem dX5_add_0 : decode cX5_add 0 = .ok (.aload_n 0, 1) := by decide +kernel
theorem dX5_add_1 : decode cX5_add 1 = .ok (.getfield 17, 3) := by decide +kernel
theorem dX5_add_4 : decode cX5_add 4 = .ok (.aload_n 0, 1) := by decide +kernel
theorem dX5_add_5 : decode cX5_add 5 = .ok (.getfield 11, 3) := by decide +kernel
theorem dX5_add_8 : decode cX5_add 8 = .ok (.arraylength, 1) := by decide +kernel
theorem dX5_add_9 : decode cX5_add 9 = .ok (.if_icmp .ge 26, 3) := by decide +kernel
theorem dX5_add_12 : decode cX5_add 12 = .ok (.aload_n 0, 1) := by decide +kernel
theorem dX5_add_13 : decode cX5_add 13 = .ok (.getfield 11, 3) := by decide +kernel
theorem dX5_add_16 : decode cX5_add 16 = .ok (.aload_n 0, 1) := by decide +kernel
theorem dX5_add_17 : decode cX5_add 17 = .ok (.getfield 17, 3) := by decide +kernel
theorem dX5_add_20 : decode cX5_add 20 = .ok (.aaload, 1) := by decide +kernel
theorem dX5_add_21 : decode cX5_add 21 = .ok (.aload_n 1, 1) := by decide +kernel
theorem dX5_add_22 : decode cX5_add 22 = .ok (.invokevirtual 22, 3) := by decide +kernel
theorem dX5_add_25 : decode cX5_add 25 = .ok (.aload_n 0, 1) := by decide +kernel
theorem dX5_add_26 : decode cX5_add 26 = .ok (.dup, 1) := by decide +kernel
theorem dX5_add_27 : decode cX5_add 27 = .ok (.getfield 17, 3) := by decide +kernel
theorem dX5_add_30 : decode cX5_add 30 = .ok (.iconst 1, 1) := by decide +kernel
theorem dX5_add_31 : decode cX5_add 31 = .ok (.iadd, 1) := by decide +kernel
theorem dX5_add_32 : decode cX5_add 32 = .ok (.putfield 17, 3) := by decide +kernel
theorem dX5_add_35 : decode cX5_add 35 = .ok (.return_, 1) := by decide +kernel
theorem dX5_has_0 : decode cX5_has 0 = .ok (.iload_n 1, 1) := by decide +kernel
theorem dX5_has_1 : decode cX5_has 1 = .ok (.ifCond .lt 15, 3) := by decide +kernel
theorem dX5_has_4 : decode cX5_has 4 = .ok (.iload_n 1, 1) := by decide +kernel
theorem dX5_has_5 : decode cX5_has 5 = .ok (.aload_n 0, 1) := by decide +kernel
theorem dX5_has_6 : decode cX5_has 6 = .ok (.getfield 17, 3) := by decide +kernel
theorem dX5_has_9 : decode cX5_has 9 = .ok (.if_icmp .ge 7, 3) := by decide +kernel
theorem dX5_has_12 : decode cX5_has 12 = .ok (.iconst 1, 1) := by decide +kernel
theorem dX5_has_13 : decode cX5_has 13 = .ok (.goto 4, 3) := by decide +kernel
theorem dX5_has_16 : decode cX5_has 16 = .ok (.iconst 0, 1) := by decide +kernel
theorem dX5_has_17 : decode cX5_has 17 = .ok (.ireturn, 1) := by decide +kernel
theorem dX5_remove_0 : decode cX5_remove 0 = .ok (.aload_n 0, 1) := by decide +kernel
theorem dX5_remove_1 : decode cX5_remove 1 = .ok (.iload_n 1, 1) := by decide +kernel
theorem dX5_remove_2 : decode cX5_remove 2 = .ok (.invokevirtual 26, 3) := by decide +kernel
theorem dX5_remove_5 : decode cX5_remove 5 = .ok (.ifCond .ne 4, 3) := by decide +kernel
theorem dX5_remove_9 : decode cX5_remove 9 = .ok (.aload_n 0, 1) := by decide +kernel
theorem dX5_remove_10 : decode cX5_remove 10 = .ok (.getfield 11, 3) := by decide +kernel
theorem dX5_remove_13 : decode cX5_remove 13 = .ok (.iload_n 1, 1) := by decide +kernel
theorem dX5_remove_14 : decode cX5_remove 14 = .ok (.aaload, 1) := by decide +kernel
theorem dX5_remove_15 : decode cX5_remove 15 = .ok (.astore_n 2, 1) := by decide +kernel
theorem dX5_remove_16 : decode cX5_remove 16 = .ok (.iload_n 1, 1) := by decide +kernel
theorem dX5_remove_17 : decode cX5_remove 17 = .ok (.istore_n 3, 1) := by decide +kernel
theorem dX5_remove_18 : decode cX5_remove 18 = .ok (.iload_n 3, 1) := by decide +kernel
theorem dX5_remove_19 : decode cX5_remove 19 = .ok (.iconst 1, 1) := by decide +kernel
theorem dX5_remove_20 : decode cX5_remove 20 = .ok (.iadd, 1) := by decide +kernel
theorem dX5_remove_21 : decode cX5_remove 21 = .ok (.aload_n 0, 1) := by decide +kernel
theorem dX5_remove_22 : decode cX5_remove 22 = .ok (.getfield 17, 3) := by decide +kernel
theorem dX5_remove_25 : decode cX5_remove 25 = .ok (.if_icmp .ge 23, 3) := by decide +kernel
theorem dX5_remove_28 : decode cX5_remove 28 = .ok (.aload_n 0, 1) := by decide +kernel
theorem dX5_remove_29 : decode cX5_remove 29 = .ok (.getfield 11, 3) := by decide +kernel
theorem dX5_remove_32 : decode cX5_remove 32 = .ok (.iload_n 3, 1) := by decide +kernel
theorem dX5_remove_33 : decode cX5_remove 33 = .ok (.aload_n 0, 1) := by decide +kernel
theorem dX5_remove_34 : decode cX5_remove 34 = .ok (.getfield 11, 3) := by decide +kernel
theorem dX5_remove_37 : decode cX5_remove 37 = .ok (.iload_n 3, 1) := by decide +kernel
theorem dX5_remove_38 : decode cX5_remove 38 = .ok (.iconst 1, 1) := by decide +kernel
theorem dX5_remove_39 : decode cX5_remove 39 = .ok (.iadd, 1) := by decide +kernel
theorem dX5_remove_40 : decode cX5_remove 40 = .ok (.aaload, 1) := by decide +kernel
theorem dX5_remove_41 : decode cX5_remove 41 = .ok (.aastore, 1) := by decide +kernel
theorem dX5_remove_42 : decode cX5_remove 42 = .ok (.iinc 3 1, 3) := by decide +kernel
theorem dX5_remove_45 : decode cX5_remove 45 = .ok (.goto (-27), 3) := by decide +kernel
theorem dX5_remove_48 : decode cX5_remove 48 = .ok (.aload_n 0, 1) := by decide +kernel
theorem dX5_remove_49 : decode cX5_remove 49 = .ok (.dup, 1) := by decide +kernel
theorem dX5_remove_50 : decode cX5_remove 50 = .ok (.getfield 17, 3) := by decide +kernel
theorem dX5_remove_53 : decode cX5_remove 53 = .ok (.iconst 1, 1) := by decide +kernel
theorem dX5_remove_54 : decode cX5_remove 54 = .ok (.isub, 1) := by decide +kernel
theorem dX5_remove_55 : decode cX5_remove 55 = .ok (.putfield 17, 3) := by decide +kernel
theorem dX5_remove_58 : decode cX5_remove 58 = .ok (.aload_n 0, 1) := by decide +kernel
theorem dX5_remove_59 : decode cX5_remove 59 = .ok (.getfield 11, 3) := by decide +kernel
theorem dX5_remove_62 : decode cX5_remove 62 = .ok (.aload_n 0, 1) := by decide +kernel
theorem dX5_remove_63 : decode cX5_remove 63 = .ok (.getfield 17, 3) := by decide +kernel
theorem dX5_remove_66 : decode cX5_remove 66 = .ok (.aload_n 2, 1) := by decide +kernel
theorem dX5_remove_67 : decode cX5_remove 67 = .ok (.aastore, 1) := by decide +kernel
theorem dX5_remove_68 : decode cX5_remove 68 = .ok (.return_, 1) := by decide +kernel
section
variable (l : Launch) (D : va_G) (cI cJ cZ cR : ClassId)
set_option maxHeartbeats 4000000 in
set_option maxRecDepth 100000 in
theorem c_X4_read (sz : Nat) (h0 : Nat) (b0 : Nat) (a1 : Nat) (a2 : Nat) (a3 : Nat) (s0 : Nat) (w0 : Nat) (u0 : Nat) (op : Int32) (en : Int32) (ev : Int32) (x1 : Nat → Int32) (x2 : Nat → Int32) (x3 : Nat → Int32) (x4 : Nat → Int32) (x5 : Nat → Int32) (x6 : Nat → Int32) (pg : Nat) (pc : Nat) (z : Nat) (pf : Nat → Int32) (hz : z ≤ 16) (hl0 : ¬ cL (pf 0) < 0) (hE : z = 2 + 3 * ((z - 2) / 3)) (hE3 : (z - 2) / 3 ≤ 3) (hv : ndN pf z ≤ 5) (hv2 : 2 ≤ ndN pf z) : CTv l D cI cJ cZ cR yX4_read cX4_read 3 none 4 92 0 0 sz [.ref h0, .ref pg] [kX4 h0 op b0 s0 w0 u0, kX0 b0 a1 a2 a3 en ev, kI cI a1 3 x1, kI cI a2 3 x2, kI cI a3 3 x3, kI cI s0 3 x4, kI cI w0 64 x5, kI cI u0 64 x6, kX3 pg pc (nI z), kI cI pc 16 pf] (fun (u : (Nat → Int32) × (Nat → Int32) × (Nat → Int32) × (Nat → Int32) × (Nat → Int32) × (Nat → Int32)) => (edT pf 2 ((z - 2) / 3) u.1 u.2.1 u.2.2.1) ∧ (∀ j, j < 3 → u.2.2.2.1 j = slv u.1 ((z - 2) / 3) j) ∧ (∀ j, j < 64 → lt4 (u.2.2.2.2.1 j)) ∧ (∀ j, j < 64 → lt4 (u.2.2.2.2.2 j))) (fun (u : (Nat → Int32) × (Nat → Int32) × (Nat → Int32) × (Nat → Int32) × (Nat → Int32) × (Nat → Int32)) => [kX4 h0 (cL (pf 0)) b0 s0 w0 u0, kX0 b0 a1 a2 a3 (nI ((z - 2) / 3)) (nI (ndN pf z)), kI cI a1 3 u.1, kI cI a2 3 u.2.1, kI cI a3 3 u.2.2.1, kI cI s0 3 u.2.2.2.1, kI cI w0 64 u.2.2.2.2.1, kI cI u0 64 u.2.2.2.2.2, kX3 pg pc (nI z), kI cI pc 16 pf]) := by
  refine CTv.of (by decide) (Nat.le_of_ble_eq_true rfl) rfl ?_
  intro p e s m below meth c A Q ls hd hin hK hsz hP hD hA hS hl hret
  obtain ⟨hx, hb, hml, hown, hts⟩ := id hd
  have hK1 := hK.1
  have hown : s.vm.findClass RX4 = some m.cls := hown
  have hl : lv_has ls 3 [(0, .ref h0), (1, .ref pg)] := hl
  refine lv_aload_n hx hb dX4_read_0 rfl (lv_at hl 0 rfl) ?_
  refine lv_aload_n hx hb dX4_read_1 rfl (lv_at hl 1 rfl) ?_
  refine xc_i (wc := [kX3 pg pc (nI z), kI cI pc 16 pf]) (wr := [kX4 h0 op b0 s0 w0 u0, kX0 b0 a1 a2 a3 en ev, kI cI a1 3 x1, kI cI a2 3 x2, kI cI a3 3 x3, kI cI s0 3 x4, kI cI w0 64 x5, kI cI u0 64 x6]) (xrV (n := 0) (As := []) (rest := [.ref h0]) (ci := 3) (q0 := 8) hd hK hP hD (c_X3_openLetter l D cI cJ cZ cR _ pg pc z pf hl0) (gV t_252 mV_X3_openLetter) hV_X3_openLetter ⟨(Nat.le_of_ble_eq_true rfl), (Nat.le_of_ble_eq_true rfl)⟩ rfl rfl [8, 9] rfl rfl rfl hl.1 rfl (Nat.le_of_ble_eq_true rfl) dX4_read_2 ⟨(Nat.le_of_ble_eq_true rfl), (Nat.le_of_ble_eq_true rfl)⟩) hP hD hS hA [8, 9] [0, 1, 2, 3, 4, 5, 6, 7] rfl rfl rfl (by decide) (fun r_1 u_2 H locs hw_3 hP hD hS => ?_)
  have hw_4 : r_1 = (cL (pf 0)) := hw_3
  subst hw_4
  have hP : va_P D vwCl [kX4 h0 op b0 s0 w0 u0, kX0 b0 a1 a2 a3 en ev, kI cI a1 3 x1, kI cI a2 3 x2, kI cI a3 3 x3, kI cI s0 3 x4, kI cI w0 64 x5, kI cI u0 64 x6, kX3 pg pc (nI z), kI cI pc 16 pf] H := hP
  have hD : va_D A [kX4 h0 op b0 s0 w0 u0, kX0 b0 a1 a2 a3 en ev, kI cI a1 3 x1, kI cI a2 3 x2, kI cI a3 3 x3, kI cI s0 3 x4, kI cI w0 64 x5, kI cI u0 64 x6, kX3 pg pc (nI z), kI cI pc 16 pf] := hD
  refine va_put (D := D) (ci := 4) (v := .int (cL (pf 0))) (ty := .int) (C := RX4) (T := TX4) (N := 5) hx hb hts iT_X4 tyX4 tyX4_ok nmX4 hown hK1 hP hD hS 0 rfl rfl 0 (by decide) (hts _ t_79) (fun _ h9 => h9) rfl (by decide +kernel) rfl rfl (Nat.le_of_ble_eq_true rfl) dX4_read_5 (fun H locs hP hD hS => ?_)
  have hP : va_P D vwCl [kX4 h0 (cL (pf 0)) b0 s0 w0 u0, kX0 b0 a1 a2 a3 en ev, kI cI a1 3 x1, kI cI a2 3 x2, kI cI a3 3 x3, kI cI s0 3 x4, kI cI w0 64 x5, kI cI u0 64 x6, kX3 pg pc (nI z), kI cI pc 16 pf] H := hP
  have hD : va_D A [kX4 h0 (cL (pf 0)) b0 s0 w0 u0, kX0 b0 a1 a2 a3 en ev, kI cI a1 3 x1, kI cI a2 3 x2, kI cI a3 3 x3, kI cI s0 3 x4, kI cI w0 64 x5, kI cI u0 64 x6, kX3 pg pc (nI z), kI cI pc 16 pf] := hD
  refine lv_aload_n hx hb dX4_read_8 rfl (lv_at hl 1 rfl) ?_
  refine lv_aload_n hx hb dX4_read_9 rfl (lv_at hl 0 rfl) ?_
  refine va_get (D := D) (ci := 4) (v := .ref b0) (C := RX4) (T := TX4) (N := 5) hx hb hts iT_X4 hown hK1 hP 0 rfl rfl 1 (by decide) (hts _ t_83) (fun _ h9 => h9) rfl dX4_read_10 ?_
  refine xc_v (wc := [kX3 pg pc (nI z), kI cI pc 16 pf, kX0 b0 a1 a2 a3 en ev, kI cI a1 3 x1, kI cI a2 3 x2, kI cI a3 3 x3]) (wr := [kX4 h0 (cL (pf 0)) b0 s0 w0 u0, kI cI s0 3 x4, kI cI w0 64 x5, kI cI u0 64 x6]) (xrV (n := 1) (As := [.ref b0]) (rest := []) (ci := 3) (q0 := 8) hd hK hP hD (c_X3_copyRule l D cI cJ cZ cR _ pg pc z pf b0 a1 a2 a3 ((z - 2) / 3) en ev x1 x2 x3 hz hE hE3) (gV t_259 mV_X3_copyRule) hV_X3_copyRule ⟨(Nat.le_of_ble_eq_true rfl), (Nat.le_of_ble_eq_true rfl)⟩ rfl rfl [8, 9, 1, 2, 3, 4] rfl rfl rfl hl.1 rfl (Nat.le_of_ble_eq_true rfl) dX4_read_13 ⟨(Nat.le_of_ble_eq_true rfl), (Nat.le_of_ble_eq_true rfl)⟩) hP hD hS hA [8, 9, 1, 2, 3, 4] [0, 5, 6, 7] rfl rfl rfl (by decide) (fun u_6 H locs hw_7 hP hD hS => ?_)
  obtain ⟨y1_8, y2_9, y3_10⟩ := u_6
  have hw_11 : edT pf 2 ((z - 2) / 3) y1_8 y2_9 y3_10 := hw_7
  have hed := hw_11
  have hP : va_P D vwCl [kX4 h0 (cL (pf 0)) b0 s0 w0 u0, kI cI s0 3 x4, kI cI w0 64 x5, kI cI u0 64 x6, kX3 pg pc (nI z), kI cI pc 16 pf, kX0 b0 a1 a2 a3 (nI ((z - 2) / 3)) (nI (ndN pf z)), kI cI a1 3 y1_8, kI cI a2 3 y2_9, kI cI a3 3 y3_10] H := hP
  have hD : va_D A [kX4 h0 (cL (pf 0)) b0 s0 w0 u0, kI cI s0 3 x4, kI cI w0 64 x5, kI cI u0 64 x6, kX3 pg pc (nI z), kI cI pc 16 pf, kX0 b0 a1 a2 a3 (nI ((z - 2) / 3)) (nI (ndN pf z)), kI cI a1 3 y1_8, kI cI a2 3 y2_9, kI cI a3 3 y3_10] := hD
  refine lv_iconst (v := 0) hx hb dX4_read_16 (by decide) ?_
  refine lv_istore_n (lv' := [(2, .int 0), (0, .ref h0), (1, .ref pg)]) hx hb dX4_read_17 rfl hl (by decide) rfl (fun ls hl => ?_)
  have LOOP_18 : ∀ (n : Nat) (i : Nat) (t4 : Nat → Int32), (i + n = 3) → (∀ j, j < i → t4 j = slv y1_8 ((z - 2) / 3) j) → ∀ (H : Heap) (locs : List Loc) (ls : Array Slot), va_P D vwCl [kX4 h0 (cL (pf 0)) b0 s0 w0 u0, kI cI s0 3 t4, kI cI w0 64 x5, kI cI u0 64 x6, kX3 pg pc (nI z), kI cI pc 16 pf, kX0 b0 a1 a2 a3 (nI ((z - 2) / 3)) (nI (ndN pf z)), kI cI a1 3 y1_8, kI cI a2 3 y2_9, kI cI a3 3 y3_10] H → va_D A [kX4 h0 (cL (pf 0)) b0 s0 w0 u0, kI cI s0 3 t4, kI cI w0 64 x5, kI cI u0 64 x6, kX3 pg pc (nI z), kI cI pc 16 pf, kX0 b0 a1 a2 a3 (nI ((z - 2) / 3)) (nI (ndN pf z)), kI cI a1 3 y1_8, kI cI a2 3 y2_9, kI cI a3 3 y3_10] → va_S A s.heap H locs → lv_has ls 3 [(0, .ref h0), (1, .ref pg), (2, .int (nI i))] → W p l e (rM 4 0 0 92) s m ([.ref h0, .ref pg] : List Value).toArray below meth c H locs 0 0 Q (F0 m 18 ls []) := by
    intro n
    induction n with
    | zero =>
      intro i t4 hi hsl H locs ls hP hD hS hl
      refine lv_iload_n hx hb dX4_read_18 rfl (lv_at hl 2 rfl) ?_
      refine lv_iconst (v := 3) hx hb dX4_read_19 (by decide) ?_
      refine lv_icmp_ge (tgt := 59) hx hb dX4_read_20 (by decide) (fun c_12 => ?_) (fun c_12 => ?_)
      rotate_left
      · exact absurd (nI_le (a := 3) (b := i) (by omega) (by omega)) c_12
      refine lv_iconst (v := 0) hx hb dX4_read_59 (by decide) ?_
      refine lv_istore_n (lv' := [(2, .int 0), (0, .ref h0), (1, .ref pg)]) hx hb dX4_read_60 rfl hl (by decide) rfl (fun ls hl => ?_)
      have LOOP_61 : ∀ (n : Nat) (i2 : Nat) (t5 : Nat → Int32) (t6 : Nat → Int32), (i2 + n = 64) → (∀ j, j < i2 → lt4 (t5 j)) → (∀ j, j < i2 → lt4 (t6 j)) → ∀ (H : Heap) (locs : List Loc) (ls : Array Slot), va_P D vwCl [kX4 h0 (cL (pf 0)) b0 s0 w0 u0, kI cI s0 3 t4, kI cI w0 64 t5, kI cI u0 64 t6, kX3 pg pc (nI z), kI cI pc 16 pf, kX0 b0 a1 a2 a3 (nI ((z - 2) / 3)) (nI (ndN pf z)), kI cI a1 3 y1_8, kI cI a2 3 y2_9, kI cI a3 3 y3_10] H → va_D A [kX4 h0 (cL (pf 0)) b0 s0 w0 u0, kI cI s0 3 t4, kI cI w0 64 t5, kI cI u0 64 t6, kX3 pg pc (nI z), kI cI pc 16 pf, kX0 b0 a1 a2 a3 (nI ((z - 2) / 3)) (nI (ndN pf z)), kI cI a1 3 y1_8, kI cI a2 3 y2_9, kI cI a3 3 y3_10] → va_S A s.heap H locs → lv_has ls 3 [(0, .ref h0), (1, .ref pg), (2, .int (nI i2))] → W p l e (rM 4 0 0 92) s m ([.ref h0, .ref pg] : List Value).toArray below meth c H locs 0 0 Q (F0 m 61 ls []) := by
        intro n
        induction n with
        | zero =>
          intro i2 t5 t6 hi2 hw5 hw6 H locs ls hP hD hS hl
          refine lv_iload_n hx hb dX4_read_61 rfl (lv_at hl 2 rfl) ?_
          refine lv_bipush (v := 64) hx hb dX4_read_62 (by decide) ?_
          refine lv_icmp_ge (tgt := 101) hx hb dX4_read_64 (by decide) (fun c_13 => ?_) (fun c_13 => ?_)
          rotate_left
          · exact absurd (nI_le (a := 64) (b := i2) (by omega) (by omega)) c_13
          exact hret _ _ _ _ _ _ (y1_8, y2_9, y3_10, t4, t5, t6) dX4_read_101 hS (Nat.le_of_ble_eq_true rfl) (Nat.le_of_ble_eq_true rfl) ⟨hed, fun j hj => hsl j (by omega), fun j hj => hw5 j (by omega), fun j hj => hw6 j (by omega)⟩ (hP.sub [0, 6, 7, 8, 9, 1, 2, 3, 4, 5] rfl) (hD.sub [0, 6, 7, 8, 9, 1, 2, 3, 4, 5] rfl rfl)
        | succ n ih_61 =>
          intro i2 t5 t6 hi2 hw5 hw6 H locs ls hP hD hS hl
          refine lv_iload_n hx hb dX4_read_61 rfl (lv_at hl 2 rfl) ?_
          refine lv_bipush (v := 64) hx hb dX4_read_62 (by decide) ?_
          refine lv_icmp_ge (tgt := 101) hx hb dX4_read_64 (by decide) (fun c_14 => ?_) (fun c_14 => ?_)
          · exact absurd c_14 (nI_ge (a := i2) (b := 64) (by omega) (by omega))
          refine lv_aload_n hx hb dX4_read_67 rfl (lv_at hl 0 rfl) ?_
          refine va_get (D := D) (ci := 4) (v := .ref w0) (C := RX4) (T := TX4) (N := 5) hx hb hts iT_X4 hown hK1 hP 0 rfl rfl 3 (by decide) (hts _ t_89) (fun _ h9 => h9) rfl dX4_read_68 ?_
          refine lv_iload_n hx hb dX4_read_71 rfl (lv_at hl 2 rfl) ?_
          refine lv_aload_n hx hb dX4_read_72 rfl (lv_at hl 0 rfl) ?_
          refine va_get (D := D) (ci := 4) (v := .ref b0) (C := RX4) (T := TX4) (N := 5) hx hb hts iT_X4 hown hK1 hP 0 rfl rfl 1 (by decide) (hts _ t_83) (fun _ h9 => h9) rfl dX4_read_73 ?_
          refine lv_iload_n hx hb dX4_read_76 rfl (lv_at hl 2 rfl) ?_
          refine xc_i (wc := [kX0 b0 a1 a2 a3 (nI ((z - 2) / 3)) (nI (ndN pf z)), kI cI a1 3 y1_8, kI cI a2 3 y2_9, kI cI a3 3 y3_10]) (wr := [kX4 h0 (cL (pf 0)) b0 s0 w0 u0, kI cI s0 3 t4, kI cI w0 64 t5, kI cI u0 64 t6, kX3 pg pc (nI z), kI cI pc 16 pf]) (xrV (n := 1) (As := [.int (nI i2)]) (rest := [.int (nI i2), .ref w0]) (ci := 0) (q0 := 6) hd hK hP hD (c_X0_waysOf l D cI cJ cZ cR _ b0 a1 a2 a3 3 ((z - 2) / 3) (ndN pf z) (nI i2) y1_8 y2_9 y3_10 (by decide) (by omega) (by omega) (by omega)) (gV t_283 mV_X0_waysOf) hV_X0_waysOf ⟨(Nat.le_of_ble_eq_true rfl), (Nat.le_of_ble_eq_true rfl)⟩ rfl rfl [6, 7, 8, 9] rfl rfl rfl hl.1 rfl (Nat.le_of_ble_eq_true rfl) dX4_read_77 ⟨(Nat.le_of_ble_eq_true rfl), (Nat.le_of_ble_eq_true rfl)⟩) hP hD hS hA [6, 7, 8, 9] [0, 1, 2, 3, 4, 5] rfl rfl rfl (by decide) (fun r_15 u_16 H locs hw_17 hP hD hS => ?_)
          obtain ⟨hw_18, hw_19⟩ : (r_15 = (wyF (nI i2) y2_9 y3_10 ((z - 2) / 3) (ndN pf z))) ∧ (lt4 (wyF (nI i2) y2_9 y3_10 ((z - 2) / 3) (ndN pf z))) := hw_17
          subst hw_18
          have hwy := hw_19
          have hP : va_P D vwCl [kX4 h0 (cL (pf 0)) b0 s0 w0 u0, kI cI s0 3 t4, kI cI w0 64 t5, kI cI u0 64 t6, kX3 pg pc (nI z), kI cI pc 16 pf, kX0 b0 a1 a2 a3 (nI ((z - 2) / 3)) (nI (ndN pf z)), kI cI a1 3 y1_8, kI cI a2 3 y2_9, kI cI a3 3 y3_10] H := hP
          have hD : va_D A [kX4 h0 (cL (pf 0)) b0 s0 w0 u0, kI cI s0 3 t4, kI cI w0 64 t5, kI cI u0 64 t6, kX3 pg pc (nI z), kI cI pc 16 pf, kX0 b0 a1 a2 a3 (nI ((z - 2) / 3)) (nI (ndN pf z)), kI cI a1 3 y1_8, kI cI a2 3 y2_9, kI cI a3 3 y3_10] := hD
          refine va_iast hx hb hK1 hP hD hS 2 0 rfl rfl (vp_in_nI (by omega) (by omega)) dX4_read_80 (fun H locs hP hD hS => ?_)
          rw [nI_clamp (n := i2) (by omega)] at hP hD
          have hP : va_P D vwCl [kX4 h0 (cL (pf 0)) b0 s0 w0 u0, kI cI s0 3 t4, kI cI w0 64 (upd t5 i2 (wyF (nI i2) y2_9 y3_10 ((z - 2) / 3) (ndN pf z))), kI cI u0 64 t6, kX3 pg pc (nI z), kI cI pc 16 pf, kX0 b0 a1 a2 a3 (nI ((z - 2) / 3)) (nI (ndN pf z)), kI cI a1 3 y1_8, kI cI a2 3 y2_9, kI cI a3 3 y3_10] H := hP
          have hD : va_D A [kX4 h0 (cL (pf 0)) b0 s0 w0 u0, kI cI s0 3 t4, kI cI w0 64 (upd t5 i2 (wyF (nI i2) y2_9 y3_10 ((z - 2) / 3) (ndN pf z))), kI cI u0 64 t6, kX3 pg pc (nI z), kI cI pc 16 pf, kX0 b0 a1 a2 a3 (nI ((z - 2) / 3)) (nI (ndN pf z)), kI cI a1 3 y1_8, kI cI a2 3 y2_9, kI cI a3 3 y3_10] := hD
          refine lv_aload_n hx hb dX4_read_81 rfl (lv_at hl 0 rfl) ?_
          refine va_get (D := D) (ci := 4) (v := .ref u0) (C := RX4) (T := TX4) (N := 5) hx hb hts iT_X4 hown hK1 hP 0 rfl rfl 4 (by decide) (hts _ t_90) (fun _ h9 => h9) rfl dX4_read_82 ?_
          refine lv_iload_n hx hb dX4_read_85 rfl (lv_at hl 2 rfl) ?_
          refine lv_aload_n hx hb dX4_read_86 rfl (lv_at hl 0 rfl) ?_
          refine va_get (D := D) (ci := 4) (v := .ref b0) (C := RX4) (T := TX4) (N := 5) hx hb hts iT_X4 hown hK1 hP 0 rfl rfl 1 (by decide) (hts _ t_83) (fun _ h9 => h9) rfl dX4_read_87 ?_
          refine lv_iload_n hx hb dX4_read_90 rfl (lv_at hl 2 rfl) ?_
          refine xc_i (wc := [kX0 b0 a1 a2 a3 (nI ((z - 2) / 3)) (nI (ndN pf z)), kI cI a1 3 y1_8, kI cI a2 3 y2_9, kI cI a3 3 y3_10]) (wr := [kX4 h0 (cL (pf 0)) b0 s0 w0 u0, kI cI s0 3 t4, kI cI w0 64 (upd t5 i2 (wyF (nI i2) y2_9 y3_10 ((z - 2) / 3) (ndN pf z))), kI cI u0 64 t6, kX3 pg pc (nI z), kI cI pc 16 pf]) (xrV (n := 1) (As := [.int (nI i2)]) (rest := [.int (nI i2), .ref u0]) (ci := 0) (q0 := 6) hd hK hP hD (c_X0_huesOf l D cI cJ cZ cR _ b0 a1 a2 a3 3 ((z - 2) / 3) (ndN pf z) (nI i2) y1_8 y2_9 y3_10 (by decide) (by omega) (by omega) (by omega)) (gV t_291 mV_X0_huesOf) hV_X0_huesOf ⟨(Nat.le_of_ble_eq_true rfl), (Nat.le_of_ble_eq_true rfl)⟩ rfl rfl [6, 7, 8, 9] rfl rfl rfl hl.1 rfl (Nat.le_of_ble_eq_true rfl) dX4_read_91 ⟨(Nat.le_of_ble_eq_true rfl), (Nat.le_of_ble_eq_true rfl)⟩) hP hD hS hA [6, 7, 8, 9] [0, 1, 2, 3, 4, 5] rfl rfl rfl (by decide) (fun r_20 u_21 H locs hw_22 hP hD hS => ?_)
          obtain ⟨hw_23, hw_24⟩ : (lt4 r_20) ∧ (HUq (nI i2) y2_9 y3_10 ((z - 2) / 3) (2 ^ ((ndN pf z) - 1)) r_20) := hw_22
          have hhu := hw_23
          have hP : va_P D vwCl [kX4 h0 (cL (pf 0)) b0 s0 w0 u0, kI cI s0 3 t4, kI cI w0 64 (upd t5 i2 (wyF (nI i2) y2_9 y3_10 ((z - 2) / 3) (ndN pf z))), kI cI u0 64 t6, kX3 pg pc (nI z), kI cI pc 16 pf, kX0 b0 a1 a2 a3 (nI ((z - 2) / 3)) (nI (ndN pf z)), kI cI a1 3 y1_8, kI cI a2 3 y2_9, kI cI a3 3 y3_10] H := hP
          have hD : va_D A [kX4 h0 (cL (pf 0)) b0 s0 w0 u0, kI cI s0 3 t4, kI cI w0 64 (upd t5 i2 (wyF (nI i2) y2_9 y3_10 ((z - 2) / 3) (ndN pf z))), kI cI u0 64 t6, kX3 pg pc (nI z), kI cI pc 16 pf, kX0 b0 a1 a2 a3 (nI ((z - 2) / 3)) (nI (ndN pf z)), kI cI a1 3 y1_8, kI cI a2 3 y2_9, kI cI a3 3 y3_10] := hD
          refine va_iast hx hb hK1 hP hD hS 3 0 rfl rfl (vp_in_nI (by omega) (by omega)) dX4_read_94 (fun H locs hP hD hS => ?_)
          rw [nI_clamp (n := i2) (by omega)] at hP hD
          have hP : va_P D vwCl [kX4 h0 (cL (pf 0)) b0 s0 w0 u0, kI cI s0 3 t4, kI cI w0 64 (upd t5 i2 (wyF (nI i2) y2_9 y3_10 ((z - 2) / 3) (ndN pf z))), kI cI u0 64 (upd t6 i2 r_20), kX3 pg pc (nI z), kI cI pc 16 pf, kX0 b0 a1 a2 a3 (nI ((z - 2) / 3)) (nI (ndN pf z)), kI cI a1 3 y1_8, kI cI a2 3 y2_9, kI cI a3 3 y3_10] H := hP
          have hD : va_D A [kX4 h0 (cL (pf 0)) b0 s0 w0 u0, kI cI s0 3 t4, kI cI w0 64 (upd t5 i2 (wyF (nI i2) y2_9 y3_10 ((z - 2) / 3) (ndN pf z))), kI cI u0 64 (upd t6 i2 r_20), kX3 pg pc (nI z), kI cI pc 16 pf, kX0 b0 a1 a2 a3 (nI ((z - 2) / 3)) (nI (ndN pf z)), kI cI a1 3 y1_8, kI cI a2 3 y2_9, kI cI a3 3 y3_10] := hD
          refine lv_iinc (v := nI (i2 + 1)) (lv' := [(2, .int (nI (i2 + 1))), (0, .ref h0), (1, .ref pg)]) hx hb dX4_read_95 hl (k := 2) rfl (nI_1 i2) (by decide) rfl (fun ls hl => ?_)
          refine lv_goto (tgt := 61) hx hb dX4_read_98 (by decide) ?_
          exact ih_61 (i2 + 1) (upd t5 i2 (wyF (nI i2) y2_9 y3_10 ((z - 2) / 3) (ndN pf z))) (upd t6 i2 r_20) (by omega) (lt4_s hw5 hwy) (lt4_s hw6 hhu) _ _ _ (hP.sub [0, 1, 2, 3, 4, 5, 6, 7, 8, 9] rfl) (hD.sub [0, 1, 2, 3, 4, 5, 6, 7, 8, 9] rfl rfl) hS (lv_sub hl [1, 2, 0] rfl)
      exact LOOP_61 64 0 x5 x6 (by omega) (fun j hj => absurd hj (by omega)) (fun j hj => absurd hj (by omega)) _ _ _ (hP.sub [0, 1, 2, 3, 4, 5, 6, 7, 8, 9] rfl) (hD.sub [0, 1, 2, 3, 4, 5, 6, 7, 8, 9] rfl rfl) hS (lv_sub hl [1, 2, 0] rfl)
    | succ n ih_18 =>
      intro i t4 hi hsl H locs ls hP hD hS hl
      refine lv_iload_n hx hb dX4_read_18 rfl (lv_at hl 2 rfl) ?_
      refine lv_iconst (v := 3) hx hb dX4_read_19 (by decide) ?_
      refine lv_icmp_ge (tgt := 59) hx hb dX4_read_20 (by decide) (fun c_25 => ?_) (fun c_25 => ?_)
      · exact absurd c_25 (nI_ge (a := i) (b := 3) (by omega) (by omega))
      refine lv_aload_n hx hb dX4_read_23 rfl (lv_at hl 0 rfl) ?_
      refine va_get (D := D) (ci := 4) (v := .ref s0) (C := RX4) (T := TX4) (N := 5) hx hb hts iT_X4 hown hK1 hP 0 rfl rfl 2 (by decide) (hts _ t_86) (fun _ h9 => h9) rfl dX4_read_24 ?_
      refine lv_iload_n hx hb dX4_read_27 rfl (lv_at hl 2 rfl) ?_
      refine lv_aload_n hx hb dX4_read_28 rfl (lv_at hl 0 rfl) ?_
      refine va_get (D := D) (ci := 4) (v := .ref b0) (C := RX4) (T := TX4) (N := 5) hx hb hts iT_X4 hown hK1 hP 0 rfl rfl 1 (by decide) (hts _ t_83) (fun _ h9 => h9) rfl dX4_read_29 ?_
      refine lv_iload_n hx hb dX4_read_32 rfl (lv_at hl 2 rfl) ?_
      refine xc_i (wc := [kX0 b0 a1 a2 a3 (nI ((z - 2) / 3)) (nI (ndN pf z))]) (wr := [kX4 h0 (cL (pf 0)) b0 s0 w0 u0, kI cI s0 3 t4, kI cI w0 64 x5, kI cI u0 64 x6, kX3 pg pc (nI z), kI cI pc 16 pf, kI cI a1 3 y1_8, kI cI a2 3 y2_9, kI cI a3 3 y3_10]) (xrV (n := 1) (As := [.int (nI i)]) (rest := [.int (nI i), .ref s0]) (ci := 0) (q0 := 6) hd hK hP hD (c_X0_has l D cI cJ cZ cR _ b0 a1 a2 a3 ((z - 2) / 3) (ndN pf z) (nI i) ) (gV t_279 mV_X0_has) hV_X0_has ⟨(Nat.le_of_ble_eq_true rfl), (Nat.le_of_ble_eq_true rfl)⟩ rfl rfl [6] rfl rfl rfl hl.1 rfl (Nat.le_of_ble_eq_true rfl) dX4_read_33 ⟨(Nat.le_of_ble_eq_true rfl), (Nat.le_of_ble_eq_true rfl)⟩) hP hD hS hA [6] [0, 1, 2, 3, 4, 5, 7, 8, 9] rfl rfl rfl (by decide) (fun r_26 u_27 H locs hw_28 hP hD hS => ?_)
      have hw_29 : r_26 = (hs (nI i) ((z - 2) / 3)) := hw_28
      subst hw_29
      have hP : va_P D vwCl [kX4 h0 (cL (pf 0)) b0 s0 w0 u0, kI cI s0 3 t4, kI cI w0 64 x5, kI cI u0 64 x6, kX3 pg pc (nI z), kI cI pc 16 pf, kI cI a1 3 y1_8, kI cI a2 3 y2_9, kI cI a3 3 y3_10, kX0 b0 a1 a2 a3 (nI ((z - 2) / 3)) (nI (ndN pf z))] H := hP
      have hD : va_D A [kX4 h0 (cL (pf 0)) b0 s0 w0 u0, kI cI s0 3 t4, kI cI w0 64 x5, kI cI u0 64 x6, kX3 pg pc (nI z), kI cI pc 16 pf, kI cI a1 3 y1_8, kI cI a2 3 y2_9, kI cI a3 3 y3_10, kX0 b0 a1 a2 a3 (nI ((z - 2) / 3)) (nI (ndN pf z))] := hD
      refine lv_if_eq (tgt := 51) hx hb dX4_read_36 (by decide) (fun c_30 => ?_) (fun c_30 => ?_)
      · skip
        refine lv_iconst (v := 5) hx hb dX4_read_51 (by decide) ?_
        refine va_iast hx hb hK1 hP hD hS 1 0 rfl rfl (vp_in_nI (by omega) (by omega)) dX4_read_52 (fun H locs hP hD hS => ?_)
        rw [nI_clamp (n := i) (by omega)] at hP hD
        have hP : va_P D vwCl [kX4 h0 (cL (pf 0)) b0 s0 w0 u0, kI cI s0 3 (upd t4 i 5), kI cI w0 64 x5, kI cI u0 64 x6, kX3 pg pc (nI z), kI cI pc 16 pf, kI cI a1 3 y1_8, kI cI a2 3 y2_9, kI cI a3 3 y3_10, kX0 b0 a1 a2 a3 (nI ((z - 2) / 3)) (nI (ndN pf z))] H := hP
        have hD : va_D A [kX4 h0 (cL (pf 0)) b0 s0 w0 u0, kI cI s0 3 (upd t4 i 5), kI cI w0 64 x5, kI cI u0 64 x6, kX3 pg pc (nI z), kI cI pc 16 pf, kI cI a1 3 y1_8, kI cI a2 3 y2_9, kI cI a3 3 y3_10, kX0 b0 a1 a2 a3 (nI ((z - 2) / 3)) (nI (ndN pf z))] := hD
        refine lv_iinc (v := nI (i + 1)) (lv' := [(2, .int (nI (i + 1))), (0, .ref h0), (1, .ref pg)]) hx hb dX4_read_53 hl (k := 2) rfl (nI_1 i) (by decide) rfl (fun ls hl => ?_)
        refine lv_goto (tgt := 18) hx hb dX4_read_56 (by decide) ?_
        exact ih_18 (i + 1) (upd t4 i 5) (by omega) (slv_a hsl c_30) _ _ _ (hP.sub [0, 1, 2, 3, 4, 5, 9, 6, 7, 8] rfl) (hD.sub [0, 1, 2, 3, 4, 5, 9, 6, 7, 8] rfl rfl) hS (lv_sub hl [1, 2, 0] rfl)
      · skip
        refine lv_aload_n hx hb dX4_read_39 rfl (lv_at hl 0 rfl) ?_
        refine va_get (D := D) (ci := 4) (v := .ref b0) (C := RX4) (T := TX4) (N := 5) hx hb hts iT_X4 hown hK1 hP 0 rfl rfl 1 (by decide) (hts _ t_83) (fun _ h9 => h9) rfl dX4_read_40 ?_
        refine va_get (D := D) (ci := 0) (v := .ref a1) (C := RX0) (T := TX0) (N := 5) hx hb hts iT_X0 hown hK1 hP 9 rfl rfl 0 (by decide) (hts _ t_56) (fun _ h9 => h9) rfl dX4_read_43 ?_
        refine lv_iload_n hx hb dX4_read_46 rfl (lv_at hl 2 rfl) ?_
        refine va_iald hx hb hK1 hP 6 0 rfl rfl (vp_in_nI (by omega) (by omega)) dX4_read_47 ?_
        refine lv_nmi (show _ = y1_8 i from by rw [nI_clamp (n := i) (by omega)]) ?_
        refine lv_goto (tgt := 52) hx hb dX4_read_48 (by decide) ?_
        refine va_iast hx hb hK1 hP hD hS 1 0 rfl rfl (vp_in_nI (by omega) (by omega)) dX4_read_52 (fun H locs hP hD hS => ?_)
        rw [nI_clamp (n := i) (by omega)] at hP hD
        have hP : va_P D vwCl [kX4 h0 (cL (pf 0)) b0 s0 w0 u0, kI cI s0 3 (upd t4 i (y1_8 i)), kI cI w0 64 x5, kI cI u0 64 x6, kX3 pg pc (nI z), kI cI pc 16 pf, kI cI a1 3 y1_8, kI cI a2 3 y2_9, kI cI a3 3 y3_10, kX0 b0 a1 a2 a3 (nI ((z - 2) / 3)) (nI (ndN pf z))] H := hP
        have hD : va_D A [kX4 h0 (cL (pf 0)) b0 s0 w0 u0, kI cI s0 3 (upd t4 i (y1_8 i)), kI cI w0 64 x5, kI cI u0 64 x6, kX3 pg pc (nI z), kI cI pc 16 pf, kI cI a1 3 y1_8, kI cI a2 3 y2_9, kI cI a3 3 y3_10, kX0 b0 a1 a2 a3 (nI ((z - 2) / 3)) (nI (ndN pf z))] := hD
        refine lv_iinc (v := nI (i + 1)) (lv' := [(2, .int (nI (i + 1))), (0, .ref h0), (1, .ref pg)]) hx hb dX4_read_53 hl (k := 2) rfl (nI_1 i) (by decide) rfl (fun ls hl => ?_)
        refine lv_goto (tgt := 18) hx hb dX4_read_56 (by decide) ?_
        exact ih_18 (i + 1) (upd t4 i (y1_8 i)) (by omega) (slv_b hsl c_30) _ _ _ (hP.sub [0, 1, 2, 3, 4, 5, 9, 6, 7, 8] rfl) (hD.sub [0, 1, 2, 3, 4, 5, 9, 6, 7, 8] rfl rfl) hS (lv_sub hl [1, 2, 0] rfl)
  exact LOOP_18 3 0 x4 (by omega) (fun j hj => absurd hj (by omega)) _ _ _ (hP.sub [0, 1, 2, 3, 4, 5, 6, 7, 8, 9] rfl) (hD.sub [0, 1, 2, 3, 4, 5, 6, 7, 8, 9] rfl rfl) hS (lv_sub hl [1, 2, 0] rfl)
set_option maxHeartbeats 4000000 in
set_option maxRecDepth 100000 in
theorem c_X5_has (sz : Nat) (bk : Nat) (br : Nat) (r9 : Nat) (p0 : Int32)  : CTi l D cI cJ cZ cR yX5_has cX5_has 2 (some .boolean) 0 0 0 0 sz [.ref bk, .int p0] [kX5 bk br (nI r9)] (fun (r : Int32) (u : Unit) => (r = (hs p0 r9))) (fun (u : Unit) => [kX5 bk br (nI r9)]) := by
  refine CTi.of (ty := .boolean) (by decide) (Nat.le_of_ble_eq_true rfl) rfl ?_
  intro p e s m below meth c A Q ls hd hin hK hsz hP hD hA hS hl hret
  obtain ⟨hx, hb, hml, hown, hts⟩ := id hd
  have hK1 := hK.1
  have hown : s.vm.findClass RX5 = some m.cls := hown
  have hl : lv_has ls 2 [(0, .ref bk), (1, .int p0)] := hl
  refine lv_iload_n hx hb dX5_has_0 rfl (lv_at hl 1 rfl) ?_
  refine lv_if_lt (tgt := 16) hx hb dX5_has_1 (by decide) (fun c_1 => ?_) (fun c_1 => ?_)
  · skip
    refine lv_iconst (v := 0) hx hb dX5_has_16 (by decide) ?_
    exact hret _ _ _ _ _ _ 0 () dX5_has_17 rfl hS (Nat.le_of_ble_eq_true rfl) (Nat.le_of_ble_eq_true rfl) (by simp [hs, c_1]) (hP.sub [0] rfl) (hD.sub [0] rfl rfl)
  · skip
    refine lv_iload_n hx hb dX5_has_4 rfl (lv_at hl 1 rfl) ?_
    refine lv_aload_n hx hb dX5_has_5 rfl (lv_at hl 0 rfl) ?_
    refine va_get (D := D) (ci := 5) (v := .int (nI r9)) (C := RX5) (T := TX5) (N := 2) hx hb hts iT_X5 hown hK1 hP 0 rfl rfl 1 (by decide) (hts _ t_106) (fun _ h9 => h9) rfl dX5_has_6 ?_
    refine lv_icmp_ge (tgt := 16) hx hb dX5_has_9 (by decide) (fun c_2 => ?_) (fun c_2 => ?_)
    · skip
      refine lv_iconst (v := 0) hx hb dX5_has_16 (by decide) ?_
      exact hret _ _ _ _ _ _ 0 () dX5_has_17 rfl hS (Nat.le_of_ble_eq_true rfl) (Nat.le_of_ble_eq_true rfl) (by simp [hs, c_1, c_2]) (hP.sub [0] rfl) (hD.sub [0] rfl rfl)
    · skip
      refine lv_iconst (v := 1) hx hb dX5_has_12 (by decide) ?_
      refine lv_goto (tgt := 17) hx hb dX5_has_13 (by decide) ?_
      exact hret _ _ _ _ _ _ 1 () dX5_has_17 rfl hS (Nat.le_of_ble_eq_true rfl) (Nat.le_of_ble_eq_true rfl) (by simp [hs, c_1, c_2]) (hP.sub [0] rfl) (hD.sub [0] rfl rfl)
set_option maxHeartbeats 4000000 in
set_option maxRecDepth 100000 in
theorem c_X5_add (sz : Nat) (bk : Nat) (br : Nat) (r9 : Nat) (pg : Nat) (pc : Nat) (z : Nat) (pf : Nat → Int32) (rho : Nat → RT) (hz : z ≤ 16) (hr : r9 < 9) (hl0 : ¬ cL (pf 0) < 0) (hE : z = 2 + 3 * ((z - 2) / 3)) (hE3 : (z - 2) / 3 ≤ 3) (hv : ndN pf z ≤ 5) (hv2 : 2 ≤ ndN pf z) : CTv l D cI cJ cZ cR yX5_add cX5_add 2 none 5 114 0 0 sz [.ref bk, .ref pg] ([kX5 bk br (nI r9), kQ cR br 9 (fun k => some ((rho k).1.1)), kX3 pg pc (nI z), kI cI pc 16 pf] ++ RB cI rho) (fun (u : (Nat → RT)) => (RNew pf z (u r9)) ∧ (∀ k, ¬ k = r9 → u k = rho k)) (fun (u : (Nat → RT)) => ([kX5 bk br (nI (r9 + 1)), kQ cR br 9 (fun k => some ((u k).1.1)), kX3 pg pc (nI z), kI cI pc 16 pf] ++ RB cI u)) := by
  refine CTv.of (by decide) (Nat.le_of_ble_eq_true rfl) rfl ?_
  intro p e s m below meth c A Q ls hd hin hK hsz hP hD hA hS hl hret
  obtain ⟨hx, hb, hml, hown, hts⟩ := id hd
  have hK1 := hK.1
  have hown : s.vm.findClass RX5 = some m.cls := hown
  have hl : lv_has ls 2 [(0, .ref bk), (1, .ref pg)] := hl
  refine lv_aload_n hx hb dX5_add_0 rfl (lv_at hl 0 rfl) ?_
  refine va_get (D := D) (ci := 5) (v := .int (nI r9)) (C := RX5) (T := TX5) (N := 2) hx hb hts iT_X5 hown hK1 hP 0 rfl rfl 1 (by decide) (hts _ t_106) (fun _ h9 => h9) rfl dX5_add_1 ?_
  refine lv_aload_n hx hb dX5_add_4 rfl (lv_at hl 0 rfl) ?_
  refine va_get (D := D) (ci := 5) (v := .ref br) (C := RX5) (T := TX5) (N := 2) hx hb hts iT_X5 hown hK1 hP 0 rfl rfl 0 (by decide) (hts _ t_102) (fun _ h9 => h9) rfl dX5_add_5 ?_
  refine va_alen hx hb hK1 hP 1 3 rfl rfl (v := 9) rfl dX5_add_8 ?_
  refine lv_icmp_ge (tgt := 35) hx hb dX5_add_9 (by decide) (fun c_1 => ?_) (fun c_1 => ?_)
  · exact absurd c_1 (nI_ge (a := r9) (b := 9) (by omega) (by omega))
  refine lv_aload_n hx hb dX5_add_12 rfl (lv_at hl 0 rfl) ?_
  refine va_get (D := D) (ci := 5) (v := .ref br) (C := RX5) (T := TX5) (N := 2) hx hb hts iT_X5 hown hK1 hP 0 rfl rfl 0 (by decide) (hts _ t_102) (fun _ h9 => h9) rfl dX5_add_13 ?_
  refine lv_aload_n hx hb dX5_add_16 rfl (lv_at hl 0 rfl) ?_
  refine va_get (D := D) (ci := 5) (v := .int (nI r9)) (C := RX5) (T := TX5) (N := 2) hx hb hts iT_X5 hown hK1 hP 0 rfl rfl 1 (by decide) (hts _ t_106) (fun _ h9 => h9) rfl dX5_add_17 ?_
  refine va_aldq hx hb hK1 hP 1 3 rfl rfl (vp_in_nI (by omega) (by omega)) dX5_add_20 ?_
  refine lv_nmr (show _ = Value.ref (rho r9).1.1 from by rw [nI_clamp (n := r9) (by omega)]; rfl) ?_
  refine lv_aload_n hx hb dX5_add_21 rfl (lv_at hl 1 rfl) ?_
  obtain ⟨hP, hD⟩ := focus r9 hr hP hD
  have hP : va_P D vwCl ([kX5 bk br (nI r9), kQ cR br 9 (fun k => some ((rho k).1.1)), kX3 pg pc (nI z), kI cI pc 16 pf, kX4 ((rho r9).1.1) ((rho r9).2.1.1) ((rho r9).1.2.1) ((rho r9).1.2.2.2.2.2.1) ((rho r9).1.2.2.2.2.2.2.1) ((rho r9).1.2.2.2.2.2.2.2), kX0 ((rho r9).1.2.1) ((rho r9).1.2.2.1) ((rho r9).1.2.2.2.1) ((rho r9).1.2.2.2.2.1) ((rho r9).2.1.2.1) ((rho r9).2.1.2.2), kI cI ((rho r9).1.2.2.1) 3 ((rho r9).2.2.1), kI cI ((rho r9).1.2.2.2.1) 3 ((rho r9).2.2.2.1), kI cI ((rho r9).1.2.2.2.2.1) 3 ((rho r9).2.2.2.2.1), kI cI ((rho r9).1.2.2.2.2.2.1) 3 ((rho r9).2.2.2.2.2.1), kI cI ((rho r9).1.2.2.2.2.2.2.1) 64 ((rho r9).2.2.2.2.2.2.1), kI cI ((rho r9).1.2.2.2.2.2.2.2) 64 ((rho r9).2.2.2.2.2.2.2)] ++ RX cI rho r9) s.heap := hP
  have hD : va_D A ([kX5 bk br (nI r9), kQ cR br 9 (fun k => some ((rho k).1.1)), kX3 pg pc (nI z), kI cI pc 16 pf, kX4 ((rho r9).1.1) ((rho r9).2.1.1) ((rho r9).1.2.1) ((rho r9).1.2.2.2.2.2.1) ((rho r9).1.2.2.2.2.2.2.1) ((rho r9).1.2.2.2.2.2.2.2), kX0 ((rho r9).1.2.1) ((rho r9).1.2.2.1) ((rho r9).1.2.2.2.1) ((rho r9).1.2.2.2.2.1) ((rho r9).2.1.2.1) ((rho r9).2.1.2.2), kI cI ((rho r9).1.2.2.1) 3 ((rho r9).2.2.1), kI cI ((rho r9).1.2.2.2.1) 3 ((rho r9).2.2.2.1), kI cI ((rho r9).1.2.2.2.2.1) 3 ((rho r9).2.2.2.2.1), kI cI ((rho r9).1.2.2.2.2.2.1) 3 ((rho r9).2.2.2.2.2.1), kI cI ((rho r9).1.2.2.2.2.2.2.1) 64 ((rho r9).2.2.2.2.2.2.1), kI cI ((rho r9).1.2.2.2.2.2.2.2) 64 ((rho r9).2.2.2.2.2.2.2)] ++ RX cI rho r9) := hD
  have hPD : PD D A ([kX4 ((rho r9).1.1) ((rho r9).2.1.1) ((rho r9).1.2.1) ((rho r9).1.2.2.2.2.2.1) ((rho r9).1.2.2.2.2.2.2.1) ((rho r9).1.2.2.2.2.2.2.2), kX0 ((rho r9).1.2.1) ((rho r9).1.2.2.1) ((rho r9).1.2.2.2.1) ((rho r9).1.2.2.2.2.1) ((rho r9).2.1.2.1) ((rho r9).2.1.2.2), kI cI ((rho r9).1.2.2.1) 3 ((rho r9).2.2.1), kI cI ((rho r9).1.2.2.2.1) 3 ((rho r9).2.2.2.1), kI cI ((rho r9).1.2.2.2.2.1) 3 ((rho r9).2.2.2.2.1), kI cI ((rho r9).1.2.2.2.2.2.1) 3 ((rho r9).2.2.2.2.2.1), kI cI ((rho r9).1.2.2.2.2.2.2.1) 64 ((rho r9).2.2.2.2.2.2.1), kI cI ((rho r9).1.2.2.2.2.2.2.2) 64 ((rho r9).2.2.2.2.2.2.2), kX3 pg pc (nI z), kI cI pc 16 pf] ++ ([kX5 bk br (nI r9), kQ cR br 9 (fun k => some ((rho k).1.1))] ++ RX cI rho r9)) s.heap := PD.perm ⟨hP, hD⟩ (permA pm_8)
  refine xp_v (wc := [kX4 ((rho r9).1.1) ((rho r9).2.1.1) ((rho r9).1.2.1) ((rho r9).1.2.2.2.2.2.1) ((rho r9).1.2.2.2.2.2.2.1) ((rho r9).1.2.2.2.2.2.2.2), kX0 ((rho r9).1.2.1) ((rho r9).1.2.2.1) ((rho r9).1.2.2.2.1) ((rho r9).1.2.2.2.2.1) ((rho r9).2.1.2.1) ((rho r9).2.1.2.2), kI cI ((rho r9).1.2.2.1) 3 ((rho r9).2.2.1), kI cI ((rho r9).1.2.2.2.1) 3 ((rho r9).2.2.2.1), kI cI ((rho r9).1.2.2.2.2.1) 3 ((rho r9).2.2.2.2.1), kI cI ((rho r9).1.2.2.2.2.2.1) 3 ((rho r9).2.2.2.2.2.1), kI cI ((rho r9).1.2.2.2.2.2.2.1) 64 ((rho r9).2.2.2.2.2.2.1), kI cI ((rho r9).1.2.2.2.2.2.2.2) 64 ((rho r9).2.2.2.2.2.2.2), kX3 pg pc (nI z), kI cI pc 16 pf]) (wr := ([kX5 bk br (nI r9), kQ cR br 9 (fun k => some ((rho k).1.1))] ++ RX cI rho r9)) (xqV (n := 1) (As := [.ref pg]) (rest := []) (ci := 4) (q0 := 0) hd hK hPD.left (c_X4_read l D cI cJ cZ cR _ ((rho r9).1.1) ((rho r9).1.2.1) ((rho r9).1.2.2.1) ((rho r9).1.2.2.2.1) ((rho r9).1.2.2.2.2.1) ((rho r9).1.2.2.2.2.2.1) ((rho r9).1.2.2.2.2.2.2.1) ((rho r9).1.2.2.2.2.2.2.2) ((rho r9).2.1.1) ((rho r9).2.1.2.1) ((rho r9).2.1.2.2) ((rho r9).2.2.1) ((rho r9).2.2.2.1) ((rho r9).2.2.2.2.1) ((rho r9).2.2.2.2.2.1) ((rho r9).2.2.2.2.2.2.1) ((rho r9).2.2.2.2.2.2.2) pg pc z pf hz hl0 hE hE3 hv hv2) (gV t_248 mV_X4_read) hV_X4_read ⟨(Nat.le_of_ble_eq_true rfl), (Nat.le_of_ble_eq_true rfl)⟩ rfl rfl rfl hl.1 rfl (Nat.le_of_ble_eq_true rfl) dX5_add_22 ⟨(Nat.le_of_ble_eq_true rfl), (Nat.le_of_ble_eq_true rfl)⟩) hPD hS hA (fun u_3 H locs hw_4 hPD hS => ?_)
  obtain ⟨y1_5, y2_6, y3_7, y4_8, y5_9, y6_10⟩ := u_3
  obtain ⟨hw_11, hw_12, hw_13, hw_14⟩ : (edT pf 2 ((z - 2) / 3) y1_5 y2_6 y3_7) ∧ (∀ j, j < 3 → y4_8 j = slv y1_5 ((z - 2) / 3) j) ∧ (∀ j, j < 64 → lt4 (y5_9 j)) ∧ (∀ j, j < 64 → lt4 (y6_10 j)) := hw_4
  have q1 := hw_11
  have q2 := hw_12
  have q3 := hw_13
  have q4 := hw_14
  obtain ⟨hP, hD⟩ := hPD.perm permA'
  have hP : va_P D vwCl ([kX5 bk br (nI r9), kQ cR br 9 (fun k => some ((rho k).1.1)), kX4 ((rho r9).1.1) (cL (pf 0)) ((rho r9).1.2.1) ((rho r9).1.2.2.2.2.2.1) ((rho r9).1.2.2.2.2.2.2.1) ((rho r9).1.2.2.2.2.2.2.2), kX0 ((rho r9).1.2.1) ((rho r9).1.2.2.1) ((rho r9).1.2.2.2.1) ((rho r9).1.2.2.2.2.1) (nI ((z - 2) / 3)) (nI (ndN pf z)), kI cI ((rho r9).1.2.2.1) 3 y1_5, kI cI ((rho r9).1.2.2.2.1) 3 y2_6, kI cI ((rho r9).1.2.2.2.2.1) 3 y3_7, kI cI ((rho r9).1.2.2.2.2.2.1) 3 y4_8, kI cI ((rho r9).1.2.2.2.2.2.2.1) 64 y5_9, kI cI ((rho r9).1.2.2.2.2.2.2.2) 64 y6_10, kX3 pg pc (nI z), kI cI pc 16 pf] ++ RX cI rho r9) H := hP
  have hD : va_D A ([kX5 bk br (nI r9), kQ cR br 9 (fun k => some ((rho k).1.1)), kX4 ((rho r9).1.1) (cL (pf 0)) ((rho r9).1.2.1) ((rho r9).1.2.2.2.2.2.1) ((rho r9).1.2.2.2.2.2.2.1) ((rho r9).1.2.2.2.2.2.2.2), kX0 ((rho r9).1.2.1) ((rho r9).1.2.2.1) ((rho r9).1.2.2.2.1) ((rho r9).1.2.2.2.2.1) (nI ((z - 2) / 3)) (nI (ndN pf z)), kI cI ((rho r9).1.2.2.1) 3 y1_5, kI cI ((rho r9).1.2.2.2.1) 3 y2_6, kI cI ((rho r9).1.2.2.2.2.1) 3 y3_7, kI cI ((rho r9).1.2.2.2.2.2.1) 3 y4_8, kI cI ((rho r9).1.2.2.2.2.2.2.1) 64 y5_9, kI cI ((rho r9).1.2.2.2.2.2.2.2) 64 y6_10, kX3 pg pc (nI z), kI cI pc 16 pf] ++ RX cI rho r9) := hD
  have hPD : PD D A ([kX5 bk br (nI r9), kQ cR br 9 (fun k => some ((rho k).1.1)), kX3 pg pc (nI z), kI cI pc 16 pf, kX4 ((rho r9).1.1) (cL (pf 0)) ((rho r9).1.2.1) ((rho r9).1.2.2.2.2.2.1) ((rho r9).1.2.2.2.2.2.2.1) ((rho r9).1.2.2.2.2.2.2.2), kX0 ((rho r9).1.2.1) ((rho r9).1.2.2.1) ((rho r9).1.2.2.2.1) ((rho r9).1.2.2.2.2.1) (nI ((z - 2) / 3)) (nI (ndN pf z)), kI cI ((rho r9).1.2.2.1) 3 y1_5, kI cI ((rho r9).1.2.2.2.1) 3 y2_6, kI cI ((rho r9).1.2.2.2.2.1) 3 y3_7, kI cI ((rho r9).1.2.2.2.2.2.1) 3 y4_8, kI cI ((rho r9).1.2.2.2.2.2.2.1) 64 y5_9, kI cI ((rho r9).1.2.2.2.2.2.2.2) 64 y6_10] ++ RX cI rho r9) H := (PD.perm ⟨hP, hD⟩ (permB pm_9)).left
  obtain ⟨hP, hD⟩ := unfocus (E := [kX5 bk br (nI r9), kQ cR br 9 (fun k => some ((rho k).1.1)), kX3 pg pc (nI z), kI cI pc 16 pf]) r9 hr (((rho r9).1.1, (rho r9).1.2.1, (rho r9).1.2.2.1, (rho r9).1.2.2.2.1, (rho r9).1.2.2.2.2.1, (rho r9).1.2.2.2.2.2.1, (rho r9).1.2.2.2.2.2.2.1, (rho r9).1.2.2.2.2.2.2.2), (cL (pf 0), nI ((z - 2) / 3), nI (ndN pf z)), (y1_5, y2_6, y3_7, y4_8, y5_9, y6_10)) hPD.1 hPD.2
  obtain ⟨rho_15, hrho_15⟩ : ∃ x, x = va_up rho r9 (((rho r9).1.1, (rho r9).1.2.1, (rho r9).1.2.2.1, (rho r9).1.2.2.2.1, (rho r9).1.2.2.2.2.1, (rho r9).1.2.2.2.2.2.1, (rho r9).1.2.2.2.2.2.2.1, (rho r9).1.2.2.2.2.2.2.2), (cL (pf 0), nI ((z - 2) / 3), nI (ndN pf z)), (y1_5, y2_6, y3_7, y4_8, y5_9, y6_10)) := ⟨_, rfl⟩
  rw [← hrho_15] at hP hD
  have hP : va_P D vwCl ([kX5 bk br (nI r9), kQ cR br 9 (fun k => some ((rho k).1.1)), kX3 pg pc (nI z), kI cI pc 16 pf] ++ RB cI rho_15) H := hP
  have hD : va_D A ([kX5 bk br (nI r9), kQ cR br 9 (fun k => some ((rho k).1.1)), kX3 pg pc (nI z), kI cI pc 16 pf] ++ RB cI rho_15) := hD
  refine lv_aload_n hx hb dX5_add_25 rfl (lv_at hl 0 rfl) ?_
  obtain ⟨hP, hD⟩ := va_P.rowQ (g := fun k => some ((rho_15 k).1.1)) 1 hP hD rfl (fun j hj => by rw [hrho_15]; by_cases h9 : j = r9 <;> simp [va_up, h9])
  have hP : va_P D vwCl ([kX5 bk br (nI r9), kQ cR br 9 (fun k => some ((rho_15 k).1.1)), kX3 pg pc (nI z), kI cI pc 16 pf] ++ RB cI rho_15) H := hP
  have hD : va_D A ([kX5 bk br (nI r9), kQ cR br 9 (fun k => some ((rho_15 k).1.1)), kX3 pg pc (nI z), kI cI pc 16 pf] ++ RB cI rho_15) := hD
  refine lv_dup hx hb dX5_add_26 rfl ?_
  refine va_get (D := D) (ci := 5) (v := .int (nI r9)) (C := RX5) (T := TX5) (N := 2) hx hb hts iT_X5 hown hK1 hP 0 rfl rfl 1 (by decide) (hts _ t_106) (fun _ h9 => h9) rfl dX5_add_27 ?_
  refine lv_iconst (v := 1) hx hb dX5_add_30 (by decide) ?_
  refine lv_iadd hx hb dX5_add_31 ?_
  refine lv_nmi (show _ = (nI (r9 + 1)) from nI_add (r9) (1)) ?_
  refine va_put (D := D) (ci := 5) (v := .int (nI (r9 + 1))) (ty := .int) (C := RX5) (T := TX5) (N := 2) hx hb hts iT_X5 tyX5 tyX5_ok nmX5 hown hK1 hP hD hS 0 rfl rfl 1 (by decide) (hts _ t_106) (fun _ h9 => h9) rfl (by decide +kernel) rfl rfl (Nat.le_of_ble_eq_true rfl) dX5_add_32 (fun H locs hP hD hS => ?_)
  have hP : va_P D vwCl ([kX5 bk br (nI (r9 + 1)), kQ cR br 9 (fun k => some ((rho_15 k).1.1)), kX3 pg pc (nI z), kI cI pc 16 pf] ++ RB cI rho_15) H := hP
  have hD : va_D A ([kX5 bk br (nI (r9 + 1)), kQ cR br 9 (fun k => some ((rho_15 k).1.1)), kX3 pg pc (nI z), kI cI pc 16 pf] ++ RB cI rho_15) := hD
  have hPD : PD D A ([kX5 bk br (nI (r9 + 1)), kQ cR br 9 (fun k => some ((rho_15 k).1.1)), kX3 pg pc (nI z), kI cI pc 16 pf] ++ RB cI rho_15) H := (PD.perm ⟨hP, hD⟩ (permB pm_10)).left
  exact hret _ _ _ _ _ _ rho_15 dX5_add_35 hS (Nat.le_of_ble_eq_true rfl) (Nat.le_of_ble_eq_true rfl) ⟨by rw [hrho_15]; simp only [va_up, if_true]; exact ⟨rfl, rfl, rfl, q1, q2, q3, q4⟩, fun k hk => by rw [hrho_15]; simp [va_up, hk]⟩ hPD.1 hPD.2
set_option maxHeartbeats 4000000 in
set_option maxRecDepth 100000 in
theorem c_X5_remove (sz : Nat) (bk : Nat) (br : Nat) (r9 : Nat) (k9 : Nat) (rho : Nat → RT) (hk : k9 < r9) (hr : r9 ≤ 9) : CTv l D cI cJ cZ cR yX5_remove cX5_remove 4 none 1 21 0 0 sz [.ref bk, .int (nI k9)] ([kX5 bk br (nI r9), kQ cR br 9 (fun k => some ((rho k).1.1))] ++ RB cI rho) (fun (u : (Nat → RT)) => (u = fun j => rho (sg k9 r9 j))) (fun (u : (Nat → RT)) => ([kX5 bk br (nI (r9 - 1)), kQ cR br 9 (fun k => some ((u k).1.1))] ++ RB cI u)) := by
  refine CTv.of (by decide) (Nat.le_of_ble_eq_true rfl) rfl ?_
  intro p e s m below meth c A Q ls hd hin hK hsz hP hD hA hS hl hret
  obtain ⟨hx, hb, hml, hown, hts⟩ := id hd
  have hK1 := hK.1
  have hown : s.vm.findClass RX5 = some m.cls := hown
  have hl : lv_has ls 4 [(0, .ref bk), (1, .int (nI k9))] := hl
  refine lv_aload_n hx hb dX5_remove_0 rfl (lv_at hl 0 rfl) ?_
  refine lv_iload_n hx hb dX5_remove_1 rfl (lv_at hl 1 rfl) ?_
  have hPD : PD D A ([kX5 bk br (nI r9)] ++ ([kQ cR br 9 (fun k => some ((rho k).1.1))] ++ RB cI rho)) s.heap := PD.perm ⟨hP, hD⟩ (permA pm_11)
  refine xp_i (wc := [kX5 bk br (nI r9)]) (wr := ([kQ cR br 9 (fun k => some ((rho k).1.1))] ++ RB cI rho)) (xqV (n := 1) (As := [.int (nI k9)]) (rest := []) (ci := 5) (q0 := 0) hd hK hPD.left (c_X5_has l D cI cJ cZ cR _ bk br r9 (nI k9) ) (gV t_311 mV_X5_has) hV_X5_has ⟨(Nat.le_of_ble_eq_true rfl), (Nat.le_of_ble_eq_true rfl)⟩ rfl rfl rfl hl.1 rfl (Nat.le_of_ble_eq_true rfl) dX5_remove_2 ⟨(Nat.le_of_ble_eq_true rfl), (Nat.le_of_ble_eq_true rfl)⟩) hPD hS hA (fun r_1 u_2 H locs hw_3 hPD hS => ?_)
  have hw_4 : r_1 = (hs (nI k9) r9) := hw_3
  subst hw_4
  obtain ⟨hP, hD⟩ := hPD.perm permA'
  have hP : va_P D vwCl ([kQ cR br 9 (fun k => some ((rho k).1.1)), kX5 bk br (nI r9)] ++ RB cI rho) H := hP
  have hD : va_D A ([kQ cR br 9 (fun k => some ((rho k).1.1)), kX5 bk br (nI r9)] ++ RB cI rho) := hD
  refine lv_nmi (show _ = (1 : Int32) from hs_ok hk (by omega)) ?_
  refine lv_if_ne (tgt := 9) hx hb dX5_remove_5 (by decide) (fun c_5 => ?_) (fun c_5 => ?_)
  rotate_left
  · exact absurd c_5 (by decide)
  refine lv_aload_n hx hb dX5_remove_9 rfl (lv_at hl 0 rfl) ?_
  refine va_get (D := D) (ci := 5) (v := .ref br) (C := RX5) (T := TX5) (N := 2) hx hb hts iT_X5 hown hK1 hP 1 rfl rfl 0 (by decide) (hts _ t_102) (fun _ h9 => h9) rfl dX5_remove_10 ?_
  refine lv_iload_n hx hb dX5_remove_13 rfl (lv_at hl 1 rfl) ?_
  refine va_aldq hx hb hK1 hP 0 3 rfl rfl (vp_in_nI (by omega) (by omega)) dX5_remove_14 ?_
  refine lv_nmr (show _ = Value.ref (rho k9).1.1 from by rw [nI_clamp (n := k9) (by omega)]; rfl) ?_
  refine lv_astore_n (lv' := [(2, .ref ((rho k9).1.1)), (0, .ref bk), (1, .int (nI k9))]) hx hb dX5_remove_15 rfl hl (by decide) rfl (fun ls hl => ?_)
  refine lv_iload_n hx hb dX5_remove_16 rfl (lv_at hl 2 rfl) ?_
  refine lv_istore_n (lv' := [(3, .int (nI k9)), (2, .ref ((rho k9).1.1)), (0, .ref bk), (1, .int (nI k9))]) hx hb dX5_remove_17 rfl hl (by decide) rfl (fun ls hl => ?_)
  have LOOP_18 : ∀ (n : Nat) (i : Nat) (gr : Nat → Option Nat), (i + n = r9 - 1) → (k9 ≤ i) → (sgr rho k9 i gr) → ∀ (H : Heap) (locs : List Loc) (ls : Array Slot), va_P D vwCl ([kX5 bk br (nI r9), kQ cR br 9 gr] ++ RB cI rho) H → va_D A ([kX5 bk br (nI r9), kQ cR br 9 gr] ++ RB cI rho) → va_S A s.heap H locs → lv_has ls 4 [(0, .ref bk), (1, .int (nI k9)), (2, .ref ((rho k9).1.1)), (3, .int (nI i))] → W p l e (rM 1 0 0 21) s m ([.ref bk, .int (nI k9)] : List Value).toArray below meth c H locs 0 0 Q (F0 m 18 ls []) := by
    intro n
    induction n with
    | zero =>
      intro i gr hi hik hg H locs ls hP hD hS hl
      refine lv_iload_n hx hb dX5_remove_18 rfl (lv_at hl 3 rfl) ?_
      refine lv_iconst (v := 1) hx hb dX5_remove_19 (by decide) ?_
      refine lv_iadd hx hb dX5_remove_20 ?_
      refine lv_nmi (show _ = (nI (i + 1)) from nI_add (i) (1)) ?_
      refine lv_aload_n hx hb dX5_remove_21 rfl (lv_at hl 0 rfl) ?_
      refine va_get (D := D) (ci := 5) (v := .int (nI r9)) (C := RX5) (T := TX5) (N := 2) hx hb hts iT_X5 hown hK1 hP 0 rfl rfl 1 (by decide) (hts _ t_106) (fun _ h9 => h9) rfl dX5_remove_22 ?_
      refine lv_icmp_ge (tgt := 48) hx hb dX5_remove_25 (by decide) (fun c_6 => ?_) (fun c_6 => ?_)
      rotate_left
      · exact absurd (nI_le (a := r9) (b := (i + 1)) (by omega) (by omega)) c_6
      refine lv_aload_n hx hb dX5_remove_48 rfl (lv_at hl 0 rfl) ?_
      refine lv_dup hx hb dX5_remove_49 rfl ?_
      refine va_get (D := D) (ci := 5) (v := .int (nI r9)) (C := RX5) (T := TX5) (N := 2) hx hb hts iT_X5 hown hK1 hP 0 rfl rfl 1 (by decide) (hts _ t_106) (fun _ h9 => h9) rfl dX5_remove_50 ?_
      refine lv_iconst (v := 1) hx hb dX5_remove_53 (by decide) ?_
      refine lv_isub hx hb dX5_remove_54 ?_
      refine lv_nmi (show _ = (nI (r9 - 1) : Int32) from pk_sub (a := r9) (b := 1) (by omega)) ?_
      refine va_put (D := D) (ci := 5) (v := .int (nI (r9 - 1))) (ty := .int) (C := RX5) (T := TX5) (N := 2) hx hb hts iT_X5 tyX5 tyX5_ok nmX5 hown hK1 hP hD hS 0 rfl rfl 1 (by decide) (hts _ t_106) (fun _ h9 => h9) rfl (by decide +kernel) rfl rfl (Nat.le_of_ble_eq_true rfl) dX5_remove_55 (fun H locs hP hD hS => ?_)
      have hP : va_P D vwCl ([kX5 bk br (nI (r9 - 1)), kQ cR br 9 gr] ++ RB cI rho) H := hP
      have hD : va_D A ([kX5 bk br (nI (r9 - 1)), kQ cR br 9 gr] ++ RB cI rho) := hD
      refine lv_aload_n hx hb dX5_remove_58 rfl (lv_at hl 0 rfl) ?_
      refine va_get (D := D) (ci := 5) (v := .ref br) (C := RX5) (T := TX5) (N := 2) hx hb hts iT_X5 hown hK1 hP 0 rfl rfl 0 (by decide) (hts _ t_102) (fun _ h9 => h9) rfl dX5_remove_59 ?_
      refine lv_aload_n hx hb dX5_remove_62 rfl (lv_at hl 0 rfl) ?_
      refine va_get (D := D) (ci := 5) (v := .int (nI (r9 - 1))) (C := RX5) (T := TX5) (N := 2) hx hb hts iT_X5 hown hK1 hP 0 rfl rfl 1 (by decide) (hts _ t_106) (fun _ h9 => h9) rfl dX5_remove_63 ?_
      refine lv_aload_n hx hb dX5_remove_66 rfl (lv_at hl 2 rfl) ?_
      refine va_astqM hx hb hK1 hP hD hS 1 3 rfl rfl (RB_any (by omega) hK1 hP hD) (vp_in_nI (by omega) (by omega)) dX5_remove_67 (fun H locs hP hD hS => ?_)
      rw [nI_clamp (n := (r9 - 1)) (by omega)] at hP hD
      have hP : va_P D vwCl ([kX5 bk br (nI (r9 - 1)), kQ cR br 9 (va_up gr (r9 - 1) (some (rho k9).1.1))] ++ RB cI rho) H := hP
      have hD : va_D A ([kX5 bk br (nI (r9 - 1)), kQ cR br 9 (va_up gr (r9 - 1) (some (rho k9).1.1))] ++ RB cI rho) := hD
      obtain ⟨hP, hD⟩ := PD.perm ⟨hP, hD⟩ (List.Perm.append_left _ (RB_perm hr hk))
      have hP : va_P D vwCl ([kX5 bk br (nI (r9 - 1)), kQ cR br 9 (va_up gr (r9 - 1) (some (rho k9).1.1))] ++ RB cI (fun j => rho (sg k9 r9 j))) H := hP
      have hD : va_D A ([kX5 bk br (nI (r9 - 1)), kQ cR br 9 (va_up gr (r9 - 1) (some (rho k9).1.1))] ++ RB cI (fun j => rho (sg k9 r9 j))) := hD
      obtain ⟨hP, hD⟩ := va_P.rowQ (g := fun k => some (((fun j => rho (sg k9 r9 j)) k).1.1)) 1 hP hD rfl (sgr_e hk hr (by rw [show r9 - 1 = i by omega]; exact hg))
      have hP : va_P D vwCl ([kX5 bk br (nI (r9 - 1)), kQ cR br 9 (fun k => some (((fun j => rho (sg k9 r9 j)) k).1.1))] ++ RB cI (fun j => rho (sg k9 r9 j))) H := hP
      have hD : va_D A ([kX5 bk br (nI (r9 - 1)), kQ cR br 9 (fun k => some (((fun j => rho (sg k9 r9 j)) k).1.1))] ++ RB cI (fun j => rho (sg k9 r9 j))) := hD
      have hPD : PD D A ([kX5 bk br (nI (r9 - 1)), kQ cR br 9 (fun k => some (((fun j => rho (sg k9 r9 j)) k).1.1))] ++ RB cI (fun j => rho (sg k9 r9 j))) H := (PD.perm ⟨hP, hD⟩ (permB pm_3)).left
      exact hret _ _ _ _ _ _ (fun j => rho (sg k9 r9 j)) dX5_remove_68 hS (Nat.le_of_ble_eq_true rfl) (Nat.le_of_ble_eq_true rfl) rfl hPD.1 hPD.2
    | succ n ih_18 =>
      intro i gr hi hik hg H locs ls hP hD hS hl
      refine lv_iload_n hx hb dX5_remove_18 rfl (lv_at hl 3 rfl) ?_
      refine lv_iconst (v := 1) hx hb dX5_remove_19 (by decide) ?_
      refine lv_iadd hx hb dX5_remove_20 ?_
      refine lv_nmi (show _ = (nI (i + 1)) from nI_add (i) (1)) ?_
      refine lv_aload_n hx hb dX5_remove_21 rfl (lv_at hl 0 rfl) ?_
      refine va_get (D := D) (ci := 5) (v := .int (nI r9)) (C := RX5) (T := TX5) (N := 2) hx hb hts iT_X5 hown hK1 hP 0 rfl rfl 1 (by decide) (hts _ t_106) (fun _ h9 => h9) rfl dX5_remove_22 ?_
      refine lv_icmp_ge (tgt := 48) hx hb dX5_remove_25 (by decide) (fun c_7 => ?_) (fun c_7 => ?_)
      · exact absurd c_7 (nI_ge (a := (i + 1)) (b := r9) (by omega) (by omega))
      refine lv_aload_n hx hb dX5_remove_28 rfl (lv_at hl 0 rfl) ?_
      refine va_get (D := D) (ci := 5) (v := .ref br) (C := RX5) (T := TX5) (N := 2) hx hb hts iT_X5 hown hK1 hP 0 rfl rfl 0 (by decide) (hts _ t_102) (fun _ h9 => h9) rfl dX5_remove_29 ?_
      refine lv_iload_n hx hb dX5_remove_32 rfl (lv_at hl 3 rfl) ?_
      refine lv_aload_n hx hb dX5_remove_33 rfl (lv_at hl 0 rfl) ?_
      refine va_get (D := D) (ci := 5) (v := .ref br) (C := RX5) (T := TX5) (N := 2) hx hb hts iT_X5 hown hK1 hP 0 rfl rfl 0 (by decide) (hts _ t_102) (fun _ h9 => h9) rfl dX5_remove_34 ?_
      refine lv_iload_n hx hb dX5_remove_37 rfl (lv_at hl 3 rfl) ?_
      refine lv_iconst (v := 1) hx hb dX5_remove_38 (by decide) ?_
      refine lv_iadd hx hb dX5_remove_39 ?_
      refine lv_nmi (show _ = (nI (i + 1)) from nI_add (i) (1)) ?_
      refine va_aldq hx hb hK1 hP 1 3 rfl rfl (vp_in_nI (by omega) (by omega)) dX5_remove_40 ?_
      refine lv_nmr (show _ = Value.ref (rho (i + 1)).1.1 from by rw [nI_clamp (n := (i + 1)) (by omega)]; exact (congrArg va_rf (show _ = some (rho (i + 1)).1.1 from by rw [hg (i + 1) (by omega), if_neg (by omega)]))) ?_
      refine va_astqM hx hb hK1 hP hD hS 1 3 rfl rfl (RB_any (by omega) hK1 hP hD) (vp_in_nI (by omega) (by omega)) dX5_remove_41 (fun H locs hP hD hS => ?_)
      rw [nI_clamp (n := i) (by omega)] at hP hD
      have hP : va_P D vwCl ([kX5 bk br (nI r9), kQ cR br 9 (va_up gr i (some (rho (i + 1)).1.1))] ++ RB cI rho) H := hP
      have hD : va_D A ([kX5 bk br (nI r9), kQ cR br 9 (va_up gr i (some (rho (i + 1)).1.1))] ++ RB cI rho) := hD
      refine lv_iinc (v := nI (i + 1)) (lv' := [(3, .int (nI (i + 1))), (0, .ref bk), (1, .int (nI k9)), (2, .ref ((rho k9).1.1))]) hx hb dX5_remove_42 hl (k := 3) rfl (nI_1 i) (by decide) rfl (fun ls hl => ?_)
      refine lv_goto (tgt := 18) hx hb dX5_remove_45 (by decide) ?_
      have hPD : PD D A ([kX5 bk br (nI r9), kQ cR br 9 (va_up gr i (some (rho (i + 1)).1.1))] ++ RB cI rho) H := (PD.perm ⟨hP, hD⟩ (permB pm_3)).left
      exact ih_18 (i + 1) (va_up gr i (some (rho (i + 1)).1.1)) (by omega) (by omega) (sgr_s hik hg) _ _ _ hPD.1 hPD.2 hS (lv_sub hl [1, 2, 3, 0] rfl)
  have hPD : PD D A ([kX5 bk br (nI r9), kQ cR br 9 (fun k => some ((rho k).1.1))] ++ RB cI rho) H := (PD.perm ⟨hP, hD⟩ (permB pm_12)).left
  exact LOOP_18 (r9 - 1 - k9) k9 (fun k => some ((rho k).1.1)) (by omega) (by omega) (fun j hj => by rw [if_neg (by omega)]) _ _ _ hPD.1 hPD.2 hS (lv_sub hl [2, 3, 1, 0] rfl)
end
