theorem mV_X7_mixOpen : Cond.instanceMethod yX7_mixOpen ∈ gT ∧ Cond.selects RX7 yX7_mixOpen yX7_mixOpen ∈ gT ∧ Cond.initialized RX7 ∈ gT ∧ Cond.code yX7_mixOpen cX7_mixOpen 3 none ∈ gT := ⟨t_871, ts_63, t_8, t_872⟩
theorem hV_X7_mixOpen : yX7_mixOpen.cls = RX7 ∧ yX7_mixOpen.cls ≠ "java/lang/invoke/MethodHandle" ∧ yX7_mixOpen.cls ≠ "java/lang/invoke/VarHandle" ∧ (parseMethodDescriptor yX7_mixOpen.desc).map (fun d => d.parameters.length) = some 1 := by decide +kernel
theorem mV_X7_digest : Cond.instanceMethod yX7_digest ∈ gT ∧ Cond.selects RX7 yX7_digest yX7_digest ∈ gT ∧ Cond.initialized RX7 ∈ gT ∧ Cond.code yX7_digest cX7_digest 3 (some .long) ∈ gT := ⟨t_859, t_860, t_8, t_861⟩
theorem hV_X7_digest : yX7_digest.cls = RX7 ∧ yX7_digest.cls ≠ "java/lang/invoke/MethodHandle" ∧ yX7_digest.cls ≠ "java/lang/invoke/VarHandle" ∧ (parseMethodDescriptor yX7_digest.desc).map (fun d => d.parameters.length) = some 0 := by decide +kernel
theorem dX7_digest_0 : decode cX7_digest 0 = .ok (.aload_n 0, 1) := by decide +kernel
theorem dX7_digest_1 : decode cX7_digest 1 = .ok (.ldc2_w 251, 3) := by decide +kernel
theorem dX7_digest_4 : decode cX7_digest 4 = .ok (.putfield 243, 3) := by decide +kernel
theorem dX7_digest_7 : decode cX7_digest 7 = .ok (.iconst 0, 1) := by decide +kernel
theorem dX7_digest_8 : decode cX7_digest 8 = .ok (.istore_n 1, 1) := by decide +kernel
theorem dX7_digest_9 : decode cX7_digest 9 = .ok (.iload_n 1, 1) := by decide +kernel
theorem dX7_digest_10 : decode cX7_digest 10 = .ok (.aload_n 0, 1) := by decide +kernel
theorem dX7_digest_11 : decode cX7_digest 11 = .ok (.getfield 94, 3) := by decide +kernel
theorem dX7_digest_14 : decode cX7_digest 14 = .ok (.if_icmp .ge 45, 3) := by decide +kernel
theorem dX7_digest_17 : decode cX7_digest 17 = .ok (.iconst 0, 1) := by decide +kernel
theorem dX7_digest_18 : decode cX7_digest 18 = .ok (.istore_n 2, 1) := by decide +kernel
theorem dX7_digest_19 : decode cX7_digest 19 = .ok (.iload_n 2, 1) := by decide +kernel
theorem dX7_digest_20 : decode cX7_digest 20 = .ok (.bipush 13, 2) := by decide +kernel
theorem dX7_digest_22 : decode cX7_digest 22 = .ok (.if_icmp .ge 31, 3) := by decide +kernel
theorem dX7_digest_25 : decode cX7_digest 25 = .ok (.iload_n 2, 1) := by decide +kernel
theorem dX7_digest_26 : decode cX7_digest 26 = .ok (.iconst 3, 1) := by decide +kernel
theorem dX7_digest_27 : decode cX7_digest 27 = .ok (.if_icmp .lt 9, 3) := by decide +kernel
theorem dX7_digest_30 : decode cX7_digest 30 = .ok (.iload_n 2, 1) := by decide +kernel
theorem dX7_digest_31 : decode cX7_digest 31 = .ok (.bipush 9, 2) := by decide +kernel
theorem dX7_digest_33 : decode cX7_digest 33 = .ok (.if_icmp .le 14, 3) := by decide +kernel
theorem dX7_digest_36 : decode cX7_digest 36 = .ok (.aload_n 0, 1) := by decide +kernel
theorem dX7_digest_37 : decode cX7_digest 37 = .ok (.aload_n 0, 1) := by decide +kernel
theorem dX7_digest_38 : decode cX7_digest 38 = .ok (.iload_n 1, 1) := by decide +kernel
theorem dX7_digest_39 : decode cX7_digest 39 = .ok (.iload_n 2, 1) := by decide +kernel
theorem dX7_digest_40 : decode cX7_digest 40 = .ok (.invokevirtual 120, 3) := by decide +kernel
theorem dX7_digest_43 : decode cX7_digest 43 = .ok (.i2l, 1) := by decide +kernel
theorem dX7_digest_44 : decode cX7_digest 44 = .ok (.invokevirtual 247, 3) := by decide +kernel
theorem dX7_digest_47 : decode cX7_digest 47 = .ok (.iinc 2 1, 3) := by decide +kernel
theorem dX7_digest_50 : decode cX7_digest 50 = .ok (.goto (-31), 3) := by decide +kernel
theorem dX7_digest_53 : decode cX7_digest 53 = .ok (.iinc 1 1, 3) := by decide +kernel
theorem dX7_digest_56 : decode cX7_digest 56 = .ok (.goto (-47), 3) := by decide +kernel
theorem dX7_digest_59 : decode cX7_digest 59 = .ok (.iconst 0, 1) := by decide +kernel
theorem dX7_digest_60 : decode cX7_digest 60 = .ok (.istore_n 1, 1) := by decide +kernel
theorem dX7_digest_61 : decode cX7_digest 61 = .ok (.iload_n 1, 1) := by decide +kernel
theorem dX7_digest_62 : decode cX7_digest 62 = .ok (.aload_n 0, 1) := by decide +kernel
theorem dX7_digest_63 : decode cX7_digest 63 = .ok (.getfield 108, 3) := by decide +kernel
theorem dX7_digest_66 : decode cX7_digest 66 = .ok (.if_icmp .ge 20, 3) := by decide +kernel
theorem dX7_digest_69 : decode cX7_digest 69 = .ok (.aload_n 0, 1) := by decide +kernel
theorem dX7_digest_70 : decode cX7_digest 70 = .ok (.aload_n 0, 1) := by decide +kernel
theorem dX7_digest_71 : decode cX7_digest 71 = .ok (.getfield 25, 3) := by decide +kernel
theorem dX7_digest_74 : decode cX7_digest 74 = .ok (.iload_n 1, 1) := by decide +kernel
theorem dX7_digest_75 : decode cX7_digest 75 = .ok (.iaload, 1) := by decide +kernel
theorem dX7_digest_76 : decode cX7_digest 76 = .ok (.i2l, 1) := by decide +kernel
theorem dX7_digest_77 : decode cX7_digest 77 = .ok (.invokevirtual 247, 3) := by decide +kernel
theorem dX7_digest_80 : decode cX7_digest 80 = .ok (.iinc 1 1, 3) := by decide +kernel
theorem dX7_digest_83 : decode cX7_digest 83 = .ok (.goto (-22), 3) := by decide +kernel
theorem dX7_digest_86 : decode cX7_digest 86 = .ok (.aload_n 0, 1) := by decide +kernel
theorem dX7_digest_87 : decode cX7_digest 87 = .ok (.aload_n 0, 1) := by decide +kernel
theorem dX7_digest_88 : decode cX7_digest 88 = .ok (.invokevirtual 152, 3) := by decide +kernel
theorem dX7_digest_91 : decode cX7_digest 91 = .ok (.ifCond .eq 11, 3) := by decide +kernel
theorem dX7_digest_94 : decode cX7_digest 94 = .ok (.aload_n 0, 1) := by decide +kernel
theorem dX7_digest_95 : decode cX7_digest 95 = .ok (.invokevirtual 156, 3) := by decide +kernel
theorem dX7_digest_98 : decode cX7_digest 98 = .ok (.i2l, 1) := by decide +kernel
theorem dX7_digest_99 : decode cX7_digest 99 = .ok (.goto 6, 3) := by decide +kernel
theorem dX7_digest_102 : decode cX7_digest 102 = .ok (.ldc2_w 253, 3) := by decide +kernel
theorem dX7_digest_105 : decode cX7_digest 105 = .ok (.invokevirtual 247, 3) := by decide +kernel
theorem dX7_digest_108 : decode cX7_digest 108 = .ok (.iconst 0, 1) := by decide +kernel
theorem dX7_digest_109 : decode cX7_digest 109 = .ok (.istore_n 1, 1) := by decide +kernel
theorem dX7_digest_110 : decode cX7_digest 110 = .ok (.iload_n 1, 1) := by decide +kernel
theorem dX7_digest_111 : decode cX7_digest 111 = .ok (.iconst 3, 1) := by decide +kernel
theorem dX7_digest_112 : decode cX7_digest 112 = .ok (.if_icmp .ge 14, 3) := by decide +kernel
theorem dX7_digest_115 : decode cX7_digest 115 = .ok (.aload_n 0, 1) := by decide +kernel
theorem dX7_digest_116 : decode cX7_digest 116 = .ok (.iload_n 1, 1) := by decide +kernel
theorem dX7_digest_117 : decode cX7_digest 117 = .ok (.invokevirtual 255, 3) := by decide +kernel
theorem dX7_digest_120 : decode cX7_digest 120 = .ok (.iinc 1 1, 3) := by decide +kernel
theorem dX7_digest_123 : decode cX7_digest 123 = .ok (.goto (-13), 3) := by decide +kernel
theorem dX7_digest_126 : decode cX7_digest 126 = .ok (.iconst 0, 1) := by decide +kernel
theorem dX7_digest_127 : decode cX7_digest 127 = .ok (.istore_n 1, 1) := by decide +kernel
theorem dX7_digest_128 : decode cX7_digest 128 = .ok (.iload_n 1, 1) := by decide +kernel
theorem dX7_digest_129 : decode cX7_digest 129 = .ok (.aload_n 0, 1) := by decide +kernel
theorem dX7_digest_130 : decode cX7_digest 130 = .ok (.getfield 54, 3) := by decide +kernel
theorem dX7_digest_133 : decode cX7_digest 133 = .ok (.if_icmp .ge 20, 3) := by decide +kernel
theorem dX7_digest_136 : decode cX7_digest 136 = .ok (.aload_n 0, 1) := by decide +kernel
theorem dX7_digest_137 : decode cX7_digest 137 = .ok (.aload_n 0, 1) := by decide +kernel
theorem dX7_digest_138 : decode cX7_digest 138 = .ok (.getfield 7, 3) := by decide +kernel
theorem dX7_digest_141 : decode cX7_digest 141 = .ok (.iload_n 1, 1) := by decide +kernel
theorem dX7_digest_142 : decode cX7_digest 142 = .ok (.iaload, 1) := by decide +kernel
theorem dX7_digest_143 : decode cX7_digest 143 = .ok (.i2l, 1) := by decide +kernel
theorem dX7_digest_144 : decode cX7_digest 144 = .ok (.invokevirtual 247, 3) := by decide +kernel
theorem dX7_digest_147 : decode cX7_digest 147 = .ok (.iinc 1 1, 3) := by decide +kernel
theorem dX7_digest_150 : decode cX7_digest 150 = .ok (.goto (-22), 3) := by decide +kernel
theorem dX7_digest_153 : decode cX7_digest 153 = .ok (.iconst 0, 1) := by decide +kernel
theorem dX7_digest_154 : decode cX7_digest 154 = .ok (.istore_n 1, 1) := by decide +kernel
theorem dX7_digest_155 : decode cX7_digest 155 = .ok (.iload_n 1, 1) := by decide +kernel
theorem dX7_digest_156 : decode cX7_digest 156 = .ok (.bipush 8, 2) := by decide +kernel
theorem dX7_digest_158 : decode cX7_digest 158 = .ok (.if_icmp .ge 19, 3) := by decide +kernel
theorem dX7_digest_161 : decode cX7_digest 161 = .ok (.aload_n 0, 1) := by decide +kernel
theorem dX7_digest_162 : decode cX7_digest 162 = .ok (.aload_n 0, 1) := by decide +kernel
theorem dX7_digest_163 : decode cX7_digest 163 = .ok (.iload_n 1, 1) := by decide +kernel
theorem dX7_digest_164 : decode cX7_digest 164 = .ok (.invokevirtual 238, 3) := by decide +kernel
theorem dX7_digest_167 : decode cX7_digest 167 = .ok (.i2l, 1) := by decide +kernel
theorem dX7_digest_168 : decode cX7_digest 168 = .ok (.invokevirtual 247, 3) := by decide +kernel
theorem dX7_digest_171 : decode cX7_digest 171 = .ok (.iinc 1 1, 3) := by decide +kernel
theorem dX7_digest_174 : decode cX7_digest 174 = .ok (.goto (-19), 3) := by decide +kernel
theorem dX7_digest_177 : decode cX7_digest 177 = .ok (.aload_n 0, 1) := by decide +kernel
theorem dX7_digest_178 : decode cX7_digest 178 = .ok (.getfield 243, 3) := by decide +kernel
theorem dX7_digest_181 : decode cX7_digest 181 = .ok (.lreturn, 1) := by decide +kernel
theorem dX7_mixOpen_0 : decode cX7_mixOpen 0 = .ok (.aload_n 0, 1) := by decide +kernel
theorem dX7_mixOpen_1 : decode cX7_mixOpen 1 = .ok (.aload_n 0, 1) := by decide +kernel
theorem dX7_mixOpen_2 : decode cX7_mixOpen 2 = .ok (.iload_n 1, 1) := by decide +kernel
theorem dX7_mixOpen_3 : decode cX7_mixOpen 3 = .ok (.invokevirtual 207, 3) := by decide +kernel
theorem dX7_mixOpen_6 : decode cX7_mixOpen 6 = .ok (.i2l, 1) := by decide +kernel
theorem dX7_mixOpen_7 : decode cX7_mixOpen 7 = .ok (.invokevirtual 247, 3) := by decide +kernel
theorem dX7_mixOpen_10 : decode cX7_mixOpen 10 = .ok (.aload_n 0, 1) := by decide +kernel
theorem dX7_mixOpen_11 : decode cX7_mixOpen 11 = .ok (.aload_n 0, 1) := by decide +kernel
theorem dX7_mixOpen_12 : decode cX7_mixOpen 12 = .ok (.iload_n 1, 1) := by decide +kernel
theorem dX7_mixOpen_13 : decode cX7_mixOpen 13 = .ok (.invokevirtual 231, 3) := by decide +kernel
theorem dX7_mixOpen_16 : decode cX7_mixOpen 16 = .ok (.i2l, 1) := by decide +kernel
theorem dX7_mixOpen_17 : decode cX7_mixOpen 17 = .ok (.invokevirtual 247, 3) := by decide +kernel
theorem dX7_mixOpen_20 : decode cX7_mixOpen 20 = .ok (.iconst 0, 1) := by decide +kernel
theorem dX7_mixOpen_21 : decode cX7_mixOpen 21 = .ok (.istore_n 2, 1) := by decide +kernel
theorem dX7_mixOpen_22 : decode cX7_mixOpen 22 = .ok (.iload_n 2, 1) := by decide +kernel
theorem dX7_mixOpen_23 : decode cX7_mixOpen 23 = .ok (.bipush 16, 2) := by decide +kernel
theorem dX7_mixOpen_25 : decode cX7_mixOpen 25 = .ok (.if_icmp .ge 33, 3) := by decide +kernel
theorem dX7_mixOpen_28 : decode cX7_mixOpen 28 = .ok (.aload_n 0, 1) := by decide +kernel
theorem dX7_mixOpen_29 : decode cX7_mixOpen 29 = .ok (.aload_n 0, 1) := by decide +kernel
theorem dX7_mixOpen_30 : decode cX7_mixOpen 30 = .ok (.iload_n 1, 1) := by decide +kernel
theorem dX7_mixOpen_31 : decode cX7_mixOpen 31 = .ok (.iload_n 2, 1) := by decide +kernel
theorem dX7_mixOpen_32 : decode cX7_mixOpen 32 = .ok (.iconst 0, 1) := by decide +kernel
theorem dX7_mixOpen_33 : decode cX7_mixOpen 33 = .ok (.invokevirtual 234, 3) := by decide +kernel
theorem dX7_mixOpen_36 : decode cX7_mixOpen 36 = .ok (.i2l, 1) := by decide +kernel
theorem dX7_mixOpen_37 : decode cX7_mixOpen 37 = .ok (.invokevirtual 247, 3) := by decide +kernel
theorem dX7_mixOpen_40 : decode cX7_mixOpen 40 = .ok (.aload_n 0, 1) := by decide +kernel
theorem dX7_mixOpen_41 : decode cX7_mixOpen 41 = .ok (.aload_n 0, 1) := by decide +kernel
theorem dX7_mixOpen_42 : decode cX7_mixOpen 42 = .ok (.iload_n 1, 1) := by decide +kernel
theorem dX7_mixOpen_43 : decode cX7_mixOpen 43 = .ok (.iload_n 2, 1) := by decide +kernel
theorem dX7_mixOpen_44 : decode cX7_mixOpen 44 = .ok (.iconst 1, 1) := by decide +kernel
theorem dX7_mixOpen_45 : decode cX7_mixOpen 45 = .ok (.invokevirtual 234, 3) := by decide +kernel
theorem dX7_mixOpen_48 : decode cX7_mixOpen 48 = .ok (.i2l, 1) := by decide +kernel
theorem dX7_mixOpen_49 : decode cX7_mixOpen 49 = .ok (.invokevirtual 247, 3) := by decide +kernel
theorem dX7_mixOpen_52 : decode cX7_mixOpen 52 = .ok (.iinc 2 1, 3) := by decide +kernel
theorem dX7_mixOpen_55 : decode cX7_mixOpen 55 = .ok (.goto (-33), 3) := by decide +kernel
theorem dX7_mixOpen_58 : decode cX7_mixOpen 58 = .ok (.return_, 1) := by decide +kernel
section
variable (l : Launch) (D : va_G) (cI cJ cZ cR : ClassId)
set_option maxHeartbeats 4000000 in
set_option maxRecDepth 100000 in
theorem c_X7_mixOpen (sz : Nat) (m0 : Nat) (m1 : Nat) (m2 : Nat) (m3 : Nat) (m4 : Nat) (m5 : Nat) (m6 : Nat) (m7 : Nat) (m8 : Nat) (m9 : Nat) (m10 : Nat) (m11 : Nat) (m12 : Nat) (m13 : Nat) (z : Nat) (r9 : Nat) (n9 : Nat) (v : Nat) (k1 : Int32) (k2 : Int32) (k3 : Int32) (k4 : Int32) (k5 : Int32) (k6 : Int32) (k7 : Int32) (k8 : Int32) (k9 : Int32) (hv : Int64) (ro : Nat → Int32) (re : Nat → Int32) (rn : Nat → Int32) (rg : Nat → Int32) (ea : Nat → Int32) (fw : Nat → Int32) (nf : Nat → Int32) (na : Nat → Int32) (la : Nat → Int64) (fa : Nat → Int32) (cn : Nat → Int32) (a : Nat) (hr9 : r9 ≤ 9) (hmr : MRI ro re rn rg r9) (hf : FgI n9 v) (hFW : FWI fw) (hsd : SDn 4 na) (hLR : LR la) (hMQ : MRQ ro re rn rg r9) (hEA : EAI n9 v ea) (hMO : ¬ k8 = 0 → MOF n9 v ea ro re rn rg r9 fw) (ha3 : a < 3) : CTv l D cI cJ cZ cR yX7_mixOpen cX7_mixOpen 3 none 9 226 0 0 sz [.ref m0, .int (nI a)] [kX7 m0 (nI z) m1 (nI r9) m2 m3 m4 m5 (nI n9) (nI v) m6 k1 k2 k3 k4 m7 k5 k6 k7 k8 m8 m9 m10 k9 m11 m12 m13 hv, kI cI m2 9 ro, kI cI m3 9 re, kI cI m4 9 rn, kI cI m5 27 rg, kI cI m6 12 ea, kI cI m8 2400 fw, kI cI m9 32 nf, kI cI m10 4 na, kJ cJ m11 80 la, kI cI m12 48 fa, kI cI m13 3 cn] (fun (u : Int32 × Int32 × Int64 × (Nat → Int32) × (Nat → Int32) × (Nat → Int32) × (Nat → Int64) × (Nat → Int32) × (Nat → Int32)) => (FWI u.2.2.2.1) ∧ (SDn 4 u.2.2.2.2.2.1) ∧ (LR u.2.2.2.2.2.2.1) ∧ (¬ u.1 = 0 → MOF n9 v ea ro re rn rg r9 u.2.2.2.1)) (fun (u : Int32 × Int32 × Int64 × (Nat → Int32) × (Nat → Int32) × (Nat → Int32) × (Nat → Int64) × (Nat → Int32) × (Nat → Int32)) => [kX7 m0 (nI z) m1 (nI r9) m2 m3 m4 m5 (nI n9) (nI v) m6 k1 k2 k3 k4 m7 k5 k6 k7 u.1 m8 m9 m10 u.2.1 m11 m12 m13 u.2.2.1, kI cI m2 9 ro, kI cI m3 9 re, kI cI m4 9 rn, kI cI m5 27 rg, kI cI m6 12 ea, kI cI m8 2400 u.2.2.2.1, kI cI m9 32 u.2.2.2.2.1, kI cI m10 4 u.2.2.2.2.2.1, kJ cJ m11 80 u.2.2.2.2.2.2.1, kI cI m12 48 u.2.2.2.2.2.2.2.1, kI cI m13 3 u.2.2.2.2.2.2.2.2]) := by
  refine CTv.of (by decide) (Nat.le_of_ble_eq_true rfl) rfl ?_
  intro p e s m below meth c A Q ls hd hin hK hsz hP hD hA hS hl hret
  obtain ⟨hx, hb, hml, hown, hts⟩ := id hd
  have hK1 := hK.1
  have hown : s.vm.findClass RX7 = some m.cls := hown
  have hl : lv_has ls 3 [(0, .ref m0), (1, .int (nI a))] := hl
  refine lv_aload_n hx hb dX7_mixOpen_0 rfl (lv_at hl 0 rfl) ?_
  refine lv_aload_n hx hb dX7_mixOpen_1 rfl (lv_at hl 0 rfl) ?_
  refine lv_iload_n hx hb dX7_mixOpen_2 rfl (lv_at hl 1 rfl) ?_
  refine xc_i (wc := [kX7 m0 (nI z) m1 (nI r9) m2 m3 m4 m5 (nI n9) (nI v) m6 k1 k2 k3 k4 m7 k5 k6 k7 k8 m8 m9 m10 k9 m11 m12 m13 hv, kI cI m2 9 ro, kI cI m3 9 re, kI cI m4 9 rn, kI cI m5 27 rg, kI cI m6 12 ea, kI cI m8 2400 fw, kI cI m9 32 nf, kI cI m10 4 na]) (wr := [kJ cJ m11 80 la, kI cI m12 48 fa, kI cI m13 3 cn]) (xrV (n := 1) (As := [.int (nI a)]) (rest := [.ref m0]) (ci := 7) (q0 := 0) hd hK hP hD (c_X7_fewestNow l D cI cJ cZ cR _ m0 m1 m2 m3 m4 m5 m6 m7 m8 m9 m10 m11 m12 m13 z r9 n9 v k1 k2 k3 k4 k5 k6 k7 k8 k9 hv ro re rn rg ea fw nf na a hr9 hMQ hf hFW hsd hEA hMO ha3) (gV t_758 mV_X7_fewestNow) hV_X7_fewestNow ⟨(Nat.le_of_ble_eq_true rfl), (Nat.le_of_ble_eq_true rfl)⟩ rfl rfl [0, 1, 2, 3, 4, 5, 6, 7, 8] rfl rfl rfl hl.1 rfl (Nat.le_of_ble_eq_true rfl) dX7_mixOpen_3 ⟨(Nat.le_of_ble_eq_true rfl), (Nat.le_of_ble_eq_true rfl)⟩) hP hD hS hA [0, 1, 2, 3, 4, 5, 6, 7, 8] [9, 10, 11] rfl rfl rfl (by decide) (fun r_1 u_2 H locs hw_3 hP hD hS => ?_)
  obtain ⟨k8b_4, fw2_5, nf2_6, na2_7⟩ := u_2
  obtain ⟨hw_8, hw_9, hw_10, hw_11⟩ : (FWI fw2_5) ∧ (SDn 4 na2_7) ∧ (¬ k8b_4 = 0 → MOF n9 v ea ro re rn rg r9 fw2_5) ∧ (FeN a n9 v ea ro re rn rg r9 r_1) := hw_3
  have hF2 := hw_8
  have hS2 := hw_9
  have hO2 := hw_10
  have hP : va_P D vwCl [kJ cJ m11 80 la, kI cI m12 48 fa, kI cI m13 3 cn, kX7 m0 (nI z) m1 (nI r9) m2 m3 m4 m5 (nI n9) (nI v) m6 k1 k2 k3 k4 m7 k5 k6 k7 k8b_4 m8 m9 m10 k9 m11 m12 m13 hv, kI cI m2 9 ro, kI cI m3 9 re, kI cI m4 9 rn, kI cI m5 27 rg, kI cI m6 12 ea, kI cI m8 2400 fw2_5, kI cI m9 32 nf2_6, kI cI m10 4 na2_7] H := hP
  have hD : va_D A [kJ cJ m11 80 la, kI cI m12 48 fa, kI cI m13 3 cn, kX7 m0 (nI z) m1 (nI r9) m2 m3 m4 m5 (nI n9) (nI v) m6 k1 k2 k3 k4 m7 k5 k6 k7 k8b_4 m8 m9 m10 k9 m11 m12 m13 hv, kI cI m2 9 ro, kI cI m3 9 re, kI cI m4 9 rn, kI cI m5 27 rg, kI cI m6 12 ea, kI cI m8 2400 fw2_5, kI cI m9 32 nf2_6, kI cI m10 4 na2_7] := hD
  refine lv_i2l (v := Int32.toInt64 r_1) hx hb dX7_mixOpen_6 rfl ?_
  refine xc_v (wc := [kX7 m0 (nI z) m1 (nI r9) m2 m3 m4 m5 (nI n9) (nI v) m6 k1 k2 k3 k4 m7 k5 k6 k7 k8b_4 m8 m9 m10 k9 m11 m12 m13 hv]) (wr := [kJ cJ m11 80 la, kI cI m12 48 fa, kI cI m13 3 cn, kI cI m2 9 ro, kI cI m3 9 re, kI cI m4 9 rn, kI cI m5 27 rg, kI cI m6 12 ea, kI cI m8 2400 fw2_5, kI cI m9 32 nf2_6, kI cI m10 4 na2_7]) (xrV (n := 1) (As := [.long (Int32.toInt64 r_1)]) (rest := []) (ci := 7) (q0 := 3) hd hK hP hD (c_X7_mix l D cI cJ cZ cR _ m0 m1 m2 m3 m4 m5 m6 m7 m8 m9 m10 m11 m12 m13 z r9 n9 v k1 k2 k3 k4 k5 k6 k7 k8b_4 k9 hv (Int32.toInt64 r_1) ) (gV t_863 mV_X7_mix) hV_X7_mix ⟨(Nat.le_of_ble_eq_true rfl), (Nat.le_of_ble_eq_true rfl)⟩ rfl rfl [3] rfl rfl rfl hl.1 rfl (Nat.le_of_ble_eq_true rfl) dX7_mixOpen_7 ⟨(Nat.le_of_ble_eq_true rfl), (Nat.le_of_ble_eq_true rfl)⟩) hP hD hS hA [3] [0, 1, 2, 4, 5, 6, 7, 8, 9, 10, 11] rfl rfl rfl (by decide) (fun u_13 H locs hw_14 hP hD hS => ?_)
  obtain ⟨hv2_15, rfl⟩ : ∃ z9, z9 = u_13 := ⟨_, rfl⟩
  have hP : va_P D vwCl [kJ cJ m11 80 la, kI cI m12 48 fa, kI cI m13 3 cn, kI cI m2 9 ro, kI cI m3 9 re, kI cI m4 9 rn, kI cI m5 27 rg, kI cI m6 12 ea, kI cI m8 2400 fw2_5, kI cI m9 32 nf2_6, kI cI m10 4 na2_7, kX7 m0 (nI z) m1 (nI r9) m2 m3 m4 m5 (nI n9) (nI v) m6 k1 k2 k3 k4 m7 k5 k6 k7 k8b_4 m8 m9 m10 k9 m11 m12 m13 hv2_15] H := hP
  have hD : va_D A [kJ cJ m11 80 la, kI cI m12 48 fa, kI cI m13 3 cn, kI cI m2 9 ro, kI cI m3 9 re, kI cI m4 9 rn, kI cI m5 27 rg, kI cI m6 12 ea, kI cI m8 2400 fw2_5, kI cI m9 32 nf2_6, kI cI m10 4 na2_7, kX7 m0 (nI z) m1 (nI r9) m2 m3 m4 m5 (nI n9) (nI v) m6 k1 k2 k3 k4 m7 k5 k6 k7 k8b_4 m8 m9 m10 k9 m11 m12 m13 hv2_15] := hD
  refine lv_aload_n hx hb dX7_mixOpen_10 rfl (lv_at hl 0 rfl) ?_
  refine lv_aload_n hx hb dX7_mixOpen_11 rfl (lv_at hl 0 rfl) ?_
  refine lv_iload_n hx hb dX7_mixOpen_12 rfl (lv_at hl 1 rfl) ?_
  refine xc_i (wc := [kX7 m0 (nI z) m1 (nI r9) m2 m3 m4 m5 (nI n9) (nI v) m6 k1 k2 k3 k4 m7 k5 k6 k7 k8b_4 m8 m9 m10 k9 m11 m12 m13 hv2_15, kI cI m3 9 re, kI cI m5 27 rg, kI cI m13 3 cn, kI cI m2 9 ro, kI cI m4 9 rn, kJ cJ m11 80 la, kI cI m12 48 fa]) (wr := [kI cI m6 12 ea, kI cI m8 2400 fw2_5, kI cI m9 32 nf2_6, kI cI m10 4 na2_7]) (xrV (n := 1) (As := [.int (nI a)]) (rest := [.ref m0]) (ci := 7) (q0 := 11) hd hK hP hD (c_X7_kindsNow l D cI cJ cZ cR _ m0 m1 m2 m3 m4 m5 m6 m7 m8 m9 m10 m11 m12 m13 z r9 n9 v k1 k2 k3 k4 k5 k6 k7 k8b_4 k9 hv2_15 re rg cn ro rn fa la a hr9 hmr hLR ha3) (gV t_814 mV_X7_kindsNow) hV_X7_kindsNow ⟨(Nat.le_of_ble_eq_true rfl), (Nat.le_of_ble_eq_true rfl)⟩ rfl rfl [11, 4, 6, 2, 3, 5, 0, 1] rfl rfl rfl hl.1 rfl (Nat.le_of_ble_eq_true rfl) dX7_mixOpen_13 ⟨(Nat.le_of_ble_eq_true rfl), (Nat.le_of_ble_eq_true rfl)⟩) hP hD hS hA [11, 4, 6, 2, 3, 5, 0, 1] [7, 8, 9, 10] rfl rfl rfl (by decide) (fun r_16 u_17 H locs hw_18 hP hD hS => ?_)
  obtain ⟨k9b_19, la2_20, fa2_21, cn2_22⟩ := u_17
  have hw_23 : LR la2_20 := hw_18
  have hL1 := hw_23
  have hP : va_P D vwCl [kI cI m6 12 ea, kI cI m8 2400 fw2_5, kI cI m9 32 nf2_6, kI cI m10 4 na2_7, kX7 m0 (nI z) m1 (nI r9) m2 m3 m4 m5 (nI n9) (nI v) m6 k1 k2 k3 k4 m7 k5 k6 k7 k8b_4 m8 m9 m10 k9b_19 m11 m12 m13 hv2_15, kI cI m3 9 re, kI cI m5 27 rg, kI cI m13 3 cn2_22, kI cI m2 9 ro, kI cI m4 9 rn, kJ cJ m11 80 la2_20, kI cI m12 48 fa2_21] H := hP
  have hD : va_D A [kI cI m6 12 ea, kI cI m8 2400 fw2_5, kI cI m9 32 nf2_6, kI cI m10 4 na2_7, kX7 m0 (nI z) m1 (nI r9) m2 m3 m4 m5 (nI n9) (nI v) m6 k1 k2 k3 k4 m7 k5 k6 k7 k8b_4 m8 m9 m10 k9b_19 m11 m12 m13 hv2_15, kI cI m3 9 re, kI cI m5 27 rg, kI cI m13 3 cn2_22, kI cI m2 9 ro, kI cI m4 9 rn, kJ cJ m11 80 la2_20, kI cI m12 48 fa2_21] := hD
  refine lv_i2l (v := Int32.toInt64 r_16) hx hb dX7_mixOpen_16 rfl ?_
  refine xc_v (wc := [kX7 m0 (nI z) m1 (nI r9) m2 m3 m4 m5 (nI n9) (nI v) m6 k1 k2 k3 k4 m7 k5 k6 k7 k8b_4 m8 m9 m10 k9b_19 m11 m12 m13 hv2_15]) (wr := [kI cI m6 12 ea, kI cI m8 2400 fw2_5, kI cI m9 32 nf2_6, kI cI m10 4 na2_7, kI cI m3 9 re, kI cI m5 27 rg, kI cI m13 3 cn2_22, kI cI m2 9 ro, kI cI m4 9 rn, kJ cJ m11 80 la2_20, kI cI m12 48 fa2_21]) (xrV (n := 1) (As := [.long (Int32.toInt64 r_16)]) (rest := []) (ci := 7) (q0 := 4) hd hK hP hD (c_X7_mix l D cI cJ cZ cR _ m0 m1 m2 m3 m4 m5 m6 m7 m8 m9 m10 m11 m12 m13 z r9 n9 v k1 k2 k3 k4 k5 k6 k7 k8b_4 k9b_19 hv2_15 (Int32.toInt64 r_16) ) (gV t_863 mV_X7_mix) hV_X7_mix ⟨(Nat.le_of_ble_eq_true rfl), (Nat.le_of_ble_eq_true rfl)⟩ rfl rfl [4] rfl rfl rfl hl.1 rfl (Nat.le_of_ble_eq_true rfl) dX7_mixOpen_17 ⟨(Nat.le_of_ble_eq_true rfl), (Nat.le_of_ble_eq_true rfl)⟩) hP hD hS hA [4] [0, 1, 2, 3, 5, 6, 7, 8, 9, 10, 11] rfl rfl rfl (by decide) (fun u_25 H locs hw_26 hP hD hS => ?_)
  obtain ⟨hv2_27, rfl⟩ : ∃ z9, z9 = u_25 := ⟨_, rfl⟩
  have hP : va_P D vwCl [kI cI m6 12 ea, kI cI m8 2400 fw2_5, kI cI m9 32 nf2_6, kI cI m10 4 na2_7, kI cI m3 9 re, kI cI m5 27 rg, kI cI m13 3 cn2_22, kI cI m2 9 ro, kI cI m4 9 rn, kJ cJ m11 80 la2_20, kI cI m12 48 fa2_21, kX7 m0 (nI z) m1 (nI r9) m2 m3 m4 m5 (nI n9) (nI v) m6 k1 k2 k3 k4 m7 k5 k6 k7 k8b_4 m8 m9 m10 k9b_19 m11 m12 m13 hv2_27] H := hP
  have hD : va_D A [kI cI m6 12 ea, kI cI m8 2400 fw2_5, kI cI m9 32 nf2_6, kI cI m10 4 na2_7, kI cI m3 9 re, kI cI m5 27 rg, kI cI m13 3 cn2_22, kI cI m2 9 ro, kI cI m4 9 rn, kJ cJ m11 80 la2_20, kI cI m12 48 fa2_21, kX7 m0 (nI z) m1 (nI r9) m2 m3 m4 m5 (nI n9) (nI v) m6 k1 k2 k3 k4 m7 k5 k6 k7 k8b_4 m8 m9 m10 k9b_19 m11 m12 m13 hv2_27] := hD
  refine lv_iconst (v := 0) hx hb dX7_mixOpen_20 (by decide) ?_
  refine lv_istore_n (lv' := [(2, .int 0), (0, .ref m0), (1, .int (nI a))]) hx hb dX7_mixOpen_21 rfl hl (by decide) rfl (fun ls hl => ?_)
  have LOOP_22 : ∀ (n : Nat) (i : Nat) (kx : Int32) (hx2 : Int64) (lx : Nat → Int64) (fx : Nat → Int32) (cx : Nat → Int32), (i + n = 16) → (LR lx) → ∀ (H : Heap) (locs : List Loc) (ls : Array Slot), va_P D vwCl [kI cI m6 12 ea, kI cI m8 2400 fw2_5, kI cI m9 32 nf2_6, kI cI m10 4 na2_7, kI cI m3 9 re, kI cI m5 27 rg, kI cI m13 3 cx, kI cI m2 9 ro, kI cI m4 9 rn, kJ cJ m11 80 lx, kI cI m12 48 fx, kX7 m0 (nI z) m1 (nI r9) m2 m3 m4 m5 (nI n9) (nI v) m6 k1 k2 k3 k4 m7 k5 k6 k7 k8b_4 m8 m9 m10 kx m11 m12 m13 hx2] H → va_D A [kI cI m6 12 ea, kI cI m8 2400 fw2_5, kI cI m9 32 nf2_6, kI cI m10 4 na2_7, kI cI m3 9 re, kI cI m5 27 rg, kI cI m13 3 cx, kI cI m2 9 ro, kI cI m4 9 rn, kJ cJ m11 80 lx, kI cI m12 48 fx, kX7 m0 (nI z) m1 (nI r9) m2 m3 m4 m5 (nI n9) (nI v) m6 k1 k2 k3 k4 m7 k5 k6 k7 k8b_4 m8 m9 m10 kx m11 m12 m13 hx2] → va_S A s.heap H locs → lv_has ls 3 [(0, .ref m0), (1, .int (nI a)), (2, .int (nI i))] → W p l e (rM 9 0 0 226) s m ([.ref m0, .int (nI a)] : List Value).toArray below meth c H locs 0 0 Q (F0 m 22 ls []) := by
    intro n
    induction n with
    | zero =>
      intro i kx hx2 lx fx cx hi hLx H locs ls hP hD hS hl
      refine lv_iload_n hx hb dX7_mixOpen_22 rfl (lv_at hl 2 rfl) ?_
      refine lv_bipush (v := 16) hx hb dX7_mixOpen_23 (by decide) ?_
      refine lv_icmp_ge (tgt := 58) hx hb dX7_mixOpen_25 (by decide) (fun c_28 => ?_) (fun c_28 => ?_)
      rotate_left
      · exact absurd (nI_le (a := 16) (b := i) (by omega) (by omega)) c_28
      exact hret _ _ _ _ _ _ (k8b_4, kx, hx2, fw2_5, nf2_6, na2_7, lx, fx, cx) dX7_mixOpen_58 hS (Nat.le_of_ble_eq_true rfl) (Nat.le_of_ble_eq_true rfl) ⟨hF2, hS2, hLx, hO2⟩ (hP.sub [11, 7, 4, 8, 5, 0, 1, 2, 3, 9, 10, 6] rfl) (hD.sub [11, 7, 4, 8, 5, 0, 1, 2, 3, 9, 10, 6] rfl rfl)
    | succ n ih_22 =>
      intro i kx hx2 lx fx cx hi hLx H locs ls hP hD hS hl
      refine lv_iload_n hx hb dX7_mixOpen_22 rfl (lv_at hl 2 rfl) ?_
      refine lv_bipush (v := 16) hx hb dX7_mixOpen_23 (by decide) ?_
      refine lv_icmp_ge (tgt := 58) hx hb dX7_mixOpen_25 (by decide) (fun c_29 => ?_) (fun c_29 => ?_)
      · exact absurd c_29 (nI_ge (a := i) (b := 16) (by omega) (by omega))
      refine lv_aload_n hx hb dX7_mixOpen_28 rfl (lv_at hl 0 rfl) ?_
      refine lv_aload_n hx hb dX7_mixOpen_29 rfl (lv_at hl 0 rfl) ?_
      refine lv_iload_n hx hb dX7_mixOpen_30 rfl (lv_at hl 1 rfl) ?_
      refine lv_iload_n hx hb dX7_mixOpen_31 rfl (lv_at hl 2 rfl) ?_
      refine lv_iconst (v := 0) hx hb dX7_mixOpen_32 (by decide) ?_
      refine xc_i (wc := [kX7 m0 (nI z) m1 (nI r9) m2 m3 m4 m5 (nI n9) (nI v) m6 k1 k2 k3 k4 m7 k5 k6 k7 k8b_4 m8 m9 m10 kx m11 m12 m13 hx2, kI cI m3 9 re, kI cI m5 27 rg, kI cI m13 3 cx, kI cI m2 9 ro, kI cI m4 9 rn, kJ cJ m11 80 lx, kI cI m12 48 fx]) (wr := [kI cI m6 12 ea, kI cI m8 2400 fw2_5, kI cI m9 32 nf2_6, kI cI m10 4 na2_7]) (xrV (n := 3) (As := [.int (nI a), .int (nI i), .int 0]) (rest := [.ref m0]) (ci := 7) (q0 := 11) hd hK hP hD (c_X7_lightNow l D cI cJ cZ cR _ m0 m1 m2 m3 m4 m5 m6 m7 m8 m9 m10 m11 m12 m13 z r9 n9 v k1 k2 k3 k4 k5 k6 k7 k8b_4 kx hx2 re rg cx ro rn fx lx a i 0 hr9 hmr hLx ha3 (by omega)) (gV t_846 mV_X7_lightNow) hV_X7_lightNow ⟨(Nat.le_of_ble_eq_true rfl), (Nat.le_of_ble_eq_true rfl)⟩ rfl rfl [11, 4, 5, 6, 7, 8, 9, 10] rfl rfl rfl hl.1 rfl (Nat.le_of_ble_eq_true rfl) dX7_mixOpen_33 ⟨(Nat.le_of_ble_eq_true rfl), (Nat.le_of_ble_eq_true rfl)⟩) hP hD hS hA [11, 4, 5, 6, 7, 8, 9, 10] [0, 1, 2, 3] rfl rfl rfl (by decide) (fun r_30 u_31 H locs hw_32 hP hD hS => ?_)
      obtain ⟨k9b_33, la2_34, fa2_35, cn2_36⟩ := u_31
      have hw_37 : LR la2_34 := hw_32
      have hL2 := hw_37
      have hP : va_P D vwCl [kI cI m6 12 ea, kI cI m8 2400 fw2_5, kI cI m9 32 nf2_6, kI cI m10 4 na2_7, kX7 m0 (nI z) m1 (nI r9) m2 m3 m4 m5 (nI n9) (nI v) m6 k1 k2 k3 k4 m7 k5 k6 k7 k8b_4 m8 m9 m10 k9b_33 m11 m12 m13 hx2, kI cI m3 9 re, kI cI m5 27 rg, kI cI m13 3 cn2_36, kI cI m2 9 ro, kI cI m4 9 rn, kJ cJ m11 80 la2_34, kI cI m12 48 fa2_35] H := hP
      have hD : va_D A [kI cI m6 12 ea, kI cI m8 2400 fw2_5, kI cI m9 32 nf2_6, kI cI m10 4 na2_7, kX7 m0 (nI z) m1 (nI r9) m2 m3 m4 m5 (nI n9) (nI v) m6 k1 k2 k3 k4 m7 k5 k6 k7 k8b_4 m8 m9 m10 k9b_33 m11 m12 m13 hx2, kI cI m3 9 re, kI cI m5 27 rg, kI cI m13 3 cn2_36, kI cI m2 9 ro, kI cI m4 9 rn, kJ cJ m11 80 la2_34, kI cI m12 48 fa2_35] := hD
      refine lv_i2l (v := Int32.toInt64 r_30) hx hb dX7_mixOpen_36 rfl ?_
      refine xc_v (wc := [kX7 m0 (nI z) m1 (nI r9) m2 m3 m4 m5 (nI n9) (nI v) m6 k1 k2 k3 k4 m7 k5 k6 k7 k8b_4 m8 m9 m10 k9b_33 m11 m12 m13 hx2]) (wr := [kI cI m6 12 ea, kI cI m8 2400 fw2_5, kI cI m9 32 nf2_6, kI cI m10 4 na2_7, kI cI m3 9 re, kI cI m5 27 rg, kI cI m13 3 cn2_36, kI cI m2 9 ro, kI cI m4 9 rn, kJ cJ m11 80 la2_34, kI cI m12 48 fa2_35]) (xrV (n := 1) (As := [.long (Int32.toInt64 r_30)]) (rest := []) (ci := 7) (q0 := 4) hd hK hP hD (c_X7_mix l D cI cJ cZ cR _ m0 m1 m2 m3 m4 m5 m6 m7 m8 m9 m10 m11 m12 m13 z r9 n9 v k1 k2 k3 k4 k5 k6 k7 k8b_4 k9b_33 hx2 (Int32.toInt64 r_30) ) (gV t_863 mV_X7_mix) hV_X7_mix ⟨(Nat.le_of_ble_eq_true rfl), (Nat.le_of_ble_eq_true rfl)⟩ rfl rfl [4] rfl rfl rfl hl.1 rfl (Nat.le_of_ble_eq_true rfl) dX7_mixOpen_37 ⟨(Nat.le_of_ble_eq_true rfl), (Nat.le_of_ble_eq_true rfl)⟩) hP hD hS hA [4] [0, 1, 2, 3, 5, 6, 7, 8, 9, 10, 11] rfl rfl rfl (by decide) (fun u_39 H locs hw_40 hP hD hS => ?_)
      obtain ⟨hv2_41, rfl⟩ : ∃ z9, z9 = u_39 := ⟨_, rfl⟩
      have hP : va_P D vwCl [kI cI m6 12 ea, kI cI m8 2400 fw2_5, kI cI m9 32 nf2_6, kI cI m10 4 na2_7, kI cI m3 9 re, kI cI m5 27 rg, kI cI m13 3 cn2_36, kI cI m2 9 ro, kI cI m4 9 rn, kJ cJ m11 80 la2_34, kI cI m12 48 fa2_35, kX7 m0 (nI z) m1 (nI r9) m2 m3 m4 m5 (nI n9) (nI v) m6 k1 k2 k3 k4 m7 k5 k6 k7 k8b_4 m8 m9 m10 k9b_33 m11 m12 m13 hv2_41] H := hP
      have hD : va_D A [kI cI m6 12 ea, kI cI m8 2400 fw2_5, kI cI m9 32 nf2_6, kI cI m10 4 na2_7, kI cI m3 9 re, kI cI m5 27 rg, kI cI m13 3 cn2_36, kI cI m2 9 ro, kI cI m4 9 rn, kJ cJ m11 80 la2_34, kI cI m12 48 fa2_35, kX7 m0 (nI z) m1 (nI r9) m2 m3 m4 m5 (nI n9) (nI v) m6 k1 k2 k3 k4 m7 k5 k6 k7 k8b_4 m8 m9 m10 k9b_33 m11 m12 m13 hv2_41] := hD
      refine lv_aload_n hx hb dX7_mixOpen_40 rfl (lv_at hl 0 rfl) ?_
      refine lv_aload_n hx hb dX7_mixOpen_41 rfl (lv_at hl 0 rfl) ?_
      refine lv_iload_n hx hb dX7_mixOpen_42 rfl (lv_at hl 1 rfl) ?_
      refine lv_iload_n hx hb dX7_mixOpen_43 rfl (lv_at hl 2 rfl) ?_
      refine lv_iconst (v := 1) hx hb dX7_mixOpen_44 (by decide) ?_
      refine xc_i (wc := [kX7 m0 (nI z) m1 (nI r9) m2 m3 m4 m5 (nI n9) (nI v) m6 k1 k2 k3 k4 m7 k5 k6 k7 k8b_4 m8 m9 m10 k9b_33 m11 m12 m13 hv2_41, kI cI m3 9 re, kI cI m5 27 rg, kI cI m13 3 cn2_36, kI cI m2 9 ro, kI cI m4 9 rn, kJ cJ m11 80 la2_34, kI cI m12 48 fa2_35]) (wr := [kI cI m6 12 ea, kI cI m8 2400 fw2_5, kI cI m9 32 nf2_6, kI cI m10 4 na2_7]) (xrV (n := 3) (As := [.int (nI a), .int (nI i), .int 1]) (rest := [.ref m0]) (ci := 7) (q0 := 11) hd hK hP hD (c_X7_lightNow l D cI cJ cZ cR _ m0 m1 m2 m3 m4 m5 m6 m7 m8 m9 m10 m11 m12 m13 z r9 n9 v k1 k2 k3 k4 k5 k6 k7 k8b_4 k9b_33 hv2_41 re rg cn2_36 ro rn fa2_35 la2_34 a i 1 hr9 hmr hL2 ha3 (by omega)) (gV t_846 mV_X7_lightNow) hV_X7_lightNow ⟨(Nat.le_of_ble_eq_true rfl), (Nat.le_of_ble_eq_true rfl)⟩ rfl rfl [11, 4, 5, 6, 7, 8, 9, 10] rfl rfl rfl hl.1 rfl (Nat.le_of_ble_eq_true rfl) dX7_mixOpen_45 ⟨(Nat.le_of_ble_eq_true rfl), (Nat.le_of_ble_eq_true rfl)⟩) hP hD hS hA [11, 4, 5, 6, 7, 8, 9, 10] [0, 1, 2, 3] rfl rfl rfl (by decide) (fun r_42 u_43 H locs hw_44 hP hD hS => ?_)
      obtain ⟨k9b_45, la2_46, fa2_47, cn2_48⟩ := u_43
      have hw_49 : LR la2_46 := hw_44
      have hL3 := hw_49
      have hP : va_P D vwCl [kI cI m6 12 ea, kI cI m8 2400 fw2_5, kI cI m9 32 nf2_6, kI cI m10 4 na2_7, kX7 m0 (nI z) m1 (nI r9) m2 m3 m4 m5 (nI n9) (nI v) m6 k1 k2 k3 k4 m7 k5 k6 k7 k8b_4 m8 m9 m10 k9b_45 m11 m12 m13 hv2_41, kI cI m3 9 re, kI cI m5 27 rg, kI cI m13 3 cn2_48, kI cI m2 9 ro, kI cI m4 9 rn, kJ cJ m11 80 la2_46, kI cI m12 48 fa2_47] H := hP
      have hD : va_D A [kI cI m6 12 ea, kI cI m8 2400 fw2_5, kI cI m9 32 nf2_6, kI cI m10 4 na2_7, kX7 m0 (nI z) m1 (nI r9) m2 m3 m4 m5 (nI n9) (nI v) m6 k1 k2 k3 k4 m7 k5 k6 k7 k8b_4 m8 m9 m10 k9b_45 m11 m12 m13 hv2_41, kI cI m3 9 re, kI cI m5 27 rg, kI cI m13 3 cn2_48, kI cI m2 9 ro, kI cI m4 9 rn, kJ cJ m11 80 la2_46, kI cI m12 48 fa2_47] := hD
      refine lv_i2l (v := Int32.toInt64 r_42) hx hb dX7_mixOpen_48 rfl ?_
      refine xc_v (wc := [kX7 m0 (nI z) m1 (nI r9) m2 m3 m4 m5 (nI n9) (nI v) m6 k1 k2 k3 k4 m7 k5 k6 k7 k8b_4 m8 m9 m10 k9b_45 m11 m12 m13 hv2_41]) (wr := [kI cI m6 12 ea, kI cI m8 2400 fw2_5, kI cI m9 32 nf2_6, kI cI m10 4 na2_7, kI cI m3 9 re, kI cI m5 27 rg, kI cI m13 3 cn2_48, kI cI m2 9 ro, kI cI m4 9 rn, kJ cJ m11 80 la2_46, kI cI m12 48 fa2_47]) (xrV (n := 1) (As := [.long (Int32.toInt64 r_42)]) (rest := []) (ci := 7) (q0 := 4) hd hK hP hD (c_X7_mix l D cI cJ cZ cR _ m0 m1 m2 m3 m4 m5 m6 m7 m8 m9 m10 m11 m12 m13 z r9 n9 v k1 k2 k3 k4 k5 k6 k7 k8b_4 k9b_45 hv2_41 (Int32.toInt64 r_42) ) (gV t_863 mV_X7_mix) hV_X7_mix ⟨(Nat.le_of_ble_eq_true rfl), (Nat.le_of_ble_eq_true rfl)⟩ rfl rfl [4] rfl rfl rfl hl.1 rfl (Nat.le_of_ble_eq_true rfl) dX7_mixOpen_49 ⟨(Nat.le_of_ble_eq_true rfl), (Nat.le_of_ble_eq_true rfl)⟩) hP hD hS hA [4] [0, 1, 2, 3, 5, 6, 7, 8, 9, 10, 11] rfl rfl rfl (by decide) (fun u_51 H locs hw_52 hP hD hS => ?_)
      obtain ⟨hv2_53, rfl⟩ : ∃ z9, z9 = u_51 := ⟨_, rfl⟩
      have hP : va_P D vwCl [kI cI m6 12 ea, kI cI m8 2400 fw2_5, kI cI m9 32 nf2_6, kI cI m10 4 na2_7, kI cI m3 9 re, kI cI m5 27 rg, kI cI m13 3 cn2_48, kI cI m2 9 ro, kI cI m4 9 rn, kJ cJ m11 80 la2_46, kI cI m12 48 fa2_47, kX7 m0 (nI z) m1 (nI r9) m2 m3 m4 m5 (nI n9) (nI v) m6 k1 k2 k3 k4 m7 k5 k6 k7 k8b_4 m8 m9 m10 k9b_45 m11 m12 m13 hv2_53] H := hP
      have hD : va_D A [kI cI m6 12 ea, kI cI m8 2400 fw2_5, kI cI m9 32 nf2_6, kI cI m10 4 na2_7, kI cI m3 9 re, kI cI m5 27 rg, kI cI m13 3 cn2_48, kI cI m2 9 ro, kI cI m4 9 rn, kJ cJ m11 80 la2_46, kI cI m12 48 fa2_47, kX7 m0 (nI z) m1 (nI r9) m2 m3 m4 m5 (nI n9) (nI v) m6 k1 k2 k3 k4 m7 k5 k6 k7 k8b_4 m8 m9 m10 k9b_45 m11 m12 m13 hv2_53] := hD
      refine lv_iinc (v := nI (i + 1)) (lv' := [(2, .int (nI (i + 1))), (0, .ref m0), (1, .int (nI a))]) hx hb dX7_mixOpen_52 hl (k := 2) rfl (nI_1 i) (by decide) rfl (fun ls hl => ?_)
      refine lv_goto (tgt := 22) hx hb dX7_mixOpen_55 (by decide) ?_
      exact ih_22 (i + 1) k9b_45 hv2_53 la2_46 fa2_47 cn2_48 (by omega) hL3 _ _ _ (hP.sub [0, 1, 2, 3, 4, 5, 6, 7, 8, 9, 10, 11] rfl) (hD.sub [0, 1, 2, 3, 4, 5, 6, 7, 8, 9, 10, 11] rfl rfl) hS (lv_sub hl [1, 2, 0] rfl)
  exact LOOP_22 16 0 k9b_19 hv2_27 la2_20 fa2_21 cn2_22 (by omega) hL1 _ _ _ (hP.sub [0, 1, 2, 3, 4, 5, 6, 7, 8, 9, 10, 11] rfl) (hD.sub [0, 1, 2, 3, 4, 5, 6, 7, 8, 9, 10, 11] rfl rfl) hS (lv_sub hl [1, 2, 0] rfl)
set_option maxHeartbeats 4000000 in
set_option maxRecDepth 100000 in
theorem c_X7_digest (sz : Nat) (m0 : Nat) (m1 : Nat) (m2 : Nat) (m3 : Nat) (m4 : Nat) (m5 : Nat) (m6 : Nat) (m7 : Nat) (m8 : Nat) (m9 : Nat) (m10 : Nat) (m11 : Nat) (m12 : Nat) (m13 : Nat) (z : Nat) (r9 : Nat) (n9 : Nat) (v : Nat) (k1 : Int32) (k2 : Int32) (k3 : Int32) (k4 : Int32) (k5 : Int32) (k6 : Int32) (k7 : Int32) (k8 : Int32) (k9 : Int32) (hv : Int64) (ro : Nat → Int32) (re : Nat → Int32) (rn : Nat → Int32) (rg : Nat → Int32) (ea : Nat → Int32) (fw : Nat → Int32) (nf : Nat → Int32) (na : Nat → Int32) (la : Nat → Int64) (fa : Nat → Int32) (cn : Nat → Int32) (pf : Nat → Int32) (hz : z ≤ 16) (hr9 : r9 ≤ 9) (hmr : MRI ro re rn rg r9) (hf : FgI n9 v) (hFW : FWI fw) (hsd : SDn 4 na) (hLR : LR la) (hMQ : MRQ ro re rn rg r9) (hEA : EAI n9 v ea) (hMO : ¬ k8 = 0 → MOF n9 v ea ro re rn rg r9 fw) : CTl l D cI cJ cZ cR yX7_digest cX7_digest 3 (some .long) 10 248 0 0 sz [.ref m0] [kX7 m0 (nI z) m1 (nI r9) m2 m3 m4 m5 (nI n9) (nI v) m6 k1 k2 k3 k4 m7 k5 k6 k7 k8 m8 m9 m10 k9 m11 m12 m13 hv, kI cI m2 9 ro, kI cI m3 9 re, kI cI m4 9 rn, kI cI m5 27 rg, kI cI m6 12 ea, kI cI m8 2400 fw, kI cI m9 32 nf, kI cI m10 4 na, kJ cJ m11 80 la, kI cI m12 48 fa, kI cI m13 3 cn, kI cI m1 16 pf] (fun (r : Int64) (u : Int32 × Int32 × Int64 × (Nat → Int32) × (Nat → Int32) × (Nat → Int32) × (Nat → Int64) × (Nat → Int32) × (Nat → Int32)) => (FWI u.2.2.2.1) ∧ (SDn 4 u.2.2.2.2.2.1) ∧ (LR u.2.2.2.2.2.2.1) ∧ (¬ u.1 = 0 → MOF n9 v ea ro re rn rg r9 u.2.2.2.1)) (fun (u : Int32 × Int32 × Int64 × (Nat → Int32) × (Nat → Int32) × (Nat → Int32) × (Nat → Int64) × (Nat → Int32) × (Nat → Int32)) => [kX7 m0 (nI z) m1 (nI r9) m2 m3 m4 m5 (nI n9) (nI v) m6 k1 k2 k3 k4 m7 k5 k6 k7 u.1 m8 m9 m10 u.2.1 m11 m12 m13 u.2.2.1, kI cI m2 9 ro, kI cI m3 9 re, kI cI m4 9 rn, kI cI m5 27 rg, kI cI m6 12 ea, kI cI m8 2400 u.2.2.2.1, kI cI m9 32 u.2.2.2.2.1, kI cI m10 4 u.2.2.2.2.2.1, kJ cJ m11 80 u.2.2.2.2.2.2.1, kI cI m12 48 u.2.2.2.2.2.2.2.1, kI cI m13 3 u.2.2.2.2.2.2.2.2, kI cI m1 16 pf]) := by
  refine CTl.of (by decide) (Nat.le_of_ble_eq_true rfl) rfl ?_
  intro p e s m below meth c A Q ls hd hin hK hsz hP hD hA hS hl hret
  obtain ⟨hx, hb, hml, hown, hts⟩ := id hd
  have hK1 := hK.1
  have hown : s.vm.findClass RX7 = some m.cls := hown
  have hl : lv_has ls 3 [(0, .ref m0)] := hl
  have hfn := hf.1
  refine lv_aload_n hx hb dX7_digest_0 rfl (lv_at hl 0 rfl) ?_
  refine lv_ldc2 hx hb hown (hts _ t_862) dX7_digest_1 ?_
  refine va_put (D := D) (ci := 7) (v := .long 1709) (ty := .long) (C := RX7) (T := TX7) (N := 27) hx hb hts iT_X7 tyX7 tyX7_ok nmX7 hown hK1 hP hD hS 0 rfl rfl 26 (by decide) (hts _ t_577) (fun _ h9 => h9) rfl (by decide +kernel) rfl rfl (Nat.le_of_ble_eq_true rfl) dX7_digest_4 (fun H locs hP hD hS => ?_)
  have hP : va_P D vwCl [kX7 m0 (nI z) m1 (nI r9) m2 m3 m4 m5 (nI n9) (nI v) m6 k1 k2 k3 k4 m7 k5 k6 k7 k8 m8 m9 m10 k9 m11 m12 m13 1709, kI cI m2 9 ro, kI cI m3 9 re, kI cI m4 9 rn, kI cI m5 27 rg, kI cI m6 12 ea, kI cI m8 2400 fw, kI cI m9 32 nf, kI cI m10 4 na, kJ cJ m11 80 la, kI cI m12 48 fa, kI cI m13 3 cn, kI cI m1 16 pf] H := hP
  have hD : va_D A [kX7 m0 (nI z) m1 (nI r9) m2 m3 m4 m5 (nI n9) (nI v) m6 k1 k2 k3 k4 m7 k5 k6 k7 k8 m8 m9 m10 k9 m11 m12 m13 1709, kI cI m2 9 ro, kI cI m3 9 re, kI cI m4 9 rn, kI cI m5 27 rg, kI cI m6 12 ea, kI cI m8 2400 fw, kI cI m9 32 nf, kI cI m10 4 na, kJ cJ m11 80 la, kI cI m12 48 fa, kI cI m13 3 cn, kI cI m1 16 pf] := hD
  refine lv_iconst (v := 0) hx hb dX7_digest_7 (by decide) ?_
  refine lv_istore_n (lv' := [(1, .int 0), (0, .ref m0)]) hx hb dX7_digest_8 rfl hl (by decide) rfl (fun ls hl => ?_)
  have LOOP_9 : ∀ (n : Nat) (i : Nat) (ha1 : Int64), (i + n = r9) → ∀ (H : Heap) (locs : List Loc) (ls : Array Slot), va_P D vwCl [kX7 m0 (nI z) m1 (nI r9) m2 m3 m4 m5 (nI n9) (nI v) m6 k1 k2 k3 k4 m7 k5 k6 k7 k8 m8 m9 m10 k9 m11 m12 m13 ha1, kI cI m2 9 ro, kI cI m3 9 re, kI cI m4 9 rn, kI cI m5 27 rg, kI cI m6 12 ea, kI cI m8 2400 fw, kI cI m9 32 nf, kI cI m10 4 na, kJ cJ m11 80 la, kI cI m12 48 fa, kI cI m13 3 cn, kI cI m1 16 pf] H → va_D A [kX7 m0 (nI z) m1 (nI r9) m2 m3 m4 m5 (nI n9) (nI v) m6 k1 k2 k3 k4 m7 k5 k6 k7 k8 m8 m9 m10 k9 m11 m12 m13 ha1, kI cI m2 9 ro, kI cI m3 9 re, kI cI m4 9 rn, kI cI m5 27 rg, kI cI m6 12 ea, kI cI m8 2400 fw, kI cI m9 32 nf, kI cI m10 4 na, kJ cJ m11 80 la, kI cI m12 48 fa, kI cI m13 3 cn, kI cI m1 16 pf] → va_S A s.heap H locs → lv_has ls 3 [(0, .ref m0), (1, .int (nI i))] → W p l e (rM 10 0 0 248) s m ([.ref m0] : List Value).toArray below meth c H locs 0 0 Q (F0 m 9 ls []) := by
    intro n
    induction n with
    | zero =>
      intro i ha1 hi H locs ls hP hD hS hl
      refine lv_iload_n hx hb dX7_digest_9 rfl (lv_at hl 1 rfl) ?_
      refine lv_aload_n hx hb dX7_digest_10 rfl (lv_at hl 0 rfl) ?_
      refine va_get (D := D) (ci := 7) (v := .int (nI r9)) (C := RX7) (T := TX7) (N := 27) hx hb hts iT_X7 hown hK1 hP 0 rfl rfl 2 (by decide) (hts _ t_553) (fun _ h9 => h9) rfl dX7_digest_11 ?_
      refine lv_icmp_ge (tgt := 59) hx hb dX7_digest_14 (by decide) (fun c_1 => ?_) (fun c_1 => ?_)
      rotate_left
      · exact absurd (nI_le (a := r9) (b := i) (by omega) (by omega)) c_1
      refine lv_iconst (v := 0) hx hb dX7_digest_59 (by decide) ?_
      refine lv_istore_n (lv' := [(1, .int 0), (0, .ref m0)]) hx hb dX7_digest_60 rfl hl (by decide) rfl (fun ls hl => ?_)
      have LOOP_61 : ∀ (n : Nat) (i2 : Nat) (hc1 : Int64), (i2 + n = n9) → ∀ (H : Heap) (locs : List Loc) (ls : Array Slot), va_P D vwCl [kX7 m0 (nI z) m1 (nI r9) m2 m3 m4 m5 (nI n9) (nI v) m6 k1 k2 k3 k4 m7 k5 k6 k7 k8 m8 m9 m10 k9 m11 m12 m13 hc1, kI cI m2 9 ro, kI cI m3 9 re, kI cI m4 9 rn, kI cI m5 27 rg, kI cI m6 12 ea, kI cI m8 2400 fw, kI cI m9 32 nf, kI cI m10 4 na, kJ cJ m11 80 la, kI cI m12 48 fa, kI cI m13 3 cn, kI cI m1 16 pf] H → va_D A [kX7 m0 (nI z) m1 (nI r9) m2 m3 m4 m5 (nI n9) (nI v) m6 k1 k2 k3 k4 m7 k5 k6 k7 k8 m8 m9 m10 k9 m11 m12 m13 hc1, kI cI m2 9 ro, kI cI m3 9 re, kI cI m4 9 rn, kI cI m5 27 rg, kI cI m6 12 ea, kI cI m8 2400 fw, kI cI m9 32 nf, kI cI m10 4 na, kJ cJ m11 80 la, kI cI m12 48 fa, kI cI m13 3 cn, kI cI m1 16 pf] → va_S A s.heap H locs → lv_has ls 3 [(0, .ref m0), (1, .int (nI i2))] → W p l e (rM 10 0 0 248) s m ([.ref m0] : List Value).toArray below meth c H locs 0 0 Q (F0 m 61 ls []) := by
        intro n
        induction n with
        | zero =>
          intro i2 hc1 hi2 H locs ls hP hD hS hl
          refine lv_iload_n hx hb dX7_digest_61 rfl (lv_at hl 1 rfl) ?_
          refine lv_aload_n hx hb dX7_digest_62 rfl (lv_at hl 0 rfl) ?_
          refine va_get (D := D) (ci := 7) (v := .int (nI n9)) (C := RX7) (T := TX7) (N := 27) hx hb hts iT_X7 hown hK1 hP 0 rfl rfl 7 (by decide) (hts _ t_558) (fun _ h9 => h9) rfl dX7_digest_63 ?_
          refine lv_icmp_ge (tgt := 86) hx hb dX7_digest_66 (by decide) (fun c_2 => ?_) (fun c_2 => ?_)
          rotate_left
          · exact absurd (nI_le (a := n9) (b := i2) (by omega) (by omega)) c_2
          have CUT_108 : ∀ (hm9 : Int64), ∀ (H : Heap) (locs : List Loc) (ls : Array Slot), va_P D vwCl [kX7 m0 (nI z) m1 (nI r9) m2 m3 m4 m5 (nI n9) (nI v) m6 k1 k2 k3 k4 m7 k5 k6 k7 k8 m8 m9 m10 k9 m11 m12 m13 hm9, kI cI m2 9 ro, kI cI m3 9 re, kI cI m4 9 rn, kI cI m5 27 rg, kI cI m6 12 ea, kI cI m8 2400 fw, kI cI m9 32 nf, kI cI m10 4 na, kJ cJ m11 80 la, kI cI m12 48 fa, kI cI m13 3 cn, kI cI m1 16 pf] H → va_D A [kX7 m0 (nI z) m1 (nI r9) m2 m3 m4 m5 (nI n9) (nI v) m6 k1 k2 k3 k4 m7 k5 k6 k7 k8 m8 m9 m10 k9 m11 m12 m13 hm9, kI cI m2 9 ro, kI cI m3 9 re, kI cI m4 9 rn, kI cI m5 27 rg, kI cI m6 12 ea, kI cI m8 2400 fw, kI cI m9 32 nf, kI cI m10 4 na, kJ cJ m11 80 la, kI cI m12 48 fa, kI cI m13 3 cn, kI cI m1 16 pf] → va_S A s.heap H locs → lv_has ls 3 [(0, .ref m0)] → W p l e (rM 10 0 0 248) s m ([.ref m0] : List Value).toArray below meth c H locs 0 0 Q (F0 m 108 ls []) := by
            intro hm9 H locs ls hP hD hS hl
            refine lv_iconst (v := 0) hx hb dX7_digest_108 (by decide) ?_
            refine lv_istore_n (lv' := [(1, .int 0), (0, .ref m0)]) hx hb dX7_digest_109 rfl hl (by decide) rfl (fun ls hl => ?_)
            have LOOP_110 : ∀ (n : Nat) (i3 : Nat) (k8x : Int32) (k9x : Int32) (hd2 : Int64) (fx : Nat → Int32) (gx : Nat → Int32) (nx : Nat → Int32) (lx : Nat → Int64) (ax : Nat → Int32) (cx : Nat → Int32), (i3 + n = 3) → (FWI fx) → (SDn 4 nx) → (LR lx) → (¬ k8x = 0 → MOF n9 v ea ro re rn rg r9 fx) → ∀ (H : Heap) (locs : List Loc) (ls : Array Slot), va_P D vwCl [kX7 m0 (nI z) m1 (nI r9) m2 m3 m4 m5 (nI n9) (nI v) m6 k1 k2 k3 k4 m7 k5 k6 k7 k8x m8 m9 m10 k9x m11 m12 m13 hd2, kI cI m2 9 ro, kI cI m3 9 re, kI cI m4 9 rn, kI cI m5 27 rg, kI cI m6 12 ea, kI cI m8 2400 fx, kI cI m9 32 gx, kI cI m10 4 nx, kJ cJ m11 80 lx, kI cI m12 48 ax, kI cI m13 3 cx, kI cI m1 16 pf] H → va_D A [kX7 m0 (nI z) m1 (nI r9) m2 m3 m4 m5 (nI n9) (nI v) m6 k1 k2 k3 k4 m7 k5 k6 k7 k8x m8 m9 m10 k9x m11 m12 m13 hd2, kI cI m2 9 ro, kI cI m3 9 re, kI cI m4 9 rn, kI cI m5 27 rg, kI cI m6 12 ea, kI cI m8 2400 fx, kI cI m9 32 gx, kI cI m10 4 nx, kJ cJ m11 80 lx, kI cI m12 48 ax, kI cI m13 3 cx, kI cI m1 16 pf] → va_S A s.heap H locs → lv_has ls 3 [(0, .ref m0), (1, .int (nI i3))] → W p l e (rM 10 0 0 248) s m ([.ref m0] : List Value).toArray below meth c H locs 0 0 Q (F0 m 110 ls []) := by
              intro n
              induction n with
              | zero =>
                intro i3 k8x k9x hd2 fx gx nx lx ax cx hi3 hFx hSx hLx hOx H locs ls hP hD hS hl
                refine lv_iload_n hx hb dX7_digest_110 rfl (lv_at hl 1 rfl) ?_
                refine lv_iconst (v := 3) hx hb dX7_digest_111 (by decide) ?_
                refine lv_icmp_ge (tgt := 126) hx hb dX7_digest_112 (by decide) (fun c_3 => ?_) (fun c_3 => ?_)
                rotate_left
                · exact absurd (nI_le (a := 3) (b := i3) (by omega) (by omega)) c_3
                refine lv_iconst (v := 0) hx hb dX7_digest_126 (by decide) ?_
                refine lv_istore_n (lv' := [(1, .int 0), (0, .ref m0)]) hx hb dX7_digest_127 rfl hl (by decide) rfl (fun ls hl => ?_)
                have LOOP_128 : ∀ (n : Nat) (i4 : Nat) (he1 : Int64), (i4 + n = z) → ∀ (H : Heap) (locs : List Loc) (ls : Array Slot), va_P D vwCl [kX7 m0 (nI z) m1 (nI r9) m2 m3 m4 m5 (nI n9) (nI v) m6 k1 k2 k3 k4 m7 k5 k6 k7 k8x m8 m9 m10 k9x m11 m12 m13 he1, kI cI m2 9 ro, kI cI m3 9 re, kI cI m4 9 rn, kI cI m5 27 rg, kI cI m6 12 ea, kI cI m8 2400 fx, kI cI m9 32 gx, kI cI m10 4 nx, kJ cJ m11 80 lx, kI cI m12 48 ax, kI cI m13 3 cx, kI cI m1 16 pf] H → va_D A [kX7 m0 (nI z) m1 (nI r9) m2 m3 m4 m5 (nI n9) (nI v) m6 k1 k2 k3 k4 m7 k5 k6 k7 k8x m8 m9 m10 k9x m11 m12 m13 he1, kI cI m2 9 ro, kI cI m3 9 re, kI cI m4 9 rn, kI cI m5 27 rg, kI cI m6 12 ea, kI cI m8 2400 fx, kI cI m9 32 gx, kI cI m10 4 nx, kJ cJ m11 80 lx, kI cI m12 48 ax, kI cI m13 3 cx, kI cI m1 16 pf] → va_S A s.heap H locs → lv_has ls 3 [(0, .ref m0), (1, .int (nI i4))] → W p l e (rM 10 0 0 248) s m ([.ref m0] : List Value).toArray below meth c H locs 0 0 Q (F0 m 128 ls []) := by
                  intro n
                  induction n with
                  | zero =>
                    intro i4 he1 hi4 H locs ls hP hD hS hl
                    refine lv_iload_n hx hb dX7_digest_128 rfl (lv_at hl 1 rfl) ?_
                    refine lv_aload_n hx hb dX7_digest_129 rfl (lv_at hl 0 rfl) ?_
                    refine va_get (D := D) (ci := 7) (v := .int (nI z)) (C := RX7) (T := TX7) (N := 27) hx hb hts iT_X7 hown hK1 hP 0 rfl rfl 0 (by decide) (hts _ t_551) (fun _ h9 => h9) rfl dX7_digest_130 ?_
                    refine lv_icmp_ge (tgt := 153) hx hb dX7_digest_133 (by decide) (fun c_4 => ?_) (fun c_4 => ?_)
                    rotate_left
                    · exact absurd (nI_le (a := z) (b := i4) (by omega) (by omega)) c_4
                    refine lv_iconst (v := 0) hx hb dX7_digest_153 (by decide) ?_
                    refine lv_istore_n (lv' := [(1, .int 0), (0, .ref m0)]) hx hb dX7_digest_154 rfl hl (by decide) rfl (fun ls hl => ?_)
                    have LOOP_155 : ∀ (n : Nat) (i5 : Nat) (hf1 : Int64), (i5 + n = 8) → ∀ (H : Heap) (locs : List Loc) (ls : Array Slot), va_P D vwCl [kX7 m0 (nI z) m1 (nI r9) m2 m3 m4 m5 (nI n9) (nI v) m6 k1 k2 k3 k4 m7 k5 k6 k7 k8x m8 m9 m10 k9x m11 m12 m13 hf1, kI cI m2 9 ro, kI cI m3 9 re, kI cI m4 9 rn, kI cI m5 27 rg, kI cI m6 12 ea, kI cI m8 2400 fx, kI cI m9 32 gx, kI cI m10 4 nx, kJ cJ m11 80 lx, kI cI m12 48 ax, kI cI m13 3 cx, kI cI m1 16 pf] H → va_D A [kX7 m0 (nI z) m1 (nI r9) m2 m3 m4 m5 (nI n9) (nI v) m6 k1 k2 k3 k4 m7 k5 k6 k7 k8x m8 m9 m10 k9x m11 m12 m13 hf1, kI cI m2 9 ro, kI cI m3 9 re, kI cI m4 9 rn, kI cI m5 27 rg, kI cI m6 12 ea, kI cI m8 2400 fx, kI cI m9 32 gx, kI cI m10 4 nx, kJ cJ m11 80 lx, kI cI m12 48 ax, kI cI m13 3 cx, kI cI m1 16 pf] → va_S A s.heap H locs → lv_has ls 3 [(0, .ref m0), (1, .int (nI i5))] → W p l e (rM 10 0 0 248) s m ([.ref m0] : List Value).toArray below meth c H locs 0 0 Q (F0 m 155 ls []) := by
                      intro n
                      induction n with
                      | zero =>
                        intro i5 hf1 hi5 H locs ls hP hD hS hl
                        refine lv_iload_n hx hb dX7_digest_155 rfl (lv_at hl 1 rfl) ?_
                        refine lv_bipush (v := 8) hx hb dX7_digest_156 (by decide) ?_
                        refine lv_icmp_ge (tgt := 177) hx hb dX7_digest_158 (by decide) (fun c_5 => ?_) (fun c_5 => ?_)
                        rotate_left
                        · exact absurd (nI_le (a := 8) (b := i5) (by omega) (by omega)) c_5
                        refine lv_aload_n hx hb dX7_digest_177 rfl (lv_at hl 0 rfl) ?_
                        refine va_get (D := D) (ci := 7) (v := .long hf1) (C := RX7) (T := TX7) (N := 27) hx hb hts iT_X7 hown hK1 hP 0 rfl rfl 26 (by decide) (hts _ t_577) (fun _ h9 => h9) rfl dX7_digest_178 ?_
                        exact hret _ _ _ _ _ _ hf1 (k8x, k9x, hf1, fx, gx, nx, lx, ax, cx) dX7_digest_181 hS (Nat.le_of_ble_eq_true rfl) (Nat.le_of_ble_eq_true rfl) ⟨hFx, hSx, hLx, hOx⟩ (hP.sub [0, 1, 2, 3, 4, 5, 6, 7, 8, 9, 10, 11, 12] rfl) (hD.sub [0, 1, 2, 3, 4, 5, 6, 7, 8, 9, 10, 11, 12] rfl rfl)
                      | succ n ih_155 =>
                        intro i5 hf1 hi5 H locs ls hP hD hS hl
                        refine lv_iload_n hx hb dX7_digest_155 rfl (lv_at hl 1 rfl) ?_
                        refine lv_bipush (v := 8) hx hb dX7_digest_156 (by decide) ?_
                        refine lv_icmp_ge (tgt := 177) hx hb dX7_digest_158 (by decide) (fun c_6 => ?_) (fun c_6 => ?_)
                        · exact absurd c_6 (nI_ge (a := i5) (b := 8) (by omega) (by omega))
                        refine lv_aload_n hx hb dX7_digest_161 rfl (lv_at hl 0 rfl) ?_
                        refine lv_aload_n hx hb dX7_digest_162 rfl (lv_at hl 0 rfl) ?_
                        refine lv_iload_n hx hb dX7_digest_163 rfl (lv_at hl 1 rfl) ?_
                        refine xc_i (wc := [kX7 m0 (nI z) m1 (nI r9) m2 m3 m4 m5 (nI n9) (nI v) m6 k1 k2 k3 k4 m7 k5 k6 k7 k8x m8 m9 m10 k9x m11 m12 m13 hf1, kI cI m6 12 ea]) (wr := [kI cI m2 9 ro, kI cI m3 9 re, kI cI m4 9 rn, kI cI m5 27 rg, kI cI m8 2400 fx, kI cI m9 32 gx, kI cI m10 4 nx, kJ cJ m11 80 lx, kI cI m12 48 ax, kI cI m13 3 cx, kI cI m1 16 pf]) (xrV (n := 1) (As := [.int (nI i5)]) (rest := [.ref m0]) (ci := 7) (q0 := 0) hd hK hP hD (c_X7_howMany l D cI cJ cZ cR _ m0 m1 m2 m3 m4 m5 m6 m7 m8 m9 m10 m11 m12 m13 z r9 n9 v k1 k2 k3 k4 k5 k6 k7 k8x k9x hf1 ea (nI i5) hf) (gV t_854 mV_X7_howMany) hV_X7_howMany ⟨(Nat.le_of_ble_eq_true rfl), (Nat.le_of_ble_eq_true rfl)⟩ rfl rfl [0, 5] rfl rfl rfl hl.1 rfl (Nat.le_of_ble_eq_true rfl) dX7_digest_164 ⟨(Nat.le_of_ble_eq_true rfl), (Nat.le_of_ble_eq_true rfl)⟩) hP hD hS hA [0, 5] [1, 2, 3, 4, 6, 7, 8, 9, 10, 11, 12] rfl rfl rfl (by decide) (fun r_7 u_8 H locs hw_9 hP hD hS => ?_)
                        have hw_10 : r_7 = (cntF (nI i5) (nI z) (nI r9) (nI n9) (nI v) (mop ea n9) k1 k2 k3) := hw_9
                        subst hw_10
                        have hP : va_P D vwCl [kI cI m2 9 ro, kI cI m3 9 re, kI cI m4 9 rn, kI cI m5 27 rg, kI cI m8 2400 fx, kI cI m9 32 gx, kI cI m10 4 nx, kJ cJ m11 80 lx, kI cI m12 48 ax, kI cI m13 3 cx, kI cI m1 16 pf, kX7 m0 (nI z) m1 (nI r9) m2 m3 m4 m5 (nI n9) (nI v) m6 k1 k2 k3 k4 m7 k5 k6 k7 k8x m8 m9 m10 k9x m11 m12 m13 hf1, kI cI m6 12 ea] H := hP
                        have hD : va_D A [kI cI m2 9 ro, kI cI m3 9 re, kI cI m4 9 rn, kI cI m5 27 rg, kI cI m8 2400 fx, kI cI m9 32 gx, kI cI m10 4 nx, kJ cJ m11 80 lx, kI cI m12 48 ax, kI cI m13 3 cx, kI cI m1 16 pf, kX7 m0 (nI z) m1 (nI r9) m2 m3 m4 m5 (nI n9) (nI v) m6 k1 k2 k3 k4 m7 k5 k6 k7 k8x m8 m9 m10 k9x m11 m12 m13 hf1, kI cI m6 12 ea] := hD
                        refine lv_i2l (v := Int32.toInt64 (cntF (nI i5) (nI z) (nI r9) (nI n9) (nI v) (mop ea n9) k1 k2 k3)) hx hb dX7_digest_167 rfl ?_
                        refine xc_v (wc := [kX7 m0 (nI z) m1 (nI r9) m2 m3 m4 m5 (nI n9) (nI v) m6 k1 k2 k3 k4 m7 k5 k6 k7 k8x m8 m9 m10 k9x m11 m12 m13 hf1]) (wr := [kI cI m2 9 ro, kI cI m3 9 re, kI cI m4 9 rn, kI cI m5 27 rg, kI cI m8 2400 fx, kI cI m9 32 gx, kI cI m10 4 nx, kJ cJ m11 80 lx, kI cI m12 48 ax, kI cI m13 3 cx, kI cI m1 16 pf, kI cI m6 12 ea]) (xrV (n := 1) (As := [.long (Int32.toInt64 (cntF (nI i5) (nI z) (nI r9) (nI n9) (nI v) (mop ea n9) k1 k2 k3))]) (rest := []) (ci := 7) (q0 := 11) hd hK hP hD (c_X7_mix l D cI cJ cZ cR _ m0 m1 m2 m3 m4 m5 m6 m7 m8 m9 m10 m11 m12 m13 z r9 n9 v k1 k2 k3 k4 k5 k6 k7 k8x k9x hf1 (Int32.toInt64 (cntF (nI i5) (nI z) (nI r9) (nI n9) (nI v) (mop ea n9) k1 k2 k3)) ) (gV t_863 mV_X7_mix) hV_X7_mix ⟨(Nat.le_of_ble_eq_true rfl), (Nat.le_of_ble_eq_true rfl)⟩ rfl rfl [11] rfl rfl rfl hl.1 rfl (Nat.le_of_ble_eq_true rfl) dX7_digest_168 ⟨(Nat.le_of_ble_eq_true rfl), (Nat.le_of_ble_eq_true rfl)⟩) hP hD hS hA [11] [0, 1, 2, 3, 4, 5, 6, 7, 8, 9, 10, 12] rfl rfl rfl (by decide) (fun u_12 H locs hw_13 hP hD hS => ?_)
                        obtain ⟨hv2_14, rfl⟩ : ∃ z9, z9 = u_12 := ⟨_, rfl⟩
                        have hP : va_P D vwCl [kI cI m2 9 ro, kI cI m3 9 re, kI cI m4 9 rn, kI cI m5 27 rg, kI cI m8 2400 fx, kI cI m9 32 gx, kI cI m10 4 nx, kJ cJ m11 80 lx, kI cI m12 48 ax, kI cI m13 3 cx, kI cI m1 16 pf, kI cI m6 12 ea, kX7 m0 (nI z) m1 (nI r9) m2 m3 m4 m5 (nI n9) (nI v) m6 k1 k2 k3 k4 m7 k5 k6 k7 k8x m8 m9 m10 k9x m11 m12 m13 hv2_14] H := hP
                        have hD : va_D A [kI cI m2 9 ro, kI cI m3 9 re, kI cI m4 9 rn, kI cI m5 27 rg, kI cI m8 2400 fx, kI cI m9 32 gx, kI cI m10 4 nx, kJ cJ m11 80 lx, kI cI m12 48 ax, kI cI m13 3 cx, kI cI m1 16 pf, kI cI m6 12 ea, kX7 m0 (nI z) m1 (nI r9) m2 m3 m4 m5 (nI n9) (nI v) m6 k1 k2 k3 k4 m7 k5 k6 k7 k8x m8 m9 m10 k9x m11 m12 m13 hv2_14] := hD
                        refine lv_iinc (v := nI (i5 + 1)) (lv' := [(1, .int (nI (i5 + 1))), (0, .ref m0)]) hx hb dX7_digest_171 hl (k := 1) rfl (nI_1 i5) (by decide) rfl (fun ls hl => ?_)
                        refine lv_goto (tgt := 155) hx hb dX7_digest_174 (by decide) ?_
                        exact ih_155 (i5 + 1) hv2_14 (by omega) _ _ _ (hP.sub [12, 0, 1, 2, 3, 11, 4, 5, 6, 7, 8, 9, 10] rfl) (hD.sub [12, 0, 1, 2, 3, 11, 4, 5, 6, 7, 8, 9, 10] rfl rfl) hS (lv_sub hl [1, 0] rfl)
                    exact LOOP_155 8 0 he1 (by omega) _ _ _ (hP.sub [0, 1, 2, 3, 4, 5, 6, 7, 8, 9, 10, 11, 12] rfl) (hD.sub [0, 1, 2, 3, 4, 5, 6, 7, 8, 9, 10, 11, 12] rfl rfl) hS (lv_sub hl [1, 0] rfl)
                  | succ n ih_128 =>
                    intro i4 he1 hi4 H locs ls hP hD hS hl
                    refine lv_iload_n hx hb dX7_digest_128 rfl (lv_at hl 1 rfl) ?_
                    refine lv_aload_n hx hb dX7_digest_129 rfl (lv_at hl 0 rfl) ?_
                    refine va_get (D := D) (ci := 7) (v := .int (nI z)) (C := RX7) (T := TX7) (N := 27) hx hb hts iT_X7 hown hK1 hP 0 rfl rfl 0 (by decide) (hts _ t_551) (fun _ h9 => h9) rfl dX7_digest_130 ?_
                    refine lv_icmp_ge (tgt := 153) hx hb dX7_digest_133 (by decide) (fun c_15 => ?_) (fun c_15 => ?_)
                    · exact absurd c_15 (nI_ge (a := i4) (b := z) (by omega) (by omega))
                    refine lv_aload_n hx hb dX7_digest_136 rfl (lv_at hl 0 rfl) ?_
                    refine lv_aload_n hx hb dX7_digest_137 rfl (lv_at hl 0 rfl) ?_
                    refine va_get (D := D) (ci := 7) (v := .ref m1) (C := RX7) (T := TX7) (N := 27) hx hb hts iT_X7 hown hK1 hP 0 rfl rfl 1 (by decide) (hts _ t_552) (fun _ h9 => h9) rfl dX7_digest_138 ?_
                    refine lv_iload_n hx hb dX7_digest_141 rfl (lv_at hl 1 rfl) ?_
                    refine va_iald hx hb hK1 hP 12 0 rfl rfl (vp_in_nI (by omega) (by omega)) dX7_digest_142 ?_
                    refine lv_nmi (show _ = pf i4 from by rw [nI_clamp (n := i4) (by omega)]) ?_
                    refine lv_i2l (v := Int32.toInt64 (pf i4)) hx hb dX7_digest_143 rfl ?_
                    refine xc_v (wc := [kX7 m0 (nI z) m1 (nI r9) m2 m3 m4 m5 (nI n9) (nI v) m6 k1 k2 k3 k4 m7 k5 k6 k7 k8x m8 m9 m10 k9x m11 m12 m13 he1]) (wr := [kI cI m2 9 ro, kI cI m3 9 re, kI cI m4 9 rn, kI cI m5 27 rg, kI cI m6 12 ea, kI cI m8 2400 fx, kI cI m9 32 gx, kI cI m10 4 nx, kJ cJ m11 80 lx, kI cI m12 48 ax, kI cI m13 3 cx, kI cI m1 16 pf]) (xrV (n := 1) (As := [.long (Int32.toInt64 (pf i4))]) (rest := []) (ci := 7) (q0 := 0) hd hK hP hD (c_X7_mix l D cI cJ cZ cR _ m0 m1 m2 m3 m4 m5 m6 m7 m8 m9 m10 m11 m12 m13 z r9 n9 v k1 k2 k3 k4 k5 k6 k7 k8x k9x he1 (Int32.toInt64 (pf i4)) ) (gV t_863 mV_X7_mix) hV_X7_mix ⟨(Nat.le_of_ble_eq_true rfl), (Nat.le_of_ble_eq_true rfl)⟩ rfl rfl [0] rfl rfl rfl hl.1 rfl (Nat.le_of_ble_eq_true rfl) dX7_digest_144 ⟨(Nat.le_of_ble_eq_true rfl), (Nat.le_of_ble_eq_true rfl)⟩) hP hD hS hA [0] [1, 2, 3, 4, 5, 6, 7, 8, 9, 10, 11, 12] rfl rfl rfl (by decide) (fun u_17 H locs hw_18 hP hD hS => ?_)
                    obtain ⟨hv2_19, rfl⟩ : ∃ z9, z9 = u_17 := ⟨_, rfl⟩
                    have hP : va_P D vwCl [kI cI m2 9 ro, kI cI m3 9 re, kI cI m4 9 rn, kI cI m5 27 rg, kI cI m6 12 ea, kI cI m8 2400 fx, kI cI m9 32 gx, kI cI m10 4 nx, kJ cJ m11 80 lx, kI cI m12 48 ax, kI cI m13 3 cx, kI cI m1 16 pf, kX7 m0 (nI z) m1 (nI r9) m2 m3 m4 m5 (nI n9) (nI v) m6 k1 k2 k3 k4 m7 k5 k6 k7 k8x m8 m9 m10 k9x m11 m12 m13 hv2_19] H := hP
                    have hD : va_D A [kI cI m2 9 ro, kI cI m3 9 re, kI cI m4 9 rn, kI cI m5 27 rg, kI cI m6 12 ea, kI cI m8 2400 fx, kI cI m9 32 gx, kI cI m10 4 nx, kJ cJ m11 80 lx, kI cI m12 48 ax, kI cI m13 3 cx, kI cI m1 16 pf, kX7 m0 (nI z) m1 (nI r9) m2 m3 m4 m5 (nI n9) (nI v) m6 k1 k2 k3 k4 m7 k5 k6 k7 k8x m8 m9 m10 k9x m11 m12 m13 hv2_19] := hD
                    refine lv_iinc (v := nI (i4 + 1)) (lv' := [(1, .int (nI (i4 + 1))), (0, .ref m0)]) hx hb dX7_digest_147 hl (k := 1) rfl (nI_1 i4) (by decide) rfl (fun ls hl => ?_)
                    refine lv_goto (tgt := 128) hx hb dX7_digest_150 (by decide) ?_
                    exact ih_128 (i4 + 1) hv2_19 (by omega) _ _ _ (hP.sub [12, 0, 1, 2, 3, 4, 5, 6, 7, 8, 9, 10, 11] rfl) (hD.sub [12, 0, 1, 2, 3, 4, 5, 6, 7, 8, 9, 10, 11] rfl rfl) hS (lv_sub hl [1, 0] rfl)
                exact LOOP_128 z 0 hd2 (by omega) _ _ _ (hP.sub [0, 1, 2, 3, 4, 5, 6, 7, 8, 9, 10, 11, 12] rfl) (hD.sub [0, 1, 2, 3, 4, 5, 6, 7, 8, 9, 10, 11, 12] rfl rfl) hS (lv_sub hl [1, 0] rfl)
              | succ n ih_110 =>
                intro i3 k8x k9x hd2 fx gx nx lx ax cx hi3 hFx hSx hLx hOx H locs ls hP hD hS hl
                refine lv_iload_n hx hb dX7_digest_110 rfl (lv_at hl 1 rfl) ?_
                refine lv_iconst (v := 3) hx hb dX7_digest_111 (by decide) ?_
                refine lv_icmp_ge (tgt := 126) hx hb dX7_digest_112 (by decide) (fun c_20 => ?_) (fun c_20 => ?_)
                · exact absurd c_20 (nI_ge (a := i3) (b := 3) (by omega) (by omega))
                refine lv_aload_n hx hb dX7_digest_115 rfl (lv_at hl 0 rfl) ?_
                refine lv_iload_n hx hb dX7_digest_116 rfl (lv_at hl 1 rfl) ?_
                refine xc_v (wc := [kX7 m0 (nI z) m1 (nI r9) m2 m3 m4 m5 (nI n9) (nI v) m6 k1 k2 k3 k4 m7 k5 k6 k7 k8x m8 m9 m10 k9x m11 m12 m13 hd2, kI cI m2 9 ro, kI cI m3 9 re, kI cI m4 9 rn, kI cI m5 27 rg, kI cI m6 12 ea, kI cI m8 2400 fx, kI cI m9 32 gx, kI cI m10 4 nx, kJ cJ m11 80 lx, kI cI m12 48 ax, kI cI m13 3 cx]) (wr := [kI cI m1 16 pf]) (xrV (n := 1) (As := [.int (nI i3)]) (rest := []) (ci := 7) (q0 := 0) hd hK hP hD (c_X7_mixOpen l D cI cJ cZ cR _ m0 m1 m2 m3 m4 m5 m6 m7 m8 m9 m10 m11 m12 m13 z r9 n9 v k1 k2 k3 k4 k5 k6 k7 k8x k9x hd2 ro re rn rg ea fx gx nx lx ax cx i3 hr9 hmr hf hFx hSx hLx hMQ hEA hOx (by omega)) (gV t_869 mV_X7_mixOpen) hV_X7_mixOpen ⟨(Nat.le_of_ble_eq_true rfl), (Nat.le_of_ble_eq_true rfl)⟩ rfl rfl [0, 1, 2, 3, 4, 5, 6, 7, 8, 9, 10, 11] rfl rfl rfl hl.1 rfl (Nat.le_of_ble_eq_true rfl) dX7_digest_117 ⟨(Nat.le_of_ble_eq_true rfl), (Nat.le_of_ble_eq_true rfl)⟩) hP hD hS hA [0, 1, 2, 3, 4, 5, 6, 7, 8, 9, 10, 11] [12] rfl rfl rfl (by decide) (fun u_22 H locs hw_23 hP hD hS => ?_)
                obtain ⟨k8b_24, k9b_25, hv2_26, fw2_27, nf2_28, na2_29, la2_30, fa2_31, cn2_32⟩ := u_22
                obtain ⟨hw_33, hw_34, hw_35, hw_36⟩ : (FWI fw2_27) ∧ (SDn 4 na2_29) ∧ (LR la2_30) ∧ (¬ k8b_24 = 0 → MOF n9 v ea ro re rn rg r9 fw2_27) := hw_23
                have hF2 := hw_33
                have hS2 := hw_34
                have hL2 := hw_35
                have hO2 := hw_36
                have hP : va_P D vwCl [kI cI m1 16 pf, kX7 m0 (nI z) m1 (nI r9) m2 m3 m4 m5 (nI n9) (nI v) m6 k1 k2 k3 k4 m7 k5 k6 k7 k8b_24 m8 m9 m10 k9b_25 m11 m12 m13 hv2_26, kI cI m2 9 ro, kI cI m3 9 re, kI cI m4 9 rn, kI cI m5 27 rg, kI cI m6 12 ea, kI cI m8 2400 fw2_27, kI cI m9 32 nf2_28, kI cI m10 4 na2_29, kJ cJ m11 80 la2_30, kI cI m12 48 fa2_31, kI cI m13 3 cn2_32] H := hP
                have hD : va_D A [kI cI m1 16 pf, kX7 m0 (nI z) m1 (nI r9) m2 m3 m4 m5 (nI n9) (nI v) m6 k1 k2 k3 k4 m7 k5 k6 k7 k8b_24 m8 m9 m10 k9b_25 m11 m12 m13 hv2_26, kI cI m2 9 ro, kI cI m3 9 re, kI cI m4 9 rn, kI cI m5 27 rg, kI cI m6 12 ea, kI cI m8 2400 fw2_27, kI cI m9 32 nf2_28, kI cI m10 4 na2_29, kJ cJ m11 80 la2_30, kI cI m12 48 fa2_31, kI cI m13 3 cn2_32] := hD
                refine lv_iinc (v := nI (i3 + 1)) (lv' := [(1, .int (nI (i3 + 1))), (0, .ref m0)]) hx hb dX7_digest_120 hl (k := 1) rfl (nI_1 i3) (by decide) rfl (fun ls hl => ?_)
                refine lv_goto (tgt := 110) hx hb dX7_digest_123 (by decide) ?_
                exact ih_110 (i3 + 1) k8b_24 k9b_25 hv2_26 fw2_27 nf2_28 na2_29 la2_30 fa2_31 cn2_32 (by omega) hF2 hS2 hL2 hO2 _ _ _ (hP.sub [1, 2, 3, 4, 5, 6, 7, 8, 9, 10, 11, 12, 0] rfl) (hD.sub [1, 2, 3, 4, 5, 6, 7, 8, 9, 10, 11, 12, 0] rfl rfl) hS (lv_sub hl [1, 0] rfl)
            exact LOOP_110 3 0 k8 k9 hm9 fw nf na la fa cn (by omega) hFW hsd hLR hMO _ _ _ (hP.sub [0, 1, 2, 3, 4, 5, 6, 7, 8, 9, 10, 11, 12] rfl) (hD.sub [0, 1, 2, 3, 4, 5, 6, 7, 8, 9, 10, 11, 12] rfl rfl) hS (lv_sub hl [1, 0] rfl)
          refine lv_aload_n hx hb dX7_digest_86 rfl (lv_at hl 0 rfl) ?_
          refine lv_aload_n hx hb dX7_digest_87 rfl (lv_at hl 0 rfl) ?_
          refine xc_i (wc := [kX7 m0 (nI z) m1 (nI r9) m2 m3 m4 m5 (nI n9) (nI v) m6 k1 k2 k3 k4 m7 k5 k6 k7 k8 m8 m9 m10 k9 m11 m12 m13 hc1, kI cI m6 12 ea]) (wr := [kI cI m2 9 ro, kI cI m3 9 re, kI cI m4 9 rn, kI cI m5 27 rg, kI cI m8 2400 fw, kI cI m9 32 nf, kI cI m10 4 na, kJ cJ m11 80 la, kI cI m12 48 fa, kI cI m13 3 cn, kI cI m1 16 pf]) (xrV (n := 0) (As := []) (rest := [.ref m0]) (ci := 7) (q0 := 0) hd hK hP hD (c_X7_isDone l D cI cJ cZ cR _ m0 m1 m2 m3 m4 m5 m6 m7 m8 m9 m10 m11 m12 m13 z r9 n9 v k1 k2 k3 k4 k5 k6 k7 k8 k9 hc1 ea hf) (gV t_734 mV_X7_isDone) hV_X7_isDone ⟨(Nat.le_of_ble_eq_true rfl), (Nat.le_of_ble_eq_true rfl)⟩ rfl rfl [0, 5] rfl rfl rfl hl.1 rfl (Nat.le_of_ble_eq_true rfl) dX7_digest_88 ⟨(Nat.le_of_ble_eq_true rfl), (Nat.le_of_ble_eq_true rfl)⟩) hP hD hS hA [0, 5] [1, 2, 3, 4, 6, 7, 8, 9, 10, 11, 12] rfl rfl rfl (by decide) (fun r_37 u_38 H locs hw_39 hP hD hS => ?_)
          obtain ⟨hw_40, hw_41⟩ : (r_37 = (mDn ea n9)) ∧ (mDn ea n9 = 0 ∨ ¬ n9 = 0) := hw_39
          subst hw_40
          have hP : va_P D vwCl [kI cI m2 9 ro, kI cI m3 9 re, kI cI m4 9 rn, kI cI m5 27 rg, kI cI m8 2400 fw, kI cI m9 32 nf, kI cI m10 4 na, kJ cJ m11 80 la, kI cI m12 48 fa, kI cI m13 3 cn, kI cI m1 16 pf, kX7 m0 (nI z) m1 (nI r9) m2 m3 m4 m5 (nI n9) (nI v) m6 k1 k2 k3 k4 m7 k5 k6 k7 k8 m8 m9 m10 k9 m11 m12 m13 hc1, kI cI m6 12 ea] H := hP
          have hD : va_D A [kI cI m2 9 ro, kI cI m3 9 re, kI cI m4 9 rn, kI cI m5 27 rg, kI cI m8 2400 fw, kI cI m9 32 nf, kI cI m10 4 na, kJ cJ m11 80 la, kI cI m12 48 fa, kI cI m13 3 cn, kI cI m1 16 pf, kX7 m0 (nI z) m1 (nI r9) m2 m3 m4 m5 (nI n9) (nI v) m6 k1 k2 k3 k4 m7 k5 k6 k7 k8 m8 m9 m10 k9 m11 m12 m13 hc1, kI cI m6 12 ea] := hD
          refine lv_if_eq (tgt := 102) hx hb dX7_digest_91 (by decide) (fun c_42 => ?_) (fun c_42 => ?_)
          · skip
            refine lv_ldc2 hx hb hown (hts _ t_868) dX7_digest_102 ?_
            refine xc_v (wc := [kX7 m0 (nI z) m1 (nI r9) m2 m3 m4 m5 (nI n9) (nI v) m6 k1 k2 k3 k4 m7 k5 k6 k7 k8 m8 m9 m10 k9 m11 m12 m13 hc1]) (wr := [kI cI m2 9 ro, kI cI m3 9 re, kI cI m4 9 rn, kI cI m5 27 rg, kI cI m8 2400 fw, kI cI m9 32 nf, kI cI m10 4 na, kJ cJ m11 80 la, kI cI m12 48 fa, kI cI m13 3 cn, kI cI m1 16 pf, kI cI m6 12 ea]) (xrV (n := 1) (As := [.long (-1003)]) (rest := []) (ci := 7) (q0 := 11) hd hK hP hD (c_X7_mix l D cI cJ cZ cR _ m0 m1 m2 m3 m4 m5 m6 m7 m8 m9 m10 m11 m12 m13 z r9 n9 v k1 k2 k3 k4 k5 k6 k7 k8 k9 hc1 (-1003) ) (gV t_863 mV_X7_mix) hV_X7_mix ⟨(Nat.le_of_ble_eq_true rfl), (Nat.le_of_ble_eq_true rfl)⟩ rfl rfl [11] rfl rfl rfl hl.1 rfl (Nat.le_of_ble_eq_true rfl) dX7_digest_105 ⟨(Nat.le_of_ble_eq_true rfl), (Nat.le_of_ble_eq_true rfl)⟩) hP hD hS hA [11] [0, 1, 2, 3, 4, 5, 6, 7, 8, 9, 10, 12] rfl rfl rfl (by decide) (fun u_44 H locs hw_45 hP hD hS => ?_)
            obtain ⟨hv2_46, rfl⟩ : ∃ z9, z9 = u_44 := ⟨_, rfl⟩
            have hP : va_P D vwCl [kI cI m2 9 ro, kI cI m3 9 re, kI cI m4 9 rn, kI cI m5 27 rg, kI cI m8 2400 fw, kI cI m9 32 nf, kI cI m10 4 na, kJ cJ m11 80 la, kI cI m12 48 fa, kI cI m13 3 cn, kI cI m1 16 pf, kI cI m6 12 ea, kX7 m0 (nI z) m1 (nI r9) m2 m3 m4 m5 (nI n9) (nI v) m6 k1 k2 k3 k4 m7 k5 k6 k7 k8 m8 m9 m10 k9 m11 m12 m13 hv2_46] H := hP
            have hD : va_D A [kI cI m2 9 ro, kI cI m3 9 re, kI cI m4 9 rn, kI cI m5 27 rg, kI cI m8 2400 fw, kI cI m9 32 nf, kI cI m10 4 na, kJ cJ m11 80 la, kI cI m12 48 fa, kI cI m13 3 cn, kI cI m1 16 pf, kI cI m6 12 ea, kX7 m0 (nI z) m1 (nI r9) m2 m3 m4 m5 (nI n9) (nI v) m6 k1 k2 k3 k4 m7 k5 k6 k7 k8 m8 m9 m10 k9 m11 m12 m13 hv2_46] := hD
            exact CUT_108 hv2_46 _ _ _ (hP.sub [12, 0, 1, 2, 3, 11, 4, 5, 6, 7, 8, 9, 10] rfl) (hD.sub [12, 0, 1, 2, 3, 11, 4, 5, 6, 7, 8, 9, 10] rfl rfl) hS (lv_sub hl [0] rfl)
          · skip
            refine lv_aload_n hx hb dX7_digest_94 rfl (lv_at hl 0 rfl) ?_
            refine xc_i (wc := [kX7 m0 (nI z) m1 (nI r9) m2 m3 m4 m5 (nI n9) (nI v) m6 k1 k2 k3 k4 m7 k5 k6 k7 k8 m8 m9 m10 k9 m11 m12 m13 hc1, kI cI m6 12 ea]) (wr := [kI cI m2 9 ro, kI cI m3 9 re, kI cI m4 9 rn, kI cI m5 27 rg, kI cI m8 2400 fw, kI cI m9 32 nf, kI cI m10 4 na, kJ cJ m11 80 la, kI cI m12 48 fa, kI cI m13 3 cn, kI cI m1 16 pf]) (xrV (n := 0) (As := []) (rest := [.ref m0]) (ci := 7) (q0 := 11) hd hK hP hD (c_X7_kindNow l D cI cJ cZ cR _ m0 m1 m2 m3 m4 m5 m6 m7 m8 m9 m10 m11 m12 m13 z r9 n9 v k1 k2 k3 k4 k5 k6 k7 k8 k9 hc1 ea hf) (gV t_742 mV_X7_kindNow) hV_X7_kindNow ⟨(Nat.le_of_ble_eq_true rfl), (Nat.le_of_ble_eq_true rfl)⟩ rfl rfl [11, 12] rfl rfl rfl hl.1 rfl (Nat.le_of_ble_eq_true rfl) dX7_digest_95 ⟨(Nat.le_of_ble_eq_true rfl), (Nat.le_of_ble_eq_true rfl)⟩) hP hD hS hA [11, 12] [0, 1, 2, 3, 4, 5, 6, 7, 8, 9, 10] rfl rfl rfl (by decide) (fun r_47 u_48 H locs hw_49 hP hD hS => ?_)
            have hw_50 : MKd ea n9 v r_47 := hw_49
            have hP : va_P D vwCl [kI cI m2 9 ro, kI cI m3 9 re, kI cI m4 9 rn, kI cI m5 27 rg, kI cI m8 2400 fw, kI cI m9 32 nf, kI cI m10 4 na, kJ cJ m11 80 la, kI cI m12 48 fa, kI cI m13 3 cn, kI cI m1 16 pf, kX7 m0 (nI z) m1 (nI r9) m2 m3 m4 m5 (nI n9) (nI v) m6 k1 k2 k3 k4 m7 k5 k6 k7 k8 m8 m9 m10 k9 m11 m12 m13 hc1, kI cI m6 12 ea] H := hP
            have hD : va_D A [kI cI m2 9 ro, kI cI m3 9 re, kI cI m4 9 rn, kI cI m5 27 rg, kI cI m8 2400 fw, kI cI m9 32 nf, kI cI m10 4 na, kJ cJ m11 80 la, kI cI m12 48 fa, kI cI m13 3 cn, kI cI m1 16 pf, kX7 m0 (nI z) m1 (nI r9) m2 m3 m4 m5 (nI n9) (nI v) m6 k1 k2 k3 k4 m7 k5 k6 k7 k8 m8 m9 m10 k9 m11 m12 m13 hc1, kI cI m6 12 ea] := hD
            refine lv_i2l (v := Int32.toInt64 r_47) hx hb dX7_digest_98 rfl ?_
            refine lv_goto (tgt := 105) hx hb dX7_digest_99 (by decide) ?_
            refine xc_v (wc := [kX7 m0 (nI z) m1 (nI r9) m2 m3 m4 m5 (nI n9) (nI v) m6 k1 k2 k3 k4 m7 k5 k6 k7 k8 m8 m9 m10 k9 m11 m12 m13 hc1]) (wr := [kI cI m2 9 ro, kI cI m3 9 re, kI cI m4 9 rn, kI cI m5 27 rg, kI cI m8 2400 fw, kI cI m9 32 nf, kI cI m10 4 na, kJ cJ m11 80 la, kI cI m12 48 fa, kI cI m13 3 cn, kI cI m1 16 pf, kI cI m6 12 ea]) (xrV (n := 1) (As := [.long (Int32.toInt64 r_47)]) (rest := []) (ci := 7) (q0 := 11) hd hK hP hD (c_X7_mix l D cI cJ cZ cR _ m0 m1 m2 m3 m4 m5 m6 m7 m8 m9 m10 m11 m12 m13 z r9 n9 v k1 k2 k3 k4 k5 k6 k7 k8 k9 hc1 (Int32.toInt64 r_47) ) (gV t_863 mV_X7_mix) hV_X7_mix ⟨(Nat.le_of_ble_eq_true rfl), (Nat.le_of_ble_eq_true rfl)⟩ rfl rfl [11] rfl rfl rfl hl.1 rfl (Nat.le_of_ble_eq_true rfl) dX7_digest_105 ⟨(Nat.le_of_ble_eq_true rfl), (Nat.le_of_ble_eq_true rfl)⟩) hP hD hS hA [11] [0, 1, 2, 3, 4, 5, 6, 7, 8, 9, 10, 12] rfl rfl rfl (by decide) (fun u_52 H locs hw_53 hP hD hS => ?_)
            obtain ⟨hv2_54, rfl⟩ : ∃ z9, z9 = u_52 := ⟨_, rfl⟩
            have hP : va_P D vwCl [kI cI m2 9 ro, kI cI m3 9 re, kI cI m4 9 rn, kI cI m5 27 rg, kI cI m8 2400 fw, kI cI m9 32 nf, kI cI m10 4 na, kJ cJ m11 80 la, kI cI m12 48 fa, kI cI m13 3 cn, kI cI m1 16 pf, kI cI m6 12 ea, kX7 m0 (nI z) m1 (nI r9) m2 m3 m4 m5 (nI n9) (nI v) m6 k1 k2 k3 k4 m7 k5 k6 k7 k8 m8 m9 m10 k9 m11 m12 m13 hv2_54] H := hP
            have hD : va_D A [kI cI m2 9 ro, kI cI m3 9 re, kI cI m4 9 rn, kI cI m5 27 rg, kI cI m8 2400 fw, kI cI m9 32 nf, kI cI m10 4 na, kJ cJ m11 80 la, kI cI m12 48 fa, kI cI m13 3 cn, kI cI m1 16 pf, kI cI m6 12 ea, kX7 m0 (nI z) m1 (nI r9) m2 m3 m4 m5 (nI n9) (nI v) m6 k1 k2 k3 k4 m7 k5 k6 k7 k8 m8 m9 m10 k9 m11 m12 m13 hv2_54] := hD
            exact CUT_108 hv2_54 _ _ _ (hP.sub [12, 0, 1, 2, 3, 11, 4, 5, 6, 7, 8, 9, 10] rfl) (hD.sub [12, 0, 1, 2, 3, 11, 4, 5, 6, 7, 8, 9, 10] rfl rfl) hS (lv_sub hl [0] rfl)
        | succ n ih_61 =>
          intro i2 hc1 hi2 H locs ls hP hD hS hl
          refine lv_iload_n hx hb dX7_digest_61 rfl (lv_at hl 1 rfl) ?_
          refine lv_aload_n hx hb dX7_digest_62 rfl (lv_at hl 0 rfl) ?_
          refine va_get (D := D) (ci := 7) (v := .int (nI n9)) (C := RX7) (T := TX7) (N := 27) hx hb hts iT_X7 hown hK1 hP 0 rfl rfl 7 (by decide) (hts _ t_558) (fun _ h9 => h9) rfl dX7_digest_63 ?_
          refine lv_icmp_ge (tgt := 86) hx hb dX7_digest_66 (by decide) (fun c_55 => ?_) (fun c_55 => ?_)
          · exact absurd c_55 (nI_ge (a := i2) (b := n9) (by omega) (by omega))
          refine lv_aload_n hx hb dX7_digest_69 rfl (lv_at hl 0 rfl) ?_
          refine lv_aload_n hx hb dX7_digest_70 rfl (lv_at hl 0 rfl) ?_
          refine va_get (D := D) (ci := 7) (v := .ref m6) (C := RX7) (T := TX7) (N := 27) hx hb hts iT_X7 hown hK1 hP 0 rfl rfl 9 (by decide) (hts _ t_560) (fun _ h9 => h9) rfl dX7_digest_71 ?_
          refine lv_iload_n hx hb dX7_digest_74 rfl (lv_at hl 1 rfl) ?_
          refine va_iald hx hb hK1 hP 5 0 rfl rfl (vp_in_nI (by omega) (by omega)) dX7_digest_75 ?_
          refine lv_nmi (show _ = ea i2 from by rw [nI_clamp (n := i2) (by omega)]) ?_
          refine lv_i2l (v := Int32.toInt64 (ea i2)) hx hb dX7_digest_76 rfl ?_
          refine xc_v (wc := [kX7 m0 (nI z) m1 (nI r9) m2 m3 m4 m5 (nI n9) (nI v) m6 k1 k2 k3 k4 m7 k5 k6 k7 k8 m8 m9 m10 k9 m11 m12 m13 hc1]) (wr := [kI cI m2 9 ro, kI cI m3 9 re, kI cI m4 9 rn, kI cI m5 27 rg, kI cI m6 12 ea, kI cI m8 2400 fw, kI cI m9 32 nf, kI cI m10 4 na, kJ cJ m11 80 la, kI cI m12 48 fa, kI cI m13 3 cn, kI cI m1 16 pf]) (xrV (n := 1) (As := [.long (Int32.toInt64 (ea i2))]) (rest := []) (ci := 7) (q0 := 0) hd hK hP hD (c_X7_mix l D cI cJ cZ cR _ m0 m1 m2 m3 m4 m5 m6 m7 m8 m9 m10 m11 m12 m13 z r9 n9 v k1 k2 k3 k4 k5 k6 k7 k8 k9 hc1 (Int32.toInt64 (ea i2)) ) (gV t_863 mV_X7_mix) hV_X7_mix ⟨(Nat.le_of_ble_eq_true rfl), (Nat.le_of_ble_eq_true rfl)⟩ rfl rfl [0] rfl rfl rfl hl.1 rfl (Nat.le_of_ble_eq_true rfl) dX7_digest_77 ⟨(Nat.le_of_ble_eq_true rfl), (Nat.le_of_ble_eq_true rfl)⟩) hP hD hS hA [0] [1, 2, 3, 4, 5, 6, 7, 8, 9, 10, 11, 12] rfl rfl rfl (by decide) (fun u_57 H locs hw_58 hP hD hS => ?_)
          obtain ⟨hv2_59, rfl⟩ : ∃ z9, z9 = u_57 := ⟨_, rfl⟩
          have hP : va_P D vwCl [kI cI m2 9 ro, kI cI m3 9 re, kI cI m4 9 rn, kI cI m5 27 rg, kI cI m6 12 ea, kI cI m8 2400 fw, kI cI m9 32 nf, kI cI m10 4 na, kJ cJ m11 80 la, kI cI m12 48 fa, kI cI m13 3 cn, kI cI m1 16 pf, kX7 m0 (nI z) m1 (nI r9) m2 m3 m4 m5 (nI n9) (nI v) m6 k1 k2 k3 k4 m7 k5 k6 k7 k8 m8 m9 m10 k9 m11 m12 m13 hv2_59] H := hP
          have hD : va_D A [kI cI m2 9 ro, kI cI m3 9 re, kI cI m4 9 rn, kI cI m5 27 rg, kI cI m6 12 ea, kI cI m8 2400 fw, kI cI m9 32 nf, kI cI m10 4 na, kJ cJ m11 80 la, kI cI m12 48 fa, kI cI m13 3 cn, kI cI m1 16 pf, kX7 m0 (nI z) m1 (nI r9) m2 m3 m4 m5 (nI n9) (nI v) m6 k1 k2 k3 k4 m7 k5 k6 k7 k8 m8 m9 m10 k9 m11 m12 m13 hv2_59] := hD
          refine lv_iinc (v := nI (i2 + 1)) (lv' := [(1, .int (nI (i2 + 1))), (0, .ref m0)]) hx hb dX7_digest_80 hl (k := 1) rfl (nI_1 i2) (by decide) rfl (fun ls hl => ?_)
          refine lv_goto (tgt := 61) hx hb dX7_digest_83 (by decide) ?_
          exact ih_61 (i2 + 1) hv2_59 (by omega) _ _ _ (hP.sub [12, 0, 1, 2, 3, 4, 5, 6, 7, 8, 9, 10, 11] rfl) (hD.sub [12, 0, 1, 2, 3, 4, 5, 6, 7, 8, 9, 10, 11] rfl rfl) hS (lv_sub hl [1, 0] rfl)
      exact LOOP_61 n9 0 ha1 (by omega) _ _ _ (hP.sub [0, 1, 2, 3, 4, 5, 6, 7, 8, 9, 10, 11, 12] rfl) (hD.sub [0, 1, 2, 3, 4, 5, 6, 7, 8, 9, 10, 11, 12] rfl rfl) hS (lv_sub hl [1, 0] rfl)
    | succ n ih_9 =>
      intro i ha1 hi H locs ls hP hD hS hl
      refine lv_iload_n hx hb dX7_digest_9 rfl (lv_at hl 1 rfl) ?_
      refine lv_aload_n hx hb dX7_digest_10 rfl (lv_at hl 0 rfl) ?_
      refine va_get (D := D) (ci := 7) (v := .int (nI r9)) (C := RX7) (T := TX7) (N := 27) hx hb hts iT_X7 hown hK1 hP 0 rfl rfl 2 (by decide) (hts _ t_553) (fun _ h9 => h9) rfl dX7_digest_11 ?_
      refine lv_icmp_ge (tgt := 59) hx hb dX7_digest_14 (by decide) (fun c_60 => ?_) (fun c_60 => ?_)
      · exact absurd c_60 (nI_ge (a := i) (b := r9) (by omega) (by omega))
      refine lv_iconst (v := 0) hx hb dX7_digest_17 (by decide) ?_
      refine lv_istore_n (lv' := [(2, .int 0), (0, .ref m0), (1, .int (nI i))]) hx hb dX7_digest_18 rfl hl (by decide) rfl (fun ls hl => ?_)
      have LOOP_19 : ∀ (n : Nat) (w : Nat) (hb1 : Int64), (w + n = 13) → ∀ (H : Heap) (locs : List Loc) (ls : Array Slot), va_P D vwCl [kX7 m0 (nI z) m1 (nI r9) m2 m3 m4 m5 (nI n9) (nI v) m6 k1 k2 k3 k4 m7 k5 k6 k7 k8 m8 m9 m10 k9 m11 m12 m13 hb1, kI cI m2 9 ro, kI cI m3 9 re, kI cI m4 9 rn, kI cI m5 27 rg, kI cI m6 12 ea, kI cI m8 2400 fw, kI cI m9 32 nf, kI cI m10 4 na, kJ cJ m11 80 la, kI cI m12 48 fa, kI cI m13 3 cn, kI cI m1 16 pf] H → va_D A [kX7 m0 (nI z) m1 (nI r9) m2 m3 m4 m5 (nI n9) (nI v) m6 k1 k2 k3 k4 m7 k5 k6 k7 k8 m8 m9 m10 k9 m11 m12 m13 hb1, kI cI m2 9 ro, kI cI m3 9 re, kI cI m4 9 rn, kI cI m5 27 rg, kI cI m6 12 ea, kI cI m8 2400 fw, kI cI m9 32 nf, kI cI m10 4 na, kJ cJ m11 80 la, kI cI m12 48 fa, kI cI m13 3 cn, kI cI m1 16 pf] → va_S A s.heap H locs → lv_has ls 3 [(0, .ref m0), (1, .int (nI i)), (2, .int (nI w))] → W p l e (rM 10 0 0 248) s m ([.ref m0] : List Value).toArray below meth c H locs 0 0 Q (F0 m 19 ls []) := by
        intro n
        induction n with
        | zero =>
          intro w hb1 hw H locs ls hP hD hS hl
          refine lv_iload_n hx hb dX7_digest_19 rfl (lv_at hl 2 rfl) ?_
          refine lv_bipush (v := 13) hx hb dX7_digest_20 (by decide) ?_
          refine lv_icmp_ge (tgt := 53) hx hb dX7_digest_22 (by decide) (fun c_61 => ?_) (fun c_61 => ?_)
          rotate_left
          · exact absurd (nI_le (a := 13) (b := w) (by omega) (by omega)) c_61
          refine lv_iinc (v := nI (i + 1)) (lv' := [(1, .int (nI (i + 1))), (0, .ref m0), (2, .int (nI w))]) hx hb dX7_digest_53 hl (k := 1) rfl (nI_1 i) (by decide) rfl (fun ls hl => ?_)
          refine lv_goto (tgt := 9) hx hb dX7_digest_56 (by decide) ?_
          exact ih_9 (i + 1) hb1 (by omega) _ _ _ (hP.sub [0, 1, 2, 3, 4, 5, 6, 7, 8, 9, 10, 11, 12] rfl) (hD.sub [0, 1, 2, 3, 4, 5, 6, 7, 8, 9, 10, 11, 12] rfl rfl) hS (lv_sub hl [1, 0] rfl)
        | succ n ih_19 =>
          intro w hb1 hw H locs ls hP hD hS hl
          refine lv_iload_n hx hb dX7_digest_19 rfl (lv_at hl 2 rfl) ?_
          refine lv_bipush (v := 13) hx hb dX7_digest_20 (by decide) ?_
          refine lv_icmp_ge (tgt := 53) hx hb dX7_digest_22 (by decide) (fun c_62 => ?_) (fun c_62 => ?_)
          · exact absurd c_62 (nI_ge (a := w) (b := 13) (by omega) (by omega))
          refine lv_iload_n hx hb dX7_digest_25 rfl (lv_at hl 2 rfl) ?_
          refine lv_iconst (v := 3) hx hb dX7_digest_26 (by decide) ?_
          refine lv_icmp_lt (tgt := 36) hx hb dX7_digest_27 (by decide) (fun c_63 => ?_) (fun c_63 => ?_)
          · skip
            refine lv_aload_n hx hb dX7_digest_36 rfl (lv_at hl 0 rfl) ?_
            refine lv_aload_n hx hb dX7_digest_37 rfl (lv_at hl 0 rfl) ?_
            refine lv_iload_n hx hb dX7_digest_38 rfl (lv_at hl 1 rfl) ?_
            refine lv_iload_n hx hb dX7_digest_39 rfl (lv_at hl 2 rfl) ?_
            refine xc_i (wc := [kX7 m0 (nI z) m1 (nI r9) m2 m3 m4 m5 (nI n9) (nI v) m6 k1 k2 k3 k4 m7 k5 k6 k7 k8 m8 m9 m10 k9 m11 m12 m13 hb1, kI cI m2 9 ro, kI cI m3 9 re, kI cI m4 9 rn, kI cI m5 27 rg]) (wr := [kI cI m6 12 ea, kI cI m8 2400 fw, kI cI m9 32 nf, kI cI m10 4 na, kJ cJ m11 80 la, kI cI m12 48 fa, kI cI m13 3 cn, kI cI m1 16 pf]) (xrV (n := 2) (As := [.int (nI i), .int (nI w)]) (rest := [.ref m0]) (ci := 7) (q0 := 0) hd hK hP hD (c_X7_ruleNow l D cI cJ cZ cR _ m0 m1 m2 m3 m4 m5 m6 m7 m8 m9 m10 m11 m12 m13 z r9 n9 v k1 k2 k3 k4 k5 k6 k7 k8 k9 hb1 ro re rn rg i w (by omega) (Or.inl (ltN (a := w) (b := 3) (by decide) (by omega) c_63))) (gV t_697 mV_X7_ruleNow) hV_X7_ruleNow ⟨(Nat.le_of_ble_eq_true rfl), (Nat.le_of_ble_eq_true rfl)⟩ rfl rfl [0, 1, 2, 3, 4] rfl rfl rfl hl.1 rfl (Nat.le_of_ble_eq_true rfl) dX7_digest_40 ⟨(Nat.le_of_ble_eq_true rfl), (Nat.le_of_ble_eq_true rfl)⟩) hP hD hS hA [0, 1, 2, 3, 4] [5, 6, 7, 8, 9, 10, 11, 12] rfl rfl rfl (by decide) (fun r_64 u_65 H locs hw_66 hP hD hS => ?_)
            have hw_67 : r_64 = (rnow ro re rn rg i w) := hw_66
            subst hw_67
            have hP : va_P D vwCl [kI cI m6 12 ea, kI cI m8 2400 fw, kI cI m9 32 nf, kI cI m10 4 na, kJ cJ m11 80 la, kI cI m12 48 fa, kI cI m13 3 cn, kI cI m1 16 pf, kX7 m0 (nI z) m1 (nI r9) m2 m3 m4 m5 (nI n9) (nI v) m6 k1 k2 k3 k4 m7 k5 k6 k7 k8 m8 m9 m10 k9 m11 m12 m13 hb1, kI cI m2 9 ro, kI cI m3 9 re, kI cI m4 9 rn, kI cI m5 27 rg] H := hP
            have hD : va_D A [kI cI m6 12 ea, kI cI m8 2400 fw, kI cI m9 32 nf, kI cI m10 4 na, kJ cJ m11 80 la, kI cI m12 48 fa, kI cI m13 3 cn, kI cI m1 16 pf, kX7 m0 (nI z) m1 (nI r9) m2 m3 m4 m5 (nI n9) (nI v) m6 k1 k2 k3 k4 m7 k5 k6 k7 k8 m8 m9 m10 k9 m11 m12 m13 hb1, kI cI m2 9 ro, kI cI m3 9 re, kI cI m4 9 rn, kI cI m5 27 rg] := hD
            refine lv_i2l (v := Int32.toInt64 (rnow ro re rn rg i w)) hx hb dX7_digest_43 rfl ?_
            refine xc_v (wc := [kX7 m0 (nI z) m1 (nI r9) m2 m3 m4 m5 (nI n9) (nI v) m6 k1 k2 k3 k4 m7 k5 k6 k7 k8 m8 m9 m10 k9 m11 m12 m13 hb1]) (wr := [kI cI m6 12 ea, kI cI m8 2400 fw, kI cI m9 32 nf, kI cI m10 4 na, kJ cJ m11 80 la, kI cI m12 48 fa, kI cI m13 3 cn, kI cI m1 16 pf, kI cI m2 9 ro, kI cI m3 9 re, kI cI m4 9 rn, kI cI m5 27 rg]) (xrV (n := 1) (As := [.long (Int32.toInt64 (rnow ro re rn rg i w))]) (rest := []) (ci := 7) (q0 := 8) hd hK hP hD (c_X7_mix l D cI cJ cZ cR _ m0 m1 m2 m3 m4 m5 m6 m7 m8 m9 m10 m11 m12 m13 z r9 n9 v k1 k2 k3 k4 k5 k6 k7 k8 k9 hb1 (Int32.toInt64 (rnow ro re rn rg i w)) ) (gV t_863 mV_X7_mix) hV_X7_mix ⟨(Nat.le_of_ble_eq_true rfl), (Nat.le_of_ble_eq_true rfl)⟩ rfl rfl [8] rfl rfl rfl hl.1 rfl (Nat.le_of_ble_eq_true rfl) dX7_digest_44 ⟨(Nat.le_of_ble_eq_true rfl), (Nat.le_of_ble_eq_true rfl)⟩) hP hD hS hA [8] [0, 1, 2, 3, 4, 5, 6, 7, 9, 10, 11, 12] rfl rfl rfl (by decide) (fun u_69 H locs hw_70 hP hD hS => ?_)
            obtain ⟨hv2_71, rfl⟩ : ∃ z9, z9 = u_69 := ⟨_, rfl⟩
            have hP : va_P D vwCl [kI cI m6 12 ea, kI cI m8 2400 fw, kI cI m9 32 nf, kI cI m10 4 na, kJ cJ m11 80 la, kI cI m12 48 fa, kI cI m13 3 cn, kI cI m1 16 pf, kI cI m2 9 ro, kI cI m3 9 re, kI cI m4 9 rn, kI cI m5 27 rg, kX7 m0 (nI z) m1 (nI r9) m2 m3 m4 m5 (nI n9) (nI v) m6 k1 k2 k3 k4 m7 k5 k6 k7 k8 m8 m9 m10 k9 m11 m12 m13 hv2_71] H := hP
            have hD : va_D A [kI cI m6 12 ea, kI cI m8 2400 fw, kI cI m9 32 nf, kI cI m10 4 na, kJ cJ m11 80 la, kI cI m12 48 fa, kI cI m13 3 cn, kI cI m1 16 pf, kI cI m2 9 ro, kI cI m3 9 re, kI cI m4 9 rn, kI cI m5 27 rg, kX7 m0 (nI z) m1 (nI r9) m2 m3 m4 m5 (nI n9) (nI v) m6 k1 k2 k3 k4 m7 k5 k6 k7 k8 m8 m9 m10 k9 m11 m12 m13 hv2_71] := hD
            refine lv_iinc (v := nI (w + 1)) (lv' := [(2, .int (nI (w + 1))), (0, .ref m0), (1, .int (nI i))]) hx hb dX7_digest_47 hl (k := 2) rfl (nI_1 w) (by decide) rfl (fun ls hl => ?_)
            refine lv_goto (tgt := 19) hx hb dX7_digest_50 (by decide) ?_
            exact ih_19 (w + 1) hv2_71 (by omega) _ _ _ (hP.sub [12, 8, 9, 10, 11, 0, 1, 2, 3, 4, 5, 6, 7] rfl) (hD.sub [12, 8, 9, 10, 11, 0, 1, 2, 3, 4, 5, 6, 7] rfl rfl) hS (lv_sub hl [1, 2, 0] rfl)
          · skip
            refine lv_iload_n hx hb dX7_digest_30 rfl (lv_at hl 2 rfl) ?_
            refine lv_bipush (v := 9) hx hb dX7_digest_31 (by decide) ?_
            refine lv_icmp_le (tgt := 47) hx hb dX7_digest_33 (by decide) (fun c_72 => ?_) (fun c_72 => ?_)
            · skip
              refine lv_iinc (v := nI (w + 1)) (lv' := [(2, .int (nI (w + 1))), (0, .ref m0), (1, .int (nI i))]) hx hb dX7_digest_47 hl (k := 2) rfl (nI_1 w) (by decide) rfl (fun ls hl => ?_)
              refine lv_goto (tgt := 19) hx hb dX7_digest_50 (by decide) ?_
              exact ih_19 (w + 1) hb1 (by omega) _ _ _ (hP.sub [0, 1, 2, 3, 4, 5, 6, 7, 8, 9, 10, 11, 12] rfl) (hD.sub [0, 1, 2, 3, 4, 5, 6, 7, 8, 9, 10, 11, 12] rfl rfl) hS (lv_sub hl [1, 2, 0] rfl)
            · skip
              refine lv_aload_n hx hb dX7_digest_36 rfl (lv_at hl 0 rfl) ?_
              refine lv_aload_n hx hb dX7_digest_37 rfl (lv_at hl 0 rfl) ?_
              refine lv_iload_n hx hb dX7_digest_38 rfl (lv_at hl 1 rfl) ?_
              refine lv_iload_n hx hb dX7_digest_39 rfl (lv_at hl 2 rfl) ?_
              refine xc_i (wc := [kX7 m0 (nI z) m1 (nI r9) m2 m3 m4 m5 (nI n9) (nI v) m6 k1 k2 k3 k4 m7 k5 k6 k7 k8 m8 m9 m10 k9 m11 m12 m13 hb1, kI cI m2 9 ro, kI cI m3 9 re, kI cI m4 9 rn, kI cI m5 27 rg]) (wr := [kI cI m6 12 ea, kI cI m8 2400 fw, kI cI m9 32 nf, kI cI m10 4 na, kJ cJ m11 80 la, kI cI m12 48 fa, kI cI m13 3 cn, kI cI m1 16 pf]) (xrV (n := 2) (As := [.int (nI i), .int (nI w)]) (rest := [.ref m0]) (ci := 7) (q0 := 0) hd hK hP hD (c_X7_ruleNow l D cI cJ cZ cR _ m0 m1 m2 m3 m4 m5 m6 m7 m8 m9 m10 m11 m12 m13 z r9 n9 v k1 k2 k3 k4 k5 k6 k7 k8 k9 hb1 ro re rn rg i w (by omega) (Or.inr ⟨by have := nleN (a := w) (b := 9) (by decide) (by omega) c_72; omega, by omega⟩)) (gV t_697 mV_X7_ruleNow) hV_X7_ruleNow ⟨(Nat.le_of_ble_eq_true rfl), (Nat.le_of_ble_eq_true rfl)⟩ rfl rfl [0, 1, 2, 3, 4] rfl rfl rfl hl.1 rfl (Nat.le_of_ble_eq_true rfl) dX7_digest_40 ⟨(Nat.le_of_ble_eq_true rfl), (Nat.le_of_ble_eq_true rfl)⟩) hP hD hS hA [0, 1, 2, 3, 4] [5, 6, 7, 8, 9, 10, 11, 12] rfl rfl rfl (by decide) (fun r_73 u_74 H locs hw_75 hP hD hS => ?_)
              have hw_76 : r_73 = (rnow ro re rn rg i w) := hw_75
              subst hw_76
              have hP : va_P D vwCl [kI cI m6 12 ea, kI cI m8 2400 fw, kI cI m9 32 nf, kI cI m10 4 na, kJ cJ m11 80 la, kI cI m12 48 fa, kI cI m13 3 cn, kI cI m1 16 pf, kX7 m0 (nI z) m1 (nI r9) m2 m3 m4 m5 (nI n9) (nI v) m6 k1 k2 k3 k4 m7 k5 k6 k7 k8 m8 m9 m10 k9 m11 m12 m13 hb1, kI cI m2 9 ro, kI cI m3 9 re, kI cI m4 9 rn, kI cI m5 27 rg] H := hP
              have hD : va_D A [kI cI m6 12 ea, kI cI m8 2400 fw, kI cI m9 32 nf, kI cI m10 4 na, kJ cJ m11 80 la, kI cI m12 48 fa, kI cI m13 3 cn, kI cI m1 16 pf, kX7 m0 (nI z) m1 (nI r9) m2 m3 m4 m5 (nI n9) (nI v) m6 k1 k2 k3 k4 m7 k5 k6 k7 k8 m8 m9 m10 k9 m11 m12 m13 hb1, kI cI m2 9 ro, kI cI m3 9 re, kI cI m4 9 rn, kI cI m5 27 rg] := hD
              refine lv_i2l (v := Int32.toInt64 (rnow ro re rn rg i w)) hx hb dX7_digest_43 rfl ?_
              refine xc_v (wc := [kX7 m0 (nI z) m1 (nI r9) m2 m3 m4 m5 (nI n9) (nI v) m6 k1 k2 k3 k4 m7 k5 k6 k7 k8 m8 m9 m10 k9 m11 m12 m13 hb1]) (wr := [kI cI m6 12 ea, kI cI m8 2400 fw, kI cI m9 32 nf, kI cI m10 4 na, kJ cJ m11 80 la, kI cI m12 48 fa, kI cI m13 3 cn, kI cI m1 16 pf, kI cI m2 9 ro, kI cI m3 9 re, kI cI m4 9 rn, kI cI m5 27 rg]) (xrV (n := 1) (As := [.long (Int32.toInt64 (rnow ro re rn rg i w))]) (rest := []) (ci := 7) (q0 := 8) hd hK hP hD (c_X7_mix l D cI cJ cZ cR _ m0 m1 m2 m3 m4 m5 m6 m7 m8 m9 m10 m11 m12 m13 z r9 n9 v k1 k2 k3 k4 k5 k6 k7 k8 k9 hb1 (Int32.toInt64 (rnow ro re rn rg i w)) ) (gV t_863 mV_X7_mix) hV_X7_mix ⟨(Nat.le_of_ble_eq_true rfl), (Nat.le_of_ble_eq_true rfl)⟩ rfl rfl [8] rfl rfl rfl hl.1 rfl (Nat.le_of_ble_eq_true rfl) dX7_digest_44 ⟨(Nat.le_of_ble_eq_true rfl), (Nat.le_of_ble_eq_true rfl)⟩) hP hD hS hA [8] [0, 1, 2, 3, 4, 5, 6, 7, 9, 10, 11, 12] rfl rfl rfl (by decide) (fun u_78 H locs hw_79 hP hD hS => ?_)
              obtain ⟨hv2_80, rfl⟩ : ∃ z9, z9 = u_78 := ⟨_, rfl⟩
              have hP : va_P D vwCl [kI cI m6 12 ea, kI cI m8 2400 fw, kI cI m9 32 nf, kI cI m10 4 na, kJ cJ m11 80 la, kI cI m12 48 fa, kI cI m13 3 cn, kI cI m1 16 pf, kI cI m2 9 ro, kI cI m3 9 re, kI cI m4 9 rn, kI cI m5 27 rg, kX7 m0 (nI z) m1 (nI r9) m2 m3 m4 m5 (nI n9) (nI v) m6 k1 k2 k3 k4 m7 k5 k6 k7 k8 m8 m9 m10 k9 m11 m12 m13 hv2_80] H := hP
              have hD : va_D A [kI cI m6 12 ea, kI cI m8 2400 fw, kI cI m9 32 nf, kI cI m10 4 na, kJ cJ m11 80 la, kI cI m12 48 fa, kI cI m13 3 cn, kI cI m1 16 pf, kI cI m2 9 ro, kI cI m3 9 re, kI cI m4 9 rn, kI cI m5 27 rg, kX7 m0 (nI z) m1 (nI r9) m2 m3 m4 m5 (nI n9) (nI v) m6 k1 k2 k3 k4 m7 k5 k6 k7 k8 m8 m9 m10 k9 m11 m12 m13 hv2_80] := hD
              refine lv_iinc (v := nI (w + 1)) (lv' := [(2, .int (nI (w + 1))), (0, .ref m0), (1, .int (nI i))]) hx hb dX7_digest_47 hl (k := 2) rfl (nI_1 w) (by decide) rfl (fun ls hl => ?_)
              refine lv_goto (tgt := 19) hx hb dX7_digest_50 (by decide) ?_
              exact ih_19 (w + 1) hv2_80 (by omega) _ _ _ (hP.sub [12, 8, 9, 10, 11, 0, 1, 2, 3, 4, 5, 6, 7] rfl) (hD.sub [12, 8, 9, 10, 11, 0, 1, 2, 3, 4, 5, 6, 7] rfl rfl) hS (lv_sub hl [1, 2, 0] rfl)
      exact LOOP_19 13 0 ha1 (by omega) _ _ _ (hP.sub [0, 1, 2, 3, 4, 5, 6, 7, 8, 9, 10, 11, 12] rfl) (hD.sub [0, 1, 2, 3, 4, 5, 6, 7, 8, 9, 10, 11, 12] rfl rfl) hS (lv_sub hl [1, 2, 0] rfl)
  exact LOOP_9 r9 0 1709 (by omega) _ _ _ (hP.sub [0, 1, 2, 3, 4, 5, 6, 7, 8, 9, 10, 11, 12] rfl) (hD.sub [0, 1, 2, 3, 4, 5, 6, 7, 8, 9, 10, 11, 12] rfl rfl) hS (lv_sub hl [1, 0] rfl)
end
