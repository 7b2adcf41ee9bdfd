theorem mS_X2_at : Cond.static yX2_at ∈ gT ∧ Cond.initialized yX2_at.cls ∈ gT ∧ Cond.code yX2_at cX2_at 4 (some .int) ∈ gT := ⟨t_411, t_6, t_412⟩
theorem hS_X2_at : yX2_at.cls ≠ "java/lang/invoke/MethodHandle" ∧ yX2_at.cls ≠ "java/lang/invoke/VarHandle" ∧ (parseMethodDescriptor yX2_at.desc).map (fun d => d.parameters.length) = some 4 := by decide +kernel
theorem mV_X2_ofWhole : Cond.instanceMethod yX2_ofWhole ∈ gT ∧ Cond.selects RX2 yX2_ofWhole yX2_ofWhole ∈ gT ∧ Cond.initialized RX2 ∈ gT ∧ Cond.code yX2_ofWhole cX2_ofWhole 3 (some .int) ∈ gT := ⟨t_442, t_443, t_6, t_444⟩
theorem hV_X2_ofWhole : yX2_ofWhole.cls = RX2 ∧ yX2_ofWhole.cls ≠ "java/lang/invoke/MethodHandle" ∧ yX2_ofWhole.cls ≠ "java/lang/invoke/VarHandle" ∧ (parseMethodDescriptor yX2_ofWhole.desc).map (fun d => d.parameters.length) = some 2 := by decide +kernel
theorem mV_X2_lower : Cond.instanceMethod yX2_lower ∈ gT ∧ Cond.selects RX2 yX2_lower yX2_lower ∈ gT ∧ Cond.initialized RX2 ∈ gT ∧ Cond.code yX2_lower cX2_lower 3 (some .boolean) ∈ gT := ⟨t_439, ts_17, t_6, t_440⟩
theorem hV_X2_lower : yX2_lower.cls = RX2 ∧ yX2_lower.cls ≠ "java/lang/invoke/MethodHandle" ∧ yX2_lower.cls ≠ "java/lang/invoke/VarHandle" ∧ (parseMethodDescriptor yX2_lower.desc).map (fun d => d.parameters.length) = some 2 := by decide +kernel
theorem mV_X2_standsApart : Cond.instanceMethod yX2_standsApart ∈ gT ∧ Cond.selects RX2 yX2_standsApart yX2_standsApart ∈ gT ∧ Cond.initialized RX2 ∈ gT ∧ Cond.code yX2_standsApart cX2_standsApart 4 (some .boolean) ∈ gT := ⟨t_419, ts_14, t_6, t_420⟩
theorem hV_X2_standsApart : yX2_standsApart.cls = RX2 ∧ yX2_standsApart.cls ≠ "java/lang/invoke/MethodHandle" ∧ yX2_standsApart.cls ≠ "java/lang/invoke/VarHandle" ∧ (parseMethodDescriptor yX2_standsApart.desc).map (fun d => d.parameters.length) = some 1 := by decide +kernel
theorem mV_X2_bySlot : Cond.instanceMethod yX2_bySlot ∈ gT ∧ Cond.selects RX2 yX2_bySlot yX2_bySlot ∈ gT ∧ Cond.initialized RX2 ∈ gT ∧ Cond.code yX2_bySlot cX2_bySlot 8 (some .int) ∈ gT := ⟨t_427, ts_16, t_6, t_428⟩
theorem hV_X2_bySlot : yX2_bySlot.cls = RX2 ∧ yX2_bySlot.cls ≠ "java/lang/invoke/MethodHandle" ∧ yX2_bySlot.cls ≠ "java/lang/invoke/VarHandle" ∧ (parseMethodDescriptor yX2_bySlot.desc).map (fun d => d.parameters.length) = some 4 := by decide +kernel
theorem mV_X2_bySplit : Cond.instanceMethod yX2_bySplit ∈ gT ∧ Cond.selects RX2 yX2_bySplit yX2_bySplit ∈ gT ∧ Cond.initialized RX2 ∈ gT ∧ Cond.code yX2_bySplit cX2_bySplit 10 (some .int) ∈ gT := ⟨t_423, ts_15, t_6, t_424⟩
theorem hV_X2_bySplit : yX2_bySplit.cls = RX2 ∧ yX2_bySplit.cls ≠ "java/lang/invoke/MethodHandle" ∧ yX2_bySplit.cls ≠ "java/lang/invoke/VarHandle" ∧ (parseMethodDescriptor yX2_bySplit.desc).map (fun d => d.parameters.length) = some 3 := by decide +kernel
theorem mV_X2_byRule : Cond.instanceMethod yX2_byRule ∈ gT ∧ Cond.selects RX2 yX2_byRule yX2_byRule ∈ gT ∧ Cond.initialized RX2 ∈ gT ∧ Cond.code yX2_byRule cX2_byRule 10 (some .int) ∈ gT := ⟨t_415, ts_13, t_6, t_416⟩
theorem hV_X2_byRule : yX2_byRule.cls = RX2 ∧ yX2_byRule.cls ≠ "java/lang/invoke/MethodHandle" ∧ yX2_byRule.cls ≠ "java/lang/invoke/VarHandle" ∧ (parseMethodDescriptor yX2_byRule.desc).map (fun d => d.parameters.length) = some 3 := by decide +kernel
theorem mV_X2_improve : Cond.instanceMethod yX2_improve ∈ gT ∧ Cond.selects RX2 yX2_improve yX2_improve ∈ gT ∧ Cond.initialized RX2 ∈ gT ∧ Cond.code yX2_improve cX2_improve 11 (some .boolean) ∈ gT := ⟨t_394, ts_11, t_6, t_395⟩
theorem hV_X2_improve : yX2_improve.cls = RX2 ∧ yX2_improve.cls ≠ "java/lang/invoke/MethodHandle" ∧ yX2_improve.cls ≠ "java/lang/invoke/VarHandle" ∧ (parseMethodDescriptor yX2_improve.desc).map (fun d => d.parameters.length) = some 4 := by decide +kernel
theorem mV_X2_find : Cond.instanceMethod yX2_find ∈ gT ∧ Cond.selects RX2 yX2_find yX2_find ∈ gT ∧ Cond.initialized RX2 ∈ gT ∧ Cond.code yX2_find cX2_find 6 none ∈ gT := ⟨t_385, t_386, t_6, t_387⟩
theorem hV_X2_find : yX2_find.cls = RX2 ∧ yX2_find.cls ≠ "java/lang/invoke/MethodHandle" ∧ yX2_find.cls ≠ "java/lang/invoke/VarHandle" ∧ (parseMethodDescriptor yX2_find.desc).map (fun d => d.parameters.length) = some 2 := by decide +kernel
theorem pm_24 {c0 c1 c2 c3 c4 c5 c6 c7 c8 : Nat × va_E} : List.Perm ([c0, c1, c2, c3, c4, c5, c6, c7, c8] : va_W) ([c3, c4, c5, c6] ++ [c0, c1, c2, c7, c8]) := pick_perm 9 rfl [3, 4, 5, 6] [0, 1, 2, 7, 8] (by decide +kernel) rfl rfl
theorem pm_25 {c0 c1 c2 c3 c4 c5 c6 c7 c8 c9 c10 c11 c12 c13 c14 c15 c16 : Nat × va_E} : List.Perm ([c0, c1, c2, c3, c4, c5, c6, c7, c8, c9, c10, c11, c12, c13, c14, c15, c16] : va_W) ([c0, c1, c2, c3, c4, c5, c6, c7, c8, c9, c10, c11, c12, c13, c14, c15, c16] ++ []) := pick_perm 17 rfl [0, 1, 2, 3, 4, 5, 6, 7, 8, 9, 10, 11, 12, 13, 14, 15, 16] [] (by decide +kernel) rfl rfl
theorem pm_26 {c0 c1 c2 c3 c4 c5 c6 c7 c8 c9 c10 c11 c12 c13 c14 c15 c16 : Nat × va_E} : List.Perm ([c0, c1, c2, c3, c4, c5, c6, c7, c8, c9, c10, c11, c12, c13, c14, c15, c16] : va_W) ([] ++ [c0, c1, c2, c3, c4, c5, c6, c7, c8, c9, c10, c11, c12, c13, c14, c15, c16]) := pick_perm 17 rfl [] [0, 1, 2, 3, 4, 5, 6, 7, 8, 9, 10, 11, 12, 13, 14, 15, 16] (by decide +kernel) rfl rfl
theorem pm_27 {c0 c1 c2 c3 c4 c5 c6 c7 c8 c9 c10 c11 c12 c13 c14 c15 c16 : Nat × va_E} : List.Perm ([c0, c1, c2, c3, c4, c5, c6, c7, c8, c9, c10, c11, c12, c13, c14, c15, c16] : va_W) ([c0, c1, c2, c3, c4, c5, c6, c9, c10, c11, c12, c13, c14, c15, c16] ++ [c7, c8]) := pick_perm 17 rfl [0, 1, 2, 3, 4, 5, 6, 9, 10, 11, 12, 13, 14, 15, 16] [7, 8] (by decide +kernel) rfl rfl
theorem pm_28 {c0 c1 c2 c3 c4 c5 c6 c7 c8 c9 c10 c11 c12 c13 c14 c15 c16 : Nat × va_E} : List.Perm ([c0, c1, c2, c3, c4, c5, c6, c7, c8, c9, c10, c11, c12, c13, c14, c15, c16] : va_W) ([c2, c3, c4] ++ [c0, c1, c5, c6, c7, c8, c9, c10, c11, c12, c13, c14, c15, c16]) := pick_perm 17 rfl [2, 3, 4] [0, 1, 5, 6, 7, 8, 9, 10, 11, 12, 13, 14, 15, 16] (by decide +kernel) rfl rfl
theorem pm_29 {c0 c1 c2 c3 c4 c5 c6 c7 c8 c9 c10 c11 c12 c13 c14 c15 c16 : Nat × va_E} : List.Perm ([c0, c1, c2, c3, c4, c5, c6, c7, c8, c9, c10, c11, c12, c13, c14, c15, c16] : va_W) ([c0, c1, c2, c3, c4, c5, c14, c15, c16, c6, c7, c8, c9, c10, c11, c12, c13] ++ []) := pick_perm 17 rfl [0, 1, 2, 3, 4, 5, 14, 15, 16, 6, 7, 8, 9, 10, 11, 12, 13] [] (by decide +kernel) rfl rfl
theorem pm_30 {c0 c1 c2 c3 c4 c5 c6 c7 c8 : Nat × va_E} : List.Perm ([c0, c1, c2, c3, c4, c5, c6, c7, c8] : va_W) ([c6, c7, c8, c2, c3, c4, c5, c0, c1] ++ []) := pick_perm 9 rfl [6, 7, 8, 2, 3, 4, 5, 0, 1] [] (by decide +kernel) rfl rfl
theorem pm_31 {c0 c1 c2 c3 c4 c5 c6 c7 c8 : Nat × va_E} : List.Perm ([c0, c1, c2, c3, c4, c5, c6, c7, c8] : va_W) ([c0, c1, c2, c5, c6, c7, c8, c3, c4] ++ []) := pick_perm 9 rfl [0, 1, 2, 5, 6, 7, 8, 3, 4] [] (by decide +kernel) rfl rfl
theorem pm_32 {c0 c1 c2 c3 c4 c5 c6 c7 c8 : Nat × va_E} : List.Perm ([c0, c1, c2, c3, c4, c5, c6, c7, c8] : va_W) ([c1] ++ [c0, c2, c3, c4, c5, c6, c7, c8]) := pick_perm 9 rfl [1] [0, 2, 3, 4, 5, 6, 7, 8] (by decide +kernel) rfl rfl
theorem pm_33 {c0 c1 c2 c3 c4 c5 c6 c7 c8 : Nat × va_E} : List.Perm ([c0, c1, c2, c3, c4, c5, c6, c7, c8] : va_W) ([c0, c8, c1, c2, c3, c4, c5, c6, c7] ++ []) := pick_perm 9 rfl [0, 8, 1, 2, 3, 4, 5, 6, 7] [] (by decide +kernel) rfl rfl
theorem dX2_at_0 : decode cX2_at 0 = .ok (.iload_n 0, 1) := by decide +kernel
theorem dX2_at_1 : decode cX2_at 1 = .ok (.bipush 32, 2) := by decide +kernel
theorem dX2_at_3 : decode cX2_at 3 = .ok (.imul, 1) := by decide +kernel
theorem dX2_at_4 : decode cX2_at 4 = .ok (.iload_n 1, 1) := by decide +kernel
theorem dX2_at_5 : decode cX2_at 5 = .ok (.iadd, 1) := by decide +kernel
theorem dX2_at_6 : decode cX2_at 6 = .ok (.iconst 5, 1) := by decide +kernel
theorem dX2_at_7 : decode cX2_at 7 = .ok (.imul, 1) := by decide +kernel
theorem dX2_at_8 : decode cX2_at 8 = .ok (.iload_n 2, 1) := by decide +kernel
theorem dX2_at_9 : decode cX2_at 9 = .ok (.iadd, 1) := by decide +kernel
theorem dX2_at_10 : decode cX2_at 10 = .ok (.iconst 5, 1) := by decide +kernel
theorem dX2_at_11 : decode cX2_at 11 = .ok (.imul, 1) := by decide +kernel
theorem dX2_at_12 : decode cX2_at 12 = .ok (.iload_n 3, 1) := by decide +kernel
theorem dX2_at_13 : decode cX2_at 13 = .ok (.iadd, 1) := by decide +kernel
theorem dX2_at_14 : decode cX2_at 14 = .ok (.ireturn, 1) := by decide +kernel
theorem dX2_byRule_0 : decode cX2_byRule 0 = .ok (.ldc 28, 2) := by decide +kernel
theorem dX2_byRule_2 : decode cX2_byRule 2 = .ok (.istore 4, 2) := by decide +kernel
theorem dX2_byRule_4 : decode cX2_byRule 4 = .ok (.aload_n 3, 1) := by decide +kernel
theorem dX2_byRule_5 : decode cX2_byRule 5 = .ok (.getfield 59, 3) := by decide +kernel
theorem dX2_byRule_8 : decode cX2_byRule 8 = .ok (.getfield 35, 3) := by decide +kernel
theorem dX2_byRule_11 : decode cX2_byRule 11 = .ok (.istore 5, 2) := by decide +kernel
theorem dX2_byRule_13 : decode cX2_byRule 13 = .ok (.iload 5, 2) := by decide +kernel
theorem dX2_byRule_15 : decode cX2_byRule 15 = .ok (.iconst 2, 1) := by decide +kernel
theorem dX2_byRule_16 : decode cX2_byRule 16 = .ok (.if_icmp .le 10, 3) := by decide +kernel
theorem dX2_byRule_19 : decode cX2_byRule 19 = .ok (.aload_n 1, 1) := by decide +kernel
theorem dX2_byRule_20 : decode cX2_byRule 20 = .ok (.getfield 35, 3) := by decide +kernel
theorem dX2_byRule_23 : decode cX2_byRule 23 = .ok (.goto 4, 3) := by decide +kernel
theorem dX2_byRule_26 : decode cX2_byRule 26 = .ok (.iconst 1, 1) := by decide +kernel
theorem dX2_byRule_27 : decode cX2_byRule 27 = .ok (.istore 6, 2) := by decide +kernel
theorem dX2_byRule_29 : decode cX2_byRule 29 = .ok (.iload 5, 2) := by decide +kernel
theorem dX2_byRule_31 : decode cX2_byRule 31 = .ok (.iconst 3, 1) := by decide +kernel
theorem dX2_byRule_32 : decode cX2_byRule 32 = .ok (.if_icmp .le 10, 3) := by decide +kernel
theorem dX2_byRule_35 : decode cX2_byRule 35 = .ok (.aload_n 1, 1) := by decide +kernel
theorem dX2_byRule_36 : decode cX2_byRule 36 = .ok (.getfield 35, 3) := by decide +kernel
theorem dX2_byRule_39 : decode cX2_byRule 39 = .ok (.goto 4, 3) := by decide +kernel
theorem dX2_byRule_42 : decode cX2_byRule 42 = .ok (.iconst 1, 1) := by decide +kernel
theorem dX2_byRule_43 : decode cX2_byRule 43 = .ok (.istore 7, 2) := by decide +kernel
theorem dX2_byRule_45 : decode cX2_byRule 45 = .ok (.iconst 0, 1) := by decide +kernel
theorem dX2_byRule_46 : decode cX2_byRule 46 = .ok (.istore 8, 2) := by decide +kernel
theorem dX2_byRule_48 : decode cX2_byRule 48 = .ok (.iload 8, 2) := by decide +kernel
theorem dX2_byRule_50 : decode cX2_byRule 50 = .ok (.iload 6, 2) := by decide +kernel
theorem dX2_byRule_52 : decode cX2_byRule 52 = .ok (.if_icmp .ge 64, 3) := by decide +kernel
theorem dX2_byRule_55 : decode cX2_byRule 55 = .ok (.aload_n 0, 1) := by decide +kernel
theorem dX2_byRule_56 : decode cX2_byRule 56 = .ok (.getfield 15, 3) := by decide +kernel
theorem dX2_byRule_59 : decode cX2_byRule 59 = .ok (.iconst 2, 1) := by decide +kernel
theorem dX2_byRule_60 : decode cX2_byRule 60 = .ok (.iload 8, 2) := by decide +kernel
theorem dX2_byRule_62 : decode cX2_byRule 62 = .ok (.iastore, 1) := by decide +kernel
theorem dX2_byRule_63 : decode cX2_byRule 63 = .ok (.iconst 0, 1) := by decide +kernel
theorem dX2_byRule_64 : decode cX2_byRule 64 = .ok (.istore 9, 2) := by decide +kernel
theorem dX2_byRule_66 : decode cX2_byRule 66 = .ok (.iload 9, 2) := by decide +kernel
theorem dX2_byRule_68 : decode cX2_byRule 68 = .ok (.iload 7, 2) := by decide +kernel
theorem dX2_byRule_70 : decode cX2_byRule 70 = .ok (.if_icmp .ge 40, 3) := by decide +kernel
theorem dX2_byRule_73 : decode cX2_byRule 73 = .ok (.aload_n 0, 1) := by decide +kernel
theorem dX2_byRule_74 : decode cX2_byRule 74 = .ok (.getfield 15, 3) := by decide +kernel
theorem dX2_byRule_77 : decode cX2_byRule 77 = .ok (.iconst 3, 1) := by decide +kernel
theorem dX2_byRule_78 : decode cX2_byRule 78 = .ok (.iload 9, 2) := by decide +kernel
theorem dX2_byRule_80 : decode cX2_byRule 80 = .ok (.iastore, 1) := by decide +kernel
theorem dX2_byRule_81 : decode cX2_byRule 81 = .ok (.aload_n 0, 1) := by decide +kernel
theorem dX2_byRule_82 : decode cX2_byRule 82 = .ok (.iload 5, 2) := by decide +kernel
theorem dX2_byRule_84 : decode cX2_byRule 84 = .ok (.invokevirtual 76, 3) := by decide +kernel
theorem dX2_byRule_87 : decode cX2_byRule 87 = .ok (.ifCond .eq 17, 3) := by decide +kernel
theorem dX2_byRule_90 : decode cX2_byRule 90 = .ok (.iload 4, 2) := by decide +kernel
theorem dX2_byRule_92 : decode cX2_byRule 92 = .ok (.aload_n 0, 1) := by decide +kernel
theorem dX2_byRule_93 : decode cX2_byRule 93 = .ok (.aload_n 1, 1) := by decide +kernel
theorem dX2_byRule_94 : decode cX2_byRule 94 = .ok (.iload_n 2, 1) := by decide +kernel
theorem dX2_byRule_95 : decode cX2_byRule 95 = .ok (.aload_n 3, 1) := by decide +kernel
theorem dX2_byRule_96 : decode cX2_byRule 96 = .ok (.invokevirtual 80, 3) := by decide +kernel
theorem dX2_byRule_99 : decode cX2_byRule 99 = .ok (.invokestatic 83, 3) := by decide +kernel
theorem dX2_byRule_102 : decode cX2_byRule 102 = .ok (.istore 4, 2) := by decide +kernel
theorem dX2_byRule_104 : decode cX2_byRule 104 = .ok (.iinc 9 1, 3) := by decide +kernel
theorem dX2_byRule_107 : decode cX2_byRule 107 = .ok (.goto (-41), 3) := by decide +kernel
theorem dX2_byRule_110 : decode cX2_byRule 110 = .ok (.iinc 8 1, 3) := by decide +kernel
theorem dX2_byRule_113 : decode cX2_byRule 113 = .ok (.goto (-65), 3) := by decide +kernel
theorem dX2_byRule_116 : decode cX2_byRule 116 = .ok (.iload 4, 2) := by decide +kernel
theorem dX2_byRule_118 : decode cX2_byRule 118 = .ok (.ireturn, 1) := by decide +kernel
theorem dX2_bySlot_0 : decode cX2_bySlot 0 = .ok (.aload_n 3, 1) := by decide +kernel
theorem dX2_bySlot_1 : decode cX2_bySlot 1 = .ok (.getfield 93, 3) := by decide +kernel
theorem dX2_bySlot_4 : decode cX2_bySlot 4 = .ok (.iload 4, 2) := by decide +kernel
theorem dX2_bySlot_6 : decode cX2_bySlot 6 = .ok (.iaload, 1) := by decide +kernel
theorem dX2_bySlot_7 : decode cX2_bySlot 7 = .ok (.istore 5, 2) := by decide +kernel
theorem dX2_bySlot_9 : decode cX2_bySlot 9 = .ok (.iload 5, 2) := by decide +kernel
theorem dX2_bySlot_11 : decode cX2_bySlot 11 = .ok (.iconst 5, 1) := by decide +kernel
theorem dX2_bySlot_12 : decode cX2_bySlot 12 = .ok (.if_icmp .eq 7, 3) := by decide +kernel
theorem dX2_bySlot_15 : decode cX2_bySlot 15 = .ok (.iload_n 2, 1) := by decide +kernel
theorem dX2_bySlot_16 : decode cX2_bySlot 16 = .ok (.ifCond .ne 20, 3) := by decide +kernel
theorem dX2_bySlot_19 : decode cX2_bySlot 19 = .ok (.iload 5, 2) := by decide +kernel
theorem dX2_bySlot_21 : decode cX2_bySlot 21 = .ok (.iconst 5, 1) := by decide +kernel
theorem dX2_bySlot_22 : decode cX2_bySlot 22 = .ok (.if_icmp .ne 11, 3) := by decide +kernel
theorem dX2_bySlot_25 : decode cX2_bySlot 25 = .ok (.iload_n 2, 1) := by decide +kernel
theorem dX2_bySlot_26 : decode cX2_bySlot 26 = .ok (.ifCond .ne 7, 3) := by decide +kernel
theorem dX2_bySlot_29 : decode cX2_bySlot 29 = .ok (.iconst 0, 1) := by decide +kernel
theorem dX2_bySlot_30 : decode cX2_bySlot 30 = .ok (.goto 5, 3) := by decide +kernel
theorem dX2_bySlot_33 : decode cX2_bySlot 33 = .ok (.ldc 28, 2) := by decide +kernel
theorem dX2_bySlot_35 : decode cX2_bySlot 35 = .ok (.ireturn, 1) := by decide +kernel
theorem dX2_bySlot_36 : decode cX2_bySlot 36 = .ok (.aload_n 0, 1) := by decide +kernel
theorem dX2_bySlot_37 : decode cX2_bySlot 37 = .ok (.getfield 15, 3) := by decide +kernel
theorem dX2_bySlot_40 : decode cX2_bySlot 40 = .ok (.aload_n 3, 1) := by decide +kernel
theorem dX2_bySlot_41 : decode cX2_bySlot 41 = .ok (.getfield 59, 3) := by decide +kernel
theorem dX2_bySlot_44 : decode cX2_bySlot 44 = .ok (.getfield 96, 3) := by decide +kernel
theorem dX2_bySlot_47 : decode cX2_bySlot 47 = .ok (.iload 4, 2) := by decide +kernel
theorem dX2_bySlot_49 : decode cX2_bySlot 49 = .ok (.iaload, 1) := by decide +kernel
theorem dX2_bySlot_50 : decode cX2_bySlot 50 = .ok (.iaload, 1) := by decide +kernel
theorem dX2_bySlot_51 : decode cX2_bySlot 51 = .ok (.istore 6, 2) := by decide +kernel
theorem dX2_bySlot_53 : decode cX2_bySlot 53 = .ok (.aload_n 0, 1) := by decide +kernel
theorem dX2_bySlot_54 : decode cX2_bySlot 54 = .ok (.getfield 15, 3) := by decide +kernel
theorem dX2_bySlot_57 : decode cX2_bySlot 57 = .ok (.aload_n 3, 1) := by decide +kernel
theorem dX2_bySlot_58 : decode cX2_bySlot 58 = .ok (.getfield 59, 3) := by decide +kernel
theorem dX2_bySlot_61 : decode cX2_bySlot 61 = .ok (.getfield 99, 3) := by decide +kernel
theorem dX2_bySlot_64 : decode cX2_bySlot 64 = .ok (.iload 4, 2) := by decide +kernel
theorem dX2_bySlot_66 : decode cX2_bySlot 66 = .ok (.iaload, 1) := by decide +kernel
theorem dX2_bySlot_67 : decode cX2_bySlot 67 = .ok (.iaload, 1) := by decide +kernel
theorem dX2_bySlot_68 : decode cX2_bySlot 68 = .ok (.istore 7, 2) := by decide +kernel
theorem dX2_bySlot_70 : decode cX2_bySlot 70 = .ok (.iload 5, 2) := by decide +kernel
theorem dX2_bySlot_72 : decode cX2_bySlot 72 = .ok (.invokestatic 102, 3) := by decide +kernel
theorem dX2_bySlot_75 : decode cX2_bySlot 75 = .ok (.ifCond .eq 19, 3) := by decide +kernel
theorem dX2_bySlot_78 : decode cX2_bySlot 78 = .ok (.aload_n 0, 1) := by decide +kernel
theorem dX2_bySlot_79 : decode cX2_bySlot 79 = .ok (.getfield 11, 3) := by decide +kernel
theorem dX2_bySlot_82 : decode cX2_bySlot 82 = .ok (.iload 5, 2) := by decide +kernel
theorem dX2_bySlot_84 : decode cX2_bySlot 84 = .ok (.iload_n 2, 1) := by decide +kernel
theorem dX2_bySlot_85 : decode cX2_bySlot 85 = .ok (.iload 6, 2) := by decide +kernel
theorem dX2_bySlot_87 : decode cX2_bySlot 87 = .ok (.iload 7, 2) := by decide +kernel
theorem dX2_bySlot_89 : decode cX2_bySlot 89 = .ok (.invokestatic 24, 3) := by decide +kernel
theorem dX2_bySlot_92 : decode cX2_bySlot 92 = .ok (.iaload, 1) := by decide +kernel
theorem dX2_bySlot_93 : decode cX2_bySlot 93 = .ok (.ireturn, 1) := by decide +kernel
theorem dX2_bySlot_94 : decode cX2_bySlot 94 = .ok (.aload_n 1, 1) := by decide +kernel
theorem dX2_bySlot_95 : decode cX2_bySlot 95 = .ok (.iload_n 2, 1) := by decide +kernel
theorem dX2_bySlot_96 : decode cX2_bySlot 96 = .ok (.iload 5, 2) := by decide +kernel
theorem dX2_bySlot_98 : decode cX2_bySlot 98 = .ok (.iload 6, 2) := by decide +kernel
theorem dX2_bySlot_100 : decode cX2_bySlot 100 = .ok (.iload 7, 2) := by decide +kernel
theorem dX2_bySlot_102 : decode cX2_bySlot 102 = .ok (.invokevirtual 105, 3) := by decide +kernel
theorem dX2_bySlot_105 : decode cX2_bySlot 105 = .ok (.ifCond .eq 7, 3) := by decide +kernel
theorem dX2_bySlot_108 : decode cX2_bySlot 108 = .ok (.iconst 0, 1) := by decide +kernel
theorem dX2_bySlot_109 : decode cX2_bySlot 109 = .ok (.goto 5, 3) := by decide +kernel
theorem dX2_bySlot_112 : decode cX2_bySlot 112 = .ok (.ldc 28, 2) := by decide +kernel
theorem dX2_bySlot_114 : decode cX2_bySlot 114 = .ok (.ireturn, 1) := by decide +kernel
theorem dX2_bySplit_0 : decode cX2_bySplit 0 = .ok (.ldc 28, 2) := by decide +kernel
theorem dX2_bySplit_2 : decode cX2_bySplit 2 = .ok (.istore 4, 2) := by decide +kernel
theorem dX2_bySplit_4 : decode cX2_bySplit 4 = .ok (.iconst 1, 1) := by decide +kernel
theorem dX2_bySplit_5 : decode cX2_bySplit 5 = .ok (.istore 5, 2) := by decide +kernel
theorem dX2_bySplit_7 : decode cX2_bySplit 7 = .ok (.iload 5, 2) := by decide +kernel
theorem dX2_bySplit_9 : decode cX2_bySplit 9 = .ok (.iload_n 2, 1) := by decide +kernel
theorem dX2_bySplit_10 : decode cX2_bySplit 10 = .ok (.if_icmp .gt 116, 3) := by decide +kernel
theorem dX2_bySplit_13 : decode cX2_bySplit 13 = .ok (.iload 5, 2) := by decide +kernel
theorem dX2_bySplit_15 : decode cX2_bySplit 15 = .ok (.iload_n 2, 1) := by decide +kernel
theorem dX2_bySplit_16 : decode cX2_bySplit 16 = .ok (.iconst (-1), 1) := by decide +kernel
theorem dX2_bySplit_17 : decode cX2_bySplit 17 = .ok (.ixor, 1) := by decide +kernel
theorem dX2_bySplit_18 : decode cX2_bySplit 18 = .ok (.iand, 1) := by decide +kernel
theorem dX2_bySplit_19 : decode cX2_bySplit 19 = .ok (.ifCond .ne 15, 3) := by decide +kernel
theorem dX2_bySplit_22 : decode cX2_bySplit 22 = .ok (.aload_n 0, 1) := by decide +kernel
theorem dX2_bySplit_23 : decode cX2_bySplit 23 = .ok (.aload_n 1, 1) := by decide +kernel
theorem dX2_bySplit_24 : decode cX2_bySplit 24 = .ok (.iload 5, 2) := by decide +kernel
theorem dX2_bySplit_26 : decode cX2_bySplit 26 = .ok (.aload_n 3, 1) := by decide +kernel
theorem dX2_bySplit_27 : decode cX2_bySplit 27 = .ok (.iconst 0, 1) := by decide +kernel
theorem dX2_bySplit_28 : decode cX2_bySplit 28 = .ok (.invokevirtual 89, 3) := by decide +kernel
theorem dX2_bySplit_31 : decode cX2_bySplit 31 = .ok (.goto 5, 3) := by decide +kernel
theorem dX2_bySplit_34 : decode cX2_bySplit 34 = .ok (.ldc 28, 2) := by decide +kernel
theorem dX2_bySplit_36 : decode cX2_bySplit 36 = .ok (.istore 6, 2) := by decide +kernel
theorem dX2_bySplit_38 : decode cX2_bySplit 38 = .ok (.iload 6, 2) := by decide +kernel
theorem dX2_bySplit_40 : decode cX2_bySplit 40 = .ok (.iload 4, 2) := by decide +kernel
theorem dX2_bySplit_42 : decode cX2_bySplit 42 = .ok (.if_icmp .lt 6, 3) := by decide +kernel
theorem dX2_bySplit_45 : decode cX2_bySplit 45 = .ok (.goto 75, 3) := by decide +kernel
theorem dX2_bySplit_48 : decode cX2_bySplit 48 = .ok (.iload_n 2, 1) := by decide +kernel
theorem dX2_bySplit_49 : decode cX2_bySplit 49 = .ok (.iload 5, 2) := by decide +kernel
theorem dX2_bySplit_51 : decode cX2_bySplit 51 = .ok (.iconst (-1), 1) := by decide +kernel
theorem dX2_bySplit_52 : decode cX2_bySplit 52 = .ok (.ixor, 1) := by decide +kernel
theorem dX2_bySplit_53 : decode cX2_bySplit 53 = .ok (.iand, 1) := by decide +kernel
theorem dX2_bySplit_54 : decode cX2_bySplit 54 = .ok (.istore 7, 2) := by decide +kernel
theorem dX2_bySplit_56 : decode cX2_bySplit 56 = .ok (.iconst 0, 1) := by decide +kernel
theorem dX2_bySplit_57 : decode cX2_bySplit 57 = .ok (.istore 8, 2) := by decide +kernel
theorem dX2_bySplit_59 : decode cX2_bySplit 59 = .ok (.iload 8, 2) := by decide +kernel
theorem dX2_bySplit_61 : decode cX2_bySplit 61 = .ok (.iload 7, 2) := by decide +kernel
theorem dX2_bySplit_63 : decode cX2_bySplit 63 = .ok (.if_icmp .gt 57, 3) := by decide +kernel
theorem dX2_bySplit_66 : decode cX2_bySplit 66 = .ok (.iload 8, 2) := by decide +kernel
theorem dX2_bySplit_68 : decode cX2_bySplit 68 = .ok (.iload 7, 2) := by decide +kernel
theorem dX2_bySplit_70 : decode cX2_bySplit 70 = .ok (.iconst (-1), 1) := by decide +kernel
theorem dX2_bySplit_71 : decode cX2_bySplit 71 = .ok (.ixor, 1) := by decide +kernel
theorem dX2_bySplit_72 : decode cX2_bySplit 72 = .ok (.iand, 1) := by decide +kernel
theorem dX2_bySplit_73 : decode cX2_bySplit 73 = .ok (.ifCond .ne 41, 3) := by decide +kernel
theorem dX2_bySplit_76 : decode cX2_bySplit 76 = .ok (.aload_n 0, 1) := by decide +kernel
theorem dX2_bySplit_77 : decode cX2_bySplit 77 = .ok (.aload_n 1, 1) := by decide +kernel
theorem dX2_bySplit_78 : decode cX2_bySplit 78 = .ok (.iload 8, 2) := by decide +kernel
theorem dX2_bySplit_80 : decode cX2_bySplit 80 = .ok (.aload_n 3, 1) := by decide +kernel
theorem dX2_bySplit_81 : decode cX2_bySplit 81 = .ok (.iconst 1, 1) := by decide +kernel
theorem dX2_bySplit_82 : decode cX2_bySplit 82 = .ok (.invokevirtual 89, 3) := by decide +kernel
theorem dX2_bySplit_85 : decode cX2_bySplit 85 = .ok (.aload_n 0, 1) := by decide +kernel
theorem dX2_bySplit_86 : decode cX2_bySplit 86 = .ok (.aload_n 1, 1) := by decide +kernel
theorem dX2_bySplit_87 : decode cX2_bySplit 87 = .ok (.iload 7, 2) := by decide +kernel
theorem dX2_bySplit_89 : decode cX2_bySplit 89 = .ok (.iload 8, 2) := by decide +kernel
theorem dX2_bySplit_91 : decode cX2_bySplit 91 = .ok (.iconst (-1), 1) := by decide +kernel
theorem dX2_bySplit_92 : decode cX2_bySplit 92 = .ok (.ixor, 1) := by decide +kernel
theorem dX2_bySplit_93 : decode cX2_bySplit 93 = .ok (.iand, 1) := by decide +kernel
theorem dX2_bySplit_94 : decode cX2_bySplit 94 = .ok (.aload_n 3, 1) := by decide +kernel
theorem dX2_bySplit_95 : decode cX2_bySplit 95 = .ok (.iconst 2, 1) := by decide +kernel
theorem dX2_bySplit_96 : decode cX2_bySplit 96 = .ok (.invokevirtual 89, 3) := by decide +kernel
theorem dX2_bySplit_99 : decode cX2_bySplit 99 = .ok (.iadd, 1) := by decide +kernel
theorem dX2_bySplit_100 : decode cX2_bySplit 100 = .ok (.istore 9, 2) := by decide +kernel
theorem dX2_bySplit_102 : decode cX2_bySplit 102 = .ok (.iload 4, 2) := by decide +kernel
theorem dX2_bySplit_104 : decode cX2_bySplit 104 = .ok (.iload 6, 2) := by decide +kernel
theorem dX2_bySplit_106 : decode cX2_bySplit 106 = .ok (.iload 9, 2) := by decide +kernel
theorem dX2_bySplit_108 : decode cX2_bySplit 108 = .ok (.iadd, 1) := by decide +kernel
theorem dX2_bySplit_109 : decode cX2_bySplit 109 = .ok (.invokestatic 83, 3) := by decide +kernel
theorem dX2_bySplit_112 : decode cX2_bySplit 112 = .ok (.istore 4, 2) := by decide +kernel
theorem dX2_bySplit_114 : decode cX2_bySplit 114 = .ok (.iinc 8 1, 3) := by decide +kernel
theorem dX2_bySplit_117 : decode cX2_bySplit 117 = .ok (.goto (-58), 3) := by decide +kernel
theorem dX2_bySplit_120 : decode cX2_bySplit 120 = .ok (.iinc 5 1, 3) := by decide +kernel
theorem dX2_bySplit_123 : decode cX2_bySplit 123 = .ok (.goto (-116), 3) := by decide +kernel
theorem dX2_bySplit_126 : decode cX2_bySplit 126 = .ok (.iload 4, 2) := by decide +kernel
theorem dX2_bySplit_128 : decode cX2_bySplit 128 = .ok (.ireturn, 1) := by decide +kernel
theorem dX2_find_0 : decode cX2_find 0 = .ok (.aload_n 0, 1) := by decide +kernel
theorem dX2_find_1 : decode cX2_find 1 = .ok (.getfield 11, 3) := by decide +kernel
theorem dX2_find_4 : decode cX2_find 4 = .ok (.ldc 28, 2) := by decide +kernel
theorem dX2_find_6 : decode cX2_find 6 = .ok (.invokestatic 29, 3) := by decide +kernel
theorem dX2_find_9 : decode cX2_find 9 = .ok (.aload_n 1, 1) := by decide +kernel
theorem dX2_find_10 : decode cX2_find 10 = .ok (.getfield 18, 3) := by decide +kernel
theorem dX2_find_13 : decode cX2_find 13 = .ok (.iconst 5, 1) := by decide +kernel
theorem dX2_find_14 : decode cX2_find 14 = .ok (.if_icmp .gt 11, 3) := by decide +kernel
theorem dX2_find_17 : decode cX2_find 17 = .ok (.aload_n 1, 1) := by decide +kernel
theorem dX2_find_18 : decode cX2_find 18 = .ok (.getfield 35, 3) := by decide +kernel
theorem dX2_find_21 : decode cX2_find 21 = .ok (.iconst 5, 1) := by decide +kernel
theorem dX2_find_22 : decode cX2_find 22 = .ok (.if_icmp .le 4, 3) := by decide +kernel
theorem dX2_find_26 : decode cX2_find 26 = .ok (.iconst 1, 1) := by decide +kernel
theorem dX2_find_27 : decode cX2_find 27 = .ok (.istore_n 3, 1) := by decide +kernel
theorem dX2_find_28 : decode cX2_find 28 = .ok (.iload_n 3, 1) := by decide +kernel
theorem dX2_find_29 : decode cX2_find 29 = .ok (.iconst 1, 1) := by decide +kernel
theorem dX2_find_30 : decode cX2_find 30 = .ok (.aload_n 1, 1) := by decide +kernel
theorem dX2_find_31 : decode cX2_find 31 = .ok (.getfield 18, 3) := by decide +kernel
theorem dX2_find_34 : decode cX2_find 34 = .ok (.ishl, 1) := by decide +kernel
theorem dX2_find_35 : decode cX2_find 35 = .ok (.if_icmp .ge 50, 3) := by decide +kernel
theorem dX2_find_38 : decode cX2_find 38 = .ok (.aload_n 0, 1) := by decide +kernel
theorem dX2_find_39 : decode cX2_find 39 = .ok (.aload_n 1, 1) := by decide +kernel
theorem dX2_find_40 : decode cX2_find 40 = .ok (.iload_n 3, 1) := by decide +kernel
theorem dX2_find_41 : decode cX2_find 41 = .ok (.aload_n 2, 1) := by decide +kernel
theorem dX2_find_42 : decode cX2_find 42 = .ok (.iconst 0, 1) := by decide +kernel
theorem dX2_find_43 : decode cX2_find 43 = .ok (.invokevirtual 38, 3) := by decide +kernel
theorem dX2_find_46 : decode cX2_find 46 = .ok (.istore 4, 2) := by decide +kernel
theorem dX2_find_48 : decode cX2_find 48 = .ok (.iconst 1, 1) := by decide +kernel
theorem dX2_find_49 : decode cX2_find 49 = .ok (.istore 5, 2) := by decide +kernel
theorem dX2_find_51 : decode cX2_find 51 = .ok (.iload 4, 2) := by decide +kernel
theorem dX2_find_53 : decode cX2_find 53 = .ok (.ifCond .eq 26, 3) := by decide +kernel
theorem dX2_find_56 : decode cX2_find 56 = .ok (.iload 5, 2) := by decide +kernel
theorem dX2_find_58 : decode cX2_find 58 = .ok (.bipush 6, 2) := by decide +kernel
theorem dX2_find_60 : decode cX2_find 60 = .ok (.if_icmp .ge 19, 3) := by decide +kernel
theorem dX2_find_63 : decode cX2_find 63 = .ok (.aload_n 0, 1) := by decide +kernel
theorem dX2_find_64 : decode cX2_find 64 = .ok (.aload_n 1, 1) := by decide +kernel
theorem dX2_find_65 : decode cX2_find 65 = .ok (.iload_n 3, 1) := by decide +kernel
theorem dX2_find_66 : decode cX2_find 66 = .ok (.aload_n 2, 1) := by decide +kernel
theorem dX2_find_67 : decode cX2_find 67 = .ok (.iconst 1, 1) := by decide +kernel
theorem dX2_find_68 : decode cX2_find 68 = .ok (.invokevirtual 38, 3) := by decide +kernel
theorem dX2_find_71 : decode cX2_find 71 = .ok (.istore 4, 2) := by decide +kernel
theorem dX2_find_73 : decode cX2_find 73 = .ok (.iinc 5 1, 3) := by decide +kernel
theorem dX2_find_76 : decode cX2_find 76 = .ok (.goto (-25), 3) := by decide +kernel
theorem dX2_find_79 : decode cX2_find 79 = .ok (.iinc 3 1, 3) := by decide +kernel
theorem dX2_find_82 : decode cX2_find 82 = .ok (.goto (-54), 3) := by decide +kernel
theorem dX2_find_85 : decode cX2_find 85 = .ok (.return_, 1) := by decide +kernel
theorem dX2_improve_0 : decode cX2_improve 0 = .ok (.iload 4, 2) := by decide +kernel
theorem dX2_improve_2 : decode cX2_improve 2 = .ok (.ifCond .eq 7, 3) := by decide +kernel
theorem dX2_improve_5 : decode cX2_improve 5 = .ok (.iconst 1, 1) := by decide +kernel
theorem dX2_improve_6 : decode cX2_improve 6 = .ok (.goto 7, 3) := by decide +kernel
theorem dX2_improve_9 : decode cX2_improve 9 = .ok (.iload_n 2, 1) := by decide +kernel
theorem dX2_improve_10 : decode cX2_improve 10 = .ok (.invokestatic 42, 3) := by decide +kernel
theorem dX2_improve_13 : decode cX2_improve 13 = .ok (.istore 5, 2) := by decide +kernel
theorem dX2_improve_15 : decode cX2_improve 15 = .ok (.iconst 0, 1) := by decide +kernel
theorem dX2_improve_16 : decode cX2_improve 16 = .ok (.istore 6, 2) := by decide +kernel
theorem dX2_improve_18 : decode cX2_improve 18 = .ok (.iconst 0, 1) := by decide +kernel
theorem dX2_improve_19 : decode cX2_improve 19 = .ok (.istore 7, 2) := by decide +kernel
theorem dX2_improve_21 : decode cX2_improve 21 = .ok (.iload 7, 2) := by decide +kernel
theorem dX2_improve_23 : decode cX2_improve 23 = .ok (.aload_n 1, 1) := by decide +kernel
theorem dX2_improve_24 : decode cX2_improve 24 = .ok (.getfield 35, 3) := by decide +kernel
theorem dX2_improve_27 : decode cX2_improve 27 = .ok (.if_icmp .ge 130, 3) := by decide +kernel
theorem dX2_improve_30 : decode cX2_improve 30 = .ok (.iconst 0, 1) := by decide +kernel
theorem dX2_improve_31 : decode cX2_improve 31 = .ok (.istore 8, 2) := by decide +kernel
theorem dX2_improve_33 : decode cX2_improve 33 = .ok (.iload 8, 2) := by decide +kernel
theorem dX2_improve_35 : decode cX2_improve 35 = .ok (.aload_n 1, 1) := by decide +kernel
theorem dX2_improve_36 : decode cX2_improve 36 = .ok (.getfield 35, 3) := by decide +kernel
theorem dX2_improve_39 : decode cX2_improve 39 = .ok (.if_icmp .ge 112, 3) := by decide +kernel
theorem dX2_improve_42 : decode cX2_improve 42 = .ok (.aload_n 1, 1) := by decide +kernel
theorem dX2_improve_43 : decode cX2_improve 43 = .ok (.iload_n 2, 1) := by decide +kernel
theorem dX2_improve_44 : decode cX2_improve 44 = .ok (.iload 7, 2) := by decide +kernel
theorem dX2_improve_46 : decode cX2_improve 46 = .ok (.iload 8, 2) := by decide +kernel
theorem dX2_improve_48 : decode cX2_improve 48 = .ok (.invokevirtual 48, 3) := by decide +kernel
theorem dX2_improve_51 : decode cX2_improve 51 = .ok (.ifCond .ne 6, 3) := by decide +kernel
theorem dX2_improve_54 : decode cX2_improve 54 = .ok (.goto 91, 3) := by decide +kernel
theorem dX2_improve_57 : decode cX2_improve 57 = .ok (.aload_n 0, 1) := by decide +kernel
theorem dX2_improve_58 : decode cX2_improve 58 = .ok (.getfield 15, 3) := by decide +kernel
theorem dX2_improve_61 : decode cX2_improve 61 = .ok (.iconst 0, 1) := by decide +kernel
theorem dX2_improve_62 : decode cX2_improve 62 = .ok (.iload 7, 2) := by decide +kernel
theorem dX2_improve_64 : decode cX2_improve 64 = .ok (.iastore, 1) := by decide +kernel
theorem dX2_improve_65 : decode cX2_improve 65 = .ok (.aload_n 0, 1) := by decide +kernel
theorem dX2_improve_66 : decode cX2_improve 66 = .ok (.getfield 15, 3) := by decide +kernel
theorem dX2_improve_69 : decode cX2_improve 69 = .ok (.iconst 1, 1) := by decide +kernel
theorem dX2_improve_70 : decode cX2_improve 70 = .ok (.iload 8, 2) := by decide +kernel
theorem dX2_improve_72 : decode cX2_improve 72 = .ok (.iastore, 1) := by decide +kernel
theorem dX2_improve_73 : decode cX2_improve 73 = .ok (.iconst 0, 1) := by decide +kernel
theorem dX2_improve_74 : decode cX2_improve 74 = .ok (.istore 9, 2) := by decide +kernel
theorem dX2_improve_76 : decode cX2_improve 76 = .ok (.iload 9, 2) := by decide +kernel
theorem dX2_improve_78 : decode cX2_improve 78 = .ok (.aload_n 3, 1) := by decide +kernel
theorem dX2_improve_79 : decode cX2_improve 79 = .ok (.getfield 52, 3) := by decide +kernel
theorem dX2_improve_82 : decode cX2_improve 82 = .ok (.if_icmp .ge 63, 3) := by decide +kernel
theorem dX2_improve_85 : decode cX2_improve 85 = .ok (.aload_n 3, 1) := by decide +kernel
theorem dX2_improve_86 : decode cX2_improve 86 = .ok (.getfield 55, 3) := by decide +kernel
theorem dX2_improve_89 : decode cX2_improve 89 = .ok (.iload 9, 2) := by decide +kernel
theorem dX2_improve_91 : decode cX2_improve 91 = .ok (.aaload, 1) := by decide +kernel
theorem dX2_improve_92 : decode cX2_improve 92 = .ok (.astore 10, 2) := by decide +kernel
theorem dX2_improve_94 : decode cX2_improve 94 = .ok (.aload 10, 2) := by decide +kernel
theorem dX2_improve_96 : decode cX2_improve 96 = .ok (.getfield 59, 3) := by decide +kernel
theorem dX2_improve_99 : decode cX2_improve 99 = .ok (.getfield 18, 3) := by decide +kernel
theorem dX2_improve_102 : decode cX2_improve 102 = .ok (.iload 5, 2) := by decide +kernel
theorem dX2_improve_104 : decode cX2_improve 104 = .ok (.if_icmp .gt 35, 3) := by decide +kernel
theorem dX2_improve_107 : decode cX2_improve 107 = .ok (.iload 6, 2) := by decide +kernel
theorem dX2_improve_109 : decode cX2_improve 109 = .ok (.aload_n 0, 1) := by decide +kernel
theorem dX2_improve_110 : decode cX2_improve 110 = .ok (.aload 10, 2) := by decide +kernel
theorem dX2_improve_112 : decode cX2_improve 112 = .ok (.getfield 65, 3) := by decide +kernel
theorem dX2_improve_115 : decode cX2_improve 115 = .ok (.iload_n 2, 1) := by decide +kernel
theorem dX2_improve_116 : decode cX2_improve 116 = .ok (.iload 7, 2) := by decide +kernel
theorem dX2_improve_118 : decode cX2_improve 118 = .ok (.iload 8, 2) := by decide +kernel
theorem dX2_improve_120 : decode cX2_improve 120 = .ok (.invokestatic 24, 3) := by decide +kernel
theorem dX2_improve_123 : decode cX2_improve 123 = .ok (.iconst 1, 1) := by decide +kernel
theorem dX2_improve_124 : decode cX2_improve 124 = .ok (.aload_n 0, 1) := by decide +kernel
theorem dX2_improve_125 : decode cX2_improve 125 = .ok (.aload_n 1, 1) := by decide +kernel
theorem dX2_improve_126 : decode cX2_improve 126 = .ok (.iload_n 2, 1) := by decide +kernel
theorem dX2_improve_127 : decode cX2_improve 127 = .ok (.aload 10, 2) := by decide +kernel
theorem dX2_improve_129 : decode cX2_improve 129 = .ok (.invokevirtual 68, 3) := by decide +kernel
theorem dX2_improve_132 : decode cX2_improve 132 = .ok (.iadd, 1) := by decide +kernel
theorem dX2_improve_133 : decode cX2_improve 133 = .ok (.invokevirtual 72, 3) := by decide +kernel
theorem dX2_improve_136 : decode cX2_improve 136 = .ok (.ior, 1) := by decide +kernel
theorem dX2_improve_137 : decode cX2_improve 137 = .ok (.istore 6, 2) := by decide +kernel
theorem dX2_improve_139 : decode cX2_improve 139 = .ok (.iinc 9 1, 3) := by decide +kernel
theorem dX2_improve_142 : decode cX2_improve 142 = .ok (.goto (-66), 3) := by decide +kernel
theorem dX2_improve_145 : decode cX2_improve 145 = .ok (.iinc 8 1, 3) := by decide +kernel
theorem dX2_improve_148 : decode cX2_improve 148 = .ok (.goto (-115), 3) := by decide +kernel
theorem dX2_improve_151 : decode cX2_improve 151 = .ok (.iinc 7 1, 3) := by decide +kernel
theorem dX2_improve_154 : decode cX2_improve 154 = .ok (.goto (-133), 3) := by decide +kernel
theorem dX2_improve_157 : decode cX2_improve 157 = .ok (.iload 6, 2) := by decide +kernel
theorem dX2_improve_159 : decode cX2_improve 159 = .ok (.ireturn, 1) := by decide +kernel
theorem dX2_lower_0 : decode cX2_lower 0 = .ok (.iload_n 2, 1) := by decide +kernel
theorem dX2_lower_1 : decode cX2_lower 1 = .ok (.aload_n 0, 1) := by decide +kernel
theorem dX2_lower_2 : decode cX2_lower 2 = .ok (.getfield 11, 3) := by decide +kernel
theorem dX2_lower_5 : decode cX2_lower 5 = .ok (.iload_n 1, 1) := by decide +kernel
theorem dX2_lower_6 : decode cX2_lower 6 = .ok (.iaload, 1) := by decide +kernel
theorem dX2_lower_7 : decode cX2_lower 7 = .ok (.if_icmp .lt 5, 3) := by decide +kernel
theorem dX2_lower_10 : decode cX2_lower 10 = .ok (.iconst 0, 1) := by decide +kernel
theorem dX2_lower_11 : decode cX2_lower 11 = .ok (.ireturn, 1) := by decide +kernel
theorem dX2_lower_12 : decode cX2_lower 12 = .ok (.aload_n 0, 1) := by decide +kernel
theorem dX2_lower_13 : decode cX2_lower 13 = .ok (.getfield 11, 3) := by decide +kernel
theorem dX2_lower_16 : decode cX2_lower 16 = .ok (.iload_n 1, 1) := by decide +kernel
theorem dX2_lower_17 : decode cX2_lower 17 = .ok (.iload_n 2, 1) := by decide +kernel
theorem dX2_lower_18 : decode cX2_lower 18 = .ok (.iastore, 1) := by decide +kernel
theorem dX2_lower_19 : decode cX2_lower 19 = .ok (.iconst 1, 1) := by decide +kernel
theorem dX2_lower_20 : decode cX2_lower 20 = .ok (.ireturn, 1) := by decide +kernel
theorem dX2_ofWhole_0 : decode cX2_ofWhole 0 = .ok (.aload_n 0, 1) := by decide +kernel
theorem dX2_ofWhole_1 : decode cX2_ofWhole 1 = .ok (.getfield 11, 3) := by decide +kernel
theorem dX2_ofWhole_4 : decode cX2_ofWhole 4 = .ok (.iload_n 2, 1) := by decide +kernel
theorem dX2_ofWhole_5 : decode cX2_ofWhole 5 = .ok (.iconst 1, 1) := by decide +kernel
theorem dX2_ofWhole_6 : decode cX2_ofWhole 6 = .ok (.aload_n 1, 1) := by decide +kernel
theorem dX2_ofWhole_7 : decode cX2_ofWhole 7 = .ok (.getfield 18, 3) := by decide +kernel
theorem dX2_ofWhole_10 : decode cX2_ofWhole 10 = .ok (.ishl, 1) := by decide +kernel
theorem dX2_ofWhole_11 : decode cX2_ofWhole 11 = .ok (.iconst 1, 1) := by decide +kernel
theorem dX2_ofWhole_12 : decode cX2_ofWhole 12 = .ok (.isub, 1) := by decide +kernel
theorem dX2_ofWhole_13 : decode cX2_ofWhole 13 = .ok (.iconst 0, 1) := by decide +kernel
theorem dX2_ofWhole_14 : decode cX2_ofWhole 14 = .ok (.iconst 1, 1) := by decide +kernel
theorem dX2_ofWhole_15 : decode cX2_ofWhole 15 = .ok (.invokestatic 24, 3) := by decide +kernel
theorem dX2_ofWhole_18 : decode cX2_ofWhole 18 = .ok (.iaload, 1) := by decide +kernel
theorem dX2_ofWhole_19 : decode cX2_ofWhole 19 = .ok (.ireturn, 1) := by decide +kernel
theorem dX2_standsApart_0 : decode cX2_standsApart 0 = .ok (.iload_n 1, 1) := by decide +kernel
theorem dX2_standsApart_1 : decode cX2_standsApart 1 = .ok (.iconst 3, 1) := by decide +kernel
theorem dX2_standsApart_2 : decode cX2_standsApart 2 = .ok (.if_icmp .lt 33, 3) := by decide +kernel
theorem dX2_standsApart_5 : decode cX2_standsApart 5 = .ok (.aload_n 0, 1) := by decide +kernel
theorem dX2_standsApart_6 : decode cX2_standsApart 6 = .ok (.getfield 15, 3) := by decide +kernel
theorem dX2_standsApart_9 : decode cX2_standsApart 9 = .ok (.iconst 2, 1) := by decide +kernel
theorem dX2_standsApart_10 : decode cX2_standsApart 10 = .ok (.iaload, 1) := by decide +kernel
theorem dX2_standsApart_11 : decode cX2_standsApart 11 = .ok (.aload_n 0, 1) := by decide +kernel
theorem dX2_standsApart_12 : decode cX2_standsApart 12 = .ok (.getfield 15, 3) := by decide +kernel
theorem dX2_standsApart_15 : decode cX2_standsApart 15 = .ok (.iconst 0, 1) := by decide +kernel
theorem dX2_standsApart_16 : decode cX2_standsApart 16 = .ok (.iaload, 1) := by decide +kernel
theorem dX2_standsApart_17 : decode cX2_standsApart 17 = .ok (.if_icmp .eq 22, 3) := by decide +kernel
theorem dX2_standsApart_20 : decode cX2_standsApart 20 = .ok (.aload_n 0, 1) := by decide +kernel
theorem dX2_standsApart_21 : decode cX2_standsApart 21 = .ok (.getfield 15, 3) := by decide +kernel
theorem dX2_standsApart_24 : decode cX2_standsApart 24 = .ok (.iconst 2, 1) := by decide +kernel
theorem dX2_standsApart_25 : decode cX2_standsApart 25 = .ok (.iaload, 1) := by decide +kernel
theorem dX2_standsApart_26 : decode cX2_standsApart 26 = .ok (.aload_n 0, 1) := by decide +kernel
theorem dX2_standsApart_27 : decode cX2_standsApart 27 = .ok (.getfield 15, 3) := by decide +kernel
theorem dX2_standsApart_30 : decode cX2_standsApart 30 = .ok (.iconst 1, 1) := by decide +kernel
theorem dX2_standsApart_31 : decode cX2_standsApart 31 = .ok (.iaload, 1) := by decide +kernel
theorem dX2_standsApart_32 : decode cX2_standsApart 32 = .ok (.if_icmp .eq 7, 3) := by decide +kernel
theorem dX2_standsApart_35 : decode cX2_standsApart 35 = .ok (.iconst 1, 1) := by decide +kernel
theorem dX2_standsApart_36 : decode cX2_standsApart 36 = .ok (.goto 4, 3) := by decide +kernel
theorem dX2_standsApart_39 : decode cX2_standsApart 39 = .ok (.iconst 0, 1) := by decide +kernel
theorem dX2_standsApart_40 : decode cX2_standsApart 40 = .ok (.istore_n 2, 1) := by decide +kernel
theorem dX2_standsApart_41 : decode cX2_standsApart 41 = .ok (.iload_n 1, 1) := by decide +kernel
theorem dX2_standsApart_42 : decode cX2_standsApart 42 = .ok (.iconst 4, 1) := by decide +kernel
theorem dX2_standsApart_43 : decode cX2_standsApart 43 = .ok (.if_icmp .lt 48, 3) := by decide +kernel
theorem dX2_standsApart_46 : decode cX2_standsApart 46 = .ok (.aload_n 0, 1) := by decide +kernel
theorem dX2_standsApart_47 : decode cX2_standsApart 47 = .ok (.getfield 15, 3) := by decide +kernel
theorem dX2_standsApart_50 : decode cX2_standsApart 50 = .ok (.iconst 3, 1) := by decide +kernel
theorem dX2_standsApart_51 : decode cX2_standsApart 51 = .ok (.iaload, 1) := by decide +kernel
theorem dX2_standsApart_52 : decode cX2_standsApart 52 = .ok (.aload_n 0, 1) := by decide +kernel
theorem dX2_standsApart_53 : decode cX2_standsApart 53 = .ok (.getfield 15, 3) := by decide +kernel
theorem dX2_standsApart_56 : decode cX2_standsApart 56 = .ok (.iconst 0, 1) := by decide +kernel
theorem dX2_standsApart_57 : decode cX2_standsApart 57 = .ok (.iaload, 1) := by decide +kernel
theorem dX2_standsApart_58 : decode cX2_standsApart 58 = .ok (.if_icmp .eq 37, 3) := by decide +kernel
theorem dX2_standsApart_61 : decode cX2_standsApart 61 = .ok (.aload_n 0, 1) := by decide +kernel
theorem dX2_standsApart_62 : decode cX2_standsApart 62 = .ok (.getfield 15, 3) := by decide +kernel
theorem dX2_standsApart_65 : decode cX2_standsApart 65 = .ok (.iconst 3, 1) := by decide +kernel
theorem dX2_standsApart_66 : decode cX2_standsApart 66 = .ok (.iaload, 1) := by decide +kernel
theorem dX2_standsApart_67 : decode cX2_standsApart 67 = .ok (.aload_n 0, 1) := by decide +kernel
theorem dX2_standsApart_68 : decode cX2_standsApart 68 = .ok (.getfield 15, 3) := by decide +kernel
theorem dX2_standsApart_71 : decode cX2_standsApart 71 = .ok (.iconst 1, 1) := by decide +kernel
theorem dX2_standsApart_72 : decode cX2_standsApart 72 = .ok (.iaload, 1) := by decide +kernel
theorem dX2_standsApart_73 : decode cX2_standsApart 73 = .ok (.if_icmp .eq 22, 3) := by decide +kernel
theorem dX2_standsApart_76 : decode cX2_standsApart 76 = .ok (.aload_n 0, 1) := by decide +kernel
theorem dX2_standsApart_77 : decode cX2_standsApart 77 = .ok (.getfield 15, 3) := by decide +kernel
theorem dX2_standsApart_80 : decode cX2_standsApart 80 = .ok (.iconst 3, 1) := by decide +kernel
theorem dX2_standsApart_81 : decode cX2_standsApart 81 = .ok (.iaload, 1) := by decide +kernel
theorem dX2_standsApart_82 : decode cX2_standsApart 82 = .ok (.aload_n 0, 1) := by decide +kernel
theorem dX2_standsApart_83 : decode cX2_standsApart 83 = .ok (.getfield 15, 3) := by decide +kernel
theorem dX2_standsApart_86 : decode cX2_standsApart 86 = .ok (.iconst 2, 1) := by decide +kernel
theorem dX2_standsApart_87 : decode cX2_standsApart 87 = .ok (.iaload, 1) := by decide +kernel
theorem dX2_standsApart_88 : decode cX2_standsApart 88 = .ok (.if_icmp .eq 7, 3) := by decide +kernel
theorem dX2_standsApart_91 : decode cX2_standsApart 91 = .ok (.iconst 1, 1) := by decide +kernel
theorem dX2_standsApart_92 : decode cX2_standsApart 92 = .ok (.goto 4, 3) := by decide +kernel
theorem dX2_standsApart_95 : decode cX2_standsApart 95 = .ok (.iconst 0, 1) := by decide +kernel
theorem dX2_standsApart_96 : decode cX2_standsApart 96 = .ok (.istore_n 3, 1) := by decide +kernel
theorem dX2_standsApart_97 : decode cX2_standsApart 97 = .ok (.iload_n 2, 1) := by decide +kernel
theorem dX2_standsApart_98 : decode cX2_standsApart 98 = .ok (.ifCond .eq 11, 3) := by decide +kernel
theorem dX2_standsApart_101 : decode cX2_standsApart 101 = .ok (.iload_n 3, 1) := by decide +kernel
theorem dX2_standsApart_102 : decode cX2_standsApart 102 = .ok (.ifCond .eq 7, 3) := by decide +kernel
theorem dX2_standsApart_105 : decode cX2_standsApart 105 = .ok (.iconst 1, 1) := by decide +kernel
theorem dX2_standsApart_106 : decode cX2_standsApart 106 = .ok (.goto 4, 3) := by decide +kernel
theorem dX2_standsApart_109 : decode cX2_standsApart 109 = .ok (.iconst 0, 1) := by decide +kernel
theorem dX2_standsApart_110 : decode cX2_standsApart 110 = .ok (.ireturn, 1) := by decide +kernel
section
variable (l : Launch) (D : va_G) (cI cJ cZ cR : ClassId)
set_option maxHeartbeats 4000000 in
set_option maxRecDepth 100000 in
theorem c_X2_at (sz : Nat) (a : Nat) (b : Nat) (c1 : Nat) (d : Nat)  : CTi l D cI cJ cZ cR yX2_at cX2_at 4 (some .int) 0 0 0 0 sz [.int (nI a), .int (nI b), .int (nI c1), .int (nI d)] [] (fun (r : Int32) (u : Unit) => (r = (nI ((((((a * 32) + b) * 5) + c1) * 5) + d)))) (fun (u : Unit) => []) := by
  refine CTi.of (ty := .int) (by decide) (Nat.le_of_ble_eq_true rfl) rfl ?_
  intro p e s m below meth c A Q ls hd hin hK hsz hP hD hA hS hl hret
  obtain ⟨hx, hb, hml, hown, hts⟩ := id hd
  have hK1 := hK.1
  have hown : s.vm.findClass RX2 = some m.cls := hown
  have hl : lv_has ls 4 [(0, .int (nI a)), (1, .int (nI b)), (2, .int (nI c1)), (3, .int (nI d))] := hl
  refine lv_iload_n hx hb dX2_at_0 rfl (lv_at hl 0 rfl) ?_
  refine lv_bipush (v := 32) hx hb dX2_at_1 (by decide) ?_
  refine lv_imul hx hb dX2_at_3 ?_
  refine lv_nmi (show _ = (nI (a * 32)) from pk_mul (a) (32)) ?_
  refine lv_iload_n hx hb dX2_at_4 rfl (lv_at hl 1 rfl) ?_
  refine lv_iadd hx hb dX2_at_5 ?_
  refine lv_nmi (show _ = (nI ((a * 32) + b)) from nI_add ((a * 32)) (b)) ?_
  refine lv_iconst (v := 5) hx hb dX2_at_6 (by decide) ?_
  refine lv_imul hx hb dX2_at_7 ?_
  refine lv_nmi (show _ = (nI (((a * 32) + b) * 5)) from pk_mul (((a * 32) + b)) (5)) ?_
  refine lv_iload_n hx hb dX2_at_8 rfl (lv_at hl 2 rfl) ?_
  refine lv_iadd hx hb dX2_at_9 ?_
  refine lv_nmi (show _ = (nI ((((a * 32) + b) * 5) + c1)) from nI_add ((((a * 32) + b) * 5)) (c1)) ?_
  refine lv_iconst (v := 5) hx hb dX2_at_10 (by decide) ?_
  refine lv_imul hx hb dX2_at_11 ?_
  refine lv_nmi (show _ = (nI (((((a * 32) + b) * 5) + c1) * 5)) from pk_mul (((((a * 32) + b) * 5) + c1)) (5)) ?_
  refine lv_iload_n hx hb dX2_at_12 rfl (lv_at hl 3 rfl) ?_
  refine lv_iadd hx hb dX2_at_13 ?_
  refine lv_nmi (show _ = (nI ((((((a * 32) + b) * 5) + c1) * 5) + d)) from nI_add ((((((a * 32) + b) * 5) + c1) * 5)) (d)) ?_
  exact hret _ _ _ _ _ _ (nI ((((((a * 32) + b) * 5) + c1) * 5) + d)) () dX2_at_14 rfl hS (Nat.le_of_ble_eq_true rfl) (Nat.le_of_ble_eq_true rfl) rfl (hP.sub [] rfl) (hD.sub [] rfl rfl)
set_option maxHeartbeats 4000000 in
set_option maxRecDepth 100000 in
theorem c_X2_ofWhole (sz : Nat) (og : Nat) (o1 : Nat) (o2 : Nat) (fg : Nat) (f1 : Nat) (f2 : Nat) (f3 : Nat) (n9 : Nat) (v : Nat) (a : Nat) (sf : Nat → Int32) (sd : Nat → Int32) (hn5 : n9 ≤ 5) (ha : a < 3) (hT : TBI sf) : CTi l D cI cJ cZ cR yX2_ofWhole cX2_ofWhole 3 (some .int) 1 23 0 0 sz [.ref og, .ref fg, .int (nI a)] [kX2 og o1 o2, kI cI o1 2400 sf, kI cI o2 4 sd, kX0 fg f1 f2 f3 (nI n9) (nI v)] (fun (r : Int32) (u : Unit) => (r = (nI (tbl sf a (2 ^ n9 - 1) 0 1)))) (fun (u : Unit) => [kX2 og o1 o2, kI cI o1 2400 sf, kI cI o2 4 sd, kX0 fg f1 f2 f3 (nI n9) (nI v)]) := by
  refine CTi.of (ty := .int) (by decide) (Nat.le_of_ble_eq_true rfl) rfl ?_
  intro p e s m below meth c A Q ls hd hin hK hsz hP hD hA hS hl hret
  obtain ⟨hx, hb, hml, hown, hts⟩ := id hd
  have hK1 := hK.1
  have hown : s.vm.findClass RX2 = some m.cls := hown
  have hl : lv_has ls 3 [(0, .ref og), (1, .ref fg), (2, .int (nI a))] := hl
  have h32 := pow_le5 hn5
  have h1p := pow_ge1 (v := n9)
  refine lv_aload_n hx hb dX2_ofWhole_0 rfl (lv_at hl 0 rfl) ?_
  refine va_get (D := D) (ci := 2) (v := .ref o1) (C := RX2) (T := TX2) (N := 2) hx hb hts iT_X2 hown hK1 hP 0 rfl rfl 0 (by decide) (hts _ t_123) (fun _ h9 => h9) rfl dX2_ofWhole_1 ?_
  refine lv_iload_n hx hb dX2_ofWhole_4 rfl (lv_at hl 2 rfl) ?_
  refine lv_iconst (v := 1) hx hb dX2_ofWhole_5 (by decide) ?_
  refine lv_aload_n hx hb dX2_ofWhole_6 rfl (lv_at hl 1 rfl) ?_
  refine va_get (D := D) (ci := 0) (v := .int (nI n9)) (C := RX0) (T := TX0) (N := 5) hx hb hts iT_X0 hown hK1 hP 3 rfl rfl 3 (by decide) (hts _ t_63) (fun _ h9 => h9) rfl dX2_ofWhole_7 ?_
  refine lv_ishl hx hb dX2_ofWhole_10 ?_
  refine lv_nmi (show _ = (nI (2 ^ n9) : Int32) from shl1 (by omega)) ?_
  refine lv_iconst (v := 1) hx hb dX2_ofWhole_11 (by decide) ?_
  refine lv_isub hx hb dX2_ofWhole_12 ?_
  refine lv_nmi (show _ = (nI (2 ^ n9 - 1) : Int32) from pk_sub (a := 2 ^ n9) (b := 1) (by omega)) ?_
  refine lv_iconst (v := 0) hx hb dX2_ofWhole_13 (by decide) ?_
  refine lv_iconst (v := 1) hx hb dX2_ofWhole_14 (by decide) ?_
  refine xc_i (wc := []) (wr := [kX2 og o1 o2, kI cI o1 2400 sf, kI cI o2 4 sd, kX0 fg f1 f2 f3 (nI n9) (nI v)]) (xrS (n := 4) (As := [.int (nI a), .int (nI (2 ^ n9 - 1)), .int 0, .int 1]) (rest := [.ref o1]) hd hK hP hD (c_X2_at l D cI cJ cZ cR _ a (2 ^ n9 - 1) 0 1 ) (gS t_410 mS_X2_at) hS_X2_at ⟨(Nat.le_of_ble_eq_true rfl), (Nat.le_of_ble_eq_true rfl)⟩ [] rfl rfl rfl hl.1 rfl (Nat.le_of_ble_eq_true rfl) dX2_ofWhole_15 ⟨(Nat.le_of_ble_eq_true rfl), (Nat.le_of_ble_eq_true rfl)⟩) hP hD hS hA [] [0, 1, 2, 3] rfl rfl rfl (by decide) (fun r_1 u_2 H locs hw_3 hP hD hS => ?_)
  have hw_4 : r_1 = (nI ((((((a * 32) + (2 ^ n9 - 1)) * 5) + 0) * 5) + 1)) := hw_3
  subst hw_4
  have hP : va_P D vwCl [kX2 og o1 o2, kI cI o1 2400 sf, kI cI o2 4 sd, kX0 fg f1 f2 f3 (nI n9) (nI v)] H := hP
  have hD : va_D A [kX2 og o1 o2, kI cI o1 2400 sf, kI cI o2 4 sd, kX0 fg f1 f2 f3 (nI n9) (nI v)] := hD
  refine va_iald hx hb hK1 hP 1 0 rfl rfl (vp_in_nI (by omega) (by omega)) dX2_ofWhole_18 ?_
  refine lv_nmi (show _ = sf ((((((a * 32) + (2 ^ n9 - 1)) * 5) + 0) * 5) + 1) from by rw [nI_clamp (n := ((((((a * 32) + (2 ^ n9 - 1)) * 5) + 0) * 5) + 1)) (by omega)]) ?_
  refine lv_nmi (show _ = (nI (tbl sf a (2 ^ n9 - 1) 0 1) : Int32) from (TBI_at hT (by omega)).1) ?_
  exact hret _ _ _ _ _ _ (nI (tbl sf a (2 ^ n9 - 1) 0 1)) () dX2_ofWhole_19 rfl hS (Nat.le_of_ble_eq_true rfl) (Nat.le_of_ble_eq_true rfl) rfl (hP.sub [0, 1, 2, 3] rfl) (hD.sub [0, 1, 2, 3] rfl rfl)
set_option maxHeartbeats 4000000 in
set_option maxRecDepth 100000 in
theorem c_X2_lower (sz : Nat) (og : Nat) (o1 : Nat) (o2 : Nat) (k : Nat) (sf : Nat → Int32) (sd : Nat → Int32) (p2 : Int32) (hk : k < 2400) : CTi l D cI cJ cZ cR yX2_lower cX2_lower 3 (some .boolean) 0 0 0 0 sz [.ref og, .int (nI k), .int p2] [kX2 og o1 o2, kI cI o1 2400 sf, kI cI o2 4 sd] (fun (r : Int32) (u : (Nat → Int32)) => ((r = 0 ∧ u = sf ∧ ¬ p2 < sf k) ∨ (r = 1 ∧ u = upd sf k p2 ∧ p2 < sf k))) (fun (u : (Nat → Int32)) => [kX2 og o1 o2, kI cI o1 2400 u, kI cI o2 4 sd]) := by
  refine CTi.of (ty := .boolean) (by decide) (Nat.le_of_ble_eq_true rfl) rfl ?_
  intro p e s m below meth c A Q ls hd hin hK hsz hP hD hA hS hl hret
  obtain ⟨hx, hb, hml, hown, hts⟩ := id hd
  have hK1 := hK.1
  have hown : s.vm.findClass RX2 = some m.cls := hown
  have hl : lv_has ls 3 [(0, .ref og), (1, .int (nI k)), (2, .int p2)] := hl
  refine lv_iload_n hx hb dX2_lower_0 rfl (lv_at hl 2 rfl) ?_
  refine lv_aload_n hx hb dX2_lower_1 rfl (lv_at hl 0 rfl) ?_
  refine va_get (D := D) (ci := 2) (v := .ref o1) (C := RX2) (T := TX2) (N := 2) hx hb hts iT_X2 hown hK1 hP 0 rfl rfl 0 (by decide) (hts _ t_123) (fun _ h9 => h9) rfl dX2_lower_2 ?_
  refine lv_iload_n hx hb dX2_lower_5 rfl (lv_at hl 1 rfl) ?_
  refine va_iald hx hb hK1 hP 1 0 rfl rfl (vp_in_nI (by omega) (by omega)) dX2_lower_6 ?_
  refine lv_nmi (show _ = sf k from by rw [nI_clamp (n := k) (by omega)]) ?_
  refine lv_icmp_lt (tgt := 12) hx hb dX2_lower_7 (by decide) (fun c_1 => ?_) (fun c_1 => ?_)
  · skip
    refine lv_aload_n hx hb dX2_lower_12 rfl (lv_at hl 0 rfl) ?_
    refine va_get (D := D) (ci := 2) (v := .ref o1) (C := RX2) (T := TX2) (N := 2) hx hb hts iT_X2 hown hK1 hP 0 rfl rfl 0 (by decide) (hts _ t_123) (fun _ h9 => h9) rfl dX2_lower_13 ?_
    refine lv_iload_n hx hb dX2_lower_16 rfl (lv_at hl 1 rfl) ?_
    refine lv_iload_n hx hb dX2_lower_17 rfl (lv_at hl 2 rfl) ?_
    refine va_iast hx hb hK1 hP hD hS 1 0 rfl rfl (vp_in_nI (by omega) (by omega)) dX2_lower_18 (fun H locs hP hD hS => ?_)
    rw [nI_clamp (n := k) (by omega)] at hP hD
    have hP : va_P D vwCl [kX2 og o1 o2, kI cI o1 2400 (upd sf k p2), kI cI o2 4 sd] H := hP
    have hD : va_D A [kX2 og o1 o2, kI cI o1 2400 (upd sf k p2), kI cI o2 4 sd] := hD
    refine lv_iconst (v := 1) hx hb dX2_lower_19 (by decide) ?_
    exact hret _ _ _ _ _ _ 1 (upd sf k p2) dX2_lower_20 rfl hS (Nat.le_of_ble_eq_true rfl) (Nat.le_of_ble_eq_true rfl) (Or.inr ⟨rfl, rfl, c_1⟩) (hP.sub [0, 1, 2] rfl) (hD.sub [0, 1, 2] rfl rfl)
  · skip
    refine lv_iconst (v := 0) hx hb dX2_lower_10 (by decide) ?_
    exact hret _ _ _ _ _ _ 0 sf dX2_lower_11 rfl hS (Nat.le_of_ble_eq_true rfl) (Nat.le_of_ble_eq_true rfl) (Or.inl ⟨rfl, rfl, c_1⟩) (hP.sub [0, 1, 2] rfl) (hD.sub [0, 1, 2] rfl rfl)
set_option maxHeartbeats 4000000 in
set_option maxRecDepth 100000 in
theorem c_X2_standsApart (sz : Nat) (og : Nat) (o1 : Nat) (o2 : Nat) (sf : Nat → Int32) (sd : Nat → Int32) (w : Nat)  : CTi l D cI cJ cZ cR yX2_standsApart cX2_standsApart 4 (some .boolean) 0 0 0 0 sz [.ref og, .int (nI w)] [kX2 og o1 o2, kI cI o1 2400 sf, kI cI o2 4 sd] (fun (r : Int32) (u : Unit) => (YN r (sAp w sd))) (fun (u : Unit) => [kX2 og o1 o2, kI cI o1 2400 sf, kI cI o2 4 sd]) := by
  refine CTi.of (ty := .boolean) (by decide) (Nat.le_of_ble_eq_true rfl) rfl ?_
  intro p e s m below meth c A Q ls hd hin hK hsz hP hD hA hS hl hret
  obtain ⟨hx, hb, hml, hown, hts⟩ := id hd
  have hK1 := hK.1
  have hown : s.vm.findClass RX2 = some m.cls := hown
  have hl : lv_has ls 4 [(0, .ref og), (1, .int (nI w))] := hl
  refine lv_iload_n hx hb dX2_standsApart_0 rfl (lv_at hl 1 rfl) ?_
  refine lv_iconst (v := 3) hx hb dX2_standsApart_1 (by decide) ?_
  refine lv_icmp_lt (tgt := 35) hx hb dX2_standsApart_2 (by decide) (fun c_1 => ?_) (fun c_1 => ?_)
  · skip
    refine lv_iconst (v := 1) hx hb dX2_standsApart_35 (by decide) ?_
    refine lv_goto (tgt := 40) hx hb dX2_standsApart_36 (by decide) ?_
    refine lv_istore_n (lv' := [(2, .int 1), (0, .ref og), (1, .int (nI w))]) hx hb dX2_standsApart_40 rfl hl (by decide) rfl (fun ls hl => ?_)
    refine lv_iload_n hx hb dX2_standsApart_41 rfl (lv_at hl 2 rfl) ?_
    refine lv_iconst (v := 4) hx hb dX2_standsApart_42 (by decide) ?_
    refine lv_icmp_lt (tgt := 91) hx hb dX2_standsApart_43 (by decide) (fun c_2 => ?_) (fun c_2 => ?_)
    · skip
      refine lv_iconst (v := 1) hx hb dX2_standsApart_91 (by decide) ?_
      refine lv_goto (tgt := 96) hx hb dX2_standsApart_92 (by decide) ?_
      refine lv_istore_n (lv' := [(3, .int 1), (2, .int 1), (0, .ref og), (1, .int (nI w))]) hx hb dX2_standsApart_96 rfl hl (by decide) rfl (fun ls hl => ?_)
      refine lv_iload_n hx hb dX2_standsApart_97 rfl (lv_at hl 1 rfl) ?_
      refine lv_if_eq (tgt := 109) hx hb dX2_standsApart_98 (by decide) (fun c_3 => ?_) (fun c_3 => ?_)
      · exact absurd c_3 (by decide)
      refine lv_iload_n hx hb dX2_standsApart_101 rfl (lv_at hl 0 rfl) ?_
      refine lv_if_eq (tgt := 109) hx hb dX2_standsApart_102 (by decide) (fun c_4 => ?_) (fun c_4 => ?_)
      · exact absurd c_4 (by decide)
      refine lv_iconst (v := 1) hx hb dX2_standsApart_105 (by decide) ?_
      refine lv_goto (tgt := 110) hx hb dX2_standsApart_106 (by decide) ?_
      exact hret _ _ _ _ _ _ 1 () dX2_standsApart_110 rfl hS (Nat.le_of_ble_eq_true rfl) (Nat.le_of_ble_eq_true rfl) (by simp [YN, sAp, c_1, c_2]) (hP.sub [0, 1, 2] rfl) (hD.sub [0, 1, 2] rfl rfl)
    · skip
      refine lv_aload_n hx hb dX2_standsApart_46 rfl (lv_at hl 1 rfl) ?_
      refine va_get (D := D) (ci := 2) (v := .ref o2) (C := RX2) (T := TX2) (N := 2) hx hb hts iT_X2 hown hK1 hP 0 rfl rfl 1 (by decide) (hts _ t_124) (fun _ h9 => h9) rfl dX2_standsApart_47 ?_
      refine lv_iconst (v := 3) hx hb dX2_standsApart_50 (by decide) ?_
      refine va_iald hx hb hK1 hP 2 0 rfl rfl (vin (by decide)) dX2_standsApart_51 ?_
      refine lv_nmi (show _ = sd 3 from rfl) ?_
      refine lv_aload_n hx hb dX2_standsApart_52 rfl (lv_at hl 1 rfl) ?_
      refine va_get (D := D) (ci := 2) (v := .ref o2) (C := RX2) (T := TX2) (N := 2) hx hb hts iT_X2 hown hK1 hP 0 rfl rfl 1 (by decide) (hts _ t_124) (fun _ h9 => h9) rfl dX2_standsApart_53 ?_
      refine lv_iconst (v := 0) hx hb dX2_standsApart_56 (by decide) ?_
      refine va_iald hx hb hK1 hP 2 0 rfl rfl (vin (by decide)) dX2_standsApart_57 ?_
      refine lv_nmi (show _ = sd 0 from rfl) ?_
      refine lv_icmp_eq (tgt := 95) hx hb dX2_standsApart_58 (by decide) (fun c_5 => ?_) (fun c_5 => ?_)
      · skip
        refine lv_iconst (v := 0) hx hb dX2_standsApart_95 (by decide) ?_
        refine lv_istore_n (lv' := [(3, .int 0), (2, .int 1), (0, .ref og), (1, .int (nI w))]) hx hb dX2_standsApart_96 rfl hl (by decide) rfl (fun ls hl => ?_)
        refine lv_iload_n hx hb dX2_standsApart_97 rfl (lv_at hl 1 rfl) ?_
        refine lv_if_eq (tgt := 109) hx hb dX2_standsApart_98 (by decide) (fun c_6 => ?_) (fun c_6 => ?_)
        · exact absurd c_6 (by decide)
        refine lv_iload_n hx hb dX2_standsApart_101 rfl (lv_at hl 0 rfl) ?_
        refine lv_if_eq (tgt := 109) hx hb dX2_standsApart_102 (by decide) (fun c_7 => ?_) (fun c_7 => ?_)
        rotate_left
        · exact absurd c_7 (by decide)
        refine lv_iconst (v := 0) hx hb dX2_standsApart_109 (by decide) ?_
        exact hret _ _ _ _ _ _ 0 () dX2_standsApart_110 rfl hS (Nat.le_of_ble_eq_true rfl) (Nat.le_of_ble_eq_true rfl) (by simp [YN, sAp, c_1, c_2, c_5]) (hP.sub [0, 1, 2] rfl) (hD.sub [0, 1, 2] rfl rfl)
      · skip
        refine lv_aload_n hx hb dX2_standsApart_61 rfl (lv_at hl 1 rfl) ?_
        refine va_get (D := D) (ci := 2) (v := .ref o2) (C := RX2) (T := TX2) (N := 2) hx hb hts iT_X2 hown hK1 hP 0 rfl rfl 1 (by decide) (hts _ t_124) (fun _ h9 => h9) rfl dX2_standsApart_62 ?_
        refine lv_iconst (v := 3) hx hb dX2_standsApart_65 (by decide) ?_
        refine va_iald hx hb hK1 hP 2 0 rfl rfl (vin (by decide)) dX2_standsApart_66 ?_
        refine lv_nmi (show _ = sd 3 from rfl) ?_
        refine lv_aload_n hx hb dX2_standsApart_67 rfl (lv_at hl 1 rfl) ?_
        refine va_get (D := D) (ci := 2) (v := .ref o2) (C := RX2) (T := TX2) (N := 2) hx hb hts iT_X2 hown hK1 hP 0 rfl rfl 1 (by decide) (hts _ t_124) (fun _ h9 => h9) rfl dX2_standsApart_68 ?_
        refine lv_iconst (v := 1) hx hb dX2_standsApart_71 (by decide) ?_
        refine va_iald hx hb hK1 hP 2 0 rfl rfl (vin (by decide)) dX2_standsApart_72 ?_
        refine lv_nmi (show _ = sd 1 from rfl) ?_
        refine lv_icmp_eq (tgt := 95) hx hb dX2_standsApart_73 (by decide) (fun c_8 => ?_) (fun c_8 => ?_)
        · skip
          refine lv_iconst (v := 0) hx hb dX2_standsApart_95 (by decide) ?_
          refine lv_istore_n (lv' := [(3, .int 0), (2, .int 1), (0, .ref og), (1, .int (nI w))]) hx hb dX2_standsApart_96 rfl hl (by decide) rfl (fun ls hl => ?_)
          refine lv_iload_n hx hb dX2_standsApart_97 rfl (lv_at hl 1 rfl) ?_
          refine lv_if_eq (tgt := 109) hx hb dX2_standsApart_98 (by decide) (fun c_9 => ?_) (fun c_9 => ?_)
          · exact absurd c_9 (by decide)
          refine lv_iload_n hx hb dX2_standsApart_101 rfl (lv_at hl 0 rfl) ?_
          refine lv_if_eq (tgt := 109) hx hb dX2_standsApart_102 (by decide) (fun c_10 => ?_) (fun c_10 => ?_)
          rotate_left
          · exact absurd c_10 (by decide)
          refine lv_iconst (v := 0) hx hb dX2_standsApart_109 (by decide) ?_
          exact hret _ _ _ _ _ _ 0 () dX2_standsApart_110 rfl hS (Nat.le_of_ble_eq_true rfl) (Nat.le_of_ble_eq_true rfl) (by simp [YN, sAp, c_1, c_2, c_5, c_8]) (hP.sub [0, 1, 2] rfl) (hD.sub [0, 1, 2] rfl rfl)
        · skip
          refine lv_aload_n hx hb dX2_standsApart_76 rfl (lv_at hl 1 rfl) ?_
          refine va_get (D := D) (ci := 2) (v := .ref o2) (C := RX2) (T := TX2) (N := 2) hx hb hts iT_X2 hown hK1 hP 0 rfl rfl 1 (by decide) (hts _ t_124) (fun _ h9 => h9) rfl dX2_standsApart_77 ?_
          refine lv_iconst (v := 3) hx hb dX2_standsApart_80 (by decide) ?_
          refine va_iald hx hb hK1 hP 2 0 rfl rfl (vin (by decide)) dX2_standsApart_81 ?_
          refine lv_nmi (show _ = sd 3 from rfl) ?_
          refine lv_aload_n hx hb dX2_standsApart_82 rfl (lv_at hl 1 rfl) ?_
          refine va_get (D := D) (ci := 2) (v := .ref o2) (C := RX2) (T := TX2) (N := 2) hx hb hts iT_X2 hown hK1 hP 0 rfl rfl 1 (by decide) (hts _ t_124) (fun _ h9 => h9) rfl dX2_standsApart_83 ?_
          refine lv_iconst (v := 2) hx hb dX2_standsApart_86 (by decide) ?_
          refine va_iald hx hb hK1 hP 2 0 rfl rfl (vin (by decide)) dX2_standsApart_87 ?_
          refine lv_nmi (show _ = sd 2 from rfl) ?_
          refine lv_icmp_eq (tgt := 95) hx hb dX2_standsApart_88 (by decide) (fun c_11 => ?_) (fun c_11 => ?_)
          · skip
            refine lv_iconst (v := 0) hx hb dX2_standsApart_95 (by decide) ?_
            refine lv_istore_n (lv' := [(3, .int 0), (2, .int 1), (0, .ref og), (1, .int (nI w))]) hx hb dX2_standsApart_96 rfl hl (by decide) rfl (fun ls hl => ?_)
            refine lv_iload_n hx hb dX2_standsApart_97 rfl (lv_at hl 1 rfl) ?_
            refine lv_if_eq (tgt := 109) hx hb dX2_standsApart_98 (by decide) (fun c_12 => ?_) (fun c_12 => ?_)
            · exact absurd c_12 (by decide)
            refine lv_iload_n hx hb dX2_standsApart_101 rfl (lv_at hl 0 rfl) ?_
            refine lv_if_eq (tgt := 109) hx hb dX2_standsApart_102 (by decide) (fun c_13 => ?_) (fun c_13 => ?_)
            rotate_left
            · exact absurd c_13 (by decide)
            refine lv_iconst (v := 0) hx hb dX2_standsApart_109 (by decide) ?_
            exact hret _ _ _ _ _ _ 0 () dX2_standsApart_110 rfl hS (Nat.le_of_ble_eq_true rfl) (Nat.le_of_ble_eq_true rfl) (by simp [YN, sAp, c_1, c_2, c_5, c_8, c_11]) (hP.sub [0, 1, 2] rfl) (hD.sub [0, 1, 2] rfl rfl)
          · skip
            refine lv_iconst (v := 1) hx hb dX2_standsApart_91 (by decide) ?_
            refine lv_goto (tgt := 96) hx hb dX2_standsApart_92 (by decide) ?_
            refine lv_istore_n (lv' := [(3, .int 1), (2, .int 1), (0, .ref og), (1, .int (nI w))]) hx hb dX2_standsApart_96 rfl hl (by decide) rfl (fun ls hl => ?_)
            refine lv_iload_n hx hb dX2_standsApart_97 rfl (lv_at hl 1 rfl) ?_
            refine lv_if_eq (tgt := 109) hx hb dX2_standsApart_98 (by decide) (fun c_14 => ?_) (fun c_14 => ?_)
            · exact absurd c_14 (by decide)
            refine lv_iload_n hx hb dX2_standsApart_101 rfl (lv_at hl 0 rfl) ?_
            refine lv_if_eq (tgt := 109) hx hb dX2_standsApart_102 (by decide) (fun c_15 => ?_) (fun c_15 => ?_)
            · exact absurd c_15 (by decide)
            refine lv_iconst (v := 1) hx hb dX2_standsApart_105 (by decide) ?_
            refine lv_goto (tgt := 110) hx hb dX2_standsApart_106 (by decide) ?_
            exact hret _ _ _ _ _ _ 1 () dX2_standsApart_110 rfl hS (Nat.le_of_ble_eq_true rfl) (Nat.le_of_ble_eq_true rfl) (by simp [YN, sAp, c_1, c_2, c_5, c_8, c_11]) (hP.sub [0, 1, 2] rfl) (hD.sub [0, 1, 2] rfl rfl)
  · skip
    refine lv_aload_n hx hb dX2_standsApart_5 rfl (lv_at hl 0 rfl) ?_
    refine va_get (D := D) (ci := 2) (v := .ref o2) (C := RX2) (T := TX2) (N := 2) hx hb hts iT_X2 hown hK1 hP 0 rfl rfl 1 (by decide) (hts _ t_124) (fun _ h9 => h9) rfl dX2_standsApart_6 ?_
    refine lv_iconst (v := 2) hx hb dX2_standsApart_9 (by decide) ?_
    refine va_iald hx hb hK1 hP 2 0 rfl rfl (vin (by decide)) dX2_standsApart_10 ?_
    refine lv_nmi (show _ = sd 2 from rfl) ?_
    refine lv_aload_n hx hb dX2_standsApart_11 rfl (lv_at hl 0 rfl) ?_
    refine va_get (D := D) (ci := 2) (v := .ref o2) (C := RX2) (T := TX2) (N := 2) hx hb hts iT_X2 hown hK1 hP 0 rfl rfl 1 (by decide) (hts _ t_124) (fun _ h9 => h9) rfl dX2_standsApart_12 ?_
    refine lv_iconst (v := 0) hx hb dX2_standsApart_15 (by decide) ?_
    refine va_iald hx hb hK1 hP 2 0 rfl rfl (vin (by decide)) dX2_standsApart_16 ?_
    refine lv_nmi (show _ = sd 0 from rfl) ?_
    refine lv_icmp_eq (tgt := 39) hx hb dX2_standsApart_17 (by decide) (fun c_16 => ?_) (fun c_16 => ?_)
    · skip
      refine lv_iconst (v := 0) hx hb dX2_standsApart_39 (by decide) ?_
      refine lv_istore_n (lv' := [(2, .int 0), (0, .ref og), (1, .int (nI w))]) hx hb dX2_standsApart_40 rfl hl (by decide) rfl (fun ls hl => ?_)
      refine lv_iload_n hx hb dX2_standsApart_41 rfl (lv_at hl 2 rfl) ?_
      refine lv_iconst (v := 4) hx hb dX2_standsApart_42 (by decide) ?_
      refine lv_icmp_lt (tgt := 91) hx hb dX2_standsApart_43 (by decide) (fun c_17 => ?_) (fun c_17 => ?_)
      · skip
        refine lv_iconst (v := 1) hx hb dX2_standsApart_91 (by decide) ?_
        refine lv_goto (tgt := 96) hx hb dX2_standsApart_92 (by decide) ?_
        refine lv_istore_n (lv' := [(3, .int 1), (2, .int 0), (0, .ref og), (1, .int (nI w))]) hx hb dX2_standsApart_96 rfl hl (by decide) rfl (fun ls hl => ?_)
        refine lv_iload_n hx hb dX2_standsApart_97 rfl (lv_at hl 1 rfl) ?_
        refine lv_if_eq (tgt := 109) hx hb dX2_standsApart_98 (by decide) (fun c_18 => ?_) (fun c_18 => ?_)
        rotate_left
        · exact absurd c_18 (by decide)
        refine lv_iconst (v := 0) hx hb dX2_standsApart_109 (by decide) ?_
        exact hret _ _ _ _ _ _ 0 () dX2_standsApart_110 rfl hS (Nat.le_of_ble_eq_true rfl) (Nat.le_of_ble_eq_true rfl) (by simp [YN, sAp, c_1, c_16, c_17]) (hP.sub [0, 1, 2] rfl) (hD.sub [0, 1, 2] rfl rfl)
      · skip
        refine lv_aload_n hx hb dX2_standsApart_46 rfl (lv_at hl 1 rfl) ?_
        refine va_get (D := D) (ci := 2) (v := .ref o2) (C := RX2) (T := TX2) (N := 2) hx hb hts iT_X2 hown hK1 hP 0 rfl rfl 1 (by decide) (hts _ t_124) (fun _ h9 => h9) rfl dX2_standsApart_47 ?_
        refine lv_iconst (v := 3) hx hb dX2_standsApart_50 (by decide) ?_
        refine va_iald hx hb hK1 hP 2 0 rfl rfl (vin (by decide)) dX2_standsApart_51 ?_
        refine lv_nmi (show _ = sd 3 from rfl) ?_
        refine lv_aload_n hx hb dX2_standsApart_52 rfl (lv_at hl 1 rfl) ?_
        refine va_get (D := D) (ci := 2) (v := .ref o2) (C := RX2) (T := TX2) (N := 2) hx hb hts iT_X2 hown hK1 hP 0 rfl rfl 1 (by decide) (hts _ t_124) (fun _ h9 => h9) rfl dX2_standsApart_53 ?_
        refine lv_iconst (v := 0) hx hb dX2_standsApart_56 (by decide) ?_
        refine va_iald hx hb hK1 hP 2 0 rfl rfl (vin (by decide)) dX2_standsApart_57 ?_
        refine lv_nmi (show _ = sd 0 from rfl) ?_
        refine lv_icmp_eq (tgt := 95) hx hb dX2_standsApart_58 (by decide) (fun c_19 => ?_) (fun c_19 => ?_)
        · skip
          refine lv_iconst (v := 0) hx hb dX2_standsApart_95 (by decide) ?_
          refine lv_istore_n (lv' := [(3, .int 0), (2, .int 0), (0, .ref og), (1, .int (nI w))]) hx hb dX2_standsApart_96 rfl hl (by decide) rfl (fun ls hl => ?_)
          refine lv_iload_n hx hb dX2_standsApart_97 rfl (lv_at hl 1 rfl) ?_
          refine lv_if_eq (tgt := 109) hx hb dX2_standsApart_98 (by decide) (fun c_20 => ?_) (fun c_20 => ?_)
          rotate_left
          · exact absurd c_20 (by decide)
          refine lv_iconst (v := 0) hx hb dX2_standsApart_109 (by decide) ?_
          exact hret _ _ _ _ _ _ 0 () dX2_standsApart_110 rfl hS (Nat.le_of_ble_eq_true rfl) (Nat.le_of_ble_eq_true rfl) (by simp [YN, sAp, c_1, c_16, c_17, c_19]) (hP.sub [0, 1, 2] rfl) (hD.sub [0, 1, 2] rfl rfl)
        · skip
          refine lv_aload_n hx hb dX2_standsApart_61 rfl (lv_at hl 1 rfl) ?_
          refine va_get (D := D) (ci := 2) (v := .ref o2) (C := RX2) (T := TX2) (N := 2) hx hb hts iT_X2 hown hK1 hP 0 rfl rfl 1 (by decide) (hts _ t_124) (fun _ h9 => h9) rfl dX2_standsApart_62 ?_
          refine lv_iconst (v := 3) hx hb dX2_standsApart_65 (by decide) ?_
          refine va_iald hx hb hK1 hP 2 0 rfl rfl (vin (by decide)) dX2_standsApart_66 ?_
          refine lv_nmi (show _ = sd 3 from rfl) ?_
          refine lv_aload_n hx hb dX2_standsApart_67 rfl (lv_at hl 1 rfl) ?_
          refine va_get (D := D) (ci := 2) (v := .ref o2) (C := RX2) (T := TX2) (N := 2) hx hb hts iT_X2 hown hK1 hP 0 rfl rfl 1 (by decide) (hts _ t_124) (fun _ h9 => h9) rfl dX2_standsApart_68 ?_
          refine lv_iconst (v := 1) hx hb dX2_standsApart_71 (by decide) ?_
          refine va_iald hx hb hK1 hP 2 0 rfl rfl (vin (by decide)) dX2_standsApart_72 ?_
          refine lv_nmi (show _ = sd 1 from rfl) ?_
          refine lv_icmp_eq (tgt := 95) hx hb dX2_standsApart_73 (by decide) (fun c_21 => ?_) (fun c_21 => ?_)
          · skip
            refine lv_iconst (v := 0) hx hb dX2_standsApart_95 (by decide) ?_
            refine lv_istore_n (lv' := [(3, .int 0), (2, .int 0), (0, .ref og), (1, .int (nI w))]) hx hb dX2_standsApart_96 rfl hl (by decide) rfl (fun ls hl => ?_)
            refine lv_iload_n hx hb dX2_standsApart_97 rfl (lv_at hl 1 rfl) ?_
            refine lv_if_eq (tgt := 109) hx hb dX2_standsApart_98 (by decide) (fun c_22 => ?_) (fun c_22 => ?_)
            rotate_left
            · exact absurd c_22 (by decide)
            refine lv_iconst (v := 0) hx hb dX2_standsApart_109 (by decide) ?_
            exact hret _ _ _ _ _ _ 0 () dX2_standsApart_110 rfl hS (Nat.le_of_ble_eq_true rfl) (Nat.le_of_ble_eq_true rfl) (by simp [YN, sAp, c_1, c_16, c_17, c_19, c_21]) (hP.sub [0, 1, 2] rfl) (hD.sub [0, 1, 2] rfl rfl)
          · skip
            refine lv_aload_n hx hb dX2_standsApart_76 rfl (lv_at hl 1 rfl) ?_
            refine va_get (D := D) (ci := 2) (v := .ref o2) (C := RX2) (T := TX2) (N := 2) hx hb hts iT_X2 hown hK1 hP 0 rfl rfl 1 (by decide) (hts _ t_124) (fun _ h9 => h9) rfl dX2_standsApart_77 ?_
            refine lv_iconst (v := 3) hx hb dX2_standsApart_80 (by decide) ?_
            refine va_iald hx hb hK1 hP 2 0 rfl rfl (vin (by decide)) dX2_standsApart_81 ?_
            refine lv_nmi (show _ = sd 3 from rfl) ?_
            refine lv_aload_n hx hb dX2_standsApart_82 rfl (lv_at hl 1 rfl) ?_
            refine va_get (D := D) (ci := 2) (v := .ref o2) (C := RX2) (T := TX2) (N := 2) hx hb hts iT_X2 hown hK1 hP 0 rfl rfl 1 (by decide) (hts _ t_124) (fun _ h9 => h9) rfl dX2_standsApart_83 ?_
            refine lv_iconst (v := 2) hx hb dX2_standsApart_86 (by decide) ?_
            refine va_iald hx hb hK1 hP 2 0 rfl rfl (vin (by decide)) dX2_standsApart_87 ?_
            refine lv_nmi (show _ = sd 2 from rfl) ?_
            refine lv_icmp_eq (tgt := 95) hx hb dX2_standsApart_88 (by decide) (fun c_23 => ?_) (fun c_23 => ?_)
            · skip
              refine lv_iconst (v := 0) hx hb dX2_standsApart_95 (by decide) ?_
              refine lv_istore_n (lv' := [(3, .int 0), (2, .int 0), (0, .ref og), (1, .int (nI w))]) hx hb dX2_standsApart_96 rfl hl (by decide) rfl (fun ls hl => ?_)
              refine lv_iload_n hx hb dX2_standsApart_97 rfl (lv_at hl 1 rfl) ?_
              refine lv_if_eq (tgt := 109) hx hb dX2_standsApart_98 (by decide) (fun c_24 => ?_) (fun c_24 => ?_)
              rotate_left
              · exact absurd c_24 (by decide)
              refine lv_iconst (v := 0) hx hb dX2_standsApart_109 (by decide) ?_
              exact hret _ _ _ _ _ _ 0 () dX2_standsApart_110 rfl hS (Nat.le_of_ble_eq_true rfl) (Nat.le_of_ble_eq_true rfl) (by simp [YN, sAp, c_1, c_16, c_17, c_19, c_21, c_23]) (hP.sub [0, 1, 2] rfl) (hD.sub [0, 1, 2] rfl rfl)
            · skip
              refine lv_iconst (v := 1) hx hb dX2_standsApart_91 (by decide) ?_
              refine lv_goto (tgt := 96) hx hb dX2_standsApart_92 (by decide) ?_
              refine lv_istore_n (lv' := [(3, .int 1), (2, .int 0), (0, .ref og), (1, .int (nI w))]) hx hb dX2_standsApart_96 rfl hl (by decide) rfl (fun ls hl => ?_)
              refine lv_iload_n hx hb dX2_standsApart_97 rfl (lv_at hl 1 rfl) ?_
              refine lv_if_eq (tgt := 109) hx hb dX2_standsApart_98 (by decide) (fun c_25 => ?_) (fun c_25 => ?_)
              rotate_left
              · exact absurd c_25 (by decide)
              refine lv_iconst (v := 0) hx hb dX2_standsApart_109 (by decide) ?_
              exact hret _ _ _ _ _ _ 0 () dX2_standsApart_110 rfl hS (Nat.le_of_ble_eq_true rfl) (Nat.le_of_ble_eq_true rfl) (by simp [YN, sAp, c_1, c_16, c_17, c_19, c_21, c_23]) (hP.sub [0, 1, 2] rfl) (hD.sub [0, 1, 2] rfl rfl)
    · skip
      refine lv_aload_n hx hb dX2_standsApart_20 rfl (lv_at hl 0 rfl) ?_
      refine va_get (D := D) (ci := 2) (v := .ref o2) (C := RX2) (T := TX2) (N := 2) hx hb hts iT_X2 hown hK1 hP 0 rfl rfl 1 (by decide) (hts _ t_124) (fun _ h9 => h9) rfl dX2_standsApart_21 ?_
      refine lv_iconst (v := 2) hx hb dX2_standsApart_24 (by decide) ?_
      refine va_iald hx hb hK1 hP 2 0 rfl rfl (vin (by decide)) dX2_standsApart_25 ?_
      refine lv_nmi (show _ = sd 2 from rfl) ?_
      refine lv_aload_n hx hb dX2_standsApart_26 rfl (lv_at hl 0 rfl) ?_
      refine va_get (D := D) (ci := 2) (v := .ref o2) (C := RX2) (T := TX2) (N := 2) hx hb hts iT_X2 hown hK1 hP 0 rfl rfl 1 (by decide) (hts _ t_124) (fun _ h9 => h9) rfl dX2_standsApart_27 ?_
      refine lv_iconst (v := 1) hx hb dX2_standsApart_30 (by decide) ?_
      refine va_iald hx hb hK1 hP 2 0 rfl rfl (vin (by decide)) dX2_standsApart_31 ?_
      refine lv_nmi (show _ = sd 1 from rfl) ?_
      refine lv_icmp_eq (tgt := 39) hx hb dX2_standsApart_32 (by decide) (fun c_26 => ?_) (fun c_26 => ?_)
      · skip
        refine lv_iconst (v := 0) hx hb dX2_standsApart_39 (by decide) ?_
        refine lv_istore_n (lv' := [(2, .int 0), (0, .ref og), (1, .int (nI w))]) hx hb dX2_standsApart_40 rfl hl (by decide) rfl (fun ls hl => ?_)
        refine lv_iload_n hx hb dX2_standsApart_41 rfl (lv_at hl 2 rfl) ?_
        refine lv_iconst (v := 4) hx hb dX2_standsApart_42 (by decide) ?_
        refine lv_icmp_lt (tgt := 91) hx hb dX2_standsApart_43 (by decide) (fun c_27 => ?_) (fun c_27 => ?_)
        · skip
          refine lv_iconst (v := 1) hx hb dX2_standsApart_91 (by decide) ?_
          refine lv_goto (tgt := 96) hx hb dX2_standsApart_92 (by decide) ?_
          refine lv_istore_n (lv' := [(3, .int 1), (2, .int 0), (0, .ref og), (1, .int (nI w))]) hx hb dX2_standsApart_96 rfl hl (by decide) rfl (fun ls hl => ?_)
          refine lv_iload_n hx hb dX2_standsApart_97 rfl (lv_at hl 1 rfl) ?_
          refine lv_if_eq (tgt := 109) hx hb dX2_standsApart_98 (by decide) (fun c_28 => ?_) (fun c_28 => ?_)
          rotate_left
          · exact absurd c_28 (by decide)
          refine lv_iconst (v := 0) hx hb dX2_standsApart_109 (by decide) ?_
          exact hret _ _ _ _ _ _ 0 () dX2_standsApart_110 rfl hS (Nat.le_of_ble_eq_true rfl) (Nat.le_of_ble_eq_true rfl) (by simp [YN, sAp, c_1, c_16, c_26, c_27]) (hP.sub [0, 1, 2] rfl) (hD.sub [0, 1, 2] rfl rfl)
        · skip
          refine lv_aload_n hx hb dX2_standsApart_46 rfl (lv_at hl 1 rfl) ?_
          refine va_get (D := D) (ci := 2) (v := .ref o2) (C := RX2) (T := TX2) (N := 2) hx hb hts iT_X2 hown hK1 hP 0 rfl rfl 1 (by decide) (hts _ t_124) (fun _ h9 => h9) rfl dX2_standsApart_47 ?_
          refine lv_iconst (v := 3) hx hb dX2_standsApart_50 (by decide) ?_
          refine va_iald hx hb hK1 hP 2 0 rfl rfl (vin (by decide)) dX2_standsApart_51 ?_
          refine lv_nmi (show _ = sd 3 from rfl) ?_
          refine lv_aload_n hx hb dX2_standsApart_52 rfl (lv_at hl 1 rfl) ?_
          refine va_get (D := D) (ci := 2) (v := .ref o2) (C := RX2) (T := TX2) (N := 2) hx hb hts iT_X2 hown hK1 hP 0 rfl rfl 1 (by decide) (hts _ t_124) (fun _ h9 => h9) rfl dX2_standsApart_53 ?_
          refine lv_iconst (v := 0) hx hb dX2_standsApart_56 (by decide) ?_
          refine va_iald hx hb hK1 hP 2 0 rfl rfl (vin (by decide)) dX2_standsApart_57 ?_
          refine lv_nmi (show _ = sd 0 from rfl) ?_
          refine lv_icmp_eq (tgt := 95) hx hb dX2_standsApart_58 (by decide) (fun c_29 => ?_) (fun c_29 => ?_)
          · skip
            refine lv_iconst (v := 0) hx hb dX2_standsApart_95 (by decide) ?_
            refine lv_istore_n (lv' := [(3, .int 0), (2, .int 0), (0, .ref og), (1, .int (nI w))]) hx hb dX2_standsApart_96 rfl hl (by decide) rfl (fun ls hl => ?_)
            refine lv_iload_n hx hb dX2_standsApart_97 rfl (lv_at hl 1 rfl) ?_
            refine lv_if_eq (tgt := 109) hx hb dX2_standsApart_98 (by decide) (fun c_30 => ?_) (fun c_30 => ?_)
            rotate_left
            · exact absurd c_30 (by decide)
            refine lv_iconst (v := 0) hx hb dX2_standsApart_109 (by decide) ?_
            exact hret _ _ _ _ _ _ 0 () dX2_standsApart_110 rfl hS (Nat.le_of_ble_eq_true rfl) (Nat.le_of_ble_eq_true rfl) (by simp [YN, sAp, c_1, c_16, c_26, c_27, c_29]) (hP.sub [0, 1, 2] rfl) (hD.sub [0, 1, 2] rfl rfl)
          · skip
            refine lv_aload_n hx hb dX2_standsApart_61 rfl (lv_at hl 1 rfl) ?_
            refine va_get (D := D) (ci := 2) (v := .ref o2) (C := RX2) (T := TX2) (N := 2) hx hb hts iT_X2 hown hK1 hP 0 rfl rfl 1 (by decide) (hts _ t_124) (fun _ h9 => h9) rfl dX2_standsApart_62 ?_
            refine lv_iconst (v := 3) hx hb dX2_standsApart_65 (by decide) ?_
            refine va_iald hx hb hK1 hP 2 0 rfl rfl (vin (by decide)) dX2_standsApart_66 ?_
            refine lv_nmi (show _ = sd 3 from rfl) ?_
            refine lv_aload_n hx hb dX2_standsApart_67 rfl (lv_at hl 1 rfl) ?_
            refine va_get (D := D) (ci := 2) (v := .ref o2) (C := RX2) (T := TX2) (N := 2) hx hb hts iT_X2 hown hK1 hP 0 rfl rfl 1 (by decide) (hts _ t_124) (fun _ h9 => h9) rfl dX2_standsApart_68 ?_
            refine lv_iconst (v := 1) hx hb dX2_standsApart_71 (by decide) ?_
            refine va_iald hx hb hK1 hP 2 0 rfl rfl (vin (by decide)) dX2_standsApart_72 ?_
            refine lv_nmi (show _ = sd 1 from rfl) ?_
            refine lv_icmp_eq (tgt := 95) hx hb dX2_standsApart_73 (by decide) (fun c_31 => ?_) (fun c_31 => ?_)
            · skip
              refine lv_iconst (v := 0) hx hb dX2_standsApart_95 (by decide) ?_
              refine lv_istore_n (lv' := [(3, .int 0), (2, .int 0), (0, .ref og), (1, .int (nI w))]) hx hb dX2_standsApart_96 rfl hl (by decide) rfl (fun ls hl => ?_)
              refine lv_iload_n hx hb dX2_standsApart_97 rfl (lv_at hl 1 rfl) ?_
              refine lv_if_eq (tgt := 109) hx hb dX2_standsApart_98 (by decide) (fun c_32 => ?_) (fun c_32 => ?_)
              rotate_left
              · exact absurd c_32 (by decide)
              refine lv_iconst (v := 0) hx hb dX2_standsApart_109 (by decide) ?_
              exact hret _ _ _ _ _ _ 0 () dX2_standsApart_110 rfl hS (Nat.le_of_ble_eq_true rfl) (Nat.le_of_ble_eq_true rfl) (by simp [YN, sAp, c_1, c_16, c_26, c_27, c_29, c_31]) (hP.sub [0, 1, 2] rfl) (hD.sub [0, 1, 2] rfl rfl)
            · skip
              refine lv_aload_n hx hb dX2_standsApart_76 rfl (lv_at hl 1 rfl) ?_
              refine va_get (D := D) (ci := 2) (v := .ref o2) (C := RX2) (T := TX2) (N := 2) hx hb hts iT_X2 hown hK1 hP 0 rfl rfl 1 (by decide) (hts _ t_124) (fun _ h9 => h9) rfl dX2_standsApart_77 ?_
              refine lv_iconst (v := 3) hx hb dX2_standsApart_80 (by decide) ?_
              refine va_iald hx hb hK1 hP 2 0 rfl rfl (vin (by decide)) dX2_standsApart_81 ?_
              refine lv_nmi (show _ = sd 3 from rfl) ?_
              refine lv_aload_n hx hb dX2_standsApart_82 rfl (lv_at hl 1 rfl) ?_
              refine va_get (D := D) (ci := 2) (v := .ref o2) (C := RX2) (T := TX2) (N := 2) hx hb hts iT_X2 hown hK1 hP 0 rfl rfl 1 (by decide) (hts _ t_124) (fun _ h9 => h9) rfl dX2_standsApart_83 ?_
              refine lv_iconst (v := 2) hx hb dX2_standsApart_86 (by decide) ?_
              refine va_iald hx hb hK1 hP 2 0 rfl rfl (vin (by decide)) dX2_standsApart_87 ?_
              refine lv_nmi (show _ = sd 2 from rfl) ?_
              refine lv_icmp_eq (tgt := 95) hx hb dX2_standsApart_88 (by decide) (fun c_33 => ?_) (fun c_33 => ?_)
              · skip
                refine lv_iconst (v := 0) hx hb dX2_standsApart_95 (by decide) ?_
                refine lv_istore_n (lv' := [(3, .int 0), (2, .int 0), (0, .ref og), (1, .int (nI w))]) hx hb dX2_standsApart_96 rfl hl (by decide) rfl (fun ls hl => ?_)
                refine lv_iload_n hx hb dX2_standsApart_97 rfl (lv_at hl 1 rfl) ?_
                refine lv_if_eq (tgt := 109) hx hb dX2_standsApart_98 (by decide) (fun c_34 => ?_) (fun c_34 => ?_)
                rotate_left
                · exact absurd c_34 (by decide)
                refine lv_iconst (v := 0) hx hb dX2_standsApart_109 (by decide) ?_
                exact hret _ _ _ _ _ _ 0 () dX2_standsApart_110 rfl hS (Nat.le_of_ble_eq_true rfl) (Nat.le_of_ble_eq_true rfl) (by simp [YN, sAp, c_1, c_16, c_26, c_27, c_29, c_31, c_33]) (hP.sub [0, 1, 2] rfl) (hD.sub [0, 1, 2] rfl rfl)
              · skip
                refine lv_iconst (v := 1) hx hb dX2_standsApart_91 (by decide) ?_
                refine lv_goto (tgt := 96) hx hb dX2_standsApart_92 (by decide) ?_
                refine lv_istore_n (lv' := [(3, .int 1), (2, .int 0), (0, .ref og), (1, .int (nI w))]) hx hb dX2_standsApart_96 rfl hl (by decide) rfl (fun ls hl => ?_)
                refine lv_iload_n hx hb dX2_standsApart_97 rfl (lv_at hl 1 rfl) ?_
                refine lv_if_eq (tgt := 109) hx hb dX2_standsApart_98 (by decide) (fun c_35 => ?_) (fun c_35 => ?_)
                rotate_left
                · exact absurd c_35 (by decide)
                refine lv_iconst (v := 0) hx hb dX2_standsApart_109 (by decide) ?_
                exact hret _ _ _ _ _ _ 0 () dX2_standsApart_110 rfl hS (Nat.le_of_ble_eq_true rfl) (Nat.le_of_ble_eq_true rfl) (by simp [YN, sAp, c_1, c_16, c_26, c_27, c_29, c_31, c_33]) (hP.sub [0, 1, 2] rfl) (hD.sub [0, 1, 2] rfl rfl)
      · skip
        refine lv_iconst (v := 1) hx hb dX2_standsApart_35 (by decide) ?_
        refine lv_goto (tgt := 40) hx hb dX2_standsApart_36 (by decide) ?_
        refine lv_istore_n (lv' := [(2, .int 1), (0, .ref og), (1, .int (nI w))]) hx hb dX2_standsApart_40 rfl hl (by decide) rfl (fun ls hl => ?_)
        refine lv_iload_n hx hb dX2_standsApart_41 rfl (lv_at hl 2 rfl) ?_
        refine lv_iconst (v := 4) hx hb dX2_standsApart_42 (by decide) ?_
        refine lv_icmp_lt (tgt := 91) hx hb dX2_standsApart_43 (by decide) (fun c_36 => ?_) (fun c_36 => ?_)
        · skip
          refine lv_iconst (v := 1) hx hb dX2_standsApart_91 (by decide) ?_
          refine lv_goto (tgt := 96) hx hb dX2_standsApart_92 (by decide) ?_
          refine lv_istore_n (lv' := [(3, .int 1), (2, .int 1), (0, .ref og), (1, .int (nI w))]) hx hb dX2_standsApart_96 rfl hl (by decide) rfl (fun ls hl => ?_)
          refine lv_iload_n hx hb dX2_standsApart_97 rfl (lv_at hl 1 rfl) ?_
          refine lv_if_eq (tgt := 109) hx hb dX2_standsApart_98 (by decide) (fun c_37 => ?_) (fun c_37 => ?_)
          · exact absurd c_37 (by decide)
          refine lv_iload_n hx hb dX2_standsApart_101 rfl (lv_at hl 0 rfl) ?_
          refine lv_if_eq (tgt := 109) hx hb dX2_standsApart_102 (by decide) (fun c_38 => ?_) (fun c_38 => ?_)
          · exact absurd c_38 (by decide)
          refine lv_iconst (v := 1) hx hb dX2_standsApart_105 (by decide) ?_
          refine lv_goto (tgt := 110) hx hb dX2_standsApart_106 (by decide) ?_
          exact hret _ _ _ _ _ _ 1 () dX2_standsApart_110 rfl hS (Nat.le_of_ble_eq_true rfl) (Nat.le_of_ble_eq_true rfl) (by simp [YN, sAp, c_1, c_16, c_26, c_36]) (hP.sub [0, 1, 2] rfl) (hD.sub [0, 1, 2] rfl rfl)
        · skip
          refine lv_aload_n hx hb dX2_standsApart_46 rfl (lv_at hl 1 rfl) ?_
          refine va_get (D := D) (ci := 2) (v := .ref o2) (C := RX2) (T := TX2) (N := 2) hx hb hts iT_X2 hown hK1 hP 0 rfl rfl 1 (by decide) (hts _ t_124) (fun _ h9 => h9) rfl dX2_standsApart_47 ?_
          refine lv_iconst (v := 3) hx hb dX2_standsApart_50 (by decide) ?_
          refine va_iald hx hb hK1 hP 2 0 rfl rfl (vin (by decide)) dX2_standsApart_51 ?_
          refine lv_nmi (show _ = sd 3 from rfl) ?_
          refine lv_aload_n hx hb dX2_standsApart_52 rfl (lv_at hl 1 rfl) ?_
          refine va_get (D := D) (ci := 2) (v := .ref o2) (C := RX2) (T := TX2) (N := 2) hx hb hts iT_X2 hown hK1 hP 0 rfl rfl 1 (by decide) (hts _ t_124) (fun _ h9 => h9) rfl dX2_standsApart_53 ?_
          refine lv_iconst (v := 0) hx hb dX2_standsApart_56 (by decide) ?_
          refine va_iald hx hb hK1 hP 2 0 rfl rfl (vin (by decide)) dX2_standsApart_57 ?_
          refine lv_nmi (show _ = sd 0 from rfl) ?_
          refine lv_icmp_eq (tgt := 95) hx hb dX2_standsApart_58 (by decide) (fun c_39 => ?_) (fun c_39 => ?_)
          · skip
            refine lv_iconst (v := 0) hx hb dX2_standsApart_95 (by decide) ?_
            refine lv_istore_n (lv' := [(3, .int 0), (2, .int 1), (0, .ref og), (1, .int (nI w))]) hx hb dX2_standsApart_96 rfl hl (by decide) rfl (fun ls hl => ?_)
            refine lv_iload_n hx hb dX2_standsApart_97 rfl (lv_at hl 1 rfl) ?_
            refine lv_if_eq (tgt := 109) hx hb dX2_standsApart_98 (by decide) (fun c_40 => ?_) (fun c_40 => ?_)
            · exact absurd c_40 (by decide)
            refine lv_iload_n hx hb dX2_standsApart_101 rfl (lv_at hl 0 rfl) ?_
            refine lv_if_eq (tgt := 109) hx hb dX2_standsApart_102 (by decide) (fun c_41 => ?_) (fun c_41 => ?_)
            rotate_left
            · exact absurd c_41 (by decide)
            refine lv_iconst (v := 0) hx hb dX2_standsApart_109 (by decide) ?_
            exact hret _ _ _ _ _ _ 0 () dX2_standsApart_110 rfl hS (Nat.le_of_ble_eq_true rfl) (Nat.le_of_ble_eq_true rfl) (by simp [YN, sAp, c_1, c_16, c_26, c_36, c_39]) (hP.sub [0, 1, 2] rfl) (hD.sub [0, 1, 2] rfl rfl)
          · skip
            refine lv_aload_n hx hb dX2_standsApart_61 rfl (lv_at hl 1 rfl) ?_
            refine va_get (D := D) (ci := 2) (v := .ref o2) (C := RX2) (T := TX2) (N := 2) hx hb hts iT_X2 hown hK1 hP 0 rfl rfl 1 (by decide) (hts _ t_124) (fun _ h9 => h9) rfl dX2_standsApart_62 ?_
            refine lv_iconst (v := 3) hx hb dX2_standsApart_65 (by decide) ?_
            refine va_iald hx hb hK1 hP 2 0 rfl rfl (vin (by decide)) dX2_standsApart_66 ?_
            refine lv_nmi (show _ = sd 3 from rfl) ?_
            refine lv_aload_n hx hb dX2_standsApart_67 rfl (lv_at hl 1 rfl) ?_
            refine va_get (D := D) (ci := 2) (v := .ref o2) (C := RX2) (T := TX2) (N := 2) hx hb hts iT_X2 hown hK1 hP 0 rfl rfl 1 (by decide) (hts _ t_124) (fun _ h9 => h9) rfl dX2_standsApart_68 ?_
            refine lv_iconst (v := 1) hx hb dX2_standsApart_71 (by decide) ?_
            refine va_iald hx hb hK1 hP 2 0 rfl rfl (vin (by decide)) dX2_standsApart_72 ?_
            refine lv_nmi (show _ = sd 1 from rfl) ?_
            refine lv_icmp_eq (tgt := 95) hx hb dX2_standsApart_73 (by decide) (fun c_42 => ?_) (fun c_42 => ?_)
            · skip
              refine lv_iconst (v := 0) hx hb dX2_standsApart_95 (by decide) ?_
              refine lv_istore_n (lv' := [(3, .int 0), (2, .int 1), (0, .ref og), (1, .int (nI w))]) hx hb dX2_standsApart_96 rfl hl (by decide) rfl (fun ls hl => ?_)
              refine lv_iload_n hx hb dX2_standsApart_97 rfl (lv_at hl 1 rfl) ?_
              refine lv_if_eq (tgt := 109) hx hb dX2_standsApart_98 (by decide) (fun c_43 => ?_) (fun c_43 => ?_)
              · exact absurd c_43 (by decide)
              refine lv_iload_n hx hb dX2_standsApart_101 rfl (lv_at hl 0 rfl) ?_
              refine lv_if_eq (tgt := 109) hx hb dX2_standsApart_102 (by decide) (fun c_44 => ?_) (fun c_44 => ?_)
              rotate_left
              · exact absurd c_44 (by decide)
              refine lv_iconst (v := 0) hx hb dX2_standsApart_109 (by decide) ?_
              exact hret _ _ _ _ _ _ 0 () dX2_standsApart_110 rfl hS (Nat.le_of_ble_eq_true rfl) (Nat.le_of_ble_eq_true rfl) (by simp [YN, sAp, c_1, c_16, c_26, c_36, c_39, c_42]) (hP.sub [0, 1, 2] rfl) (hD.sub [0, 1, 2] rfl rfl)
            · skip
              refine lv_aload_n hx hb dX2_standsApart_76 rfl (lv_at hl 1 rfl) ?_
              refine va_get (D := D) (ci := 2) (v := .ref o2) (C := RX2) (T := TX2) (N := 2) hx hb hts iT_X2 hown hK1 hP 0 rfl rfl 1 (by decide) (hts _ t_124) (fun _ h9 => h9) rfl dX2_standsApart_77 ?_
              refine lv_iconst (v := 3) hx hb dX2_standsApart_80 (by decide) ?_
              refine va_iald hx hb hK1 hP 2 0 rfl rfl (vin (by decide)) dX2_standsApart_81 ?_
              refine lv_nmi (show _ = sd 3 from rfl) ?_
              refine lv_aload_n hx hb dX2_standsApart_82 rfl (lv_at hl 1 rfl) ?_
              refine va_get (D := D) (ci := 2) (v := .ref o2) (C := RX2) (T := TX2) (N := 2) hx hb hts iT_X2 hown hK1 hP 0 rfl rfl 1 (by decide) (hts _ t_124) (fun _ h9 => h9) rfl dX2_standsApart_83 ?_
              refine lv_iconst (v := 2) hx hb dX2_standsApart_86 (by decide) ?_
              refine va_iald hx hb hK1 hP 2 0 rfl rfl (vin (by decide)) dX2_standsApart_87 ?_
              refine lv_nmi (show _ = sd 2 from rfl) ?_
              refine lv_icmp_eq (tgt := 95) hx hb dX2_standsApart_88 (by decide) (fun c_45 => ?_) (fun c_45 => ?_)
              · skip
                refine lv_iconst (v := 0) hx hb dX2_standsApart_95 (by decide) ?_
                refine lv_istore_n (lv' := [(3, .int 0), (2, .int 1), (0, .ref og), (1, .int (nI w))]) hx hb dX2_standsApart_96 rfl hl (by decide) rfl (fun ls hl => ?_)
                refine lv_iload_n hx hb dX2_standsApart_97 rfl (lv_at hl 1 rfl) ?_
                refine lv_if_eq (tgt := 109) hx hb dX2_standsApart_98 (by decide) (fun c_46 => ?_) (fun c_46 => ?_)
                · exact absurd c_46 (by decide)
                refine lv_iload_n hx hb dX2_standsApart_101 rfl (lv_at hl 0 rfl) ?_
                refine lv_if_eq (tgt := 109) hx hb dX2_standsApart_102 (by decide) (fun c_47 => ?_) (fun c_47 => ?_)
                rotate_left
                · exact absurd c_47 (by decide)
                refine lv_iconst (v := 0) hx hb dX2_standsApart_109 (by decide) ?_
                exact hret _ _ _ _ _ _ 0 () dX2_standsApart_110 rfl hS (Nat.le_of_ble_eq_true rfl) (Nat.le_of_ble_eq_true rfl) (by simp [YN, sAp, c_1, c_16, c_26, c_36, c_39, c_42, c_45]) (hP.sub [0, 1, 2] rfl) (hD.sub [0, 1, 2] rfl rfl)
              · skip
                refine lv_iconst (v := 1) hx hb dX2_standsApart_91 (by decide) ?_
                refine lv_goto (tgt := 96) hx hb dX2_standsApart_92 (by decide) ?_
                refine lv_istore_n (lv' := [(3, .int 1), (2, .int 1), (0, .ref og), (1, .int (nI w))]) hx hb dX2_standsApart_96 rfl hl (by decide) rfl (fun ls hl => ?_)
                refine lv_iload_n hx hb dX2_standsApart_97 rfl (lv_at hl 1 rfl) ?_
                refine lv_if_eq (tgt := 109) hx hb dX2_standsApart_98 (by decide) (fun c_48 => ?_) (fun c_48 => ?_)
                · exact absurd c_48 (by decide)
                refine lv_iload_n hx hb dX2_standsApart_101 rfl (lv_at hl 0 rfl) ?_
                refine lv_if_eq (tgt := 109) hx hb dX2_standsApart_102 (by decide) (fun c_49 => ?_) (fun c_49 => ?_)
                · exact absurd c_49 (by decide)
                refine lv_iconst (v := 1) hx hb dX2_standsApart_105 (by decide) ?_
                refine lv_goto (tgt := 110) hx hb dX2_standsApart_106 (by decide) ?_
                exact hret _ _ _ _ _ _ 1 () dX2_standsApart_110 rfl hS (Nat.le_of_ble_eq_true rfl) (Nat.le_of_ble_eq_true rfl) (by simp [YN, sAp, c_1, c_16, c_26, c_36, c_39, c_42, c_45]) (hP.sub [0, 1, 2] rfl) (hD.sub [0, 1, 2] rfl rfl)
set_option maxHeartbeats 4000000 in
set_option maxRecDepth 100000 in
theorem g_bySlot_0 (sz : Nat) (og : Nat) (o1 : Nat) (o2 : Nat) (fg : Nat) (f1 : Nat) (f2 : Nat) (f3 : Nat) (n9 : Nat) (v : Nat) (rl : Nat) (b0 : Nat) (a1 : Nat) (a2 : Nat) (a3 : Nat) (s0 : Nat) (w0 : Nat) (u0 : Nat) (pt : Nat) (jj : Nat) (gr : GR) (sf : Nat → Int32) (sd : Nat → Int32) (g1 : Nat → Int32) (g2 : Nat → Int32) (g3 : Nat → Int32) (op : Int32) (en : Int32) (ev : Int32) (x1 : Nat → Int32) (x2 : Nat → Int32) (x3 : Nat → Int32) (x4 : Nat → Int32) (x5 : Nat → Int32) (x6 : Nat → Int32) (hn5 : n9 ≤ 5) (hv5 : v ≤ 5) (hG : GI n9 v g1 g2 g3) (hJ : RJ gr jj en ev x2 x3 x4) (hsd : SDn 4 sd) (hT : TBI sf) (hpt : pt < 32) : CTi l D cI cJ cZ cR yX2_bySlot cX2_bySlot 8 (some .int) 1 25 0 0 sz [.ref og, .ref fg, .int (nI pt), .ref rl, .int 0] [kX2 og o1 o2, kI cI o1 2400 sf, kI cI o2 4 sd, kX0 fg f1 f2 f3 (nI n9) (nI v), kI cI f1 12 g1, kI cI f2 12 g2, kI cI f3 12 g3, kX4 rl op b0 s0 w0 u0, kX0 b0 a1 a2 a3 en ev, kI cI a1 3 x1, kI cI a2 3 x2, kI cI a3 3 x3, kI cI s0 3 x4, kI cI w0 64 x5, kI cI u0 64 x6] (fun (r : Int32) (u : Nat) => (r = (nI u)) ∧ (zLs zF9 (zSl (gC n9 v g1 g2 g3) gr (TD zF9 (tbl sf)) jj 0 (fun k_9 => tn (sd k_9)) pt) u)) (fun (u : Nat) => [kX2 og o1 o2, kI cI o1 2400 sf, kI cI o2 4 sd, kX0 fg f1 f2 f3 (nI n9) (nI v), kI cI f1 12 g1, kI cI f2 12 g2, kI cI f3 12 g3, kX4 rl op b0 s0 w0 u0, kX0 b0 a1 a2 a3 en ev, kI cI a1 3 x1, kI cI a2 3 x2, kI cI a3 3 x3, kI cI s0 3 x4, kI cI w0 64 x5, kI cI u0 64 x6]) := by
  refine CTi.of (ty := .int) (by decide) (Nat.le_of_ble_eq_true rfl) rfl ?_
  intro p e s m below meth c A Q ls hd hin hK hsz hP hD hA hS hl hret
  obtain ⟨hx, hb, hml, hown, hts⟩ := id hd
  have hK1 := hK.1
  have hown : s.vm.findClass RX2 = some m.cls := hown
  have hl : lv_has ls 8 [(0, .ref og), (1, .ref fg), (2, .int (nI pt)), (3, .ref rl), (4, .int 0)] := hl
  refine lv_aload_n hx hb dX2_bySlot_0 rfl (lv_at hl 3 rfl) ?_
  refine va_get (D := D) (ci := 4) (v := .ref s0) (C := RX4) (T := TX4) (N := 5) hx hb hts iT_X4 hown hK1 hP 7 rfl rfl 2 (by decide) (hts _ t_87) (fun _ h9 => h9) rfl dX2_bySlot_1 ?_
  refine lv_iload hx hb dX2_bySlot_4 (lv_at hl 4 rfl) ?_
  refine va_iald hx hb hK1 hP 12 0 rfl rfl (vin (by decide)) dX2_bySlot_6 ?_
  refine lv_nmi (show _ = x4 0 from rfl) ?_
  refine lv_istore (lv' := [(5, .int (x4 0)), (0, .ref og), (1, .ref fg), (2, .int (nI pt)), (3, .ref rl), (4, .int 0)]) hx hb dX2_bySlot_7 hl (by decide) rfl (fun ls hl => ?_)
  refine lv_iload hx hb dX2_bySlot_9 (lv_at hl 0 rfl) ?_
  refine lv_iconst (v := 5) hx hb dX2_bySlot_11 (by decide) ?_
  refine lv_icmp_eq (tgt := 19) hx hb dX2_bySlot_12 (by decide) (fun c_1 => ?_) (fun c_1 => ?_)
  · skip
    refine lv_iload hx hb dX2_bySlot_19 (lv_at hl 0 rfl) ?_
    refine lv_iconst (v := 5) hx hb dX2_bySlot_21 (by decide) ?_
    refine lv_icmp_ne (tgt := 33) hx hb dX2_bySlot_22 (by decide) (fun c_2 => ?_) (fun c_2 => ?_)
    · exact absurd c_1 c_2
    refine lv_iload_n hx hb dX2_bySlot_25 rfl (lv_at hl 3 rfl) ?_
    refine lv_if_ne (tgt := 33) hx hb dX2_bySlot_26 (by decide) (fun c_3 => ?_) (fun c_3 => ?_)
    · skip
      refine lv_ldc hx hb hown (hts _ t_388) dX2_bySlot_33 ?_
      exact hret _ _ _ _ _ _ 536870912 536870912 dX2_bySlot_35 rfl hS (Nat.le_of_ble_eq_true rfl) (Nat.le_of_ble_eq_true rfl) ⟨rfl, sl_b ((RJ_5 hJ (by decide)).mp c_1) (fun e => c_3 (by rw [e]; rfl))⟩ (hP.sub [0, 1, 2, 3, 4, 5, 6, 7, 8, 9, 10, 11, 12, 13, 14] rfl) (hD.sub [0, 1, 2, 3, 4, 5, 6, 7, 8, 9, 10, 11, 12, 13, 14] rfl rfl)
    · skip
      refine lv_iconst (v := 0) hx hb dX2_bySlot_29 (by decide) ?_
      refine lv_goto (tgt := 35) hx hb dX2_bySlot_30 (by decide) ?_
      exact hret _ _ _ _ _ _ 0 0 dX2_bySlot_35 rfl hS (Nat.le_of_ble_eq_true rfl) (Nat.le_of_ble_eq_true rfl) (by have e9 := (nI_eq (a := pt) (b := 0) (by omega) (by decide)).mp c_3; rw [e9]; exact ⟨rfl, sl_a ((RJ_5 hJ (by decide)).mp c_1)⟩) (hP.sub [0, 1, 2, 3, 4, 5, 6, 7, 8, 9, 10, 11, 12, 13, 14] rfl) (hD.sub [0, 1, 2, 3, 4, 5, 6, 7, 8, 9, 10, 11, 12, 13, 14] rfl rfl)
  · skip
    refine lv_iload_n hx hb dX2_bySlot_15 rfl (lv_at hl 3 rfl) ?_
    refine lv_if_ne (tgt := 36) hx hb dX2_bySlot_16 (by decide) (fun c_4 => ?_) (fun c_4 => ?_)
    · skip
      obtain ⟨hlt, e4, hL5, hF4, hT4, e2, e3⟩ := RJ_l hJ (by decide : 0 < 3) c_1
      obtain ⟨ew1, hw1⟩ := SDn_tn hsd hF4
      obtain ⟨ew2, hw2⟩ := SDn_tn hsd hT4
      have hp0 : ¬ pt = 0 := fun e => c_4 (by rw [e]; rfl)
      have hl : lv_has ls 8 [(5, .int (nI (yL gr jj 0))), (0, .ref og), (1, .ref fg), (2, .int (nI pt)), (3, .ref rl), (4, .int 0)] := by rw [← e4]; exact hl
      refine lv_aload_n hx hb dX2_bySlot_36 rfl (lv_at hl 1 rfl) ?_
      refine va_get (D := D) (ci := 2) (v := .ref o2) (C := RX2) (T := TX2) (N := 2) hx hb hts iT_X2 hown hK1 hP 0 rfl rfl 1 (by decide) (hts _ t_124) (fun _ h9 => h9) rfl dX2_bySlot_37 ?_
      refine lv_aload_n hx hb dX2_bySlot_40 rfl (lv_at hl 4 rfl) ?_
      refine va_get (D := D) (ci := 4) (v := .ref b0) (C := RX4) (T := TX4) (N := 5) hx hb hts iT_X4 hown hK1 hP 7 rfl rfl 1 (by decide) (hts _ t_84) (fun _ h9 => h9) rfl dX2_bySlot_41 ?_
      refine va_get (D := D) (ci := 0) (v := .ref a2) (C := RX0) (T := TX0) (N := 5) hx hb hts iT_X0 hown hK1 hP 8 rfl rfl 1 (by decide) (hts _ t_59) (fun _ h9 => h9) rfl dX2_bySlot_44 ?_
      refine lv_iload hx hb dX2_bySlot_47 (lv_at hl 5 rfl) ?_
      refine va_iald hx hb hK1 hP 10 0 rfl rfl (vin (by decide)) dX2_bySlot_49 ?_
      refine lv_nmi (show _ = x2 0 from rfl) ?_
      refine lv_nmi (show _ = (nI (yF gr jj 0) : Int32) from e2) ?_
      refine va_iald hx hb hK1 hP 2 0 rfl rfl (vp_in_nI (by omega) (by omega)) dX2_bySlot_50 ?_
      refine lv_nmi (show _ = sd (yF gr jj 0) from by rw [nI_clamp (n := (yF gr jj 0)) (by omega)]) ?_
      refine lv_nmi (show _ = (nI (tn (sd (yF gr jj 0))) : Int32) from ew1) ?_
      refine lv_istore (lv' := [(6, .int (nI (tn (sd (yF gr jj 0))))), (5, .int (nI (yL gr jj 0))), (0, .ref og), (1, .ref fg), (2, .int (nI pt)), (3, .ref rl), (4, .int 0)]) hx hb dX2_bySlot_51 hl (by decide) rfl (fun ls hl => ?_)
      refine lv_aload_n hx hb dX2_bySlot_53 rfl (lv_at hl 2 rfl) ?_
      refine va_get (D := D) (ci := 2) (v := .ref o2) (C := RX2) (T := TX2) (N := 2) hx hb hts iT_X2 hown hK1 hP 0 rfl rfl 1 (by decide) (hts _ t_124) (fun _ h9 => h9) rfl dX2_bySlot_54 ?_
      refine lv_aload_n hx hb dX2_bySlot_57 rfl (lv_at hl 5 rfl) ?_
      refine va_get (D := D) (ci := 4) (v := .ref b0) (C := RX4) (T := TX4) (N := 5) hx hb hts iT_X4 hown hK1 hP 7 rfl rfl 1 (by decide) (hts _ t_84) (fun _ h9 => h9) rfl dX2_bySlot_58 ?_
      refine va_get (D := D) (ci := 0) (v := .ref a3) (C := RX0) (T := TX0) (N := 5) hx hb hts iT_X0 hown hK1 hP 8 rfl rfl 2 (by decide) (hts _ t_61) (fun _ h9 => h9) rfl dX2_bySlot_61 ?_
      refine lv_iload hx hb dX2_bySlot_64 (lv_at hl 6 rfl) ?_
      refine va_iald hx hb hK1 hP 11 0 rfl rfl (vin (by decide)) dX2_bySlot_66 ?_
      refine lv_nmi (show _ = x3 0 from rfl) ?_
      refine lv_nmi (show _ = (nI (yT gr jj 0) : Int32) from e3) ?_
      refine va_iald hx hb hK1 hP 2 0 rfl rfl (vp_in_nI (by omega) (by omega)) dX2_bySlot_67 ?_
      refine lv_nmi (show _ = sd (yT gr jj 0) from by rw [nI_clamp (n := (yT gr jj 0)) (by omega)]) ?_
      refine lv_nmi (show _ = (nI (tn (sd (yT gr jj 0))) : Int32) from ew2) ?_
      refine lv_istore (lv' := [(7, .int (nI (tn (sd (yT gr jj 0))))), (6, .int (nI (tn (sd (yF gr jj 0))))), (5, .int (nI (yL gr jj 0))), (0, .ref og), (1, .ref fg), (2, .int (nI pt)), (3, .ref rl), (4, .int 0)]) hx hb dX2_bySlot_68 hl (by decide) rfl (fun ls hl => ?_)
      refine lv_iload hx hb dX2_bySlot_70 (lv_at hl 2 rfl) ?_
      refine xc_i (wc := []) (wr := [kX2 og o1 o2, kI cI o1 2400 sf, kI cI o2 4 sd, kX0 fg f1 f2 f3 (nI n9) (nI v), kI cI f1 12 g1, kI cI f2 12 g2, kI cI f3 12 g3, kX4 rl op b0 s0 w0 u0, kX0 b0 a1 a2 a3 en ev, kI cI a1 3 x1, kI cI a2 3 x2, kI cI a3 3 x3, kI cI s0 3 x4, kI cI w0 64 x5, kI cI u0 64 x6]) (xrSN (n := 1) (As := [.int (nI (yL gr jj 0))]) (rest := []) hd hK hP hD (c_X6_isOpen l D cI cJ cZ cR _ (nI (yL gr jj 0)) ) mS_X6_isOpen.2.2 mS_X6_isOpen.1 mS_X6_isOpen.2.1 hK.2.2.2.2.2.2.2.1 hS_X6_isOpen ⟨(Nat.le_of_ble_eq_true rfl), (Nat.le_of_ble_eq_true rfl)⟩ [] rfl rfl rfl hl.1 rfl (Nat.le_of_ble_eq_true rfl) dX2_bySlot_72 ⟨(Nat.le_of_ble_eq_true rfl), (Nat.le_of_ble_eq_true rfl)⟩) hP hD hS hA [] [0, 1, 2, 3, 4, 5, 6, 7, 8, 9, 10, 11, 12, 13, 14] rfl rfl rfl (by decide) (fun r_5 u_6 H locs hw_7 hP hD hS => ?_)
      have hw_8 : r_5 = (opn (nI (yL gr jj 0))) := hw_7
      subst hw_8
      have hP : va_P D vwCl [kX2 og o1 o2, kI cI o1 2400 sf, kI cI o2 4 sd, kX0 fg f1 f2 f3 (nI n9) (nI v), kI cI f1 12 g1, kI cI f2 12 g2, kI cI f3 12 g3, kX4 rl op b0 s0 w0 u0, kX0 b0 a1 a2 a3 en ev, kI cI a1 3 x1, kI cI a2 3 x2, kI cI a3 3 x3, kI cI s0 3 x4, kI cI w0 64 x5, kI cI u0 64 x6] H := hP
      have hD : va_D A [kX2 og o1 o2, kI cI o1 2400 sf, kI cI o2 4 sd, kX0 fg f1 f2 f3 (nI n9) (nI v), kI cI f1 12 g1, kI cI f2 12 g2, kI cI f3 12 g3, kX4 rl op b0 s0 w0 u0, kX0 b0 a1 a2 a3 en ev, kI cI a1 3 x1, kI cI a2 3 x2, kI cI a3 3 x3, kI cI s0 3 x4, kI cI w0 64 x5, kI cI u0 64 x6] := hD
      refine lv_if_eq (tgt := 94) hx hb dX2_bySlot_75 (by decide) (fun c_9 => ?_) (fun c_9 => ?_)
      · skip
        refine lv_aload_n hx hb dX2_bySlot_94 rfl (lv_at hl 4 rfl) ?_
        refine lv_iload_n hx hb dX2_bySlot_95 rfl (lv_at hl 5 rfl) ?_
        refine lv_iload hx hb dX2_bySlot_96 (lv_at hl 2 rfl) ?_
        refine lv_iload hx hb dX2_bySlot_98 (lv_at hl 1 rfl) ?_
        refine lv_iload hx hb dX2_bySlot_100 (lv_at hl 0 rfl) ?_
        refine xc_i (wc := [kX0 fg f1 f2 f3 (nI n9) (nI v), kI cI f1 12 g1, kI cI f2 12 g2, kI cI f3 12 g3]) (wr := [kX2 og o1 o2, kI cI o1 2400 sf, kI cI o2 4 sd, kX4 rl op b0 s0 w0 u0, kX0 b0 a1 a2 a3 en ev, kI cI a1 3 x1, kI cI a2 3 x2, kI cI a3 3 x3, kI cI s0 3 x4, kI cI w0 64 x5, kI cI u0 64 x6]) (xrV (n := 4) (As := [.int (nI pt), .int (nI (yL gr jj 0)), .int (nI (tn (sd (yF gr jj 0)))), .int (nI (tn (sd (yT gr jj 0))))]) (rest := []) (ci := 0) (q0 := 3) hd hK hP hD (c_X0_isEdge l D cI cJ cZ cR _ fg f1 f2 f3 12 n9 v pt (yL gr jj 0) (tn (sd (yF gr jj 0))) (tn (sd (yT gr jj 0))) g1 g2 g3 (by decide) (by omega) hn5 hv5 hG hpt hL5 hw1 hw2) (gV t_430 mV_X0_isEdge) hV_X0_isEdge ⟨(Nat.le_of_ble_eq_true rfl), (Nat.le_of_ble_eq_true rfl)⟩ rfl rfl [3, 4, 5, 6] rfl rfl rfl hl.1 rfl (Nat.le_of_ble_eq_true rfl) dX2_bySlot_102 ⟨(Nat.le_of_ble_eq_true rfl), (Nat.le_of_ble_eq_true rfl)⟩) hP hD hS hA [3, 4, 5, 6] [0, 1, 2, 7, 8, 9, 10, 11, 12, 13, 14] rfl rfl rfl (by decide) (fun r_10 u_11 H locs hw_12 hP hD hS => ?_)
        have hw_13 : YN r_10 (zEd (gC n9 v g1 g2 g3) pt (yL gr jj 0) (tn (sd (yF gr jj 0))) (tn (sd (yT gr jj 0)))) := hw_12
        have hE := hw_13
        have hP : va_P D vwCl [kX2 og o1 o2, kI cI o1 2400 sf, kI cI o2 4 sd, kX4 rl op b0 s0 w0 u0, kX0 b0 a1 a2 a3 en ev, kI cI a1 3 x1, kI cI a2 3 x2, kI cI a3 3 x3, kI cI s0 3 x4, kI cI w0 64 x5, kI cI u0 64 x6, kX0 fg f1 f2 f3 (nI n9) (nI v), kI cI f1 12 g1, kI cI f2 12 g2, kI cI f3 12 g3] H := hP
        have hD : va_D A [kX2 og o1 o2, kI cI o1 2400 sf, kI cI o2 4 sd, kX4 rl op b0 s0 w0 u0, kX0 b0 a1 a2 a3 en ev, kI cI a1 3 x1, kI cI a2 3 x2, kI cI a3 3 x3, kI cI s0 3 x4, kI cI w0 64 x5, kI cI u0 64 x6, kX0 fg f1 f2 f3 (nI n9) (nI v), kI cI f1 12 g1, kI cI f2 12 g2, kI cI f3 12 g3] := hD
        refine lv_if_eq (tgt := 112) hx hb dX2_bySlot_105 (by decide) (fun c_14 => ?_) (fun c_14 => ?_)
        · skip
          refine lv_ldc hx hb hown (hts _ t_388) dX2_bySlot_112 ?_
          exact hret _ _ _ _ _ _ 536870912 536870912 dX2_bySlot_114 rfl hS (Nat.le_of_ble_eq_true rfl) (Nat.le_of_ble_eq_true rfl) ⟨rfl, sl_f hlt ((opn_k (by omega)).mp c_9) (hE.no c_14)⟩ (hP.sub [0, 1, 2, 11, 12, 13, 14, 3, 4, 5, 6, 7, 8, 9, 10] rfl) (hD.sub [0, 1, 2, 11, 12, 13, 14, 3, 4, 5, 6, 7, 8, 9, 10] rfl rfl)
        · skip
          refine lv_iconst (v := 0) hx hb dX2_bySlot_108 (by decide) ?_
          refine lv_goto (tgt := 114) hx hb dX2_bySlot_109 (by decide) ?_
          exact hret _ _ _ _ _ _ 0 0 dX2_bySlot_114 rfl hS (Nat.le_of_ble_eq_true rfl) (Nat.le_of_ble_eq_true rfl) ⟨rfl, sl_e hlt hp0 ((opn_k (by omega)).mp c_9) (hE.of c_14)⟩ (hP.sub [0, 1, 2, 11, 12, 13, 14, 3, 4, 5, 6, 7, 8, 9, 10] rfl) (hD.sub [0, 1, 2, 11, 12, 13, 14, 3, 4, 5, 6, 7, 8, 9, 10] rfl rfl)
      · skip
        have ha3 := Nat.lt_of_not_le (fun q => c_9 ((opn_k (by omega)).mpr q))
        refine lv_aload_n hx hb dX2_bySlot_78 rfl (lv_at hl 3 rfl) ?_
        refine va_get (D := D) (ci := 2) (v := .ref o1) (C := RX2) (T := TX2) (N := 2) hx hb hts iT_X2 hown hK1 hP 0 rfl rfl 0 (by decide) (hts _ t_123) (fun _ h9 => h9) rfl dX2_bySlot_79 ?_
        refine lv_iload hx hb dX2_bySlot_82 (lv_at hl 2 rfl) ?_
        refine lv_iload_n hx hb dX2_bySlot_84 rfl (lv_at hl 5 rfl) ?_
        refine lv_iload hx hb dX2_bySlot_85 (lv_at hl 1 rfl) ?_
        refine lv_iload hx hb dX2_bySlot_87 (lv_at hl 0 rfl) ?_
        refine xc_i (wc := []) (wr := [kX2 og o1 o2, kI cI o1 2400 sf, kI cI o2 4 sd, kX0 fg f1 f2 f3 (nI n9) (nI v), kI cI f1 12 g1, kI cI f2 12 g2, kI cI f3 12 g3, kX4 rl op b0 s0 w0 u0, kX0 b0 a1 a2 a3 en ev, kI cI a1 3 x1, kI cI a2 3 x2, kI cI a3 3 x3, kI cI s0 3 x4, kI cI w0 64 x5, kI cI u0 64 x6]) (xrS (n := 4) (As := [.int (nI (yL gr jj 0)), .int (nI pt), .int (nI (tn (sd (yF gr jj 0)))), .int (nI (tn (sd (yT gr jj 0))))]) (rest := [.ref o1]) hd hK hP hD (c_X2_at l D cI cJ cZ cR _ (yL gr jj 0) pt (tn (sd (yF gr jj 0))) (tn (sd (yT gr jj 0))) ) (gS t_410 mS_X2_at) hS_X2_at ⟨(Nat.le_of_ble_eq_true rfl), (Nat.le_of_ble_eq_true rfl)⟩ [] rfl rfl rfl hl.1 rfl (Nat.le_of_ble_eq_true rfl) dX2_bySlot_89 ⟨(Nat.le_of_ble_eq_true rfl), (Nat.le_of_ble_eq_true rfl)⟩) hP hD hS hA [] [0, 1, 2, 3, 4, 5, 6, 7, 8, 9, 10, 11, 12, 13, 14] rfl rfl rfl (by decide) (fun r_15 u_16 H locs hw_17 hP hD hS => ?_)
        have hw_18 : r_15 = (nI (((((((yL gr jj 0) * 32) + pt) * 5) + (tn (sd (yF gr jj 0)))) * 5) + (tn (sd (yT gr jj 0))))) := hw_17
        subst hw_18
        have hP : va_P D vwCl [kX2 og o1 o2, kI cI o1 2400 sf, kI cI o2 4 sd, kX0 fg f1 f2 f3 (nI n9) (nI v), kI cI f1 12 g1, kI cI f2 12 g2, kI cI f3 12 g3, kX4 rl op b0 s0 w0 u0, kX0 b0 a1 a2 a3 en ev, kI cI a1 3 x1, kI cI a2 3 x2, kI cI a3 3 x3, kI cI s0 3 x4, kI cI w0 64 x5, kI cI u0 64 x6] H := hP
        have hD : va_D A [kX2 og o1 o2, kI cI o1 2400 sf, kI cI o2 4 sd, kX0 fg f1 f2 f3 (nI n9) (nI v), kI cI f1 12 g1, kI cI f2 12 g2, kI cI f3 12 g3, kX4 rl op b0 s0 w0 u0, kX0 b0 a1 a2 a3 en ev, kI cI a1 3 x1, kI cI a2 3 x2, kI cI a3 3 x3, kI cI s0 3 x4, kI cI w0 64 x5, kI cI u0 64 x6] := hD
        refine va_iald hx hb hK1 hP 1 0 rfl rfl (vp_in_nI (by omega) (by omega)) dX2_bySlot_92 ?_
        refine lv_nmi (show _ = sf (((((((yL gr jj 0) * 32) + pt) * 5) + (tn (sd (yF gr jj 0)))) * 5) + (tn (sd (yT gr jj 0)))) from by rw [nI_clamp (n := (((((((yL gr jj 0) * 32) + pt) * 5) + (tn (sd (yF gr jj 0)))) * 5) + (tn (sd (yT gr jj 0))))) (by omega)]) ?_
        refine lv_nmi (show _ = (nI (tbl sf (yL gr jj 0) pt (tn (sd (yF gr jj 0))) (tn (sd (yT gr jj 0)))) : Int32) from (TBI_at hT (by omega)).1) ?_
        exact hret _ _ _ _ _ _ (nI (tbl sf (yL gr jj 0) pt (tn (sd (yF gr jj 0))) (tn (sd (yT gr jj 0))))) (tbl sf (yL gr jj 0) pt (tn (sd (yF gr jj 0))) (tn (sd (yT gr jj 0)))) dX2_bySlot_93 rfl hS (Nat.le_of_ble_eq_true rfl) (Nat.le_of_ble_eq_true rfl) ⟨rfl, sl_d hlt hp0 hpt hw1 hw2 ha3 (TBI_at hT (by omega)).2⟩ (hP.sub [0, 1, 2, 3, 4, 5, 6, 7, 8, 9, 10, 11, 12, 13, 14] rfl) (hD.sub [0, 1, 2, 3, 4, 5, 6, 7, 8, 9, 10, 11, 12, 13, 14] rfl rfl)
    · skip
      refine lv_iload hx hb dX2_bySlot_19 (lv_at hl 0 rfl) ?_
      refine lv_iconst (v := 5) hx hb dX2_bySlot_21 (by decide) ?_
      refine lv_icmp_ne (tgt := 33) hx hb dX2_bySlot_22 (by decide) (fun c_19 => ?_) (fun c_19 => ?_)
      rotate_left
      · exact absurd c_19 c_1
      refine lv_ldc hx hb hown (hts _ t_388) dX2_bySlot_33 ?_
      exact hret _ _ _ _ _ _ 536870912 536870912 dX2_bySlot_35 rfl hS (Nat.le_of_ble_eq_true rfl) (Nat.le_of_ble_eq_true rfl) (by have e9 := (nI_eq (a := pt) (b := 0) (by omega) (by decide)).mp c_4; rw [e9]; exact ⟨rfl, sl_c (RJ_l hJ (by decide) c_1).1⟩) (hP.sub [0, 1, 2, 3, 4, 5, 6, 7, 8, 9, 10, 11, 12, 13, 14] rfl) (hD.sub [0, 1, 2, 3, 4, 5, 6, 7, 8, 9, 10, 11, 12, 13, 14] rfl rfl)
set_option maxHeartbeats 4000000 in
set_option maxRecDepth 100000 in
theorem g_bySlot_1 (sz : Nat) (og : Nat) (o1 : Nat) (o2 : Nat) (fg : Nat) (f1 : Nat) (f2 : Nat) (f3 : Nat) (n9 : Nat) (v : Nat) (rl : Nat) (b0 : Nat) (a1 : Nat) (a2 : Nat) (a3 : Nat) (s0 : Nat) (w0 : Nat) (u0 : Nat) (pt : Nat) (jj : Nat) (gr : GR) (sf : Nat → Int32) (sd : Nat → Int32) (g1 : Nat → Int32) (g2 : Nat → Int32) (g3 : Nat → Int32) (op : Int32) (en : Int32) (ev : Int32) (x1 : Nat → Int32) (x2 : Nat → Int32) (x3 : Nat → Int32) (x4 : Nat → Int32) (x5 : Nat → Int32) (x6 : Nat → Int32) (hn5 : n9 ≤ 5) (hv5 : v ≤ 5) (hG : GI n9 v g1 g2 g3) (hJ : RJ gr jj en ev x2 x3 x4) (hsd : SDn 4 sd) (hT : TBI sf) (hpt : pt < 32) : CTi l D cI cJ cZ cR yX2_bySlot cX2_bySlot 8 (some .int) 1 25 0 0 sz [.ref og, .ref fg, .int (nI pt), .ref rl, .int 1] [kX2 og o1 o2, kI cI o1 2400 sf, kI cI o2 4 sd, kX0 fg f1 f2 f3 (nI n9) (nI v), kI cI f1 12 g1, kI cI f2 12 g2, kI cI f3 12 g3, kX4 rl op b0 s0 w0 u0, kX0 b0 a1 a2 a3 en ev, kI cI a1 3 x1, kI cI a2 3 x2, kI cI a3 3 x3, kI cI s0 3 x4, kI cI w0 64 x5, kI cI u0 64 x6] (fun (r : Int32) (u : Nat) => (r = (nI u)) ∧ (zLs zF9 (zSl (gC n9 v g1 g2 g3) gr (TD zF9 (tbl sf)) jj 1 (fun k_9 => tn (sd k_9)) pt) u)) (fun (u : Nat) => [kX2 og o1 o2, kI cI o1 2400 sf, kI cI o2 4 sd, kX0 fg f1 f2 f3 (nI n9) (nI v), kI cI f1 12 g1, kI cI f2 12 g2, kI cI f3 12 g3, kX4 rl op b0 s0 w0 u0, kX0 b0 a1 a2 a3 en ev, kI cI a1 3 x1, kI cI a2 3 x2, kI cI a3 3 x3, kI cI s0 3 x4, kI cI w0 64 x5, kI cI u0 64 x6]) := by
  refine CTi.of (ty := .int) (by decide) (Nat.le_of_ble_eq_true rfl) rfl ?_
  intro p e s m below meth c A Q ls hd hin hK hsz hP hD hA hS hl hret
  obtain ⟨hx, hb, hml, hown, hts⟩ := id hd
  have hK1 := hK.1
  have hown : s.vm.findClass RX2 = some m.cls := hown
  have hl : lv_has ls 8 [(0, .ref og), (1, .ref fg), (2, .int (nI pt)), (3, .ref rl), (4, .int 1)] := hl
  refine lv_aload_n hx hb dX2_bySlot_0 rfl (lv_at hl 3 rfl) ?_
  refine va_get (D := D) (ci := 4) (v := .ref s0) (C := RX4) (T := TX4) (N := 5) hx hb hts iT_X4 hown hK1 hP 7 rfl rfl 2 (by decide) (hts _ t_87) (fun _ h9 => h9) rfl dX2_bySlot_1 ?_
  refine lv_iload hx hb dX2_bySlot_4 (lv_at hl 4 rfl) ?_
  refine va_iald hx hb hK1 hP 12 0 rfl rfl (vin (by decide)) dX2_bySlot_6 ?_
  refine lv_nmi (show _ = x4 1 from rfl) ?_
  refine lv_istore (lv' := [(5, .int (x4 1)), (0, .ref og), (1, .ref fg), (2, .int (nI pt)), (3, .ref rl), (4, .int 1)]) hx hb dX2_bySlot_7 hl (by decide) rfl (fun ls hl => ?_)
  refine lv_iload hx hb dX2_bySlot_9 (lv_at hl 0 rfl) ?_
  refine lv_iconst (v := 5) hx hb dX2_bySlot_11 (by decide) ?_
  refine lv_icmp_eq (tgt := 19) hx hb dX2_bySlot_12 (by decide) (fun c_1 => ?_) (fun c_1 => ?_)
  · skip
    refine lv_iload hx hb dX2_bySlot_19 (lv_at hl 0 rfl) ?_
    refine lv_iconst (v := 5) hx hb dX2_bySlot_21 (by decide) ?_
    refine lv_icmp_ne (tgt := 33) hx hb dX2_bySlot_22 (by decide) (fun c_2 => ?_) (fun c_2 => ?_)
    · exact absurd c_1 c_2
    refine lv_iload_n hx hb dX2_bySlot_25 rfl (lv_at hl 3 rfl) ?_
    refine lv_if_ne (tgt := 33) hx hb dX2_bySlot_26 (by decide) (fun c_3 => ?_) (fun c_3 => ?_)
    · skip
      refine lv_ldc hx hb hown (hts _ t_388) dX2_bySlot_33 ?_
      exact hret _ _ _ _ _ _ 536870912 536870912 dX2_bySlot_35 rfl hS (Nat.le_of_ble_eq_true rfl) (Nat.le_of_ble_eq_true rfl) ⟨rfl, sl_b ((RJ_5 hJ (by decide)).mp c_1) (fun e => c_3 (by rw [e]; rfl))⟩ (hP.sub [0, 1, 2, 3, 4, 5, 6, 7, 8, 9, 10, 11, 12, 13, 14] rfl) (hD.sub [0, 1, 2, 3, 4, 5, 6, 7, 8, 9, 10, 11, 12, 13, 14] rfl rfl)
    · skip
      refine lv_iconst (v := 0) hx hb dX2_bySlot_29 (by decide) ?_
      refine lv_goto (tgt := 35) hx hb dX2_bySlot_30 (by decide) ?_
      exact hret _ _ _ _ _ _ 0 0 dX2_bySlot_35 rfl hS (Nat.le_of_ble_eq_true rfl) (Nat.le_of_ble_eq_true rfl) (by have e9 := (nI_eq (a := pt) (b := 0) (by omega) (by decide)).mp c_3; rw [e9]; exact ⟨rfl, sl_a ((RJ_5 hJ (by decide)).mp c_1)⟩) (hP.sub [0, 1, 2, 3, 4, 5, 6, 7, 8, 9, 10, 11, 12, 13, 14] rfl) (hD.sub [0, 1, 2, 3, 4, 5, 6, 7, 8, 9, 10, 11, 12, 13, 14] rfl rfl)
  · skip
    refine lv_iload_n hx hb dX2_bySlot_15 rfl (lv_at hl 3 rfl) ?_
    refine lv_if_ne (tgt := 36) hx hb dX2_bySlot_16 (by decide) (fun c_4 => ?_) (fun c_4 => ?_)
    · skip
      obtain ⟨hlt, e4, hL5, hF4, hT4, e2, e3⟩ := RJ_l hJ (by decide : 1 < 3) c_1
      obtain ⟨ew1, hw1⟩ := SDn_tn hsd hF4
      obtain ⟨ew2, hw2⟩ := SDn_tn hsd hT4
      have hp0 : ¬ pt = 0 := fun e => c_4 (by rw [e]; rfl)
      have hl : lv_has ls 8 [(5, .int (nI (yL gr jj 1))), (0, .ref og), (1, .ref fg), (2, .int (nI pt)), (3, .ref rl), (4, .int 1)] := by rw [← e4]; exact hl
      refine lv_aload_n hx hb dX2_bySlot_36 rfl (lv_at hl 1 rfl) ?_
      refine va_get (D := D) (ci := 2) (v := .ref o2) (C := RX2) (T := TX2) (N := 2) hx hb hts iT_X2 hown hK1 hP 0 rfl rfl 1 (by decide) (hts _ t_124) (fun _ h9 => h9) rfl dX2_bySlot_37 ?_
      refine lv_aload_n hx hb dX2_bySlot_40 rfl (lv_at hl 4 rfl) ?_
      refine va_get (D := D) (ci := 4) (v := .ref b0) (C := RX4) (T := TX4) (N := 5) hx hb hts iT_X4 hown hK1 hP 7 rfl rfl 1 (by decide) (hts _ t_84) (fun _ h9 => h9) rfl dX2_bySlot_41 ?_
      refine va_get (D := D) (ci := 0) (v := .ref a2) (C := RX0) (T := TX0) (N := 5) hx hb hts iT_X0 hown hK1 hP 8 rfl rfl 1 (by decide) (hts _ t_59) (fun _ h9 => h9) rfl dX2_bySlot_44 ?_
      refine lv_iload hx hb dX2_bySlot_47 (lv_at hl 5 rfl) ?_
      refine va_iald hx hb hK1 hP 10 0 rfl rfl (vin (by decide)) dX2_bySlot_49 ?_
      refine lv_nmi (show _ = x2 1 from rfl) ?_
      refine lv_nmi (show _ = (nI (yF gr jj 1) : Int32) from e2) ?_
      refine va_iald hx hb hK1 hP 2 0 rfl rfl (vp_in_nI (by omega) (by omega)) dX2_bySlot_50 ?_
      refine lv_nmi (show _ = sd (yF gr jj 1) from by rw [nI_clamp (n := (yF gr jj 1)) (by omega)]) ?_
      refine lv_nmi (show _ = (nI (tn (sd (yF gr jj 1))) : Int32) from ew1) ?_
      refine lv_istore (lv' := [(6, .int (nI (tn (sd (yF gr jj 1))))), (5, .int (nI (yL gr jj 1))), (0, .ref og), (1, .ref fg), (2, .int (nI pt)), (3, .ref rl), (4, .int 1)]) hx hb dX2_bySlot_51 hl (by decide) rfl (fun ls hl => ?_)
      refine lv_aload_n hx hb dX2_bySlot_53 rfl (lv_at hl 2 rfl) ?_
      refine va_get (D := D) (ci := 2) (v := .ref o2) (C := RX2) (T := TX2) (N := 2) hx hb hts iT_X2 hown hK1 hP 0 rfl rfl 1 (by decide) (hts _ t_124) (fun _ h9 => h9) rfl dX2_bySlot_54 ?_
      refine lv_aload_n hx hb dX2_bySlot_57 rfl (lv_at hl 5 rfl) ?_
      refine va_get (D := D) (ci := 4) (v := .ref b0) (C := RX4) (T := TX4) (N := 5) hx hb hts iT_X4 hown hK1 hP 7 rfl rfl 1 (by decide) (hts _ t_84) (fun _ h9 => h9) rfl dX2_bySlot_58 ?_
      refine va_get (D := D) (ci := 0) (v := .ref a3) (C := RX0) (T := TX0) (N := 5) hx hb hts iT_X0 hown hK1 hP 8 rfl rfl 2 (by decide) (hts _ t_61) (fun _ h9 => h9) rfl dX2_bySlot_61 ?_
      refine lv_iload hx hb dX2_bySlot_64 (lv_at hl 6 rfl) ?_
      refine va_iald hx hb hK1 hP 11 0 rfl rfl (vin (by decide)) dX2_bySlot_66 ?_
      refine lv_nmi (show _ = x3 1 from rfl) ?_
      refine lv_nmi (show _ = (nI (yT gr jj 1) : Int32) from e3) ?_
      refine va_iald hx hb hK1 hP 2 0 rfl rfl (vp_in_nI (by omega) (by omega)) dX2_bySlot_67 ?_
      refine lv_nmi (show _ = sd (yT gr jj 1) from by rw [nI_clamp (n := (yT gr jj 1)) (by omega)]) ?_
      refine lv_nmi (show _ = (nI (tn (sd (yT gr jj 1))) : Int32) from ew2) ?_
      refine lv_istore (lv' := [(7, .int (nI (tn (sd (yT gr jj 1))))), (6, .int (nI (tn (sd (yF gr jj 1))))), (5, .int (nI (yL gr jj 1))), (0, .ref og), (1, .ref fg), (2, .int (nI pt)), (3, .ref rl), (4, .int 1)]) hx hb dX2_bySlot_68 hl (by decide) rfl (fun ls hl => ?_)
      refine lv_iload hx hb dX2_bySlot_70 (lv_at hl 2 rfl) ?_
      refine xc_i (wc := []) (wr := [kX2 og o1 o2, kI cI o1 2400 sf, kI cI o2 4 sd, kX0 fg f1 f2 f3 (nI n9) (nI v), kI cI f1 12 g1, kI cI f2 12 g2, kI cI f3 12 g3, kX4 rl op b0 s0 w0 u0, kX0 b0 a1 a2 a3 en ev, kI cI a1 3 x1, kI cI a2 3 x2, kI cI a3 3 x3, kI cI s0 3 x4, kI cI w0 64 x5, kI cI u0 64 x6]) (xrSN (n := 1) (As := [.int (nI (yL gr jj 1))]) (rest := []) hd hK hP hD (c_X6_isOpen l D cI cJ cZ cR _ (nI (yL gr jj 1)) ) mS_X6_isOpen.2.2 mS_X6_isOpen.1 mS_X6_isOpen.2.1 hK.2.2.2.2.2.2.2.1 hS_X6_isOpen ⟨(Nat.le_of_ble_eq_true rfl), (Nat.le_of_ble_eq_true rfl)⟩ [] rfl rfl rfl hl.1 rfl (Nat.le_of_ble_eq_true rfl) dX2_bySlot_72 ⟨(Nat.le_of_ble_eq_true rfl), (Nat.le_of_ble_eq_true rfl)⟩) hP hD hS hA [] [0, 1, 2, 3, 4, 5, 6, 7, 8, 9, 10, 11, 12, 13, 14] rfl rfl rfl (by decide) (fun r_5 u_6 H locs hw_7 hP hD hS => ?_)
      have hw_8 : r_5 = (opn (nI (yL gr jj 1))) := hw_7
      subst hw_8
      have hP : va_P D vwCl [kX2 og o1 o2, kI cI o1 2400 sf, kI cI o2 4 sd, kX0 fg f1 f2 f3 (nI n9) (nI v), kI cI f1 12 g1, kI cI f2 12 g2, kI cI f3 12 g3, kX4 rl op b0 s0 w0 u0, kX0 b0 a1 a2 a3 en ev, kI cI a1 3 x1, kI cI a2 3 x2, kI cI a3 3 x3, kI cI s0 3 x4, kI cI w0 64 x5, kI cI u0 64 x6] H := hP
      have hD : va_D A [kX2 og o1 o2, kI cI o1 2400 sf, kI cI o2 4 sd, kX0 fg f1 f2 f3 (nI n9) (nI v), kI cI f1 12 g1, kI cI f2 12 g2, kI cI f3 12 g3, kX4 rl op b0 s0 w0 u0, kX0 b0 a1 a2 a3 en ev, kI cI a1 3 x1, kI cI a2 3 x2, kI cI a3 3 x3, kI cI s0 3 x4, kI cI w0 64 x5, kI cI u0 64 x6] := hD
      refine lv_if_eq (tgt := 94) hx hb dX2_bySlot_75 (by decide) (fun c_9 => ?_) (fun c_9 => ?_)
      · skip
        refine lv_aload_n hx hb dX2_bySlot_94 rfl (lv_at hl 4 rfl) ?_
        refine lv_iload_n hx hb dX2_bySlot_95 rfl (lv_at hl 5 rfl) ?_
        refine lv_iload hx hb dX2_bySlot_96 (lv_at hl 2 rfl) ?_
        refine lv_iload hx hb dX2_bySlot_98 (lv_at hl 1 rfl) ?_
        refine lv_iload hx hb dX2_bySlot_100 (lv_at hl 0 rfl) ?_
        refine xc_i (wc := [kX0 fg f1 f2 f3 (nI n9) (nI v), kI cI f1 12 g1, kI cI f2 12 g2, kI cI f3 12 g3]) (wr := [kX2 og o1 o2, kI cI o1 2400 sf, kI cI o2 4 sd, kX4 rl op b0 s0 w0 u0, kX0 b0 a1 a2 a3 en ev, kI cI a1 3 x1, kI cI a2 3 x2, kI cI a3 3 x3, kI cI s0 3 x4, kI cI w0 64 x5, kI cI u0 64 x6]) (xrV (n := 4) (As := [.int (nI pt), .int (nI (yL gr jj 1)), .int (nI (tn (sd (yF gr jj 1)))), .int (nI (tn (sd (yT gr jj 1))))]) (rest := []) (ci := 0) (q0 := 3) hd hK hP hD (c_X0_isEdge l D cI cJ cZ cR _ fg f1 f2 f3 12 n9 v pt (yL gr jj 1) (tn (sd (yF gr jj 1))) (tn (sd (yT gr jj 1))) g1 g2 g3 (by decide) (by omega) hn5 hv5 hG hpt hL5 hw1 hw2) (gV t_430 mV_X0_isEdge) hV_X0_isEdge ⟨(Nat.le_of_ble_eq_true rfl), (Nat.le_of_ble_eq_true rfl)⟩ rfl rfl [3, 4, 5, 6] rfl rfl rfl hl.1 rfl (Nat.le_of_ble_eq_true rfl) dX2_bySlot_102 ⟨(Nat.le_of_ble_eq_true rfl), (Nat.le_of_ble_eq_true rfl)⟩) hP hD hS hA [3, 4, 5, 6] [0, 1, 2, 7, 8, 9, 10, 11, 12, 13, 14] rfl rfl rfl (by decide) (fun r_10 u_11 H locs hw_12 hP hD hS => ?_)
        have hw_13 : YN r_10 (zEd (gC n9 v g1 g2 g3) pt (yL gr jj 1) (tn (sd (yF gr jj 1))) (tn (sd (yT gr jj 1)))) := hw_12
        have hE := hw_13
        have hP : va_P D vwCl [kX2 og o1 o2, kI cI o1 2400 sf, kI cI o2 4 sd, kX4 rl op b0 s0 w0 u0, kX0 b0 a1 a2 a3 en ev, kI cI a1 3 x1, kI cI a2 3 x2, kI cI a3 3 x3, kI cI s0 3 x4, kI cI w0 64 x5, kI cI u0 64 x6, kX0 fg f1 f2 f3 (nI n9) (nI v), kI cI f1 12 g1, kI cI f2 12 g2, kI cI f3 12 g3] H := hP
        have hD : va_D A [kX2 og o1 o2, kI cI o1 2400 sf, kI cI o2 4 sd, kX4 rl op b0 s0 w0 u0, kX0 b0 a1 a2 a3 en ev, kI cI a1 3 x1, kI cI a2 3 x2, kI cI a3 3 x3, kI cI s0 3 x4, kI cI w0 64 x5, kI cI u0 64 x6, kX0 fg f1 f2 f3 (nI n9) (nI v), kI cI f1 12 g1, kI cI f2 12 g2, kI cI f3 12 g3] := hD
        refine lv_if_eq (tgt := 112) hx hb dX2_bySlot_105 (by decide) (fun c_14 => ?_) (fun c_14 => ?_)
        · skip
          refine lv_ldc hx hb hown (hts _ t_388) dX2_bySlot_112 ?_
          exact hret _ _ _ _ _ _ 536870912 536870912 dX2_bySlot_114 rfl hS (Nat.le_of_ble_eq_true rfl) (Nat.le_of_ble_eq_true rfl) ⟨rfl, sl_f hlt ((opn_k (by omega)).mp c_9) (hE.no c_14)⟩ (hP.sub [0, 1, 2, 11, 12, 13, 14, 3, 4, 5, 6, 7, 8, 9, 10] rfl) (hD.sub [0, 1, 2, 11, 12, 13, 14, 3, 4, 5, 6, 7, 8, 9, 10] rfl rfl)
        · skip
          refine lv_iconst (v := 0) hx hb dX2_bySlot_108 (by decide) ?_
          refine lv_goto (tgt := 114) hx hb dX2_bySlot_109 (by decide) ?_
          exact hret _ _ _ _ _ _ 0 0 dX2_bySlot_114 rfl hS (Nat.le_of_ble_eq_true rfl) (Nat.le_of_ble_eq_true rfl) ⟨rfl, sl_e hlt hp0 ((opn_k (by omega)).mp c_9) (hE.of c_14)⟩ (hP.sub [0, 1, 2, 11, 12, 13, 14, 3, 4, 5, 6, 7, 8, 9, 10] rfl) (hD.sub [0, 1, 2, 11, 12, 13, 14, 3, 4, 5, 6, 7, 8, 9, 10] rfl rfl)
      · skip
        have ha3 := Nat.lt_of_not_le (fun q => c_9 ((opn_k (by omega)).mpr q))
        refine lv_aload_n hx hb dX2_bySlot_78 rfl (lv_at hl 3 rfl) ?_
        refine va_get (D := D) (ci := 2) (v := .ref o1) (C := RX2) (T := TX2) (N := 2) hx hb hts iT_X2 hown hK1 hP 0 rfl rfl 0 (by decide) (hts _ t_123) (fun _ h9 => h9) rfl dX2_bySlot_79 ?_
        refine lv_iload hx hb dX2_bySlot_82 (lv_at hl 2 rfl) ?_
        refine lv_iload_n hx hb dX2_bySlot_84 rfl (lv_at hl 5 rfl) ?_
        refine lv_iload hx hb dX2_bySlot_85 (lv_at hl 1 rfl) ?_
        refine lv_iload hx hb dX2_bySlot_87 (lv_at hl 0 rfl) ?_
        refine xc_i (wc := []) (wr := [kX2 og o1 o2, kI cI o1 2400 sf, kI cI o2 4 sd, kX0 fg f1 f2 f3 (nI n9) (nI v), kI cI f1 12 g1, kI cI f2 12 g2, kI cI f3 12 g3, kX4 rl op b0 s0 w0 u0, kX0 b0 a1 a2 a3 en ev, kI cI a1 3 x1, kI cI a2 3 x2, kI cI a3 3 x3, kI cI s0 3 x4, kI cI w0 64 x5, kI cI u0 64 x6]) (xrS (n := 4) (As := [.int (nI (yL gr jj 1)), .int (nI pt), .int (nI (tn (sd (yF gr jj 1)))), .int (nI (tn (sd (yT gr jj 1))))]) (rest := [.ref o1]) hd hK hP hD (c_X2_at l D cI cJ cZ cR _ (yL gr jj 1) pt (tn (sd (yF gr jj 1))) (tn (sd (yT gr jj 1))) ) (gS t_410 mS_X2_at) hS_X2_at ⟨(Nat.le_of_ble_eq_true rfl), (Nat.le_of_ble_eq_true rfl)⟩ [] rfl rfl rfl hl.1 rfl (Nat.le_of_ble_eq_true rfl) dX2_bySlot_89 ⟨(Nat.le_of_ble_eq_true rfl), (Nat.le_of_ble_eq_true rfl)⟩) hP hD hS hA [] [0, 1, 2, 3, 4, 5, 6, 7, 8, 9, 10, 11, 12, 13, 14] rfl rfl rfl (by decide) (fun r_15 u_16 H locs hw_17 hP hD hS => ?_)
        have hw_18 : r_15 = (nI (((((((yL gr jj 1) * 32) + pt) * 5) + (tn (sd (yF gr jj 1)))) * 5) + (tn (sd (yT gr jj 1))))) := hw_17
        subst hw_18
        have hP : va_P D vwCl [kX2 og o1 o2, kI cI o1 2400 sf, kI cI o2 4 sd, kX0 fg f1 f2 f3 (nI n9) (nI v), kI cI f1 12 g1, kI cI f2 12 g2, kI cI f3 12 g3, kX4 rl op b0 s0 w0 u0, kX0 b0 a1 a2 a3 en ev, kI cI a1 3 x1, kI cI a2 3 x2, kI cI a3 3 x3, kI cI s0 3 x4, kI cI w0 64 x5, kI cI u0 64 x6] H := hP
        have hD : va_D A [kX2 og o1 o2, kI cI o1 2400 sf, kI cI o2 4 sd, kX0 fg f1 f2 f3 (nI n9) (nI v), kI cI f1 12 g1, kI cI f2 12 g2, kI cI f3 12 g3, kX4 rl op b0 s0 w0 u0, kX0 b0 a1 a2 a3 en ev, kI cI a1 3 x1, kI cI a2 3 x2, kI cI a3 3 x3, kI cI s0 3 x4, kI cI w0 64 x5, kI cI u0 64 x6] := hD
        refine va_iald hx hb hK1 hP 1 0 rfl rfl (vp_in_nI (by omega) (by omega)) dX2_bySlot_92 ?_
        refine lv_nmi (show _ = sf (((((((yL gr jj 1) * 32) + pt) * 5) + (tn (sd (yF gr jj 1)))) * 5) + (tn (sd (yT gr jj 1)))) from by rw [nI_clamp (n := (((((((yL gr jj 1) * 32) + pt) * 5) + (tn (sd (yF gr jj 1)))) * 5) + (tn (sd (yT gr jj 1))))) (by omega)]) ?_
        refine lv_nmi (show _ = (nI (tbl sf (yL gr jj 1) pt (tn (sd (yF gr jj 1))) (tn (sd (yT gr jj 1)))) : Int32) from (TBI_at hT (by omega)).1) ?_
        exact hret _ _ _ _ _ _ (nI (tbl sf (yL gr jj 1) pt (tn (sd (yF gr jj 1))) (tn (sd (yT gr jj 1))))) (tbl sf (yL gr jj 1) pt (tn (sd (yF gr jj 1))) (tn (sd (yT gr jj 1)))) dX2_bySlot_93 rfl hS (Nat.le_of_ble_eq_true rfl) (Nat.le_of_ble_eq_true rfl) ⟨rfl, sl_d hlt hp0 hpt hw1 hw2 ha3 (TBI_at hT (by omega)).2⟩ (hP.sub [0, 1, 2, 3, 4, 5, 6, 7, 8, 9, 10, 11, 12, 13, 14] rfl) (hD.sub [0, 1, 2, 3, 4, 5, 6, 7, 8, 9, 10, 11, 12, 13, 14] rfl rfl)
    · skip
      refine lv_iload hx hb dX2_bySlot_19 (lv_at hl 0 rfl) ?_
      refine lv_iconst (v := 5) hx hb dX2_bySlot_21 (by decide) ?_
      refine lv_icmp_ne (tgt := 33) hx hb dX2_bySlot_22 (by decide) (fun c_19 => ?_) (fun c_19 => ?_)
      rotate_left
      · exact absurd c_19 c_1
      refine lv_ldc hx hb hown (hts _ t_388) dX2_bySlot_33 ?_
      exact hret _ _ _ _ _ _ 536870912 536870912 dX2_bySlot_35 rfl hS (Nat.le_of_ble_eq_true rfl) (Nat.le_of_ble_eq_true rfl) (by have e9 := (nI_eq (a := pt) (b := 0) (by omega) (by decide)).mp c_4; rw [e9]; exact ⟨rfl, sl_c (RJ_l hJ (by decide) c_1).1⟩) (hP.sub [0, 1, 2, 3, 4, 5, 6, 7, 8, 9, 10, 11, 12, 13, 14] rfl) (hD.sub [0, 1, 2, 3, 4, 5, 6, 7, 8, 9, 10, 11, 12, 13, 14] rfl rfl)
set_option maxHeartbeats 4000000 in
set_option maxRecDepth 100000 in
theorem g_bySlot_2 (sz : Nat) (og : Nat) (o1 : Nat) (o2 : Nat) (fg : Nat) (f1 : Nat) (f2 : Nat) (f3 : Nat) (n9 : Nat) (v : Nat) (rl : Nat) (b0 : Nat) (a1 : Nat) (a2 : Nat) (a3 : Nat) (s0 : Nat) (w0 : Nat) (u0 : Nat) (pt : Nat) (jj : Nat) (gr : GR) (sf : Nat → Int32) (sd : Nat → Int32) (g1 : Nat → Int32) (g2 : Nat → Int32) (g3 : Nat → Int32) (op : Int32) (en : Int32) (ev : Int32) (x1 : Nat → Int32) (x2 : Nat → Int32) (x3 : Nat → Int32) (x4 : Nat → Int32) (x5 : Nat → Int32) (x6 : Nat → Int32) (hn5 : n9 ≤ 5) (hv5 : v ≤ 5) (hG : GI n9 v g1 g2 g3) (hJ : RJ gr jj en ev x2 x3 x4) (hsd : SDn 4 sd) (hT : TBI sf) (hpt : pt < 32) : CTi l D cI cJ cZ cR yX2_bySlot cX2_bySlot 8 (some .int) 1 25 0 0 sz [.ref og, .ref fg, .int (nI pt), .ref rl, .int 2] [kX2 og o1 o2, kI cI o1 2400 sf, kI cI o2 4 sd, kX0 fg f1 f2 f3 (nI n9) (nI v), kI cI f1 12 g1, kI cI f2 12 g2, kI cI f3 12 g3, kX4 rl op b0 s0 w0 u0, kX0 b0 a1 a2 a3 en ev, kI cI a1 3 x1, kI cI a2 3 x2, kI cI a3 3 x3, kI cI s0 3 x4, kI cI w0 64 x5, kI cI u0 64 x6] (fun (r : Int32) (u : Nat) => (r = (nI u)) ∧ (zLs zF9 (zSl (gC n9 v g1 g2 g3) gr (TD zF9 (tbl sf)) jj 2 (fun k_9 => tn (sd k_9)) pt) u)) (fun (u : Nat) => [kX2 og o1 o2, kI cI o1 2400 sf, kI cI o2 4 sd, kX0 fg f1 f2 f3 (nI n9) (nI v), kI cI f1 12 g1, kI cI f2 12 g2, kI cI f3 12 g3, kX4 rl op b0 s0 w0 u0, kX0 b0 a1 a2 a3 en ev, kI cI a1 3 x1, kI cI a2 3 x2, kI cI a3 3 x3, kI cI s0 3 x4, kI cI w0 64 x5, kI cI u0 64 x6]) := by
  refine CTi.of (ty := .int) (by decide) (Nat.le_of_ble_eq_true rfl) rfl ?_
  intro p e s m below meth c A Q ls hd hin hK hsz hP hD hA hS hl hret
  obtain ⟨hx, hb, hml, hown, hts⟩ := id hd
  have hK1 := hK.1
  have hown : s.vm.findClass RX2 = some m.cls := hown
  have hl : lv_has ls 8 [(0, .ref og), (1, .ref fg), (2, .int (nI pt)), (3, .ref rl), (4, .int 2)] := hl
  refine lv_aload_n hx hb dX2_bySlot_0 rfl (lv_at hl 3 rfl) ?_
  refine va_get (D := D) (ci := 4) (v := .ref s0) (C := RX4) (T := TX4) (N := 5) hx hb hts iT_X4 hown hK1 hP 7 rfl rfl 2 (by decide) (hts _ t_87) (fun _ h9 => h9) rfl dX2_bySlot_1 ?_
  refine lv_iload hx hb dX2_bySlot_4 (lv_at hl 4 rfl) ?_
  refine va_iald hx hb hK1 hP 12 0 rfl rfl (vin (by decide)) dX2_bySlot_6 ?_
  refine lv_nmi (show _ = x4 2 from rfl) ?_
  refine lv_istore (lv' := [(5, .int (x4 2)), (0, .ref og), (1, .ref fg), (2, .int (nI pt)), (3, .ref rl), (4, .int 2)]) hx hb dX2_bySlot_7 hl (by decide) rfl (fun ls hl => ?_)
  refine lv_iload hx hb dX2_bySlot_9 (lv_at hl 0 rfl) ?_
  refine lv_iconst (v := 5) hx hb dX2_bySlot_11 (by decide) ?_
  refine lv_icmp_eq (tgt := 19) hx hb dX2_bySlot_12 (by decide) (fun c_1 => ?_) (fun c_1 => ?_)
  · skip
    refine lv_iload hx hb dX2_bySlot_19 (lv_at hl 0 rfl) ?_
    refine lv_iconst (v := 5) hx hb dX2_bySlot_21 (by decide) ?_
    refine lv_icmp_ne (tgt := 33) hx hb dX2_bySlot_22 (by decide) (fun c_2 => ?_) (fun c_2 => ?_)
    · exact absurd c_1 c_2
    refine lv_iload_n hx hb dX2_bySlot_25 rfl (lv_at hl 3 rfl) ?_
    refine lv_if_ne (tgt := 33) hx hb dX2_bySlot_26 (by decide) (fun c_3 => ?_) (fun c_3 => ?_)
    · skip
      refine lv_ldc hx hb hown (hts _ t_388) dX2_bySlot_33 ?_
      exact hret _ _ _ _ _ _ 536870912 536870912 dX2_bySlot_35 rfl hS (Nat.le_of_ble_eq_true rfl) (Nat.le_of_ble_eq_true rfl) ⟨rfl, sl_b ((RJ_5 hJ (by decide)).mp c_1) (fun e => c_3 (by rw [e]; rfl))⟩ (hP.sub [0, 1, 2, 3, 4, 5, 6, 7, 8, 9, 10, 11, 12, 13, 14] rfl) (hD.sub [0, 1, 2, 3, 4, 5, 6, 7, 8, 9, 10, 11, 12, 13, 14] rfl rfl)
    · skip
      refine lv_iconst (v := 0) hx hb dX2_bySlot_29 (by decide) ?_
      refine lv_goto (tgt := 35) hx hb dX2_bySlot_30 (by decide) ?_
      exact hret _ _ _ _ _ _ 0 0 dX2_bySlot_35 rfl hS (Nat.le_of_ble_eq_true rfl) (Nat.le_of_ble_eq_true rfl) (by have e9 := (nI_eq (a := pt) (b := 0) (by omega) (by decide)).mp c_3; rw [e9]; exact ⟨rfl, sl_a ((RJ_5 hJ (by decide)).mp c_1)⟩) (hP.sub [0, 1, 2, 3, 4, 5, 6, 7, 8, 9, 10, 11, 12, 13, 14] rfl) (hD.sub [0, 1, 2, 3, 4, 5, 6, 7, 8, 9, 10, 11, 12, 13, 14] rfl rfl)
  · skip
    refine lv_iload_n hx hb dX2_bySlot_15 rfl (lv_at hl 3 rfl) ?_
    refine lv_if_ne (tgt := 36) hx hb dX2_bySlot_16 (by decide) (fun c_4 => ?_) (fun c_4 => ?_)
    · skip
      obtain ⟨hlt, e4, hL5, hF4, hT4, e2, e3⟩ := RJ_l hJ (by decide : 2 < 3) c_1
      obtain ⟨ew1, hw1⟩ := SDn_tn hsd hF4
      obtain ⟨ew2, hw2⟩ := SDn_tn hsd hT4
      have hp0 : ¬ pt = 0 := fun e => c_4 (by rw [e]; rfl)
      have hl : lv_has ls 8 [(5, .int (nI (yL gr jj 2))), (0, .ref og), (1, .ref fg), (2, .int (nI pt)), (3, .ref rl), (4, .int 2)] := by rw [← e4]; exact hl
      refine lv_aload_n hx hb dX2_bySlot_36 rfl (lv_at hl 1 rfl) ?_
      refine va_get (D := D) (ci := 2) (v := .ref o2) (C := RX2) (T := TX2) (N := 2) hx hb hts iT_X2 hown hK1 hP 0 rfl rfl 1 (by decide) (hts _ t_124) (fun _ h9 => h9) rfl dX2_bySlot_37 ?_
      refine lv_aload_n hx hb dX2_bySlot_40 rfl (lv_at hl 4 rfl) ?_
      refine va_get (D := D) (ci := 4) (v := .ref b0) (C := RX4) (T := TX4) (N := 5) hx hb hts iT_X4 hown hK1 hP 7 rfl rfl 1 (by decide) (hts _ t_84) (fun _ h9 => h9) rfl dX2_bySlot_41 ?_
      refine va_get (D := D) (ci := 0) (v := .ref a2) (C := RX0) (T := TX0) (N := 5) hx hb hts iT_X0 hown hK1 hP 8 rfl rfl 1 (by decide) (hts _ t_59) (fun _ h9 => h9) rfl dX2_bySlot_44 ?_
      refine lv_iload hx hb dX2_bySlot_47 (lv_at hl 5 rfl) ?_
      refine va_iald hx hb hK1 hP 10 0 rfl rfl (vin (by decide)) dX2_bySlot_49 ?_
      refine lv_nmi (show _ = x2 2 from rfl) ?_
      refine lv_nmi (show _ = (nI (yF gr jj 2) : Int32) from e2) ?_
      refine va_iald hx hb hK1 hP 2 0 rfl rfl (vp_in_nI (by omega) (by omega)) dX2_bySlot_50 ?_
      refine lv_nmi (show _ = sd (yF gr jj 2) from by rw [nI_clamp (n := (yF gr jj 2)) (by omega)]) ?_
      refine lv_nmi (show _ = (nI (tn (sd (yF gr jj 2))) : Int32) from ew1) ?_
      refine lv_istore (lv' := [(6, .int (nI (tn (sd (yF gr jj 2))))), (5, .int (nI (yL gr jj 2))), (0, .ref og), (1, .ref fg), (2, .int (nI pt)), (3, .ref rl), (4, .int 2)]) hx hb dX2_bySlot_51 hl (by decide) rfl (fun ls hl => ?_)
      refine lv_aload_n hx hb dX2_bySlot_53 rfl (lv_at hl 2 rfl) ?_
      refine va_get (D := D) (ci := 2) (v := .ref o2) (C := RX2) (T := TX2) (N := 2) hx hb hts iT_X2 hown hK1 hP 0 rfl rfl 1 (by decide) (hts _ t_124) (fun _ h9 => h9) rfl dX2_bySlot_54 ?_
      refine lv_aload_n hx hb dX2_bySlot_57 rfl (lv_at hl 5 rfl) ?_
      refine va_get (D := D) (ci := 4) (v := .ref b0) (C := RX4) (T := TX4) (N := 5) hx hb hts iT_X4 hown hK1 hP 7 rfl rfl 1 (by decide) (hts _ t_84) (fun _ h9 => h9) rfl dX2_bySlot_58 ?_
      refine va_get (D := D) (ci := 0) (v := .ref a3) (C := RX0) (T := TX0) (N := 5) hx hb hts iT_X0 hown hK1 hP 8 rfl rfl 2 (by decide) (hts _ t_61) (fun _ h9 => h9) rfl dX2_bySlot_61 ?_
      refine lv_iload hx hb dX2_bySlot_64 (lv_at hl 6 rfl) ?_
      refine va_iald hx hb hK1 hP 11 0 rfl rfl (vin (by decide)) dX2_bySlot_66 ?_
      refine lv_nmi (show _ = x3 2 from rfl) ?_
      refine lv_nmi (show _ = (nI (yT gr jj 2) : Int32) from e3) ?_
      refine va_iald hx hb hK1 hP 2 0 rfl rfl (vp_in_nI (by omega) (by omega)) dX2_bySlot_67 ?_
      refine lv_nmi (show _ = sd (yT gr jj 2) from by rw [nI_clamp (n := (yT gr jj 2)) (by omega)]) ?_
      refine lv_nmi (show _ = (nI (tn (sd (yT gr jj 2))) : Int32) from ew2) ?_
      refine lv_istore (lv' := [(7, .int (nI (tn (sd (yT gr jj 2))))), (6, .int (nI (tn (sd (yF gr jj 2))))), (5, .int (nI (yL gr jj 2))), (0, .ref og), (1, .ref fg), (2, .int (nI pt)), (3, .ref rl), (4, .int 2)]) hx hb dX2_bySlot_68 hl (by decide) rfl (fun ls hl => ?_)
      refine lv_iload hx hb dX2_bySlot_70 (lv_at hl 2 rfl) ?_
      refine xc_i (wc := []) (wr := [kX2 og o1 o2, kI cI o1 2400 sf, kI cI o2 4 sd, kX0 fg f1 f2 f3 (nI n9) (nI v), kI cI f1 12 g1, kI cI f2 12 g2, kI cI f3 12 g3, kX4 rl op b0 s0 w0 u0, kX0 b0 a1 a2 a3 en ev, kI cI a1 3 x1, kI cI a2 3 x2, kI cI a3 3 x3, kI cI s0 3 x4, kI cI w0 64 x5, kI cI u0 64 x6]) (xrSN (n := 1) (As := [.int (nI (yL gr jj 2))]) (rest := []) hd hK hP hD (c_X6_isOpen l D cI cJ cZ cR _ (nI (yL gr jj 2)) ) mS_X6_isOpen.2.2 mS_X6_isOpen.1 mS_X6_isOpen.2.1 hK.2.2.2.2.2.2.2.1 hS_X6_isOpen ⟨(Nat.le_of_ble_eq_true rfl), (Nat.le_of_ble_eq_true rfl)⟩ [] rfl rfl rfl hl.1 rfl (Nat.le_of_ble_eq_true rfl) dX2_bySlot_72 ⟨(Nat.le_of_ble_eq_true rfl), (Nat.le_of_ble_eq_true rfl)⟩) hP hD hS hA [] [0, 1, 2, 3, 4, 5, 6, 7, 8, 9, 10, 11, 12, 13, 14] rfl rfl rfl (by decide) (fun r_5 u_6 H locs hw_7 hP hD hS => ?_)
      have hw_8 : r_5 = (opn (nI (yL gr jj 2))) := hw_7
      subst hw_8
      have hP : va_P D vwCl [kX2 og o1 o2, kI cI o1 2400 sf, kI cI o2 4 sd, kX0 fg f1 f2 f3 (nI n9) (nI v), kI cI f1 12 g1, kI cI f2 12 g2, kI cI f3 12 g3, kX4 rl op b0 s0 w0 u0, kX0 b0 a1 a2 a3 en ev, kI cI a1 3 x1, kI cI a2 3 x2, kI cI a3 3 x3, kI cI s0 3 x4, kI cI w0 64 x5, kI cI u0 64 x6] H := hP
      have hD : va_D A [kX2 og o1 o2, kI cI o1 2400 sf, kI cI o2 4 sd, kX0 fg f1 f2 f3 (nI n9) (nI v), kI cI f1 12 g1, kI cI f2 12 g2, kI cI f3 12 g3, kX4 rl op b0 s0 w0 u0, kX0 b0 a1 a2 a3 en ev, kI cI a1 3 x1, kI cI a2 3 x2, kI cI a3 3 x3, kI cI s0 3 x4, kI cI w0 64 x5, kI cI u0 64 x6] := hD
      refine lv_if_eq (tgt := 94) hx hb dX2_bySlot_75 (by decide) (fun c_9 => ?_) (fun c_9 => ?_)
      · skip
        refine lv_aload_n hx hb dX2_bySlot_94 rfl (lv_at hl 4 rfl) ?_
        refine lv_iload_n hx hb dX2_bySlot_95 rfl (lv_at hl 5 rfl) ?_
        refine lv_iload hx hb dX2_bySlot_96 (lv_at hl 2 rfl) ?_
        refine lv_iload hx hb dX2_bySlot_98 (lv_at hl 1 rfl) ?_
        refine lv_iload hx hb dX2_bySlot_100 (lv_at hl 0 rfl) ?_
        refine xc_i (wc := [kX0 fg f1 f2 f3 (nI n9) (nI v), kI cI f1 12 g1, kI cI f2 12 g2, kI cI f3 12 g3]) (wr := [kX2 og o1 o2, kI cI o1 2400 sf, kI cI o2 4 sd, kX4 rl op b0 s0 w0 u0, kX0 b0 a1 a2 a3 en ev, kI cI a1 3 x1, kI cI a2 3 x2, kI cI a3 3 x3, kI cI s0 3 x4, kI cI w0 64 x5, kI cI u0 64 x6]) (xrV (n := 4) (As := [.int (nI pt), .int (nI (yL gr jj 2)), .int (nI (tn (sd (yF gr jj 2)))), .int (nI (tn (sd (yT gr jj 2))))]) (rest := []) (ci := 0) (q0 := 3) hd hK hP hD (c_X0_isEdge l D cI cJ cZ cR _ fg f1 f2 f3 12 n9 v pt (yL gr jj 2) (tn (sd (yF gr jj 2))) (tn (sd (yT gr jj 2))) g1 g2 g3 (by decide) (by omega) hn5 hv5 hG hpt hL5 hw1 hw2) (gV t_430 mV_X0_isEdge) hV_X0_isEdge ⟨(Nat.le_of_ble_eq_true rfl), (Nat.le_of_ble_eq_true rfl)⟩ rfl rfl [3, 4, 5, 6] rfl rfl rfl hl.1 rfl (Nat.le_of_ble_eq_true rfl) dX2_bySlot_102 ⟨(Nat.le_of_ble_eq_true rfl), (Nat.le_of_ble_eq_true rfl)⟩) hP hD hS hA [3, 4, 5, 6] [0, 1, 2, 7, 8, 9, 10, 11, 12, 13, 14] rfl rfl rfl (by decide) (fun r_10 u_11 H locs hw_12 hP hD hS => ?_)
        have hw_13 : YN r_10 (zEd (gC n9 v g1 g2 g3) pt (yL gr jj 2) (tn (sd (yF gr jj 2))) (tn (sd (yT gr jj 2)))) := hw_12
        have hE := hw_13
        have hP : va_P D vwCl [kX2 og o1 o2, kI cI o1 2400 sf, kI cI o2 4 sd, kX4 rl op b0 s0 w0 u0, kX0 b0 a1 a2 a3 en ev, kI cI a1 3 x1, kI cI a2 3 x2, kI cI a3 3 x3, kI cI s0 3 x4, kI cI w0 64 x5, kI cI u0 64 x6, kX0 fg f1 f2 f3 (nI n9) (nI v), kI cI f1 12 g1, kI cI f2 12 g2, kI cI f3 12 g3] H := hP
        have hD : va_D A [kX2 og o1 o2, kI cI o1 2400 sf, kI cI o2 4 sd, kX4 rl op b0 s0 w0 u0, kX0 b0 a1 a2 a3 en ev, kI cI a1 3 x1, kI cI a2 3 x2, kI cI a3 3 x3, kI cI s0 3 x4, kI cI w0 64 x5, kI cI u0 64 x6, kX0 fg f1 f2 f3 (nI n9) (nI v), kI cI f1 12 g1, kI cI f2 12 g2, kI cI f3 12 g3] := hD
        refine lv_if_eq (tgt := 112) hx hb dX2_bySlot_105 (by decide) (fun c_14 => ?_) (fun c_14 => ?_)
        · skip
          refine lv_ldc hx hb hown (hts _ t_388) dX2_bySlot_112 ?_
          exact hret _ _ _ _ _ _ 536870912 536870912 dX2_bySlot_114 rfl hS (Nat.le_of_ble_eq_true rfl) (Nat.le_of_ble_eq_true rfl) ⟨rfl, sl_f hlt ((opn_k (by omega)).mp c_9) (hE.no c_14)⟩ (hP.sub [0, 1, 2, 11, 12, 13, 14, 3, 4, 5, 6, 7, 8, 9, 10] rfl) (hD.sub [0, 1, 2, 11, 12, 13, 14, 3, 4, 5, 6, 7, 8, 9, 10] rfl rfl)
        · skip
          refine lv_iconst (v := 0) hx hb dX2_bySlot_108 (by decide) ?_
          refine lv_goto (tgt := 114) hx hb dX2_bySlot_109 (by decide) ?_
          exact hret _ _ _ _ _ _ 0 0 dX2_bySlot_114 rfl hS (Nat.le_of_ble_eq_true rfl) (Nat.le_of_ble_eq_true rfl) ⟨rfl, sl_e hlt hp0 ((opn_k (by omega)).mp c_9) (hE.of c_14)⟩ (hP.sub [0, 1, 2, 11, 12, 13, 14, 3, 4, 5, 6, 7, 8, 9, 10] rfl) (hD.sub [0, 1, 2, 11, 12, 13, 14, 3, 4, 5, 6, 7, 8, 9, 10] rfl rfl)
      · skip
        have ha3 := Nat.lt_of_not_le (fun q => c_9 ((opn_k (by omega)).mpr q))
        refine lv_aload_n hx hb dX2_bySlot_78 rfl (lv_at hl 3 rfl) ?_
        refine va_get (D := D) (ci := 2) (v := .ref o1) (C := RX2) (T := TX2) (N := 2) hx hb hts iT_X2 hown hK1 hP 0 rfl rfl 0 (by decide) (hts _ t_123) (fun _ h9 => h9) rfl dX2_bySlot_79 ?_
        refine lv_iload hx hb dX2_bySlot_82 (lv_at hl 2 rfl) ?_
        refine lv_iload_n hx hb dX2_bySlot_84 rfl (lv_at hl 5 rfl) ?_
        refine lv_iload hx hb dX2_bySlot_85 (lv_at hl 1 rfl) ?_
        refine lv_iload hx hb dX2_bySlot_87 (lv_at hl 0 rfl) ?_
        refine xc_i (wc := []) (wr := [kX2 og o1 o2, kI cI o1 2400 sf, kI cI o2 4 sd, kX0 fg f1 f2 f3 (nI n9) (nI v), kI cI f1 12 g1, kI cI f2 12 g2, kI cI f3 12 g3, kX4 rl op b0 s0 w0 u0, kX0 b0 a1 a2 a3 en ev, kI cI a1 3 x1, kI cI a2 3 x2, kI cI a3 3 x3, kI cI s0 3 x4, kI cI w0 64 x5, kI cI u0 64 x6]) (xrS (n := 4) (As := [.int (nI (yL gr jj 2)), .int (nI pt), .int (nI (tn (sd (yF gr jj 2)))), .int (nI (tn (sd (yT gr jj 2))))]) (rest := [.ref o1]) hd hK hP hD (c_X2_at l D cI cJ cZ cR _ (yL gr jj 2) pt (tn (sd (yF gr jj 2))) (tn (sd (yT gr jj 2))) ) (gS t_410 mS_X2_at) hS_X2_at ⟨(Nat.le_of_ble_eq_true rfl), (Nat.le_of_ble_eq_true rfl)⟩ [] rfl rfl rfl hl.1 rfl (Nat.le_of_ble_eq_true rfl) dX2_bySlot_89 ⟨(Nat.le_of_ble_eq_true rfl), (Nat.le_of_ble_eq_true rfl)⟩) hP hD hS hA [] [0, 1, 2, 3, 4, 5, 6, 7, 8, 9, 10, 11, 12, 13, 14] rfl rfl rfl (by decide) (fun r_15 u_16 H locs hw_17 hP hD hS => ?_)
        have hw_18 : r_15 = (nI (((((((yL gr jj 2) * 32) + pt) * 5) + (tn (sd (yF gr jj 2)))) * 5) + (tn (sd (yT gr jj 2))))) := hw_17
        subst hw_18
        have hP : va_P D vwCl [kX2 og o1 o2, kI cI o1 2400 sf, kI cI o2 4 sd, kX0 fg f1 f2 f3 (nI n9) (nI v), kI cI f1 12 g1, kI cI f2 12 g2, kI cI f3 12 g3, kX4 rl op b0 s0 w0 u0, kX0 b0 a1 a2 a3 en ev, kI cI a1 3 x1, kI cI a2 3 x2, kI cI a3 3 x3, kI cI s0 3 x4, kI cI w0 64 x5, kI cI u0 64 x6] H := hP
        have hD : va_D A [kX2 og o1 o2, kI cI o1 2400 sf, kI cI o2 4 sd, kX0 fg f1 f2 f3 (nI n9) (nI v), kI cI f1 12 g1, kI cI f2 12 g2, kI cI f3 12 g3, kX4 rl op b0 s0 w0 u0, kX0 b0 a1 a2 a3 en ev, kI cI a1 3 x1, kI cI a2 3 x2, kI cI a3 3 x3, kI cI s0 3 x4, kI cI w0 64 x5, kI cI u0 64 x6] := hD
        refine va_iald hx hb hK1 hP 1 0 rfl rfl (vp_in_nI (by omega) (by omega)) dX2_bySlot_92 ?_
        refine lv_nmi (show _ = sf (((((((yL gr jj 2) * 32) + pt) * 5) + (tn (sd (yF gr jj 2)))) * 5) + (tn (sd (yT gr jj 2)))) from by rw [nI_clamp (n := (((((((yL gr jj 2) * 32) + pt) * 5) + (tn (sd (yF gr jj 2)))) * 5) + (tn (sd (yT gr jj 2))))) (by omega)]) ?_
        refine lv_nmi (show _ = (nI (tbl sf (yL gr jj 2) pt (tn (sd (yF gr jj 2))) (tn (sd (yT gr jj 2)))) : Int32) from (TBI_at hT (by omega)).1) ?_
        exact hret _ _ _ _ _ _ (nI (tbl sf (yL gr jj 2) pt (tn (sd (yF gr jj 2))) (tn (sd (yT gr jj 2))))) (tbl sf (yL gr jj 2) pt (tn (sd (yF gr jj 2))) (tn (sd (yT gr jj 2)))) dX2_bySlot_93 rfl hS (Nat.le_of_ble_eq_true rfl) (Nat.le_of_ble_eq_true rfl) ⟨rfl, sl_d hlt hp0 hpt hw1 hw2 ha3 (TBI_at hT (by omega)).2⟩ (hP.sub [0, 1, 2, 3, 4, 5, 6, 7, 8, 9, 10, 11, 12, 13, 14] rfl) (hD.sub [0, 1, 2, 3, 4, 5, 6, 7, 8, 9, 10, 11, 12, 13, 14] rfl rfl)
    · skip
      refine lv_iload hx hb dX2_bySlot_19 (lv_at hl 0 rfl) ?_
      refine lv_iconst (v := 5) hx hb dX2_bySlot_21 (by decide) ?_
      refine lv_icmp_ne (tgt := 33) hx hb dX2_bySlot_22 (by decide) (fun c_19 => ?_) (fun c_19 => ?_)
      rotate_left
      · exact absurd c_19 c_1
      refine lv_ldc hx hb hown (hts _ t_388) dX2_bySlot_33 ?_
      exact hret _ _ _ _ _ _ 536870912 536870912 dX2_bySlot_35 rfl hS (Nat.le_of_ble_eq_true rfl) (Nat.le_of_ble_eq_true rfl) (by have e9 := (nI_eq (a := pt) (b := 0) (by omega) (by decide)).mp c_4; rw [e9]; exact ⟨rfl, sl_c (RJ_l hJ (by decide) c_1).1⟩) (hP.sub [0, 1, 2, 3, 4, 5, 6, 7, 8, 9, 10, 11, 12, 13, 14] rfl) (hD.sub [0, 1, 2, 3, 4, 5, 6, 7, 8, 9, 10, 11, 12, 13, 14] rfl rfl)
set_option maxHeartbeats 4000000 in
set_option maxRecDepth 100000 in
theorem c_X2_bySplit (sz : Nat) (og : Nat) (o1 : Nat) (o2 : Nat) (fg : Nat) (f1 : Nat) (f2 : Nat) (f3 : Nat) (n9 : Nat) (v : Nat) (rl : Nat) (b0 : Nat) (a1 : Nat) (a2 : Nat) (a3 : Nat) (s0 : Nat) (w0 : Nat) (u0 : Nat) (b : Nat) (jj : Nat) (gr : GR) (sf : Nat → Int32) (sd : Nat → Int32) (g1 : Nat → Int32) (g2 : Nat → Int32) (g3 : Nat → Int32) (op : Int32) (en : Int32) (ev : Int32) (x1 : Nat → Int32) (x2 : Nat → Int32) (x3 : Nat → Int32) (x4 : Nat → Int32) (x5 : Nat → Int32) (x6 : Nat → Int32) (hn5 : n9 ≤ 5) (hv5 : v ≤ 5) (hG : GI n9 v g1 g2 g3) (hJ : RJ gr jj en ev x2 x3 x4) (hsd : SDn 4 sd) (hT : TBI sf) (hb32 : b < 32) : CTi l D cI cJ cZ cR yX2_bySplit cX2_bySplit 10 (some .int) 2 52 0 0 sz [.ref og, .ref fg, .int (nI b), .ref rl] [kX2 og o1 o2, kI cI o1 2400 sf, kI cI o2 4 sd, kX0 fg f1 f2 f3 (nI n9) (nI v), kI cI f1 12 g1, kI cI f2 12 g2, kI cI f3 12 g3, kX4 rl op b0 s0 w0 u0, kX0 b0 a1 a2 a3 en ev, kI cI a1 3 x1, kI cI a2 3 x2, kI cI a3 3 x3, kI cI s0 3 x4, kI cI w0 64 x5, kI cI u0 64 x6] (fun (r : Int32) (u : Nat) => (r = (nI u)) ∧ (zLs zF9 (zSp (fun i_9 => zSl (gC n9 v g1 g2 g3) gr (TD zF9 (tbl sf)) jj i_9 (fun k_9 => tn (sd k_9))) b) u)) (fun (u : Nat) => [kX2 og o1 o2, kI cI o1 2400 sf, kI cI o2 4 sd, kX0 fg f1 f2 f3 (nI n9) (nI v), kI cI f1 12 g1, kI cI f2 12 g2, kI cI f3 12 g3, kX4 rl op b0 s0 w0 u0, kX0 b0 a1 a2 a3 en ev, kI cI a1 3 x1, kI cI a2 3 x2, kI cI a3 3 x3, kI cI s0 3 x4, kI cI w0 64 x5, kI cI u0 64 x6]) := by
  refine CTi.of (ty := .int) (by decide) (Nat.le_of_ble_eq_true rfl) rfl ?_
  intro p e s m below meth c A Q ls hd hin hK hsz hP hD hA hS hl hret
  obtain ⟨hx, hb, hml, hown, hts⟩ := id hd
  have hK1 := hK.1
  have hown : s.vm.findClass RX2 = some m.cls := hown
  have hl : lv_has ls 10 [(0, .ref og), (1, .ref fg), (2, .int (nI b)), (3, .ref rl)] := hl
  have hF9 : zF9 = 536870912 := rfl
  refine lv_ldc hx hb hown (hts _ t_388) dX2_bySplit_0 ?_
  refine lv_istore (lv' := [(4, .int 536870912), (0, .ref og), (1, .ref fg), (2, .int (nI b)), (3, .ref rl)]) hx hb dX2_bySplit_2 hl (by decide) rfl (fun ls hl => ?_)
  refine lv_iconst (v := 1) hx hb dX2_bySplit_4 (by decide) ?_
  refine lv_istore (lv' := [(5, .int 1), (4, .int 536870912), (0, .ref og), (1, .ref fg), (2, .int (nI b)), (3, .ref rl)]) hx hb dX2_bySplit_5 hl (by decide) rfl (fun ls hl => ?_)
  have LOOP_7 : ∀ (n : Nat) (on : Nat) (le : Nat), (on + n = b + 1) → (1 ≤ on) → (zSpI (fun i_9 => zSl (gC n9 v g1 g2 g3) gr (TD zF9 (tbl sf)) jj i_9 (fun k_9 => tn (sd k_9))) b on le) → ∀ (H : Heap) (locs : List Loc) (ls : Array Slot), va_P D vwCl [kX2 og o1 o2, kI cI o1 2400 sf, kI cI o2 4 sd, kX0 fg f1 f2 f3 (nI n9) (nI v), kI cI f1 12 g1, kI cI f2 12 g2, kI cI f3 12 g3, kX4 rl op b0 s0 w0 u0, kX0 b0 a1 a2 a3 en ev, kI cI a1 3 x1, kI cI a2 3 x2, kI cI a3 3 x3, kI cI s0 3 x4, kI cI w0 64 x5, kI cI u0 64 x6] H → va_D A [kX2 og o1 o2, kI cI o1 2400 sf, kI cI o2 4 sd, kX0 fg f1 f2 f3 (nI n9) (nI v), kI cI f1 12 g1, kI cI f2 12 g2, kI cI f3 12 g3, kX4 rl op b0 s0 w0 u0, kX0 b0 a1 a2 a3 en ev, kI cI a1 3 x1, kI cI a2 3 x2, kI cI a3 3 x3, kI cI s0 3 x4, kI cI w0 64 x5, kI cI u0 64 x6] → va_S A s.heap H locs → lv_has ls 10 [(0, .ref og), (1, .ref fg), (2, .int (nI b)), (3, .ref rl), (4, .int (nI le)), (5, .int (nI on))] → W p l e (rM 2 0 0 52) s m ([.ref og, .ref fg, .int (nI b), .ref rl] : List Value).toArray below meth c H locs 0 0 Q (F0 m 7 ls []) := by
    intro n
    induction n with
    | zero =>
      intro on le ho ho1 hI H locs ls hP hD hS hl
      refine lv_iload hx hb dX2_bySplit_7 (lv_at hl 5 rfl) ?_
      refine lv_iload_n hx hb dX2_bySplit_9 rfl (lv_at hl 2 rfl) ?_
      refine lv_icmp_gt (tgt := 126) hx hb dX2_bySplit_10 (by decide) (fun c_1 => ?_) (fun c_1 => ?_)
      rotate_left
      · exact absurd (nI_lt (a := b) (b := on) (by omega) (by omega)) c_1
      refine lv_iload hx hb dX2_bySplit_126 (lv_at hl 4 rfl) ?_
      exact hret _ _ _ _ _ _ (nI le) le dX2_bySplit_128 rfl hS (Nat.le_of_ble_eq_true rfl) (Nat.le_of_ble_eq_true rfl) ⟨rfl, zSpI_e (by omega) hI⟩ (hP.sub [0, 1, 2, 3, 4, 5, 6, 7, 8, 9, 10, 11, 12, 13, 14] rfl) (hD.sub [0, 1, 2, 3, 4, 5, 6, 7, 8, 9, 10, 11, 12, 13, 14] rfl rfl)
    | succ n ih_7 =>
      intro on le ho ho1 hI H locs ls hP hD hS hl
      refine lv_iload hx hb dX2_bySplit_7 (lv_at hl 5 rfl) ?_
      refine lv_iload_n hx hb dX2_bySplit_9 rfl (lv_at hl 2 rfl) ?_
      refine lv_icmp_gt (tgt := 126) hx hb dX2_bySplit_10 (by decide) (fun c_2 => ?_) (fun c_2 => ?_)
      · exact absurd c_2 (nI_nlt (a := b) (b := on) (by omega) (by omega))
      have hle9 := hI.1
      refine lv_iload hx hb dX2_bySplit_13 (lv_at hl 5 rfl) ?_
      refine lv_iload_n hx hb dX2_bySplit_15 rfl (lv_at hl 2 rfl) ?_
      refine lv_iconst (v := -1) hx hb dX2_bySplit_16 (by decide) ?_
      refine lv_ixor hx hb dX2_bySplit_17 ?_
      refine lv_iand hx hb dX2_bySplit_18 ?_
      refine lv_if_ne (tgt := 34) hx hb dX2_bySplit_19 (by decide) (fun c_3 => ?_) (fun c_3 => ?_)
      · skip
        refine lv_ldc hx hb hown (hts _ t_388) dX2_bySplit_34 ?_
        refine lv_istore (lv' := [(6, .int 536870912), (0, .ref og), (1, .ref fg), (2, .int (nI b)), (3, .ref rl), (4, .int (nI le)), (5, .int (nI on))]) hx hb dX2_bySplit_36 hl (by decide) rfl (fun ls hl => ?_)
        refine lv_iload hx hb dX2_bySplit_38 (lv_at hl 0 rfl) ?_
        refine lv_iload hx hb dX2_bySplit_40 (lv_at hl 5 rfl) ?_
        refine lv_icmp_lt (tgt := 48) hx hb dX2_bySplit_42 (by decide) (fun c_4 => ?_) (fun c_4 => ?_)
        · exact absurd (ltN (a := 536870912) (b := le) (by omega) (by omega) c_4) (by omega)
        refine lv_goto (tgt := 120) hx hb dX2_bySplit_45 (by decide) ?_
        refine lv_iinc (v := nI (on + 1)) (lv' := [(5, .int (nI (on + 1))), (6, .int 536870912), (0, .ref og), (1, .ref fg), (2, .int (nI b)), (3, .ref rl), (4, .int (nI le))]) hx hb dX2_bySplit_120 hl (k := 6) rfl (nI_1 on) (by decide) rfl (fun ls hl => ?_)
        refine lv_goto (tgt := 7) hx hb dX2_bySplit_123 (by decide) ?_
        exact ih_7 (on + 1) le (by omega) (by omega) (zSpI_k hb32 (fun q => c_3 ((zm_sub (S := b) (p := on) hb32 (by omega)).1.mpr q)) hI) _ _ _ (hP.sub [0, 1, 2, 3, 4, 5, 6, 7, 8, 9, 10, 11, 12, 13, 14] rfl) (hD.sub [0, 1, 2, 3, 4, 5, 6, 7, 8, 9, 10, 11, 12, 13, 14] rfl rfl) hS (lv_sub hl [2, 3, 4, 5, 6, 0] rfl)
      · skip
        refine lv_aload_n hx hb dX2_bySplit_22 rfl (lv_at hl 0 rfl) ?_
        refine lv_aload_n hx hb dX2_bySplit_23 rfl (lv_at hl 1 rfl) ?_
        refine lv_iload hx hb dX2_bySplit_24 (lv_at hl 5 rfl) ?_
        refine lv_aload_n hx hb dX2_bySplit_26 rfl (lv_at hl 3 rfl) ?_
        refine lv_iconst (v := 0) hx hb dX2_bySplit_27 (by decide) ?_
        refine xc_i (wc := [kX2 og o1 o2, kI cI o1 2400 sf, kI cI o2 4 sd, kX0 fg f1 f2 f3 (nI n9) (nI v), kI cI f1 12 g1, kI cI f2 12 g2, kI cI f3 12 g3, kX4 rl op b0 s0 w0 u0, kX0 b0 a1 a2 a3 en ev, kI cI a1 3 x1, kI cI a2 3 x2, kI cI a3 3 x3, kI cI s0 3 x4, kI cI w0 64 x5, kI cI u0 64 x6]) (wr := []) (xrV (n := 4) (As := [.ref fg, .int (nI on), .ref rl, .int 0]) (rest := []) (ci := 2) (q0 := 0) hd hK hP hD (g_bySlot_0 l D cI cJ cZ cR _ og o1 o2 fg f1 f2 f3 n9 v rl b0 a1 a2 a3 s0 w0 u0 on jj gr sf sd g1 g2 g3 op en ev x1 x2 x3 x4 x5 x6 hn5 hv5 hG hJ hsd hT (by omega)) (gV t_425 mV_X2_bySlot) hV_X2_bySlot ⟨(Nat.le_of_ble_eq_true rfl), (Nat.le_of_ble_eq_true rfl)⟩ rfl rfl [0, 1, 2, 3, 4, 5, 6, 7, 8, 9, 10, 11, 12, 13, 14] rfl rfl rfl hl.1 rfl (Nat.le_of_ble_eq_true rfl) dX2_bySplit_28 ⟨(Nat.le_of_ble_eq_true rfl), (Nat.le_of_ble_eq_true rfl)⟩) hP hD hS hA [0, 1, 2, 3, 4, 5, 6, 7, 8, 9, 10, 11, 12, 13, 14] [] rfl rfl rfl (by decide) (fun r_5 u_6 H locs hw_7 hP hD hS => ?_)
        obtain ⟨q_8, rfl⟩ : ∃ z9, z9 = u_6 := ⟨_, rfl⟩
        obtain ⟨hw_9, hw_10⟩ : (r_5 = (nI q_8)) ∧ (zLs zF9 (zSl (gC n9 v g1 g2 g3) gr (TD zF9 (tbl sf)) jj 0 (fun k_9 => tn (sd k_9)) on) q_8) := hw_7
        subst hw_9
        have hf0 := hw_10
        have hf9 := hf0.1
        have hP : va_P D vwCl [kX2 og o1 o2, kI cI o1 2400 sf, kI cI o2 4 sd, kX0 fg f1 f2 f3 (nI n9) (nI v), kI cI f1 12 g1, kI cI f2 12 g2, kI cI f3 12 g3, kX4 rl op b0 s0 w0 u0, kX0 b0 a1 a2 a3 en ev, kI cI a1 3 x1, kI cI a2 3 x2, kI cI a3 3 x3, kI cI s0 3 x4, kI cI w0 64 x5, kI cI u0 64 x6] H := hP
        have hD : va_D A [kX2 og o1 o2, kI cI o1 2400 sf, kI cI o2 4 sd, kX0 fg f1 f2 f3 (nI n9) (nI v), kI cI f1 12 g1, kI cI f2 12 g2, kI cI f3 12 g3, kX4 rl op b0 s0 w0 u0, kX0 b0 a1 a2 a3 en ev, kI cI a1 3 x1, kI cI a2 3 x2, kI cI a3 3 x3, kI cI s0 3 x4, kI cI w0 64 x5, kI cI u0 64 x6] := hD
        refine lv_goto (tgt := 36) hx hb dX2_bySplit_31 (by decide) ?_
        refine lv_istore (lv' := [(6, .int (nI q_8)), (0, .ref og), (1, .ref fg), (2, .int (nI b)), (3, .ref rl), (4, .int (nI le)), (5, .int (nI on))]) hx hb dX2_bySplit_36 hl (by decide) rfl (fun ls hl => ?_)
        refine lv_iload hx hb dX2_bySplit_38 (lv_at hl 0 rfl) ?_
        refine lv_iload hx hb dX2_bySplit_40 (lv_at hl 5 rfl) ?_
        refine lv_icmp_lt (tgt := 48) hx hb dX2_bySplit_42 (by decide) (fun c_11 => ?_) (fun c_11 => ?_)
        · skip
          have hSB := (zm_sub (S := b) (p := on) hb32 (by omega)).1.mp c_3
          have hrest := (zm_sub (S := b) (p := on) hb32 (by omega)).2 hSB
          have hob := hrest.2.1
          refine lv_iload_n hx hb dX2_bySplit_48 rfl (lv_at hl 3 rfl) ?_
          refine lv_iload hx hb dX2_bySplit_49 (lv_at hl 6 rfl) ?_
          refine lv_iconst (v := -1) hx hb dX2_bySplit_51 (by decide) ?_
          refine lv_ixor hx hb dX2_bySplit_52 ?_
          refine lv_iand hx hb dX2_bySplit_53 ?_
          refine lv_nmi (show _ = (nI (b - on) : Int32) from hrest.1) ?_
          refine lv_istore (lv' := [(7, .int (nI (b - on))), (6, .int (nI q_8)), (0, .ref og), (1, .ref fg), (2, .int (nI b)), (3, .ref rl), (4, .int (nI le)), (5, .int (nI on))]) hx hb dX2_bySplit_54 hl (by decide) rfl (fun ls hl => ?_)
          refine lv_iconst (v := 0) hx hb dX2_bySplit_56 (by decide) ?_
          refine lv_istore (lv' := [(8, .int 0), (7, .int (nI (b - on))), (6, .int (nI q_8)), (0, .ref og), (1, .ref fg), (2, .int (nI b)), (3, .ref rl), (4, .int (nI le)), (5, .int (nI on))]) hx hb dX2_bySplit_57 hl (by decide) rfl (fun ls hl => ?_)
          have LOOP_59 : ∀ (n : Nat) (tw : Nat) (l2 : Nat), (tw + n = b - on + 1) → (zSpJ (fun i_9 => zSl (gC n9 v g1 g2 g3) gr (TD zF9 (tbl sf)) jj i_9 (fun k_9 => tn (sd k_9))) b on tw l2) → ∀ (H : Heap) (locs : List Loc) (ls : Array Slot), va_P D vwCl [kX2 og o1 o2, kI cI o1 2400 sf, kI cI o2 4 sd, kX0 fg f1 f2 f3 (nI n9) (nI v), kI cI f1 12 g1, kI cI f2 12 g2, kI cI f3 12 g3, kX4 rl op b0 s0 w0 u0, kX0 b0 a1 a2 a3 en ev, kI cI a1 3 x1, kI cI a2 3 x2, kI cI a3 3 x3, kI cI s0 3 x4, kI cI w0 64 x5, kI cI u0 64 x6] H → va_D A [kX2 og o1 o2, kI cI o1 2400 sf, kI cI o2 4 sd, kX0 fg f1 f2 f3 (nI n9) (nI v), kI cI f1 12 g1, kI cI f2 12 g2, kI cI f3 12 g3, kX4 rl op b0 s0 w0 u0, kX0 b0 a1 a2 a3 en ev, kI cI a1 3 x1, kI cI a2 3 x2, kI cI a3 3 x3, kI cI s0 3 x4, kI cI w0 64 x5, kI cI u0 64 x6] → va_S A s.heap H locs → lv_has ls 10 [(0, .ref og), (1, .ref fg), (2, .int (nI b)), (3, .ref rl), (4, .int (nI l2)), (5, .int (nI on)), (6, .int (nI q_8)), (7, .int (nI (b - on))), (8, .int (nI tw))] → W p l e (rM 2 0 0 52) s m ([.ref og, .ref fg, .int (nI b), .ref rl] : List Value).toArray below meth c H locs 0 0 Q (F0 m 59 ls []) := by
            intro n
            induction n with
            | zero =>
              intro tw l2 ht hJ2 H locs ls hP hD hS hl
              refine lv_iload hx hb dX2_bySplit_59 (lv_at hl 8 rfl) ?_
              refine lv_iload hx hb dX2_bySplit_61 (lv_at hl 7 rfl) ?_
              refine lv_icmp_gt (tgt := 120) hx hb dX2_bySplit_63 (by decide) (fun c_12 => ?_) (fun c_12 => ?_)
              rotate_left
              · exact absurd (nI_lt (a := (b - on)) (b := tw) (by omega) (by omega)) c_12
              refine lv_iinc (v := nI (on + 1)) (lv' := [(5, .int (nI (on + 1))), (0, .ref og), (1, .ref fg), (2, .int (nI b)), (3, .ref rl), (4, .int (nI l2)), (6, .int (nI q_8)), (7, .int (nI (b - on))), (8, .int (nI tw))]) hx hb dX2_bySplit_120 hl (k := 5) rfl (nI_1 on) (by decide) rfl (fun ls hl => ?_)
              refine lv_goto (tgt := 7) hx hb dX2_bySplit_123 (by decide) ?_
              exact ih_7 (on + 1) l2 (by omega) (by omega) (zSpJ_e hb32 (by omega) hJ2) _ _ _ (hP.sub [0, 1, 2, 3, 4, 5, 6, 7, 8, 9, 10, 11, 12, 13, 14] rfl) (hD.sub [0, 1, 2, 3, 4, 5, 6, 7, 8, 9, 10, 11, 12, 13, 14] rfl rfl) hS (lv_sub hl [1, 2, 3, 4, 5, 0] rfl)
            | succ n ih_59 =>
              intro tw l2 ht hJ2 H locs ls hP hD hS hl
              refine lv_iload hx hb dX2_bySplit_59 (lv_at hl 8 rfl) ?_
              refine lv_iload hx hb dX2_bySplit_61 (lv_at hl 7 rfl) ?_
              refine lv_icmp_gt (tgt := 120) hx hb dX2_bySplit_63 (by decide) (fun c_13 => ?_) (fun c_13 => ?_)
              · exact absurd c_13 (nI_nlt (a := (b - on)) (b := tw) (by omega) (by omega))
              have hle8 := hJ2.1
              refine lv_iload hx hb dX2_bySplit_66 (lv_at hl 8 rfl) ?_
              refine lv_iload hx hb dX2_bySplit_68 (lv_at hl 7 rfl) ?_
              refine lv_iconst (v := -1) hx hb dX2_bySplit_70 (by decide) ?_
              refine lv_ixor hx hb dX2_bySplit_71 ?_
              refine lv_iand hx hb dX2_bySplit_72 ?_
              refine lv_if_ne (tgt := 114) hx hb dX2_bySplit_73 (by decide) (fun c_14 => ?_) (fun c_14 => ?_)
              · skip
                refine lv_iinc (v := nI (tw + 1)) (lv' := [(8, .int (nI (tw + 1))), (0, .ref og), (1, .ref fg), (2, .int (nI b)), (3, .ref rl), (4, .int (nI l2)), (5, .int (nI on)), (6, .int (nI q_8)), (7, .int (nI (b - on)))]) hx hb dX2_bySplit_114 hl (k := 8) rfl (nI_1 tw) (by decide) rfl (fun ls hl => ?_)
                refine lv_goto (tgt := 59) hx hb dX2_bySplit_117 (by decide) ?_
                exact ih_59 (tw + 1) l2 (by omega) (zSpJ_k hb32 (fun q => c_14 ((zm_sub (S := b - on) (p := tw) (by omega) (by omega)).1.mpr q)) hJ2) _ _ _ (hP.sub [0, 1, 2, 3, 4, 5, 6, 7, 8, 9, 10, 11, 12, 13, 14] rfl) (hD.sub [0, 1, 2, 3, 4, 5, 6, 7, 8, 9, 10, 11, 12, 13, 14] rfl rfl) hS (lv_sub hl [1, 2, 3, 4, 5, 6, 7, 8, 0] rfl)
              · skip
                refine lv_aload_n hx hb dX2_bySplit_76 rfl (lv_at hl 0 rfl) ?_
                refine lv_aload_n hx hb dX2_bySplit_77 rfl (lv_at hl 1 rfl) ?_
                refine lv_iload hx hb dX2_bySplit_78 (lv_at hl 8 rfl) ?_
                refine lv_aload_n hx hb dX2_bySplit_80 rfl (lv_at hl 3 rfl) ?_
                refine lv_iconst (v := 1) hx hb dX2_bySplit_81 (by decide) ?_
                refine xc_i (wc := [kX2 og o1 o2, kI cI o1 2400 sf, kI cI o2 4 sd, kX0 fg f1 f2 f3 (nI n9) (nI v), kI cI f1 12 g1, kI cI f2 12 g2, kI cI f3 12 g3, kX4 rl op b0 s0 w0 u0, kX0 b0 a1 a2 a3 en ev, kI cI a1 3 x1, kI cI a2 3 x2, kI cI a3 3 x3, kI cI s0 3 x4, kI cI w0 64 x5, kI cI u0 64 x6]) (wr := []) (xrV (n := 4) (As := [.ref fg, .int (nI tw), .ref rl, .int 1]) (rest := []) (ci := 2) (q0 := 0) hd hK hP hD (g_bySlot_1 l D cI cJ cZ cR _ og o1 o2 fg f1 f2 f3 n9 v rl b0 a1 a2 a3 s0 w0 u0 tw jj gr sf sd g1 g2 g3 op en ev x1 x2 x3 x4 x5 x6 hn5 hv5 hG hJ hsd hT (by omega)) (gV t_425 mV_X2_bySlot) hV_X2_bySlot ⟨(Nat.le_of_ble_eq_true rfl), (Nat.le_of_ble_eq_true rfl)⟩ rfl rfl [0, 1, 2, 3, 4, 5, 6, 7, 8, 9, 10, 11, 12, 13, 14] rfl rfl rfl hl.1 rfl (Nat.le_of_ble_eq_true rfl) dX2_bySplit_82 ⟨(Nat.le_of_ble_eq_true rfl), (Nat.le_of_ble_eq_true rfl)⟩) hP hD hS hA [0, 1, 2, 3, 4, 5, 6, 7, 8, 9, 10, 11, 12, 13, 14] [] rfl rfl rfl (by decide) (fun r_15 u_16 H locs hw_17 hP hD hS => ?_)
                obtain ⟨q_18, rfl⟩ : ∃ z9, z9 = u_16 := ⟨_, rfl⟩
                obtain ⟨hw_19, hw_20⟩ : (r_15 = (nI q_18)) ∧ (zLs zF9 (zSl (gC n9 v g1 g2 g3) gr (TD zF9 (tbl sf)) jj 1 (fun k_9 => tn (sd k_9)) tw) q_18) := hw_17
                subst hw_19
                have hx0 := hw_20
                have hx9 := hx0.1
                have hP : va_P D vwCl [kX2 og o1 o2, kI cI o1 2400 sf, kI cI o2 4 sd, kX0 fg f1 f2 f3 (nI n9) (nI v), kI cI f1 12 g1, kI cI f2 12 g2, kI cI f3 12 g3, kX4 rl op b0 s0 w0 u0, kX0 b0 a1 a2 a3 en ev, kI cI a1 3 x1, kI cI a2 3 x2, kI cI a3 3 x3, kI cI s0 3 x4, kI cI w0 64 x5, kI cI u0 64 x6] H := hP
                have hD : va_D A [kX2 og o1 o2, kI cI o1 2400 sf, kI cI o2 4 sd, kX0 fg f1 f2 f3 (nI n9) (nI v), kI cI f1 12 g1, kI cI f2 12 g2, kI cI f3 12 g3, kX4 rl op b0 s0 w0 u0, kX0 b0 a1 a2 a3 en ev, kI cI a1 3 x1, kI cI a2 3 x2, kI cI a3 3 x3, kI cI s0 3 x4, kI cI w0 64 x5, kI cI u0 64 x6] := hD
                have hSB2 := (zm_sub (S := b - on) (p := tw) (by omega) (by omega)).1.mp c_14
                have hrest2 := (zm_sub (S := b - on) (p := tw) (by omega) (by omega)).2 hSB2
                refine lv_aload_n hx hb dX2_bySplit_85 rfl (lv_at hl 0 rfl) ?_
                refine lv_aload_n hx hb dX2_bySplit_86 rfl (lv_at hl 1 rfl) ?_
                refine lv_iload hx hb dX2_bySplit_87 (lv_at hl 7 rfl) ?_
                refine lv_iload hx hb dX2_bySplit_89 (lv_at hl 8 rfl) ?_
                refine lv_iconst (v := -1) hx hb dX2_bySplit_91 (by decide) ?_
                refine lv_ixor hx hb dX2_bySplit_92 ?_
                refine lv_iand hx hb dX2_bySplit_93 ?_
                refine lv_nmi (show _ = (nI (b - on - tw) : Int32) from hrest2.1) ?_
                refine lv_aload_n hx hb dX2_bySplit_94 rfl (lv_at hl 3 rfl) ?_
                refine lv_iconst (v := 2) hx hb dX2_bySplit_95 (by decide) ?_
                refine xc_i (wc := [kX2 og o1 o2, kI cI o1 2400 sf, kI cI o2 4 sd, kX0 fg f1 f2 f3 (nI n9) (nI v), kI cI f1 12 g1, kI cI f2 12 g2, kI cI f3 12 g3, kX4 rl op b0 s0 w0 u0, kX0 b0 a1 a2 a3 en ev, kI cI a1 3 x1, kI cI a2 3 x2, kI cI a3 3 x3, kI cI s0 3 x4, kI cI w0 64 x5, kI cI u0 64 x6]) (wr := []) (xrV (n := 4) (As := [.ref fg, .int (nI (b - on - tw)), .ref rl, .int 2]) (rest := [.int (nI q_18)]) (ci := 2) (q0 := 0) hd hK hP hD (g_bySlot_2 l D cI cJ cZ cR _ og o1 o2 fg f1 f2 f3 n9 v rl b0 a1 a2 a3 s0 w0 u0 (b - on - tw) jj gr sf sd g1 g2 g3 op en ev x1 x2 x3 x4 x5 x6 hn5 hv5 hG hJ hsd hT (by omega)) (gV t_425 mV_X2_bySlot) hV_X2_bySlot ⟨(Nat.le_of_ble_eq_true rfl), (Nat.le_of_ble_eq_true rfl)⟩ rfl rfl [0, 1, 2, 3, 4, 5, 6, 7, 8, 9, 10, 11, 12, 13, 14] rfl rfl rfl hl.1 rfl (Nat.le_of_ble_eq_true rfl) dX2_bySplit_96 ⟨(Nat.le_of_ble_eq_true rfl), (Nat.le_of_ble_eq_true rfl)⟩) hP hD hS hA [0, 1, 2, 3, 4, 5, 6, 7, 8, 9, 10, 11, 12, 13, 14] [] rfl rfl rfl (by decide) (fun r_21 u_22 H locs hw_23 hP hD hS => ?_)
                obtain ⟨q_24, rfl⟩ : ∃ z9, z9 = u_22 := ⟨_, rfl⟩
                obtain ⟨hw_25, hw_26⟩ : (r_21 = (nI q_24)) ∧ (zLs zF9 (zSl (gC n9 v g1 g2 g3) gr (TD zF9 (tbl sf)) jj 2 (fun k_9 => tn (sd k_9)) (b - on - tw)) q_24) := hw_23
                subst hw_25
                have hy0 := hw_26
                have hy9 := hy0.1
                have hP : va_P D vwCl [kX2 og o1 o2, kI cI o1 2400 sf, kI cI o2 4 sd, kX0 fg f1 f2 f3 (nI n9) (nI v), kI cI f1 12 g1, kI cI f2 12 g2, kI cI f3 12 g3, kX4 rl op b0 s0 w0 u0, kX0 b0 a1 a2 a3 en ev, kI cI a1 3 x1, kI cI a2 3 x2, kI cI a3 3 x3, kI cI s0 3 x4, kI cI w0 64 x5, kI cI u0 64 x6] H := hP
                have hD : va_D A [kX2 og o1 o2, kI cI o1 2400 sf, kI cI o2 4 sd, kX0 fg f1 f2 f3 (nI n9) (nI v), kI cI f1 12 g1, kI cI f2 12 g2, kI cI f3 12 g3, kX4 rl op b0 s0 w0 u0, kX0 b0 a1 a2 a3 en ev, kI cI a1 3 x1, kI cI a2 3 x2, kI cI a3 3 x3, kI cI s0 3 x4, kI cI w0 64 x5, kI cI u0 64 x6] := hD
                refine lv_iadd hx hb dX2_bySplit_99 ?_
                refine lv_nmi (show _ = (nI (q_18 + q_24)) from nI_add (q_18) (q_24)) ?_
                refine lv_istore (lv' := [(9, .int (nI (q_18 + q_24))), (0, .ref og), (1, .ref fg), (2, .int (nI b)), (3, .ref rl), (4, .int (nI l2)), (5, .int (nI on)), (6, .int (nI q_8)), (7, .int (nI (b - on))), (8, .int (nI tw))]) hx hb dX2_bySplit_100 hl (by decide) rfl (fun ls hl => ?_)
                refine lv_iload hx hb dX2_bySplit_102 (lv_at hl 5 rfl) ?_
                refine lv_iload hx hb dX2_bySplit_104 (lv_at hl 7 rfl) ?_
                refine lv_iload hx hb dX2_bySplit_106 (lv_at hl 0 rfl) ?_
                refine lv_iadd hx hb dX2_bySplit_108 ?_
                refine lv_nmi (show _ = (nI (q_8 + (q_18 + q_24))) from nI_add (q_8) ((q_18 + q_24))) ?_
                refine va_mmin hx hb (hml.trans hl.1.symm) hown (hts _ t_434) (hts _ t_435) (hts _ t_9) (hts _ t_436) (Nat.le_of_ble_eq_true rfl) (Nat.le_of_ble_eq_true rfl) (Nat.le_of_ble_eq_true rfl) (Nat.le_of_ble_eq_true rfl) dX2_bySplit_109 ?_
                refine lv_nmi (show _ = (nI (min l2 (q_8 + (q_18 + q_24))) : Int32) from mn_ok (by omega) (by omega)) ?_
                refine lv_istore (lv' := [(4, .int (nI (min l2 (q_8 + (q_18 + q_24))))), (9, .int (nI (q_18 + q_24))), (0, .ref og), (1, .ref fg), (2, .int (nI b)), (3, .ref rl), (5, .int (nI on)), (6, .int (nI q_8)), (7, .int (nI (b - on))), (8, .int (nI tw))]) hx hb dX2_bySplit_112 hl (by decide) rfl (fun ls hl => ?_)
                refine lv_iinc (v := nI (tw + 1)) (lv' := [(8, .int (nI (tw + 1))), (4, .int (nI (min l2 (q_8 + (q_18 + q_24))))), (9, .int (nI (q_18 + q_24))), (0, .ref og), (1, .ref fg), (2, .int (nI b)), (3, .ref rl), (5, .int (nI on)), (6, .int (nI q_8)), (7, .int (nI (b - on)))]) hx hb dX2_bySplit_114 hl (k := 9) rfl (nI_1 tw) (by decide) rfl (fun ls hl => ?_)
                refine lv_goto (tgt := 59) hx hb dX2_bySplit_117 (by decide) ?_
                exact ih_59 (tw + 1) (min l2 (q_8 + (q_18 + q_24))) (by omega) (zSpJ_s hb32 hSB (by omega) hSB2 (by omega) hf0 hx0 hy0 hJ2) _ _ _ (hP.sub [0, 1, 2, 3, 4, 5, 6, 7, 8, 9, 10, 11, 12, 13, 14] rfl) (hD.sub [0, 1, 2, 3, 4, 5, 6, 7, 8, 9, 10, 11, 12, 13, 14] rfl rfl) hS (lv_sub hl [3, 4, 5, 6, 1, 7, 8, 9, 0] rfl)
          exact LOOP_59 (b - on + 1) 0 le (by omega) (zSpJ_0 hI) _ _ _ (hP.sub [0, 1, 2, 3, 4, 5, 6, 7, 8, 9, 10, 11, 12, 13, 14] rfl) (hD.sub [0, 1, 2, 3, 4, 5, 6, 7, 8, 9, 10, 11, 12, 13, 14] rfl rfl) hS (lv_sub hl [3, 4, 5, 6, 7, 8, 2, 1, 0] rfl)
        · skip
          refine lv_goto (tgt := 120) hx hb dX2_bySplit_45 (by decide) ?_
          refine lv_iinc (v := nI (on + 1)) (lv' := [(5, .int (nI (on + 1))), (6, .int (nI q_8)), (0, .ref og), (1, .ref fg), (2, .int (nI b)), (3, .ref rl), (4, .int (nI le))]) hx hb dX2_bySplit_120 hl (k := 6) rfl (nI_1 on) (by decide) rfl (fun ls hl => ?_)
          refine lv_goto (tgt := 7) hx hb dX2_bySplit_123 (by decide) ?_
          exact ih_7 (on + 1) le (by omega) (by omega) (zSpI_g hf0 (nltN (by omega) (by omega) c_11) hI) _ _ _ (hP.sub [0, 1, 2, 3, 4, 5, 6, 7, 8, 9, 10, 11, 12, 13, 14] rfl) (hD.sub [0, 1, 2, 3, 4, 5, 6, 7, 8, 9, 10, 11, 12, 13, 14] rfl rfl) hS (lv_sub hl [2, 3, 4, 5, 6, 0] rfl)
  exact LOOP_7 b 1 536870912 (by omega) (by omega) (zSpI_0 (fun n_9 q => ((zSl_sv (show 0 < yS gr jj from hJ.2.2.1)).mp q).1 rfl)) _ _ _ (hP.sub [0, 1, 2, 3, 4, 5, 6, 7, 8, 9, 10, 11, 12, 13, 14] rfl) (hD.sub [0, 1, 2, 3, 4, 5, 6, 7, 8, 9, 10, 11, 12, 13, 14] rfl rfl) hS (lv_sub hl [2, 3, 4, 5, 1, 0] rfl)
set_option maxHeartbeats 4000000 in
set_option maxRecDepth 100000 in
theorem c_X2_byRule (sz : Nat) (og : Nat) (o1 : Nat) (o2 : Nat) (fg : Nat) (f1 : Nat) (f2 : Nat) (f3 : Nat) (n9 : Nat) (v : Nat) (rl : Nat) (b0 : Nat) (a1 : Nat) (a2 : Nat) (a3 : Nat) (s0 : Nat) (w0 : Nat) (u0 : Nat) (b : Nat) (jj : Nat) (gr : GR) (sf : Nat → Int32) (sd : Nat → Int32) (g1 : Nat → Int32) (g2 : Nat → Int32) (g3 : Nat → Int32) (op : Int32) (en : Int32) (ev : Int32) (x1 : Nat → Int32) (x2 : Nat → Int32) (x3 : Nat → Int32) (x4 : Nat → Int32) (x5 : Nat → Int32) (x6 : Nat → Int32) (hn5 : n9 ≤ 5) (hv5 : v ≤ 5) (hG : GI n9 v g1 g2 g3) (hJ : RJ gr jj en ev x2 x3 x4) (hsd2 : SDn 2 sd) (hT : TBI sf) (hb32 : b < 32) : CTi l D cI cJ cZ cR yX2_byRule cX2_byRule 10 (some .int) 3 81 0 0 sz [.ref og, .ref fg, .int (nI b), .ref rl] [kX2 og o1 o2, kI cI o1 2400 sf, kI cI o2 4 sd, kX0 fg f1 f2 f3 (nI n9) (nI v), kI cI f1 12 g1, kI cI f2 12 g2, kI cI f3 12 g3, kX4 rl op b0 s0 w0 u0, kX0 b0 a1 a2 a3 en ev, kI cI a1 3 x1, kI cI a2 3 x2, kI cI a3 3 x3, kI cI s0 3 x4, kI cI w0 64 x5, kI cI u0 64 x6] (fun (r : Int32) (u : Nat × (Nat → Int32)) => (r = (nI u.1)) ∧ (SDn 2 u.2) ∧ (u.2 0 = sd 0) ∧ (u.2 1 = sd 1) ∧ (zLs zF9 (zBy (gC n9 v g1 g2 g3) gr (TD zF9 (tbl sf)) jj (tn (sd 0)) (tn (sd 1)) b) u.1)) (fun (u : Nat × (Nat → Int32)) => [kX2 og o1 o2, kI cI o1 2400 sf, kI cI o2 4 u.2, kX0 fg f1 f2 f3 (nI n9) (nI v), kI cI f1 12 g1, kI cI f2 12 g2, kI cI f3 12 g3, kX4 rl op b0 s0 w0 u0, kX0 b0 a1 a2 a3 en ev, kI cI a1 3 x1, kI cI a2 3 x2, kI cI a3 3 x3, kI cI s0 3 x4, kI cI w0 64 x5, kI cI u0 64 x6]) := by
  refine CTi.of (ty := .int) (by decide) (Nat.le_of_ble_eq_true rfl) rfl ?_
  intro p e s m below meth c A Q ls hd hin hK hsz hP hD hA hS hl hret
  obtain ⟨hx, hb, hml, hown, hts⟩ := id hd
  have hK1 := hK.1
  have hown : s.vm.findClass RX2 = some m.cls := hown
  have hl : lv_has ls 10 [(0, .ref og), (1, .ref fg), (2, .int (nI b)), (3, .ref rl)] := hl
  have hF9 : zF9 = 536870912 := rfl
  obtain ⟨-, -, hS1, hS3, hW2, hW4, -, hWf⟩ := id hJ
  obtain ⟨es0, hs0⟩ := SDn_tn hsd2 (by decide : 0 < 2)
  obtain ⟨es1, hs1⟩ := SDn_tn hsd2 (by decide : 1 < 2)
  have CUT_45 : ∀ (th : Nat) (fo : Nat), ((2 < yW gr jj ∧ th = v) ∨ (yW gr jj ≤ 2 ∧ th = 1)) → ((3 < yW gr jj ∧ fo = v) ∨ (yW gr jj ≤ 3 ∧ fo = 1)) → ∀ (H : Heap) (locs : List Loc) (ls : Array Slot), va_P D vwCl [kX2 og o1 o2, kI cI o1 2400 sf, kI cI o2 4 sd, kX0 fg f1 f2 f3 (nI n9) (nI v), kI cI f1 12 g1, kI cI f2 12 g2, kI cI f3 12 g3, kX4 rl op b0 s0 w0 u0, kX0 b0 a1 a2 a3 en ev, kI cI a1 3 x1, kI cI a2 3 x2, kI cI a3 3 x3, kI cI s0 3 x4, kI cI w0 64 x5, kI cI u0 64 x6] H → va_D A [kX2 og o1 o2, kI cI o1 2400 sf, kI cI o2 4 sd, kX0 fg f1 f2 f3 (nI n9) (nI v), kI cI f1 12 g1, kI cI f2 12 g2, kI cI f3 12 g3, kX4 rl op b0 s0 w0 u0, kX0 b0 a1 a2 a3 en ev, kI cI a1 3 x1, kI cI a2 3 x2, kI cI a3 3 x3, kI cI s0 3 x4, kI cI w0 64 x5, kI cI u0 64 x6] → va_S A s.heap H locs → lv_has ls 10 [(0, .ref og), (1, .ref fg), (2, .int (nI b)), (3, .ref rl), (4, .int 536870912), (5, .int (nI (yW gr jj))), (6, .int (nI th)), (7, .int (nI fo))] → W p l e (rM 3 0 0 81) s m ([.ref og, .ref fg, .int (nI b), .ref rl] : List Value).toArray below meth c H locs 0 0 Q (F0 m 45 ls []) := by
    intro th fo hth hfo H locs ls hP hD hS hl
    refine lv_iconst (v := 0) hx hb dX2_byRule_45 (by decide) ?_
    refine lv_istore (lv' := [(8, .int 0), (0, .ref og), (1, .ref fg), (2, .int (nI b)), (3, .ref rl), (4, .int 536870912), (5, .int (nI (yW gr jj))), (6, .int (nI th)), (7, .int (nI fo))]) hx hb dX2_byRule_46 hl (by decide) rfl (fun ls hl => ?_)
    have LOOP_48 : ∀ (n : Nat) (i : Nat) (le : Nat) (sq : Nat → Int32), (i + n = th) → (SDn 2 sq) → (sq 0 = sd 0 ∧ sq 1 = sd 1) → (zByI (gC n9 v g1 g2 g3) gr (TD zF9 (tbl sf)) jj (tn (sd 0)) (tn (sd 1)) b i le) → ∀ (H : Heap) (locs : List Loc) (ls : Array Slot), va_P D vwCl [kX2 og o1 o2, kI cI o1 2400 sf, kI cI o2 4 sq, kX0 fg f1 f2 f3 (nI n9) (nI v), kI cI f1 12 g1, kI cI f2 12 g2, kI cI f3 12 g3, kX4 rl op b0 s0 w0 u0, kX0 b0 a1 a2 a3 en ev, kI cI a1 3 x1, kI cI a2 3 x2, kI cI a3 3 x3, kI cI s0 3 x4, kI cI w0 64 x5, kI cI u0 64 x6] H → va_D A [kX2 og o1 o2, kI cI o1 2400 sf, kI cI o2 4 sq, kX0 fg f1 f2 f3 (nI n9) (nI v), kI cI f1 12 g1, kI cI f2 12 g2, kI cI f3 12 g3, kX4 rl op b0 s0 w0 u0, kX0 b0 a1 a2 a3 en ev, kI cI a1 3 x1, kI cI a2 3 x2, kI cI a3 3 x3, kI cI s0 3 x4, kI cI w0 64 x5, kI cI u0 64 x6] → va_S A s.heap H locs → lv_has ls 10 [(0, .ref og), (1, .ref fg), (2, .int (nI b)), (3, .ref rl), (4, .int (nI le)), (5, .int (nI (yW gr jj))), (6, .int (nI th)), (7, .int (nI fo)), (8, .int (nI i))] → W p l e (rM 3 0 0 81) s m ([.ref og, .ref fg, .int (nI b), .ref rl] : List Value).toArray below meth c H locs 0 0 Q (F0 m 48 ls []) := by
      intro n
      induction n with
      | zero =>
        intro i le sq hi hs2 hq0 hI H locs ls hP hD hS hl
        refine lv_iload hx hb dX2_byRule_48 (lv_at hl 8 rfl) ?_
        refine lv_iload hx hb dX2_byRule_50 (lv_at hl 6 rfl) ?_
        refine lv_icmp_ge (tgt := 116) hx hb dX2_byRule_52 (by decide) (fun c_1 => ?_) (fun c_1 => ?_)
        rotate_left
        · exact absurd (nI_le (a := th) (b := i) (by omega) (by omega)) c_1
        refine lv_iload hx hb dX2_byRule_116 (lv_at hl 4 rfl) ?_
        exact hret _ _ _ _ _ _ (nI le) (le, sq) dX2_byRule_118 rfl hS (Nat.le_of_ble_eq_true rfl) (Nat.le_of_ble_eq_true rfl) ⟨rfl, hs2, hq0.1, hq0.2, zByI_e hth (by omega) hI⟩ (hP.sub [0, 1, 2, 3, 4, 5, 6, 7, 8, 9, 10, 11, 12, 13, 14] rfl) (hD.sub [0, 1, 2, 3, 4, 5, 6, 7, 8, 9, 10, 11, 12, 13, 14] rfl rfl)
      | succ n ih_48 =>
        intro i le sq hi hs2 hq0 hI H locs ls hP hD hS hl
        refine lv_iload hx hb dX2_byRule_48 (lv_at hl 8 rfl) ?_
        refine lv_iload hx hb dX2_byRule_50 (lv_at hl 6 rfl) ?_
        refine lv_icmp_ge (tgt := 116) hx hb dX2_byRule_52 (by decide) (fun c_2 => ?_) (fun c_2 => ?_)
        · exact absurd c_2 (nI_ge (a := i) (b := th) (by omega) (by omega))
        refine lv_aload_n hx hb dX2_byRule_55 rfl (lv_at hl 0 rfl) ?_
        refine va_get (D := D) (ci := 2) (v := .ref o2) (C := RX2) (T := TX2) (N := 2) hx hb hts iT_X2 hown hK1 hP 0 rfl rfl 1 (by decide) (hts _ t_124) (fun _ h9 => h9) rfl dX2_byRule_56 ?_
        refine lv_iconst (v := 2) hx hb dX2_byRule_59 (by decide) ?_
        refine lv_iload hx hb dX2_byRule_60 (lv_at hl 8 rfl) ?_
        refine va_iast hx hb hK1 hP hD hS 2 0 rfl rfl (vin (by decide)) dX2_byRule_62 (fun H locs hP hD hS => ?_)
        have hP : va_P D vwCl [kX2 og o1 o2, kI cI o1 2400 sf, kI cI o2 4 (upd sq 2 (nI i)), kX0 fg f1 f2 f3 (nI n9) (nI v), kI cI f1 12 g1, kI cI f2 12 g2, kI cI f3 12 g3, kX4 rl op b0 s0 w0 u0, kX0 b0 a1 a2 a3 en ev, kI cI a1 3 x1, kI cI a2 3 x2, kI cI a3 3 x3, kI cI s0 3 x4, kI cI w0 64 x5, kI cI u0 64 x6] H := hP
        have hD : va_D A [kX2 og o1 o2, kI cI o1 2400 sf, kI cI o2 4 (upd sq 2 (nI i)), kX0 fg f1 f2 f3 (nI n9) (nI v), kI cI f1 12 g1, kI cI f2 12 g2, kI cI f3 12 g3, kX4 rl op b0 s0 w0 u0, kX0 b0 a1 a2 a3 en ev, kI cI a1 3 x1, kI cI a2 3 x2, kI cI a3 3 x3, kI cI s0 3 x4, kI cI w0 64 x5, kI cI u0 64 x6] := hD
        refine lv_iconst (v := 0) hx hb dX2_byRule_63 (by decide) ?_
        refine lv_istore (lv' := [(9, .int 0), (0, .ref og), (1, .ref fg), (2, .int (nI b)), (3, .ref rl), (4, .int (nI le)), (5, .int (nI (yW gr jj))), (6, .int (nI th)), (7, .int (nI fo)), (8, .int (nI i))]) hx hb dX2_byRule_64 hl (by decide) rfl (fun ls hl => ?_)
        have LOOP_66 : ∀ (n : Nat) (jx : Nat) (l2 : Nat) (sr : Nat → Int32), (jx + n = fo) → (SDn 3 sr) → (sr 0 = sd 0 ∧ sr 1 = sd 1 ∧ sr 2 = nI i) → (zByJ (gC n9 v g1 g2 g3) gr (TD zF9 (tbl sf)) jj (tn (sd 0)) (tn (sd 1)) b i jx l2) → ∀ (H : Heap) (locs : List Loc) (ls : Array Slot), va_P D vwCl [kX2 og o1 o2, kI cI o1 2400 sf, kI cI o2 4 sr, kX0 fg f1 f2 f3 (nI n9) (nI v), kI cI f1 12 g1, kI cI f2 12 g2, kI cI f3 12 g3, kX4 rl op b0 s0 w0 u0, kX0 b0 a1 a2 a3 en ev, kI cI a1 3 x1, kI cI a2 3 x2, kI cI a3 3 x3, kI cI s0 3 x4, kI cI w0 64 x5, kI cI u0 64 x6] H → va_D A [kX2 og o1 o2, kI cI o1 2400 sf, kI cI o2 4 sr, kX0 fg f1 f2 f3 (nI n9) (nI v), kI cI f1 12 g1, kI cI f2 12 g2, kI cI f3 12 g3, kX4 rl op b0 s0 w0 u0, kX0 b0 a1 a2 a3 en ev, kI cI a1 3 x1, kI cI a2 3 x2, kI cI a3 3 x3, kI cI s0 3 x4, kI cI w0 64 x5, kI cI u0 64 x6] → va_S A s.heap H locs → lv_has ls 10 [(0, .ref og), (1, .ref fg), (2, .int (nI b)), (3, .ref rl), (4, .int (nI l2)), (5, .int (nI (yW gr jj))), (6, .int (nI th)), (7, .int (nI fo)), (8, .int (nI i)), (9, .int (nI jx))] → W p l e (rM 3 0 0 81) s m ([.ref og, .ref fg, .int (nI b), .ref rl] : List Value).toArray below meth c H locs 0 0 Q (F0 m 66 ls []) := by
          intro n
          induction n with
          | zero =>
            intro jx l2 sr hj hs3 hr0 hJ2 H locs ls hP hD hS hl
            refine lv_iload hx hb dX2_byRule_66 (lv_at hl 9 rfl) ?_
            refine lv_iload hx hb dX2_byRule_68 (lv_at hl 7 rfl) ?_
            refine lv_icmp_ge (tgt := 110) hx hb dX2_byRule_70 (by decide) (fun c_3 => ?_) (fun c_3 => ?_)
            rotate_left
            · exact absurd (nI_le (a := fo) (b := jx) (by omega) (by omega)) c_3
            refine lv_iinc (v := nI (i + 1)) (lv' := [(8, .int (nI (i + 1))), (0, .ref og), (1, .ref fg), (2, .int (nI b)), (3, .ref rl), (4, .int (nI l2)), (5, .int (nI (yW gr jj))), (6, .int (nI th)), (7, .int (nI fo)), (9, .int (nI jx))]) hx hb dX2_byRule_110 hl (k := 8) rfl (nI_1 i) (by decide) rfl (fun ls hl => ?_)
            refine lv_goto (tgt := 48) hx hb dX2_byRule_113 (by decide) ?_
            exact ih_48 (i + 1) l2 sr (by omega) (SDn_le hs3 (by decide)) ⟨hr0.1, hr0.2.1⟩ (zByJ_e hfo (by omega) hJ2) _ _ _ (hP.sub [0, 1, 2, 3, 4, 5, 6, 7, 8, 9, 10, 11, 12, 13, 14] rfl) (hD.sub [0, 1, 2, 3, 4, 5, 6, 7, 8, 9, 10, 11, 12, 13, 14] rfl rfl) hS (lv_sub hl [1, 2, 3, 4, 5, 6, 7, 8, 0] rfl)
          | succ n ih_66 =>
            intro jx l2 sr hj hs3 hr0 hJ2 H locs ls hP hD hS hl
            refine lv_iload hx hb dX2_byRule_66 (lv_at hl 9 rfl) ?_
            refine lv_iload hx hb dX2_byRule_68 (lv_at hl 7 rfl) ?_
            refine lv_icmp_ge (tgt := 110) hx hb dX2_byRule_70 (by decide) (fun c_4 => ?_) (fun c_4 => ?_)
            · exact absurd c_4 (nI_ge (a := jx) (b := fo) (by omega) (by omega))
            refine lv_aload_n hx hb dX2_byRule_73 rfl (lv_at hl 0 rfl) ?_
            refine va_get (D := D) (ci := 2) (v := .ref o2) (C := RX2) (T := TX2) (N := 2) hx hb hts iT_X2 hown hK1 hP 0 rfl rfl 1 (by decide) (hts _ t_124) (fun _ h9 => h9) rfl dX2_byRule_74 ?_
            refine lv_iconst (v := 3) hx hb dX2_byRule_77 (by decide) ?_
            refine lv_iload hx hb dX2_byRule_78 (lv_at hl 9 rfl) ?_
            refine va_iast hx hb hK1 hP hD hS 2 0 rfl rfl (vin (by decide)) dX2_byRule_80 (fun H locs hP hD hS => ?_)
            have hP : va_P D vwCl [kX2 og o1 o2, kI cI o1 2400 sf, kI cI o2 4 (upd sr 3 (nI jx)), kX0 fg f1 f2 f3 (nI n9) (nI v), kI cI f1 12 g1, kI cI f2 12 g2, kI cI f3 12 g3, kX4 rl op b0 s0 w0 u0, kX0 b0 a1 a2 a3 en ev, kI cI a1 3 x1, kI cI a2 3 x2, kI cI a3 3 x3, kI cI s0 3 x4, kI cI w0 64 x5, kI cI u0 64 x6] H := hP
            have hD : va_D A [kX2 og o1 o2, kI cI o1 2400 sf, kI cI o2 4 (upd sr 3 (nI jx)), kX0 fg f1 f2 f3 (nI n9) (nI v), kI cI f1 12 g1, kI cI f2 12 g2, kI cI f3 12 g3, kX4 rl op b0 s0 w0 u0, kX0 b0 a1 a2 a3 en ev, kI cI a1 3 x1, kI cI a2 3 x2, kI cI a3 3 x3, kI cI s0 3 x4, kI cI w0 64 x5, kI cI u0 64 x6] := hD
            have hle8 := hJ2.1
            obtain ⟨t0, t1, t2, t3, hAd⟩ := st4 (sd := sd) hW4 hW2 hv5 hs0 hs1 es0 es1 hr0.1 hr0.2.1 hr0.2.2 (show i < th by omega) (show jx < fo by omega) hth hfo
            refine lv_aload_n hx hb dX2_byRule_81 rfl (lv_at hl 0 rfl) ?_
            refine lv_iload hx hb dX2_byRule_82 (lv_at hl 5 rfl) ?_
            refine xc_i (wc := [kX2 og o1 o2, kI cI o1 2400 sf, kI cI o2 4 (upd sr 3 (nI jx))]) (wr := [kX0 fg f1 f2 f3 (nI n9) (nI v), kI cI f1 12 g1, kI cI f2 12 g2, kI cI f3 12 g3, kX4 rl op b0 s0 w0 u0, kX0 b0 a1 a2 a3 en ev, kI cI a1 3 x1, kI cI a2 3 x2, kI cI a3 3 x3, kI cI s0 3 x4, kI cI w0 64 x5, kI cI u0 64 x6]) (xrV (n := 1) (As := [.int (nI (yW gr jj))]) (rest := []) (ci := 2) (q0 := 0) hd hK hP hD (c_X2_standsApart l D cI cJ cZ cR _ og o1 o2 sf (upd sr 3 (nI jx)) (yW gr jj) ) (gV t_417 mV_X2_standsApart) hV_X2_standsApart ⟨(Nat.le_of_ble_eq_true rfl), (Nat.le_of_ble_eq_true rfl)⟩ rfl rfl [0, 1, 2] rfl rfl rfl hl.1 rfl (Nat.le_of_ble_eq_true rfl) dX2_byRule_84 ⟨(Nat.le_of_ble_eq_true rfl), (Nat.le_of_ble_eq_true rfl)⟩) hP hD hS hA [0, 1, 2] [3, 4, 5, 6, 7, 8, 9, 10, 11, 12, 13, 14] rfl rfl rfl (by decide) (fun r_5 u_6 H locs hw_7 hP hD hS => ?_)
            have hw_8 : YN r_5 (sAp (yW gr jj) (upd sr 3 (nI jx))) := hw_7
            have hYA := hw_8
            have hP : va_P D vwCl [kX0 fg f1 f2 f3 (nI n9) (nI v), kI cI f1 12 g1, kI cI f2 12 g2, kI cI f3 12 g3, kX4 rl op b0 s0 w0 u0, kX0 b0 a1 a2 a3 en ev, kI cI a1 3 x1, kI cI a2 3 x2, kI cI a3 3 x3, kI cI s0 3 x4, kI cI w0 64 x5, kI cI u0 64 x6, kX2 og o1 o2, kI cI o1 2400 sf, kI cI o2 4 (upd sr 3 (nI jx))] H := hP
            have hD : va_D A [kX0 fg f1 f2 f3 (nI n9) (nI v), kI cI f1 12 g1, kI cI f2 12 g2, kI cI f3 12 g3, kX4 rl op b0 s0 w0 u0, kX0 b0 a1 a2 a3 en ev, kI cI a1 3 x1, kI cI a2 3 x2, kI cI a3 3 x3, kI cI s0 3 x4, kI cI w0 64 x5, kI cI u0 64 x6, kX2 og o1 o2, kI cI o1 2400 sf, kI cI o2 4 (upd sr 3 (nI jx))] := hD
            refine lv_if_eq (tgt := 104) hx hb dX2_byRule_87 (by decide) (fun c_9 => ?_) (fun c_9 => ?_)
            · skip
              refine lv_iinc (v := nI (jx + 1)) (lv' := [(9, .int (nI (jx + 1))), (0, .ref og), (1, .ref fg), (2, .int (nI b)), (3, .ref rl), (4, .int (nI l2)), (5, .int (nI (yW gr jj))), (6, .int (nI th)), (7, .int (nI fo)), (8, .int (nI i))]) hx hb dX2_byRule_104 hl (k := 9) rfl (nI_1 jx) (by decide) rfl (fun ls hl => ?_)
              refine lv_goto (tgt := 66) hx hb dX2_byRule_107 (by decide) ?_
              exact ih_66 (jx + 1) l2 (upd sr 3 (nI jx)) (by omega) (SDn_k hs3 (by decide)) ⟨(pk_un (by decide)).trans hr0.1, (pk_un (by decide)).trans hr0.2.1, (pk_un (by decide)).trans hr0.2.2⟩ (zByJ_n (sd := upd sr 3 (nI jx)) hW4 t0 t1 t2 t3 (fun q => hYA.no c_9 (hAd.mpr q)) hJ2) _ _ _ (hP.sub [12, 13, 14, 0, 1, 2, 3, 4, 5, 6, 7, 8, 9, 10, 11] rfl) (hD.sub [12, 13, 14, 0, 1, 2, 3, 4, 5, 6, 7, 8, 9, 10, 11] rfl rfl) hS (lv_sub hl [1, 2, 3, 4, 5, 6, 7, 8, 9, 0] rfl)
            · skip
              refine lv_iload hx hb dX2_byRule_90 (lv_at hl 4 rfl) ?_
              refine lv_aload_n hx hb dX2_byRule_92 rfl (lv_at hl 0 rfl) ?_
              refine lv_aload_n hx hb dX2_byRule_93 rfl (lv_at hl 1 rfl) ?_
              refine lv_iload_n hx hb dX2_byRule_94 rfl (lv_at hl 2 rfl) ?_
              refine lv_aload_n hx hb dX2_byRule_95 rfl (lv_at hl 3 rfl) ?_
              refine xc_i (wc := [kX2 og o1 o2, kI cI o1 2400 sf, kI cI o2 4 (upd sr 3 (nI jx)), kX0 fg f1 f2 f3 (nI n9) (nI v), kI cI f1 12 g1, kI cI f2 12 g2, kI cI f3 12 g3, kX4 rl op b0 s0 w0 u0, kX0 b0 a1 a2 a3 en ev, kI cI a1 3 x1, kI cI a2 3 x2, kI cI a3 3 x3, kI cI s0 3 x4, kI cI w0 64 x5, kI cI u0 64 x6]) (wr := []) (xrV (n := 3) (As := [.ref fg, .int (nI b), .ref rl]) (rest := [.int (nI l2)]) (ci := 2) (q0 := 12) hd hK hP hD (c_X2_bySplit l D cI cJ cZ cR _ og o1 o2 fg f1 f2 f3 n9 v rl b0 a1 a2 a3 s0 w0 u0 b jj gr sf (upd sr 3 (nI jx)) g1 g2 g3 op en ev x1 x2 x3 x4 x5 x6 hn5 hv5 hG hJ (SDn_s hs3 (by omega)) hT hb32) (gV t_421 mV_X2_bySplit) hV_X2_bySplit ⟨(Nat.le_of_ble_eq_true rfl), (Nat.le_of_ble_eq_true rfl)⟩ rfl rfl [12, 13, 14, 0, 1, 2, 3, 4, 5, 6, 7, 8, 9, 10, 11] rfl rfl rfl hl.1 rfl (Nat.le_of_ble_eq_true rfl) dX2_byRule_96 ⟨(Nat.le_of_ble_eq_true rfl), (Nat.le_of_ble_eq_true rfl)⟩) hP hD hS hA [12, 13, 14, 0, 1, 2, 3, 4, 5, 6, 7, 8, 9, 10, 11] [] rfl rfl rfl (by decide) (fun r_10 u_11 H locs hw_12 hP hD hS => ?_)
              obtain ⟨q_13, rfl⟩ : ∃ z9, z9 = u_11 := ⟨_, rfl⟩
              obtain ⟨hw_14, hw_15⟩ : (r_10 = (nI q_13)) ∧ (zLs zF9 (zSp (fun i_9 => zSl (gC n9 v g1 g2 g3) gr (TD zF9 (tbl sf)) jj i_9 (fun k_9 => tn ((upd sr 3 (nI jx)) k_9))) b) q_13) := hw_12
              subst hw_14
              have hq := hw_15
              have hq9 := hq.1
              have hP : va_P D vwCl [kX2 og o1 o2, kI cI o1 2400 sf, kI cI o2 4 (upd sr 3 (nI jx)), kX0 fg f1 f2 f3 (nI n9) (nI v), kI cI f1 12 g1, kI cI f2 12 g2, kI cI f3 12 g3, kX4 rl op b0 s0 w0 u0, kX0 b0 a1 a2 a3 en ev, kI cI a1 3 x1, kI cI a2 3 x2, kI cI a3 3 x3, kI cI s0 3 x4, kI cI w0 64 x5, kI cI u0 64 x6] H := hP
              have hD : va_D A [kX2 og o1 o2, kI cI o1 2400 sf, kI cI o2 4 (upd sr 3 (nI jx)), kX0 fg f1 f2 f3 (nI n9) (nI v), kI cI f1 12 g1, kI cI f2 12 g2, kI cI f3 12 g3, kX4 rl op b0 s0 w0 u0, kX0 b0 a1 a2 a3 en ev, kI cI a1 3 x1, kI cI a2 3 x2, kI cI a3 3 x3, kI cI s0 3 x4, kI cI w0 64 x5, kI cI u0 64 x6] := hD
              refine va_mmin hx hb (hml.trans hl.1.symm) hown (hts _ t_434) (hts _ t_435) (hts _ t_9) (hts _ t_436) (Nat.le_of_ble_eq_true rfl) (Nat.le_of_ble_eq_true rfl) (Nat.le_of_ble_eq_true rfl) (Nat.le_of_ble_eq_true rfl) dX2_byRule_99 ?_
              refine lv_nmi (show _ = (nI (min l2 q_13) : Int32) from mn_ok (by omega) (by omega)) ?_
              refine lv_istore (lv' := [(4, .int (nI (min l2 q_13))), (0, .ref og), (1, .ref fg), (2, .int (nI b)), (3, .ref rl), (5, .int (nI (yW gr jj))), (6, .int (nI th)), (7, .int (nI fo)), (8, .int (nI i)), (9, .int (nI jx))]) hx hb dX2_byRule_102 hl (by decide) rfl (fun ls hl => ?_)
              refine lv_iinc (v := nI (jx + 1)) (lv' := [(9, .int (nI (jx + 1))), (4, .int (nI (min l2 q_13))), (0, .ref og), (1, .ref fg), (2, .int (nI b)), (3, .ref rl), (5, .int (nI (yW gr jj))), (6, .int (nI th)), (7, .int (nI fo)), (8, .int (nI i))]) hx hb dX2_byRule_104 hl (k := 9) rfl (nI_1 jx) (by decide) rfl (fun ls hl => ?_)
              refine lv_goto (tgt := 66) hx hb dX2_byRule_107 (by decide) ?_
              exact ih_66 (jx + 1) (min l2 q_13) (upd sr 3 (nI jx)) (by omega) (SDn_k hs3 (by decide)) ⟨(pk_un (by decide)).trans hr0.1, (pk_un (by decide)).trans hr0.2.1, (pk_un (by decide)).trans hr0.2.2⟩ (zByJ_y (sd := upd sr 3 (nI jx)) hW4 (fun i_9 hi_9 => ⟨(hWf i_9 hi_9).2.1, (hWf i_9 hi_9).2.2.1⟩) t0 t1 t2 t3 (hAd.mp (hYA.of c_9)) hq hJ2) _ _ _ (hP.sub [0, 1, 2, 3, 4, 5, 6, 7, 8, 9, 10, 11, 12, 13, 14] rfl) (hD.sub [0, 1, 2, 3, 4, 5, 6, 7, 8, 9, 10, 11, 12, 13, 14] rfl rfl) hS (lv_sub hl [2, 3, 4, 5, 1, 6, 7, 8, 9, 0] rfl)
        exact LOOP_66 fo 0 le (upd sq 2 (nI i)) (by omega) (SDn_s hs2 (by omega)) ⟨(pk_un (by decide)).trans hq0.1, (pk_un (by decide)).trans hq0.2, pk_us⟩ (zByJ_0 hI) _ _ _ (hP.sub [0, 1, 2, 3, 4, 5, 6, 7, 8, 9, 10, 11, 12, 13, 14] rfl) (hD.sub [0, 1, 2, 3, 4, 5, 6, 7, 8, 9, 10, 11, 12, 13, 14] rfl rfl) hS (lv_sub hl [1, 2, 3, 4, 5, 6, 7, 8, 9, 0] rfl)
    exact LOOP_48 th 0 536870912 sd (by omega) hsd2 ⟨rfl, rfl⟩ zByI_0 _ _ _ (hP.sub [0, 1, 2, 3, 4, 5, 6, 7, 8, 9, 10, 11, 12, 13, 14] rfl) (hD.sub [0, 1, 2, 3, 4, 5, 6, 7, 8, 9, 10, 11, 12, 13, 14] rfl rfl) hS (lv_sub hl [1, 2, 3, 4, 5, 6, 7, 8, 0] rfl)
  refine lv_ldc hx hb hown (hts _ t_388) dX2_byRule_0 ?_
  refine lv_istore (lv' := [(4, .int 536870912), (0, .ref og), (1, .ref fg), (2, .int (nI b)), (3, .ref rl)]) hx hb dX2_byRule_2 hl (by decide) rfl (fun ls hl => ?_)
  refine lv_aload_n hx hb dX2_byRule_4 rfl (lv_at hl 4 rfl) ?_
  refine va_get (D := D) (ci := 4) (v := .ref b0) (C := RX4) (T := TX4) (N := 5) hx hb hts iT_X4 hown hK1 hP 7 rfl rfl 1 (by decide) (hts _ t_84) (fun _ h9 => h9) rfl dX2_byRule_5 ?_
  refine va_get (D := D) (ci := 0) (v := .int ev) (C := RX0) (T := TX0) (N := 5) hx hb hts iT_X0 hown hK1 hP 8 rfl rfl 4 (by decide) (hts _ t_66) (fun _ h9 => h9) rfl dX2_byRule_8 ?_
  refine lv_nmi (show _ = (nI (yW gr jj) : Int32) from hJ.2.1) ?_
  refine lv_istore (lv' := [(5, .int (nI (yW gr jj))), (4, .int 536870912), (0, .ref og), (1, .ref fg), (2, .int (nI b)), (3, .ref rl)]) hx hb dX2_byRule_11 hl (by decide) rfl (fun ls hl => ?_)
  refine lv_iload hx hb dX2_byRule_13 (lv_at hl 0 rfl) ?_
  refine lv_iconst (v := 2) hx hb dX2_byRule_15 (by decide) ?_
  refine lv_icmp_le (tgt := 26) hx hb dX2_byRule_16 (by decide) (fun c_16 => ?_) (fun c_16 => ?_)
  · skip
    refine lv_iconst (v := 1) hx hb dX2_byRule_26 (by decide) ?_
    refine lv_istore (lv' := [(6, .int 1), (5, .int (nI (yW gr jj))), (4, .int 536870912), (0, .ref og), (1, .ref fg), (2, .int (nI b)), (3, .ref rl)]) hx hb dX2_byRule_27 hl (by decide) rfl (fun ls hl => ?_)
    refine lv_iload hx hb dX2_byRule_29 (lv_at hl 1 rfl) ?_
    refine lv_iconst (v := 3) hx hb dX2_byRule_31 (by decide) ?_
    refine lv_icmp_le (tgt := 42) hx hb dX2_byRule_32 (by decide) (fun c_17 => ?_) (fun c_17 => ?_)
    · skip
      refine lv_iconst (v := 1) hx hb dX2_byRule_42 (by decide) ?_
      refine lv_istore (lv' := [(7, .int 1), (6, .int 1), (5, .int (nI (yW gr jj))), (4, .int 536870912), (0, .ref og), (1, .ref fg), (2, .int (nI b)), (3, .ref rl)]) hx hb dX2_byRule_43 hl (by decide) rfl (fun ls hl => ?_)
      exact CUT_45 1 1 (Or.inr ⟨leN (b := 2) (by decide) (by omega) c_16, rfl⟩) (Or.inr ⟨leN (b := 3) (by decide) (by omega) c_17, rfl⟩) _ _ _ (hP.sub [0, 1, 2, 3, 4, 5, 6, 7, 8, 9, 10, 11, 12, 13, 14] rfl) (hD.sub [0, 1, 2, 3, 4, 5, 6, 7, 8, 9, 10, 11, 12, 13, 14] rfl rfl) hS (lv_sub hl [4, 5, 6, 7, 3, 2, 1, 0] rfl)
    · skip
      refine lv_aload_n hx hb dX2_byRule_35 rfl (lv_at hl 4 rfl) ?_
      refine va_get (D := D) (ci := 0) (v := .int (nI v)) (C := RX0) (T := TX0) (N := 5) hx hb hts iT_X0 hown hK1 hP 3 rfl rfl 4 (by decide) (hts _ t_66) (fun _ h9 => h9) rfl dX2_byRule_36 ?_
      refine lv_goto (tgt := 43) hx hb dX2_byRule_39 (by decide) ?_
      refine lv_istore (lv' := [(7, .int (nI v)), (6, .int 1), (5, .int (nI (yW gr jj))), (4, .int 536870912), (0, .ref og), (1, .ref fg), (2, .int (nI b)), (3, .ref rl)]) hx hb dX2_byRule_43 hl (by decide) rfl (fun ls hl => ?_)
      exact CUT_45 1 v (Or.inr ⟨leN (b := 2) (by decide) (by omega) c_16, rfl⟩) (Or.inl ⟨nleN (b := 3) (by decide) (by omega) c_17, rfl⟩) _ _ _ (hP.sub [0, 1, 2, 3, 4, 5, 6, 7, 8, 9, 10, 11, 12, 13, 14] rfl) (hD.sub [0, 1, 2, 3, 4, 5, 6, 7, 8, 9, 10, 11, 12, 13, 14] rfl rfl) hS (lv_sub hl [4, 5, 6, 7, 3, 2, 1, 0] rfl)
  · skip
    refine lv_aload_n hx hb dX2_byRule_19 rfl (lv_at hl 3 rfl) ?_
    refine va_get (D := D) (ci := 0) (v := .int (nI v)) (C := RX0) (T := TX0) (N := 5) hx hb hts iT_X0 hown hK1 hP 3 rfl rfl 4 (by decide) (hts _ t_66) (fun _ h9 => h9) rfl dX2_byRule_20 ?_
    refine lv_goto (tgt := 27) hx hb dX2_byRule_23 (by decide) ?_
    refine lv_istore (lv' := [(6, .int (nI v)), (5, .int (nI (yW gr jj))), (4, .int 536870912), (0, .ref og), (1, .ref fg), (2, .int (nI b)), (3, .ref rl)]) hx hb dX2_byRule_27 hl (by decide) rfl (fun ls hl => ?_)
    refine lv_iload hx hb dX2_byRule_29 (lv_at hl 1 rfl) ?_
    refine lv_iconst (v := 3) hx hb dX2_byRule_31 (by decide) ?_
    refine lv_icmp_le (tgt := 42) hx hb dX2_byRule_32 (by decide) (fun c_18 => ?_) (fun c_18 => ?_)
    · skip
      refine lv_iconst (v := 1) hx hb dX2_byRule_42 (by decide) ?_
      refine lv_istore (lv' := [(7, .int 1), (6, .int (nI v)), (5, .int (nI (yW gr jj))), (4, .int 536870912), (0, .ref og), (1, .ref fg), (2, .int (nI b)), (3, .ref rl)]) hx hb dX2_byRule_43 hl (by decide) rfl (fun ls hl => ?_)
      exact CUT_45 v 1 (Or.inl ⟨nleN (b := 2) (by decide) (by omega) c_16, rfl⟩) (Or.inr ⟨leN (b := 3) (by decide) (by omega) c_18, rfl⟩) _ _ _ (hP.sub [0, 1, 2, 3, 4, 5, 6, 7, 8, 9, 10, 11, 12, 13, 14] rfl) (hD.sub [0, 1, 2, 3, 4, 5, 6, 7, 8, 9, 10, 11, 12, 13, 14] rfl rfl) hS (lv_sub hl [4, 5, 6, 7, 3, 2, 1, 0] rfl)
    · skip
      refine lv_aload_n hx hb dX2_byRule_35 rfl (lv_at hl 4 rfl) ?_
      refine va_get (D := D) (ci := 0) (v := .int (nI v)) (C := RX0) (T := TX0) (N := 5) hx hb hts iT_X0 hown hK1 hP 3 rfl rfl 4 (by decide) (hts _ t_66) (fun _ h9 => h9) rfl dX2_byRule_36 ?_
      refine lv_goto (tgt := 43) hx hb dX2_byRule_39 (by decide) ?_
      refine lv_istore (lv' := [(7, .int (nI v)), (6, .int (nI v)), (5, .int (nI (yW gr jj))), (4, .int 536870912), (0, .ref og), (1, .ref fg), (2, .int (nI b)), (3, .ref rl)]) hx hb dX2_byRule_43 hl (by decide) rfl (fun ls hl => ?_)
      exact CUT_45 v v (Or.inl ⟨nleN (b := 2) (by decide) (by omega) c_16, rfl⟩) (Or.inl ⟨nleN (b := 3) (by decide) (by omega) c_18, rfl⟩) _ _ _ (hP.sub [0, 1, 2, 3, 4, 5, 6, 7, 8, 9, 10, 11, 12, 13, 14] rfl) (hD.sub [0, 1, 2, 3, 4, 5, 6, 7, 8, 9, 10, 11, 12, 13, 14] rfl rfl) hS (lv_sub hl [4, 5, 6, 7, 3, 2, 1, 0] rfl)
set_option maxHeartbeats 4000000 in
set_option maxRecDepth 100000 in
theorem g_improve_0 (sz : Nat) (og : Nat) (o1 : Nat) (o2 : Nat) (fg : Nat) (f1 : Nat) (f2 : Nat) (f3 : Nat) (n9 : Nat) (v : Nat) (bk : Nat) (br : Nat) (r9 : Nat) (sf : Nat → Int32) (sd : Nat → Int32) (g1 : Nat → Int32) (g2 : Nat → Int32) (g3 : Nat → Int32) (rho : Nat → RT) (b : Nat) (hn5 : n9 ≤ 5) (hv5 : v ≤ 5) (hG : GI n9 v g1 g2 g3) (hr : r9 ≤ 9) (hRQ : RRQ rho r9) (hT : TBI sf) (hSo : zSo (gC n9 v g1 g2 g3) (rC rho r9) (tbl sf)) (hb32 : b < 32) : CTi l D cI cJ cZ cR yX2_improve cX2_improve 11 (some .boolean) 4 110 0 0 sz [.ref og, .ref fg, .int (nI b), .ref bk, .int 0] ([kX2 og o1 o2, kI cI o1 2400 sf, kI cI o2 4 sd, kX0 fg f1 f2 f3 (nI n9) (nI v), kI cI f1 12 g1, kI cI f2 12 g2, kI cI f3 12 g3, kX5 bk br (nI r9), kQ cR br 9 (fun k => some ((rho k).1.1))] ++ RB cI rho) (fun (r : Int32) (u : (Nat → Int32) × (Nat → Int32)) => (r = 0 ∨ r = 1) ∧ (r = 0 → u.1 = sf) ∧ (IME (gC n9 v g1 g2 g3) (rC rho r9) sf u.1 b (zpc b))) (fun (u : (Nat → Int32) × (Nat → Int32)) => ([kX2 og o1 o2, kI cI o1 2400 u.1, kI cI o2 4 u.2, kX0 fg f1 f2 f3 (nI n9) (nI v), kI cI f1 12 g1, kI cI f2 12 g2, kI cI f3 12 g3, kX5 bk br (nI r9), kQ cR br 9 (fun k => some ((rho k).1.1))] ++ RB cI rho)) := by
  refine CTi.of (ty := .boolean) (by decide) (Nat.le_of_ble_eq_true rfl) rfl ?_
  intro p e s m below meth c A Q ls hd hin hK hsz hP hD hA hS hl hret
  obtain ⟨hx, hb, hml, hown, hts⟩ := id hd
  have hK1 := hK.1
  have hown : s.vm.findClass RX2 = some m.cls := hown
  have hl : lv_has ls 11 [(0, .ref og), (1, .ref fg), (2, .int (nI b)), (3, .ref bk), (4, .int 0)] := hl
  have hF9 : zF9 = 536870912 := rfl
  have hpc5 : zpc b ≤ 5 := zpc_le (n := 5) (by decide) hb32
  refine lv_iload hx hb dX2_improve_0 (lv_at hl 4 rfl) ?_
  refine lv_if_eq (tgt := 9) hx hb dX2_improve_2 (by decide) (fun c_1 => ?_) (fun c_1 => ?_)
  rotate_left
  · exact absurd c_1 (by decide)
  refine lv_iload_n hx hb dX2_improve_9 rfl (lv_at hl 2 rfl) ?_
  have hPD : PD D A ([] ++ ([kX2 og o1 o2, kI cI o1 2400 sf, kI cI o2 4 sd, kX0 fg f1 f2 f3 (nI n9) (nI v), kI cI f1 12 g1, kI cI f2 12 g2, kI cI f3 12 g3, kX5 bk br (nI r9), kQ cR br 9 (fun k => some ((rho k).1.1))] ++ RB cI rho)) s.heap := PD.perm ⟨hP, hD⟩ (permA pm_21)
  refine xp_i (wc := []) (wr := ([kX2 og o1 o2, kI cI o1 2400 sf, kI cI o2 4 sd, kX0 fg f1 f2 f3 (nI n9) (nI v), kI cI f1 12 g1, kI cI f2 12 g2, kI cI f3 12 g3, kX5 bk br (nI r9), kQ cR br 9 (fun k => some ((rho k).1.1))] ++ RB cI rho)) (xqS (n := 1) (As := [.int (nI b)]) (rest := []) hd hK hPD.left (c_J6_bitCount_0f7a4 l D cI cJ cZ cR _ b hb32) (gS t_396 mS_J6_bitCount_0f7a4) hS_J6_bitCount_0f7a4 ⟨(Nat.le_of_ble_eq_true rfl), (Nat.le_of_ble_eq_true rfl)⟩ rfl hl.1 rfl (Nat.le_of_ble_eq_true rfl) dX2_improve_10 ⟨(Nat.le_of_ble_eq_true rfl), (Nat.le_of_ble_eq_true rfl)⟩) hPD hS hA (fun r_2 u_3 H locs hw_4 hPD hS => ?_)
  have hw_5 : r_2 = (nI (zpc b)) := hw_4
  subst hw_5
  obtain ⟨hP, hD⟩ := hPD.perm permA'
  have hP : va_P D vwCl ([kX2 og o1 o2, kI cI o1 2400 sf, kI cI o2 4 sd, kX0 fg f1 f2 f3 (nI n9) (nI v), kI cI f1 12 g1, kI cI f2 12 g2, kI cI f3 12 g3, kX5 bk br (nI r9), kQ cR br 9 (fun k => some ((rho k).1.1))] ++ RB cI rho) H := hP
  have hD : va_D A ([kX2 og o1 o2, kI cI o1 2400 sf, kI cI o2 4 sd, kX0 fg f1 f2 f3 (nI n9) (nI v), kI cI f1 12 g1, kI cI f2 12 g2, kI cI f3 12 g3, kX5 bk br (nI r9), kQ cR br 9 (fun k => some ((rho k).1.1))] ++ RB cI rho) := hD
  refine lv_istore (lv' := [(5, .int (nI (zpc b))), (0, .ref og), (1, .ref fg), (2, .int (nI b)), (3, .ref bk), (4, .int 0)]) hx hb dX2_improve_13 hl (by decide) rfl (fun ls hl => ?_)
  refine lv_iconst (v := 0) hx hb dX2_improve_15 (by decide) ?_
  refine lv_istore (lv' := [(6, .int 0), (5, .int (nI (zpc b))), (0, .ref og), (1, .ref fg), (2, .int (nI b)), (3, .ref bk), (4, .int 0)]) hx hb dX2_improve_16 hl (by decide) rfl (fun ls hl => ?_)
  refine lv_iconst (v := 0) hx hb dX2_improve_18 (by decide) ?_
  refine lv_istore (lv' := [(7, .int 0), (6, .int 0), (5, .int (nI (zpc b))), (0, .ref og), (1, .ref fg), (2, .int (nI b)), (3, .ref bk), (4, .int 0)]) hx hb dX2_improve_19 hl (by decide) rfl (fun ls hl => ?_)
  have LOOP_21 : ∀ (n : Nat) (so : Nat) (be : Int32) (sa : Nat → Int32) (da : Nat → Int32), (so + n = v) → (be = 0 ∨ be = 1) → (be = 0 → sa = sf) → (IMI (gC n9 v g1 g2 g3) (rC rho r9) sf sa b (zpc b) so 0 0) → ∀ (H : Heap) (locs : List Loc) (ls : Array Slot), va_P D vwCl ([kX2 og o1 o2, kI cI o1 2400 sa, kI cI o2 4 da, kX0 fg f1 f2 f3 (nI n9) (nI v), kI cI f1 12 g1, kI cI f2 12 g2, kI cI f3 12 g3, kX5 bk br (nI r9), kQ cR br 9 (fun k => some ((rho k).1.1))] ++ RB cI rho) H → va_D A ([kX2 og o1 o2, kI cI o1 2400 sa, kI cI o2 4 da, kX0 fg f1 f2 f3 (nI n9) (nI v), kI cI f1 12 g1, kI cI f2 12 g2, kI cI f3 12 g3, kX5 bk br (nI r9), kQ cR br 9 (fun k => some ((rho k).1.1))] ++ RB cI rho) → va_S A s.heap H locs → lv_has ls 11 [(0, .ref og), (1, .ref fg), (2, .int (nI b)), (3, .ref bk), (4, .int 0), (5, .int (nI (zpc b))), (6, .int be), (7, .int (nI so))] → W p l e (rM 4 0 0 110) s m ([.ref og, .ref fg, .int (nI b), .ref bk, .int 0] : List Value).toArray below meth c H locs 0 0 Q (F0 m 21 ls []) := by
    intro n
    induction n with
    | zero =>
      intro so be sa da hso hbe hC hI H locs ls hP hD hS hl
      refine lv_iload hx hb dX2_improve_21 (lv_at hl 7 rfl) ?_
      refine lv_aload_n hx hb dX2_improve_23 rfl (lv_at hl 1 rfl) ?_
      refine va_get (D := D) (ci := 0) (v := .int (nI v)) (C := RX0) (T := TX0) (N := 5) hx hb hts iT_X0 hown hK1 hP 3 rfl rfl 4 (by decide) (hts _ t_66) (fun _ h9 => h9) rfl dX2_improve_24 ?_
      refine lv_icmp_ge (tgt := 157) hx hb dX2_improve_27 (by decide) (fun c_6 => ?_) (fun c_6 => ?_)
      rotate_left
      · exact absurd (nI_le (a := v) (b := so) (by omega) (by omega)) c_6
      refine lv_iload hx hb dX2_improve_157 (lv_at hl 6 rfl) ?_
      have hPD : PD D A ([kX2 og o1 o2, kI cI o1 2400 sa, kI cI o2 4 da, kX0 fg f1 f2 f3 (nI n9) (nI v), kI cI f1 12 g1, kI cI f2 12 g2, kI cI f3 12 g3, kX5 bk br (nI r9), kQ cR br 9 (fun k => some ((rho k).1.1))] ++ RB cI rho) H := (PD.perm ⟨hP, hD⟩ (permB pm_19)).left
      exact hret _ _ _ _ _ _ be (sa, da) dX2_improve_159 (nar_01 hbe) hS (Nat.le_of_ble_eq_true rfl) (Nat.le_of_ble_eq_true rfl) ⟨hbe, hC, IMI_e hG hv5 (by omega) hI⟩ hPD.1 hPD.2
    | succ n ih_21 =>
      intro so be sa da hso hbe hC hI H locs ls hP hD hS hl
      refine lv_iload hx hb dX2_improve_21 (lv_at hl 7 rfl) ?_
      refine lv_aload_n hx hb dX2_improve_23 rfl (lv_at hl 1 rfl) ?_
      refine va_get (D := D) (ci := 0) (v := .int (nI v)) (C := RX0) (T := TX0) (N := 5) hx hb hts iT_X0 hown hK1 hP 3 rfl rfl 4 (by decide) (hts _ t_66) (fun _ h9 => h9) rfl dX2_improve_24 ?_
      refine lv_icmp_ge (tgt := 157) hx hb dX2_improve_27 (by decide) (fun c_7 => ?_) (fun c_7 => ?_)
      · exact absurd c_7 (nI_ge (a := so) (b := v) (by omega) (by omega))
      refine lv_iconst (v := 0) hx hb dX2_improve_30 (by decide) ?_
      refine lv_istore (lv' := [(8, .int 0), (0, .ref og), (1, .ref fg), (2, .int (nI b)), (3, .ref bk), (4, .int 0), (5, .int (nI (zpc b))), (6, .int be), (7, .int (nI so))]) hx hb dX2_improve_31 hl (by decide) rfl (fun ls hl => ?_)
      have LOOP_33 : ∀ (n : Nat) (ta : Nat) (bf : Int32) (sb : Nat → Int32) (db : Nat → Int32), (ta + n = v) → (bf = 0 ∨ bf = 1) → (bf = 0 → sb = sf) → (IMI (gC n9 v g1 g2 g3) (rC rho r9) sf sb b (zpc b) so ta 0) → ∀ (H : Heap) (locs : List Loc) (ls : Array Slot), va_P D vwCl ([kX2 og o1 o2, kI cI o1 2400 sb, kI cI o2 4 db, kX0 fg f1 f2 f3 (nI n9) (nI v), kI cI f1 12 g1, kI cI f2 12 g2, kI cI f3 12 g3, kX5 bk br (nI r9), kQ cR br 9 (fun k => some ((rho k).1.1))] ++ RB cI rho) H → va_D A ([kX2 og o1 o2, kI cI o1 2400 sb, kI cI o2 4 db, kX0 fg f1 f2 f3 (nI n9) (nI v), kI cI f1 12 g1, kI cI f2 12 g2, kI cI f3 12 g3, kX5 bk br (nI r9), kQ cR br 9 (fun k => some ((rho k).1.1))] ++ RB cI rho) → va_S A s.heap H locs → lv_has ls 11 [(0, .ref og), (1, .ref fg), (2, .int (nI b)), (3, .ref bk), (4, .int 0), (5, .int (nI (zpc b))), (6, .int bf), (7, .int (nI so)), (8, .int (nI ta))] → W p l e (rM 4 0 0 110) s m ([.ref og, .ref fg, .int (nI b), .ref bk, .int 0] : List Value).toArray below meth c H locs 0 0 Q (F0 m 33 ls []) := by
        intro n
        induction n with
        | zero =>
          intro ta bf sb db hta hbe2 hC2 hI2 H locs ls hP hD hS hl
          refine lv_iload hx hb dX2_improve_33 (lv_at hl 8 rfl) ?_
          refine lv_aload_n hx hb dX2_improve_35 rfl (lv_at hl 1 rfl) ?_
          refine va_get (D := D) (ci := 0) (v := .int (nI v)) (C := RX0) (T := TX0) (N := 5) hx hb hts iT_X0 hown hK1 hP 3 rfl rfl 4 (by decide) (hts _ t_66) (fun _ h9 => h9) rfl dX2_improve_36 ?_
          refine lv_icmp_ge (tgt := 151) hx hb dX2_improve_39 (by decide) (fun c_8 => ?_) (fun c_8 => ?_)
          rotate_left
          · exact absurd (nI_le (a := v) (b := ta) (by omega) (by omega)) c_8
          refine lv_iinc (v := nI (so + 1)) (lv' := [(7, .int (nI (so + 1))), (0, .ref og), (1, .ref fg), (2, .int (nI b)), (3, .ref bk), (4, .int 0), (5, .int (nI (zpc b))), (6, .int bf), (8, .int (nI ta))]) hx hb dX2_improve_151 hl (k := 7) rfl (nI_1 so) (by decide) rfl (fun ls hl => ?_)
          refine lv_goto (tgt := 21) hx hb dX2_improve_154 (by decide) ?_
          have hPD : PD D A ([kX2 og o1 o2, kI cI o1 2400 sb, kI cI o2 4 db, kX0 fg f1 f2 f3 (nI n9) (nI v), kI cI f1 12 g1, kI cI f2 12 g2, kI cI f3 12 g3, kX5 bk br (nI r9), kQ cR br 9 (fun k => some ((rho k).1.1))] ++ RB cI rho) H := (PD.perm ⟨hP, hD⟩ (permB pm_19)).left
          exact ih_21 (so + 1) bf sb db (by omega) hbe2 hC2 (IMI_s hG hv5 (by omega) hI2) _ _ _ hPD.1 hPD.2 hS (lv_sub hl [1, 2, 3, 4, 5, 6, 7, 0] rfl)
        | succ n ih_33 =>
          intro ta bf sb db hta hbe2 hC2 hI2 H locs ls hP hD hS hl
          refine lv_iload hx hb dX2_improve_33 (lv_at hl 8 rfl) ?_
          refine lv_aload_n hx hb dX2_improve_35 rfl (lv_at hl 1 rfl) ?_
          refine va_get (D := D) (ci := 0) (v := .int (nI v)) (C := RX0) (T := TX0) (N := 5) hx hb hts iT_X0 hown hK1 hP 3 rfl rfl 4 (by decide) (hts _ t_66) (fun _ h9 => h9) rfl dX2_improve_36 ?_
          refine lv_icmp_ge (tgt := 151) hx hb dX2_improve_39 (by decide) (fun c_9 => ?_) (fun c_9 => ?_)
          · exact absurd c_9 (nI_ge (a := ta) (b := v) (by omega) (by omega))
          refine lv_aload_n hx hb dX2_improve_42 rfl (lv_at hl 1 rfl) ?_
          refine lv_iload_n hx hb dX2_improve_43 rfl (lv_at hl 2 rfl) ?_
          refine lv_iload hx hb dX2_improve_44 (lv_at hl 7 rfl) ?_
          refine lv_iload hx hb dX2_improve_46 (lv_at hl 8 rfl) ?_
          have hPD : PD D A ([kX0 fg f1 f2 f3 (nI n9) (nI v), kI cI f1 12 g1, kI cI f2 12 g2, kI cI f3 12 g3] ++ ([kX2 og o1 o2, kI cI o1 2400 sb, kI cI o2 4 db, kX5 bk br (nI r9), kQ cR br 9 (fun k => some ((rho k).1.1))] ++ RB cI rho)) H := PD.perm ⟨hP, hD⟩ (permA pm_24)
          refine xp_i (wc := [kX0 fg f1 f2 f3 (nI n9) (nI v), kI cI f1 12 g1, kI cI f2 12 g2, kI cI f3 12 g3]) (wr := ([kX2 og o1 o2, kI cI o1 2400 sb, kI cI o2 4 db, kX5 bk br (nI r9), kQ cR br 9 (fun k => some ((rho k).1.1))] ++ RB cI rho)) (xqV (n := 3) (As := [.int (nI b), .int (nI so), .int (nI ta)]) (rest := []) (ci := 0) (q0 := 0) hd hK hPD.left (c_X0_isPart l D cI cJ cZ cR _ fg f1 f2 f3 12 n9 v b so ta g1 g2 g3 (by decide) (by omega) hn5 hv5 hG hb32 (by omega) (by omega)) (gV t_402 mV_X0_isPart) hV_X0_isPart ⟨(Nat.le_of_ble_eq_true rfl), (Nat.le_of_ble_eq_true rfl)⟩ rfl rfl rfl hl.1 rfl (Nat.le_of_ble_eq_true rfl) dX2_improve_48 ⟨(Nat.le_of_ble_eq_true rfl), (Nat.le_of_ble_eq_true rfl)⟩) hPD hS hA (fun r_10 u_11 H locs hw_12 hPD hS => ?_)
          have hw_13 : YN r_10 (zP (gC n9 v g1 g2 g3) b so ta) := hw_12
          have hYP := hw_13
          obtain ⟨hP, hD⟩ := hPD.perm permA'
          have hP : va_P D vwCl ([kX2 og o1 o2, kI cI o1 2400 sb, kI cI o2 4 db, kX5 bk br (nI r9), kQ cR br 9 (fun k => some ((rho k).1.1)), kX0 fg f1 f2 f3 (nI n9) (nI v), kI cI f1 12 g1, kI cI f2 12 g2, kI cI f3 12 g3] ++ RB cI rho) H := hP
          have hD : va_D A ([kX2 og o1 o2, kI cI o1 2400 sb, kI cI o2 4 db, kX5 bk br (nI r9), kQ cR br 9 (fun k => some ((rho k).1.1)), kX0 fg f1 f2 f3 (nI n9) (nI v), kI cI f1 12 g1, kI cI f2 12 g2, kI cI f3 12 g3] ++ RB cI rho) := hD
          refine lv_if_ne (tgt := 57) hx hb dX2_improve_51 (by decide) (fun c_14 => ?_) (fun c_14 => ?_)
          · skip
            have hP9 := hYP.of c_14
            refine lv_aload_n hx hb dX2_improve_57 rfl (lv_at hl 0 rfl) ?_
            refine va_get (D := D) (ci := 2) (v := .ref o2) (C := RX2) (T := TX2) (N := 2) hx hb hts iT_X2 hown hK1 hP 0 rfl rfl 1 (by decide) (hts _ t_124) (fun _ h9 => h9) rfl dX2_improve_58 ?_
            refine lv_iconst (v := 0) hx hb dX2_improve_61 (by decide) ?_
            refine lv_iload hx hb dX2_improve_62 (lv_at hl 7 rfl) ?_
            refine va_iast hx hb hK1 hP hD hS 2 0 rfl rfl (vin (by decide)) dX2_improve_64 (fun H locs hP hD hS => ?_)
            have hP : va_P D vwCl ([kX2 og o1 o2, kI cI o1 2400 sb, kI cI o2 4 (upd db 0 (nI so)), kX5 bk br (nI r9), kQ cR br 9 (fun k => some ((rho k).1.1)), kX0 fg f1 f2 f3 (nI n9) (nI v), kI cI f1 12 g1, kI cI f2 12 g2, kI cI f3 12 g3] ++ RB cI rho) H := hP
            have hD : va_D A ([kX2 og o1 o2, kI cI o1 2400 sb, kI cI o2 4 (upd db 0 (nI so)), kX5 bk br (nI r9), kQ cR br 9 (fun k => some ((rho k).1.1)), kX0 fg f1 f2 f3 (nI n9) (nI v), kI cI f1 12 g1, kI cI f2 12 g2, kI cI f3 12 g3] ++ RB cI rho) := hD
            refine lv_aload_n hx hb dX2_improve_65 rfl (lv_at hl 0 rfl) ?_
            refine va_get (D := D) (ci := 2) (v := .ref o2) (C := RX2) (T := TX2) (N := 2) hx hb hts iT_X2 hown hK1 hP 0 rfl rfl 1 (by decide) (hts _ t_124) (fun _ h9 => h9) rfl dX2_improve_66 ?_
            refine lv_iconst (v := 1) hx hb dX2_improve_69 (by decide) ?_
            refine lv_iload hx hb dX2_improve_70 (lv_at hl 8 rfl) ?_
            refine va_iast hx hb hK1 hP hD hS 2 0 rfl rfl (vin (by decide)) dX2_improve_72 (fun H locs hP hD hS => ?_)
            have hP : va_P D vwCl ([kX2 og o1 o2, kI cI o1 2400 sb, kI cI o2 4 (upd (upd db 0 (nI so)) 1 (nI ta)), kX5 bk br (nI r9), kQ cR br 9 (fun k => some ((rho k).1.1)), kX0 fg f1 f2 f3 (nI n9) (nI v), kI cI f1 12 g1, kI cI f2 12 g2, kI cI f3 12 g3] ++ RB cI rho) H := hP
            have hD : va_D A ([kX2 og o1 o2, kI cI o1 2400 sb, kI cI o2 4 (upd (upd db 0 (nI so)) 1 (nI ta)), kX5 bk br (nI r9), kQ cR br 9 (fun k => some ((rho k).1.1)), kX0 fg f1 f2 f3 (nI n9) (nI v), kI cI f1 12 g1, kI cI f2 12 g2, kI cI f3 12 g3] ++ RB cI rho) := hD
            refine lv_iconst (v := 0) hx hb dX2_improve_73 (by decide) ?_
            refine lv_istore (lv' := [(9, .int 0), (0, .ref og), (1, .ref fg), (2, .int (nI b)), (3, .ref bk), (4, .int 0), (5, .int (nI (zpc b))), (6, .int bf), (7, .int (nI so)), (8, .int (nI ta))]) hx hb dX2_improve_74 hl (by decide) rfl (fun ls hl => ?_)
            have LOOP_76 : ∀ (n : Nat) (i : Nat) (bg : Int32) (sc : Nat → Int32) (dc : Nat → Int32), (i + n = r9) → (bg = 0 ∨ bg = 1) → (bg = 0 → sc = sf) → (IMI (gC n9 v g1 g2 g3) (rC rho r9) sf sc b (zpc b) so ta i) → (SDn 2 dc) → (tn (dc 0) = so ∧ tn (dc 1) = ta) → ∀ (H : Heap) (locs : List Loc) (ls : Array Slot), va_P D vwCl ([kX2 og o1 o2, kI cI o1 2400 sc, kI cI o2 4 dc, kX0 fg f1 f2 f3 (nI n9) (nI v), kI cI f1 12 g1, kI cI f2 12 g2, kI cI f3 12 g3, kX5 bk br (nI r9), kQ cR br 9 (fun k => some ((rho k).1.1))] ++ RB cI rho) H → va_D A ([kX2 og o1 o2, kI cI o1 2400 sc, kI cI o2 4 dc, kX0 fg f1 f2 f3 (nI n9) (nI v), kI cI f1 12 g1, kI cI f2 12 g2, kI cI f3 12 g3, kX5 bk br (nI r9), kQ cR br 9 (fun k => some ((rho k).1.1))] ++ RB cI rho) → va_S A s.heap H locs → lv_has ls 11 [(0, .ref og), (1, .ref fg), (2, .int (nI b)), (3, .ref bk), (4, .int 0), (5, .int (nI (zpc b))), (6, .int bg), (7, .int (nI so)), (8, .int (nI ta)), (9, .int (nI i))] → W p l e (rM 4 0 0 110) s m ([.ref og, .ref fg, .int (nI b), .ref bk, .int 0] : List Value).toArray below meth c H locs 0 0 Q (F0 m 76 ls []) := by
              intro n
              induction n with
              | zero =>
                intro i bg sc dc hi hbe3 hC3 hI3 hs2 hd0 H locs ls hP hD hS hl
                refine lv_iload hx hb dX2_improve_76 (lv_at hl 9 rfl) ?_
                refine lv_aload_n hx hb dX2_improve_78 rfl (lv_at hl 3 rfl) ?_
                refine va_get (D := D) (ci := 5) (v := .int (nI r9)) (C := RX5) (T := TX5) (N := 2) hx hb hts iT_X5 hown hK1 hP 7 rfl rfl 1 (by decide) (hts _ t_109) (fun _ h9 => h9) rfl dX2_improve_79 ?_
                refine lv_icmp_ge (tgt := 145) hx hb dX2_improve_82 (by decide) (fun c_15 => ?_) (fun c_15 => ?_)
                rotate_left
                · exact absurd (nI_le (a := r9) (b := i) (by omega) (by omega)) c_15
                refine lv_iinc (v := nI (ta + 1)) (lv' := [(8, .int (nI (ta + 1))), (0, .ref og), (1, .ref fg), (2, .int (nI b)), (3, .ref bk), (4, .int 0), (5, .int (nI (zpc b))), (6, .int bg), (7, .int (nI so)), (9, .int (nI i))]) hx hb dX2_improve_145 hl (k := 8) rfl (nI_1 ta) (by decide) rfl (fun ls hl => ?_)
                refine lv_goto (tgt := 33) hx hb dX2_improve_148 (by decide) ?_
                have hPD : PD D A ([kX2 og o1 o2, kI cI o1 2400 sc, kI cI o2 4 dc, kX0 fg f1 f2 f3 (nI n9) (nI v), kI cI f1 12 g1, kI cI f2 12 g2, kI cI f3 12 g3, kX5 bk br (nI r9), kQ cR br 9 (fun k => some ((rho k).1.1))] ++ RB cI rho) H := (PD.perm ⟨hP, hD⟩ (permB pm_19)).left
                exact ih_33 (ta + 1) bg sc dc (by omega) hbe3 hC3 (IMI_t (show r9 ≤ i by omega) hI3) _ _ _ hPD.1 hPD.2 hS (lv_sub hl [1, 2, 3, 4, 5, 6, 7, 8, 0] rfl)
              | succ n ih_76 =>
                intro i bg sc dc hi hbe3 hC3 hI3 hs2 hd0 H locs ls hP hD hS hl
                refine lv_iload hx hb dX2_improve_76 (lv_at hl 9 rfl) ?_
                refine lv_aload_n hx hb dX2_improve_78 rfl (lv_at hl 3 rfl) ?_
                refine va_get (D := D) (ci := 5) (v := .int (nI r9)) (C := RX5) (T := TX5) (N := 2) hx hb hts iT_X5 hown hK1 hP 7 rfl rfl 1 (by decide) (hts _ t_109) (fun _ h9 => h9) rfl dX2_improve_79 ?_
                refine lv_icmp_ge (tgt := 145) hx hb dX2_improve_82 (by decide) (fun c_16 => ?_) (fun c_16 => ?_)
                · exact absurd c_16 (nI_ge (a := i) (b := r9) (by omega) (by omega))
                refine lv_aload_n hx hb dX2_improve_85 rfl (lv_at hl 3 rfl) ?_
                refine va_get (D := D) (ci := 5) (v := .ref br) (C := RX5) (T := TX5) (N := 2) hx hb hts iT_X5 hown hK1 hP 7 rfl rfl 0 (by decide) (hts _ t_104) (fun _ h9 => h9) rfl dX2_improve_86 ?_
                refine lv_iload hx hb dX2_improve_89 (lv_at hl 9 rfl) ?_
                refine va_aldq hx hb hK1 hP 8 3 rfl rfl (vp_in_nI (by omega) (by omega)) dX2_improve_91 ?_
                refine lv_nmr (show _ = Value.ref (rho i).1.1 from by rw [nI_clamp (n := i) (by omega)]; rfl) ?_
                refine lv_astore (lv' := [(10, .ref ((rho i).1.1)), (0, .ref og), (1, .ref fg), (2, .int (nI b)), (3, .ref bk), (4, .int 0), (5, .int (nI (zpc b))), (6, .int bg), (7, .int (nI so)), (8, .int (nI ta)), (9, .int (nI i))]) hx hb dX2_improve_92 hl (by decide) rfl (fun ls hl => ?_)
                obtain ⟨hRJ, eo9, ho9⟩ := rC_rj hRQ (by omega : i < r9)
                have hS3 := hRJ.2.2.2.1
                obtain ⟨hP, hD⟩ := focus i (by omega) hP hD
                have hP : va_P D vwCl ([kX2 og o1 o2, kI cI o1 2400 sc, kI cI o2 4 dc, kX0 fg f1 f2 f3 (nI n9) (nI v), kI cI f1 12 g1, kI cI f2 12 g2, kI cI f3 12 g3, kX5 bk br (nI r9), kQ cR br 9 (fun k => some ((rho k).1.1)), kX4 ((rho i).1.1) ((rho i).2.1.1) ((rho i).1.2.1) ((rho i).1.2.2.2.2.2.1) ((rho i).1.2.2.2.2.2.2.1) ((rho i).1.2.2.2.2.2.2.2), kX0 ((rho i).1.2.1) ((rho i).1.2.2.1) ((rho i).1.2.2.2.1) ((rho i).1.2.2.2.2.1) ((rho i).2.1.2.1) ((rho i).2.1.2.2), kI cI ((rho i).1.2.2.1) 3 ((rho i).2.2.1), kI cI ((rho i).1.2.2.2.1) 3 ((rho i).2.2.2.1), kI cI ((rho i).1.2.2.2.2.1) 3 ((rho i).2.2.2.2.1), kI cI ((rho i).1.2.2.2.2.2.1) 3 ((rho i).2.2.2.2.2.1), kI cI ((rho i).1.2.2.2.2.2.2.1) 64 ((rho i).2.2.2.2.2.2.1), kI cI ((rho i).1.2.2.2.2.2.2.2) 64 ((rho i).2.2.2.2.2.2.2)] ++ RX cI rho i) H := hP
                have hD : va_D A ([kX2 og o1 o2, kI cI o1 2400 sc, kI cI o2 4 dc, kX0 fg f1 f2 f3 (nI n9) (nI v), kI cI f1 12 g1, kI cI f2 12 g2, kI cI f3 12 g3, kX5 bk br (nI r9), kQ cR br 9 (fun k => some ((rho k).1.1)), kX4 ((rho i).1.1) ((rho i).2.1.1) ((rho i).1.2.1) ((rho i).1.2.2.2.2.2.1) ((rho i).1.2.2.2.2.2.2.1) ((rho i).1.2.2.2.2.2.2.2), kX0 ((rho i).1.2.1) ((rho i).1.2.2.1) ((rho i).1.2.2.2.1) ((rho i).1.2.2.2.2.1) ((rho i).2.1.2.1) ((rho i).2.1.2.2), kI cI ((rho i).1.2.2.1) 3 ((rho i).2.2.1), kI cI ((rho i).1.2.2.2.1) 3 ((rho i).2.2.2.1), kI cI ((rho i).1.2.2.2.2.1) 3 ((rho i).2.2.2.2.1), kI cI ((rho i).1.2.2.2.2.2.1) 3 ((rho i).2.2.2.2.2.1), kI cI ((rho i).1.2.2.2.2.2.2.1) 64 ((rho i).2.2.2.2.2.2.1), kI cI ((rho i).1.2.2.2.2.2.2.2) 64 ((rho i).2.2.2.2.2.2.2)] ++ RX cI rho i) := hD
                rw [eo9] at hP hD
                have hP : va_P D vwCl ([kX2 og o1 o2, kI cI o1 2400 sc, kI cI o2 4 dc, kX0 fg f1 f2 f3 (nI n9) (nI v), kI cI f1 12 g1, kI cI f2 12 g2, kI cI f3 12 g3, kX5 bk br (nI r9), kQ cR br 9 (fun k => some ((rho k).1.1)), kX4 ((rho i).1.1) (nI (yO (rC rho r9) i)) ((rho i).1.2.1) ((rho i).1.2.2.2.2.2.1) ((rho i).1.2.2.2.2.2.2.1) ((rho i).1.2.2.2.2.2.2.2), kX0 ((rho i).1.2.1) ((rho i).1.2.2.1) ((rho i).1.2.2.2.1) ((rho i).1.2.2.2.2.1) ((rho i).2.1.2.1) ((rho i).2.1.2.2), kI cI ((rho i).1.2.2.1) 3 ((rho i).2.2.1), kI cI ((rho i).1.2.2.2.1) 3 ((rho i).2.2.2.1), kI cI ((rho i).1.2.2.2.2.1) 3 ((rho i).2.2.2.2.1), kI cI ((rho i).1.2.2.2.2.2.1) 3 ((rho i).2.2.2.2.2.1), kI cI ((rho i).1.2.2.2.2.2.2.1) 64 ((rho i).2.2.2.2.2.2.1), kI cI ((rho i).1.2.2.2.2.2.2.2) 64 ((rho i).2.2.2.2.2.2.2)] ++ RX cI rho i) H := hP
                have hD : va_D A ([kX2 og o1 o2, kI cI o1 2400 sc, kI cI o2 4 dc, kX0 fg f1 f2 f3 (nI n9) (nI v), kI cI f1 12 g1, kI cI f2 12 g2, kI cI f3 12 g3, kX5 bk br (nI r9), kQ cR br 9 (fun k => some ((rho k).1.1)), kX4 ((rho i).1.1) (nI (yO (rC rho r9) i)) ((rho i).1.2.1) ((rho i).1.2.2.2.2.2.1) ((rho i).1.2.2.2.2.2.2.1) ((rho i).1.2.2.2.2.2.2.2), kX0 ((rho i).1.2.1) ((rho i).1.2.2.1) ((rho i).1.2.2.2.1) ((rho i).1.2.2.2.2.1) ((rho i).2.1.2.1) ((rho i).2.1.2.2), kI cI ((rho i).1.2.2.1) 3 ((rho i).2.2.1), kI cI ((rho i).1.2.2.2.1) 3 ((rho i).2.2.2.1), kI cI ((rho i).1.2.2.2.2.1) 3 ((rho i).2.2.2.2.1), kI cI ((rho i).1.2.2.2.2.2.1) 3 ((rho i).2.2.2.2.2.1), kI cI ((rho i).1.2.2.2.2.2.2.1) 64 ((rho i).2.2.2.2.2.2.1), kI cI ((rho i).1.2.2.2.2.2.2.2) 64 ((rho i).2.2.2.2.2.2.2)] ++ RX cI rho i) := hD
                refine lv_aload hx hb dX2_improve_94 (lv_at hl 0 rfl) ?_
                refine va_get (D := D) (ci := 4) (v := .ref ((rho i).1.2.1)) (C := RX4) (T := TX4) (N := 5) hx hb hts iT_X4 hown hK1 hP 9 rfl rfl 1 (by decide) (hts _ t_84) (fun _ h9 => h9) rfl dX2_improve_96 ?_
                refine va_get (D := D) (ci := 0) (v := .int ((rho i).2.1.2.1)) (C := RX0) (T := TX0) (N := 5) hx hb hts iT_X0 hown hK1 hP 10 rfl rfl 3 (by decide) (hts _ t_63) (fun _ h9 => h9) rfl dX2_improve_99 ?_
                refine lv_nmi (show _ = (nI (yS (rC rho r9) i) : Int32) from hRJ.1) ?_
                refine lv_iload hx hb dX2_improve_102 (lv_at hl 6 rfl) ?_
                refine lv_icmp_gt (tgt := 139) hx hb dX2_improve_104 (by decide) (fun c_17 => ?_) (fun c_17 => ?_)
                · skip
                  rw [← eo9] at hP hD
                  have hP : va_P D vwCl ([kX2 og o1 o2, kI cI o1 2400 sc, kI cI o2 4 dc, kX0 fg f1 f2 f3 (nI n9) (nI v), kI cI f1 12 g1, kI cI f2 12 g2, kI cI f3 12 g3, kX5 bk br (nI r9), kQ cR br 9 (fun k => some ((rho k).1.1)), kX4 ((rho i).1.1) ((rho i).2.1.1) ((rho i).1.2.1) ((rho i).1.2.2.2.2.2.1) ((rho i).1.2.2.2.2.2.2.1) ((rho i).1.2.2.2.2.2.2.2), kX0 ((rho i).1.2.1) ((rho i).1.2.2.1) ((rho i).1.2.2.2.1) ((rho i).1.2.2.2.2.1) ((rho i).2.1.2.1) ((rho i).2.1.2.2), kI cI ((rho i).1.2.2.1) 3 ((rho i).2.2.1), kI cI ((rho i).1.2.2.2.1) 3 ((rho i).2.2.2.1), kI cI ((rho i).1.2.2.2.2.1) 3 ((rho i).2.2.2.2.1), kI cI ((rho i).1.2.2.2.2.2.1) 3 ((rho i).2.2.2.2.2.1), kI cI ((rho i).1.2.2.2.2.2.2.1) 64 ((rho i).2.2.2.2.2.2.1), kI cI ((rho i).1.2.2.2.2.2.2.2) 64 ((rho i).2.2.2.2.2.2.2)] ++ RX cI rho i) H := hP
                  have hD : va_D A ([kX2 og o1 o2, kI cI o1 2400 sc, kI cI o2 4 dc, kX0 fg f1 f2 f3 (nI n9) (nI v), kI cI f1 12 g1, kI cI f2 12 g2, kI cI f3 12 g3, kX5 bk br (nI r9), kQ cR br 9 (fun k => some ((rho k).1.1)), kX4 ((rho i).1.1) ((rho i).2.1.1) ((rho i).1.2.1) ((rho i).1.2.2.2.2.2.1) ((rho i).1.2.2.2.2.2.2.1) ((rho i).1.2.2.2.2.2.2.2), kX0 ((rho i).1.2.1) ((rho i).1.2.2.1) ((rho i).1.2.2.2.1) ((rho i).1.2.2.2.2.1) ((rho i).2.1.2.1) ((rho i).2.1.2.2), kI cI ((rho i).1.2.2.1) 3 ((rho i).2.2.1), kI cI ((rho i).1.2.2.2.1) 3 ((rho i).2.2.2.1), kI cI ((rho i).1.2.2.2.2.1) 3 ((rho i).2.2.2.2.1), kI cI ((rho i).1.2.2.2.2.2.1) 3 ((rho i).2.2.2.2.2.1), kI cI ((rho i).1.2.2.2.2.2.2.1) 64 ((rho i).2.2.2.2.2.2.1), kI cI ((rho i).1.2.2.2.2.2.2.2) 64 ((rho i).2.2.2.2.2.2.2)] ++ RX cI rho i) := hD
                  have hPD : PD D A ([kX2 og o1 o2, kI cI o1 2400 sc, kI cI o2 4 dc, kX0 fg f1 f2 f3 (nI n9) (nI v), kI cI f1 12 g1, kI cI f2 12 g2, kI cI f3 12 g3, kX5 bk br (nI r9), kQ cR br 9 (fun k => some ((rho k).1.1)), kX4 ((rho i).1.1) ((rho i).2.1.1) ((rho i).1.2.1) ((rho i).1.2.2.2.2.2.1) ((rho i).1.2.2.2.2.2.2.1) ((rho i).1.2.2.2.2.2.2.2), kX0 ((rho i).1.2.1) ((rho i).1.2.2.1) ((rho i).1.2.2.2.1) ((rho i).1.2.2.2.2.1) ((rho i).2.1.2.1) ((rho i).2.1.2.2), kI cI ((rho i).1.2.2.1) 3 ((rho i).2.2.1), kI cI ((rho i).1.2.2.2.1) 3 ((rho i).2.2.2.1), kI cI ((rho i).1.2.2.2.2.1) 3 ((rho i).2.2.2.2.1), kI cI ((rho i).1.2.2.2.2.2.1) 3 ((rho i).2.2.2.2.2.1), kI cI ((rho i).1.2.2.2.2.2.2.1) 64 ((rho i).2.2.2.2.2.2.1), kI cI ((rho i).1.2.2.2.2.2.2.2) 64 ((rho i).2.2.2.2.2.2.2)] ++ RX cI rho i) H := (PD.perm ⟨hP, hD⟩ (permB pm_25)).left
                  obtain ⟨hP, hD⟩ := unfocus0 (E := [kX2 og o1 o2, kI cI o1 2400 sc, kI cI o2 4 dc, kX0 fg f1 f2 f3 (nI n9) (nI v), kI cI f1 12 g1, kI cI f2 12 g2, kI cI f3 12 g3, kX5 bk br (nI r9), kQ cR br 9 (fun k => some ((rho k).1.1))]) i (by omega) hPD.1 hPD.2
                  have hP : va_P D vwCl ([kX2 og o1 o2, kI cI o1 2400 sc, kI cI o2 4 dc, kX0 fg f1 f2 f3 (nI n9) (nI v), kI cI f1 12 g1, kI cI f2 12 g2, kI cI f3 12 g3, kX5 bk br (nI r9), kQ cR br 9 (fun k => some ((rho k).1.1))] ++ RB cI rho) H := hP
                  have hD : va_D A ([kX2 og o1 o2, kI cI o1 2400 sc, kI cI o2 4 dc, kX0 fg f1 f2 f3 (nI n9) (nI v), kI cI f1 12 g1, kI cI f2 12 g2, kI cI f3 12 g3, kX5 bk br (nI r9), kQ cR br 9 (fun k => some ((rho k).1.1))] ++ RB cI rho) := hD
                  refine lv_iinc (v := nI (i + 1)) (lv' := [(9, .int (nI (i + 1))), (10, .ref ((rho i).1.1)), (0, .ref og), (1, .ref fg), (2, .int (nI b)), (3, .ref bk), (4, .int 0), (5, .int (nI (zpc b))), (6, .int bg), (7, .int (nI so)), (8, .int (nI ta))]) hx hb dX2_improve_139 hl (k := 10) rfl (nI_1 i) (by decide) rfl (fun ls hl => ?_)
                  refine lv_goto (tgt := 76) hx hb dX2_improve_142 (by decide) ?_
                  have hPD : PD D A ([kX2 og o1 o2, kI cI o1 2400 sc, kI cI o2 4 dc, kX0 fg f1 f2 f3 (nI n9) (nI v), kI cI f1 12 g1, kI cI f2 12 g2, kI cI f3 12 g3, kX5 bk br (nI r9), kQ cR br 9 (fun k => some ((rho k).1.1))] ++ RB cI rho) H := (PD.perm ⟨hP, hD⟩ (permB pm_19)).left
                  exact ih_76 (i + 1) bg sc dc (by omega) hbe3 hC3 (IMI_k (fun q => absurd (ltN (a := (zpc b)) (by omega) (by omega) c_17) (by omega)) hI3) hs2 hd0 _ _ _ hPD.1 hPD.2 hS (lv_sub hl [2, 3, 4, 5, 6, 7, 8, 9, 10, 0] rfl)
                · skip
                  refine lv_iload hx hb dX2_improve_107 (lv_at hl 7 rfl) ?_
                  refine lv_aload_n hx hb dX2_improve_109 rfl (lv_at hl 1 rfl) ?_
                  refine lv_aload hx hb dX2_improve_110 (lv_at hl 0 rfl) ?_
                  refine va_get (D := D) (ci := 4) (v := .int (nI (yO (rC rho r9) i))) (C := RX4) (T := TX4) (N := 5) hx hb hts iT_X4 hown hK1 hP 9 rfl rfl 0 (by decide) (hts _ t_80) (fun _ h9 => h9) rfl dX2_improve_112 ?_
                  refine lv_iload_n hx hb dX2_improve_115 rfl (lv_at hl 3 rfl) ?_
                  refine lv_iload hx hb dX2_improve_116 (lv_at hl 8 rfl) ?_
                  refine lv_iload hx hb dX2_improve_118 (lv_at hl 9 rfl) ?_
                  have hPD : PD D A ([] ++ ([kX2 og o1 o2, kI cI o1 2400 sc, kI cI o2 4 dc, kX0 fg f1 f2 f3 (nI n9) (nI v), kI cI f1 12 g1, kI cI f2 12 g2, kI cI f3 12 g3, kX5 bk br (nI r9), kQ cR br 9 (fun k => some ((rho k).1.1)), kX4 ((rho i).1.1) (nI (yO (rC rho r9) i)) ((rho i).1.2.1) ((rho i).1.2.2.2.2.2.1) ((rho i).1.2.2.2.2.2.2.1) ((rho i).1.2.2.2.2.2.2.2), kX0 ((rho i).1.2.1) ((rho i).1.2.2.1) ((rho i).1.2.2.2.1) ((rho i).1.2.2.2.2.1) ((rho i).2.1.2.1) ((rho i).2.1.2.2), kI cI ((rho i).1.2.2.1) 3 ((rho i).2.2.1), kI cI ((rho i).1.2.2.2.1) 3 ((rho i).2.2.2.1), kI cI ((rho i).1.2.2.2.2.1) 3 ((rho i).2.2.2.2.1), kI cI ((rho i).1.2.2.2.2.2.1) 3 ((rho i).2.2.2.2.2.1), kI cI ((rho i).1.2.2.2.2.2.2.1) 64 ((rho i).2.2.2.2.2.2.1), kI cI ((rho i).1.2.2.2.2.2.2.2) 64 ((rho i).2.2.2.2.2.2.2)] ++ RX cI rho i)) H := PD.perm ⟨hP, hD⟩ (permA pm_26)
                  refine xp_i (wc := []) (wr := ([kX2 og o1 o2, kI cI o1 2400 sc, kI cI o2 4 dc, kX0 fg f1 f2 f3 (nI n9) (nI v), kI cI f1 12 g1, kI cI f2 12 g2, kI cI f3 12 g3, kX5 bk br (nI r9), kQ cR br 9 (fun k => some ((rho k).1.1)), kX4 ((rho i).1.1) (nI (yO (rC rho r9) i)) ((rho i).1.2.1) ((rho i).1.2.2.2.2.2.1) ((rho i).1.2.2.2.2.2.2.1) ((rho i).1.2.2.2.2.2.2.2), kX0 ((rho i).1.2.1) ((rho i).1.2.2.1) ((rho i).1.2.2.2.1) ((rho i).1.2.2.2.2.1) ((rho i).2.1.2.1) ((rho i).2.1.2.2), kI cI ((rho i).1.2.2.1) 3 ((rho i).2.2.1), kI cI ((rho i).1.2.2.2.1) 3 ((rho i).2.2.2.1), kI cI ((rho i).1.2.2.2.2.1) 3 ((rho i).2.2.2.2.1), kI cI ((rho i).1.2.2.2.2.2.1) 3 ((rho i).2.2.2.2.2.1), kI cI ((rho i).1.2.2.2.2.2.2.1) 64 ((rho i).2.2.2.2.2.2.1), kI cI ((rho i).1.2.2.2.2.2.2.2) 64 ((rho i).2.2.2.2.2.2.2)] ++ RX cI rho i)) (xqS (n := 4) (As := [.int (nI (yO (rC rho r9) i)), .int (nI b), .int (nI so), .int (nI ta)]) (rest := [.ref og, .int bg]) hd hK hPD.left (c_X2_at l D cI cJ cZ cR _ (yO (rC rho r9) i) b so ta ) (gS t_410 mS_X2_at) hS_X2_at ⟨(Nat.le_of_ble_eq_true rfl), (Nat.le_of_ble_eq_true rfl)⟩ rfl hl.1 rfl (Nat.le_of_ble_eq_true rfl) dX2_improve_120 ⟨(Nat.le_of_ble_eq_true rfl), (Nat.le_of_ble_eq_true rfl)⟩) hPD hS hA (fun r_18 u_19 H locs hw_20 hPD hS => ?_)
                  have hw_21 : r_18 = (nI (((((((yO (rC rho r9) i) * 32) + b) * 5) + so) * 5) + ta)) := hw_20
                  subst hw_21
                  obtain ⟨hP, hD⟩ := hPD.perm permA'
                  have hP : va_P D vwCl ([kX2 og o1 o2, kI cI o1 2400 sc, kI cI o2 4 dc, kX0 fg f1 f2 f3 (nI n9) (nI v), kI cI f1 12 g1, kI cI f2 12 g2, kI cI f3 12 g3, kX5 bk br (nI r9), kQ cR br 9 (fun k => some ((rho k).1.1)), kX4 ((rho i).1.1) (nI (yO (rC rho r9) i)) ((rho i).1.2.1) ((rho i).1.2.2.2.2.2.1) ((rho i).1.2.2.2.2.2.2.1) ((rho i).1.2.2.2.2.2.2.2), kX0 ((rho i).1.2.1) ((rho i).1.2.2.1) ((rho i).1.2.2.2.1) ((rho i).1.2.2.2.2.1) ((rho i).2.1.2.1) ((rho i).2.1.2.2), kI cI ((rho i).1.2.2.1) 3 ((rho i).2.2.1), kI cI ((rho i).1.2.2.2.1) 3 ((rho i).2.2.2.1), kI cI ((rho i).1.2.2.2.2.1) 3 ((rho i).2.2.2.2.1), kI cI ((rho i).1.2.2.2.2.2.1) 3 ((rho i).2.2.2.2.2.1), kI cI ((rho i).1.2.2.2.2.2.2.1) 64 ((rho i).2.2.2.2.2.2.1), kI cI ((rho i).1.2.2.2.2.2.2.2) 64 ((rho i).2.2.2.2.2.2.2)] ++ RX cI rho i) H := hP
                  have hD : va_D A ([kX2 og o1 o2, kI cI o1 2400 sc, kI cI o2 4 dc, kX0 fg f1 f2 f3 (nI n9) (nI v), kI cI f1 12 g1, kI cI f2 12 g2, kI cI f3 12 g3, kX5 bk br (nI r9), kQ cR br 9 (fun k => some ((rho k).1.1)), kX4 ((rho i).1.1) (nI (yO (rC rho r9) i)) ((rho i).1.2.1) ((rho i).1.2.2.2.2.2.1) ((rho i).1.2.2.2.2.2.2.1) ((rho i).1.2.2.2.2.2.2.2), kX0 ((rho i).1.2.1) ((rho i).1.2.2.1) ((rho i).1.2.2.2.1) ((rho i).1.2.2.2.2.1) ((rho i).2.1.2.1) ((rho i).2.1.2.2), kI cI ((rho i).1.2.2.1) 3 ((rho i).2.2.1), kI cI ((rho i).1.2.2.2.1) 3 ((rho i).2.2.2.1), kI cI ((rho i).1.2.2.2.2.1) 3 ((rho i).2.2.2.2.1), kI cI ((rho i).1.2.2.2.2.2.1) 3 ((rho i).2.2.2.2.2.1), kI cI ((rho i).1.2.2.2.2.2.2.1) 64 ((rho i).2.2.2.2.2.2.1), kI cI ((rho i).1.2.2.2.2.2.2.2) 64 ((rho i).2.2.2.2.2.2.2)] ++ RX cI rho i) := hD
                  refine lv_iconst (v := 1) hx hb dX2_improve_123 (by decide) ?_
                  refine lv_aload_n hx hb dX2_improve_124 rfl (lv_at hl 1 rfl) ?_
                  refine lv_aload_n hx hb dX2_improve_125 rfl (lv_at hl 2 rfl) ?_
                  refine lv_iload_n hx hb dX2_improve_126 rfl (lv_at hl 3 rfl) ?_
                  refine lv_aload hx hb dX2_improve_127 (lv_at hl 0 rfl) ?_
                  have hPD : PD D A ([kX2 og o1 o2, kI cI o1 2400 sc, kI cI o2 4 dc, kX0 fg f1 f2 f3 (nI n9) (nI v), kI cI f1 12 g1, kI cI f2 12 g2, kI cI f3 12 g3, kX4 ((rho i).1.1) (nI (yO (rC rho r9) i)) ((rho i).1.2.1) ((rho i).1.2.2.2.2.2.1) ((rho i).1.2.2.2.2.2.2.1) ((rho i).1.2.2.2.2.2.2.2), kX0 ((rho i).1.2.1) ((rho i).1.2.2.1) ((rho i).1.2.2.2.1) ((rho i).1.2.2.2.2.1) ((rho i).2.1.2.1) ((rho i).2.1.2.2), kI cI ((rho i).1.2.2.1) 3 ((rho i).2.2.1), kI cI ((rho i).1.2.2.2.1) 3 ((rho i).2.2.2.1), kI cI ((rho i).1.2.2.2.2.1) 3 ((rho i).2.2.2.2.1), kI cI ((rho i).1.2.2.2.2.2.1) 3 ((rho i).2.2.2.2.2.1), kI cI ((rho i).1.2.2.2.2.2.2.1) 64 ((rho i).2.2.2.2.2.2.1), kI cI ((rho i).1.2.2.2.2.2.2.2) 64 ((rho i).2.2.2.2.2.2.2)] ++ ([kX5 bk br (nI r9), kQ cR br 9 (fun k => some ((rho k).1.1))] ++ RX cI rho i)) H := PD.perm ⟨hP, hD⟩ (permA pm_27)
                  refine xp_i (wc := [kX2 og o1 o2, kI cI o1 2400 sc, kI cI o2 4 dc, kX0 fg f1 f2 f3 (nI n9) (nI v), kI cI f1 12 g1, kI cI f2 12 g2, kI cI f3 12 g3, kX4 ((rho i).1.1) (nI (yO (rC rho r9) i)) ((rho i).1.2.1) ((rho i).1.2.2.2.2.2.1) ((rho i).1.2.2.2.2.2.2.1) ((rho i).1.2.2.2.2.2.2.2), kX0 ((rho i).1.2.1) ((rho i).1.2.2.1) ((rho i).1.2.2.2.1) ((rho i).1.2.2.2.2.1) ((rho i).2.1.2.1) ((rho i).2.1.2.2), kI cI ((rho i).1.2.2.1) 3 ((rho i).2.2.1), kI cI ((rho i).1.2.2.2.1) 3 ((rho i).2.2.2.1), kI cI ((rho i).1.2.2.2.2.1) 3 ((rho i).2.2.2.2.1), kI cI ((rho i).1.2.2.2.2.2.1) 3 ((rho i).2.2.2.2.2.1), kI cI ((rho i).1.2.2.2.2.2.2.1) 64 ((rho i).2.2.2.2.2.2.1), kI cI ((rho i).1.2.2.2.2.2.2.2) 64 ((rho i).2.2.2.2.2.2.2)]) (wr := ([kX5 bk br (nI r9), kQ cR br 9 (fun k => some ((rho k).1.1))] ++ RX cI rho i)) (xqV (n := 3) (As := [.ref fg, .int (nI b), .ref ((rho i).1.1)]) (rest := [.int 1, .int (nI (((((((yO (rC rho r9) i) * 32) + b) * 5) + so) * 5) + ta)), .ref og, .int bg]) (ci := 2) (q0 := 0) hd hK hPD.left (c_X2_byRule l D cI cJ cZ cR _ og o1 o2 fg f1 f2 f3 n9 v ((rho i).1.1) ((rho i).1.2.1) ((rho i).1.2.2.1) ((rho i).1.2.2.2.1) ((rho i).1.2.2.2.2.1) ((rho i).1.2.2.2.2.2.1) ((rho i).1.2.2.2.2.2.2.1) ((rho i).1.2.2.2.2.2.2.2) b i (rC rho r9) sc dc g1 g2 g3 (nI (yO (rC rho r9) i)) ((rho i).2.1.2.1) ((rho i).2.1.2.2) ((rho i).2.2.1) ((rho i).2.2.2.1) ((rho i).2.2.2.2.1) ((rho i).2.2.2.2.2.1) ((rho i).2.2.2.2.2.2.1) ((rho i).2.2.2.2.2.2.2) hn5 hv5 hG hRJ hs2 hI3.1 hb32) (gV t_413 mV_X2_byRule) hV_X2_byRule ⟨(Nat.le_of_ble_eq_true rfl), (Nat.le_of_ble_eq_true rfl)⟩ rfl rfl rfl hl.1 rfl (Nat.le_of_ble_eq_true rfl) dX2_improve_129 ⟨(Nat.le_of_ble_eq_true rfl), (Nat.le_of_ble_eq_true rfl)⟩) hPD hS hA (fun r_22 u_23 H locs hw_24 hPD hS => ?_)
                  obtain ⟨q_25, d2_26⟩ := u_23
                  obtain ⟨hw_27, hw_28, hw_29, hw_30, hw_31⟩ : (r_22 = (nI q_25)) ∧ (SDn 2 d2_26) ∧ (d2_26 0 = dc 0) ∧ (d2_26 1 = dc 1) ∧ (zLs zF9 (zBy (gC n9 v g1 g2 g3) (rC rho r9) (TD zF9 (tbl sc)) i (tn (dc 0)) (tn (dc 1)) b) q_25) := hw_24
                  subst hw_27
                  have hs9 := hw_28
                  have hd1 := hw_29
                  have hd2 := hw_30
                  have hq := hw_31
                  rw [hd0.1, hd0.2] at hq
                  have hq9 := hq.1
                  obtain ⟨hP, hD⟩ := hPD.perm permA'
                  have hP : va_P D vwCl ([kX5 bk br (nI r9), kQ cR br 9 (fun k => some ((rho k).1.1)), kX2 og o1 o2, kI cI o1 2400 sc, kI cI o2 4 d2_26, kX0 fg f1 f2 f3 (nI n9) (nI v), kI cI f1 12 g1, kI cI f2 12 g2, kI cI f3 12 g3, kX4 ((rho i).1.1) (nI (yO (rC rho r9) i)) ((rho i).1.2.1) ((rho i).1.2.2.2.2.2.1) ((rho i).1.2.2.2.2.2.2.1) ((rho i).1.2.2.2.2.2.2.2), kX0 ((rho i).1.2.1) ((rho i).1.2.2.1) ((rho i).1.2.2.2.1) ((rho i).1.2.2.2.2.1) ((rho i).2.1.2.1) ((rho i).2.1.2.2), kI cI ((rho i).1.2.2.1) 3 ((rho i).2.2.1), kI cI ((rho i).1.2.2.2.1) 3 ((rho i).2.2.2.1), kI cI ((rho i).1.2.2.2.2.1) 3 ((rho i).2.2.2.2.1), kI cI ((rho i).1.2.2.2.2.2.1) 3 ((rho i).2.2.2.2.2.1), kI cI ((rho i).1.2.2.2.2.2.2.1) 64 ((rho i).2.2.2.2.2.2.1), kI cI ((rho i).1.2.2.2.2.2.2.2) 64 ((rho i).2.2.2.2.2.2.2)] ++ RX cI rho i) H := hP
                  have hD : va_D A ([kX5 bk br (nI r9), kQ cR br 9 (fun k => some ((rho k).1.1)), kX2 og o1 o2, kI cI o1 2400 sc, kI cI o2 4 d2_26, kX0 fg f1 f2 f3 (nI n9) (nI v), kI cI f1 12 g1, kI cI f2 12 g2, kI cI f3 12 g3, kX4 ((rho i).1.1) (nI (yO (rC rho r9) i)) ((rho i).1.2.1) ((rho i).1.2.2.2.2.2.1) ((rho i).1.2.2.2.2.2.2.1) ((rho i).1.2.2.2.2.2.2.2), kX0 ((rho i).1.2.1) ((rho i).1.2.2.1) ((rho i).1.2.2.2.1) ((rho i).1.2.2.2.2.1) ((rho i).2.1.2.1) ((rho i).2.1.2.2), kI cI ((rho i).1.2.2.1) 3 ((rho i).2.2.1), kI cI ((rho i).1.2.2.2.1) 3 ((rho i).2.2.2.1), kI cI ((rho i).1.2.2.2.2.1) 3 ((rho i).2.2.2.2.1), kI cI ((rho i).1.2.2.2.2.2.1) 3 ((rho i).2.2.2.2.2.1), kI cI ((rho i).1.2.2.2.2.2.2.1) 64 ((rho i).2.2.2.2.2.2.1), kI cI ((rho i).1.2.2.2.2.2.2.2) 64 ((rho i).2.2.2.2.2.2.2)] ++ RX cI rho i) := hD
                  refine lv_iadd hx hb dX2_improve_132 ?_
                  refine lv_nmi (show _ = (nI (1 + q_25)) from nI_add (1) (q_25)) ?_
                  have hPD : PD D A ([kX2 og o1 o2, kI cI o1 2400 sc, kI cI o2 4 d2_26] ++ ([kX5 bk br (nI r9), kQ cR br 9 (fun k => some ((rho k).1.1)), kX0 fg f1 f2 f3 (nI n9) (nI v), kI cI f1 12 g1, kI cI f2 12 g2, kI cI f3 12 g3, kX4 ((rho i).1.1) (nI (yO (rC rho r9) i)) ((rho i).1.2.1) ((rho i).1.2.2.2.2.2.1) ((rho i).1.2.2.2.2.2.2.1) ((rho i).1.2.2.2.2.2.2.2), kX0 ((rho i).1.2.1) ((rho i).1.2.2.1) ((rho i).1.2.2.2.1) ((rho i).1.2.2.2.2.1) ((rho i).2.1.2.1) ((rho i).2.1.2.2), kI cI ((rho i).1.2.2.1) 3 ((rho i).2.2.1), kI cI ((rho i).1.2.2.2.1) 3 ((rho i).2.2.2.1), kI cI ((rho i).1.2.2.2.2.1) 3 ((rho i).2.2.2.2.1), kI cI ((rho i).1.2.2.2.2.2.1) 3 ((rho i).2.2.2.2.2.1), kI cI ((rho i).1.2.2.2.2.2.2.1) 64 ((rho i).2.2.2.2.2.2.1), kI cI ((rho i).1.2.2.2.2.2.2.2) 64 ((rho i).2.2.2.2.2.2.2)] ++ RX cI rho i)) H := PD.perm ⟨hP, hD⟩ (permA pm_28)
                  refine xp_i (wc := [kX2 og o1 o2, kI cI o1 2400 sc, kI cI o2 4 d2_26]) (wr := ([kX5 bk br (nI r9), kQ cR br 9 (fun k => some ((rho k).1.1)), kX0 fg f1 f2 f3 (nI n9) (nI v), kI cI f1 12 g1, kI cI f2 12 g2, kI cI f3 12 g3, kX4 ((rho i).1.1) (nI (yO (rC rho r9) i)) ((rho i).1.2.1) ((rho i).1.2.2.2.2.2.1) ((rho i).1.2.2.2.2.2.2.1) ((rho i).1.2.2.2.2.2.2.2), kX0 ((rho i).1.2.1) ((rho i).1.2.2.1) ((rho i).1.2.2.2.1) ((rho i).1.2.2.2.2.1) ((rho i).2.1.2.1) ((rho i).2.1.2.2), kI cI ((rho i).1.2.2.1) 3 ((rho i).2.2.1), kI cI ((rho i).1.2.2.2.1) 3 ((rho i).2.2.2.1), kI cI ((rho i).1.2.2.2.2.1) 3 ((rho i).2.2.2.2.1), kI cI ((rho i).1.2.2.2.2.2.1) 3 ((rho i).2.2.2.2.2.1), kI cI ((rho i).1.2.2.2.2.2.2.1) 64 ((rho i).2.2.2.2.2.2.1), kI cI ((rho i).1.2.2.2.2.2.2.2) 64 ((rho i).2.2.2.2.2.2.2)] ++ RX cI rho i)) (xqV (n := 2) (As := [.int (nI (((((((yO (rC rho r9) i) * 32) + b) * 5) + so) * 5) + ta)), .int (nI (1 + q_25))]) (rest := [.int bg]) (ci := 2) (q0 := 0) hd hK hPD.left (c_X2_lower l D cI cJ cZ cR _ og o1 o2 (((((((yO (rC rho r9) i) * 32) + b) * 5) + so) * 5) + ta) sc d2_26 (nI (1 + q_25)) (by omega)) (gV t_437 mV_X2_lower) hV_X2_lower ⟨(Nat.le_of_ble_eq_true rfl), (Nat.le_of_ble_eq_true rfl)⟩ rfl rfl rfl hl.1 rfl (Nat.le_of_ble_eq_true rfl) dX2_improve_133 ⟨(Nat.le_of_ble_eq_true rfl), (Nat.le_of_ble_eq_true rfl)⟩) hPD hS hA (fun r_32 u_33 H locs hw_34 hPD hS => ?_)
                  obtain ⟨s2_35, rfl⟩ : ∃ z9, z9 = u_33 := ⟨_, rfl⟩
                  have hw_36 : (r_32 = 0 ∧ s2_35 = sc ∧ ¬ (nI (1 + q_25)) < sc (((((((yO (rC rho r9) i) * 32) + b) * 5) + so) * 5) + ta)) ∨ (r_32 = 1 ∧ s2_35 = upd sc (((((((yO (rC rho r9) i) * 32) + b) * 5) + so) * 5) + ta) (nI (1 + q_25)) ∧ (nI (1 + q_25)) < sc (((((((yO (rC rho r9) i) * 32) + b) * 5) + so) * 5) + ta)) := hw_34
                  have hI4 := IMI_low (show i < r9 by omega) ho9 hb32 (by omega) (by omega) hP9 hq hw_36 hI3
                  have hr01 := low_01 hw_36
                  have hC4 := low_C hbe3 hC3 hw_36
                  obtain ⟨hP, hD⟩ := hPD.perm permA'
                  have hP : va_P D vwCl ([kX5 bk br (nI r9), kQ cR br 9 (fun k => some ((rho k).1.1)), kX0 fg f1 f2 f3 (nI n9) (nI v), kI cI f1 12 g1, kI cI f2 12 g2, kI cI f3 12 g3, kX4 ((rho i).1.1) (nI (yO (rC rho r9) i)) ((rho i).1.2.1) ((rho i).1.2.2.2.2.2.1) ((rho i).1.2.2.2.2.2.2.1) ((rho i).1.2.2.2.2.2.2.2), kX0 ((rho i).1.2.1) ((rho i).1.2.2.1) ((rho i).1.2.2.2.1) ((rho i).1.2.2.2.2.1) ((rho i).2.1.2.1) ((rho i).2.1.2.2), kI cI ((rho i).1.2.2.1) 3 ((rho i).2.2.1), kI cI ((rho i).1.2.2.2.1) 3 ((rho i).2.2.2.1), kI cI ((rho i).1.2.2.2.2.1) 3 ((rho i).2.2.2.2.1), kI cI ((rho i).1.2.2.2.2.2.1) 3 ((rho i).2.2.2.2.2.1), kI cI ((rho i).1.2.2.2.2.2.2.1) 64 ((rho i).2.2.2.2.2.2.1), kI cI ((rho i).1.2.2.2.2.2.2.2) 64 ((rho i).2.2.2.2.2.2.2), kX2 og o1 o2, kI cI o1 2400 s2_35, kI cI o2 4 d2_26] ++ RX cI rho i) H := hP
                  have hD : va_D A ([kX5 bk br (nI r9), kQ cR br 9 (fun k => some ((rho k).1.1)), kX0 fg f1 f2 f3 (nI n9) (nI v), kI cI f1 12 g1, kI cI f2 12 g2, kI cI f3 12 g3, kX4 ((rho i).1.1) (nI (yO (rC rho r9) i)) ((rho i).1.2.1) ((rho i).1.2.2.2.2.2.1) ((rho i).1.2.2.2.2.2.2.1) ((rho i).1.2.2.2.2.2.2.2), kX0 ((rho i).1.2.1) ((rho i).1.2.2.1) ((rho i).1.2.2.2.1) ((rho i).1.2.2.2.2.1) ((rho i).2.1.2.1) ((rho i).2.1.2.2), kI cI ((rho i).1.2.2.1) 3 ((rho i).2.2.1), kI cI ((rho i).1.2.2.2.1) 3 ((rho i).2.2.2.1), kI cI ((rho i).1.2.2.2.2.1) 3 ((rho i).2.2.2.2.1), kI cI ((rho i).1.2.2.2.2.2.1) 3 ((rho i).2.2.2.2.2.1), kI cI ((rho i).1.2.2.2.2.2.2.1) 64 ((rho i).2.2.2.2.2.2.1), kI cI ((rho i).1.2.2.2.2.2.2.2) 64 ((rho i).2.2.2.2.2.2.2), kX2 og o1 o2, kI cI o1 2400 s2_35, kI cI o2 4 d2_26] ++ RX cI rho i) := hD
                  refine lv_ior hx hb dX2_improve_136 ?_
                  refine lv_istore (lv' := [(6, .int (bg ||| r_32)), (10, .ref ((rho i).1.1)), (0, .ref og), (1, .ref fg), (2, .int (nI b)), (3, .ref bk), (4, .int 0), (5, .int (nI (zpc b))), (7, .int (nI so)), (8, .int (nI ta)), (9, .int (nI i))]) hx hb dX2_improve_137 hl (by decide) rfl (fun ls hl => ?_)
                  rw [← eo9] at hP hD
                  have hP : va_P D vwCl ([kX5 bk br (nI r9), kQ cR br 9 (fun k => some ((rho k).1.1)), kX0 fg f1 f2 f3 (nI n9) (nI v), kI cI f1 12 g1, kI cI f2 12 g2, kI cI f3 12 g3, kX4 ((rho i).1.1) ((rho i).2.1.1) ((rho i).1.2.1) ((rho i).1.2.2.2.2.2.1) ((rho i).1.2.2.2.2.2.2.1) ((rho i).1.2.2.2.2.2.2.2), kX0 ((rho i).1.2.1) ((rho i).1.2.2.1) ((rho i).1.2.2.2.1) ((rho i).1.2.2.2.2.1) ((rho i).2.1.2.1) ((rho i).2.1.2.2), kI cI ((rho i).1.2.2.1) 3 ((rho i).2.2.1), kI cI ((rho i).1.2.2.2.1) 3 ((rho i).2.2.2.1), kI cI ((rho i).1.2.2.2.2.1) 3 ((rho i).2.2.2.2.1), kI cI ((rho i).1.2.2.2.2.2.1) 3 ((rho i).2.2.2.2.2.1), kI cI ((rho i).1.2.2.2.2.2.2.1) 64 ((rho i).2.2.2.2.2.2.1), kI cI ((rho i).1.2.2.2.2.2.2.2) 64 ((rho i).2.2.2.2.2.2.2), kX2 og o1 o2, kI cI o1 2400 s2_35, kI cI o2 4 d2_26] ++ RX cI rho i) H := hP
                  have hD : va_D A ([kX5 bk br (nI r9), kQ cR br 9 (fun k => some ((rho k).1.1)), kX0 fg f1 f2 f3 (nI n9) (nI v), kI cI f1 12 g1, kI cI f2 12 g2, kI cI f3 12 g3, kX4 ((rho i).1.1) ((rho i).2.1.1) ((rho i).1.2.1) ((rho i).1.2.2.2.2.2.1) ((rho i).1.2.2.2.2.2.2.1) ((rho i).1.2.2.2.2.2.2.2), kX0 ((rho i).1.2.1) ((rho i).1.2.2.1) ((rho i).1.2.2.2.1) ((rho i).1.2.2.2.2.1) ((rho i).2.1.2.1) ((rho i).2.1.2.2), kI cI ((rho i).1.2.2.1) 3 ((rho i).2.2.1), kI cI ((rho i).1.2.2.2.1) 3 ((rho i).2.2.2.1), kI cI ((rho i).1.2.2.2.2.1) 3 ((rho i).2.2.2.2.1), kI cI ((rho i).1.2.2.2.2.2.1) 3 ((rho i).2.2.2.2.2.1), kI cI ((rho i).1.2.2.2.2.2.2.1) 64 ((rho i).2.2.2.2.2.2.1), kI cI ((rho i).1.2.2.2.2.2.2.2) 64 ((rho i).2.2.2.2.2.2.2), kX2 og o1 o2, kI cI o1 2400 s2_35, kI cI o2 4 d2_26] ++ RX cI rho i) := hD
                  have hPD : PD D A ([kX5 bk br (nI r9), kQ cR br 9 (fun k => some ((rho k).1.1)), kX0 fg f1 f2 f3 (nI n9) (nI v), kI cI f1 12 g1, kI cI f2 12 g2, kI cI f3 12 g3, kX2 og o1 o2, kI cI o1 2400 s2_35, kI cI o2 4 d2_26, kX4 ((rho i).1.1) ((rho i).2.1.1) ((rho i).1.2.1) ((rho i).1.2.2.2.2.2.1) ((rho i).1.2.2.2.2.2.2.1) ((rho i).1.2.2.2.2.2.2.2), kX0 ((rho i).1.2.1) ((rho i).1.2.2.1) ((rho i).1.2.2.2.1) ((rho i).1.2.2.2.2.1) ((rho i).2.1.2.1) ((rho i).2.1.2.2), kI cI ((rho i).1.2.2.1) 3 ((rho i).2.2.1), kI cI ((rho i).1.2.2.2.1) 3 ((rho i).2.2.2.1), kI cI ((rho i).1.2.2.2.2.1) 3 ((rho i).2.2.2.2.1), kI cI ((rho i).1.2.2.2.2.2.1) 3 ((rho i).2.2.2.2.2.1), kI cI ((rho i).1.2.2.2.2.2.2.1) 64 ((rho i).2.2.2.2.2.2.1), kI cI ((rho i).1.2.2.2.2.2.2.2) 64 ((rho i).2.2.2.2.2.2.2)] ++ RX cI rho i) H := (PD.perm ⟨hP, hD⟩ (permB pm_29)).left
                  obtain ⟨hP, hD⟩ := unfocus0 (E := [kX5 bk br (nI r9), kQ cR br 9 (fun k => some ((rho k).1.1)), kX0 fg f1 f2 f3 (nI n9) (nI v), kI cI f1 12 g1, kI cI f2 12 g2, kI cI f3 12 g3, kX2 og o1 o2, kI cI o1 2400 s2_35, kI cI o2 4 d2_26]) i (by omega) hPD.1 hPD.2
                  have hP : va_P D vwCl ([kX5 bk br (nI r9), kQ cR br 9 (fun k => some ((rho k).1.1)), kX0 fg f1 f2 f3 (nI n9) (nI v), kI cI f1 12 g1, kI cI f2 12 g2, kI cI f3 12 g3, kX2 og o1 o2, kI cI o1 2400 s2_35, kI cI o2 4 d2_26] ++ RB cI rho) H := hP
                  have hD : va_D A ([kX5 bk br (nI r9), kQ cR br 9 (fun k => some ((rho k).1.1)), kX0 fg f1 f2 f3 (nI n9) (nI v), kI cI f1 12 g1, kI cI f2 12 g2, kI cI f3 12 g3, kX2 og o1 o2, kI cI o1 2400 s2_35, kI cI o2 4 d2_26] ++ RB cI rho) := hD
                  refine lv_iinc (v := nI (i + 1)) (lv' := [(9, .int (nI (i + 1))), (6, .int (bg ||| r_32)), (10, .ref ((rho i).1.1)), (0, .ref og), (1, .ref fg), (2, .int (nI b)), (3, .ref bk), (4, .int 0), (5, .int (nI (zpc b))), (7, .int (nI so)), (8, .int (nI ta))]) hx hb dX2_improve_139 hl (k := 10) rfl (nI_1 i) (by decide) rfl (fun ls hl => ?_)
                  refine lv_goto (tgt := 76) hx hb dX2_improve_142 (by decide) ?_
                  have hPD : PD D A ([kX2 og o1 o2, kI cI o1 2400 s2_35, kI cI o2 4 d2_26, kX0 fg f1 f2 f3 (nI n9) (nI v), kI cI f1 12 g1, kI cI f2 12 g2, kI cI f3 12 g3, kX5 bk br (nI r9), kQ cR br 9 (fun k => some ((rho k).1.1))] ++ RB cI rho) H := (PD.perm ⟨hP, hD⟩ (permB pm_30)).left
                  exact ih_76 (i + 1) (bg ||| r_32) s2_35 d2_26 (by omega) (or01 hbe3 hr01) hC4 hI4 hs9 ⟨by rw [hd1]; exact hd0.1, by rw [hd2]; exact hd0.2⟩ _ _ _ hPD.1 hPD.2 hS (lv_sub hl [3, 4, 5, 6, 7, 8, 1, 9, 10, 0] rfl)
            have hPD : PD D A ([kX2 og o1 o2, kI cI o1 2400 sb, kI cI o2 4 (upd (upd db 0 (nI so)) 1 (nI ta)), kX0 fg f1 f2 f3 (nI n9) (nI v), kI cI f1 12 g1, kI cI f2 12 g2, kI cI f3 12 g3, kX5 bk br (nI r9), kQ cR br 9 (fun k => some ((rho k).1.1))] ++ RB cI rho) H := (PD.perm ⟨hP, hD⟩ (permB pm_31)).left
            exact LOOP_76 r9 0 bf sb (upd (upd db 0 (nI so)) 1 (nI ta)) (by omega) hbe2 hC2 hI2 (SDn_s (SDn_s SDn_0 (by omega)) (by omega)) ⟨by rw [pk_un (by decide), pk_us, tn_nI (by omega)], by rw [pk_us, tn_nI (by omega)]⟩ _ _ _ hPD.1 hPD.2 hS (lv_sub hl [1, 2, 3, 4, 5, 6, 7, 8, 9, 0] rfl)
          · skip
            refine lv_goto (tgt := 145) hx hb dX2_improve_54 (by decide) ?_
            refine lv_iinc (v := nI (ta + 1)) (lv' := [(8, .int (nI (ta + 1))), (0, .ref og), (1, .ref fg), (2, .int (nI b)), (3, .ref bk), (4, .int 0), (5, .int (nI (zpc b))), (6, .int bf), (7, .int (nI so))]) hx hb dX2_improve_145 hl (k := 8) rfl (nI_1 ta) (by decide) rfl (fun ls hl => ?_)
            refine lv_goto (tgt := 33) hx hb dX2_improve_148 (by decide) ?_
            have hPD : PD D A ([kX2 og o1 o2, kI cI o1 2400 sb, kI cI o2 4 db, kX0 fg f1 f2 f3 (nI n9) (nI v), kI cI f1 12 g1, kI cI f2 12 g2, kI cI f3 12 g3, kX5 bk br (nI r9), kQ cR br 9 (fun k => some ((rho k).1.1))] ++ RB cI rho) H := (PD.perm ⟨hP, hD⟩ (permB pm_31)).left
            exact ih_33 (ta + 1) bf sb db (by omega) hbe2 hC2 (IMI_u (hYP.no c_14) hI2) _ _ _ hPD.1 hPD.2 hS (lv_sub hl [1, 2, 3, 4, 5, 6, 7, 8, 0] rfl)
      have hPD : PD D A ([kX2 og o1 o2, kI cI o1 2400 sa, kI cI o2 4 da, kX0 fg f1 f2 f3 (nI n9) (nI v), kI cI f1 12 g1, kI cI f2 12 g2, kI cI f3 12 g3, kX5 bk br (nI r9), kQ cR br 9 (fun k => some ((rho k).1.1))] ++ RB cI rho) H := (PD.perm ⟨hP, hD⟩ (permB pm_19)).left
      exact LOOP_33 v 0 be sa da (by omega) hbe hC hI _ _ _ hPD.1 hPD.2 hS (lv_sub hl [1, 2, 3, 4, 5, 6, 7, 8, 0] rfl)
  have hPD : PD D A ([kX2 og o1 o2, kI cI o1 2400 sf, kI cI o2 4 sd, kX0 fg f1 f2 f3 (nI n9) (nI v), kI cI f1 12 g1, kI cI f2 12 g2, kI cI f3 12 g3, kX5 bk br (nI r9), kQ cR br 9 (fun k => some ((rho k).1.1))] ++ RB cI rho) H := (PD.perm ⟨hP, hD⟩ (permB pm_19)).left
  exact LOOP_21 v 0 0 sf sd (by omega) (Or.inl rfl) (fun _ => rfl) (IMI_0 hT hSo) _ _ _ hPD.1 hPD.2 hS (lv_sub hl [3, 4, 5, 6, 7, 2, 1, 0] rfl)
set_option maxHeartbeats 4000000 in
set_option maxRecDepth 100000 in
theorem g_improve_1 (sz : Nat) (og : Nat) (o1 : Nat) (o2 : Nat) (fg : Nat) (f1 : Nat) (f2 : Nat) (f3 : Nat) (n9 : Nat) (v : Nat) (bk : Nat) (br : Nat) (r9 : Nat) (sf : Nat → Int32) (sd : Nat → Int32) (g1 : Nat → Int32) (g2 : Nat → Int32) (g3 : Nat → Int32) (rho : Nat → RT) (b : Nat) (hn5 : n9 ≤ 5) (hv5 : v ≤ 5) (hG : GI n9 v g1 g2 g3) (hr : r9 ≤ 9) (hRQ : RRQ rho r9) (hT : TBI sf) (hSo : zSo (gC n9 v g1 g2 g3) (rC rho r9) (tbl sf)) (hb32 : b < 32) : CTi l D cI cJ cZ cR yX2_improve cX2_improve 11 (some .boolean) 4 110 0 0 sz [.ref og, .ref fg, .int (nI b), .ref bk, .int 1] ([kX2 og o1 o2, kI cI o1 2400 sf, kI cI o2 4 sd, kX0 fg f1 f2 f3 (nI n9) (nI v), kI cI f1 12 g1, kI cI f2 12 g2, kI cI f3 12 g3, kX5 bk br (nI r9), kQ cR br 9 (fun k => some ((rho k).1.1))] ++ RB cI rho) (fun (r : Int32) (u : (Nat → Int32) × (Nat → Int32)) => (r = 0 ∨ r = 1) ∧ (r = 0 → u.1 = sf) ∧ (IME (gC n9 v g1 g2 g3) (rC rho r9) sf u.1 b 1)) (fun (u : (Nat → Int32) × (Nat → Int32)) => ([kX2 og o1 o2, kI cI o1 2400 u.1, kI cI o2 4 u.2, kX0 fg f1 f2 f3 (nI n9) (nI v), kI cI f1 12 g1, kI cI f2 12 g2, kI cI f3 12 g3, kX5 bk br (nI r9), kQ cR br 9 (fun k => some ((rho k).1.1))] ++ RB cI rho)) := by
  refine CTi.of (ty := .boolean) (by decide) (Nat.le_of_ble_eq_true rfl) rfl ?_
  intro p e s m below meth c A Q ls hd hin hK hsz hP hD hA hS hl hret
  obtain ⟨hx, hb, hml, hown, hts⟩ := id hd
  have hK1 := hK.1
  have hown : s.vm.findClass RX2 = some m.cls := hown
  have hl : lv_has ls 11 [(0, .ref og), (1, .ref fg), (2, .int (nI b)), (3, .ref bk), (4, .int 1)] := hl
  have hF9 : zF9 = 536870912 := rfl
  have hpc5 : zpc b ≤ 5 := zpc_le (n := 5) (by decide) hb32
  refine lv_iload hx hb dX2_improve_0 (lv_at hl 4 rfl) ?_
  refine lv_if_eq (tgt := 9) hx hb dX2_improve_2 (by decide) (fun c_1 => ?_) (fun c_1 => ?_)
  · exact absurd c_1 (by decide)
  refine lv_iconst (v := 1) hx hb dX2_improve_5 (by decide) ?_
  refine lv_goto (tgt := 13) hx hb dX2_improve_6 (by decide) ?_
  refine lv_istore (lv' := [(5, .int 1), (0, .ref og), (1, .ref fg), (2, .int (nI b)), (3, .ref bk), (4, .int 1)]) hx hb dX2_improve_13 hl (by decide) rfl (fun ls hl => ?_)
  refine lv_iconst (v := 0) hx hb dX2_improve_15 (by decide) ?_
  refine lv_istore (lv' := [(6, .int 0), (5, .int 1), (0, .ref og), (1, .ref fg), (2, .int (nI b)), (3, .ref bk), (4, .int 1)]) hx hb dX2_improve_16 hl (by decide) rfl (fun ls hl => ?_)
  refine lv_iconst (v := 0) hx hb dX2_improve_18 (by decide) ?_
  refine lv_istore (lv' := [(7, .int 0), (6, .int 0), (5, .int 1), (0, .ref og), (1, .ref fg), (2, .int (nI b)), (3, .ref bk), (4, .int 1)]) hx hb dX2_improve_19 hl (by decide) rfl (fun ls hl => ?_)
  have LOOP_21 : ∀ (n : Nat) (so : Nat) (be : Int32) (sa : Nat → Int32) (da : Nat → Int32), (so + n = v) → (be = 0 ∨ be = 1) → (be = 0 → sa = sf) → (IMI (gC n9 v g1 g2 g3) (rC rho r9) sf sa b 1 so 0 0) → ∀ (H : Heap) (locs : List Loc) (ls : Array Slot), va_P D vwCl ([kX2 og o1 o2, kI cI o1 2400 sa, kI cI o2 4 da, kX0 fg f1 f2 f3 (nI n9) (nI v), kI cI f1 12 g1, kI cI f2 12 g2, kI cI f3 12 g3, kX5 bk br (nI r9), kQ cR br 9 (fun k => some ((rho k).1.1))] ++ RB cI rho) H → va_D A ([kX2 og o1 o2, kI cI o1 2400 sa, kI cI o2 4 da, kX0 fg f1 f2 f3 (nI n9) (nI v), kI cI f1 12 g1, kI cI f2 12 g2, kI cI f3 12 g3, kX5 bk br (nI r9), kQ cR br 9 (fun k => some ((rho k).1.1))] ++ RB cI rho) → va_S A s.heap H locs → lv_has ls 11 [(0, .ref og), (1, .ref fg), (2, .int (nI b)), (3, .ref bk), (4, .int 1), (5, .int 1), (6, .int be), (7, .int (nI so))] → W p l e (rM 4 0 0 110) s m ([.ref og, .ref fg, .int (nI b), .ref bk, .int 1] : List Value).toArray below meth c H locs 0 0 Q (F0 m 21 ls []) := by
    intro n
    induction n with
    | zero =>
      intro so be sa da hso hbe hC hI H locs ls hP hD hS hl
      refine lv_iload hx hb dX2_improve_21 (lv_at hl 7 rfl) ?_
      refine lv_aload_n hx hb dX2_improve_23 rfl (lv_at hl 1 rfl) ?_
      refine va_get (D := D) (ci := 0) (v := .int (nI v)) (C := RX0) (T := TX0) (N := 5) hx hb hts iT_X0 hown hK1 hP 3 rfl rfl 4 (by decide) (hts _ t_66) (fun _ h9 => h9) rfl dX2_improve_24 ?_
      refine lv_icmp_ge (tgt := 157) hx hb dX2_improve_27 (by decide) (fun c_2 => ?_) (fun c_2 => ?_)
      rotate_left
      · exact absurd (nI_le (a := v) (b := so) (by omega) (by omega)) c_2
      refine lv_iload hx hb dX2_improve_157 (lv_at hl 6 rfl) ?_
      have hPD : PD D A ([kX2 og o1 o2, kI cI o1 2400 sa, kI cI o2 4 da, kX0 fg f1 f2 f3 (nI n9) (nI v), kI cI f1 12 g1, kI cI f2 12 g2, kI cI f3 12 g3, kX5 bk br (nI r9), kQ cR br 9 (fun k => some ((rho k).1.1))] ++ RB cI rho) H := (PD.perm ⟨hP, hD⟩ (permB pm_19)).left
      exact hret _ _ _ _ _ _ be (sa, da) dX2_improve_159 (nar_01 hbe) hS (Nat.le_of_ble_eq_true rfl) (Nat.le_of_ble_eq_true rfl) ⟨hbe, hC, IMI_e hG hv5 (by omega) hI⟩ hPD.1 hPD.2
    | succ n ih_21 =>
      intro so be sa da hso hbe hC hI H locs ls hP hD hS hl
      refine lv_iload hx hb dX2_improve_21 (lv_at hl 7 rfl) ?_
      refine lv_aload_n hx hb dX2_improve_23 rfl (lv_at hl 1 rfl) ?_
      refine va_get (D := D) (ci := 0) (v := .int (nI v)) (C := RX0) (T := TX0) (N := 5) hx hb hts iT_X0 hown hK1 hP 3 rfl rfl 4 (by decide) (hts _ t_66) (fun _ h9 => h9) rfl dX2_improve_24 ?_
      refine lv_icmp_ge (tgt := 157) hx hb dX2_improve_27 (by decide) (fun c_3 => ?_) (fun c_3 => ?_)
      · exact absurd c_3 (nI_ge (a := so) (b := v) (by omega) (by omega))
      refine lv_iconst (v := 0) hx hb dX2_improve_30 (by decide) ?_
      refine lv_istore (lv' := [(8, .int 0), (0, .ref og), (1, .ref fg), (2, .int (nI b)), (3, .ref bk), (4, .int 1), (5, .int 1), (6, .int be), (7, .int (nI so))]) hx hb dX2_improve_31 hl (by decide) rfl (fun ls hl => ?_)
      have LOOP_33 : ∀ (n : Nat) (ta : Nat) (bf : Int32) (sb : Nat → Int32) (db : Nat → Int32), (ta + n = v) → (bf = 0 ∨ bf = 1) → (bf = 0 → sb = sf) → (IMI (gC n9 v g1 g2 g3) (rC rho r9) sf sb b 1 so ta 0) → ∀ (H : Heap) (locs : List Loc) (ls : Array Slot), va_P D vwCl ([kX2 og o1 o2, kI cI o1 2400 sb, kI cI o2 4 db, kX0 fg f1 f2 f3 (nI n9) (nI v), kI cI f1 12 g1, kI cI f2 12 g2, kI cI f3 12 g3, kX5 bk br (nI r9), kQ cR br 9 (fun k => some ((rho k).1.1))] ++ RB cI rho) H → va_D A ([kX2 og o1 o2, kI cI o1 2400 sb, kI cI o2 4 db, kX0 fg f1 f2 f3 (nI n9) (nI v), kI cI f1 12 g1, kI cI f2 12 g2, kI cI f3 12 g3, kX5 bk br (nI r9), kQ cR br 9 (fun k => some ((rho k).1.1))] ++ RB cI rho) → va_S A s.heap H locs → lv_has ls 11 [(0, .ref og), (1, .ref fg), (2, .int (nI b)), (3, .ref bk), (4, .int 1), (5, .int 1), (6, .int bf), (7, .int (nI so)), (8, .int (nI ta))] → W p l e (rM 4 0 0 110) s m ([.ref og, .ref fg, .int (nI b), .ref bk, .int 1] : List Value).toArray below meth c H locs 0 0 Q (F0 m 33 ls []) := by
        intro n
        induction n with
        | zero =>
          intro ta bf sb db hta hbe2 hC2 hI2 H locs ls hP hD hS hl
          refine lv_iload hx hb dX2_improve_33 (lv_at hl 8 rfl) ?_
          refine lv_aload_n hx hb dX2_improve_35 rfl (lv_at hl 1 rfl) ?_
          refine va_get (D := D) (ci := 0) (v := .int (nI v)) (C := RX0) (T := TX0) (N := 5) hx hb hts iT_X0 hown hK1 hP 3 rfl rfl 4 (by decide) (hts _ t_66) (fun _ h9 => h9) rfl dX2_improve_36 ?_
          refine lv_icmp_ge (tgt := 151) hx hb dX2_improve_39 (by decide) (fun c_4 => ?_) (fun c_4 => ?_)
          rotate_left
          · exact absurd (nI_le (a := v) (b := ta) (by omega) (by omega)) c_4
          refine lv_iinc (v := nI (so + 1)) (lv' := [(7, .int (nI (so + 1))), (0, .ref og), (1, .ref fg), (2, .int (nI b)), (3, .ref bk), (4, .int 1), (5, .int 1), (6, .int bf), (8, .int (nI ta))]) hx hb dX2_improve_151 hl (k := 7) rfl (nI_1 so) (by decide) rfl (fun ls hl => ?_)
          refine lv_goto (tgt := 21) hx hb dX2_improve_154 (by decide) ?_
          have hPD : PD D A ([kX2 og o1 o2, kI cI o1 2400 sb, kI cI o2 4 db, kX0 fg f1 f2 f3 (nI n9) (nI v), kI cI f1 12 g1, kI cI f2 12 g2, kI cI f3 12 g3, kX5 bk br (nI r9), kQ cR br 9 (fun k => some ((rho k).1.1))] ++ RB cI rho) H := (PD.perm ⟨hP, hD⟩ (permB pm_19)).left
          exact ih_21 (so + 1) bf sb db (by omega) hbe2 hC2 (IMI_s hG hv5 (by omega) hI2) _ _ _ hPD.1 hPD.2 hS (lv_sub hl [1, 2, 3, 4, 5, 6, 7, 0] rfl)
        | succ n ih_33 =>
          intro ta bf sb db hta hbe2 hC2 hI2 H locs ls hP hD hS hl
          refine lv_iload hx hb dX2_improve_33 (lv_at hl 8 rfl) ?_
          refine lv_aload_n hx hb dX2_improve_35 rfl (lv_at hl 1 rfl) ?_
          refine va_get (D := D) (ci := 0) (v := .int (nI v)) (C := RX0) (T := TX0) (N := 5) hx hb hts iT_X0 hown hK1 hP 3 rfl rfl 4 (by decide) (hts _ t_66) (fun _ h9 => h9) rfl dX2_improve_36 ?_
          refine lv_icmp_ge (tgt := 151) hx hb dX2_improve_39 (by decide) (fun c_5 => ?_) (fun c_5 => ?_)
          · exact absurd c_5 (nI_ge (a := ta) (b := v) (by omega) (by omega))
          refine lv_aload_n hx hb dX2_improve_42 rfl (lv_at hl 1 rfl) ?_
          refine lv_iload_n hx hb dX2_improve_43 rfl (lv_at hl 2 rfl) ?_
          refine lv_iload hx hb dX2_improve_44 (lv_at hl 7 rfl) ?_
          refine lv_iload hx hb dX2_improve_46 (lv_at hl 8 rfl) ?_
          have hPD : PD D A ([kX0 fg f1 f2 f3 (nI n9) (nI v), kI cI f1 12 g1, kI cI f2 12 g2, kI cI f3 12 g3] ++ ([kX2 og o1 o2, kI cI o1 2400 sb, kI cI o2 4 db, kX5 bk br (nI r9), kQ cR br 9 (fun k => some ((rho k).1.1))] ++ RB cI rho)) H := PD.perm ⟨hP, hD⟩ (permA pm_24)
          refine xp_i (wc := [kX0 fg f1 f2 f3 (nI n9) (nI v), kI cI f1 12 g1, kI cI f2 12 g2, kI cI f3 12 g3]) (wr := ([kX2 og o1 o2, kI cI o1 2400 sb, kI cI o2 4 db, kX5 bk br (nI r9), kQ cR br 9 (fun k => some ((rho k).1.1))] ++ RB cI rho)) (xqV (n := 3) (As := [.int (nI b), .int (nI so), .int (nI ta)]) (rest := []) (ci := 0) (q0 := 0) hd hK hPD.left (c_X0_isPart l D cI cJ cZ cR _ fg f1 f2 f3 12 n9 v b so ta g1 g2 g3 (by decide) (by omega) hn5 hv5 hG hb32 (by omega) (by omega)) (gV t_402 mV_X0_isPart) hV_X0_isPart ⟨(Nat.le_of_ble_eq_true rfl), (Nat.le_of_ble_eq_true rfl)⟩ rfl rfl rfl hl.1 rfl (Nat.le_of_ble_eq_true rfl) dX2_improve_48 ⟨(Nat.le_of_ble_eq_true rfl), (Nat.le_of_ble_eq_true rfl)⟩) hPD hS hA (fun r_6 u_7 H locs hw_8 hPD hS => ?_)
          have hw_9 : YN r_6 (zP (gC n9 v g1 g2 g3) b so ta) := hw_8
          have hYP := hw_9
          obtain ⟨hP, hD⟩ := hPD.perm permA'
          have hP : va_P D vwCl ([kX2 og o1 o2, kI cI o1 2400 sb, kI cI o2 4 db, kX5 bk br (nI r9), kQ cR br 9 (fun k => some ((rho k).1.1)), kX0 fg f1 f2 f3 (nI n9) (nI v), kI cI f1 12 g1, kI cI f2 12 g2, kI cI f3 12 g3] ++ RB cI rho) H := hP
          have hD : va_D A ([kX2 og o1 o2, kI cI o1 2400 sb, kI cI o2 4 db, kX5 bk br (nI r9), kQ cR br 9 (fun k => some ((rho k).1.1)), kX0 fg f1 f2 f3 (nI n9) (nI v), kI cI f1 12 g1, kI cI f2 12 g2, kI cI f3 12 g3] ++ RB cI rho) := hD
          refine lv_if_ne (tgt := 57) hx hb dX2_improve_51 (by decide) (fun c_10 => ?_) (fun c_10 => ?_)
          · skip
            have hP9 := hYP.of c_10
            refine lv_aload_n hx hb dX2_improve_57 rfl (lv_at hl 0 rfl) ?_
            refine va_get (D := D) (ci := 2) (v := .ref o2) (C := RX2) (T := TX2) (N := 2) hx hb hts iT_X2 hown hK1 hP 0 rfl rfl 1 (by decide) (hts _ t_124) (fun _ h9 => h9) rfl dX2_improve_58 ?_
            refine lv_iconst (v := 0) hx hb dX2_improve_61 (by decide) ?_
            refine lv_iload hx hb dX2_improve_62 (lv_at hl 7 rfl) ?_
            refine va_iast hx hb hK1 hP hD hS 2 0 rfl rfl (vin (by decide)) dX2_improve_64 (fun H locs hP hD hS => ?_)
            have hP : va_P D vwCl ([kX2 og o1 o2, kI cI o1 2400 sb, kI cI o2 4 (upd db 0 (nI so)), kX5 bk br (nI r9), kQ cR br 9 (fun k => some ((rho k).1.1)), kX0 fg f1 f2 f3 (nI n9) (nI v), kI cI f1 12 g1, kI cI f2 12 g2, kI cI f3 12 g3] ++ RB cI rho) H := hP
            have hD : va_D A ([kX2 og o1 o2, kI cI o1 2400 sb, kI cI o2 4 (upd db 0 (nI so)), kX5 bk br (nI r9), kQ cR br 9 (fun k => some ((rho k).1.1)), kX0 fg f1 f2 f3 (nI n9) (nI v), kI cI f1 12 g1, kI cI f2 12 g2, kI cI f3 12 g3] ++ RB cI rho) := hD
            refine lv_aload_n hx hb dX2_improve_65 rfl (lv_at hl 0 rfl) ?_
            refine va_get (D := D) (ci := 2) (v := .ref o2) (C := RX2) (T := TX2) (N := 2) hx hb hts iT_X2 hown hK1 hP 0 rfl rfl 1 (by decide) (hts _ t_124) (fun _ h9 => h9) rfl dX2_improve_66 ?_
            refine lv_iconst (v := 1) hx hb dX2_improve_69 (by decide) ?_
            refine lv_iload hx hb dX2_improve_70 (lv_at hl 8 rfl) ?_
            refine va_iast hx hb hK1 hP hD hS 2 0 rfl rfl (vin (by decide)) dX2_improve_72 (fun H locs hP hD hS => ?_)
            have hP : va_P D vwCl ([kX2 og o1 o2, kI cI o1 2400 sb, kI cI o2 4 (upd (upd db 0 (nI so)) 1 (nI ta)), kX5 bk br (nI r9), kQ cR br 9 (fun k => some ((rho k).1.1)), kX0 fg f1 f2 f3 (nI n9) (nI v), kI cI f1 12 g1, kI cI f2 12 g2, kI cI f3 12 g3] ++ RB cI rho) H := hP
            have hD : va_D A ([kX2 og o1 o2, kI cI o1 2400 sb, kI cI o2 4 (upd (upd db 0 (nI so)) 1 (nI ta)), kX5 bk br (nI r9), kQ cR br 9 (fun k => some ((rho k).1.1)), kX0 fg f1 f2 f3 (nI n9) (nI v), kI cI f1 12 g1, kI cI f2 12 g2, kI cI f3 12 g3] ++ RB cI rho) := hD
            refine lv_iconst (v := 0) hx hb dX2_improve_73 (by decide) ?_
            refine lv_istore (lv' := [(9, .int 0), (0, .ref og), (1, .ref fg), (2, .int (nI b)), (3, .ref bk), (4, .int 1), (5, .int 1), (6, .int bf), (7, .int (nI so)), (8, .int (nI ta))]) hx hb dX2_improve_74 hl (by decide) rfl (fun ls hl => ?_)
            have LOOP_76 : ∀ (n : Nat) (i : Nat) (bg : Int32) (sc : Nat → Int32) (dc : Nat → Int32), (i + n = r9) → (bg = 0 ∨ bg = 1) → (bg = 0 → sc = sf) → (IMI (gC n9 v g1 g2 g3) (rC rho r9) sf sc b 1 so ta i) → (SDn 2 dc) → (tn (dc 0) = so ∧ tn (dc 1) = ta) → ∀ (H : Heap) (locs : List Loc) (ls : Array Slot), va_P D vwCl ([kX2 og o1 o2, kI cI o1 2400 sc, kI cI o2 4 dc, kX0 fg f1 f2 f3 (nI n9) (nI v), kI cI f1 12 g1, kI cI f2 12 g2, kI cI f3 12 g3, kX5 bk br (nI r9), kQ cR br 9 (fun k => some ((rho k).1.1))] ++ RB cI rho) H → va_D A ([kX2 og o1 o2, kI cI o1 2400 sc, kI cI o2 4 dc, kX0 fg f1 f2 f3 (nI n9) (nI v), kI cI f1 12 g1, kI cI f2 12 g2, kI cI f3 12 g3, kX5 bk br (nI r9), kQ cR br 9 (fun k => some ((rho k).1.1))] ++ RB cI rho) → va_S A s.heap H locs → lv_has ls 11 [(0, .ref og), (1, .ref fg), (2, .int (nI b)), (3, .ref bk), (4, .int 1), (5, .int 1), (6, .int bg), (7, .int (nI so)), (8, .int (nI ta)), (9, .int (nI i))] → W p l e (rM 4 0 0 110) s m ([.ref og, .ref fg, .int (nI b), .ref bk, .int 1] : List Value).toArray below meth c H locs 0 0 Q (F0 m 76 ls []) := by
              intro n
              induction n with
              | zero =>
                intro i bg sc dc hi hbe3 hC3 hI3 hs2 hd0 H locs ls hP hD hS hl
                refine lv_iload hx hb dX2_improve_76 (lv_at hl 9 rfl) ?_
                refine lv_aload_n hx hb dX2_improve_78 rfl (lv_at hl 3 rfl) ?_
                refine va_get (D := D) (ci := 5) (v := .int (nI r9)) (C := RX5) (T := TX5) (N := 2) hx hb hts iT_X5 hown hK1 hP 7 rfl rfl 1 (by decide) (hts _ t_109) (fun _ h9 => h9) rfl dX2_improve_79 ?_
                refine lv_icmp_ge (tgt := 145) hx hb dX2_improve_82 (by decide) (fun c_11 => ?_) (fun c_11 => ?_)
                rotate_left
                · exact absurd (nI_le (a := r9) (b := i) (by omega) (by omega)) c_11
                refine lv_iinc (v := nI (ta + 1)) (lv' := [(8, .int (nI (ta + 1))), (0, .ref og), (1, .ref fg), (2, .int (nI b)), (3, .ref bk), (4, .int 1), (5, .int 1), (6, .int bg), (7, .int (nI so)), (9, .int (nI i))]) hx hb dX2_improve_145 hl (k := 8) rfl (nI_1 ta) (by decide) rfl (fun ls hl => ?_)
                refine lv_goto (tgt := 33) hx hb dX2_improve_148 (by decide) ?_
                have hPD : PD D A ([kX2 og o1 o2, kI cI o1 2400 sc, kI cI o2 4 dc, kX0 fg f1 f2 f3 (nI n9) (nI v), kI cI f1 12 g1, kI cI f2 12 g2, kI cI f3 12 g3, kX5 bk br (nI r9), kQ cR br 9 (fun k => some ((rho k).1.1))] ++ RB cI rho) H := (PD.perm ⟨hP, hD⟩ (permB pm_19)).left
                exact ih_33 (ta + 1) bg sc dc (by omega) hbe3 hC3 (IMI_t (show r9 ≤ i by omega) hI3) _ _ _ hPD.1 hPD.2 hS (lv_sub hl [1, 2, 3, 4, 5, 6, 7, 8, 0] rfl)
              | succ n ih_76 =>
                intro i bg sc dc hi hbe3 hC3 hI3 hs2 hd0 H locs ls hP hD hS hl
                refine lv_iload hx hb dX2_improve_76 (lv_at hl 9 rfl) ?_
                refine lv_aload_n hx hb dX2_improve_78 rfl (lv_at hl 3 rfl) ?_
                refine va_get (D := D) (ci := 5) (v := .int (nI r9)) (C := RX5) (T := TX5) (N := 2) hx hb hts iT_X5 hown hK1 hP 7 rfl rfl 1 (by decide) (hts _ t_109) (fun _ h9 => h9) rfl dX2_improve_79 ?_
                refine lv_icmp_ge (tgt := 145) hx hb dX2_improve_82 (by decide) (fun c_12 => ?_) (fun c_12 => ?_)
                · exact absurd c_12 (nI_ge (a := i) (b := r9) (by omega) (by omega))
                refine lv_aload_n hx hb dX2_improve_85 rfl (lv_at hl 3 rfl) ?_
                refine va_get (D := D) (ci := 5) (v := .ref br) (C := RX5) (T := TX5) (N := 2) hx hb hts iT_X5 hown hK1 hP 7 rfl rfl 0 (by decide) (hts _ t_104) (fun _ h9 => h9) rfl dX2_improve_86 ?_
                refine lv_iload hx hb dX2_improve_89 (lv_at hl 9 rfl) ?_
                refine va_aldq hx hb hK1 hP 8 3 rfl rfl (vp_in_nI (by omega) (by omega)) dX2_improve_91 ?_
                refine lv_nmr (show _ = Value.ref (rho i).1.1 from by rw [nI_clamp (n := i) (by omega)]; rfl) ?_
                refine lv_astore (lv' := [(10, .ref ((rho i).1.1)), (0, .ref og), (1, .ref fg), (2, .int (nI b)), (3, .ref bk), (4, .int 1), (5, .int 1), (6, .int bg), (7, .int (nI so)), (8, .int (nI ta)), (9, .int (nI i))]) hx hb dX2_improve_92 hl (by decide) rfl (fun ls hl => ?_)
                obtain ⟨hRJ, eo9, ho9⟩ := rC_rj hRQ (by omega : i < r9)
                have hS3 := hRJ.2.2.2.1
                obtain ⟨hP, hD⟩ := focus i (by omega) hP hD
                have hP : va_P D vwCl ([kX2 og o1 o2, kI cI o1 2400 sc, kI cI o2 4 dc, kX0 fg f1 f2 f3 (nI n9) (nI v), kI cI f1 12 g1, kI cI f2 12 g2, kI cI f3 12 g3, kX5 bk br (nI r9), kQ cR br 9 (fun k => some ((rho k).1.1)), kX4 ((rho i).1.1) ((rho i).2.1.1) ((rho i).1.2.1) ((rho i).1.2.2.2.2.2.1) ((rho i).1.2.2.2.2.2.2.1) ((rho i).1.2.2.2.2.2.2.2), kX0 ((rho i).1.2.1) ((rho i).1.2.2.1) ((rho i).1.2.2.2.1) ((rho i).1.2.2.2.2.1) ((rho i).2.1.2.1) ((rho i).2.1.2.2), kI cI ((rho i).1.2.2.1) 3 ((rho i).2.2.1), kI cI ((rho i).1.2.2.2.1) 3 ((rho i).2.2.2.1), kI cI ((rho i).1.2.2.2.2.1) 3 ((rho i).2.2.2.2.1), kI cI ((rho i).1.2.2.2.2.2.1) 3 ((rho i).2.2.2.2.2.1), kI cI ((rho i).1.2.2.2.2.2.2.1) 64 ((rho i).2.2.2.2.2.2.1), kI cI ((rho i).1.2.2.2.2.2.2.2) 64 ((rho i).2.2.2.2.2.2.2)] ++ RX cI rho i) H := hP
                have hD : va_D A ([kX2 og o1 o2, kI cI o1 2400 sc, kI cI o2 4 dc, kX0 fg f1 f2 f3 (nI n9) (nI v), kI cI f1 12 g1, kI cI f2 12 g2, kI cI f3 12 g3, kX5 bk br (nI r9), kQ cR br 9 (fun k => some ((rho k).1.1)), kX4 ((rho i).1.1) ((rho i).2.1.1) ((rho i).1.2.1) ((rho i).1.2.2.2.2.2.1) ((rho i).1.2.2.2.2.2.2.1) ((rho i).1.2.2.2.2.2.2.2), kX0 ((rho i).1.2.1) ((rho i).1.2.2.1) ((rho i).1.2.2.2.1) ((rho i).1.2.2.2.2.1) ((rho i).2.1.2.1) ((rho i).2.1.2.2), kI cI ((rho i).1.2.2.1) 3 ((rho i).2.2.1), kI cI ((rho i).1.2.2.2.1) 3 ((rho i).2.2.2.1), kI cI ((rho i).1.2.2.2.2.1) 3 ((rho i).2.2.2.2.1), kI cI ((rho i).1.2.2.2.2.2.1) 3 ((rho i).2.2.2.2.2.1), kI cI ((rho i).1.2.2.2.2.2.2.1) 64 ((rho i).2.2.2.2.2.2.1), kI cI ((rho i).1.2.2.2.2.2.2.2) 64 ((rho i).2.2.2.2.2.2.2)] ++ RX cI rho i) := hD
                rw [eo9] at hP hD
                have hP : va_P D vwCl ([kX2 og o1 o2, kI cI o1 2400 sc, kI cI o2 4 dc, kX0 fg f1 f2 f3 (nI n9) (nI v), kI cI f1 12 g1, kI cI f2 12 g2, kI cI f3 12 g3, kX5 bk br (nI r9), kQ cR br 9 (fun k => some ((rho k).1.1)), kX4 ((rho i).1.1) (nI (yO (rC rho r9) i)) ((rho i).1.2.1) ((rho i).1.2.2.2.2.2.1) ((rho i).1.2.2.2.2.2.2.1) ((rho i).1.2.2.2.2.2.2.2), kX0 ((rho i).1.2.1) ((rho i).1.2.2.1) ((rho i).1.2.2.2.1) ((rho i).1.2.2.2.2.1) ((rho i).2.1.2.1) ((rho i).2.1.2.2), kI cI ((rho i).1.2.2.1) 3 ((rho i).2.2.1), kI cI ((rho i).1.2.2.2.1) 3 ((rho i).2.2.2.1), kI cI ((rho i).1.2.2.2.2.1) 3 ((rho i).2.2.2.2.1), kI cI ((rho i).1.2.2.2.2.2.1) 3 ((rho i).2.2.2.2.2.1), kI cI ((rho i).1.2.2.2.2.2.2.1) 64 ((rho i).2.2.2.2.2.2.1), kI cI ((rho i).1.2.2.2.2.2.2.2) 64 ((rho i).2.2.2.2.2.2.2)] ++ RX cI rho i) H := hP
                have hD : va_D A ([kX2 og o1 o2, kI cI o1 2400 sc, kI cI o2 4 dc, kX0 fg f1 f2 f3 (nI n9) (nI v), kI cI f1 12 g1, kI cI f2 12 g2, kI cI f3 12 g3, kX5 bk br (nI r9), kQ cR br 9 (fun k => some ((rho k).1.1)), kX4 ((rho i).1.1) (nI (yO (rC rho r9) i)) ((rho i).1.2.1) ((rho i).1.2.2.2.2.2.1) ((rho i).1.2.2.2.2.2.2.1) ((rho i).1.2.2.2.2.2.2.2), kX0 ((rho i).1.2.1) ((rho i).1.2.2.1) ((rho i).1.2.2.2.1) ((rho i).1.2.2.2.2.1) ((rho i).2.1.2.1) ((rho i).2.1.2.2), kI cI ((rho i).1.2.2.1) 3 ((rho i).2.2.1), kI cI ((rho i).1.2.2.2.1) 3 ((rho i).2.2.2.1), kI cI ((rho i).1.2.2.2.2.1) 3 ((rho i).2.2.2.2.1), kI cI ((rho i).1.2.2.2.2.2.1) 3 ((rho i).2.2.2.2.2.1), kI cI ((rho i).1.2.2.2.2.2.2.1) 64 ((rho i).2.2.2.2.2.2.1), kI cI ((rho i).1.2.2.2.2.2.2.2) 64 ((rho i).2.2.2.2.2.2.2)] ++ RX cI rho i) := hD
                refine lv_aload hx hb dX2_improve_94 (lv_at hl 0 rfl) ?_
                refine va_get (D := D) (ci := 4) (v := .ref ((rho i).1.2.1)) (C := RX4) (T := TX4) (N := 5) hx hb hts iT_X4 hown hK1 hP 9 rfl rfl 1 (by decide) (hts _ t_84) (fun _ h9 => h9) rfl dX2_improve_96 ?_
                refine va_get (D := D) (ci := 0) (v := .int ((rho i).2.1.2.1)) (C := RX0) (T := TX0) (N := 5) hx hb hts iT_X0 hown hK1 hP 10 rfl rfl 3 (by decide) (hts _ t_63) (fun _ h9 => h9) rfl dX2_improve_99 ?_
                refine lv_nmi (show _ = (nI (yS (rC rho r9) i) : Int32) from hRJ.1) ?_
                refine lv_iload hx hb dX2_improve_102 (lv_at hl 6 rfl) ?_
                refine lv_icmp_gt (tgt := 139) hx hb dX2_improve_104 (by decide) (fun c_13 => ?_) (fun c_13 => ?_)
                · skip
                  rw [← eo9] at hP hD
                  have hP : va_P D vwCl ([kX2 og o1 o2, kI cI o1 2400 sc, kI cI o2 4 dc, kX0 fg f1 f2 f3 (nI n9) (nI v), kI cI f1 12 g1, kI cI f2 12 g2, kI cI f3 12 g3, kX5 bk br (nI r9), kQ cR br 9 (fun k => some ((rho k).1.1)), kX4 ((rho i).1.1) ((rho i).2.1.1) ((rho i).1.2.1) ((rho i).1.2.2.2.2.2.1) ((rho i).1.2.2.2.2.2.2.1) ((rho i).1.2.2.2.2.2.2.2), kX0 ((rho i).1.2.1) ((rho i).1.2.2.1) ((rho i).1.2.2.2.1) ((rho i).1.2.2.2.2.1) ((rho i).2.1.2.1) ((rho i).2.1.2.2), kI cI ((rho i).1.2.2.1) 3 ((rho i).2.2.1), kI cI ((rho i).1.2.2.2.1) 3 ((rho i).2.2.2.1), kI cI ((rho i).1.2.2.2.2.1) 3 ((rho i).2.2.2.2.1), kI cI ((rho i).1.2.2.2.2.2.1) 3 ((rho i).2.2.2.2.2.1), kI cI ((rho i).1.2.2.2.2.2.2.1) 64 ((rho i).2.2.2.2.2.2.1), kI cI ((rho i).1.2.2.2.2.2.2.2) 64 ((rho i).2.2.2.2.2.2.2)] ++ RX cI rho i) H := hP
                  have hD : va_D A ([kX2 og o1 o2, kI cI o1 2400 sc, kI cI o2 4 dc, kX0 fg f1 f2 f3 (nI n9) (nI v), kI cI f1 12 g1, kI cI f2 12 g2, kI cI f3 12 g3, kX5 bk br (nI r9), kQ cR br 9 (fun k => some ((rho k).1.1)), kX4 ((rho i).1.1) ((rho i).2.1.1) ((rho i).1.2.1) ((rho i).1.2.2.2.2.2.1) ((rho i).1.2.2.2.2.2.2.1) ((rho i).1.2.2.2.2.2.2.2), kX0 ((rho i).1.2.1) ((rho i).1.2.2.1) ((rho i).1.2.2.2.1) ((rho i).1.2.2.2.2.1) ((rho i).2.1.2.1) ((rho i).2.1.2.2), kI cI ((rho i).1.2.2.1) 3 ((rho i).2.2.1), kI cI ((rho i).1.2.2.2.1) 3 ((rho i).2.2.2.1), kI cI ((rho i).1.2.2.2.2.1) 3 ((rho i).2.2.2.2.1), kI cI ((rho i).1.2.2.2.2.2.1) 3 ((rho i).2.2.2.2.2.1), kI cI ((rho i).1.2.2.2.2.2.2.1) 64 ((rho i).2.2.2.2.2.2.1), kI cI ((rho i).1.2.2.2.2.2.2.2) 64 ((rho i).2.2.2.2.2.2.2)] ++ RX cI rho i) := hD
                  have hPD : PD D A ([kX2 og o1 o2, kI cI o1 2400 sc, kI cI o2 4 dc, kX0 fg f1 f2 f3 (nI n9) (nI v), kI cI f1 12 g1, kI cI f2 12 g2, kI cI f3 12 g3, kX5 bk br (nI r9), kQ cR br 9 (fun k => some ((rho k).1.1)), kX4 ((rho i).1.1) ((rho i).2.1.1) ((rho i).1.2.1) ((rho i).1.2.2.2.2.2.1) ((rho i).1.2.2.2.2.2.2.1) ((rho i).1.2.2.2.2.2.2.2), kX0 ((rho i).1.2.1) ((rho i).1.2.2.1) ((rho i).1.2.2.2.1) ((rho i).1.2.2.2.2.1) ((rho i).2.1.2.1) ((rho i).2.1.2.2), kI cI ((rho i).1.2.2.1) 3 ((rho i).2.2.1), kI cI ((rho i).1.2.2.2.1) 3 ((rho i).2.2.2.1), kI cI ((rho i).1.2.2.2.2.1) 3 ((rho i).2.2.2.2.1), kI cI ((rho i).1.2.2.2.2.2.1) 3 ((rho i).2.2.2.2.2.1), kI cI ((rho i).1.2.2.2.2.2.2.1) 64 ((rho i).2.2.2.2.2.2.1), kI cI ((rho i).1.2.2.2.2.2.2.2) 64 ((rho i).2.2.2.2.2.2.2)] ++ RX cI rho i) H := (PD.perm ⟨hP, hD⟩ (permB pm_25)).left
                  obtain ⟨hP, hD⟩ := unfocus0 (E := [kX2 og o1 o2, kI cI o1 2400 sc, kI cI o2 4 dc, kX0 fg f1 f2 f3 (nI n9) (nI v), kI cI f1 12 g1, kI cI f2 12 g2, kI cI f3 12 g3, kX5 bk br (nI r9), kQ cR br 9 (fun k => some ((rho k).1.1))]) i (by omega) hPD.1 hPD.2
                  have hP : va_P D vwCl ([kX2 og o1 o2, kI cI o1 2400 sc, kI cI o2 4 dc, kX0 fg f1 f2 f3 (nI n9) (nI v), kI cI f1 12 g1, kI cI f2 12 g2, kI cI f3 12 g3, kX5 bk br (nI r9), kQ cR br 9 (fun k => some ((rho k).1.1))] ++ RB cI rho) H := hP
                  have hD : va_D A ([kX2 og o1 o2, kI cI o1 2400 sc, kI cI o2 4 dc, kX0 fg f1 f2 f3 (nI n9) (nI v), kI cI f1 12 g1, kI cI f2 12 g2, kI cI f3 12 g3, kX5 bk br (nI r9), kQ cR br 9 (fun k => some ((rho k).1.1))] ++ RB cI rho) := hD
                  refine lv_iinc (v := nI (i + 1)) (lv' := [(9, .int (nI (i + 1))), (10, .ref ((rho i).1.1)), (0, .ref og), (1, .ref fg), (2, .int (nI b)), (3, .ref bk), (4, .int 1), (5, .int 1), (6, .int bg), (7, .int (nI so)), (8, .int (nI ta))]) hx hb dX2_improve_139 hl (k := 10) rfl (nI_1 i) (by decide) rfl (fun ls hl => ?_)
                  refine lv_goto (tgt := 76) hx hb dX2_improve_142 (by decide) ?_
                  have hPD : PD D A ([kX2 og o1 o2, kI cI o1 2400 sc, kI cI o2 4 dc, kX0 fg f1 f2 f3 (nI n9) (nI v), kI cI f1 12 g1, kI cI f2 12 g2, kI cI f3 12 g3, kX5 bk br (nI r9), kQ cR br 9 (fun k => some ((rho k).1.1))] ++ RB cI rho) H := (PD.perm ⟨hP, hD⟩ (permB pm_19)).left
                  exact ih_76 (i + 1) bg sc dc (by omega) hbe3 hC3 (IMI_k (fun q => absurd (ltN (a := 1) (by omega) (by omega) c_13) (by omega)) hI3) hs2 hd0 _ _ _ hPD.1 hPD.2 hS (lv_sub hl [2, 3, 4, 5, 6, 7, 8, 9, 10, 0] rfl)
                · skip
                  refine lv_iload hx hb dX2_improve_107 (lv_at hl 7 rfl) ?_
                  refine lv_aload_n hx hb dX2_improve_109 rfl (lv_at hl 1 rfl) ?_
                  refine lv_aload hx hb dX2_improve_110 (lv_at hl 0 rfl) ?_
                  refine va_get (D := D) (ci := 4) (v := .int (nI (yO (rC rho r9) i))) (C := RX4) (T := TX4) (N := 5) hx hb hts iT_X4 hown hK1 hP 9 rfl rfl 0 (by decide) (hts _ t_80) (fun _ h9 => h9) rfl dX2_improve_112 ?_
                  refine lv_iload_n hx hb dX2_improve_115 rfl (lv_at hl 3 rfl) ?_
                  refine lv_iload hx hb dX2_improve_116 (lv_at hl 8 rfl) ?_
                  refine lv_iload hx hb dX2_improve_118 (lv_at hl 9 rfl) ?_
                  have hPD : PD D A ([] ++ ([kX2 og o1 o2, kI cI o1 2400 sc, kI cI o2 4 dc, kX0 fg f1 f2 f3 (nI n9) (nI v), kI cI f1 12 g1, kI cI f2 12 g2, kI cI f3 12 g3, kX5 bk br (nI r9), kQ cR br 9 (fun k => some ((rho k).1.1)), kX4 ((rho i).1.1) (nI (yO (rC rho r9) i)) ((rho i).1.2.1) ((rho i).1.2.2.2.2.2.1) ((rho i).1.2.2.2.2.2.2.1) ((rho i).1.2.2.2.2.2.2.2), kX0 ((rho i).1.2.1) ((rho i).1.2.2.1) ((rho i).1.2.2.2.1) ((rho i).1.2.2.2.2.1) ((rho i).2.1.2.1) ((rho i).2.1.2.2), kI cI ((rho i).1.2.2.1) 3 ((rho i).2.2.1), kI cI ((rho i).1.2.2.2.1) 3 ((rho i).2.2.2.1), kI cI ((rho i).1.2.2.2.2.1) 3 ((rho i).2.2.2.2.1), kI cI ((rho i).1.2.2.2.2.2.1) 3 ((rho i).2.2.2.2.2.1), kI cI ((rho i).1.2.2.2.2.2.2.1) 64 ((rho i).2.2.2.2.2.2.1), kI cI ((rho i).1.2.2.2.2.2.2.2) 64 ((rho i).2.2.2.2.2.2.2)] ++ RX cI rho i)) H := PD.perm ⟨hP, hD⟩ (permA pm_26)
                  refine xp_i (wc := []) (wr := ([kX2 og o1 o2, kI cI o1 2400 sc, kI cI o2 4 dc, kX0 fg f1 f2 f3 (nI n9) (nI v), kI cI f1 12 g1, kI cI f2 12 g2, kI cI f3 12 g3, kX5 bk br (nI r9), kQ cR br 9 (fun k => some ((rho k).1.1)), kX4 ((rho i).1.1) (nI (yO (rC rho r9) i)) ((rho i).1.2.1) ((rho i).1.2.2.2.2.2.1) ((rho i).1.2.2.2.2.2.2.1) ((rho i).1.2.2.2.2.2.2.2), kX0 ((rho i).1.2.1) ((rho i).1.2.2.1) ((rho i).1.2.2.2.1) ((rho i).1.2.2.2.2.1) ((rho i).2.1.2.1) ((rho i).2.1.2.2), kI cI ((rho i).1.2.2.1) 3 ((rho i).2.2.1), kI cI ((rho i).1.2.2.2.1) 3 ((rho i).2.2.2.1), kI cI ((rho i).1.2.2.2.2.1) 3 ((rho i).2.2.2.2.1), kI cI ((rho i).1.2.2.2.2.2.1) 3 ((rho i).2.2.2.2.2.1), kI cI ((rho i).1.2.2.2.2.2.2.1) 64 ((rho i).2.2.2.2.2.2.1), kI cI ((rho i).1.2.2.2.2.2.2.2) 64 ((rho i).2.2.2.2.2.2.2)] ++ RX cI rho i)) (xqS (n := 4) (As := [.int (nI (yO (rC rho r9) i)), .int (nI b), .int (nI so), .int (nI ta)]) (rest := [.ref og, .int bg]) hd hK hPD.left (c_X2_at l D cI cJ cZ cR _ (yO (rC rho r9) i) b so ta ) (gS t_410 mS_X2_at) hS_X2_at ⟨(Nat.le_of_ble_eq_true rfl), (Nat.le_of_ble_eq_true rfl)⟩ rfl hl.1 rfl (Nat.le_of_ble_eq_true rfl) dX2_improve_120 ⟨(Nat.le_of_ble_eq_true rfl), (Nat.le_of_ble_eq_true rfl)⟩) hPD hS hA (fun r_14 u_15 H locs hw_16 hPD hS => ?_)
                  have hw_17 : r_14 = (nI (((((((yO (rC rho r9) i) * 32) + b) * 5) + so) * 5) + ta)) := hw_16
                  subst hw_17
                  obtain ⟨hP, hD⟩ := hPD.perm permA'
                  have hP : va_P D vwCl ([kX2 og o1 o2, kI cI o1 2400 sc, kI cI o2 4 dc, kX0 fg f1 f2 f3 (nI n9) (nI v), kI cI f1 12 g1, kI cI f2 12 g2, kI cI f3 12 g3, kX5 bk br (nI r9), kQ cR br 9 (fun k => some ((rho k).1.1)), kX4 ((rho i).1.1) (nI (yO (rC rho r9) i)) ((rho i).1.2.1) ((rho i).1.2.2.2.2.2.1) ((rho i).1.2.2.2.2.2.2.1) ((rho i).1.2.2.2.2.2.2.2), kX0 ((rho i).1.2.1) ((rho i).1.2.2.1) ((rho i).1.2.2.2.1) ((rho i).1.2.2.2.2.1) ((rho i).2.1.2.1) ((rho i).2.1.2.2), kI cI ((rho i).1.2.2.1) 3 ((rho i).2.2.1), kI cI ((rho i).1.2.2.2.1) 3 ((rho i).2.2.2.1), kI cI ((rho i).1.2.2.2.2.1) 3 ((rho i).2.2.2.2.1), kI cI ((rho i).1.2.2.2.2.2.1) 3 ((rho i).2.2.2.2.2.1), kI cI ((rho i).1.2.2.2.2.2.2.1) 64 ((rho i).2.2.2.2.2.2.1), kI cI ((rho i).1.2.2.2.2.2.2.2) 64 ((rho i).2.2.2.2.2.2.2)] ++ RX cI rho i) H := hP
                  have hD : va_D A ([kX2 og o1 o2, kI cI o1 2400 sc, kI cI o2 4 dc, kX0 fg f1 f2 f3 (nI n9) (nI v), kI cI f1 12 g1, kI cI f2 12 g2, kI cI f3 12 g3, kX5 bk br (nI r9), kQ cR br 9 (fun k => some ((rho k).1.1)), kX4 ((rho i).1.1) (nI (yO (rC rho r9) i)) ((rho i).1.2.1) ((rho i).1.2.2.2.2.2.1) ((rho i).1.2.2.2.2.2.2.1) ((rho i).1.2.2.2.2.2.2.2), kX0 ((rho i).1.2.1) ((rho i).1.2.2.1) ((rho i).1.2.2.2.1) ((rho i).1.2.2.2.2.1) ((rho i).2.1.2.1) ((rho i).2.1.2.2), kI cI ((rho i).1.2.2.1) 3 ((rho i).2.2.1), kI cI ((rho i).1.2.2.2.1) 3 ((rho i).2.2.2.1), kI cI ((rho i).1.2.2.2.2.1) 3 ((rho i).2.2.2.2.1), kI cI ((rho i).1.2.2.2.2.2.1) 3 ((rho i).2.2.2.2.2.1), kI cI ((rho i).1.2.2.2.2.2.2.1) 64 ((rho i).2.2.2.2.2.2.1), kI cI ((rho i).1.2.2.2.2.2.2.2) 64 ((rho i).2.2.2.2.2.2.2)] ++ RX cI rho i) := hD
                  refine lv_iconst (v := 1) hx hb dX2_improve_123 (by decide) ?_
                  refine lv_aload_n hx hb dX2_improve_124 rfl (lv_at hl 1 rfl) ?_
                  refine lv_aload_n hx hb dX2_improve_125 rfl (lv_at hl 2 rfl) ?_
                  refine lv_iload_n hx hb dX2_improve_126 rfl (lv_at hl 3 rfl) ?_
                  refine lv_aload hx hb dX2_improve_127 (lv_at hl 0 rfl) ?_
                  have hPD : PD D A ([kX2 og o1 o2, kI cI o1 2400 sc, kI cI o2 4 dc, kX0 fg f1 f2 f3 (nI n9) (nI v), kI cI f1 12 g1, kI cI f2 12 g2, kI cI f3 12 g3, kX4 ((rho i).1.1) (nI (yO (rC rho r9) i)) ((rho i).1.2.1) ((rho i).1.2.2.2.2.2.1) ((rho i).1.2.2.2.2.2.2.1) ((rho i).1.2.2.2.2.2.2.2), kX0 ((rho i).1.2.1) ((rho i).1.2.2.1) ((rho i).1.2.2.2.1) ((rho i).1.2.2.2.2.1) ((rho i).2.1.2.1) ((rho i).2.1.2.2), kI cI ((rho i).1.2.2.1) 3 ((rho i).2.2.1), kI cI ((rho i).1.2.2.2.1) 3 ((rho i).2.2.2.1), kI cI ((rho i).1.2.2.2.2.1) 3 ((rho i).2.2.2.2.1), kI cI ((rho i).1.2.2.2.2.2.1) 3 ((rho i).2.2.2.2.2.1), kI cI ((rho i).1.2.2.2.2.2.2.1) 64 ((rho i).2.2.2.2.2.2.1), kI cI ((rho i).1.2.2.2.2.2.2.2) 64 ((rho i).2.2.2.2.2.2.2)] ++ ([kX5 bk br (nI r9), kQ cR br 9 (fun k => some ((rho k).1.1))] ++ RX cI rho i)) H := PD.perm ⟨hP, hD⟩ (permA pm_27)
                  refine xp_i (wc := [kX2 og o1 o2, kI cI o1 2400 sc, kI cI o2 4 dc, kX0 fg f1 f2 f3 (nI n9) (nI v), kI cI f1 12 g1, kI cI f2 12 g2, kI cI f3 12 g3, kX4 ((rho i).1.1) (nI (yO (rC rho r9) i)) ((rho i).1.2.1) ((rho i).1.2.2.2.2.2.1) ((rho i).1.2.2.2.2.2.2.1) ((rho i).1.2.2.2.2.2.2.2), kX0 ((rho i).1.2.1) ((rho i).1.2.2.1) ((rho i).1.2.2.2.1) ((rho i).1.2.2.2.2.1) ((rho i).2.1.2.1) ((rho i).2.1.2.2), kI cI ((rho i).1.2.2.1) 3 ((rho i).2.2.1), kI cI ((rho i).1.2.2.2.1) 3 ((rho i).2.2.2.1), kI cI ((rho i).1.2.2.2.2.1) 3 ((rho i).2.2.2.2.1), kI cI ((rho i).1.2.2.2.2.2.1) 3 ((rho i).2.2.2.2.2.1), kI cI ((rho i).1.2.2.2.2.2.2.1) 64 ((rho i).2.2.2.2.2.2.1), kI cI ((rho i).1.2.2.2.2.2.2.2) 64 ((rho i).2.2.2.2.2.2.2)]) (wr := ([kX5 bk br (nI r9), kQ cR br 9 (fun k => some ((rho k).1.1))] ++ RX cI rho i)) (xqV (n := 3) (As := [.ref fg, .int (nI b), .ref ((rho i).1.1)]) (rest := [.int 1, .int (nI (((((((yO (rC rho r9) i) * 32) + b) * 5) + so) * 5) + ta)), .ref og, .int bg]) (ci := 2) (q0 := 0) hd hK hPD.left (c_X2_byRule l D cI cJ cZ cR _ og o1 o2 fg f1 f2 f3 n9 v ((rho i).1.1) ((rho i).1.2.1) ((rho i).1.2.2.1) ((rho i).1.2.2.2.1) ((rho i).1.2.2.2.2.1) ((rho i).1.2.2.2.2.2.1) ((rho i).1.2.2.2.2.2.2.1) ((rho i).1.2.2.2.2.2.2.2) b i (rC rho r9) sc dc g1 g2 g3 (nI (yO (rC rho r9) i)) ((rho i).2.1.2.1) ((rho i).2.1.2.2) ((rho i).2.2.1) ((rho i).2.2.2.1) ((rho i).2.2.2.2.1) ((rho i).2.2.2.2.2.1) ((rho i).2.2.2.2.2.2.1) ((rho i).2.2.2.2.2.2.2) hn5 hv5 hG hRJ hs2 hI3.1 hb32) (gV t_413 mV_X2_byRule) hV_X2_byRule ⟨(Nat.le_of_ble_eq_true rfl), (Nat.le_of_ble_eq_true rfl)⟩ rfl rfl rfl hl.1 rfl (Nat.le_of_ble_eq_true rfl) dX2_improve_129 ⟨(Nat.le_of_ble_eq_true rfl), (Nat.le_of_ble_eq_true rfl)⟩) hPD hS hA (fun r_18 u_19 H locs hw_20 hPD hS => ?_)
                  obtain ⟨q_21, d2_22⟩ := u_19
                  obtain ⟨hw_23, hw_24, hw_25, hw_26, hw_27⟩ : (r_18 = (nI q_21)) ∧ (SDn 2 d2_22) ∧ (d2_22 0 = dc 0) ∧ (d2_22 1 = dc 1) ∧ (zLs zF9 (zBy (gC n9 v g1 g2 g3) (rC rho r9) (TD zF9 (tbl sc)) i (tn (dc 0)) (tn (dc 1)) b) q_21) := hw_20
                  subst hw_23
                  have hs9 := hw_24
                  have hd1 := hw_25
                  have hd2 := hw_26
                  have hq := hw_27
                  rw [hd0.1, hd0.2] at hq
                  have hq9 := hq.1
                  obtain ⟨hP, hD⟩ := hPD.perm permA'
                  have hP : va_P D vwCl ([kX5 bk br (nI r9), kQ cR br 9 (fun k => some ((rho k).1.1)), kX2 og o1 o2, kI cI o1 2400 sc, kI cI o2 4 d2_22, kX0 fg f1 f2 f3 (nI n9) (nI v), kI cI f1 12 g1, kI cI f2 12 g2, kI cI f3 12 g3, kX4 ((rho i).1.1) (nI (yO (rC rho r9) i)) ((rho i).1.2.1) ((rho i).1.2.2.2.2.2.1) ((rho i).1.2.2.2.2.2.2.1) ((rho i).1.2.2.2.2.2.2.2), kX0 ((rho i).1.2.1) ((rho i).1.2.2.1) ((rho i).1.2.2.2.1) ((rho i).1.2.2.2.2.1) ((rho i).2.1.2.1) ((rho i).2.1.2.2), kI cI ((rho i).1.2.2.1) 3 ((rho i).2.2.1), kI cI ((rho i).1.2.2.2.1) 3 ((rho i).2.2.2.1), kI cI ((rho i).1.2.2.2.2.1) 3 ((rho i).2.2.2.2.1), kI cI ((rho i).1.2.2.2.2.2.1) 3 ((rho i).2.2.2.2.2.1), kI cI ((rho i).1.2.2.2.2.2.2.1) 64 ((rho i).2.2.2.2.2.2.1), kI cI ((rho i).1.2.2.2.2.2.2.2) 64 ((rho i).2.2.2.2.2.2.2)] ++ RX cI rho i) H := hP
                  have hD : va_D A ([kX5 bk br (nI r9), kQ cR br 9 (fun k => some ((rho k).1.1)), kX2 og o1 o2, kI cI o1 2400 sc, kI cI o2 4 d2_22, kX0 fg f1 f2 f3 (nI n9) (nI v), kI cI f1 12 g1, kI cI f2 12 g2, kI cI f3 12 g3, kX4 ((rho i).1.1) (nI (yO (rC rho r9) i)) ((rho i).1.2.1) ((rho i).1.2.2.2.2.2.1) ((rho i).1.2.2.2.2.2.2.1) ((rho i).1.2.2.2.2.2.2.2), kX0 ((rho i).1.2.1) ((rho i).1.2.2.1) ((rho i).1.2.2.2.1) ((rho i).1.2.2.2.2.1) ((rho i).2.1.2.1) ((rho i).2.1.2.2), kI cI ((rho i).1.2.2.1) 3 ((rho i).2.2.1), kI cI ((rho i).1.2.2.2.1) 3 ((rho i).2.2.2.1), kI cI ((rho i).1.2.2.2.2.1) 3 ((rho i).2.2.2.2.1), kI cI ((rho i).1.2.2.2.2.2.1) 3 ((rho i).2.2.2.2.2.1), kI cI ((rho i).1.2.2.2.2.2.2.1) 64 ((rho i).2.2.2.2.2.2.1), kI cI ((rho i).1.2.2.2.2.2.2.2) 64 ((rho i).2.2.2.2.2.2.2)] ++ RX cI rho i) := hD
                  refine lv_iadd hx hb dX2_improve_132 ?_
                  refine lv_nmi (show _ = (nI (1 + q_21)) from nI_add (1) (q_21)) ?_
                  have hPD : PD D A ([kX2 og o1 o2, kI cI o1 2400 sc, kI cI o2 4 d2_22] ++ ([kX5 bk br (nI r9), kQ cR br 9 (fun k => some ((rho k).1.1)), kX0 fg f1 f2 f3 (nI n9) (nI v), kI cI f1 12 g1, kI cI f2 12 g2, kI cI f3 12 g3, kX4 ((rho i).1.1) (nI (yO (rC rho r9) i)) ((rho i).1.2.1) ((rho i).1.2.2.2.2.2.1) ((rho i).1.2.2.2.2.2.2.1) ((rho i).1.2.2.2.2.2.2.2), kX0 ((rho i).1.2.1) ((rho i).1.2.2.1) ((rho i).1.2.2.2.1) ((rho i).1.2.2.2.2.1) ((rho i).2.1.2.1) ((rho i).2.1.2.2), kI cI ((rho i).1.2.2.1) 3 ((rho i).2.2.1), kI cI ((rho i).1.2.2.2.1) 3 ((rho i).2.2.2.1), kI cI ((rho i).1.2.2.2.2.1) 3 ((rho i).2.2.2.2.1), kI cI ((rho i).1.2.2.2.2.2.1) 3 ((rho i).2.2.2.2.2.1), kI cI ((rho i).1.2.2.2.2.2.2.1) 64 ((rho i).2.2.2.2.2.2.1), kI cI ((rho i).1.2.2.2.2.2.2.2) 64 ((rho i).2.2.2.2.2.2.2)] ++ RX cI rho i)) H := PD.perm ⟨hP, hD⟩ (permA pm_28)
                  refine xp_i (wc := [kX2 og o1 o2, kI cI o1 2400 sc, kI cI o2 4 d2_22]) (wr := ([kX5 bk br (nI r9), kQ cR br 9 (fun k => some ((rho k).1.1)), kX0 fg f1 f2 f3 (nI n9) (nI v), kI cI f1 12 g1, kI cI f2 12 g2, kI cI f3 12 g3, kX4 ((rho i).1.1) (nI (yO (rC rho r9) i)) ((rho i).1.2.1) ((rho i).1.2.2.2.2.2.1) ((rho i).1.2.2.2.2.2.2.1) ((rho i).1.2.2.2.2.2.2.2), kX0 ((rho i).1.2.1) ((rho i).1.2.2.1) ((rho i).1.2.2.2.1) ((rho i).1.2.2.2.2.1) ((rho i).2.1.2.1) ((rho i).2.1.2.2), kI cI ((rho i).1.2.2.1) 3 ((rho i).2.2.1), kI cI ((rho i).1.2.2.2.1) 3 ((rho i).2.2.2.1), kI cI ((rho i).1.2.2.2.2.1) 3 ((rho i).2.2.2.2.1), kI cI ((rho i).1.2.2.2.2.2.1) 3 ((rho i).2.2.2.2.2.1), kI cI ((rho i).1.2.2.2.2.2.2.1) 64 ((rho i).2.2.2.2.2.2.1), kI cI ((rho i).1.2.2.2.2.2.2.2) 64 ((rho i).2.2.2.2.2.2.2)] ++ RX cI rho i)) (xqV (n := 2) (As := [.int (nI (((((((yO (rC rho r9) i) * 32) + b) * 5) + so) * 5) + ta)), .int (nI (1 + q_21))]) (rest := [.int bg]) (ci := 2) (q0 := 0) hd hK hPD.left (c_X2_lower l D cI cJ cZ cR _ og o1 o2 (((((((yO (rC rho r9) i) * 32) + b) * 5) + so) * 5) + ta) sc d2_22 (nI (1 + q_21)) (by omega)) (gV t_437 mV_X2_lower) hV_X2_lower ⟨(Nat.le_of_ble_eq_true rfl), (Nat.le_of_ble_eq_true rfl)⟩ rfl rfl rfl hl.1 rfl (Nat.le_of_ble_eq_true rfl) dX2_improve_133 ⟨(Nat.le_of_ble_eq_true rfl), (Nat.le_of_ble_eq_true rfl)⟩) hPD hS hA (fun r_28 u_29 H locs hw_30 hPD hS => ?_)
                  obtain ⟨s2_31, rfl⟩ : ∃ z9, z9 = u_29 := ⟨_, rfl⟩
                  have hw_32 : (r_28 = 0 ∧ s2_31 = sc ∧ ¬ (nI (1 + q_21)) < sc (((((((yO (rC rho r9) i) * 32) + b) * 5) + so) * 5) + ta)) ∨ (r_28 = 1 ∧ s2_31 = upd sc (((((((yO (rC rho r9) i) * 32) + b) * 5) + so) * 5) + ta) (nI (1 + q_21)) ∧ (nI (1 + q_21)) < sc (((((((yO (rC rho r9) i) * 32) + b) * 5) + so) * 5) + ta)) := hw_30
                  have hI4 := IMI_low (show i < r9 by omega) ho9 hb32 (by omega) (by omega) hP9 hq hw_32 hI3
                  have hr01 := low_01 hw_32
                  have hC4 := low_C hbe3 hC3 hw_32
                  obtain ⟨hP, hD⟩ := hPD.perm permA'
                  have hP : va_P D vwCl ([kX5 bk br (nI r9), kQ cR br 9 (fun k => some ((rho k).1.1)), kX0 fg f1 f2 f3 (nI n9) (nI v), kI cI f1 12 g1, kI cI f2 12 g2, kI cI f3 12 g3, kX4 ((rho i).1.1) (nI (yO (rC rho r9) i)) ((rho i).1.2.1) ((rho i).1.2.2.2.2.2.1) ((rho i).1.2.2.2.2.2.2.1) ((rho i).1.2.2.2.2.2.2.2), kX0 ((rho i).1.2.1) ((rho i).1.2.2.1) ((rho i).1.2.2.2.1) ((rho i).1.2.2.2.2.1) ((rho i).2.1.2.1) ((rho i).2.1.2.2), kI cI ((rho i).1.2.2.1) 3 ((rho i).2.2.1), kI cI ((rho i).1.2.2.2.1) 3 ((rho i).2.2.2.1), kI cI ((rho i).1.2.2.2.2.1) 3 ((rho i).2.2.2.2.1), kI cI ((rho i).1.2.2.2.2.2.1) 3 ((rho i).2.2.2.2.2.1), kI cI ((rho i).1.2.2.2.2.2.2.1) 64 ((rho i).2.2.2.2.2.2.1), kI cI ((rho i).1.2.2.2.2.2.2.2) 64 ((rho i).2.2.2.2.2.2.2), kX2 og o1 o2, kI cI o1 2400 s2_31, kI cI o2 4 d2_22] ++ RX cI rho i) H := hP
                  have hD : va_D A ([kX5 bk br (nI r9), kQ cR br 9 (fun k => some ((rho k).1.1)), kX0 fg f1 f2 f3 (nI n9) (nI v), kI cI f1 12 g1, kI cI f2 12 g2, kI cI f3 12 g3, kX4 ((rho i).1.1) (nI (yO (rC rho r9) i)) ((rho i).1.2.1) ((rho i).1.2.2.2.2.2.1) ((rho i).1.2.2.2.2.2.2.1) ((rho i).1.2.2.2.2.2.2.2), kX0 ((rho i).1.2.1) ((rho i).1.2.2.1) ((rho i).1.2.2.2.1) ((rho i).1.2.2.2.2.1) ((rho i).2.1.2.1) ((rho i).2.1.2.2), kI cI ((rho i).1.2.2.1) 3 ((rho i).2.2.1), kI cI ((rho i).1.2.2.2.1) 3 ((rho i).2.2.2.1), kI cI ((rho i).1.2.2.2.2.1) 3 ((rho i).2.2.2.2.1), kI cI ((rho i).1.2.2.2.2.2.1) 3 ((rho i).2.2.2.2.2.1), kI cI ((rho i).1.2.2.2.2.2.2.1) 64 ((rho i).2.2.2.2.2.2.1), kI cI ((rho i).1.2.2.2.2.2.2.2) 64 ((rho i).2.2.2.2.2.2.2), kX2 og o1 o2, kI cI o1 2400 s2_31, kI cI o2 4 d2_22] ++ RX cI rho i) := hD
                  refine lv_ior hx hb dX2_improve_136 ?_
                  refine lv_istore (lv' := [(6, .int (bg ||| r_28)), (10, .ref ((rho i).1.1)), (0, .ref og), (1, .ref fg), (2, .int (nI b)), (3, .ref bk), (4, .int 1), (5, .int 1), (7, .int (nI so)), (8, .int (nI ta)), (9, .int (nI i))]) hx hb dX2_improve_137 hl (by decide) rfl (fun ls hl => ?_)
                  rw [← eo9] at hP hD
                  have hP : va_P D vwCl ([kX5 bk br (nI r9), kQ cR br 9 (fun k => some ((rho k).1.1)), kX0 fg f1 f2 f3 (nI n9) (nI v), kI cI f1 12 g1, kI cI f2 12 g2, kI cI f3 12 g3, kX4 ((rho i).1.1) ((rho i).2.1.1) ((rho i).1.2.1) ((rho i).1.2.2.2.2.2.1) ((rho i).1.2.2.2.2.2.2.1) ((rho i).1.2.2.2.2.2.2.2), kX0 ((rho i).1.2.1) ((rho i).1.2.2.1) ((rho i).1.2.2.2.1) ((rho i).1.2.2.2.2.1) ((rho i).2.1.2.1) ((rho i).2.1.2.2), kI cI ((rho i).1.2.2.1) 3 ((rho i).2.2.1), kI cI ((rho i).1.2.2.2.1) 3 ((rho i).2.2.2.1), kI cI ((rho i).1.2.2.2.2.1) 3 ((rho i).2.2.2.2.1), kI cI ((rho i).1.2.2.2.2.2.1) 3 ((rho i).2.2.2.2.2.1), kI cI ((rho i).1.2.2.2.2.2.2.1) 64 ((rho i).2.2.2.2.2.2.1), kI cI ((rho i).1.2.2.2.2.2.2.2) 64 ((rho i).2.2.2.2.2.2.2), kX2 og o1 o2, kI cI o1 2400 s2_31, kI cI o2 4 d2_22] ++ RX cI rho i) H := hP
                  have hD : va_D A ([kX5 bk br (nI r9), kQ cR br 9 (fun k => some ((rho k).1.1)), kX0 fg f1 f2 f3 (nI n9) (nI v), kI cI f1 12 g1, kI cI f2 12 g2, kI cI f3 12 g3, kX4 ((rho i).1.1) ((rho i).2.1.1) ((rho i).1.2.1) ((rho i).1.2.2.2.2.2.1) ((rho i).1.2.2.2.2.2.2.1) ((rho i).1.2.2.2.2.2.2.2), kX0 ((rho i).1.2.1) ((rho i).1.2.2.1) ((rho i).1.2.2.2.1) ((rho i).1.2.2.2.2.1) ((rho i).2.1.2.1) ((rho i).2.1.2.2), kI cI ((rho i).1.2.2.1) 3 ((rho i).2.2.1), kI cI ((rho i).1.2.2.2.1) 3 ((rho i).2.2.2.1), kI cI ((rho i).1.2.2.2.2.1) 3 ((rho i).2.2.2.2.1), kI cI ((rho i).1.2.2.2.2.2.1) 3 ((rho i).2.2.2.2.2.1), kI cI ((rho i).1.2.2.2.2.2.2.1) 64 ((rho i).2.2.2.2.2.2.1), kI cI ((rho i).1.2.2.2.2.2.2.2) 64 ((rho i).2.2.2.2.2.2.2), kX2 og o1 o2, kI cI o1 2400 s2_31, kI cI o2 4 d2_22] ++ RX cI rho i) := hD
                  have hPD : PD D A ([kX5 bk br (nI r9), kQ cR br 9 (fun k => some ((rho k).1.1)), kX0 fg f1 f2 f3 (nI n9) (nI v), kI cI f1 12 g1, kI cI f2 12 g2, kI cI f3 12 g3, kX2 og o1 o2, kI cI o1 2400 s2_31, kI cI o2 4 d2_22, kX4 ((rho i).1.1) ((rho i).2.1.1) ((rho i).1.2.1) ((rho i).1.2.2.2.2.2.1) ((rho i).1.2.2.2.2.2.2.1) ((rho i).1.2.2.2.2.2.2.2), kX0 ((rho i).1.2.1) ((rho i).1.2.2.1) ((rho i).1.2.2.2.1) ((rho i).1.2.2.2.2.1) ((rho i).2.1.2.1) ((rho i).2.1.2.2), kI cI ((rho i).1.2.2.1) 3 ((rho i).2.2.1), kI cI ((rho i).1.2.2.2.1) 3 ((rho i).2.2.2.1), kI cI ((rho i).1.2.2.2.2.1) 3 ((rho i).2.2.2.2.1), kI cI ((rho i).1.2.2.2.2.2.1) 3 ((rho i).2.2.2.2.2.1), kI cI ((rho i).1.2.2.2.2.2.2.1) 64 ((rho i).2.2.2.2.2.2.1), kI cI ((rho i).1.2.2.2.2.2.2.2) 64 ((rho i).2.2.2.2.2.2.2)] ++ RX cI rho i) H := (PD.perm ⟨hP, hD⟩ (permB pm_29)).left
                  obtain ⟨hP, hD⟩ := unfocus0 (E := [kX5 bk br (nI r9), kQ cR br 9 (fun k => some ((rho k).1.1)), kX0 fg f1 f2 f3 (nI n9) (nI v), kI cI f1 12 g1, kI cI f2 12 g2, kI cI f3 12 g3, kX2 og o1 o2, kI cI o1 2400 s2_31, kI cI o2 4 d2_22]) i (by omega) hPD.1 hPD.2
                  have hP : va_P D vwCl ([kX5 bk br (nI r9), kQ cR br 9 (fun k => some ((rho k).1.1)), kX0 fg f1 f2 f3 (nI n9) (nI v), kI cI f1 12 g1, kI cI f2 12 g2, kI cI f3 12 g3, kX2 og o1 o2, kI cI o1 2400 s2_31, kI cI o2 4 d2_22] ++ RB cI rho) H := hP
                  have hD : va_D A ([kX5 bk br (nI r9), kQ cR br 9 (fun k => some ((rho k).1.1)), kX0 fg f1 f2 f3 (nI n9) (nI v), kI cI f1 12 g1, kI cI f2 12 g2, kI cI f3 12 g3, kX2 og o1 o2, kI cI o1 2400 s2_31, kI cI o2 4 d2_22] ++ RB cI rho) := hD
                  refine lv_iinc (v := nI (i + 1)) (lv' := [(9, .int (nI (i + 1))), (6, .int (bg ||| r_28)), (10, .ref ((rho i).1.1)), (0, .ref og), (1, .ref fg), (2, .int (nI b)), (3, .ref bk), (4, .int 1), (5, .int 1), (7, .int (nI so)), (8, .int (nI ta))]) hx hb dX2_improve_139 hl (k := 10) rfl (nI_1 i) (by decide) rfl (fun ls hl => ?_)
                  refine lv_goto (tgt := 76) hx hb dX2_improve_142 (by decide) ?_
                  have hPD : PD D A ([kX2 og o1 o2, kI cI o1 2400 s2_31, kI cI o2 4 d2_22, kX0 fg f1 f2 f3 (nI n9) (nI v), kI cI f1 12 g1, kI cI f2 12 g2, kI cI f3 12 g3, kX5 bk br (nI r9), kQ cR br 9 (fun k => some ((rho k).1.1))] ++ RB cI rho) H := (PD.perm ⟨hP, hD⟩ (permB pm_30)).left
                  exact ih_76 (i + 1) (bg ||| r_28) s2_31 d2_22 (by omega) (or01 hbe3 hr01) hC4 hI4 hs9 ⟨by rw [hd1]; exact hd0.1, by rw [hd2]; exact hd0.2⟩ _ _ _ hPD.1 hPD.2 hS (lv_sub hl [3, 4, 5, 6, 7, 8, 1, 9, 10, 0] rfl)
            have hPD : PD D A ([kX2 og o1 o2, kI cI o1 2400 sb, kI cI o2 4 (upd (upd db 0 (nI so)) 1 (nI ta)), kX0 fg f1 f2 f3 (nI n9) (nI v), kI cI f1 12 g1, kI cI f2 12 g2, kI cI f3 12 g3, kX5 bk br (nI r9), kQ cR br 9 (fun k => some ((rho k).1.1))] ++ RB cI rho) H := (PD.perm ⟨hP, hD⟩ (permB pm_31)).left
            exact LOOP_76 r9 0 bf sb (upd (upd db 0 (nI so)) 1 (nI ta)) (by omega) hbe2 hC2 hI2 (SDn_s (SDn_s SDn_0 (by omega)) (by omega)) ⟨by rw [pk_un (by decide), pk_us, tn_nI (by omega)], by rw [pk_us, tn_nI (by omega)]⟩ _ _ _ hPD.1 hPD.2 hS (lv_sub hl [1, 2, 3, 4, 5, 6, 7, 8, 9, 0] rfl)
          · skip
            refine lv_goto (tgt := 145) hx hb dX2_improve_54 (by decide) ?_
            refine lv_iinc (v := nI (ta + 1)) (lv' := [(8, .int (nI (ta + 1))), (0, .ref og), (1, .ref fg), (2, .int (nI b)), (3, .ref bk), (4, .int 1), (5, .int 1), (6, .int bf), (7, .int (nI so))]) hx hb dX2_improve_145 hl (k := 8) rfl (nI_1 ta) (by decide) rfl (fun ls hl => ?_)
            refine lv_goto (tgt := 33) hx hb dX2_improve_148 (by decide) ?_
            have hPD : PD D A ([kX2 og o1 o2, kI cI o1 2400 sb, kI cI o2 4 db, kX0 fg f1 f2 f3 (nI n9) (nI v), kI cI f1 12 g1, kI cI f2 12 g2, kI cI f3 12 g3, kX5 bk br (nI r9), kQ cR br 9 (fun k => some ((rho k).1.1))] ++ RB cI rho) H := (PD.perm ⟨hP, hD⟩ (permB pm_31)).left
            exact ih_33 (ta + 1) bf sb db (by omega) hbe2 hC2 (IMI_u (hYP.no c_10) hI2) _ _ _ hPD.1 hPD.2 hS (lv_sub hl [1, 2, 3, 4, 5, 6, 7, 8, 0] rfl)
      have hPD : PD D A ([kX2 og o1 o2, kI cI o1 2400 sa, kI cI o2 4 da, kX0 fg f1 f2 f3 (nI n9) (nI v), kI cI f1 12 g1, kI cI f2 12 g2, kI cI f3 12 g3, kX5 bk br (nI r9), kQ cR br 9 (fun k => some ((rho k).1.1))] ++ RB cI rho) H := (PD.perm ⟨hP, hD⟩ (permB pm_19)).left
      exact LOOP_33 v 0 be sa da (by omega) hbe hC hI _ _ _ hPD.1 hPD.2 hS (lv_sub hl [1, 2, 3, 4, 5, 6, 7, 8, 0] rfl)
  have hPD : PD D A ([kX2 og o1 o2, kI cI o1 2400 sf, kI cI o2 4 sd, kX0 fg f1 f2 f3 (nI n9) (nI v), kI cI f1 12 g1, kI cI f2 12 g2, kI cI f3 12 g3, kX5 bk br (nI r9), kQ cR br 9 (fun k => some ((rho k).1.1))] ++ RB cI rho) s.heap := (PD.perm ⟨hP, hD⟩ (permB pm_19)).left
  exact LOOP_21 v 0 0 sf sd (by omega) (Or.inl rfl) (fun _ => rfl) (IMI_0 hT hSo) _ _ _ hPD.1 hPD.2 hS (lv_sub hl [3, 4, 5, 6, 7, 2, 1, 0] rfl)
set_option maxHeartbeats 4000000 in
set_option maxRecDepth 100000 in
theorem c_X2_find (sz : Nat) (og : Nat) (o1 : Nat) (o2 : Nat) (fg : Nat) (f1 : Nat) (f2 : Nat) (f3 : Nat) (n9 : Nat) (v : Nat) (bk : Nat) (br : Nat) (r9 : Nat) (sf : Nat → Int32) (sd : Nat → Int32) (g1 : Nat → Int32) (g2 : Nat → Int32) (g3 : Nat → Int32) (rho : Nat → RT) (hn5 : n9 ≤ 5) (hv5 : v ≤ 5) (hG : GI n9 v g1 g2 g3) (hr : r9 ≤ 9) (hRQ : RRQ rho r9) : CTv l D cI cJ cZ cR yX2_find cX2_find 6 none 5 140 0 0 sz [.ref og, .ref fg, .ref bk] ([kX2 og o1 o2, kI cI o1 2400 sf, kI cI o2 4 sd, kX0 fg f1 f2 f3 (nI n9) (nI v), kI cI f1 12 g1, kI cI f2 12 g2, kI cI f3 12 g3, kX5 bk br (nI r9), kQ cR br 9 (fun k => some ((rho k).1.1))] ++ RB cI rho) (fun (u : (Nat → Int32) × (Nat → Int32)) => (FNI (gC n9 v g1 g2 g3) (rC rho r9) u.1 (2 ^ n9))) (fun (u : (Nat → Int32) × (Nat → Int32)) => ([kX2 og o1 o2, kI cI o1 2400 u.1, kI cI o2 4 u.2, kX0 fg f1 f2 f3 (nI n9) (nI v), kI cI f1 12 g1, kI cI f2 12 g2, kI cI f3 12 g3, kX5 bk br (nI r9), kQ cR br 9 (fun k => some ((rho k).1.1))] ++ RB cI rho)) := by
  refine CTv.of (by decide) (Nat.le_of_ble_eq_true rfl) rfl ?_
  intro p e s m below meth c A Q ls hd hin hK hsz hP hD hA hS hl hret
  obtain ⟨hx, hb, hml, hown, hts⟩ := id hd
  have hK1 := hK.1
  have hown : s.vm.findClass RX2 = some m.cls := hown
  have hl : lv_has ls 6 [(0, .ref og), (1, .ref fg), (2, .ref bk)] := hl
  have h32 := pow_le5 hn5
  have h1p := pow_ge1 (v := n9)
  have hW := rC_wf hRQ
  refine lv_aload_n hx hb dX2_find_0 rfl (lv_at hl 0 rfl) ?_
  refine va_get (D := D) (ci := 2) (v := .ref o1) (C := RX2) (T := TX2) (N := 2) hx hb hts iT_X2 hown hK1 hP 0 rfl rfl 0 (by decide) (hts _ t_123) (fun _ h9 => h9) rfl dX2_find_1 ?_
  refine lv_ldc hx hb hown (hts _ t_388) dX2_find_4 ?_
  have hPD : PD D A ([kI cI o1 2400 sf] ++ ([kX2 og o1 o2, kI cI o2 4 sd, kX0 fg f1 f2 f3 (nI n9) (nI v), kI cI f1 12 g1, kI cI f2 12 g2, kI cI f3 12 g3, kX5 bk br (nI r9), kQ cR br 9 (fun k => some ((rho k).1.1))] ++ RB cI rho)) s.heap := PD.perm ⟨hP, hD⟩ (permA pm_32)
  refine xp_v (wc := [kI cI o1 2400 sf]) (wr := ([kX2 og o1 o2, kI cI o2 4 sd, kX0 fg f1 f2 f3 (nI n9) (nI v), kI cI f1 12 g1, kI cI f2 12 g2, kI cI f3 12 g3, kX5 bk br (nI r9), kQ cR br 9 (fun k => some ((rho k).1.1))] ++ RB cI rho)) (xqS (n := 2) (As := [.ref o1, .int 536870912]) (rest := []) hd hK hPD.left (c_J7_fill_53178 l D cI cJ cZ cR _ o1 2400 sf 536870912 (by decide)) (gS t_389 mS_J7_fill_53178) hS_J7_fill_53178 ⟨(Nat.le_of_ble_eq_true rfl), (Nat.le_of_ble_eq_true rfl)⟩ rfl hl.1 rfl (Nat.le_of_ble_eq_true rfl) dX2_find_6 ⟨(Nat.le_of_ble_eq_true rfl), (Nat.le_of_ble_eq_true rfl)⟩) hPD hS hA (fun u_2 H locs hw_3 hPD hS => ?_)
  obtain ⟨hP, hD⟩ := hPD.perm permA'
  have hP : va_P D vwCl ([kX2 og o1 o2, kI cI o2 4 sd, kX0 fg f1 f2 f3 (nI n9) (nI v), kI cI f1 12 g1, kI cI f2 12 g2, kI cI f3 12 g3, kX5 bk br (nI r9), kQ cR br 9 (fun k => some ((rho k).1.1)), kI cI o1 2400 (fun _ => 536870912)] ++ RB cI rho) H := hP
  have hD : va_D A ([kX2 og o1 o2, kI cI o2 4 sd, kX0 fg f1 f2 f3 (nI n9) (nI v), kI cI f1 12 g1, kI cI f2 12 g2, kI cI f3 12 g3, kX5 bk br (nI r9), kQ cR br 9 (fun k => some ((rho k).1.1)), kI cI o1 2400 (fun _ => 536870912)] ++ RB cI rho) := hD
  refine lv_aload_n hx hb dX2_find_9 rfl (lv_at hl 1 rfl) ?_
  refine va_get (D := D) (ci := 0) (v := .int (nI n9)) (C := RX0) (T := TX0) (N := 5) hx hb hts iT_X0 hown hK1 hP 2 rfl rfl 3 (by decide) (hts _ t_63) (fun _ h9 => h9) rfl dX2_find_10 ?_
  refine lv_iconst (v := 5) hx hb dX2_find_13 (by decide) ?_
  refine lv_icmp_gt (tgt := 25) hx hb dX2_find_14 (by decide) (fun c_4 => ?_) (fun c_4 => ?_)
  · exact absurd c_4 (nI_nlt (a := 5) (b := n9) (by omega) (by omega))
  refine lv_aload_n hx hb dX2_find_17 rfl (lv_at hl 1 rfl) ?_
  refine va_get (D := D) (ci := 0) (v := .int (nI v)) (C := RX0) (T := TX0) (N := 5) hx hb hts iT_X0 hown hK1 hP 2 rfl rfl 4 (by decide) (hts _ t_66) (fun _ h9 => h9) rfl dX2_find_18 ?_
  refine lv_iconst (v := 5) hx hb dX2_find_21 (by decide) ?_
  refine lv_icmp_le (tgt := 26) hx hb dX2_find_22 (by decide) (fun c_5 => ?_) (fun c_5 => ?_)
  rotate_left
  · exact absurd (nI_le (a := v) (b := 5) (by omega) (by omega)) c_5
  refine lv_iconst (v := 1) hx hb dX2_find_26 (by decide) ?_
  refine lv_istore_n (lv' := [(3, .int 1), (0, .ref og), (1, .ref fg), (2, .ref bk)]) hx hb dX2_find_27 rfl hl (by decide) rfl (fun ls hl => ?_)
  have LOOP_28 : ∀ (n : Nat) (se : Nat) (sa : Nat → Int32) (da : Nat → Int32), (se + n = 2 ^ n9) → (1 ≤ se) → (FNI (gC n9 v g1 g2 g3) (rC rho r9) sa se) → ∀ (H : Heap) (locs : List Loc) (ls : Array Slot), va_P D vwCl ([kX2 og o1 o2, kI cI o1 2400 sa, kI cI o2 4 da, kX0 fg f1 f2 f3 (nI n9) (nI v), kI cI f1 12 g1, kI cI f2 12 g2, kI cI f3 12 g3, kX5 bk br (nI r9), kQ cR br 9 (fun k => some ((rho k).1.1))] ++ RB cI rho) H → va_D A ([kX2 og o1 o2, kI cI o1 2400 sa, kI cI o2 4 da, kX0 fg f1 f2 f3 (nI n9) (nI v), kI cI f1 12 g1, kI cI f2 12 g2, kI cI f3 12 g3, kX5 bk br (nI r9), kQ cR br 9 (fun k => some ((rho k).1.1))] ++ RB cI rho) → va_S A s.heap H locs → lv_has ls 6 [(0, .ref og), (1, .ref fg), (2, .ref bk), (3, .int (nI se))] → W p l e (rM 5 0 0 140) s m ([.ref og, .ref fg, .ref bk] : List Value).toArray below meth c H locs 0 0 Q (F0 m 28 ls []) := by
    intro n
    induction n with
    | zero =>
      intro se sa da hse hse1 hF H locs ls hP hD hS hl
      refine lv_iload_n hx hb dX2_find_28 rfl (lv_at hl 3 rfl) ?_
      refine lv_iconst (v := 1) hx hb dX2_find_29 (by decide) ?_
      refine lv_aload_n hx hb dX2_find_30 rfl (lv_at hl 1 rfl) ?_
      refine va_get (D := D) (ci := 0) (v := .int (nI n9)) (C := RX0) (T := TX0) (N := 5) hx hb hts iT_X0 hown hK1 hP 3 rfl rfl 3 (by decide) (hts _ t_63) (fun _ h9 => h9) rfl dX2_find_31 ?_
      refine lv_ishl hx hb dX2_find_34 ?_
      refine lv_nmi (show _ = (nI (2 ^ n9) : Int32) from shl1 (by omega)) ?_
      refine lv_icmp_ge (tgt := 85) hx hb dX2_find_35 (by decide) (fun c_6 => ?_) (fun c_6 => ?_)
      rotate_left
      · exact absurd (nI_le (a := (2 ^ n9)) (b := se) (by omega) (by omega)) c_6
      have hPD : PD D A ([kX2 og o1 o2, kI cI o1 2400 sa, kI cI o2 4 da, kX0 fg f1 f2 f3 (nI n9) (nI v), kI cI f1 12 g1, kI cI f2 12 g2, kI cI f3 12 g3, kX5 bk br (nI r9), kQ cR br 9 (fun k => some ((rho k).1.1))] ++ RB cI rho) H := (PD.perm ⟨hP, hD⟩ (permB pm_19)).left
      exact hret _ _ _ _ _ _ (sa, da) dX2_find_85 hS (Nat.le_of_ble_eq_true rfl) (Nat.le_of_ble_eq_true rfl) (by rw [show 2 ^ n9 = se by omega]; exact hF) hPD.1 hPD.2
    | succ n ih_28 =>
      intro se sa da hse hse1 hF H locs ls hP hD hS hl
      refine lv_iload_n hx hb dX2_find_28 rfl (lv_at hl 3 rfl) ?_
      refine lv_iconst (v := 1) hx hb dX2_find_29 (by decide) ?_
      refine lv_aload_n hx hb dX2_find_30 rfl (lv_at hl 1 rfl) ?_
      refine va_get (D := D) (ci := 0) (v := .int (nI n9)) (C := RX0) (T := TX0) (N := 5) hx hb hts iT_X0 hown hK1 hP 3 rfl rfl 3 (by decide) (hts _ t_63) (fun _ h9 => h9) rfl dX2_find_31 ?_
      refine lv_ishl hx hb dX2_find_34 ?_
      refine lv_nmi (show _ = (nI (2 ^ n9) : Int32) from shl1 (by omega)) ?_
      refine lv_icmp_ge (tgt := 85) hx hb dX2_find_35 (by decide) (fun c_7 => ?_) (fun c_7 => ?_)
      · exact absurd c_7 (nI_ge (a := se) (b := (2 ^ n9)) (by omega) (by omega))
      refine lv_aload_n hx hb dX2_find_38 rfl (lv_at hl 0 rfl) ?_
      refine lv_aload_n hx hb dX2_find_39 rfl (lv_at hl 1 rfl) ?_
      refine lv_iload_n hx hb dX2_find_40 rfl (lv_at hl 3 rfl) ?_
      refine lv_aload_n hx hb dX2_find_41 rfl (lv_at hl 2 rfl) ?_
      refine lv_iconst (v := 0) hx hb dX2_find_42 (by decide) ?_
      have hPD : PD D A (([kX2 og o1 o2, kI cI o1 2400 sa, kI cI o2 4 da, kX0 fg f1 f2 f3 (nI n9) (nI v), kI cI f1 12 g1, kI cI f2 12 g2, kI cI f3 12 g3, kX5 bk br (nI r9), kQ cR br 9 (fun k => some ((rho k).1.1))] ++ RB cI rho) ++ []) H := PD.perm ⟨hP, hD⟩ (permB pm_19)
      refine xp_i (wc := ([kX2 og o1 o2, kI cI o1 2400 sa, kI cI o2 4 da, kX0 fg f1 f2 f3 (nI n9) (nI v), kI cI f1 12 g1, kI cI f2 12 g2, kI cI f3 12 g3, kX5 bk br (nI r9), kQ cR br 9 (fun k => some ((rho k).1.1))] ++ RB cI rho)) (wr := []) (xqV (n := 4) (As := [.ref fg, .int (nI se), .ref bk, .int 0]) (rest := []) (ci := 2) (q0 := 0) hd hK hPD.left (g_improve_0 l D cI cJ cZ cR _ og o1 o2 fg f1 f2 f3 n9 v bk br r9 sa da g1 g2 g3 rho se hn5 hv5 hG hr hRQ hF.1 hF.2.1 (by omega)) (gV t_392 mV_X2_improve) hV_X2_improve ⟨(Nat.le_of_ble_eq_true rfl), (Nat.le_of_ble_eq_true rfl)⟩ rfl rfl rfl hl.1 rfl (Nat.le_of_ble_eq_true rfl) dX2_find_43 ⟨(Nat.le_of_ble_eq_true rfl), (Nat.le_of_ble_eq_true rfl)⟩) hPD hS hA (fun r_8 u_9 H locs hw_10 hPD hS => ?_)
      obtain ⟨s2_11, d2_12⟩ := u_9
      obtain ⟨hw_13, hw_14, hw_15⟩ : (r_8 = 0 ∨ r_8 = 1) ∧ (r_8 = 0 → s2_11 = sa) ∧ (IME (gC n9 v g1 g2 g3) (rC rho r9) sa s2_11 se (zpc se)) := hw_10
      have hC0 := hw_14
      have hE0 := hw_15
      obtain ⟨hP, hD⟩ := hPD.perm permB'
      have hP : va_P D vwCl ([kX2 og o1 o2, kI cI o1 2400 s2_11, kI cI o2 4 d2_12, kX0 fg f1 f2 f3 (nI n9) (nI v), kI cI f1 12 g1, kI cI f2 12 g2, kI cI f3 12 g3, kX5 bk br (nI r9), kQ cR br 9 (fun k => some ((rho k).1.1))] ++ RB cI rho) H := hP
      have hD : va_D A ([kX2 og o1 o2, kI cI o1 2400 s2_11, kI cI o2 4 d2_12, kX0 fg f1 f2 f3 (nI n9) (nI v), kI cI f1 12 g1, kI cI f2 12 g2, kI cI f3 12 g3, kX5 bk br (nI r9), kQ cR br 9 (fun k => some ((rho k).1.1))] ++ RB cI rho) := hD
      refine lv_istore (lv' := [(4, .int r_8), (0, .ref og), (1, .ref fg), (2, .ref bk), (3, .int (nI se))]) hx hb dX2_find_46 hl (by decide) rfl (fun ls hl => ?_)
      refine lv_iconst (v := 1) hx hb dX2_find_48 (by decide) ?_
      refine lv_istore (lv' := [(5, .int 1), (4, .int r_8), (0, .ref og), (1, .ref fg), (2, .ref bk), (3, .int (nI se))]) hx hb dX2_find_49 hl (by decide) rfl (fun ls hl => ?_)
      have LOOP_51 : ∀ (n : Nat) (rd : Nat) (bt : Int32) (sb : Nat → Int32) (db : Nat → Int32), (rd + n = 6) → (FRD (gC n9 v g1 g2 g3) (rC rho r9) sb se rd bt) → ∀ (H : Heap) (locs : List Loc) (ls : Array Slot), va_P D vwCl ([kX2 og o1 o2, kI cI o1 2400 sb, kI cI o2 4 db, kX0 fg f1 f2 f3 (nI n9) (nI v), kI cI f1 12 g1, kI cI f2 12 g2, kI cI f3 12 g3, kX5 bk br (nI r9), kQ cR br 9 (fun k => some ((rho k).1.1))] ++ RB cI rho) H → va_D A ([kX2 og o1 o2, kI cI o1 2400 sb, kI cI o2 4 db, kX0 fg f1 f2 f3 (nI n9) (nI v), kI cI f1 12 g1, kI cI f2 12 g2, kI cI f3 12 g3, kX5 bk br (nI r9), kQ cR br 9 (fun k => some ((rho k).1.1))] ++ RB cI rho) → va_S A s.heap H locs → lv_has ls 6 [(0, .ref og), (1, .ref fg), (2, .ref bk), (3, .int (nI se)), (4, .int bt), (5, .int (nI rd))] → W p l e (rM 5 0 0 140) s m ([.ref og, .ref fg, .ref bk] : List Value).toArray below meth c H locs 0 0 Q (F0 m 51 ls []) := by
        intro n
        induction n with
        | zero =>
          intro rd bt sb db hrd hR H locs ls hP hD hS hl
          refine lv_iload hx hb dX2_find_51 (lv_at hl 4 rfl) ?_
          refine lv_if_eq (tgt := 79) hx hb dX2_find_53 (by decide) (fun c_16 => ?_) (fun c_16 => ?_)
          · skip
            refine lv_iinc (v := nI (se + 1)) (lv' := [(3, .int (nI (se + 1))), (0, .ref og), (1, .ref fg), (2, .ref bk), (4, .int bt), (5, .int (nI rd))]) hx hb dX2_find_79 hl (k := 3) rfl (nI_1 se) (by decide) rfl (fun ls hl => ?_)
            refine lv_goto (tgt := 28) hx hb dX2_find_82 (by decide) ?_
            have hPD : PD D A ([kX2 og o1 o2, kI cI o1 2400 sb, kI cI o2 4 db, kX0 fg f1 f2 f3 (nI n9) (nI v), kI cI f1 12 g1, kI cI f2 12 g2, kI cI f3 12 g3, kX5 bk br (nI r9), kQ cR br 9 (fun k => some ((rho k).1.1))] ++ RB cI rho) H := (PD.perm ⟨hP, hD⟩ (permB pm_19)).left
            exact ih_28 (se + 1) sb db (by omega) (by omega) (FRD_0 hW hR c_16) _ _ _ hPD.1 hPD.2 hS (lv_sub hl [1, 2, 3, 0] rfl)
          · skip
            refine lv_iload hx hb dX2_find_56 (lv_at hl 5 rfl) ?_
            refine lv_bipush (v := 6) hx hb dX2_find_58 (by decide) ?_
            refine lv_icmp_ge (tgt := 79) hx hb dX2_find_60 (by decide) (fun c_17 => ?_) (fun c_17 => ?_)
            rotate_left
            · exact absurd (nI_le (a := 6) (b := rd) (by omega) (by omega)) c_17
            refine lv_iinc (v := nI (se + 1)) (lv' := [(3, .int (nI (se + 1))), (0, .ref og), (1, .ref fg), (2, .ref bk), (4, .int bt), (5, .int (nI rd))]) hx hb dX2_find_79 hl (k := 3) rfl (nI_1 se) (by decide) rfl (fun ls hl => ?_)
            refine lv_goto (tgt := 28) hx hb dX2_find_82 (by decide) ?_
            have hPD : PD D A ([kX2 og o1 o2, kI cI o1 2400 sb, kI cI o2 4 db, kX0 fg f1 f2 f3 (nI n9) (nI v), kI cI f1 12 g1, kI cI f2 12 g2, kI cI f3 12 g3, kX5 bk br (nI r9), kQ cR br 9 (fun k => some ((rho k).1.1))] ++ RB cI rho) H := (PD.perm ⟨hP, hD⟩ (permB pm_19)).left
            exact ih_28 (se + 1) sb db (by omega) (by omega) (FRD_6 (by omega) hR) _ _ _ hPD.1 hPD.2 hS (lv_sub hl [1, 2, 3, 0] rfl)
        | succ n ih_51 =>
          intro rd bt sb db hrd hR H locs ls hP hD hS hl
          refine lv_iload hx hb dX2_find_51 (lv_at hl 4 rfl) ?_
          refine lv_if_eq (tgt := 79) hx hb dX2_find_53 (by decide) (fun c_18 => ?_) (fun c_18 => ?_)
          · skip
            refine lv_iinc (v := nI (se + 1)) (lv' := [(3, .int (nI (se + 1))), (0, .ref og), (1, .ref fg), (2, .ref bk), (4, .int bt), (5, .int (nI rd))]) hx hb dX2_find_79 hl (k := 3) rfl (nI_1 se) (by decide) rfl (fun ls hl => ?_)
            refine lv_goto (tgt := 28) hx hb dX2_find_82 (by decide) ?_
            have hPD : PD D A ([kX2 og o1 o2, kI cI o1 2400 sb, kI cI o2 4 db, kX0 fg f1 f2 f3 (nI n9) (nI v), kI cI f1 12 g1, kI cI f2 12 g2, kI cI f3 12 g3, kX5 bk br (nI r9), kQ cR br 9 (fun k => some ((rho k).1.1))] ++ RB cI rho) H := (PD.perm ⟨hP, hD⟩ (permB pm_19)).left
            exact ih_28 (se + 1) sb db (by omega) (by omega) (FRD_0 hW hR c_18) _ _ _ hPD.1 hPD.2 hS (lv_sub hl [1, 2, 3, 0] rfl)
          · skip
            refine lv_iload hx hb dX2_find_56 (lv_at hl 5 rfl) ?_
            refine lv_bipush (v := 6) hx hb dX2_find_58 (by decide) ?_
            refine lv_icmp_ge (tgt := 79) hx hb dX2_find_60 (by decide) (fun c_19 => ?_) (fun c_19 => ?_)
            · exact absurd c_19 (nI_ge (a := rd) (b := 6) (by omega) (by omega))
            refine lv_aload_n hx hb dX2_find_63 rfl (lv_at hl 0 rfl) ?_
            refine lv_aload_n hx hb dX2_find_64 rfl (lv_at hl 1 rfl) ?_
            refine lv_iload_n hx hb dX2_find_65 rfl (lv_at hl 3 rfl) ?_
            refine lv_aload_n hx hb dX2_find_66 rfl (lv_at hl 2 rfl) ?_
            refine lv_iconst (v := 1) hx hb dX2_find_67 (by decide) ?_
            have hPD : PD D A (([kX2 og o1 o2, kI cI o1 2400 sb, kI cI o2 4 db, kX0 fg f1 f2 f3 (nI n9) (nI v), kI cI f1 12 g1, kI cI f2 12 g2, kI cI f3 12 g3, kX5 bk br (nI r9), kQ cR br 9 (fun k => some ((rho k).1.1))] ++ RB cI rho) ++ []) H := PD.perm ⟨hP, hD⟩ (permB pm_19)
            refine xp_i (wc := ([kX2 og o1 o2, kI cI o1 2400 sb, kI cI o2 4 db, kX0 fg f1 f2 f3 (nI n9) (nI v), kI cI f1 12 g1, kI cI f2 12 g2, kI cI f3 12 g3, kX5 bk br (nI r9), kQ cR br 9 (fun k => some ((rho k).1.1))] ++ RB cI rho)) (wr := []) (xqV (n := 4) (As := [.ref fg, .int (nI se), .ref bk, .int 1]) (rest := []) (ci := 2) (q0 := 0) hd hK hPD.left (g_improve_1 l D cI cJ cZ cR _ og o1 o2 fg f1 f2 f3 n9 v bk br r9 sb db g1 g2 g3 rho se hn5 hv5 hG hr hRQ hR.1.1 hR.1.2.1 (by omega)) (gV t_392 mV_X2_improve) hV_X2_improve ⟨(Nat.le_of_ble_eq_true rfl), (Nat.le_of_ble_eq_true rfl)⟩ rfl rfl rfl hl.1 rfl (Nat.le_of_ble_eq_true rfl) dX2_find_68 ⟨(Nat.le_of_ble_eq_true rfl), (Nat.le_of_ble_eq_true rfl)⟩) hPD hS hA (fun r_20 u_21 H locs hw_22 hPD hS => ?_)
            obtain ⟨s2_23, d2_24⟩ := u_21
            obtain ⟨hw_25, hw_26, hw_27⟩ : (r_20 = 0 ∨ r_20 = 1) ∧ (r_20 = 0 → s2_23 = sb) ∧ (IME (gC n9 v g1 g2 g3) (rC rho r9) sb s2_23 se 1) := hw_22
            have hC1 := hw_26
            have hE1 := hw_27
            obtain ⟨hP, hD⟩ := hPD.perm permB'
            have hP : va_P D vwCl ([kX2 og o1 o2, kI cI o1 2400 s2_23, kI cI o2 4 d2_24, kX0 fg f1 f2 f3 (nI n9) (nI v), kI cI f1 12 g1, kI cI f2 12 g2, kI cI f3 12 g3, kX5 bk br (nI r9), kQ cR br 9 (fun k => some ((rho k).1.1))] ++ RB cI rho) H := hP
            have hD : va_D A ([kX2 og o1 o2, kI cI o1 2400 s2_23, kI cI o2 4 d2_24, kX0 fg f1 f2 f3 (nI n9) (nI v), kI cI f1 12 g1, kI cI f2 12 g2, kI cI f3 12 g3, kX5 bk br (nI r9), kQ cR br 9 (fun k => some ((rho k).1.1))] ++ RB cI rho) := hD
            refine lv_istore (lv' := [(4, .int r_20), (0, .ref og), (1, .ref fg), (2, .ref bk), (3, .int (nI se)), (5, .int (nI rd))]) hx hb dX2_find_71 hl (by decide) rfl (fun ls hl => ?_)
            refine lv_iinc (v := nI (rd + 1)) (lv' := [(5, .int (nI (rd + 1))), (4, .int r_20), (0, .ref og), (1, .ref fg), (2, .ref bk), (3, .int (nI se))]) hx hb dX2_find_73 hl (k := 5) rfl (nI_1 rd) (by decide) rfl (fun ls hl => ?_)
            refine lv_goto (tgt := 51) hx hb dX2_find_76 (by decide) ?_
            have hPD : PD D A ([kX2 og o1 o2, kI cI o1 2400 s2_23, kI cI o2 4 d2_24, kX0 fg f1 f2 f3 (nI n9) (nI v), kI cI f1 12 g1, kI cI f2 12 g2, kI cI f3 12 g3, kX5 bk br (nI r9), kQ cR br 9 (fun k => some ((rho k).1.1))] ++ RB cI rho) H := (PD.perm ⟨hP, hD⟩ (permB pm_19)).left
            exact ih_51 (rd + 1) r_20 s2_23 d2_24 (by omega) (FRD_s hG hv5 hW (by omega) (by omega) hR hE1 hC1) _ _ _ hPD.1 hPD.2 hS (lv_sub hl [2, 3, 4, 5, 1, 0] rfl)
      have hPD : PD D A ([kX2 og o1 o2, kI cI o1 2400 s2_11, kI cI o2 4 d2_12, kX0 fg f1 f2 f3 (nI n9) (nI v), kI cI f1 12 g1, kI cI f2 12 g2, kI cI f3 12 g3, kX5 bk br (nI r9), kQ cR br 9 (fun k => some ((rho k).1.1))] ++ RB cI rho) H := (PD.perm ⟨hP, hD⟩ (permB pm_19)).left
      exact LOOP_51 5 1 r_8 s2_11 d2_12 (by omega) (FRD_1 hG hv5 hW (by omega) hse1 hF hE0 hC0) _ _ _ hPD.1 hPD.2 hS (lv_sub hl [2, 3, 4, 5, 1, 0] rfl)
  have hPD : PD D A ([kX2 og o1 o2, kI cI o1 2400 (fun _ => 536870912), kI cI o2 4 sd, kX0 fg f1 f2 f3 (nI n9) (nI v), kI cI f1 12 g1, kI cI f2 12 g2, kI cI f3 12 g3, kX5 bk br (nI r9), kQ cR br 9 (fun k => some ((rho k).1.1))] ++ RB cI rho) H := (PD.perm ⟨hP, hD⟩ (permB pm_33)).left
  exact LOOP_28 (2 ^ n9 - 1) 1 (fun _ => 536870912) sd (by omega) (by omega) FNI_1 _ _ _ hPD.1 hPD.2 hS (lv_sub hl [1, 2, 3, 0] rfl)
end
