theorem mV_X1_combine : Cond.instanceMethod yX1_combine ∈ gT ∧ Cond.selects RX1 yX1_combine yX1_combine ∈ gT ∧ Cond.initialized RX1 ∈ gT ∧ Cond.code yX1_combine cX1_combine 13 none ∈ gT := ⟨t_485, ts_24, t_7, t_486⟩
theorem hV_X1_combine : yX1_combine.cls = RX1 ∧ yX1_combine.cls ≠ "java/lang/invoke/MethodHandle" ∧ yX1_combine.cls ≠ "java/lang/invoke/VarHandle" ∧ (parseMethodDescriptor yX1_combine.desc).map (fun d => d.parameters.length) = some 4 := by decide +kernel
theorem mV_X1_spread : Cond.instanceMethod yX1_spread ∈ gT ∧ Cond.selects RX1 yX1_spread yX1_spread ∈ gT ∧ Cond.initialized RX1 ∈ gT ∧ Cond.code yX1_spread cX1_spread 6 none ∈ gT := ⟨t_481, ts_23, t_7, t_482⟩
theorem hV_X1_spread : yX1_spread.cls = RX1 ∧ yX1_spread.cls ≠ "java/lang/invoke/MethodHandle" ∧ yX1_spread.cls ≠ "java/lang/invoke/VarHandle" ∧ (parseMethodDescriptor yX1_spread.desc).map (fun d => d.parameters.length) = some 4 := by decide +kernel
theorem mV_X1_find : Cond.instanceMethod yX1_find ∈ gT ∧ Cond.selects RX1 yX1_find yX1_find ∈ gT ∧ Cond.initialized RX1 ∈ gT ∧ Cond.code yX1_find cX1_find 5 none ∈ gT := ⟨t_455, t_456, t_7, t_457⟩
theorem hV_X1_find : yX1_find.cls = RX1 ∧ yX1_find.cls ≠ "java/lang/invoke/MethodHandle" ∧ yX1_find.cls ≠ "java/lang/invoke/VarHandle" ∧ (parseMethodDescriptor yX1_find.desc).map (fun d => d.parameters.length) = some 1 := by decide +kernel
theorem mV_X6_bringLights : Cond.instanceMethod yX6_bringLights ∈ gT ∧ Cond.selects RX6 yX6_bringLights yX6_bringLights ∈ gT ∧ Cond.initialized RX6 ∈ gT ∧ Cond.code yX6_bringLights cX6_bringLights 1 none ∈ gT := ⟨t_452, ts_18, t_1, t_453⟩
theorem hV_X6_bringLights : yX6_bringLights.cls = RX6 ∧ yX6_bringLights.cls ≠ "java/lang/invoke/MethodHandle" ∧ yX6_bringLights.cls ≠ "java/lang/invoke/VarHandle" ∧ (parseMethodDescriptor yX6_bringLights.desc).map (fun d => d.parameters.length) = some 0 := by decide +kernel
theorem mV_X1_reaches : Cond.instanceMethod yX1_reaches ∈ gT ∧ Cond.selects RX1 yX1_reaches yX1_reaches ∈ gT ∧ Cond.initialized RX1 ∈ gT ∧ Cond.code yX1_reaches cX1_reaches 3 (some .boolean) ∈ gT := ⟨t_504, t_505, t_7, t_506⟩
theorem hV_X1_reaches : yX1_reaches.cls = RX1 ∧ yX1_reaches.cls ≠ "java/lang/invoke/MethodHandle" ∧ yX1_reaches.cls ≠ "java/lang/invoke/VarHandle" ∧ (parseMethodDescriptor yX1_reaches.desc).map (fun d => d.parameters.length) = some 2 := by decide +kernel
theorem mV_X1_stepsTo : Cond.instanceMethod yX1_stepsTo ∈ gT ∧ Cond.selects RX1 yX1_stepsTo yX1_stepsTo ∈ gT ∧ Cond.initialized RX1 ∈ gT ∧ Cond.code yX1_stepsTo cX1_stepsTo 3 (some .int) ∈ gT := ⟨t_512, t_513, t_7, t_514⟩
theorem hV_X1_stepsTo : yX1_stepsTo.cls = RX1 ∧ yX1_stepsTo.cls ≠ "java/lang/invoke/MethodHandle" ∧ yX1_stepsTo.cls ≠ "java/lang/invoke/VarHandle" ∧ (parseMethodDescriptor yX1_stepsTo.desc).map (fun d => d.parameters.length) = some 2 := by decide +kernel
theorem mV_X1_firstTo : Cond.instanceMethod yX1_firstTo ∈ gT ∧ Cond.selects RX1 yX1_firstTo yX1_firstTo ∈ gT ∧ Cond.initialized RX1 ∈ gT ∧ Cond.code yX1_firstTo cX1_firstTo 3 (some .int) ∈ gT := ⟨t_521, t_522, t_7, t_523⟩
theorem hV_X1_firstTo : yX1_firstTo.cls = RX1 ∧ yX1_firstTo.cls ≠ "java/lang/invoke/MethodHandle" ∧ yX1_firstTo.cls ≠ "java/lang/invoke/VarHandle" ∧ (parseMethodDescriptor yX1_firstTo.desc).map (fun d => d.parameters.length) = some 2 := by decide +kernel
theorem mV_X6_kinds : Cond.instanceMethod yX6_kinds ∈ gT ∧ Cond.selects RX6 yX6_kinds yX6_kinds ∈ gT ∧ Cond.initialized RX6 ∈ gT ∧ Cond.code yX6_kinds cX6_kinds 4 (some .int) ∈ gT := ⟨t_447, t_448, t_1, t_449⟩
theorem hV_X6_kinds : yX6_kinds.cls = RX6 ∧ yX6_kinds.cls ≠ "java/lang/invoke/MethodHandle" ∧ yX6_kinds.cls ≠ "java/lang/invoke/VarHandle" ∧ (parseMethodDescriptor yX6_kinds.desc).map (fun d => d.parameters.length) = some 1 := by decide +kernel
theorem mV_X6_light : Cond.instanceMethod yX6_light ∈ gT ∧ Cond.selects RX6 yX6_light yX6_light ∈ gT ∧ Cond.initialized RX6 ∈ gT ∧ Cond.code yX6_light cX6_light 4 (some .int) ∈ gT := ⟨t_508, t_509, t_1, t_510⟩
theorem hV_X6_light : yX6_light.cls = RX6 ∧ yX6_light.cls ≠ "java/lang/invoke/MethodHandle" ∧ yX6_light.cls ≠ "java/lang/invoke/VarHandle" ∧ (parseMethodDescriptor yX6_light.desc).map (fun d => d.parameters.length) = some 3 := by decide +kernel
theorem pm_13 {c0 c1 c2 c3 c4 c5 c6 c7 : Nat × va_E} : List.Perm ([c0, c1, c2, c3, c4, c5, c6, c7] : va_W) ([c0, c1, c2, c3, c4, c5] ++ [c6, c7]) := pick_perm 8 rfl [0, 1, 2, 3, 4, 5] [6, 7] (by decide +kernel) rfl rfl
theorem pm_14 {c0 c1 c2 c3 c4 c5 c6 c7 : Nat × va_E} : List.Perm ([c0, c1, c2, c3, c4, c5, c6, c7] : va_W) ([c2, c3, c4, c5, c6, c7] ++ [c0, c1]) := pick_perm 8 rfl [2, 3, 4, 5, 6, 7] [0, 1] (by decide +kernel) rfl rfl
theorem pm_15 {c0 c1 c2 c3 c4 c5 c6 c7 : Nat × va_E} : List.Perm ([c0, c1, c2, c3, c4, c5, c6, c7] : va_W) ([c0, c1, c2, c3, c4, c5, c6, c7] ++ []) := pick_perm 8 rfl [0, 1, 2, 3, 4, 5, 6, 7] [] (by decide +kernel) rfl rfl
theorem pm_16 {c0 c1 c2 c3 c4 c5 c6 c7 : Nat × va_E} : List.Perm ([c0, c1, c2, c3, c4, c5, c6, c7] : va_W) ([c2, c3, c4, c5, c6, c7, c0, c1] ++ []) := pick_perm 8 rfl [2, 3, 4, 5, 6, 7, 0, 1] [] (by decide +kernel) rfl rfl
theorem pm_17 {c0 c1 c2 c3 c4 c5 c6 c7 c8 c9 c10 c11 c12 c13 c14 c15 : Nat × va_E} : List.Perm ([c0, c1, c2, c3, c4, c5, c6, c7, c8, c9, c10, c11, c12, c13, c14, c15] : va_W) ([c2, c3, c4, c5, c6, c7, c8, c9, c10, c11, c12, c13, c14, c15] ++ [c0, c1]) := pick_perm 16 rfl [2, 3, 4, 5, 6, 7, 8, 9, 10, 11, 12, 13, 14, 15] [0, 1] (by decide +kernel) rfl rfl
theorem pm_18 {c0 c1 c2 c3 c4 c5 c6 c7 c8 c9 c10 c11 c12 c13 c14 c15 : Nat × va_E} : List.Perm ([c0, c1, c2, c3, c4, c5, c6, c7, c8, c9, c10, c11, c12, c13, c14, c15] : va_W) ([c0, c1, c2, c3, c4, c5, c6, c7, c8, c9, c10, c11, c12, c13, c14, c15] ++ []) := pick_perm 16 rfl [0, 1, 2, 3, 4, 5, 6, 7, 8, 9, 10, 11, 12, 13, 14, 15] [] (by decide +kernel) rfl rfl
theorem pm_19 {c0 c1 c2 c3 c4 c5 c6 c7 c8 : Nat × va_E} : List.Perm ([c0, c1, c2, c3, c4, c5, c6, c7, c8] : va_W) ([c0, c1, c2, c3, c4, c5, c6, c7, c8] ++ []) := pick_perm 9 rfl [0, 1, 2, 3, 4, 5, 6, 7, 8] [] (by decide +kernel) rfl rfl
theorem pm_20 {c0 c1 c2 c3 c4 c5 c6 c7 c8 : Nat × va_E} : List.Perm ([c0, c1, c2, c3, c4, c5, c6, c7, c8] : va_W) ([c1, c2, c3, c4, c5, c6, c7, c8] ++ [c0]) := pick_perm 9 rfl [1, 2, 3, 4, 5, 6, 7, 8] [0] (by decide +kernel) rfl rfl
theorem pm_21 {c0 c1 c2 c3 c4 c5 c6 c7 c8 : Nat × va_E} : List.Perm ([c0, c1, c2, c3, c4, c5, c6, c7, c8] : va_W) ([] ++ [c0, c1, c2, c3, c4, c5, c6, c7, c8]) := pick_perm 9 rfl [] [0, 1, 2, 3, 4, 5, 6, 7, 8] (by decide +kernel) rfl rfl
theorem pm_22 {c0 c1 c2 c3 c4 c5 c6 c7 c8 : Nat × va_E} : List.Perm ([c0, c1, c2, c3, c4, c5, c6, c7, c8] : va_W) ([c1, c2, c3, c4, c5, c6] ++ [c0, c7, c8]) := pick_perm 9 rfl [1, 2, 3, 4, 5, 6] [0, 7, 8] (by decide +kernel) rfl rfl
theorem pm_23 {c0 c1 c2 c3 c4 c5 c6 c7 c8 : Nat × va_E} : List.Perm ([c0, c1, c2, c3, c4, c5, c6, c7, c8] : va_W) ([c0, c3, c4, c5, c6, c7, c8, c1, c2] ++ []) := pick_perm 9 rfl [0, 3, 4, 5, 6, 7, 8, 1, 2] [] (by decide +kernel) rfl rfl
theorem dX1_combine_0 : decode cX1_combine 0 = .ok (.iconst 0, 1) := by decide +kernel
theorem dX1_combine_1 : decode cX1_combine 1 = .ok (.istore 5, 2) := by decide +kernel
theorem dX1_combine_3 : decode cX1_combine 3 = .ok (.iload 5, 2) := by decide +kernel
theorem dX1_combine_5 : decode cX1_combine 5 = .ok (.aload_n 0, 1) := by decide +kernel
theorem dX1_combine_6 : decode cX1_combine 6 = .ok (.aload_n 1, 1) := by decide +kernel
theorem dX1_combine_7 : decode cX1_combine 7 = .ok (.iconst 0, 1) := by decide +kernel
theorem dX1_combine_8 : decode cX1_combine 8 = .ok (.iload_n 3, 1) := by decide +kernel
theorem dX1_combine_9 : decode cX1_combine 9 = .ok (.invokevirtual 91, 3) := by decide +kernel
theorem dX1_combine_12 : decode cX1_combine 12 = .ok (.if_icmp .ge 161, 3) := by decide +kernel
theorem dX1_combine_15 : decode cX1_combine 15 = .ok (.iload_n 3, 1) := by decide +kernel
theorem dX1_combine_16 : decode cX1_combine 16 = .ok (.ifCond .ne 8, 3) := by decide +kernel
theorem dX1_combine_19 : decode cX1_combine 19 = .ok (.iload 4, 2) := by decide +kernel
theorem dX1_combine_21 : decode cX1_combine 21 = .ok (.goto 11, 3) := by decide +kernel
theorem dX1_combine_24 : decode cX1_combine 24 = .ok (.aload_n 0, 1) := by decide +kernel
theorem dX1_combine_25 : decode cX1_combine 25 = .ok (.aload_n 1, 1) := by decide +kernel
theorem dX1_combine_26 : decode cX1_combine 26 = .ok (.iconst 0, 1) := by decide +kernel
theorem dX1_combine_27 : decode cX1_combine 27 = .ok (.iload 5, 2) := by decide +kernel
theorem dX1_combine_29 : decode cX1_combine 29 = .ok (.invokevirtual 95, 3) := by decide +kernel
theorem dX1_combine_32 : decode cX1_combine 32 = .ok (.istore 6, 2) := by decide +kernel
theorem dX1_combine_34 : decode cX1_combine 34 = .ok (.iconst 0, 1) := by decide +kernel
theorem dX1_combine_35 : decode cX1_combine 35 = .ok (.istore 7, 2) := by decide +kernel
theorem dX1_combine_37 : decode cX1_combine 37 = .ok (.iload 7, 2) := by decide +kernel
theorem dX1_combine_39 : decode cX1_combine 39 = .ok (.aload_n 0, 1) := by decide +kernel
theorem dX1_combine_40 : decode cX1_combine 40 = .ok (.aload_n 1, 1) := by decide +kernel
theorem dX1_combine_41 : decode cX1_combine 41 = .ok (.iconst 1, 1) := by decide +kernel
theorem dX1_combine_42 : decode cX1_combine 42 = .ok (.iload_n 3, 1) := by decide +kernel
theorem dX1_combine_43 : decode cX1_combine 43 = .ok (.invokevirtual 91, 3) := by decide +kernel
theorem dX1_combine_46 : decode cX1_combine 46 = .ok (.if_icmp .ge 121, 3) := by decide +kernel
theorem dX1_combine_49 : decode cX1_combine 49 = .ok (.iload_n 3, 1) := by decide +kernel
theorem dX1_combine_50 : decode cX1_combine 50 = .ok (.iconst 1, 1) := by decide +kernel
theorem dX1_combine_51 : decode cX1_combine 51 = .ok (.if_icmp .ne 8, 3) := by decide +kernel
theorem dX1_combine_54 : decode cX1_combine 54 = .ok (.iload 4, 2) := by decide +kernel
theorem dX1_combine_56 : decode cX1_combine 56 = .ok (.goto 11, 3) := by decide +kernel
theorem dX1_combine_59 : decode cX1_combine 59 = .ok (.aload_n 0, 1) := by decide +kernel
theorem dX1_combine_60 : decode cX1_combine 60 = .ok (.aload_n 1, 1) := by decide +kernel
theorem dX1_combine_61 : decode cX1_combine 61 = .ok (.iconst 1, 1) := by decide +kernel
theorem dX1_combine_62 : decode cX1_combine 62 = .ok (.iload 7, 2) := by decide +kernel
theorem dX1_combine_64 : decode cX1_combine 64 = .ok (.invokevirtual 95, 3) := by decide +kernel
theorem dX1_combine_67 : decode cX1_combine 67 = .ok (.istore 8, 2) := by decide +kernel
theorem dX1_combine_69 : decode cX1_combine 69 = .ok (.lconst 1, 1) := by decide +kernel
theorem dX1_combine_70 : decode cX1_combine 70 = .ok (.aload_n 0, 1) := by decide +kernel
theorem dX1_combine_71 : decode cX1_combine 71 = .ok (.aload_n 1, 1) := by decide +kernel
theorem dX1_combine_72 : decode cX1_combine 72 = .ok (.iconst 0, 1) := by decide +kernel
theorem dX1_combine_73 : decode cX1_combine 73 = .ok (.iload 6, 2) := by decide +kernel
theorem dX1_combine_75 : decode cX1_combine 75 = .ok (.invokevirtual 98, 3) := by decide +kernel
theorem dX1_combine_78 : decode cX1_combine 78 = .ok (.ladd, 1) := by decide +kernel
theorem dX1_combine_79 : decode cX1_combine 79 = .ok (.aload_n 0, 1) := by decide +kernel
theorem dX1_combine_80 : decode cX1_combine 80 = .ok (.aload_n 1, 1) := by decide +kernel
theorem dX1_combine_81 : decode cX1_combine 81 = .ok (.iconst 1, 1) := by decide +kernel
theorem dX1_combine_82 : decode cX1_combine 82 = .ok (.iload 8, 2) := by decide +kernel
theorem dX1_combine_84 : decode cX1_combine 84 = .ok (.invokevirtual 98, 3) := by decide +kernel
theorem dX1_combine_87 : decode cX1_combine 87 = .ok (.ladd, 1) := by decide +kernel
theorem dX1_combine_88 : decode cX1_combine 88 = .ok (.lstore 9, 2) := by decide +kernel
theorem dX1_combine_90 : decode cX1_combine 90 = .ok (.iconst 0, 1) := by decide +kernel
theorem dX1_combine_91 : decode cX1_combine 91 = .ok (.istore 11, 2) := by decide +kernel
theorem dX1_combine_93 : decode cX1_combine 93 = .ok (.iload 11, 2) := by decide +kernel
theorem dX1_combine_95 : decode cX1_combine 95 = .ok (.aload_n 0, 1) := by decide +kernel
theorem dX1_combine_96 : decode cX1_combine 96 = .ok (.aload_n 1, 1) := by decide +kernel
theorem dX1_combine_97 : decode cX1_combine 97 = .ok (.iconst 2, 1) := by decide +kernel
theorem dX1_combine_98 : decode cX1_combine 98 = .ok (.iload_n 3, 1) := by decide +kernel
theorem dX1_combine_99 : decode cX1_combine 99 = .ok (.invokevirtual 91, 3) := by decide +kernel
theorem dX1_combine_102 : decode cX1_combine 102 = .ok (.if_icmp .ge 59, 3) := by decide +kernel
theorem dX1_combine_105 : decode cX1_combine 105 = .ok (.iload_n 3, 1) := by decide +kernel
theorem dX1_combine_106 : decode cX1_combine 106 = .ok (.iconst 2, 1) := by decide +kernel
theorem dX1_combine_107 : decode cX1_combine 107 = .ok (.if_icmp .ne 8, 3) := by decide +kernel
theorem dX1_combine_110 : decode cX1_combine 110 = .ok (.iload 4, 2) := by decide +kernel
theorem dX1_combine_112 : decode cX1_combine 112 = .ok (.goto 11, 3) := by decide +kernel
theorem dX1_combine_115 : decode cX1_combine 115 = .ok (.aload_n 0, 1) := by decide +kernel
theorem dX1_combine_116 : decode cX1_combine 116 = .ok (.aload_n 1, 1) := by decide +kernel
theorem dX1_combine_117 : decode cX1_combine 117 = .ok (.iconst 2, 1) := by decide +kernel
theorem dX1_combine_118 : decode cX1_combine 118 = .ok (.iload 11, 2) := by decide +kernel
theorem dX1_combine_120 : decode cX1_combine 120 = .ok (.invokevirtual 95, 3) := by decide +kernel
theorem dX1_combine_123 : decode cX1_combine 123 = .ok (.istore 12, 2) := by decide +kernel
theorem dX1_combine_125 : decode cX1_combine 125 = .ok (.aload_n 0, 1) := by decide +kernel
theorem dX1_combine_126 : decode cX1_combine 126 = .ok (.aload_n 1, 1) := by decide +kernel
theorem dX1_combine_127 : decode cX1_combine 127 = .ok (.getfield 102, 3) := by decide +kernel
theorem dX1_combine_130 : decode cX1_combine 130 = .ok (.aload_n 1, 1) := by decide +kernel
theorem dX1_combine_131 : decode cX1_combine 131 = .ok (.iload 6, 2) := by decide +kernel
theorem dX1_combine_133 : decode cX1_combine 133 = .ok (.iload 8, 2) := by decide +kernel
theorem dX1_combine_135 : decode cX1_combine 135 = .ok (.iload 12, 2) := by decide +kernel
theorem dX1_combine_137 : decode cX1_combine 137 = .ok (.invokevirtual 105, 3) := by decide +kernel
theorem dX1_combine_140 : decode cX1_combine 140 = .ok (.lload 9, 2) := by decide +kernel
theorem dX1_combine_142 : decode cX1_combine 142 = .ok (.aload_n 0, 1) := by decide +kernel
theorem dX1_combine_143 : decode cX1_combine 143 = .ok (.aload_n 1, 1) := by decide +kernel
theorem dX1_combine_144 : decode cX1_combine 144 = .ok (.iconst 2, 1) := by decide +kernel
theorem dX1_combine_145 : decode cX1_combine 145 = .ok (.iload 12, 2) := by decide +kernel
theorem dX1_combine_147 : decode cX1_combine 147 = .ok (.invokevirtual 98, 3) := by decide +kernel
theorem dX1_combine_150 : decode cX1_combine 150 = .ok (.ladd, 1) := by decide +kernel
theorem dX1_combine_151 : decode cX1_combine 151 = .ok (.iload_n 2, 1) := by decide +kernel
theorem dX1_combine_152 : decode cX1_combine 152 = .ok (.invokevirtual 48, 3) := by decide +kernel
theorem dX1_combine_155 : decode cX1_combine 155 = .ok (.iinc 11 1, 3) := by decide +kernel
theorem dX1_combine_158 : decode cX1_combine 158 = .ok (.goto (-65), 3) := by decide +kernel
theorem dX1_combine_161 : decode cX1_combine 161 = .ok (.iinc 7 1, 3) := by decide +kernel
theorem dX1_combine_164 : decode cX1_combine 164 = .ok (.goto (-127), 3) := by decide +kernel
theorem dX1_combine_167 : decode cX1_combine 167 = .ok (.iinc 5 1, 3) := by decide +kernel
theorem dX1_combine_170 : decode cX1_combine 170 = .ok (.goto (-167), 3) := by decide +kernel
theorem dX1_combine_173 : decode cX1_combine 173 = .ok (.return_, 1) := by decide +kernel
theorem dX1_find_0 : decode cX1_find 0 = .ok (.aload_n 0, 1) := by decide +kernel
theorem dX1_find_1 : decode cX1_find 1 = .ok (.invokevirtual 45, 3) := by decide +kernel
theorem dX1_find_4 : decode cX1_find 4 = .ok (.aload_n 0, 1) := by decide +kernel
theorem dX1_find_5 : decode cX1_find 5 = .ok (.iconst 3, 1) := by decide +kernel
theorem dX1_find_6 : decode cX1_find 6 = .ok (.bipush 9, 2) := by decide +kernel
theorem dX1_find_8 : decode cX1_find 8 = .ok (.lconst 0, 1) := by decide +kernel
theorem dX1_find_9 : decode cX1_find 9 = .ok (.iconst (-1), 1) := by decide +kernel
theorem dX1_find_10 : decode cX1_find 10 = .ok (.invokevirtual 48, 3) := by decide +kernel
theorem dX1_find_13 : decode cX1_find 13 = .ok (.aload_n 0, 1) := by decide +kernel
theorem dX1_find_14 : decode cX1_find 14 = .ok (.iconst 4, 1) := by decide +kernel
theorem dX1_find_15 : decode cX1_find 15 = .ok (.bipush 15, 2) := by decide +kernel
theorem dX1_find_17 : decode cX1_find 17 = .ok (.lconst 0, 1) := by decide +kernel
theorem dX1_find_18 : decode cX1_find 18 = .ok (.iconst (-1), 1) := by decide +kernel
theorem dX1_find_19 : decode cX1_find 19 = .ok (.invokevirtual 48, 3) := by decide +kernel
theorem dX1_find_22 : decode cX1_find 22 = .ok (.aload_n 0, 1) := by decide +kernel
theorem dX1_find_23 : decode cX1_find 23 = .ok (.iconst 5, 1) := by decide +kernel
theorem dX1_find_24 : decode cX1_find 24 = .ok (.bipush 12, 2) := by decide +kernel
theorem dX1_find_26 : decode cX1_find 26 = .ok (.lconst 0, 1) := by decide +kernel
theorem dX1_find_27 : decode cX1_find 27 = .ok (.iconst (-1), 1) := by decide +kernel
theorem dX1_find_28 : decode cX1_find 28 = .ok (.invokevirtual 48, 3) := by decide +kernel
theorem dX1_find_31 : decode cX1_find 31 = .ok (.iconst 0, 1) := by decide +kernel
theorem dX1_find_32 : decode cX1_find 32 = .ok (.istore_n 2, 1) := by decide +kernel
theorem dX1_find_33 : decode cX1_find 33 = .ok (.iload_n 2, 1) := by decide +kernel
theorem dX1_find_34 : decode cX1_find 34 = .ok (.bipush 96, 2) := by decide +kernel
theorem dX1_find_36 : decode cX1_find 36 = .ok (.if_icmp .ge 71, 3) := by decide +kernel
theorem dX1_find_39 : decode cX1_find 39 = .ok (.aload_n 0, 1) := by decide +kernel
theorem dX1_find_40 : decode cX1_find 40 = .ok (.invokevirtual 52, 3) := by decide +kernel
theorem dX1_find_43 : decode cX1_find 43 = .ok (.istore_n 3, 1) := by decide +kernel
theorem dX1_find_44 : decode cX1_find 44 = .ok (.iload_n 3, 1) := by decide +kernel
theorem dX1_find_45 : decode cX1_find 45 = .ok (.iconst (-1), 1) := by decide +kernel
theorem dX1_find_46 : decode cX1_find 46 = .ok (.if_icmp .ne 4, 3) := by decide +kernel
theorem dX1_find_49 : decode cX1_find 49 = .ok (.return_, 1) := by decide +kernel
theorem dX1_find_50 : decode cX1_find 50 = .ok (.aload_n 0, 1) := by decide +kernel
theorem dX1_find_51 : decode cX1_find 51 = .ok (.iload_n 3, 1) := by decide +kernel
theorem dX1_find_52 : decode cX1_find 52 = .ok (.bipush 16, 2) := by decide +kernel
theorem dX1_find_54 : decode cX1_find 54 = .ok (.idiv, 1) := by decide +kernel
theorem dX1_find_55 : decode cX1_find 55 = .ok (.iload_n 3, 1) := by decide +kernel
theorem dX1_find_56 : decode cX1_find 56 = .ok (.bipush 16, 2) := by decide +kernel
theorem dX1_find_58 : decode cX1_find 58 = .ok (.irem, 1) := by decide +kernel
theorem dX1_find_59 : decode cX1_find 59 = .ok (.invokevirtual 56, 3) := by decide +kernel
theorem dX1_find_62 : decode cX1_find 62 = .ok (.iconst 0, 1) := by decide +kernel
theorem dX1_find_63 : decode cX1_find 63 = .ok (.istore 4, 2) := by decide +kernel
theorem dX1_find_65 : decode cX1_find 65 = .ok (.iload 4, 2) := by decide +kernel
theorem dX1_find_67 : decode cX1_find 67 = .ok (.aload_n 1, 1) := by decide +kernel
theorem dX1_find_68 : decode cX1_find 68 = .ok (.getfield 60, 3) := by decide +kernel
theorem dX1_find_71 : decode cX1_find 71 = .ok (.if_icmp .ge 30, 3) := by decide +kernel
theorem dX1_find_74 : decode cX1_find 74 = .ok (.aload_n 0, 1) := by decide +kernel
theorem dX1_find_75 : decode cX1_find 75 = .ok (.aload_n 1, 1) := by decide +kernel
theorem dX1_find_76 : decode cX1_find 76 = .ok (.getfield 66, 3) := by decide +kernel
theorem dX1_find_79 : decode cX1_find 79 = .ok (.iload 4, 2) := by decide +kernel
theorem dX1_find_81 : decode cX1_find 81 = .ok (.aaload, 1) := by decide +kernel
theorem dX1_find_82 : decode cX1_find 82 = .ok (.iload 4, 2) := by decide +kernel
theorem dX1_find_84 : decode cX1_find 84 = .ok (.iload_n 3, 1) := by decide +kernel
theorem dX1_find_85 : decode cX1_find 85 = .ok (.bipush 16, 2) := by decide +kernel
theorem dX1_find_87 : decode cX1_find 87 = .ok (.idiv, 1) := by decide +kernel
theorem dX1_find_88 : decode cX1_find 88 = .ok (.iload_n 3, 1) := by decide +kernel
theorem dX1_find_89 : decode cX1_find 89 = .ok (.bipush 16, 2) := by decide +kernel
theorem dX1_find_91 : decode cX1_find 91 = .ok (.irem, 1) := by decide +kernel
theorem dX1_find_92 : decode cX1_find 92 = .ok (.invokevirtual 70, 3) := by decide +kernel
theorem dX1_find_95 : decode cX1_find 95 = .ok (.iinc 4 1, 3) := by decide +kernel
theorem dX1_find_98 : decode cX1_find 98 = .ok (.goto (-33), 3) := by decide +kernel
theorem dX1_find_101 : decode cX1_find 101 = .ok (.iinc 2 1, 3) := by decide +kernel
theorem dX1_find_104 : decode cX1_find 104 = .ok (.goto (-71), 3) := by decide +kernel
theorem dX1_find_107 : decode cX1_find 107 = .ok (.return_, 1) := by decide +kernel
theorem dX1_firstTo_0 : decode cX1_firstTo 0 = .ok (.aload_n 0, 1) := by decide +kernel
theorem dX1_firstTo_1 : decode cX1_firstTo 1 = .ok (.getfield 15, 3) := by decide +kernel
theorem dX1_firstTo_4 : decode cX1_firstTo 4 = .ok (.iload_n 1, 1) := by decide +kernel
theorem dX1_firstTo_5 : decode cX1_firstTo 5 = .ok (.bipush 16, 2) := by decide +kernel
theorem dX1_firstTo_7 : decode cX1_firstTo 7 = .ok (.imul, 1) := by decide +kernel
theorem dX1_firstTo_8 : decode cX1_firstTo 8 = .ok (.iload_n 2, 1) := by decide +kernel
theorem dX1_firstTo_9 : decode cX1_firstTo 9 = .ok (.iadd, 1) := by decide +kernel
theorem dX1_firstTo_10 : decode cX1_firstTo 10 = .ok (.iaload, 1) := by decide +kernel
theorem dX1_firstTo_11 : decode cX1_firstTo 11 = .ok (.ireturn, 1) := by decide +kernel
theorem dX1_reaches_0 : decode cX1_reaches 0 = .ok (.aload_n 0, 1) := by decide +kernel
theorem dX1_reaches_1 : decode cX1_reaches 1 = .ok (.getfield 11, 3) := by decide +kernel
theorem dX1_reaches_4 : decode cX1_reaches 4 = .ok (.iload_n 1, 1) := by decide +kernel
theorem dX1_reaches_5 : decode cX1_reaches 5 = .ok (.bipush 16, 2) := by decide +kernel
theorem dX1_reaches_7 : decode cX1_reaches 7 = .ok (.imul, 1) := by decide +kernel
theorem dX1_reaches_8 : decode cX1_reaches 8 = .ok (.iload_n 2, 1) := by decide +kernel
theorem dX1_reaches_9 : decode cX1_reaches 9 = .ok (.iadd, 1) := by decide +kernel
theorem dX1_reaches_10 : decode cX1_reaches 10 = .ok (.laload, 1) := by decide +kernel
theorem dX1_reaches_11 : decode cX1_reaches 11 = .ok (.ldc2_w 29, 3) := by decide +kernel
theorem dX1_reaches_14 : decode cX1_reaches 14 = .ok (.lcmp, 1) := by decide +kernel
theorem dX1_reaches_15 : decode cX1_reaches 15 = .ok (.ifCond .ge 7, 3) := by decide +kernel
theorem dX1_reaches_18 : decode cX1_reaches 18 = .ok (.iconst 1, 1) := by decide +kernel
theorem dX1_reaches_19 : decode cX1_reaches 19 = .ok (.goto 4, 3) := by decide +kernel
theorem dX1_reaches_22 : decode cX1_reaches 22 = .ok (.iconst 0, 1) := by decide +kernel
theorem dX1_reaches_23 : decode cX1_reaches 23 = .ok (.ireturn, 1) := by decide +kernel
theorem dX1_spread_0 : decode cX1_spread 0 = .ok (.iconst 0, 1) := by decide +kernel
theorem dX1_spread_1 : decode cX1_spread 1 = .ok (.istore 5, 2) := by decide +kernel
theorem dX1_spread_3 : decode cX1_spread 3 = .ok (.iload 5, 2) := by decide +kernel
theorem dX1_spread_5 : decode cX1_spread 5 = .ok (.iconst 3, 1) := by decide +kernel
theorem dX1_spread_6 : decode cX1_spread 6 = .ok (.if_icmp .ge 30, 3) := by decide +kernel
theorem dX1_spread_9 : decode cX1_spread 9 = .ok (.aload_n 1, 1) := by decide +kernel
theorem dX1_spread_10 : decode cX1_spread 10 = .ok (.getfield 83, 3) := by decide +kernel
theorem dX1_spread_13 : decode cX1_spread 13 = .ok (.iload 5, 2) := by decide +kernel
theorem dX1_spread_15 : decode cX1_spread 15 = .ok (.iaload, 1) := by decide +kernel
theorem dX1_spread_16 : decode cX1_spread 16 = .ok (.iload_n 3, 1) := by decide +kernel
theorem dX1_spread_17 : decode cX1_spread 17 = .ok (.if_icmp .ne 13, 3) := by decide +kernel
theorem dX1_spread_20 : decode cX1_spread 20 = .ok (.aload_n 0, 1) := by decide +kernel
theorem dX1_spread_21 : decode cX1_spread 21 = .ok (.aload_n 1, 1) := by decide +kernel
theorem dX1_spread_22 : decode cX1_spread 22 = .ok (.iload_n 2, 1) := by decide +kernel
theorem dX1_spread_23 : decode cX1_spread 23 = .ok (.iload 5, 2) := by decide +kernel
theorem dX1_spread_25 : decode cX1_spread 25 = .ok (.iload 4, 2) := by decide +kernel
theorem dX1_spread_27 : decode cX1_spread 27 = .ok (.invokevirtual 88, 3) := by decide +kernel
theorem dX1_spread_30 : decode cX1_spread 30 = .ok (.iinc 5 1, 3) := by decide +kernel
theorem dX1_spread_33 : decode cX1_spread 33 = .ok (.goto (-30), 3) := by decide +kernel
theorem dX1_spread_36 : decode cX1_spread 36 = .ok (.return_, 1) := by decide +kernel
theorem dX1_stepsTo_0 : decode cX1_stepsTo 0 = .ok (.aload_n 0, 1) := by decide +kernel
theorem dX1_stepsTo_1 : decode cX1_stepsTo 1 = .ok (.iload_n 1, 1) := by decide +kernel
theorem dX1_stepsTo_2 : decode cX1_stepsTo 2 = .ok (.iload_n 2, 1) := by decide +kernel
theorem dX1_stepsTo_3 : decode cX1_stepsTo 3 = .ok (.invokevirtual 31, 3) := by decide +kernel
theorem dX1_stepsTo_6 : decode cX1_stepsTo 6 = .ok (.ifCond .eq 24, 3) := by decide +kernel
theorem dX1_stepsTo_9 : decode cX1_stepsTo 9 = .ok (.aload_n 0, 1) := by decide +kernel
theorem dX1_stepsTo_10 : decode cX1_stepsTo 10 = .ok (.getfield 11, 3) := by decide +kernel
theorem dX1_stepsTo_13 : decode cX1_stepsTo 13 = .ok (.iload_n 1, 1) := by decide +kernel
theorem dX1_stepsTo_14 : decode cX1_stepsTo 14 = .ok (.bipush 16, 2) := by decide +kernel
theorem dX1_stepsTo_16 : decode cX1_stepsTo 16 = .ok (.imul, 1) := by decide +kernel
theorem dX1_stepsTo_17 : decode cX1_stepsTo 17 = .ok (.iload_n 2, 1) := by decide +kernel
theorem dX1_stepsTo_18 : decode cX1_stepsTo 18 = .ok (.iadd, 1) := by decide +kernel
theorem dX1_stepsTo_19 : decode cX1_stepsTo 19 = .ok (.laload, 1) := by decide +kernel
theorem dX1_stepsTo_20 : decode cX1_stepsTo 20 = .ok (.ldc2_w 37, 3) := by decide +kernel
theorem dX1_stepsTo_23 : decode cX1_stepsTo 23 = .ok (.invokestatic 39, 3) := by decide +kernel
theorem dX1_stepsTo_26 : decode cX1_stepsTo 26 = .ok (.l2i, 1) := by decide +kernel
theorem dX1_stepsTo_27 : decode cX1_stepsTo 27 = .ok (.goto 4, 3) := by decide +kernel
theorem dX1_stepsTo_30 : decode cX1_stepsTo 30 = .ok (.iconst (-1), 1) := by decide +kernel
theorem dX1_stepsTo_31 : decode cX1_stepsTo 31 = .ok (.ireturn, 1) := by decide +kernel
theorem dX6_bringLights_0 : decode cX6_bringLights 0 = .ok (.aload_n 0, 1) := by decide +kernel
theorem dX6_bringLights_1 : decode cX6_bringLights 1 = .ok (.getfield 50, 3) := by decide +kernel
theorem dX6_bringLights_4 : decode cX6_bringLights 4 = .ok (.ifCond .ne 19, 3) := by decide +kernel
theorem dX6_bringLights_7 : decode cX6_bringLights 7 = .ok (.aload_n 0, 1) := by decide +kernel
theorem dX6_bringLights_8 : decode cX6_bringLights 8 = .ok (.getfield 42, 3) := by decide +kernel
theorem dX6_bringLights_11 : decode cX6_bringLights 11 = .ok (.aload_n 0, 1) := by decide +kernel
theorem dX6_bringLights_12 : decode cX6_bringLights 12 = .ok (.getfield 19, 3) := by decide +kernel
theorem dX6_bringLights_15 : decode cX6_bringLights 15 = .ok (.invokevirtual 206, 3) := by decide +kernel
theorem dX6_bringLights_18 : decode cX6_bringLights 18 = .ok (.aload_n 0, 1) := by decide +kernel
theorem dX6_bringLights_19 : decode cX6_bringLights 19 = .ok (.iconst 1, 1) := by decide +kernel
theorem dX6_bringLights_20 : decode cX6_bringLights 20 = .ok (.putfield 50, 3) := by decide +kernel
theorem dX6_bringLights_23 : decode cX6_bringLights 23 = .ok (.return_, 1) := by decide +kernel
theorem dX6_kinds_0 : decode cX6_kinds 0 = .ok (.iload_n 1, 1) := by decide +kernel
theorem dX6_kinds_1 : decode cX6_kinds 1 = .ok (.invokestatic 123, 3) := by decide +kernel
theorem dX6_kinds_4 : decode cX6_kinds 4 = .ok (.ifCond .ne 7, 3) := by decide +kernel
theorem dX6_kinds_7 : decode cX6_kinds 7 = .ok (.sipush (-1001), 3) := by decide +kernel
theorem dX6_kinds_10 : decode cX6_kinds 10 = .ok (.ireturn, 1) := by decide +kernel
theorem dX6_kinds_11 : decode cX6_kinds 11 = .ok (.aload_n 0, 1) := by decide +kernel
theorem dX6_kinds_12 : decode cX6_kinds 12 = .ok (.invokevirtual 156, 3) := by decide +kernel
theorem dX6_kinds_15 : decode cX6_kinds 15 = .ok (.iconst 0, 1) := by decide +kernel
theorem dX6_kinds_16 : decode cX6_kinds 16 = .ok (.istore_n 2, 1) := by decide +kernel
theorem dX6_kinds_17 : decode cX6_kinds 17 = .ok (.iconst 0, 1) := by decide +kernel
theorem dX6_kinds_18 : decode cX6_kinds 18 = .ok (.istore_n 3, 1) := by decide +kernel
theorem dX6_kinds_19 : decode cX6_kinds 19 = .ok (.iload_n 3, 1) := by decide +kernel
theorem dX6_kinds_20 : decode cX6_kinds 20 = .ok (.bipush 16, 2) := by decide +kernel
theorem dX6_kinds_22 : decode cX6_kinds 22 = .ok (.if_icmp .ge 27, 3) := by decide +kernel
theorem dX6_kinds_25 : decode cX6_kinds 25 = .ok (.aload_n 0, 1) := by decide +kernel
theorem dX6_kinds_26 : decode cX6_kinds 26 = .ok (.getfield 42, 3) := by decide +kernel
theorem dX6_kinds_29 : decode cX6_kinds 29 = .ok (.iload_n 1, 1) := by decide +kernel
theorem dX6_kinds_30 : decode cX6_kinds 30 = .ok (.iload_n 3, 1) := by decide +kernel
theorem dX6_kinds_31 : decode cX6_kinds 31 = .ok (.invokevirtual 159, 3) := by decide +kernel
theorem dX6_kinds_34 : decode cX6_kinds 34 = .ok (.ifCond .eq 9, 3) := by decide +kernel
theorem dX6_kinds_37 : decode cX6_kinds 37 = .ok (.iload_n 2, 1) := by decide +kernel
theorem dX6_kinds_38 : decode cX6_kinds 38 = .ok (.iconst 1, 1) := by decide +kernel
theorem dX6_kinds_39 : decode cX6_kinds 39 = .ok (.iload_n 3, 1) := by decide +kernel
theorem dX6_kinds_40 : decode cX6_kinds 40 = .ok (.ishl, 1) := by decide +kernel
theorem dX6_kinds_41 : decode cX6_kinds 41 = .ok (.ior, 1) := by decide +kernel
theorem dX6_kinds_42 : decode cX6_kinds 42 = .ok (.istore_n 2, 1) := by decide +kernel
theorem dX6_kinds_43 : decode cX6_kinds 43 = .ok (.iinc 3 1, 3) := by decide +kernel
theorem dX6_kinds_46 : decode cX6_kinds 46 = .ok (.goto (-27), 3) := by decide +kernel
theorem dX6_kinds_49 : decode cX6_kinds 49 = .ok (.iload_n 2, 1) := by decide +kernel
theorem dX6_kinds_50 : decode cX6_kinds 50 = .ok (.ireturn, 1) := by decide +kernel
theorem dX6_light_0 : decode cX6_light 0 = .ok (.iload_n 1, 1) := by decide +kernel
theorem dX6_light_1 : decode cX6_light 1 = .ok (.invokestatic 123, 3) := by decide +kernel
theorem dX6_light_4 : decode cX6_light 4 = .ok (.ifCond .ne 7, 3) := by decide +kernel
theorem dX6_light_7 : decode cX6_light 7 = .ok (.sipush (-1001), 3) := by decide +kernel
theorem dX6_light_10 : decode cX6_light 10 = .ok (.ireturn, 1) := by decide +kernel
theorem dX6_light_11 : decode cX6_light 11 = .ok (.iload_n 2, 1) := by decide +kernel
theorem dX6_light_12 : decode cX6_light 12 = .ok (.ifCond .lt 18, 3) := by decide +kernel
theorem dX6_light_15 : decode cX6_light 15 = .ok (.iload_n 2, 1) := by decide +kernel
theorem dX6_light_16 : decode cX6_light 16 = .ok (.bipush 16, 2) := by decide +kernel
theorem dX6_light_18 : decode cX6_light 18 = .ok (.if_icmp .ge 12, 3) := by decide +kernel
theorem dX6_light_21 : decode cX6_light 21 = .ok (.iload_n 3, 1) := by decide +kernel
theorem dX6_light_22 : decode cX6_light 22 = .ok (.ifCond .lt 8, 3) := by decide +kernel
theorem dX6_light_25 : decode cX6_light 25 = .ok (.iload_n 3, 1) := by decide +kernel
theorem dX6_light_26 : decode cX6_light 26 = .ok (.iconst 1, 1) := by decide +kernel
theorem dX6_light_27 : decode cX6_light 27 = .ok (.if_icmp .le 7, 3) := by decide +kernel
theorem dX6_light_30 : decode cX6_light 30 = .ok (.sipush (-1002), 3) := by decide +kernel
theorem dX6_light_33 : decode cX6_light 33 = .ok (.ireturn, 1) := by decide +kernel
theorem dX6_light_34 : decode cX6_light 34 = .ok (.aload_n 0, 1) := by decide +kernel
theorem dX6_light_35 : decode cX6_light 35 = .ok (.invokevirtual 156, 3) := by decide +kernel
theorem dX6_light_38 : decode cX6_light 38 = .ok (.iload_n 3, 1) := by decide +kernel
theorem dX6_light_39 : decode cX6_light 39 = .ok (.ifCond .ne 15, 3) := by decide +kernel
theorem dX6_light_42 : decode cX6_light 42 = .ok (.aload_n 0, 1) := by decide +kernel
theorem dX6_light_43 : decode cX6_light 43 = .ok (.getfield 42, 3) := by decide +kernel
theorem dX6_light_46 : decode cX6_light 46 = .ok (.iload_n 1, 1) := by decide +kernel
theorem dX6_light_47 : decode cX6_light 47 = .ok (.iload_n 2, 1) := by decide +kernel
theorem dX6_light_48 : decode cX6_light 48 = .ok (.invokevirtual 163, 3) := by decide +kernel
theorem dX6_light_51 : decode cX6_light 51 = .ok (.goto 12, 3) := by decide +kernel
theorem dX6_light_54 : decode cX6_light 54 = .ok (.aload_n 0, 1) := by decide +kernel
theorem dX6_light_55 : decode cX6_light 55 = .ok (.getfield 42, 3) := by decide +kernel
theorem dX6_light_58 : decode cX6_light 58 = .ok (.iload_n 1, 1) := by decide +kernel
theorem dX6_light_59 : decode cX6_light 59 = .ok (.iload_n 2, 1) := by decide +kernel
theorem dX6_light_60 : decode cX6_light 60 = .ok (.invokevirtual 167, 3) := by decide +kernel
theorem dX6_light_63 : decode cX6_light 63 = .ok (.ireturn, 1) := by decide +kernel
section
variable (l : Launch) (D : va_G) (cI cJ cZ cR : ClassId)
set_option maxHeartbeats 4000000 in
set_option maxRecDepth 100000 in
theorem g_combine_0 (sz : Nat) (lg : Nat) (l1 : Nat) (l2 : Nat) (l3 : Nat) (l4 : Nat) (l5 : Nat) (rl : Nat) (b0 : Nat) (a1 : Nat) (a2 : Nat) (a3 : Nat) (s0 : Nat) (w0 : Nat) (u0 : Nat) (t0 : Nat) (t1 : Nat) (t2 : Nat) (b : Nat) (ff : Nat → Int64) (gf : Nat → Int32) (zf : Nat → Int32) (kf : Nat → Int32) (cf : Nat → Int32) (o : Nat) (en : Int32) (ev : Int32) (x1 : Nat → Int32) (x2 : Nat → Int32) (x3 : Nat → Int32) (x4 : Nat → Int32) (x5 : Nat → Int32) (x6 : Nat → Int32) (p2 : Int32) (e0 : x4 0 = nI t0) (e1 : x4 1 = nI t1) (e2 : x4 2 = nI t2) (h0t : t0 < 6) (h1t : t1 < 6) (h2t : t2 < 6) (ho : o < 3) (hw4 : ∀ j, j < 64 → lt4 (x5 j)) (hu4 : ∀ j, j < 64 → lt4 (x6 j)) (hSI : SI zf kf cf) (hb0 : b < 16) : CTv l D cI cJ cZ cR yX1_combine cX1_combine 13 none 1 26 0 0 sz [.ref lg, .ref rl, .int p2, .int 0, .int (nI b)] [kX1 lg l1 l2 l3 l4 l5, kJ cJ l1 96 ff, kI cI l2 96 gf, kI cZ l3 96 zf, kI cI l4 96 kf, kI cI l5 6 cf, kX4 rl (nI o) b0 s0 w0 u0, kX0 b0 a1 a2 a3 en ev, kI cI a1 3 x1, kI cI a2 3 x2, kI cI a3 3 x3, kI cI s0 3 x4, kI cI w0 64 x5, kI cI u0 64 x6] (fun (u : (Nat → Int64) × (Nat → Int32)) => True) (fun (u : (Nat → Int64) × (Nat → Int32)) => [kX1 lg l1 l2 l3 l4 l5, kJ cJ l1 96 u.1, kI cI l2 96 u.2, kI cZ l3 96 zf, kI cI l4 96 kf, kI cI l5 6 cf, kX4 rl (nI o) b0 s0 w0 u0, kX0 b0 a1 a2 a3 en ev, kI cI a1 3 x1, kI cI a2 3 x2, kI cI a3 3 x3, kI cI s0 3 x4, kI cI w0 64 x5, kI cI u0 64 x6]) := by
  refine CTv.of (by decide) (Nat.le_of_ble_eq_true rfl) rfl ?_
  intro p e s m below meth c A Q ls hd hin hK hsz hP hD hA hS hl hret
  obtain ⟨hx, hb, hml, hown, hts⟩ := id hd
  have hK1 := hK.1
  have hown : s.vm.findClass RX1 = some m.cls := hown
  have hl : lv_has ls 13 [(0, .ref lg), (1, .ref rl), (2, .int p2), (3, .int 0), (4, .int (nI b))] := hl
  have hz0 := cz_le (z := zf) (b := t0 * 16) 16
  have hz1 := cz_le (z := zf) (b := t1 * 16) 16
  have hz2 := cz_le (z := zf) (b := t2 * 16) 16
  refine lv_iconst (v := 0) hx hb dX1_combine_0 (by decide) ?_
  refine lv_istore (lv' := [(5, .int 0), (0, .ref lg), (1, .ref rl), (2, .int p2), (3, .int 0), (4, .int (nI b))]) hx hb dX1_combine_1 hl (by decide) rfl (fun ls hl => ?_)
  have LOOP_3 : ∀ (n : Nat) (i : Nat) (fa : Nat → Int64) (ga : Nat → Int32), (i + n = 1) → ∀ (H : Heap) (locs : List Loc) (ls : Array Slot), va_P D vwCl [kX1 lg l1 l2 l3 l4 l5, kJ cJ l1 96 fa, kI cI l2 96 ga, kI cZ l3 96 zf, kI cI l4 96 kf, kI cI l5 6 cf, kX4 rl (nI o) b0 s0 w0 u0, kX0 b0 a1 a2 a3 en ev, kI cI a1 3 x1, kI cI a2 3 x2, kI cI a3 3 x3, kI cI s0 3 x4, kI cI w0 64 x5, kI cI u0 64 x6] H → va_D A [kX1 lg l1 l2 l3 l4 l5, kJ cJ l1 96 fa, kI cI l2 96 ga, kI cZ l3 96 zf, kI cI l4 96 kf, kI cI l5 6 cf, kX4 rl (nI o) b0 s0 w0 u0, kX0 b0 a1 a2 a3 en ev, kI cI a1 3 x1, kI cI a2 3 x2, kI cI a3 3 x3, kI cI s0 3 x4, kI cI w0 64 x5, kI cI u0 64 x6] → va_S A s.heap H locs → lv_has ls 13 [(0, .ref lg), (1, .ref rl), (2, .int p2), (3, .int 0), (4, .int (nI b)), (5, .int (nI i))] → W p l e (rM 1 0 0 26) s m ([.ref lg, .ref rl, .int p2, .int 0, .int (nI b)] : List Value).toArray below meth c H locs 0 0 Q (F0 m 3 ls []) := by
    intro n
    induction n with
    | zero =>
      intro i fa ga hi H locs ls hP hD hS hl
      refine lv_iload hx hb dX1_combine_3 (lv_at hl 5 rfl) ?_
      refine lv_aload_n hx hb dX1_combine_5 rfl (lv_at hl 0 rfl) ?_
      refine lv_aload_n hx hb dX1_combine_6 rfl (lv_at hl 1 rfl) ?_
      refine lv_iconst (v := 0) hx hb dX1_combine_7 (by decide) ?_
      refine lv_iload_n hx hb dX1_combine_8 rfl (lv_at hl 3 rfl) ?_
      refine xc_i (wc := [kX1 lg l1 l2 l3 l4 l5, kJ cJ l1 96 fa, kI cI l2 96 ga, kI cZ l3 96 zf, kI cI l4 96 kf, kI cI l5 6 cf, kX4 rl (nI o) b0 s0 w0 u0, kX0 b0 a1 a2 a3 en ev, kI cI a1 3 x1, kI cI a2 3 x2, kI cI a3 3 x3, kI cI s0 3 x4, kI cI w0 64 x5, kI cI u0 64 x6]) (wr := []) (xrV (n := 3) (As := [.ref rl, .int 0, .int 0]) (rest := [.int (nI i)]) (ci := 1) (q0 := 0) hd hK hP hD (g_choices_00 l D cI cJ cZ cR _ lg l1 l2 l3 l4 l5 rl b0 a1 a2 a3 s0 w0 u0 fa ga zf kf cf (nI o) en ev x1 x2 x3 x4 x5 x6 ) (gV t_487 mV_X1_choices) hV_X1_choices ⟨(Nat.le_of_ble_eq_true rfl), (Nat.le_of_ble_eq_true rfl)⟩ rfl rfl [0, 1, 2, 3, 4, 5, 6, 7, 8, 9, 10, 11, 12, 13] rfl rfl rfl hl.1 rfl (Nat.le_of_ble_eq_true rfl) dX1_combine_9 ⟨(Nat.le_of_ble_eq_true rfl), (Nat.le_of_ble_eq_true rfl)⟩) hP hD hS hA [0, 1, 2, 3, 4, 5, 6, 7, 8, 9, 10, 11, 12, 13] [] rfl rfl rfl (by decide) (fun r_1 u_2 H locs hw_3 hP hD hS => ?_)
      have hw_4 : r_1 = 1 := hw_3
      subst hw_4
      have hP : va_P D vwCl [kX1 lg l1 l2 l3 l4 l5, kJ cJ l1 96 fa, kI cI l2 96 ga, kI cZ l3 96 zf, kI cI l4 96 kf, kI cI l5 6 cf, kX4 rl (nI o) b0 s0 w0 u0, kX0 b0 a1 a2 a3 en ev, kI cI a1 3 x1, kI cI a2 3 x2, kI cI a3 3 x3, kI cI s0 3 x4, kI cI w0 64 x5, kI cI u0 64 x6] H := hP
      have hD : va_D A [kX1 lg l1 l2 l3 l4 l5, kJ cJ l1 96 fa, kI cI l2 96 ga, kI cZ l3 96 zf, kI cI l4 96 kf, kI cI l5 6 cf, kX4 rl (nI o) b0 s0 w0 u0, kX0 b0 a1 a2 a3 en ev, kI cI a1 3 x1, kI cI a2 3 x2, kI cI a3 3 x3, kI cI s0 3 x4, kI cI w0 64 x5, kI cI u0 64 x6] := hD
      refine lv_icmp_ge (tgt := 173) hx hb dX1_combine_12 (by decide) (fun c_5 => ?_) (fun c_5 => ?_)
      rotate_left
      · exact absurd (nI_le (a := 1) (b := i) (by omega) (by omega)) c_5
      exact hret _ _ _ _ _ _ (fa, ga) dX1_combine_173 hS (Nat.le_of_ble_eq_true rfl) (Nat.le_of_ble_eq_true rfl) trivial (hP.sub [0, 1, 2, 3, 4, 5, 6, 7, 8, 9, 10, 11, 12, 13] rfl) (hD.sub [0, 1, 2, 3, 4, 5, 6, 7, 8, 9, 10, 11, 12, 13] rfl rfl)
    | succ n ih_3 =>
      intro i fa ga hi H locs ls hP hD hS hl
      refine lv_iload hx hb dX1_combine_3 (lv_at hl 5 rfl) ?_
      refine lv_aload_n hx hb dX1_combine_5 rfl (lv_at hl 0 rfl) ?_
      refine lv_aload_n hx hb dX1_combine_6 rfl (lv_at hl 1 rfl) ?_
      refine lv_iconst (v := 0) hx hb dX1_combine_7 (by decide) ?_
      refine lv_iload_n hx hb dX1_combine_8 rfl (lv_at hl 3 rfl) ?_
      refine xc_i (wc := [kX1 lg l1 l2 l3 l4 l5, kJ cJ l1 96 fa, kI cI l2 96 ga, kI cZ l3 96 zf, kI cI l4 96 kf, kI cI l5 6 cf, kX4 rl (nI o) b0 s0 w0 u0, kX0 b0 a1 a2 a3 en ev, kI cI a1 3 x1, kI cI a2 3 x2, kI cI a3 3 x3, kI cI s0 3 x4, kI cI w0 64 x5, kI cI u0 64 x6]) (wr := []) (xrV (n := 3) (As := [.ref rl, .int 0, .int 0]) (rest := [.int (nI i)]) (ci := 1) (q0 := 0) hd hK hP hD (g_choices_00 l D cI cJ cZ cR _ lg l1 l2 l3 l4 l5 rl b0 a1 a2 a3 s0 w0 u0 fa ga zf kf cf (nI o) en ev x1 x2 x3 x4 x5 x6 ) (gV t_487 mV_X1_choices) hV_X1_choices ⟨(Nat.le_of_ble_eq_true rfl), (Nat.le_of_ble_eq_true rfl)⟩ rfl rfl [0, 1, 2, 3, 4, 5, 6, 7, 8, 9, 10, 11, 12, 13] rfl rfl rfl hl.1 rfl (Nat.le_of_ble_eq_true rfl) dX1_combine_9 ⟨(Nat.le_of_ble_eq_true rfl), (Nat.le_of_ble_eq_true rfl)⟩) hP hD hS hA [0, 1, 2, 3, 4, 5, 6, 7, 8, 9, 10, 11, 12, 13] [] rfl rfl rfl (by decide) (fun r_6 u_7 H locs hw_8 hP hD hS => ?_)
      have hw_9 : r_6 = 1 := hw_8
      subst hw_9
      have hP : va_P D vwCl [kX1 lg l1 l2 l3 l4 l5, kJ cJ l1 96 fa, kI cI l2 96 ga, kI cZ l3 96 zf, kI cI l4 96 kf, kI cI l5 6 cf, kX4 rl (nI o) b0 s0 w0 u0, kX0 b0 a1 a2 a3 en ev, kI cI a1 3 x1, kI cI a2 3 x2, kI cI a3 3 x3, kI cI s0 3 x4, kI cI w0 64 x5, kI cI u0 64 x6] H := hP
      have hD : va_D A [kX1 lg l1 l2 l3 l4 l5, kJ cJ l1 96 fa, kI cI l2 96 ga, kI cZ l3 96 zf, kI cI l4 96 kf, kI cI l5 6 cf, kX4 rl (nI o) b0 s0 w0 u0, kX0 b0 a1 a2 a3 en ev, kI cI a1 3 x1, kI cI a2 3 x2, kI cI a3 3 x3, kI cI s0 3 x4, kI cI w0 64 x5, kI cI u0 64 x6] := hD
      refine lv_icmp_ge (tgt := 173) hx hb dX1_combine_12 (by decide) (fun c_10 => ?_) (fun c_10 => ?_)
      · exact absurd c_10 (nI_ge (a := i) (b := 1) (by omega) (by omega))
      refine lv_iload_n hx hb dX1_combine_15 rfl (lv_at hl 3 rfl) ?_
      refine lv_if_ne (tgt := 24) hx hb dX1_combine_16 (by decide) (fun c_11 => ?_) (fun c_11 => ?_)
      · exact absurd c_11 (by decide)
      refine lv_iload hx hb dX1_combine_19 (lv_at hl 4 rfl) ?_
      refine lv_goto (tgt := 32) hx hb dX1_combine_21 (by decide) ?_
      refine lv_istore (lv' := [(6, .int (nI b)), (0, .ref lg), (1, .ref rl), (2, .int p2), (3, .int 0), (4, .int (nI b)), (5, .int (nI i))]) hx hb dX1_combine_32 hl (by decide) rfl (fun ls hl => ?_)
      refine lv_iconst (v := 0) hx hb dX1_combine_34 (by decide) ?_
      refine lv_istore (lv' := [(7, .int 0), (6, .int (nI b)), (0, .ref lg), (1, .ref rl), (2, .int p2), (3, .int 0), (4, .int (nI b)), (5, .int (nI i))]) hx hb dX1_combine_35 hl (by decide) rfl (fun ls hl => ?_)
      have LOOP_37 : ∀ (n : Nat) (j : Nat) (fb : Nat → Int64) (gb : Nat → Int32), (j + n = cz zf (t1 * 16) 16) → ∀ (H : Heap) (locs : List Loc) (ls : Array Slot), va_P D vwCl [kX1 lg l1 l2 l3 l4 l5, kJ cJ l1 96 fb, kI cI l2 96 gb, kI cZ l3 96 zf, kI cI l4 96 kf, kI cI l5 6 cf, kX4 rl (nI o) b0 s0 w0 u0, kX0 b0 a1 a2 a3 en ev, kI cI a1 3 x1, kI cI a2 3 x2, kI cI a3 3 x3, kI cI s0 3 x4, kI cI w0 64 x5, kI cI u0 64 x6] H → va_D A [kX1 lg l1 l2 l3 l4 l5, kJ cJ l1 96 fb, kI cI l2 96 gb, kI cZ l3 96 zf, kI cI l4 96 kf, kI cI l5 6 cf, kX4 rl (nI o) b0 s0 w0 u0, kX0 b0 a1 a2 a3 en ev, kI cI a1 3 x1, kI cI a2 3 x2, kI cI a3 3 x3, kI cI s0 3 x4, kI cI w0 64 x5, kI cI u0 64 x6] → va_S A s.heap H locs → lv_has ls 13 [(0, .ref lg), (1, .ref rl), (2, .int p2), (3, .int 0), (4, .int (nI b)), (5, .int (nI i)), (6, .int (nI b)), (7, .int (nI j))] → W p l e (rM 1 0 0 26) s m ([.ref lg, .ref rl, .int p2, .int 0, .int (nI b)] : List Value).toArray below meth c H locs 0 0 Q (F0 m 37 ls []) := by
        intro n
        induction n with
        | zero =>
          intro j fb gb hj H locs ls hP hD hS hl
          refine lv_iload hx hb dX1_combine_37 (lv_at hl 7 rfl) ?_
          refine lv_aload_n hx hb dX1_combine_39 rfl (lv_at hl 0 rfl) ?_
          refine lv_aload_n hx hb dX1_combine_40 rfl (lv_at hl 1 rfl) ?_
          refine lv_iconst (v := 1) hx hb dX1_combine_41 (by decide) ?_
          refine lv_iload_n hx hb dX1_combine_42 rfl (lv_at hl 3 rfl) ?_
          refine xc_i (wc := [kX1 lg l1 l2 l3 l4 l5, kJ cJ l1 96 fb, kI cI l2 96 gb, kI cZ l3 96 zf, kI cI l4 96 kf, kI cI l5 6 cf, kX4 rl (nI o) b0 s0 w0 u0, kX0 b0 a1 a2 a3 en ev, kI cI a1 3 x1, kI cI a2 3 x2, kI cI a3 3 x3, kI cI s0 3 x4, kI cI w0 64 x5, kI cI u0 64 x6]) (wr := []) (xrV (n := 3) (As := [.ref rl, .int 1, .int 0]) (rest := [.int (nI j)]) (ci := 1) (q0 := 0) hd hK hP hD (g_choices_10 l D cI cJ cZ cR _ lg l1 l2 l3 l4 l5 rl b0 a1 a2 a3 s0 w0 u0 t1 fb gb zf kf cf (nI o) en ev x1 x2 x3 x4 x5 x6 e1 h1t (hSI.1 t1 h1t)) (gV t_487 mV_X1_choices) hV_X1_choices ⟨(Nat.le_of_ble_eq_true rfl), (Nat.le_of_ble_eq_true rfl)⟩ rfl rfl [0, 1, 2, 3, 4, 5, 6, 7, 8, 9, 10, 11, 12, 13] rfl rfl rfl hl.1 rfl (Nat.le_of_ble_eq_true rfl) dX1_combine_43 ⟨(Nat.le_of_ble_eq_true rfl), (Nat.le_of_ble_eq_true rfl)⟩) hP hD hS hA [0, 1, 2, 3, 4, 5, 6, 7, 8, 9, 10, 11, 12, 13] [] rfl rfl rfl (by decide) (fun r_12 u_13 H locs hw_14 hP hD hS => ?_)
          have hw_15 : r_12 = (nI (cz zf (t1 * 16) 16)) := hw_14
          subst hw_15
          have hP : va_P D vwCl [kX1 lg l1 l2 l3 l4 l5, kJ cJ l1 96 fb, kI cI l2 96 gb, kI cZ l3 96 zf, kI cI l4 96 kf, kI cI l5 6 cf, kX4 rl (nI o) b0 s0 w0 u0, kX0 b0 a1 a2 a3 en ev, kI cI a1 3 x1, kI cI a2 3 x2, kI cI a3 3 x3, kI cI s0 3 x4, kI cI w0 64 x5, kI cI u0 64 x6] H := hP
          have hD : va_D A [kX1 lg l1 l2 l3 l4 l5, kJ cJ l1 96 fb, kI cI l2 96 gb, kI cZ l3 96 zf, kI cI l4 96 kf, kI cI l5 6 cf, kX4 rl (nI o) b0 s0 w0 u0, kX0 b0 a1 a2 a3 en ev, kI cI a1 3 x1, kI cI a2 3 x2, kI cI a3 3 x3, kI cI s0 3 x4, kI cI w0 64 x5, kI cI u0 64 x6] := hD
          refine lv_icmp_ge (tgt := 167) hx hb dX1_combine_46 (by decide) (fun c_16 => ?_) (fun c_16 => ?_)
          rotate_left
          · exact absurd (nI_le (a := (cz zf (t1 * 16) 16)) (b := j) (by omega) (by omega)) c_16
          refine lv_iinc (v := nI (i + 1)) (lv' := [(5, .int (nI (i + 1))), (0, .ref lg), (1, .ref rl), (2, .int p2), (3, .int 0), (4, .int (nI b)), (6, .int (nI b)), (7, .int (nI j))]) hx hb dX1_combine_167 hl (k := 5) rfl (nI_1 i) (by decide) rfl (fun ls hl => ?_)
          refine lv_goto (tgt := 3) hx hb dX1_combine_170 (by decide) ?_
          exact ih_3 (i + 1) fb gb (by omega) _ _ _ (hP.sub [0, 1, 2, 3, 4, 5, 6, 7, 8, 9, 10, 11, 12, 13] rfl) (hD.sub [0, 1, 2, 3, 4, 5, 6, 7, 8, 9, 10, 11, 12, 13] rfl rfl) hS (lv_sub hl [1, 2, 3, 4, 5, 0] rfl)
        | succ n ih_37 =>
          intro j fb gb hj H locs ls hP hD hS hl
          refine lv_iload hx hb dX1_combine_37 (lv_at hl 7 rfl) ?_
          refine lv_aload_n hx hb dX1_combine_39 rfl (lv_at hl 0 rfl) ?_
          refine lv_aload_n hx hb dX1_combine_40 rfl (lv_at hl 1 rfl) ?_
          refine lv_iconst (v := 1) hx hb dX1_combine_41 (by decide) ?_
          refine lv_iload_n hx hb dX1_combine_42 rfl (lv_at hl 3 rfl) ?_
          refine xc_i (wc := [kX1 lg l1 l2 l3 l4 l5, kJ cJ l1 96 fb, kI cI l2 96 gb, kI cZ l3 96 zf, kI cI l4 96 kf, kI cI l5 6 cf, kX4 rl (nI o) b0 s0 w0 u0, kX0 b0 a1 a2 a3 en ev, kI cI a1 3 x1, kI cI a2 3 x2, kI cI a3 3 x3, kI cI s0 3 x4, kI cI w0 64 x5, kI cI u0 64 x6]) (wr := []) (xrV (n := 3) (As := [.ref rl, .int 1, .int 0]) (rest := [.int (nI j)]) (ci := 1) (q0 := 0) hd hK hP hD (g_choices_10 l D cI cJ cZ cR _ lg l1 l2 l3 l4 l5 rl b0 a1 a2 a3 s0 w0 u0 t1 fb gb zf kf cf (nI o) en ev x1 x2 x3 x4 x5 x6 e1 h1t (hSI.1 t1 h1t)) (gV t_487 mV_X1_choices) hV_X1_choices ⟨(Nat.le_of_ble_eq_true rfl), (Nat.le_of_ble_eq_true rfl)⟩ rfl rfl [0, 1, 2, 3, 4, 5, 6, 7, 8, 9, 10, 11, 12, 13] rfl rfl rfl hl.1 rfl (Nat.le_of_ble_eq_true rfl) dX1_combine_43 ⟨(Nat.le_of_ble_eq_true rfl), (Nat.le_of_ble_eq_true rfl)⟩) hP hD hS hA [0, 1, 2, 3, 4, 5, 6, 7, 8, 9, 10, 11, 12, 13] [] rfl rfl rfl (by decide) (fun r_17 u_18 H locs hw_19 hP hD hS => ?_)
          have hw_20 : r_17 = (nI (cz zf (t1 * 16) 16)) := hw_19
          subst hw_20
          have hP : va_P D vwCl [kX1 lg l1 l2 l3 l4 l5, kJ cJ l1 96 fb, kI cI l2 96 gb, kI cZ l3 96 zf, kI cI l4 96 kf, kI cI l5 6 cf, kX4 rl (nI o) b0 s0 w0 u0, kX0 b0 a1 a2 a3 en ev, kI cI a1 3 x1, kI cI a2 3 x2, kI cI a3 3 x3, kI cI s0 3 x4, kI cI w0 64 x5, kI cI u0 64 x6] H := hP
          have hD : va_D A [kX1 lg l1 l2 l3 l4 l5, kJ cJ l1 96 fb, kI cI l2 96 gb, kI cZ l3 96 zf, kI cI l4 96 kf, kI cI l5 6 cf, kX4 rl (nI o) b0 s0 w0 u0, kX0 b0 a1 a2 a3 en ev, kI cI a1 3 x1, kI cI a2 3 x2, kI cI a3 3 x3, kI cI s0 3 x4, kI cI w0 64 x5, kI cI u0 64 x6] := hD
          refine lv_icmp_ge (tgt := 167) hx hb dX1_combine_46 (by decide) (fun c_21 => ?_) (fun c_21 => ?_)
          · exact absurd c_21 (nI_ge (a := j) (b := (cz zf (t1 * 16) 16)) (by omega) (by omega))
          refine lv_iload_n hx hb dX1_combine_49 rfl (lv_at hl 3 rfl) ?_
          refine lv_iconst (v := 1) hx hb dX1_combine_50 (by decide) ?_
          refine lv_icmp_ne (tgt := 59) hx hb dX1_combine_51 (by decide) (fun c_22 => ?_) (fun c_22 => ?_)
          rotate_left
          · exact absurd c_22 (by decide)
          refine lv_aload_n hx hb dX1_combine_59 rfl (lv_at hl 0 rfl) ?_
          refine lv_aload_n hx hb dX1_combine_60 rfl (lv_at hl 1 rfl) ?_
          refine lv_iconst (v := 1) hx hb dX1_combine_61 (by decide) ?_
          refine lv_iload hx hb dX1_combine_62 (lv_at hl 7 rfl) ?_
          obtain ⟨q1, hq1, ek1⟩ := hSI.2 t1 h1t j (by omega)
          refine xc_i (wc := [kX1 lg l1 l2 l3 l4 l5, kJ cJ l1 96 fb, kI cI l2 96 gb, kI cZ l3 96 zf, kI cI l4 96 kf, kI cI l5 6 cf, kX4 rl (nI o) b0 s0 w0 u0, kX0 b0 a1 a2 a3 en ev, kI cI a1 3 x1, kI cI a2 3 x2, kI cI a3 3 x3, kI cI s0 3 x4, kI cI w0 64 x5, kI cI u0 64 x6]) (wr := []) (xrV (n := 3) (As := [.ref rl, .int 1, .int (nI j)]) (rest := []) (ci := 1) (q0 := 0) hd hK hP hD (g_settledKind_1 l D cI cJ cZ cR _ lg l1 l2 l3 l4 l5 rl b0 a1 a2 a3 s0 w0 u0 t1 fb gb zf kf cf (nI o) en ev x1 x2 x3 x4 x5 x6 j q1 e1 h1t (by omega) ek1) (gV t_491 mV_X1_settledKind) hV_X1_settledKind ⟨(Nat.le_of_ble_eq_true rfl), (Nat.le_of_ble_eq_true rfl)⟩ rfl rfl [0, 1, 2, 3, 4, 5, 6, 7, 8, 9, 10, 11, 12, 13] rfl rfl rfl hl.1 rfl (Nat.le_of_ble_eq_true rfl) dX1_combine_64 ⟨(Nat.le_of_ble_eq_true rfl), (Nat.le_of_ble_eq_true rfl)⟩) hP hD hS hA [0, 1, 2, 3, 4, 5, 6, 7, 8, 9, 10, 11, 12, 13] [] rfl rfl rfl (by decide) (fun r_23 u_24 H locs hw_25 hP hD hS => ?_)
          have hw_26 : r_23 = (nI q1) := hw_25
          subst hw_26
          have hP : va_P D vwCl [kX1 lg l1 l2 l3 l4 l5, kJ cJ l1 96 fb, kI cI l2 96 gb, kI cZ l3 96 zf, kI cI l4 96 kf, kI cI l5 6 cf, kX4 rl (nI o) b0 s0 w0 u0, kX0 b0 a1 a2 a3 en ev, kI cI a1 3 x1, kI cI a2 3 x2, kI cI a3 3 x3, kI cI s0 3 x4, kI cI w0 64 x5, kI cI u0 64 x6] H := hP
          have hD : va_D A [kX1 lg l1 l2 l3 l4 l5, kJ cJ l1 96 fb, kI cI l2 96 gb, kI cZ l3 96 zf, kI cI l4 96 kf, kI cI l5 6 cf, kX4 rl (nI o) b0 s0 w0 u0, kX0 b0 a1 a2 a3 en ev, kI cI a1 3 x1, kI cI a2 3 x2, kI cI a3 3 x3, kI cI s0 3 x4, kI cI w0 64 x5, kI cI u0 64 x6] := hD
          refine lv_istore (lv' := [(8, .int (nI q1)), (0, .ref lg), (1, .ref rl), (2, .int p2), (3, .int 0), (4, .int (nI b)), (5, .int (nI i)), (6, .int (nI b)), (7, .int (nI j))]) hx hb dX1_combine_67 hl (by decide) rfl (fun ls hl => ?_)
          refine lv_lconst (v := 1) hx hb dX1_combine_69 (by decide) ?_
          refine lv_aload_n hx hb dX1_combine_70 rfl (lv_at hl 1 rfl) ?_
          refine lv_aload_n hx hb dX1_combine_71 rfl (lv_at hl 2 rfl) ?_
          refine lv_iconst (v := 0) hx hb dX1_combine_72 (by decide) ?_
          refine lv_iload hx hb dX1_combine_73 (lv_at hl 7 rfl) ?_
          refine xc_l (wc := [kX1 lg l1 l2 l3 l4 l5, kJ cJ l1 96 fb, kI cI l2 96 gb, kI cZ l3 96 zf, kI cI l4 96 kf, kI cI l5 6 cf, kX4 rl (nI o) b0 s0 w0 u0, kX0 b0 a1 a2 a3 en ev, kI cI a1 3 x1, kI cI a2 3 x2, kI cI a3 3 x3, kI cI s0 3 x4, kI cI w0 64 x5, kI cI u0 64 x6]) (wr := []) (xrV (n := 3) (As := [.ref rl, .int 0, .int (nI b)]) (rest := [.long 1]) (ci := 1) (q0 := 0) hd hK hP hD (g_stepsIn_0 l D cI cJ cZ cR _ lg l1 l2 l3 l4 l5 rl b0 a1 a2 a3 s0 w0 u0 t0 fb gb zf kf cf (nI o) en ev x1 x2 x3 x4 x5 x6 b e0 h0t hb0) (gV t_495 mV_X1_stepsIn) hV_X1_stepsIn ⟨(Nat.le_of_ble_eq_true rfl), (Nat.le_of_ble_eq_true rfl)⟩ rfl rfl [0, 1, 2, 3, 4, 5, 6, 7, 8, 9, 10, 11, 12, 13] rfl rfl rfl hl.1 rfl (Nat.le_of_ble_eq_true rfl) dX1_combine_75 ⟨(Nat.le_of_ble_eq_true rfl), (Nat.le_of_ble_eq_true rfl)⟩) hP hD hS hA [0, 1, 2, 3, 4, 5, 6, 7, 8, 9, 10, 11, 12, 13] [] rfl rfl rfl (by decide) (fun r_27 u_28 H locs hw_29 hP hD hS => ?_)
          have hP : va_P D vwCl [kX1 lg l1 l2 l3 l4 l5, kJ cJ l1 96 fb, kI cI l2 96 gb, kI cZ l3 96 zf, kI cI l4 96 kf, kI cI l5 6 cf, kX4 rl (nI o) b0 s0 w0 u0, kX0 b0 a1 a2 a3 en ev, kI cI a1 3 x1, kI cI a2 3 x2, kI cI a3 3 x3, kI cI s0 3 x4, kI cI w0 64 x5, kI cI u0 64 x6] H := hP
          have hD : va_D A [kX1 lg l1 l2 l3 l4 l5, kJ cJ l1 96 fb, kI cI l2 96 gb, kI cZ l3 96 zf, kI cI l4 96 kf, kI cI l5 6 cf, kX4 rl (nI o) b0 s0 w0 u0, kX0 b0 a1 a2 a3 en ev, kI cI a1 3 x1, kI cI a2 3 x2, kI cI a3 3 x3, kI cI s0 3 x4, kI cI w0 64 x5, kI cI u0 64 x6] := hD
          refine lv_ladd hx hb dX1_combine_78 ?_
          refine lv_aload_n hx hb dX1_combine_79 rfl (lv_at hl 1 rfl) ?_
          refine lv_aload_n hx hb dX1_combine_80 rfl (lv_at hl 2 rfl) ?_
          refine lv_iconst (v := 1) hx hb dX1_combine_81 (by decide) ?_
          refine lv_iload hx hb dX1_combine_82 (lv_at hl 0 rfl) ?_
          refine xc_l (wc := [kX1 lg l1 l2 l3 l4 l5, kJ cJ l1 96 fb, kI cI l2 96 gb, kI cZ l3 96 zf, kI cI l4 96 kf, kI cI l5 6 cf, kX4 rl (nI o) b0 s0 w0 u0, kX0 b0 a1 a2 a3 en ev, kI cI a1 3 x1, kI cI a2 3 x2, kI cI a3 3 x3, kI cI s0 3 x4, kI cI w0 64 x5, kI cI u0 64 x6]) (wr := []) (xrV (n := 3) (As := [.ref rl, .int 1, .int (nI q1)]) (rest := [.long (1 + r_27)]) (ci := 1) (q0 := 0) hd hK hP hD (g_stepsIn_1 l D cI cJ cZ cR _ lg l1 l2 l3 l4 l5 rl b0 a1 a2 a3 s0 w0 u0 t1 fb gb zf kf cf (nI o) en ev x1 x2 x3 x4 x5 x6 q1 e1 h1t hq1) (gV t_495 mV_X1_stepsIn) hV_X1_stepsIn ⟨(Nat.le_of_ble_eq_true rfl), (Nat.le_of_ble_eq_true rfl)⟩ rfl rfl [0, 1, 2, 3, 4, 5, 6, 7, 8, 9, 10, 11, 12, 13] rfl rfl rfl hl.1 rfl (Nat.le_of_ble_eq_true rfl) dX1_combine_84 ⟨(Nat.le_of_ble_eq_true rfl), (Nat.le_of_ble_eq_true rfl)⟩) hP hD hS hA [0, 1, 2, 3, 4, 5, 6, 7, 8, 9, 10, 11, 12, 13] [] rfl rfl rfl (by decide) (fun r_30 u_31 H locs hw_32 hP hD hS => ?_)
          have hP : va_P D vwCl [kX1 lg l1 l2 l3 l4 l5, kJ cJ l1 96 fb, kI cI l2 96 gb, kI cZ l3 96 zf, kI cI l4 96 kf, kI cI l5 6 cf, kX4 rl (nI o) b0 s0 w0 u0, kX0 b0 a1 a2 a3 en ev, kI cI a1 3 x1, kI cI a2 3 x2, kI cI a3 3 x3, kI cI s0 3 x4, kI cI w0 64 x5, kI cI u0 64 x6] H := hP
          have hD : va_D A [kX1 lg l1 l2 l3 l4 l5, kJ cJ l1 96 fb, kI cI l2 96 gb, kI cZ l3 96 zf, kI cI l4 96 kf, kI cI l5 6 cf, kX4 rl (nI o) b0 s0 w0 u0, kX0 b0 a1 a2 a3 en ev, kI cI a1 3 x1, kI cI a2 3 x2, kI cI a3 3 x3, kI cI s0 3 x4, kI cI w0 64 x5, kI cI u0 64 x6] := hD
          refine lv_ladd hx hb dX1_combine_87 ?_
          refine lv_lstore (lv' := [(9, .long ((1 + r_27) + r_30)), (8, .int (nI q1)), (0, .ref lg), (1, .ref rl), (2, .int p2), (3, .int 0), (4, .int (nI b)), (5, .int (nI i)), (6, .int (nI b)), (7, .int (nI j))]) hx hb dX1_combine_88 hl (by decide) rfl (fun ls hl => ?_)
          refine lv_iconst (v := 0) hx hb dX1_combine_90 (by decide) ?_
          refine lv_istore (lv' := [(11, .int 0), (9, .long ((1 + r_27) + r_30)), (8, .int (nI q1)), (0, .ref lg), (1, .ref rl), (2, .int p2), (3, .int 0), (4, .int (nI b)), (5, .int (nI i)), (6, .int (nI b)), (7, .int (nI j))]) hx hb dX1_combine_91 hl (by decide) rfl (fun ls hl => ?_)
          have LOOP_93 : ∀ (n : Nat) (k : Nat) (tw : Int64) (fc : Nat → Int64) (gc : Nat → Int32), (k + n = cz zf (t2 * 16) 16) → ∀ (H : Heap) (locs : List Loc) (ls : Array Slot), va_P D vwCl [kX1 lg l1 l2 l3 l4 l5, kJ cJ l1 96 fc, kI cI l2 96 gc, kI cZ l3 96 zf, kI cI l4 96 kf, kI cI l5 6 cf, kX4 rl (nI o) b0 s0 w0 u0, kX0 b0 a1 a2 a3 en ev, kI cI a1 3 x1, kI cI a2 3 x2, kI cI a3 3 x3, kI cI s0 3 x4, kI cI w0 64 x5, kI cI u0 64 x6] H → va_D A [kX1 lg l1 l2 l3 l4 l5, kJ cJ l1 96 fc, kI cI l2 96 gc, kI cZ l3 96 zf, kI cI l4 96 kf, kI cI l5 6 cf, kX4 rl (nI o) b0 s0 w0 u0, kX0 b0 a1 a2 a3 en ev, kI cI a1 3 x1, kI cI a2 3 x2, kI cI a3 3 x3, kI cI s0 3 x4, kI cI w0 64 x5, kI cI u0 64 x6] → va_S A s.heap H locs → lv_has ls 13 [(0, .ref lg), (1, .ref rl), (2, .int p2), (3, .int 0), (4, .int (nI b)), (5, .int (nI i)), (6, .int (nI b)), (7, .int (nI j)), (8, .int (nI q1)), (9, .long tw), (11, .int (nI k))] → W p l e (rM 1 0 0 26) s m ([.ref lg, .ref rl, .int p2, .int 0, .int (nI b)] : List Value).toArray below meth c H locs 0 0 Q (F0 m 93 ls []) := by
            intro n
            induction n with
            | zero =>
              intro k tw fc gc hk H locs ls hP hD hS hl
              refine lv_iload hx hb dX1_combine_93 (lv_at hl 10 rfl) ?_
              refine lv_aload_n hx hb dX1_combine_95 rfl (lv_at hl 0 rfl) ?_
              refine lv_aload_n hx hb dX1_combine_96 rfl (lv_at hl 1 rfl) ?_
              refine lv_iconst (v := 2) hx hb dX1_combine_97 (by decide) ?_
              refine lv_iload_n hx hb dX1_combine_98 rfl (lv_at hl 3 rfl) ?_
              refine xc_i (wc := [kX1 lg l1 l2 l3 l4 l5, kJ cJ l1 96 fc, kI cI l2 96 gc, kI cZ l3 96 zf, kI cI l4 96 kf, kI cI l5 6 cf, kX4 rl (nI o) b0 s0 w0 u0, kX0 b0 a1 a2 a3 en ev, kI cI a1 3 x1, kI cI a2 3 x2, kI cI a3 3 x3, kI cI s0 3 x4, kI cI w0 64 x5, kI cI u0 64 x6]) (wr := []) (xrV (n := 3) (As := [.ref rl, .int 2, .int 0]) (rest := [.int (nI k)]) (ci := 1) (q0 := 0) hd hK hP hD (g_choices_20 l D cI cJ cZ cR _ lg l1 l2 l3 l4 l5 rl b0 a1 a2 a3 s0 w0 u0 t2 fc gc zf kf cf (nI o) en ev x1 x2 x3 x4 x5 x6 e2 h2t (hSI.1 t2 h2t)) (gV t_487 mV_X1_choices) hV_X1_choices ⟨(Nat.le_of_ble_eq_true rfl), (Nat.le_of_ble_eq_true rfl)⟩ rfl rfl [0, 1, 2, 3, 4, 5, 6, 7, 8, 9, 10, 11, 12, 13] rfl rfl rfl hl.1 rfl (Nat.le_of_ble_eq_true rfl) dX1_combine_99 ⟨(Nat.le_of_ble_eq_true rfl), (Nat.le_of_ble_eq_true rfl)⟩) hP hD hS hA [0, 1, 2, 3, 4, 5, 6, 7, 8, 9, 10, 11, 12, 13] [] rfl rfl rfl (by decide) (fun r_33 u_34 H locs hw_35 hP hD hS => ?_)
              have hw_36 : r_33 = (nI (cz zf (t2 * 16) 16)) := hw_35
              subst hw_36
              have hP : va_P D vwCl [kX1 lg l1 l2 l3 l4 l5, kJ cJ l1 96 fc, kI cI l2 96 gc, kI cZ l3 96 zf, kI cI l4 96 kf, kI cI l5 6 cf, kX4 rl (nI o) b0 s0 w0 u0, kX0 b0 a1 a2 a3 en ev, kI cI a1 3 x1, kI cI a2 3 x2, kI cI a3 3 x3, kI cI s0 3 x4, kI cI w0 64 x5, kI cI u0 64 x6] H := hP
              have hD : va_D A [kX1 lg l1 l2 l3 l4 l5, kJ cJ l1 96 fc, kI cI l2 96 gc, kI cZ l3 96 zf, kI cI l4 96 kf, kI cI l5 6 cf, kX4 rl (nI o) b0 s0 w0 u0, kX0 b0 a1 a2 a3 en ev, kI cI a1 3 x1, kI cI a2 3 x2, kI cI a3 3 x3, kI cI s0 3 x4, kI cI w0 64 x5, kI cI u0 64 x6] := hD
              refine lv_icmp_ge (tgt := 161) hx hb dX1_combine_102 (by decide) (fun c_37 => ?_) (fun c_37 => ?_)
              rotate_left
              · exact absurd (nI_le (a := (cz zf (t2 * 16) 16)) (b := k) (by omega) (by omega)) c_37
              refine lv_iinc (v := nI (j + 1)) (lv' := [(7, .int (nI (j + 1))), (0, .ref lg), (1, .ref rl), (2, .int p2), (3, .int 0), (4, .int (nI b)), (5, .int (nI i)), (6, .int (nI b)), (8, .int (nI q1)), (9, .long tw), (11, .int (nI k))]) hx hb dX1_combine_161 hl (k := 7) rfl (nI_1 j) (by decide) rfl (fun ls hl => ?_)
              refine lv_goto (tgt := 37) hx hb dX1_combine_164 (by decide) ?_
              exact ih_37 (j + 1) fc gc (by omega) _ _ _ (hP.sub [0, 1, 2, 3, 4, 5, 6, 7, 8, 9, 10, 11, 12, 13] rfl) (hD.sub [0, 1, 2, 3, 4, 5, 6, 7, 8, 9, 10, 11, 12, 13] rfl rfl) hS (lv_sub hl [1, 2, 3, 4, 5, 6, 7, 0] rfl)
            | succ n ih_93 =>
              intro k tw fc gc hk H locs ls hP hD hS hl
              refine lv_iload hx hb dX1_combine_93 (lv_at hl 10 rfl) ?_
              refine lv_aload_n hx hb dX1_combine_95 rfl (lv_at hl 0 rfl) ?_
              refine lv_aload_n hx hb dX1_combine_96 rfl (lv_at hl 1 rfl) ?_
              refine lv_iconst (v := 2) hx hb dX1_combine_97 (by decide) ?_
              refine lv_iload_n hx hb dX1_combine_98 rfl (lv_at hl 3 rfl) ?_
              refine xc_i (wc := [kX1 lg l1 l2 l3 l4 l5, kJ cJ l1 96 fc, kI cI l2 96 gc, kI cZ l3 96 zf, kI cI l4 96 kf, kI cI l5 6 cf, kX4 rl (nI o) b0 s0 w0 u0, kX0 b0 a1 a2 a3 en ev, kI cI a1 3 x1, kI cI a2 3 x2, kI cI a3 3 x3, kI cI s0 3 x4, kI cI w0 64 x5, kI cI u0 64 x6]) (wr := []) (xrV (n := 3) (As := [.ref rl, .int 2, .int 0]) (rest := [.int (nI k)]) (ci := 1) (q0 := 0) hd hK hP hD (g_choices_20 l D cI cJ cZ cR _ lg l1 l2 l3 l4 l5 rl b0 a1 a2 a3 s0 w0 u0 t2 fc gc zf kf cf (nI o) en ev x1 x2 x3 x4 x5 x6 e2 h2t (hSI.1 t2 h2t)) (gV t_487 mV_X1_choices) hV_X1_choices ⟨(Nat.le_of_ble_eq_true rfl), (Nat.le_of_ble_eq_true rfl)⟩ rfl rfl [0, 1, 2, 3, 4, 5, 6, 7, 8, 9, 10, 11, 12, 13] rfl rfl rfl hl.1 rfl (Nat.le_of_ble_eq_true rfl) dX1_combine_99 ⟨(Nat.le_of_ble_eq_true rfl), (Nat.le_of_ble_eq_true rfl)⟩) hP hD hS hA [0, 1, 2, 3, 4, 5, 6, 7, 8, 9, 10, 11, 12, 13] [] rfl rfl rfl (by decide) (fun r_38 u_39 H locs hw_40 hP hD hS => ?_)
              have hw_41 : r_38 = (nI (cz zf (t2 * 16) 16)) := hw_40
              subst hw_41
              have hP : va_P D vwCl [kX1 lg l1 l2 l3 l4 l5, kJ cJ l1 96 fc, kI cI l2 96 gc, kI cZ l3 96 zf, kI cI l4 96 kf, kI cI l5 6 cf, kX4 rl (nI o) b0 s0 w0 u0, kX0 b0 a1 a2 a3 en ev, kI cI a1 3 x1, kI cI a2 3 x2, kI cI a3 3 x3, kI cI s0 3 x4, kI cI w0 64 x5, kI cI u0 64 x6] H := hP
              have hD : va_D A [kX1 lg l1 l2 l3 l4 l5, kJ cJ l1 96 fc, kI cI l2 96 gc, kI cZ l3 96 zf, kI cI l4 96 kf, kI cI l5 6 cf, kX4 rl (nI o) b0 s0 w0 u0, kX0 b0 a1 a2 a3 en ev, kI cI a1 3 x1, kI cI a2 3 x2, kI cI a3 3 x3, kI cI s0 3 x4, kI cI w0 64 x5, kI cI u0 64 x6] := hD
              refine lv_icmp_ge (tgt := 161) hx hb dX1_combine_102 (by decide) (fun c_42 => ?_) (fun c_42 => ?_)
              · exact absurd c_42 (nI_ge (a := k) (b := (cz zf (t2 * 16) 16)) (by omega) (by omega))
              refine lv_iload_n hx hb dX1_combine_105 rfl (lv_at hl 3 rfl) ?_
              refine lv_iconst (v := 2) hx hb dX1_combine_106 (by decide) ?_
              refine lv_icmp_ne (tgt := 115) hx hb dX1_combine_107 (by decide) (fun c_43 => ?_) (fun c_43 => ?_)
              rotate_left
              · exact absurd c_43 (by decide)
              refine lv_aload_n hx hb dX1_combine_115 rfl (lv_at hl 0 rfl) ?_
              refine lv_aload_n hx hb dX1_combine_116 rfl (lv_at hl 1 rfl) ?_
              refine lv_iconst (v := 2) hx hb dX1_combine_117 (by decide) ?_
              refine lv_iload hx hb dX1_combine_118 (lv_at hl 10 rfl) ?_
              obtain ⟨q2, hq2, ek2⟩ := hSI.2 t2 h2t k (by omega)
              refine xc_i (wc := [kX1 lg l1 l2 l3 l4 l5, kJ cJ l1 96 fc, kI cI l2 96 gc, kI cZ l3 96 zf, kI cI l4 96 kf, kI cI l5 6 cf, kX4 rl (nI o) b0 s0 w0 u0, kX0 b0 a1 a2 a3 en ev, kI cI a1 3 x1, kI cI a2 3 x2, kI cI a3 3 x3, kI cI s0 3 x4, kI cI w0 64 x5, kI cI u0 64 x6]) (wr := []) (xrV (n := 3) (As := [.ref rl, .int 2, .int (nI k)]) (rest := []) (ci := 1) (q0 := 0) hd hK hP hD (g_settledKind_2 l D cI cJ cZ cR _ lg l1 l2 l3 l4 l5 rl b0 a1 a2 a3 s0 w0 u0 t2 fc gc zf kf cf (nI o) en ev x1 x2 x3 x4 x5 x6 k q2 e2 h2t (by omega) ek2) (gV t_491 mV_X1_settledKind) hV_X1_settledKind ⟨(Nat.le_of_ble_eq_true rfl), (Nat.le_of_ble_eq_true rfl)⟩ rfl rfl [0, 1, 2, 3, 4, 5, 6, 7, 8, 9, 10, 11, 12, 13] rfl rfl rfl hl.1 rfl (Nat.le_of_ble_eq_true rfl) dX1_combine_120 ⟨(Nat.le_of_ble_eq_true rfl), (Nat.le_of_ble_eq_true rfl)⟩) hP hD hS hA [0, 1, 2, 3, 4, 5, 6, 7, 8, 9, 10, 11, 12, 13] [] rfl rfl rfl (by decide) (fun r_44 u_45 H locs hw_46 hP hD hS => ?_)
              have hw_47 : r_44 = (nI q2) := hw_46
              subst hw_47
              have hP : va_P D vwCl [kX1 lg l1 l2 l3 l4 l5, kJ cJ l1 96 fc, kI cI l2 96 gc, kI cZ l3 96 zf, kI cI l4 96 kf, kI cI l5 6 cf, kX4 rl (nI o) b0 s0 w0 u0, kX0 b0 a1 a2 a3 en ev, kI cI a1 3 x1, kI cI a2 3 x2, kI cI a3 3 x3, kI cI s0 3 x4, kI cI w0 64 x5, kI cI u0 64 x6] H := hP
              have hD : va_D A [kX1 lg l1 l2 l3 l4 l5, kJ cJ l1 96 fc, kI cI l2 96 gc, kI cZ l3 96 zf, kI cI l4 96 kf, kI cI l5 6 cf, kX4 rl (nI o) b0 s0 w0 u0, kX0 b0 a1 a2 a3 en ev, kI cI a1 3 x1, kI cI a2 3 x2, kI cI a3 3 x3, kI cI s0 3 x4, kI cI w0 64 x5, kI cI u0 64 x6] := hD
              refine lv_istore (lv' := [(12, .int (nI q2)), (0, .ref lg), (1, .ref rl), (2, .int p2), (3, .int 0), (4, .int (nI b)), (5, .int (nI i)), (6, .int (nI b)), (7, .int (nI j)), (8, .int (nI q1)), (9, .long tw), (11, .int (nI k))]) hx hb dX1_combine_123 hl (by decide) rfl (fun ls hl => ?_)
              refine lv_aload_n hx hb dX1_combine_125 rfl (lv_at hl 1 rfl) ?_
              refine lv_aload_n hx hb dX1_combine_126 rfl (lv_at hl 2 rfl) ?_
              refine va_get (D := D) (ci := 4) (v := .int (nI o)) (C := RX4) (T := TX4) (N := 5) hx hb hts iT_X4 hown hK1 hP 6 rfl rfl 0 (by decide) (hts _ t_82) (fun _ h9 => h9) rfl dX1_combine_127 ?_
              refine lv_aload_n hx hb dX1_combine_130 rfl (lv_at hl 2 rfl) ?_
              refine lv_iload hx hb dX1_combine_131 (lv_at hl 7 rfl) ?_
              refine lv_iload hx hb dX1_combine_133 (lv_at hl 9 rfl) ?_
              refine lv_iload hx hb dX1_combine_135 (lv_at hl 0 rfl) ?_
              refine xc_i (wc := [kX4 rl (nI o) b0 s0 w0 u0, kX0 b0 a1 a2 a3 en ev, kI cI a1 3 x1, kI cI a2 3 x2, kI cI a3 3 x3, kI cI s0 3 x4, kI cI w0 64 x5, kI cI u0 64 x6]) (wr := [kX1 lg l1 l2 l3 l4 l5, kJ cJ l1 96 fc, kI cI l2 96 gc, kI cZ l3 96 zf, kI cI l4 96 kf, kI cI l5 6 cf]) (xrV (n := 3) (As := [.int (nI b), .int (nI q1), .int (nI q2)]) (rest := [.int (nI o), .ref lg]) (ci := 4) (q0 := 6) hd hK hP hD (c_X4_kindFrom l D cI cJ cZ cR _ rl b0 a1 a2 a3 s0 w0 u0 (nI o) en ev x1 x2 x3 x4 x5 x6 (nI b) (nI q1) (nI q2) hw4 hu4) (gV t_499 mV_X4_kindFrom) hV_X4_kindFrom ⟨(Nat.le_of_ble_eq_true rfl), (Nat.le_of_ble_eq_true rfl)⟩ rfl rfl [6, 7, 8, 9, 10, 11, 12, 13] rfl rfl rfl hl.1 rfl (Nat.le_of_ble_eq_true rfl) dX1_combine_137 ⟨(Nat.le_of_ble_eq_true rfl), (Nat.le_of_ble_eq_true rfl)⟩) hP hD hS hA [6, 7, 8, 9, 10, 11, 12, 13] [0, 1, 2, 3, 4, 5] rfl rfl rfl (by decide) (fun r_48 u_49 H locs hw_50 hP hD hS => ?_)
              obtain ⟨kk_51, rfl⟩ : ∃ z9, z9 = u_49 := ⟨_, rfl⟩
              obtain ⟨hw_52, hw_53⟩ : (r_48 = (nI kk_51)) ∧ (kk_51 < 16) := hw_50
              subst hw_52
              have hk16 := hw_53
              have hP : va_P D vwCl [kX1 lg l1 l2 l3 l4 l5, kJ cJ l1 96 fc, kI cI l2 96 gc, kI cZ l3 96 zf, kI cI l4 96 kf, kI cI l5 6 cf, kX4 rl (nI o) b0 s0 w0 u0, kX0 b0 a1 a2 a3 en ev, kI cI a1 3 x1, kI cI a2 3 x2, kI cI a3 3 x3, kI cI s0 3 x4, kI cI w0 64 x5, kI cI u0 64 x6] H := hP
              have hD : va_D A [kX1 lg l1 l2 l3 l4 l5, kJ cJ l1 96 fc, kI cI l2 96 gc, kI cZ l3 96 zf, kI cI l4 96 kf, kI cI l5 6 cf, kX4 rl (nI o) b0 s0 w0 u0, kX0 b0 a1 a2 a3 en ev, kI cI a1 3 x1, kI cI a2 3 x2, kI cI a3 3 x3, kI cI s0 3 x4, kI cI w0 64 x5, kI cI u0 64 x6] := hD
              refine lv_lload hx hb dX1_combine_140 (lv_at hl 10 rfl) ?_
              refine lv_aload_n hx hb dX1_combine_142 rfl (lv_at hl 1 rfl) ?_
              refine lv_aload_n hx hb dX1_combine_143 rfl (lv_at hl 2 rfl) ?_
              refine lv_iconst (v := 2) hx hb dX1_combine_144 (by decide) ?_
              refine lv_iload hx hb dX1_combine_145 (lv_at hl 0 rfl) ?_
              refine xc_l (wc := [kX1 lg l1 l2 l3 l4 l5, kJ cJ l1 96 fc, kI cI l2 96 gc, kI cZ l3 96 zf, kI cI l4 96 kf, kI cI l5 6 cf, kX4 rl (nI o) b0 s0 w0 u0, kX0 b0 a1 a2 a3 en ev, kI cI a1 3 x1, kI cI a2 3 x2, kI cI a3 3 x3, kI cI s0 3 x4, kI cI w0 64 x5, kI cI u0 64 x6]) (wr := []) (xrV (n := 3) (As := [.ref rl, .int 2, .int (nI q2)]) (rest := [.long tw, .int (nI kk_51), .int (nI o), .ref lg]) (ci := 1) (q0 := 0) hd hK hP hD (g_stepsIn_2 l D cI cJ cZ cR _ lg l1 l2 l3 l4 l5 rl b0 a1 a2 a3 s0 w0 u0 t2 fc gc zf kf cf (nI o) en ev x1 x2 x3 x4 x5 x6 q2 e2 h2t hq2) (gV t_495 mV_X1_stepsIn) hV_X1_stepsIn ⟨(Nat.le_of_ble_eq_true rfl), (Nat.le_of_ble_eq_true rfl)⟩ rfl rfl [0, 1, 2, 3, 4, 5, 6, 7, 8, 9, 10, 11, 12, 13] rfl rfl rfl hl.1 rfl (Nat.le_of_ble_eq_true rfl) dX1_combine_147 ⟨(Nat.le_of_ble_eq_true rfl), (Nat.le_of_ble_eq_true rfl)⟩) hP hD hS hA [0, 1, 2, 3, 4, 5, 6, 7, 8, 9, 10, 11, 12, 13] [] rfl rfl rfl (by decide) (fun r_54 u_55 H locs hw_56 hP hD hS => ?_)
              have hP : va_P D vwCl [kX1 lg l1 l2 l3 l4 l5, kJ cJ l1 96 fc, kI cI l2 96 gc, kI cZ l3 96 zf, kI cI l4 96 kf, kI cI l5 6 cf, kX4 rl (nI o) b0 s0 w0 u0, kX0 b0 a1 a2 a3 en ev, kI cI a1 3 x1, kI cI a2 3 x2, kI cI a3 3 x3, kI cI s0 3 x4, kI cI w0 64 x5, kI cI u0 64 x6] H := hP
              have hD : va_D A [kX1 lg l1 l2 l3 l4 l5, kJ cJ l1 96 fc, kI cI l2 96 gc, kI cZ l3 96 zf, kI cI l4 96 kf, kI cI l5 6 cf, kX4 rl (nI o) b0 s0 w0 u0, kX0 b0 a1 a2 a3 en ev, kI cI a1 3 x1, kI cI a2 3 x2, kI cI a3 3 x3, kI cI s0 3 x4, kI cI w0 64 x5, kI cI u0 64 x6] := hD
              refine lv_ladd hx hb dX1_combine_150 ?_
              refine lv_iload_n hx hb dX1_combine_151 rfl (lv_at hl 3 rfl) ?_
              refine xc_v (wc := [kX1 lg l1 l2 l3 l4 l5, kJ cJ l1 96 fc, kI cI l2 96 gc, kI cZ l3 96 zf, kI cI l4 96 kf, kI cI l5 6 cf]) (wr := [kX4 rl (nI o) b0 s0 w0 u0, kX0 b0 a1 a2 a3 en ev, kI cI a1 3 x1, kI cI a2 3 x2, kI cI a3 3 x3, kI cI s0 3 x4, kI cI w0 64 x5, kI cI u0 64 x6]) (xrV (n := 4) (As := [.int (nI o), .int (nI kk_51), .long (tw + r_54), .int p2]) (rest := []) (ci := 1) (q0 := 0) hd hK hP hD (c_X1_offer l D cI cJ cZ cR _ lg l1 l2 l3 l4 l5 o kk_51 fc gc zf kf cf (tw + r_54) p2 (by omega) hk16) (gV t_467 mV_X1_offer) hV_X1_offer ⟨(Nat.le_of_ble_eq_true rfl), (Nat.le_of_ble_eq_true rfl)⟩ rfl rfl [0, 1, 2, 3, 4, 5] rfl rfl rfl hl.1 rfl (Nat.le_of_ble_eq_true rfl) dX1_combine_152 ⟨(Nat.le_of_ble_eq_true rfl), (Nat.le_of_ble_eq_true rfl)⟩) hP hD hS hA [0, 1, 2, 3, 4, 5] [6, 7, 8, 9, 10, 11, 12, 13] rfl rfl rfl (by decide) (fun u_58 H locs hw_59 hP hD hS => ?_)
              obtain ⟨f2_60, g2_61⟩ := u_58
              have hP : va_P D vwCl [kX4 rl (nI o) b0 s0 w0 u0, kX0 b0 a1 a2 a3 en ev, kI cI a1 3 x1, kI cI a2 3 x2, kI cI a3 3 x3, kI cI s0 3 x4, kI cI w0 64 x5, kI cI u0 64 x6, kX1 lg l1 l2 l3 l4 l5, kJ cJ l1 96 f2_60, kI cI l2 96 g2_61, kI cZ l3 96 zf, kI cI l4 96 kf, kI cI l5 6 cf] H := hP
              have hD : va_D A [kX4 rl (nI o) b0 s0 w0 u0, kX0 b0 a1 a2 a3 en ev, kI cI a1 3 x1, kI cI a2 3 x2, kI cI a3 3 x3, kI cI s0 3 x4, kI cI w0 64 x5, kI cI u0 64 x6, kX1 lg l1 l2 l3 l4 l5, kJ cJ l1 96 f2_60, kI cI l2 96 g2_61, kI cZ l3 96 zf, kI cI l4 96 kf, kI cI l5 6 cf] := hD
              refine lv_iinc (v := nI (k + 1)) (lv' := [(11, .int (nI (k + 1))), (12, .int (nI q2)), (0, .ref lg), (1, .ref rl), (2, .int p2), (3, .int 0), (4, .int (nI b)), (5, .int (nI i)), (6, .int (nI b)), (7, .int (nI j)), (8, .int (nI q1)), (9, .long tw)]) hx hb dX1_combine_155 hl (k := 11) rfl (nI_1 k) (by decide) rfl (fun ls hl => ?_)
              refine lv_goto (tgt := 93) hx hb dX1_combine_158 (by decide) ?_
              exact ih_93 (k + 1) tw f2_60 g2_61 (by omega) _ _ _ (hP.sub [8, 9, 10, 11, 12, 13, 0, 1, 2, 3, 4, 5, 6, 7] rfl) (hD.sub [8, 9, 10, 11, 12, 13, 0, 1, 2, 3, 4, 5, 6, 7] rfl rfl) hS (lv_sub hl [2, 3, 4, 5, 6, 7, 8, 9, 10, 11, 0] rfl)
          exact LOOP_93 (cz zf (t2 * 16) 16) 0 ((1 + r_27) + r_30) fb gb (by omega) _ _ _ (hP.sub [0, 1, 2, 3, 4, 5, 6, 7, 8, 9, 10, 11, 12, 13] rfl) (hD.sub [0, 1, 2, 3, 4, 5, 6, 7, 8, 9, 10, 11, 12, 13] rfl rfl) hS (lv_sub hl [3, 4, 5, 6, 7, 8, 9, 10, 2, 1, 0] rfl)
      exact LOOP_37 (cz zf (t1 * 16) 16) 0 fa ga (by omega) _ _ _ (hP.sub [0, 1, 2, 3, 4, 5, 6, 7, 8, 9, 10, 11, 12, 13] rfl) (hD.sub [0, 1, 2, 3, 4, 5, 6, 7, 8, 9, 10, 11, 12, 13] rfl rfl) hS (lv_sub hl [2, 3, 4, 5, 6, 7, 1, 0] rfl)
  exact LOOP_3 (1) 0 ff gf (by omega) _ _ _ (hP.sub [0, 1, 2, 3, 4, 5, 6, 7, 8, 9, 10, 11, 12, 13] rfl) (hD.sub [0, 1, 2, 3, 4, 5, 6, 7, 8, 9, 10, 11, 12, 13] rfl rfl) hS (lv_sub hl [1, 2, 3, 4, 5, 0] rfl)
set_option maxHeartbeats 4000000 in
set_option maxRecDepth 100000 in
theorem g_combine_1 (sz : Nat) (lg : Nat) (l1 : Nat) (l2 : Nat) (l3 : Nat) (l4 : Nat) (l5 : Nat) (rl : Nat) (b0 : Nat) (a1 : Nat) (a2 : Nat) (a3 : Nat) (s0 : Nat) (w0 : Nat) (u0 : Nat) (t0 : Nat) (t1 : Nat) (t2 : Nat) (b : Nat) (ff : Nat → Int64) (gf : Nat → Int32) (zf : Nat → Int32) (kf : Nat → Int32) (cf : Nat → Int32) (o : Nat) (en : Int32) (ev : Int32) (x1 : Nat → Int32) (x2 : Nat → Int32) (x3 : Nat → Int32) (x4 : Nat → Int32) (x5 : Nat → Int32) (x6 : Nat → Int32) (p2 : Int32) (e0 : x4 0 = nI t0) (e1 : x4 1 = nI t1) (e2 : x4 2 = nI t2) (h0t : t0 < 6) (h1t : t1 < 6) (h2t : t2 < 6) (ho : o < 3) (hw4 : ∀ j, j < 64 → lt4 (x5 j)) (hu4 : ∀ j, j < 64 → lt4 (x6 j)) (hSI : SI zf kf cf) (hb0 : b < 16) : CTv l D cI cJ cZ cR yX1_combine cX1_combine 13 none 1 26 0 0 sz [.ref lg, .ref rl, .int p2, .int 1, .int (nI b)] [kX1 lg l1 l2 l3 l4 l5, kJ cJ l1 96 ff, kI cI l2 96 gf, kI cZ l3 96 zf, kI cI l4 96 kf, kI cI l5 6 cf, kX4 rl (nI o) b0 s0 w0 u0, kX0 b0 a1 a2 a3 en ev, kI cI a1 3 x1, kI cI a2 3 x2, kI cI a3 3 x3, kI cI s0 3 x4, kI cI w0 64 x5, kI cI u0 64 x6] (fun (u : (Nat → Int64) × (Nat → Int32)) => True) (fun (u : (Nat → Int64) × (Nat → Int32)) => [kX1 lg l1 l2 l3 l4 l5, kJ cJ l1 96 u.1, kI cI l2 96 u.2, kI cZ l3 96 zf, kI cI l4 96 kf, kI cI l5 6 cf, kX4 rl (nI o) b0 s0 w0 u0, kX0 b0 a1 a2 a3 en ev, kI cI a1 3 x1, kI cI a2 3 x2, kI cI a3 3 x3, kI cI s0 3 x4, kI cI w0 64 x5, kI cI u0 64 x6]) := by
  refine CTv.of (by decide) (Nat.le_of_ble_eq_true rfl) rfl ?_
  intro p e s m below meth c A Q ls hd hin hK hsz hP hD hA hS hl hret
  obtain ⟨hx, hb, hml, hown, hts⟩ := id hd
  have hK1 := hK.1
  have hown : s.vm.findClass RX1 = some m.cls := hown
  have hl : lv_has ls 13 [(0, .ref lg), (1, .ref rl), (2, .int p2), (3, .int 1), (4, .int (nI b))] := hl
  have hz0 := cz_le (z := zf) (b := t0 * 16) 16
  have hz1 := cz_le (z := zf) (b := t1 * 16) 16
  have hz2 := cz_le (z := zf) (b := t2 * 16) 16
  refine lv_iconst (v := 0) hx hb dX1_combine_0 (by decide) ?_
  refine lv_istore (lv' := [(5, .int 0), (0, .ref lg), (1, .ref rl), (2, .int p2), (3, .int 1), (4, .int (nI b))]) hx hb dX1_combine_1 hl (by decide) rfl (fun ls hl => ?_)
  have LOOP_3 : ∀ (n : Nat) (i : Nat) (fa : Nat → Int64) (ga : Nat → Int32), (i + n = cz zf (t0 * 16) 16) → ∀ (H : Heap) (locs : List Loc) (ls : Array Slot), va_P D vwCl [kX1 lg l1 l2 l3 l4 l5, kJ cJ l1 96 fa, kI cI l2 96 ga, kI cZ l3 96 zf, kI cI l4 96 kf, kI cI l5 6 cf, kX4 rl (nI o) b0 s0 w0 u0, kX0 b0 a1 a2 a3 en ev, kI cI a1 3 x1, kI cI a2 3 x2, kI cI a3 3 x3, kI cI s0 3 x4, kI cI w0 64 x5, kI cI u0 64 x6] H → va_D A [kX1 lg l1 l2 l3 l4 l5, kJ cJ l1 96 fa, kI cI l2 96 ga, kI cZ l3 96 zf, kI cI l4 96 kf, kI cI l5 6 cf, kX4 rl (nI o) b0 s0 w0 u0, kX0 b0 a1 a2 a3 en ev, kI cI a1 3 x1, kI cI a2 3 x2, kI cI a3 3 x3, kI cI s0 3 x4, kI cI w0 64 x5, kI cI u0 64 x6] → va_S A s.heap H locs → lv_has ls 13 [(0, .ref lg), (1, .ref rl), (2, .int p2), (3, .int 1), (4, .int (nI b)), (5, .int (nI i))] → W p l e (rM 1 0 0 26) s m ([.ref lg, .ref rl, .int p2, .int 1, .int (nI b)] : List Value).toArray below meth c H locs 0 0 Q (F0 m 3 ls []) := by
    intro n
    induction n with
    | zero =>
      intro i fa ga hi H locs ls hP hD hS hl
      refine lv_iload hx hb dX1_combine_3 (lv_at hl 5 rfl) ?_
      refine lv_aload_n hx hb dX1_combine_5 rfl (lv_at hl 0 rfl) ?_
      refine lv_aload_n hx hb dX1_combine_6 rfl (lv_at hl 1 rfl) ?_
      refine lv_iconst (v := 0) hx hb dX1_combine_7 (by decide) ?_
      refine lv_iload_n hx hb dX1_combine_8 rfl (lv_at hl 3 rfl) ?_
      refine xc_i (wc := [kX1 lg l1 l2 l3 l4 l5, kJ cJ l1 96 fa, kI cI l2 96 ga, kI cZ l3 96 zf, kI cI l4 96 kf, kI cI l5 6 cf, kX4 rl (nI o) b0 s0 w0 u0, kX0 b0 a1 a2 a3 en ev, kI cI a1 3 x1, kI cI a2 3 x2, kI cI a3 3 x3, kI cI s0 3 x4, kI cI w0 64 x5, kI cI u0 64 x6]) (wr := []) (xrV (n := 3) (As := [.ref rl, .int 0, .int 1]) (rest := [.int (nI i)]) (ci := 1) (q0 := 0) hd hK hP hD (g_choices_01 l D cI cJ cZ cR _ lg l1 l2 l3 l4 l5 rl b0 a1 a2 a3 s0 w0 u0 t0 fa ga zf kf cf (nI o) en ev x1 x2 x3 x4 x5 x6 e0 h0t (hSI.1 t0 h0t)) (gV t_487 mV_X1_choices) hV_X1_choices ⟨(Nat.le_of_ble_eq_true rfl), (Nat.le_of_ble_eq_true rfl)⟩ rfl rfl [0, 1, 2, 3, 4, 5, 6, 7, 8, 9, 10, 11, 12, 13] rfl rfl rfl hl.1 rfl (Nat.le_of_ble_eq_true rfl) dX1_combine_9 ⟨(Nat.le_of_ble_eq_true rfl), (Nat.le_of_ble_eq_true rfl)⟩) hP hD hS hA [0, 1, 2, 3, 4, 5, 6, 7, 8, 9, 10, 11, 12, 13] [] rfl rfl rfl (by decide) (fun r_1 u_2 H locs hw_3 hP hD hS => ?_)
      have hw_4 : r_1 = (nI (cz zf (t0 * 16) 16)) := hw_3
      subst hw_4
      have hP : va_P D vwCl [kX1 lg l1 l2 l3 l4 l5, kJ cJ l1 96 fa, kI cI l2 96 ga, kI cZ l3 96 zf, kI cI l4 96 kf, kI cI l5 6 cf, kX4 rl (nI o) b0 s0 w0 u0, kX0 b0 a1 a2 a3 en ev, kI cI a1 3 x1, kI cI a2 3 x2, kI cI a3 3 x3, kI cI s0 3 x4, kI cI w0 64 x5, kI cI u0 64 x6] H := hP
      have hD : va_D A [kX1 lg l1 l2 l3 l4 l5, kJ cJ l1 96 fa, kI cI l2 96 ga, kI cZ l3 96 zf, kI cI l4 96 kf, kI cI l5 6 cf, kX4 rl (nI o) b0 s0 w0 u0, kX0 b0 a1 a2 a3 en ev, kI cI a1 3 x1, kI cI a2 3 x2, kI cI a3 3 x3, kI cI s0 3 x4, kI cI w0 64 x5, kI cI u0 64 x6] := hD
      refine lv_icmp_ge (tgt := 173) hx hb dX1_combine_12 (by decide) (fun c_5 => ?_) (fun c_5 => ?_)
      rotate_left
      · exact absurd (nI_le (a := (cz zf (t0 * 16) 16)) (b := i) (by omega) (by omega)) c_5
      exact hret _ _ _ _ _ _ (fa, ga) dX1_combine_173 hS (Nat.le_of_ble_eq_true rfl) (Nat.le_of_ble_eq_true rfl) trivial (hP.sub [0, 1, 2, 3, 4, 5, 6, 7, 8, 9, 10, 11, 12, 13] rfl) (hD.sub [0, 1, 2, 3, 4, 5, 6, 7, 8, 9, 10, 11, 12, 13] rfl rfl)
    | succ n ih_3 =>
      intro i fa ga hi H locs ls hP hD hS hl
      refine lv_iload hx hb dX1_combine_3 (lv_at hl 5 rfl) ?_
      refine lv_aload_n hx hb dX1_combine_5 rfl (lv_at hl 0 rfl) ?_
      refine lv_aload_n hx hb dX1_combine_6 rfl (lv_at hl 1 rfl) ?_
      refine lv_iconst (v := 0) hx hb dX1_combine_7 (by decide) ?_
      refine lv_iload_n hx hb dX1_combine_8 rfl (lv_at hl 3 rfl) ?_
      refine xc_i (wc := [kX1 lg l1 l2 l3 l4 l5, kJ cJ l1 96 fa, kI cI l2 96 ga, kI cZ l3 96 zf, kI cI l4 96 kf, kI cI l5 6 cf, kX4 rl (nI o) b0 s0 w0 u0, kX0 b0 a1 a2 a3 en ev, kI cI a1 3 x1, kI cI a2 3 x2, kI cI a3 3 x3, kI cI s0 3 x4, kI cI w0 64 x5, kI cI u0 64 x6]) (wr := []) (xrV (n := 3) (As := [.ref rl, .int 0, .int 1]) (rest := [.int (nI i)]) (ci := 1) (q0 := 0) hd hK hP hD (g_choices_01 l D cI cJ cZ cR _ lg l1 l2 l3 l4 l5 rl b0 a1 a2 a3 s0 w0 u0 t0 fa ga zf kf cf (nI o) en ev x1 x2 x3 x4 x5 x6 e0 h0t (hSI.1 t0 h0t)) (gV t_487 mV_X1_choices) hV_X1_choices ⟨(Nat.le_of_ble_eq_true rfl), (Nat.le_of_ble_eq_true rfl)⟩ rfl rfl [0, 1, 2, 3, 4, 5, 6, 7, 8, 9, 10, 11, 12, 13] rfl rfl rfl hl.1 rfl (Nat.le_of_ble_eq_true rfl) dX1_combine_9 ⟨(Nat.le_of_ble_eq_true rfl), (Nat.le_of_ble_eq_true rfl)⟩) hP hD hS hA [0, 1, 2, 3, 4, 5, 6, 7, 8, 9, 10, 11, 12, 13] [] rfl rfl rfl (by decide) (fun r_6 u_7 H locs hw_8 hP hD hS => ?_)
      have hw_9 : r_6 = (nI (cz zf (t0 * 16) 16)) := hw_8
      subst hw_9
      have hP : va_P D vwCl [kX1 lg l1 l2 l3 l4 l5, kJ cJ l1 96 fa, kI cI l2 96 ga, kI cZ l3 96 zf, kI cI l4 96 kf, kI cI l5 6 cf, kX4 rl (nI o) b0 s0 w0 u0, kX0 b0 a1 a2 a3 en ev, kI cI a1 3 x1, kI cI a2 3 x2, kI cI a3 3 x3, kI cI s0 3 x4, kI cI w0 64 x5, kI cI u0 64 x6] H := hP
      have hD : va_D A [kX1 lg l1 l2 l3 l4 l5, kJ cJ l1 96 fa, kI cI l2 96 ga, kI cZ l3 96 zf, kI cI l4 96 kf, kI cI l5 6 cf, kX4 rl (nI o) b0 s0 w0 u0, kX0 b0 a1 a2 a3 en ev, kI cI a1 3 x1, kI cI a2 3 x2, kI cI a3 3 x3, kI cI s0 3 x4, kI cI w0 64 x5, kI cI u0 64 x6] := hD
      refine lv_icmp_ge (tgt := 173) hx hb dX1_combine_12 (by decide) (fun c_10 => ?_) (fun c_10 => ?_)
      · exact absurd c_10 (nI_ge (a := i) (b := (cz zf (t0 * 16) 16)) (by omega) (by omega))
      refine lv_iload_n hx hb dX1_combine_15 rfl (lv_at hl 3 rfl) ?_
      refine lv_if_ne (tgt := 24) hx hb dX1_combine_16 (by decide) (fun c_11 => ?_) (fun c_11 => ?_)
      rotate_left
      · exact absurd c_11 (by decide)
      refine lv_aload_n hx hb dX1_combine_24 rfl (lv_at hl 0 rfl) ?_
      refine lv_aload_n hx hb dX1_combine_25 rfl (lv_at hl 1 rfl) ?_
      refine lv_iconst (v := 0) hx hb dX1_combine_26 (by decide) ?_
      refine lv_iload hx hb dX1_combine_27 (lv_at hl 5 rfl) ?_
      obtain ⟨q0, hq0, ek0⟩ := hSI.2 t0 h0t i (by omega)
      refine xc_i (wc := [kX1 lg l1 l2 l3 l4 l5, kJ cJ l1 96 fa, kI cI l2 96 ga, kI cZ l3 96 zf, kI cI l4 96 kf, kI cI l5 6 cf, kX4 rl (nI o) b0 s0 w0 u0, kX0 b0 a1 a2 a3 en ev, kI cI a1 3 x1, kI cI a2 3 x2, kI cI a3 3 x3, kI cI s0 3 x4, kI cI w0 64 x5, kI cI u0 64 x6]) (wr := []) (xrV (n := 3) (As := [.ref rl, .int 0, .int (nI i)]) (rest := []) (ci := 1) (q0 := 0) hd hK hP hD (g_settledKind_0 l D cI cJ cZ cR _ lg l1 l2 l3 l4 l5 rl b0 a1 a2 a3 s0 w0 u0 t0 fa ga zf kf cf (nI o) en ev x1 x2 x3 x4 x5 x6 i q0 e0 h0t (by omega) ek0) (gV t_491 mV_X1_settledKind) hV_X1_settledKind ⟨(Nat.le_of_ble_eq_true rfl), (Nat.le_of_ble_eq_true rfl)⟩ rfl rfl [0, 1, 2, 3, 4, 5, 6, 7, 8, 9, 10, 11, 12, 13] rfl rfl rfl hl.1 rfl (Nat.le_of_ble_eq_true rfl) dX1_combine_29 ⟨(Nat.le_of_ble_eq_true rfl), (Nat.le_of_ble_eq_true rfl)⟩) hP hD hS hA [0, 1, 2, 3, 4, 5, 6, 7, 8, 9, 10, 11, 12, 13] [] rfl rfl rfl (by decide) (fun r_12 u_13 H locs hw_14 hP hD hS => ?_)
      have hw_15 : r_12 = (nI q0) := hw_14
      subst hw_15
      have hP : va_P D vwCl [kX1 lg l1 l2 l3 l4 l5, kJ cJ l1 96 fa, kI cI l2 96 ga, kI cZ l3 96 zf, kI cI l4 96 kf, kI cI l5 6 cf, kX4 rl (nI o) b0 s0 w0 u0, kX0 b0 a1 a2 a3 en ev, kI cI a1 3 x1, kI cI a2 3 x2, kI cI a3 3 x3, kI cI s0 3 x4, kI cI w0 64 x5, kI cI u0 64 x6] H := hP
      have hD : va_D A [kX1 lg l1 l2 l3 l4 l5, kJ cJ l1 96 fa, kI cI l2 96 ga, kI cZ l3 96 zf, kI cI l4 96 kf, kI cI l5 6 cf, kX4 rl (nI o) b0 s0 w0 u0, kX0 b0 a1 a2 a3 en ev, kI cI a1 3 x1, kI cI a2 3 x2, kI cI a3 3 x3, kI cI s0 3 x4, kI cI w0 64 x5, kI cI u0 64 x6] := hD
      refine lv_istore (lv' := [(6, .int (nI q0)), (0, .ref lg), (1, .ref rl), (2, .int p2), (3, .int 1), (4, .int (nI b)), (5, .int (nI i))]) hx hb dX1_combine_32 hl (by decide) rfl (fun ls hl => ?_)
      refine lv_iconst (v := 0) hx hb dX1_combine_34 (by decide) ?_
      refine lv_istore (lv' := [(7, .int 0), (6, .int (nI q0)), (0, .ref lg), (1, .ref rl), (2, .int p2), (3, .int 1), (4, .int (nI b)), (5, .int (nI i))]) hx hb dX1_combine_35 hl (by decide) rfl (fun ls hl => ?_)
      have LOOP_37 : ∀ (n : Nat) (j : Nat) (fb : Nat → Int64) (gb : Nat → Int32), (j + n = 1) → ∀ (H : Heap) (locs : List Loc) (ls : Array Slot), va_P D vwCl [kX1 lg l1 l2 l3 l4 l5, kJ cJ l1 96 fb, kI cI l2 96 gb, kI cZ l3 96 zf, kI cI l4 96 kf, kI cI l5 6 cf, kX4 rl (nI o) b0 s0 w0 u0, kX0 b0 a1 a2 a3 en ev, kI cI a1 3 x1, kI cI a2 3 x2, kI cI a3 3 x3, kI cI s0 3 x4, kI cI w0 64 x5, kI cI u0 64 x6] H → va_D A [kX1 lg l1 l2 l3 l4 l5, kJ cJ l1 96 fb, kI cI l2 96 gb, kI cZ l3 96 zf, kI cI l4 96 kf, kI cI l5 6 cf, kX4 rl (nI o) b0 s0 w0 u0, kX0 b0 a1 a2 a3 en ev, kI cI a1 3 x1, kI cI a2 3 x2, kI cI a3 3 x3, kI cI s0 3 x4, kI cI w0 64 x5, kI cI u0 64 x6] → va_S A s.heap H locs → lv_has ls 13 [(0, .ref lg), (1, .ref rl), (2, .int p2), (3, .int 1), (4, .int (nI b)), (5, .int (nI i)), (6, .int (nI q0)), (7, .int (nI j))] → W p l e (rM 1 0 0 26) s m ([.ref lg, .ref rl, .int p2, .int 1, .int (nI b)] : List Value).toArray below meth c H locs 0 0 Q (F0 m 37 ls []) := by
        intro n
        induction n with
        | zero =>
          intro j fb gb hj H locs ls hP hD hS hl
          refine lv_iload hx hb dX1_combine_37 (lv_at hl 7 rfl) ?_
          refine lv_aload_n hx hb dX1_combine_39 rfl (lv_at hl 0 rfl) ?_
          refine lv_aload_n hx hb dX1_combine_40 rfl (lv_at hl 1 rfl) ?_
          refine lv_iconst (v := 1) hx hb dX1_combine_41 (by decide) ?_
          refine lv_iload_n hx hb dX1_combine_42 rfl (lv_at hl 3 rfl) ?_
          refine xc_i (wc := [kX1 lg l1 l2 l3 l4 l5, kJ cJ l1 96 fb, kI cI l2 96 gb, kI cZ l3 96 zf, kI cI l4 96 kf, kI cI l5 6 cf, kX4 rl (nI o) b0 s0 w0 u0, kX0 b0 a1 a2 a3 en ev, kI cI a1 3 x1, kI cI a2 3 x2, kI cI a3 3 x3, kI cI s0 3 x4, kI cI w0 64 x5, kI cI u0 64 x6]) (wr := []) (xrV (n := 3) (As := [.ref rl, .int 1, .int 1]) (rest := [.int (nI j)]) (ci := 1) (q0 := 0) hd hK hP hD (g_choices_11 l D cI cJ cZ cR _ lg l1 l2 l3 l4 l5 rl b0 a1 a2 a3 s0 w0 u0 fb gb zf kf cf (nI o) en ev x1 x2 x3 x4 x5 x6 ) (gV t_487 mV_X1_choices) hV_X1_choices ⟨(Nat.le_of_ble_eq_true rfl), (Nat.le_of_ble_eq_true rfl)⟩ rfl rfl [0, 1, 2, 3, 4, 5, 6, 7, 8, 9, 10, 11, 12, 13] rfl rfl rfl hl.1 rfl (Nat.le_of_ble_eq_true rfl) dX1_combine_43 ⟨(Nat.le_of_ble_eq_true rfl), (Nat.le_of_ble_eq_true rfl)⟩) hP hD hS hA [0, 1, 2, 3, 4, 5, 6, 7, 8, 9, 10, 11, 12, 13] [] rfl rfl rfl (by decide) (fun r_16 u_17 H locs hw_18 hP hD hS => ?_)
          have hw_19 : r_16 = 1 := hw_18
          subst hw_19
          have hP : va_P D vwCl [kX1 lg l1 l2 l3 l4 l5, kJ cJ l1 96 fb, kI cI l2 96 gb, kI cZ l3 96 zf, kI cI l4 96 kf, kI cI l5 6 cf, kX4 rl (nI o) b0 s0 w0 u0, kX0 b0 a1 a2 a3 en ev, kI cI a1 3 x1, kI cI a2 3 x2, kI cI a3 3 x3, kI cI s0 3 x4, kI cI w0 64 x5, kI cI u0 64 x6] H := hP
          have hD : va_D A [kX1 lg l1 l2 l3 l4 l5, kJ cJ l1 96 fb, kI cI l2 96 gb, kI cZ l3 96 zf, kI cI l4 96 kf, kI cI l5 6 cf, kX4 rl (nI o) b0 s0 w0 u0, kX0 b0 a1 a2 a3 en ev, kI cI a1 3 x1, kI cI a2 3 x2, kI cI a3 3 x3, kI cI s0 3 x4, kI cI w0 64 x5, kI cI u0 64 x6] := hD
          refine lv_icmp_ge (tgt := 167) hx hb dX1_combine_46 (by decide) (fun c_20 => ?_) (fun c_20 => ?_)
          rotate_left
          · exact absurd (nI_le (a := 1) (b := j) (by omega) (by omega)) c_20
          refine lv_iinc (v := nI (i + 1)) (lv' := [(5, .int (nI (i + 1))), (0, .ref lg), (1, .ref rl), (2, .int p2), (3, .int 1), (4, .int (nI b)), (6, .int (nI q0)), (7, .int (nI j))]) hx hb dX1_combine_167 hl (k := 5) rfl (nI_1 i) (by decide) rfl (fun ls hl => ?_)
          refine lv_goto (tgt := 3) hx hb dX1_combine_170 (by decide) ?_
          exact ih_3 (i + 1) fb gb (by omega) _ _ _ (hP.sub [0, 1, 2, 3, 4, 5, 6, 7, 8, 9, 10, 11, 12, 13] rfl) (hD.sub [0, 1, 2, 3, 4, 5, 6, 7, 8, 9, 10, 11, 12, 13] rfl rfl) hS (lv_sub hl [1, 2, 3, 4, 5, 0] rfl)
        | succ n ih_37 =>
          intro j fb gb hj H locs ls hP hD hS hl
          refine lv_iload hx hb dX1_combine_37 (lv_at hl 7 rfl) ?_
          refine lv_aload_n hx hb dX1_combine_39 rfl (lv_at hl 0 rfl) ?_
          refine lv_aload_n hx hb dX1_combine_40 rfl (lv_at hl 1 rfl) ?_
          refine lv_iconst (v := 1) hx hb dX1_combine_41 (by decide) ?_
          refine lv_iload_n hx hb dX1_combine_42 rfl (lv_at hl 3 rfl) ?_
          refine xc_i (wc := [kX1 lg l1 l2 l3 l4 l5, kJ cJ l1 96 fb, kI cI l2 96 gb, kI cZ l3 96 zf, kI cI l4 96 kf, kI cI l5 6 cf, kX4 rl (nI o) b0 s0 w0 u0, kX0 b0 a1 a2 a3 en ev, kI cI a1 3 x1, kI cI a2 3 x2, kI cI a3 3 x3, kI cI s0 3 x4, kI cI w0 64 x5, kI cI u0 64 x6]) (wr := []) (xrV (n := 3) (As := [.ref rl, .int 1, .int 1]) (rest := [.int (nI j)]) (ci := 1) (q0 := 0) hd hK hP hD (g_choices_11 l D cI cJ cZ cR _ lg l1 l2 l3 l4 l5 rl b0 a1 a2 a3 s0 w0 u0 fb gb zf kf cf (nI o) en ev x1 x2 x3 x4 x5 x6 ) (gV t_487 mV_X1_choices) hV_X1_choices ⟨(Nat.le_of_ble_eq_true rfl), (Nat.le_of_ble_eq_true rfl)⟩ rfl rfl [0, 1, 2, 3, 4, 5, 6, 7, 8, 9, 10, 11, 12, 13] rfl rfl rfl hl.1 rfl (Nat.le_of_ble_eq_true rfl) dX1_combine_43 ⟨(Nat.le_of_ble_eq_true rfl), (Nat.le_of_ble_eq_true rfl)⟩) hP hD hS hA [0, 1, 2, 3, 4, 5, 6, 7, 8, 9, 10, 11, 12, 13] [] rfl rfl rfl (by decide) (fun r_21 u_22 H locs hw_23 hP hD hS => ?_)
          have hw_24 : r_21 = 1 := hw_23
          subst hw_24
          have hP : va_P D vwCl [kX1 lg l1 l2 l3 l4 l5, kJ cJ l1 96 fb, kI cI l2 96 gb, kI cZ l3 96 zf, kI cI l4 96 kf, kI cI l5 6 cf, kX4 rl (nI o) b0 s0 w0 u0, kX0 b0 a1 a2 a3 en ev, kI cI a1 3 x1, kI cI a2 3 x2, kI cI a3 3 x3, kI cI s0 3 x4, kI cI w0 64 x5, kI cI u0 64 x6] H := hP
          have hD : va_D A [kX1 lg l1 l2 l3 l4 l5, kJ cJ l1 96 fb, kI cI l2 96 gb, kI cZ l3 96 zf, kI cI l4 96 kf, kI cI l5 6 cf, kX4 rl (nI o) b0 s0 w0 u0, kX0 b0 a1 a2 a3 en ev, kI cI a1 3 x1, kI cI a2 3 x2, kI cI a3 3 x3, kI cI s0 3 x4, kI cI w0 64 x5, kI cI u0 64 x6] := hD
          refine lv_icmp_ge (tgt := 167) hx hb dX1_combine_46 (by decide) (fun c_25 => ?_) (fun c_25 => ?_)
          · exact absurd c_25 (nI_ge (a := j) (b := 1) (by omega) (by omega))
          refine lv_iload_n hx hb dX1_combine_49 rfl (lv_at hl 3 rfl) ?_
          refine lv_iconst (v := 1) hx hb dX1_combine_50 (by decide) ?_
          refine lv_icmp_ne (tgt := 59) hx hb dX1_combine_51 (by decide) (fun c_26 => ?_) (fun c_26 => ?_)
          · exact absurd c_26 (by decide)
          refine lv_iload hx hb dX1_combine_54 (lv_at hl 4 rfl) ?_
          refine lv_goto (tgt := 67) hx hb dX1_combine_56 (by decide) ?_
          refine lv_istore (lv' := [(8, .int (nI b)), (0, .ref lg), (1, .ref rl), (2, .int p2), (3, .int 1), (4, .int (nI b)), (5, .int (nI i)), (6, .int (nI q0)), (7, .int (nI j))]) hx hb dX1_combine_67 hl (by decide) rfl (fun ls hl => ?_)
          refine lv_lconst (v := 1) hx hb dX1_combine_69 (by decide) ?_
          refine lv_aload_n hx hb dX1_combine_70 rfl (lv_at hl 1 rfl) ?_
          refine lv_aload_n hx hb dX1_combine_71 rfl (lv_at hl 2 rfl) ?_
          refine lv_iconst (v := 0) hx hb dX1_combine_72 (by decide) ?_
          refine lv_iload hx hb dX1_combine_73 (lv_at hl 7 rfl) ?_
          refine xc_l (wc := [kX1 lg l1 l2 l3 l4 l5, kJ cJ l1 96 fb, kI cI l2 96 gb, kI cZ l3 96 zf, kI cI l4 96 kf, kI cI l5 6 cf, kX4 rl (nI o) b0 s0 w0 u0, kX0 b0 a1 a2 a3 en ev, kI cI a1 3 x1, kI cI a2 3 x2, kI cI a3 3 x3, kI cI s0 3 x4, kI cI w0 64 x5, kI cI u0 64 x6]) (wr := []) (xrV (n := 3) (As := [.ref rl, .int 0, .int (nI q0)]) (rest := [.long 1]) (ci := 1) (q0 := 0) hd hK hP hD (g_stepsIn_0 l D cI cJ cZ cR _ lg l1 l2 l3 l4 l5 rl b0 a1 a2 a3 s0 w0 u0 t0 fb gb zf kf cf (nI o) en ev x1 x2 x3 x4 x5 x6 q0 e0 h0t hq0) (gV t_495 mV_X1_stepsIn) hV_X1_stepsIn ⟨(Nat.le_of_ble_eq_true rfl), (Nat.le_of_ble_eq_true rfl)⟩ rfl rfl [0, 1, 2, 3, 4, 5, 6, 7, 8, 9, 10, 11, 12, 13] rfl rfl rfl hl.1 rfl (Nat.le_of_ble_eq_true rfl) dX1_combine_75 ⟨(Nat.le_of_ble_eq_true rfl), (Nat.le_of_ble_eq_true rfl)⟩) hP hD hS hA [0, 1, 2, 3, 4, 5, 6, 7, 8, 9, 10, 11, 12, 13] [] rfl rfl rfl (by decide) (fun r_27 u_28 H locs hw_29 hP hD hS => ?_)
          have hP : va_P D vwCl [kX1 lg l1 l2 l3 l4 l5, kJ cJ l1 96 fb, kI cI l2 96 gb, kI cZ l3 96 zf, kI cI l4 96 kf, kI cI l5 6 cf, kX4 rl (nI o) b0 s0 w0 u0, kX0 b0 a1 a2 a3 en ev, kI cI a1 3 x1, kI cI a2 3 x2, kI cI a3 3 x3, kI cI s0 3 x4, kI cI w0 64 x5, kI cI u0 64 x6] H := hP
          have hD : va_D A [kX1 lg l1 l2 l3 l4 l5, kJ cJ l1 96 fb, kI cI l2 96 gb, kI cZ l3 96 zf, kI cI l4 96 kf, kI cI l5 6 cf, kX4 rl (nI o) b0 s0 w0 u0, kX0 b0 a1 a2 a3 en ev, kI cI a1 3 x1, kI cI a2 3 x2, kI cI a3 3 x3, kI cI s0 3 x4, kI cI w0 64 x5, kI cI u0 64 x6] := hD
          refine lv_ladd hx hb dX1_combine_78 ?_
          refine lv_aload_n hx hb dX1_combine_79 rfl (lv_at hl 1 rfl) ?_
          refine lv_aload_n hx hb dX1_combine_80 rfl (lv_at hl 2 rfl) ?_
          refine lv_iconst (v := 1) hx hb dX1_combine_81 (by decide) ?_
          refine lv_iload hx hb dX1_combine_82 (lv_at hl 0 rfl) ?_
          refine xc_l (wc := [kX1 lg l1 l2 l3 l4 l5, kJ cJ l1 96 fb, kI cI l2 96 gb, kI cZ l3 96 zf, kI cI l4 96 kf, kI cI l5 6 cf, kX4 rl (nI o) b0 s0 w0 u0, kX0 b0 a1 a2 a3 en ev, kI cI a1 3 x1, kI cI a2 3 x2, kI cI a3 3 x3, kI cI s0 3 x4, kI cI w0 64 x5, kI cI u0 64 x6]) (wr := []) (xrV (n := 3) (As := [.ref rl, .int 1, .int (nI b)]) (rest := [.long (1 + r_27)]) (ci := 1) (q0 := 0) hd hK hP hD (g_stepsIn_1 l D cI cJ cZ cR _ lg l1 l2 l3 l4 l5 rl b0 a1 a2 a3 s0 w0 u0 t1 fb gb zf kf cf (nI o) en ev x1 x2 x3 x4 x5 x6 b e1 h1t hb0) (gV t_495 mV_X1_stepsIn) hV_X1_stepsIn ⟨(Nat.le_of_ble_eq_true rfl), (Nat.le_of_ble_eq_true rfl)⟩ rfl rfl [0, 1, 2, 3, 4, 5, 6, 7, 8, 9, 10, 11, 12, 13] rfl rfl rfl hl.1 rfl (Nat.le_of_ble_eq_true rfl) dX1_combine_84 ⟨(Nat.le_of_ble_eq_true rfl), (Nat.le_of_ble_eq_true rfl)⟩) hP hD hS hA [0, 1, 2, 3, 4, 5, 6, 7, 8, 9, 10, 11, 12, 13] [] rfl rfl rfl (by decide) (fun r_30 u_31 H locs hw_32 hP hD hS => ?_)
          have hP : va_P D vwCl [kX1 lg l1 l2 l3 l4 l5, kJ cJ l1 96 fb, kI cI l2 96 gb, kI cZ l3 96 zf, kI cI l4 96 kf, kI cI l5 6 cf, kX4 rl (nI o) b0 s0 w0 u0, kX0 b0 a1 a2 a3 en ev, kI cI a1 3 x1, kI cI a2 3 x2, kI cI a3 3 x3, kI cI s0 3 x4, kI cI w0 64 x5, kI cI u0 64 x6] H := hP
          have hD : va_D A [kX1 lg l1 l2 l3 l4 l5, kJ cJ l1 96 fb, kI cI l2 96 gb, kI cZ l3 96 zf, kI cI l4 96 kf, kI cI l5 6 cf, kX4 rl (nI o) b0 s0 w0 u0, kX0 b0 a1 a2 a3 en ev, kI cI a1 3 x1, kI cI a2 3 x2, kI cI a3 3 x3, kI cI s0 3 x4, kI cI w0 64 x5, kI cI u0 64 x6] := hD
          refine lv_ladd hx hb dX1_combine_87 ?_
          refine lv_lstore (lv' := [(9, .long ((1 + r_27) + r_30)), (8, .int (nI b)), (0, .ref lg), (1, .ref rl), (2, .int p2), (3, .int 1), (4, .int (nI b)), (5, .int (nI i)), (6, .int (nI q0)), (7, .int (nI j))]) hx hb dX1_combine_88 hl (by decide) rfl (fun ls hl => ?_)
          refine lv_iconst (v := 0) hx hb dX1_combine_90 (by decide) ?_
          refine lv_istore (lv' := [(11, .int 0), (9, .long ((1 + r_27) + r_30)), (8, .int (nI b)), (0, .ref lg), (1, .ref rl), (2, .int p2), (3, .int 1), (4, .int (nI b)), (5, .int (nI i)), (6, .int (nI q0)), (7, .int (nI j))]) hx hb dX1_combine_91 hl (by decide) rfl (fun ls hl => ?_)
          have LOOP_93 : ∀ (n : Nat) (k : Nat) (tw : Int64) (fc : Nat → Int64) (gc : Nat → Int32), (k + n = cz zf (t2 * 16) 16) → ∀ (H : Heap) (locs : List Loc) (ls : Array Slot), va_P D vwCl [kX1 lg l1 l2 l3 l4 l5, kJ cJ l1 96 fc, kI cI l2 96 gc, kI cZ l3 96 zf, kI cI l4 96 kf, kI cI l5 6 cf, kX4 rl (nI o) b0 s0 w0 u0, kX0 b0 a1 a2 a3 en ev, kI cI a1 3 x1, kI cI a2 3 x2, kI cI a3 3 x3, kI cI s0 3 x4, kI cI w0 64 x5, kI cI u0 64 x6] H → va_D A [kX1 lg l1 l2 l3 l4 l5, kJ cJ l1 96 fc, kI cI l2 96 gc, kI cZ l3 96 zf, kI cI l4 96 kf, kI cI l5 6 cf, kX4 rl (nI o) b0 s0 w0 u0, kX0 b0 a1 a2 a3 en ev, kI cI a1 3 x1, kI cI a2 3 x2, kI cI a3 3 x3, kI cI s0 3 x4, kI cI w0 64 x5, kI cI u0 64 x6] → va_S A s.heap H locs → lv_has ls 13 [(0, .ref lg), (1, .ref rl), (2, .int p2), (3, .int 1), (4, .int (nI b)), (5, .int (nI i)), (6, .int (nI q0)), (7, .int (nI j)), (8, .int (nI b)), (9, .long tw), (11, .int (nI k))] → W p l e (rM 1 0 0 26) s m ([.ref lg, .ref rl, .int p2, .int 1, .int (nI b)] : List Value).toArray below meth c H locs 0 0 Q (F0 m 93 ls []) := by
            intro n
            induction n with
            | zero =>
              intro k tw fc gc hk H locs ls hP hD hS hl
              refine lv_iload hx hb dX1_combine_93 (lv_at hl 10 rfl) ?_
              refine lv_aload_n hx hb dX1_combine_95 rfl (lv_at hl 0 rfl) ?_
              refine lv_aload_n hx hb dX1_combine_96 rfl (lv_at hl 1 rfl) ?_
              refine lv_iconst (v := 2) hx hb dX1_combine_97 (by decide) ?_
              refine lv_iload_n hx hb dX1_combine_98 rfl (lv_at hl 3 rfl) ?_
              refine xc_i (wc := [kX1 lg l1 l2 l3 l4 l5, kJ cJ l1 96 fc, kI cI l2 96 gc, kI cZ l3 96 zf, kI cI l4 96 kf, kI cI l5 6 cf, kX4 rl (nI o) b0 s0 w0 u0, kX0 b0 a1 a2 a3 en ev, kI cI a1 3 x1, kI cI a2 3 x2, kI cI a3 3 x3, kI cI s0 3 x4, kI cI w0 64 x5, kI cI u0 64 x6]) (wr := []) (xrV (n := 3) (As := [.ref rl, .int 2, .int 1]) (rest := [.int (nI k)]) (ci := 1) (q0 := 0) hd hK hP hD (g_choices_21 l D cI cJ cZ cR _ lg l1 l2 l3 l4 l5 rl b0 a1 a2 a3 s0 w0 u0 t2 fc gc zf kf cf (nI o) en ev x1 x2 x3 x4 x5 x6 e2 h2t (hSI.1 t2 h2t)) (gV t_487 mV_X1_choices) hV_X1_choices ⟨(Nat.le_of_ble_eq_true rfl), (Nat.le_of_ble_eq_true rfl)⟩ rfl rfl [0, 1, 2, 3, 4, 5, 6, 7, 8, 9, 10, 11, 12, 13] rfl rfl rfl hl.1 rfl (Nat.le_of_ble_eq_true rfl) dX1_combine_99 ⟨(Nat.le_of_ble_eq_true rfl), (Nat.le_of_ble_eq_true rfl)⟩) hP hD hS hA [0, 1, 2, 3, 4, 5, 6, 7, 8, 9, 10, 11, 12, 13] [] rfl rfl rfl (by decide) (fun r_33 u_34 H locs hw_35 hP hD hS => ?_)
              have hw_36 : r_33 = (nI (cz zf (t2 * 16) 16)) := hw_35
              subst hw_36
              have hP : va_P D vwCl [kX1 lg l1 l2 l3 l4 l5, kJ cJ l1 96 fc, kI cI l2 96 gc, kI cZ l3 96 zf, kI cI l4 96 kf, kI cI l5 6 cf, kX4 rl (nI o) b0 s0 w0 u0, kX0 b0 a1 a2 a3 en ev, kI cI a1 3 x1, kI cI a2 3 x2, kI cI a3 3 x3, kI cI s0 3 x4, kI cI w0 64 x5, kI cI u0 64 x6] H := hP
              have hD : va_D A [kX1 lg l1 l2 l3 l4 l5, kJ cJ l1 96 fc, kI cI l2 96 gc, kI cZ l3 96 zf, kI cI l4 96 kf, kI cI l5 6 cf, kX4 rl (nI o) b0 s0 w0 u0, kX0 b0 a1 a2 a3 en ev, kI cI a1 3 x1, kI cI a2 3 x2, kI cI a3 3 x3, kI cI s0 3 x4, kI cI w0 64 x5, kI cI u0 64 x6] := hD
              refine lv_icmp_ge (tgt := 161) hx hb dX1_combine_102 (by decide) (fun c_37 => ?_) (fun c_37 => ?_)
              rotate_left
              · exact absurd (nI_le (a := (cz zf (t2 * 16) 16)) (b := k) (by omega) (by omega)) c_37
              refine lv_iinc (v := nI (j + 1)) (lv' := [(7, .int (nI (j + 1))), (0, .ref lg), (1, .ref rl), (2, .int p2), (3, .int 1), (4, .int (nI b)), (5, .int (nI i)), (6, .int (nI q0)), (8, .int (nI b)), (9, .long tw), (11, .int (nI k))]) hx hb dX1_combine_161 hl (k := 7) rfl (nI_1 j) (by decide) rfl (fun ls hl => ?_)
              refine lv_goto (tgt := 37) hx hb dX1_combine_164 (by decide) ?_
              exact ih_37 (j + 1) fc gc (by omega) _ _ _ (hP.sub [0, 1, 2, 3, 4, 5, 6, 7, 8, 9, 10, 11, 12, 13] rfl) (hD.sub [0, 1, 2, 3, 4, 5, 6, 7, 8, 9, 10, 11, 12, 13] rfl rfl) hS (lv_sub hl [1, 2, 3, 4, 5, 6, 7, 0] rfl)
            | succ n ih_93 =>
              intro k tw fc gc hk H locs ls hP hD hS hl
              refine lv_iload hx hb dX1_combine_93 (lv_at hl 10 rfl) ?_
              refine lv_aload_n hx hb dX1_combine_95 rfl (lv_at hl 0 rfl) ?_
              refine lv_aload_n hx hb dX1_combine_96 rfl (lv_at hl 1 rfl) ?_
              refine lv_iconst (v := 2) hx hb dX1_combine_97 (by decide) ?_
              refine lv_iload_n hx hb dX1_combine_98 rfl (lv_at hl 3 rfl) ?_
              refine xc_i (wc := [kX1 lg l1 l2 l3 l4 l5, kJ cJ l1 96 fc, kI cI l2 96 gc, kI cZ l3 96 zf, kI cI l4 96 kf, kI cI l5 6 cf, kX4 rl (nI o) b0 s0 w0 u0, kX0 b0 a1 a2 a3 en ev, kI cI a1 3 x1, kI cI a2 3 x2, kI cI a3 3 x3, kI cI s0 3 x4, kI cI w0 64 x5, kI cI u0 64 x6]) (wr := []) (xrV (n := 3) (As := [.ref rl, .int 2, .int 1]) (rest := [.int (nI k)]) (ci := 1) (q0 := 0) hd hK hP hD (g_choices_21 l D cI cJ cZ cR _ lg l1 l2 l3 l4 l5 rl b0 a1 a2 a3 s0 w0 u0 t2 fc gc zf kf cf (nI o) en ev x1 x2 x3 x4 x5 x6 e2 h2t (hSI.1 t2 h2t)) (gV t_487 mV_X1_choices) hV_X1_choices ⟨(Nat.le_of_ble_eq_true rfl), (Nat.le_of_ble_eq_true rfl)⟩ rfl rfl [0, 1, 2, 3, 4, 5, 6, 7, 8, 9, 10, 11, 12, 13] rfl rfl rfl hl.1 rfl (Nat.le_of_ble_eq_true rfl) dX1_combine_99 ⟨(Nat.le_of_ble_eq_true rfl), (Nat.le_of_ble_eq_true rfl)⟩) hP hD hS hA [0, 1, 2, 3, 4, 5, 6, 7, 8, 9, 10, 11, 12, 13] [] rfl rfl rfl (by decide) (fun r_38 u_39 H locs hw_40 hP hD hS => ?_)
              have hw_41 : r_38 = (nI (cz zf (t2 * 16) 16)) := hw_40
              subst hw_41
              have hP : va_P D vwCl [kX1 lg l1 l2 l3 l4 l5, kJ cJ l1 96 fc, kI cI l2 96 gc, kI cZ l3 96 zf, kI cI l4 96 kf, kI cI l5 6 cf, kX4 rl (nI o) b0 s0 w0 u0, kX0 b0 a1 a2 a3 en ev, kI cI a1 3 x1, kI cI a2 3 x2, kI cI a3 3 x3, kI cI s0 3 x4, kI cI w0 64 x5, kI cI u0 64 x6] H := hP
              have hD : va_D A [kX1 lg l1 l2 l3 l4 l5, kJ cJ l1 96 fc, kI cI l2 96 gc, kI cZ l3 96 zf, kI cI l4 96 kf, kI cI l5 6 cf, kX4 rl (nI o) b0 s0 w0 u0, kX0 b0 a1 a2 a3 en ev, kI cI a1 3 x1, kI cI a2 3 x2, kI cI a3 3 x3, kI cI s0 3 x4, kI cI w0 64 x5, kI cI u0 64 x6] := hD
              refine lv_icmp_ge (tgt := 161) hx hb dX1_combine_102 (by decide) (fun c_42 => ?_) (fun c_42 => ?_)
              · exact absurd c_42 (nI_ge (a := k) (b := (cz zf (t2 * 16) 16)) (by omega) (by omega))
              refine lv_iload_n hx hb dX1_combine_105 rfl (lv_at hl 3 rfl) ?_
              refine lv_iconst (v := 2) hx hb dX1_combine_106 (by decide) ?_
              refine lv_icmp_ne (tgt := 115) hx hb dX1_combine_107 (by decide) (fun c_43 => ?_) (fun c_43 => ?_)
              rotate_left
              · exact absurd c_43 (by decide)
              refine lv_aload_n hx hb dX1_combine_115 rfl (lv_at hl 0 rfl) ?_
              refine lv_aload_n hx hb dX1_combine_116 rfl (lv_at hl 1 rfl) ?_
              refine lv_iconst (v := 2) hx hb dX1_combine_117 (by decide) ?_
              refine lv_iload hx hb dX1_combine_118 (lv_at hl 10 rfl) ?_
              obtain ⟨q2, hq2, ek2⟩ := hSI.2 t2 h2t k (by omega)
              refine xc_i (wc := [kX1 lg l1 l2 l3 l4 l5, kJ cJ l1 96 fc, kI cI l2 96 gc, kI cZ l3 96 zf, kI cI l4 96 kf, kI cI l5 6 cf, kX4 rl (nI o) b0 s0 w0 u0, kX0 b0 a1 a2 a3 en ev, kI cI a1 3 x1, kI cI a2 3 x2, kI cI a3 3 x3, kI cI s0 3 x4, kI cI w0 64 x5, kI cI u0 64 x6]) (wr := []) (xrV (n := 3) (As := [.ref rl, .int 2, .int (nI k)]) (rest := []) (ci := 1) (q0 := 0) hd hK hP hD (g_settledKind_2 l D cI cJ cZ cR _ lg l1 l2 l3 l4 l5 rl b0 a1 a2 a3 s0 w0 u0 t2 fc gc zf kf cf (nI o) en ev x1 x2 x3 x4 x5 x6 k q2 e2 h2t (by omega) ek2) (gV t_491 mV_X1_settledKind) hV_X1_settledKind ⟨(Nat.le_of_ble_eq_true rfl), (Nat.le_of_ble_eq_true rfl)⟩ rfl rfl [0, 1, 2, 3, 4, 5, 6, 7, 8, 9, 10, 11, 12, 13] rfl rfl rfl hl.1 rfl (Nat.le_of_ble_eq_true rfl) dX1_combine_120 ⟨(Nat.le_of_ble_eq_true rfl), (Nat.le_of_ble_eq_true rfl)⟩) hP hD hS hA [0, 1, 2, 3, 4, 5, 6, 7, 8, 9, 10, 11, 12, 13] [] rfl rfl rfl (by decide) (fun r_44 u_45 H locs hw_46 hP hD hS => ?_)
              have hw_47 : r_44 = (nI q2) := hw_46
              subst hw_47
              have hP : va_P D vwCl [kX1 lg l1 l2 l3 l4 l5, kJ cJ l1 96 fc, kI cI l2 96 gc, kI cZ l3 96 zf, kI cI l4 96 kf, kI cI l5 6 cf, kX4 rl (nI o) b0 s0 w0 u0, kX0 b0 a1 a2 a3 en ev, kI cI a1 3 x1, kI cI a2 3 x2, kI cI a3 3 x3, kI cI s0 3 x4, kI cI w0 64 x5, kI cI u0 64 x6] H := hP
              have hD : va_D A [kX1 lg l1 l2 l3 l4 l5, kJ cJ l1 96 fc, kI cI l2 96 gc, kI cZ l3 96 zf, kI cI l4 96 kf, kI cI l5 6 cf, kX4 rl (nI o) b0 s0 w0 u0, kX0 b0 a1 a2 a3 en ev, kI cI a1 3 x1, kI cI a2 3 x2, kI cI a3 3 x3, kI cI s0 3 x4, kI cI w0 64 x5, kI cI u0 64 x6] := hD
              refine lv_istore (lv' := [(12, .int (nI q2)), (0, .ref lg), (1, .ref rl), (2, .int p2), (3, .int 1), (4, .int (nI b)), (5, .int (nI i)), (6, .int (nI q0)), (7, .int (nI j)), (8, .int (nI b)), (9, .long tw), (11, .int (nI k))]) hx hb dX1_combine_123 hl (by decide) rfl (fun ls hl => ?_)
              refine lv_aload_n hx hb dX1_combine_125 rfl (lv_at hl 1 rfl) ?_
              refine lv_aload_n hx hb dX1_combine_126 rfl (lv_at hl 2 rfl) ?_
              refine va_get (D := D) (ci := 4) (v := .int (nI o)) (C := RX4) (T := TX4) (N := 5) hx hb hts iT_X4 hown hK1 hP 6 rfl rfl 0 (by decide) (hts _ t_82) (fun _ h9 => h9) rfl dX1_combine_127 ?_
              refine lv_aload_n hx hb dX1_combine_130 rfl (lv_at hl 2 rfl) ?_
              refine lv_iload hx hb dX1_combine_131 (lv_at hl 7 rfl) ?_
              refine lv_iload hx hb dX1_combine_133 (lv_at hl 9 rfl) ?_
              refine lv_iload hx hb dX1_combine_135 (lv_at hl 0 rfl) ?_
              refine xc_i (wc := [kX4 rl (nI o) b0 s0 w0 u0, kX0 b0 a1 a2 a3 en ev, kI cI a1 3 x1, kI cI a2 3 x2, kI cI a3 3 x3, kI cI s0 3 x4, kI cI w0 64 x5, kI cI u0 64 x6]) (wr := [kX1 lg l1 l2 l3 l4 l5, kJ cJ l1 96 fc, kI cI l2 96 gc, kI cZ l3 96 zf, kI cI l4 96 kf, kI cI l5 6 cf]) (xrV (n := 3) (As := [.int (nI q0), .int (nI b), .int (nI q2)]) (rest := [.int (nI o), .ref lg]) (ci := 4) (q0 := 6) hd hK hP hD (c_X4_kindFrom l D cI cJ cZ cR _ rl b0 a1 a2 a3 s0 w0 u0 (nI o) en ev x1 x2 x3 x4 x5 x6 (nI q0) (nI b) (nI q2) hw4 hu4) (gV t_499 mV_X4_kindFrom) hV_X4_kindFrom ⟨(Nat.le_of_ble_eq_true rfl), (Nat.le_of_ble_eq_true rfl)⟩ rfl rfl [6, 7, 8, 9, 10, 11, 12, 13] rfl rfl rfl hl.1 rfl (Nat.le_of_ble_eq_true rfl) dX1_combine_137 ⟨(Nat.le_of_ble_eq_true rfl), (Nat.le_of_ble_eq_true rfl)⟩) hP hD hS hA [6, 7, 8, 9, 10, 11, 12, 13] [0, 1, 2, 3, 4, 5] rfl rfl rfl (by decide) (fun r_48 u_49 H locs hw_50 hP hD hS => ?_)
              obtain ⟨kk_51, rfl⟩ : ∃ z9, z9 = u_49 := ⟨_, rfl⟩
              obtain ⟨hw_52, hw_53⟩ : (r_48 = (nI kk_51)) ∧ (kk_51 < 16) := hw_50
              subst hw_52
              have hk16 := hw_53
              have hP : va_P D vwCl [kX1 lg l1 l2 l3 l4 l5, kJ cJ l1 96 fc, kI cI l2 96 gc, kI cZ l3 96 zf, kI cI l4 96 kf, kI cI l5 6 cf, kX4 rl (nI o) b0 s0 w0 u0, kX0 b0 a1 a2 a3 en ev, kI cI a1 3 x1, kI cI a2 3 x2, kI cI a3 3 x3, kI cI s0 3 x4, kI cI w0 64 x5, kI cI u0 64 x6] H := hP
              have hD : va_D A [kX1 lg l1 l2 l3 l4 l5, kJ cJ l1 96 fc, kI cI l2 96 gc, kI cZ l3 96 zf, kI cI l4 96 kf, kI cI l5 6 cf, kX4 rl (nI o) b0 s0 w0 u0, kX0 b0 a1 a2 a3 en ev, kI cI a1 3 x1, kI cI a2 3 x2, kI cI a3 3 x3, kI cI s0 3 x4, kI cI w0 64 x5, kI cI u0 64 x6] := hD
              refine lv_lload hx hb dX1_combine_140 (lv_at hl 10 rfl) ?_
              refine lv_aload_n hx hb dX1_combine_142 rfl (lv_at hl 1 rfl) ?_
              refine lv_aload_n hx hb dX1_combine_143 rfl (lv_at hl 2 rfl) ?_
              refine lv_iconst (v := 2) hx hb dX1_combine_144 (by decide) ?_
              refine lv_iload hx hb dX1_combine_145 (lv_at hl 0 rfl) ?_
              refine xc_l (wc := [kX1 lg l1 l2 l3 l4 l5, kJ cJ l1 96 fc, kI cI l2 96 gc, kI cZ l3 96 zf, kI cI l4 96 kf, kI cI l5 6 cf, kX4 rl (nI o) b0 s0 w0 u0, kX0 b0 a1 a2 a3 en ev, kI cI a1 3 x1, kI cI a2 3 x2, kI cI a3 3 x3, kI cI s0 3 x4, kI cI w0 64 x5, kI cI u0 64 x6]) (wr := []) (xrV (n := 3) (As := [.ref rl, .int 2, .int (nI q2)]) (rest := [.long tw, .int (nI kk_51), .int (nI o), .ref lg]) (ci := 1) (q0 := 0) hd hK hP hD (g_stepsIn_2 l D cI cJ cZ cR _ lg l1 l2 l3 l4 l5 rl b0 a1 a2 a3 s0 w0 u0 t2 fc gc zf kf cf (nI o) en ev x1 x2 x3 x4 x5 x6 q2 e2 h2t hq2) (gV t_495 mV_X1_stepsIn) hV_X1_stepsIn ⟨(Nat.le_of_ble_eq_true rfl), (Nat.le_of_ble_eq_true rfl)⟩ rfl rfl [0, 1, 2, 3, 4, 5, 6, 7, 8, 9, 10, 11, 12, 13] rfl rfl rfl hl.1 rfl (Nat.le_of_ble_eq_true rfl) dX1_combine_147 ⟨(Nat.le_of_ble_eq_true rfl), (Nat.le_of_ble_eq_true rfl)⟩) hP hD hS hA [0, 1, 2, 3, 4, 5, 6, 7, 8, 9, 10, 11, 12, 13] [] rfl rfl rfl (by decide) (fun r_54 u_55 H locs hw_56 hP hD hS => ?_)
              have hP : va_P D vwCl [kX1 lg l1 l2 l3 l4 l5, kJ cJ l1 96 fc, kI cI l2 96 gc, kI cZ l3 96 zf, kI cI l4 96 kf, kI cI l5 6 cf, kX4 rl (nI o) b0 s0 w0 u0, kX0 b0 a1 a2 a3 en ev, kI cI a1 3 x1, kI cI a2 3 x2, kI cI a3 3 x3, kI cI s0 3 x4, kI cI w0 64 x5, kI cI u0 64 x6] H := hP
              have hD : va_D A [kX1 lg l1 l2 l3 l4 l5, kJ cJ l1 96 fc, kI cI l2 96 gc, kI cZ l3 96 zf, kI cI l4 96 kf, kI cI l5 6 cf, kX4 rl (nI o) b0 s0 w0 u0, kX0 b0 a1 a2 a3 en ev, kI cI a1 3 x1, kI cI a2 3 x2, kI cI a3 3 x3, kI cI s0 3 x4, kI cI w0 64 x5, kI cI u0 64 x6] := hD
              refine lv_ladd hx hb dX1_combine_150 ?_
              refine lv_iload_n hx hb dX1_combine_151 rfl (lv_at hl 3 rfl) ?_
              refine xc_v (wc := [kX1 lg l1 l2 l3 l4 l5, kJ cJ l1 96 fc, kI cI l2 96 gc, kI cZ l3 96 zf, kI cI l4 96 kf, kI cI l5 6 cf]) (wr := [kX4 rl (nI o) b0 s0 w0 u0, kX0 b0 a1 a2 a3 en ev, kI cI a1 3 x1, kI cI a2 3 x2, kI cI a3 3 x3, kI cI s0 3 x4, kI cI w0 64 x5, kI cI u0 64 x6]) (xrV (n := 4) (As := [.int (nI o), .int (nI kk_51), .long (tw + r_54), .int p2]) (rest := []) (ci := 1) (q0 := 0) hd hK hP hD (c_X1_offer l D cI cJ cZ cR _ lg l1 l2 l3 l4 l5 o kk_51 fc gc zf kf cf (tw + r_54) p2 (by omega) hk16) (gV t_467 mV_X1_offer) hV_X1_offer ⟨(Nat.le_of_ble_eq_true rfl), (Nat.le_of_ble_eq_true rfl)⟩ rfl rfl [0, 1, 2, 3, 4, 5] rfl rfl rfl hl.1 rfl (Nat.le_of_ble_eq_true rfl) dX1_combine_152 ⟨(Nat.le_of_ble_eq_true rfl), (Nat.le_of_ble_eq_true rfl)⟩) hP hD hS hA [0, 1, 2, 3, 4, 5] [6, 7, 8, 9, 10, 11, 12, 13] rfl rfl rfl (by decide) (fun u_58 H locs hw_59 hP hD hS => ?_)
              obtain ⟨f2_60, g2_61⟩ := u_58
              have hP : va_P D vwCl [kX4 rl (nI o) b0 s0 w0 u0, kX0 b0 a1 a2 a3 en ev, kI cI a1 3 x1, kI cI a2 3 x2, kI cI a3 3 x3, kI cI s0 3 x4, kI cI w0 64 x5, kI cI u0 64 x6, kX1 lg l1 l2 l3 l4 l5, kJ cJ l1 96 f2_60, kI cI l2 96 g2_61, kI cZ l3 96 zf, kI cI l4 96 kf, kI cI l5 6 cf] H := hP
              have hD : va_D A [kX4 rl (nI o) b0 s0 w0 u0, kX0 b0 a1 a2 a3 en ev, kI cI a1 3 x1, kI cI a2 3 x2, kI cI a3 3 x3, kI cI s0 3 x4, kI cI w0 64 x5, kI cI u0 64 x6, kX1 lg l1 l2 l3 l4 l5, kJ cJ l1 96 f2_60, kI cI l2 96 g2_61, kI cZ l3 96 zf, kI cI l4 96 kf, kI cI l5 6 cf] := hD
              refine lv_iinc (v := nI (k + 1)) (lv' := [(11, .int (nI (k + 1))), (12, .int (nI q2)), (0, .ref lg), (1, .ref rl), (2, .int p2), (3, .int 1), (4, .int (nI b)), (5, .int (nI i)), (6, .int (nI q0)), (7, .int (nI j)), (8, .int (nI b)), (9, .long tw)]) hx hb dX1_combine_155 hl (k := 11) rfl (nI_1 k) (by decide) rfl (fun ls hl => ?_)
              refine lv_goto (tgt := 93) hx hb dX1_combine_158 (by decide) ?_
              exact ih_93 (k + 1) tw f2_60 g2_61 (by omega) _ _ _ (hP.sub [8, 9, 10, 11, 12, 13, 0, 1, 2, 3, 4, 5, 6, 7] rfl) (hD.sub [8, 9, 10, 11, 12, 13, 0, 1, 2, 3, 4, 5, 6, 7] rfl rfl) hS (lv_sub hl [2, 3, 4, 5, 6, 7, 8, 9, 10, 11, 0] rfl)
          exact LOOP_93 (cz zf (t2 * 16) 16) 0 ((1 + r_27) + r_30) fb gb (by omega) _ _ _ (hP.sub [0, 1, 2, 3, 4, 5, 6, 7, 8, 9, 10, 11, 12, 13] rfl) (hD.sub [0, 1, 2, 3, 4, 5, 6, 7, 8, 9, 10, 11, 12, 13] rfl rfl) hS (lv_sub hl [3, 4, 5, 6, 7, 8, 9, 10, 2, 1, 0] rfl)
      exact LOOP_37 (1) 0 fa ga (by omega) _ _ _ (hP.sub [0, 1, 2, 3, 4, 5, 6, 7, 8, 9, 10, 11, 12, 13] rfl) (hD.sub [0, 1, 2, 3, 4, 5, 6, 7, 8, 9, 10, 11, 12, 13] rfl rfl) hS (lv_sub hl [2, 3, 4, 5, 6, 7, 1, 0] rfl)
  exact LOOP_3 (cz zf (t0 * 16) 16) 0 ff gf (by omega) _ _ _ (hP.sub [0, 1, 2, 3, 4, 5, 6, 7, 8, 9, 10, 11, 12, 13] rfl) (hD.sub [0, 1, 2, 3, 4, 5, 6, 7, 8, 9, 10, 11, 12, 13] rfl rfl) hS (lv_sub hl [1, 2, 3, 4, 5, 0] rfl)
set_option maxHeartbeats 4000000 in
set_option maxRecDepth 100000 in
theorem g_combine_2 (sz : Nat) (lg : Nat) (l1 : Nat) (l2 : Nat) (l3 : Nat) (l4 : Nat) (l5 : Nat) (rl : Nat) (b0 : Nat) (a1 : Nat) (a2 : Nat) (a3 : Nat) (s0 : Nat) (w0 : Nat) (u0 : Nat) (t0 : Nat) (t1 : Nat) (t2 : Nat) (b : Nat) (ff : Nat → Int64) (gf : Nat → Int32) (zf : Nat → Int32) (kf : Nat → Int32) (cf : Nat → Int32) (o : Nat) (en : Int32) (ev : Int32) (x1 : Nat → Int32) (x2 : Nat → Int32) (x3 : Nat → Int32) (x4 : Nat → Int32) (x5 : Nat → Int32) (x6 : Nat → Int32) (p2 : Int32) (e0 : x4 0 = nI t0) (e1 : x4 1 = nI t1) (e2 : x4 2 = nI t2) (h0t : t0 < 6) (h1t : t1 < 6) (h2t : t2 < 6) (ho : o < 3) (hw4 : ∀ j, j < 64 → lt4 (x5 j)) (hu4 : ∀ j, j < 64 → lt4 (x6 j)) (hSI : SI zf kf cf) (hb0 : b < 16) : CTv l D cI cJ cZ cR yX1_combine cX1_combine 13 none 1 26 0 0 sz [.ref lg, .ref rl, .int p2, .int 2, .int (nI b)] [kX1 lg l1 l2 l3 l4 l5, kJ cJ l1 96 ff, kI cI l2 96 gf, kI cZ l3 96 zf, kI cI l4 96 kf, kI cI l5 6 cf, kX4 rl (nI o) b0 s0 w0 u0, kX0 b0 a1 a2 a3 en ev, kI cI a1 3 x1, kI cI a2 3 x2, kI cI a3 3 x3, kI cI s0 3 x4, kI cI w0 64 x5, kI cI u0 64 x6] (fun (u : (Nat → Int64) × (Nat → Int32)) => True) (fun (u : (Nat → Int64) × (Nat → Int32)) => [kX1 lg l1 l2 l3 l4 l5, kJ cJ l1 96 u.1, kI cI l2 96 u.2, kI cZ l3 96 zf, kI cI l4 96 kf, kI cI l5 6 cf, kX4 rl (nI o) b0 s0 w0 u0, kX0 b0 a1 a2 a3 en ev, kI cI a1 3 x1, kI cI a2 3 x2, kI cI a3 3 x3, kI cI s0 3 x4, kI cI w0 64 x5, kI cI u0 64 x6]) := by
  refine CTv.of (by decide) (Nat.le_of_ble_eq_true rfl) rfl ?_
  intro p e s m below meth c A Q ls hd hin hK hsz hP hD hA hS hl hret
  obtain ⟨hx, hb, hml, hown, hts⟩ := id hd
  have hK1 := hK.1
  have hown : s.vm.findClass RX1 = some m.cls := hown
  have hl : lv_has ls 13 [(0, .ref lg), (1, .ref rl), (2, .int p2), (3, .int 2), (4, .int (nI b))] := hl
  have hz0 := cz_le (z := zf) (b := t0 * 16) 16
  have hz1 := cz_le (z := zf) (b := t1 * 16) 16
  have hz2 := cz_le (z := zf) (b := t2 * 16) 16
  refine lv_iconst (v := 0) hx hb dX1_combine_0 (by decide) ?_
  refine lv_istore (lv' := [(5, .int 0), (0, .ref lg), (1, .ref rl), (2, .int p2), (3, .int 2), (4, .int (nI b))]) hx hb dX1_combine_1 hl (by decide) rfl (fun ls hl => ?_)
  have LOOP_3 : ∀ (n : Nat) (i : Nat) (fa : Nat → Int64) (ga : Nat → Int32), (i + n = cz zf (t0 * 16) 16) → ∀ (H : Heap) (locs : List Loc) (ls : Array Slot), va_P D vwCl [kX1 lg l1 l2 l3 l4 l5, kJ cJ l1 96 fa, kI cI l2 96 ga, kI cZ l3 96 zf, kI cI l4 96 kf, kI cI l5 6 cf, kX4 rl (nI o) b0 s0 w0 u0, kX0 b0 a1 a2 a3 en ev, kI cI a1 3 x1, kI cI a2 3 x2, kI cI a3 3 x3, kI cI s0 3 x4, kI cI w0 64 x5, kI cI u0 64 x6] H → va_D A [kX1 lg l1 l2 l3 l4 l5, kJ cJ l1 96 fa, kI cI l2 96 ga, kI cZ l3 96 zf, kI cI l4 96 kf, kI cI l5 6 cf, kX4 rl (nI o) b0 s0 w0 u0, kX0 b0 a1 a2 a3 en ev, kI cI a1 3 x1, kI cI a2 3 x2, kI cI a3 3 x3, kI cI s0 3 x4, kI cI w0 64 x5, kI cI u0 64 x6] → va_S A s.heap H locs → lv_has ls 13 [(0, .ref lg), (1, .ref rl), (2, .int p2), (3, .int 2), (4, .int (nI b)), (5, .int (nI i))] → W p l e (rM 1 0 0 26) s m ([.ref lg, .ref rl, .int p2, .int 2, .int (nI b)] : List Value).toArray below meth c H locs 0 0 Q (F0 m 3 ls []) := by
    intro n
    induction n with
    | zero =>
      intro i fa ga hi H locs ls hP hD hS hl
      refine lv_iload hx hb dX1_combine_3 (lv_at hl 5 rfl) ?_
      refine lv_aload_n hx hb dX1_combine_5 rfl (lv_at hl 0 rfl) ?_
      refine lv_aload_n hx hb dX1_combine_6 rfl (lv_at hl 1 rfl) ?_
      refine lv_iconst (v := 0) hx hb dX1_combine_7 (by decide) ?_
      refine lv_iload_n hx hb dX1_combine_8 rfl (lv_at hl 3 rfl) ?_
      refine xc_i (wc := [kX1 lg l1 l2 l3 l4 l5, kJ cJ l1 96 fa, kI cI l2 96 ga, kI cZ l3 96 zf, kI cI l4 96 kf, kI cI l5 6 cf, kX4 rl (nI o) b0 s0 w0 u0, kX0 b0 a1 a2 a3 en ev, kI cI a1 3 x1, kI cI a2 3 x2, kI cI a3 3 x3, kI cI s0 3 x4, kI cI w0 64 x5, kI cI u0 64 x6]) (wr := []) (xrV (n := 3) (As := [.ref rl, .int 0, .int 2]) (rest := [.int (nI i)]) (ci := 1) (q0 := 0) hd hK hP hD (g_choices_02 l D cI cJ cZ cR _ lg l1 l2 l3 l4 l5 rl b0 a1 a2 a3 s0 w0 u0 t0 fa ga zf kf cf (nI o) en ev x1 x2 x3 x4 x5 x6 e0 h0t (hSI.1 t0 h0t)) (gV t_487 mV_X1_choices) hV_X1_choices ⟨(Nat.le_of_ble_eq_true rfl), (Nat.le_of_ble_eq_true rfl)⟩ rfl rfl [0, 1, 2, 3, 4, 5, 6, 7, 8, 9, 10, 11, 12, 13] rfl rfl rfl hl.1 rfl (Nat.le_of_ble_eq_true rfl) dX1_combine_9 ⟨(Nat.le_of_ble_eq_true rfl), (Nat.le_of_ble_eq_true rfl)⟩) hP hD hS hA [0, 1, 2, 3, 4, 5, 6, 7, 8, 9, 10, 11, 12, 13] [] rfl rfl rfl (by decide) (fun r_1 u_2 H locs hw_3 hP hD hS => ?_)
      have hw_4 : r_1 = (nI (cz zf (t0 * 16) 16)) := hw_3
      subst hw_4
      have hP : va_P D vwCl [kX1 lg l1 l2 l3 l4 l5, kJ cJ l1 96 fa, kI cI l2 96 ga, kI cZ l3 96 zf, kI cI l4 96 kf, kI cI l5 6 cf, kX4 rl (nI o) b0 s0 w0 u0, kX0 b0 a1 a2 a3 en ev, kI cI a1 3 x1, kI cI a2 3 x2, kI cI a3 3 x3, kI cI s0 3 x4, kI cI w0 64 x5, kI cI u0 64 x6] H := hP
      have hD : va_D A [kX1 lg l1 l2 l3 l4 l5, kJ cJ l1 96 fa, kI cI l2 96 ga, kI cZ l3 96 zf, kI cI l4 96 kf, kI cI l5 6 cf, kX4 rl (nI o) b0 s0 w0 u0, kX0 b0 a1 a2 a3 en ev, kI cI a1 3 x1, kI cI a2 3 x2, kI cI a3 3 x3, kI cI s0 3 x4, kI cI w0 64 x5, kI cI u0 64 x6] := hD
      refine lv_icmp_ge (tgt := 173) hx hb dX1_combine_12 (by decide) (fun c_5 => ?_) (fun c_5 => ?_)
      rotate_left
      · exact absurd (nI_le (a := (cz zf (t0 * 16) 16)) (b := i) (by omega) (by omega)) c_5
      exact hret _ _ _ _ _ _ (fa, ga) dX1_combine_173 hS (Nat.le_of_ble_eq_true rfl) (Nat.le_of_ble_eq_true rfl) trivial (hP.sub [0, 1, 2, 3, 4, 5, 6, 7, 8, 9, 10, 11, 12, 13] rfl) (hD.sub [0, 1, 2, 3, 4, 5, 6, 7, 8, 9, 10, 11, 12, 13] rfl rfl)
    | succ n ih_3 =>
      intro i fa ga hi H locs ls hP hD hS hl
      refine lv_iload hx hb dX1_combine_3 (lv_at hl 5 rfl) ?_
      refine lv_aload_n hx hb dX1_combine_5 rfl (lv_at hl 0 rfl) ?_
      refine lv_aload_n hx hb dX1_combine_6 rfl (lv_at hl 1 rfl) ?_
      refine lv_iconst (v := 0) hx hb dX1_combine_7 (by decide) ?_
      refine lv_iload_n hx hb dX1_combine_8 rfl (lv_at hl 3 rfl) ?_
      refine xc_i (wc := [kX1 lg l1 l2 l3 l4 l5, kJ cJ l1 96 fa, kI cI l2 96 ga, kI cZ l3 96 zf, kI cI l4 96 kf, kI cI l5 6 cf, kX4 rl (nI o) b0 s0 w0 u0, kX0 b0 a1 a2 a3 en ev, kI cI a1 3 x1, kI cI a2 3 x2, kI cI a3 3 x3, kI cI s0 3 x4, kI cI w0 64 x5, kI cI u0 64 x6]) (wr := []) (xrV (n := 3) (As := [.ref rl, .int 0, .int 2]) (rest := [.int (nI i)]) (ci := 1) (q0 := 0) hd hK hP hD (g_choices_02 l D cI cJ cZ cR _ lg l1 l2 l3 l4 l5 rl b0 a1 a2 a3 s0 w0 u0 t0 fa ga zf kf cf (nI o) en ev x1 x2 x3 x4 x5 x6 e0 h0t (hSI.1 t0 h0t)) (gV t_487 mV_X1_choices) hV_X1_choices ⟨(Nat.le_of_ble_eq_true rfl), (Nat.le_of_ble_eq_true rfl)⟩ rfl rfl [0, 1, 2, 3, 4, 5, 6, 7, 8, 9, 10, 11, 12, 13] rfl rfl rfl hl.1 rfl (Nat.le_of_ble_eq_true rfl) dX1_combine_9 ⟨(Nat.le_of_ble_eq_true rfl), (Nat.le_of_ble_eq_true rfl)⟩) hP hD hS hA [0, 1, 2, 3, 4, 5, 6, 7, 8, 9, 10, 11, 12, 13] [] rfl rfl rfl (by decide) (fun r_6 u_7 H locs hw_8 hP hD hS => ?_)
      have hw_9 : r_6 = (nI (cz zf (t0 * 16) 16)) := hw_8
      subst hw_9
      have hP : va_P D vwCl [kX1 lg l1 l2 l3 l4 l5, kJ cJ l1 96 fa, kI cI l2 96 ga, kI cZ l3 96 zf, kI cI l4 96 kf, kI cI l5 6 cf, kX4 rl (nI o) b0 s0 w0 u0, kX0 b0 a1 a2 a3 en ev, kI cI a1 3 x1, kI cI a2 3 x2, kI cI a3 3 x3, kI cI s0 3 x4, kI cI w0 64 x5, kI cI u0 64 x6] H := hP
      have hD : va_D A [kX1 lg l1 l2 l3 l4 l5, kJ cJ l1 96 fa, kI cI l2 96 ga, kI cZ l3 96 zf, kI cI l4 96 kf, kI cI l5 6 cf, kX4 rl (nI o) b0 s0 w0 u0, kX0 b0 a1 a2 a3 en ev, kI cI a1 3 x1, kI cI a2 3 x2, kI cI a3 3 x3, kI cI s0 3 x4, kI cI w0 64 x5, kI cI u0 64 x6] := hD
      refine lv_icmp_ge (tgt := 173) hx hb dX1_combine_12 (by decide) (fun c_10 => ?_) (fun c_10 => ?_)
      · exact absurd c_10 (nI_ge (a := i) (b := (cz zf (t0 * 16) 16)) (by omega) (by omega))
      refine lv_iload_n hx hb dX1_combine_15 rfl (lv_at hl 3 rfl) ?_
      refine lv_if_ne (tgt := 24) hx hb dX1_combine_16 (by decide) (fun c_11 => ?_) (fun c_11 => ?_)
      rotate_left
      · exact absurd c_11 (by decide)
      refine lv_aload_n hx hb dX1_combine_24 rfl (lv_at hl 0 rfl) ?_
      refine lv_aload_n hx hb dX1_combine_25 rfl (lv_at hl 1 rfl) ?_
      refine lv_iconst (v := 0) hx hb dX1_combine_26 (by decide) ?_
      refine lv_iload hx hb dX1_combine_27 (lv_at hl 5 rfl) ?_
      obtain ⟨q0, hq0, ek0⟩ := hSI.2 t0 h0t i (by omega)
      refine xc_i (wc := [kX1 lg l1 l2 l3 l4 l5, kJ cJ l1 96 fa, kI cI l2 96 ga, kI cZ l3 96 zf, kI cI l4 96 kf, kI cI l5 6 cf, kX4 rl (nI o) b0 s0 w0 u0, kX0 b0 a1 a2 a3 en ev, kI cI a1 3 x1, kI cI a2 3 x2, kI cI a3 3 x3, kI cI s0 3 x4, kI cI w0 64 x5, kI cI u0 64 x6]) (wr := []) (xrV (n := 3) (As := [.ref rl, .int 0, .int (nI i)]) (rest := []) (ci := 1) (q0 := 0) hd hK hP hD (g_settledKind_0 l D cI cJ cZ cR _ lg l1 l2 l3 l4 l5 rl b0 a1 a2 a3 s0 w0 u0 t0 fa ga zf kf cf (nI o) en ev x1 x2 x3 x4 x5 x6 i q0 e0 h0t (by omega) ek0) (gV t_491 mV_X1_settledKind) hV_X1_settledKind ⟨(Nat.le_of_ble_eq_true rfl), (Nat.le_of_ble_eq_true rfl)⟩ rfl rfl [0, 1, 2, 3, 4, 5, 6, 7, 8, 9, 10, 11, 12, 13] rfl rfl rfl hl.1 rfl (Nat.le_of_ble_eq_true rfl) dX1_combine_29 ⟨(Nat.le_of_ble_eq_true rfl), (Nat.le_of_ble_eq_true rfl)⟩) hP hD hS hA [0, 1, 2, 3, 4, 5, 6, 7, 8, 9, 10, 11, 12, 13] [] rfl rfl rfl (by decide) (fun r_12 u_13 H locs hw_14 hP hD hS => ?_)
      have hw_15 : r_12 = (nI q0) := hw_14
      subst hw_15
      have hP : va_P D vwCl [kX1 lg l1 l2 l3 l4 l5, kJ cJ l1 96 fa, kI cI l2 96 ga, kI cZ l3 96 zf, kI cI l4 96 kf, kI cI l5 6 cf, kX4 rl (nI o) b0 s0 w0 u0, kX0 b0 a1 a2 a3 en ev, kI cI a1 3 x1, kI cI a2 3 x2, kI cI a3 3 x3, kI cI s0 3 x4, kI cI w0 64 x5, kI cI u0 64 x6] H := hP
      have hD : va_D A [kX1 lg l1 l2 l3 l4 l5, kJ cJ l1 96 fa, kI cI l2 96 ga, kI cZ l3 96 zf, kI cI l4 96 kf, kI cI l5 6 cf, kX4 rl (nI o) b0 s0 w0 u0, kX0 b0 a1 a2 a3 en ev, kI cI a1 3 x1, kI cI a2 3 x2, kI cI a3 3 x3, kI cI s0 3 x4, kI cI w0 64 x5, kI cI u0 64 x6] := hD
      refine lv_istore (lv' := [(6, .int (nI q0)), (0, .ref lg), (1, .ref rl), (2, .int p2), (3, .int 2), (4, .int (nI b)), (5, .int (nI i))]) hx hb dX1_combine_32 hl (by decide) rfl (fun ls hl => ?_)
      refine lv_iconst (v := 0) hx hb dX1_combine_34 (by decide) ?_
      refine lv_istore (lv' := [(7, .int 0), (6, .int (nI q0)), (0, .ref lg), (1, .ref rl), (2, .int p2), (3, .int 2), (4, .int (nI b)), (5, .int (nI i))]) hx hb dX1_combine_35 hl (by decide) rfl (fun ls hl => ?_)
      have LOOP_37 : ∀ (n : Nat) (j : Nat) (fb : Nat → Int64) (gb : Nat → Int32), (j + n = cz zf (t1 * 16) 16) → ∀ (H : Heap) (locs : List Loc) (ls : Array Slot), va_P D vwCl [kX1 lg l1 l2 l3 l4 l5, kJ cJ l1 96 fb, kI cI l2 96 gb, kI cZ l3 96 zf, kI cI l4 96 kf, kI cI l5 6 cf, kX4 rl (nI o) b0 s0 w0 u0, kX0 b0 a1 a2 a3 en ev, kI cI a1 3 x1, kI cI a2 3 x2, kI cI a3 3 x3, kI cI s0 3 x4, kI cI w0 64 x5, kI cI u0 64 x6] H → va_D A [kX1 lg l1 l2 l3 l4 l5, kJ cJ l1 96 fb, kI cI l2 96 gb, kI cZ l3 96 zf, kI cI l4 96 kf, kI cI l5 6 cf, kX4 rl (nI o) b0 s0 w0 u0, kX0 b0 a1 a2 a3 en ev, kI cI a1 3 x1, kI cI a2 3 x2, kI cI a3 3 x3, kI cI s0 3 x4, kI cI w0 64 x5, kI cI u0 64 x6] → va_S A s.heap H locs → lv_has ls 13 [(0, .ref lg), (1, .ref rl), (2, .int p2), (3, .int 2), (4, .int (nI b)), (5, .int (nI i)), (6, .int (nI q0)), (7, .int (nI j))] → W p l e (rM 1 0 0 26) s m ([.ref lg, .ref rl, .int p2, .int 2, .int (nI b)] : List Value).toArray below meth c H locs 0 0 Q (F0 m 37 ls []) := by
        intro n
        induction n with
        | zero =>
          intro j fb gb hj H locs ls hP hD hS hl
          refine lv_iload hx hb dX1_combine_37 (lv_at hl 7 rfl) ?_
          refine lv_aload_n hx hb dX1_combine_39 rfl (lv_at hl 0 rfl) ?_
          refine lv_aload_n hx hb dX1_combine_40 rfl (lv_at hl 1 rfl) ?_
          refine lv_iconst (v := 1) hx hb dX1_combine_41 (by decide) ?_
          refine lv_iload_n hx hb dX1_combine_42 rfl (lv_at hl 3 rfl) ?_
          refine xc_i (wc := [kX1 lg l1 l2 l3 l4 l5, kJ cJ l1 96 fb, kI cI l2 96 gb, kI cZ l3 96 zf, kI cI l4 96 kf, kI cI l5 6 cf, kX4 rl (nI o) b0 s0 w0 u0, kX0 b0 a1 a2 a3 en ev, kI cI a1 3 x1, kI cI a2 3 x2, kI cI a3 3 x3, kI cI s0 3 x4, kI cI w0 64 x5, kI cI u0 64 x6]) (wr := []) (xrV (n := 3) (As := [.ref rl, .int 1, .int 2]) (rest := [.int (nI j)]) (ci := 1) (q0 := 0) hd hK hP hD (g_choices_12 l D cI cJ cZ cR _ lg l1 l2 l3 l4 l5 rl b0 a1 a2 a3 s0 w0 u0 t1 fb gb zf kf cf (nI o) en ev x1 x2 x3 x4 x5 x6 e1 h1t (hSI.1 t1 h1t)) (gV t_487 mV_X1_choices) hV_X1_choices ⟨(Nat.le_of_ble_eq_true rfl), (Nat.le_of_ble_eq_true rfl)⟩ rfl rfl [0, 1, 2, 3, 4, 5, 6, 7, 8, 9, 10, 11, 12, 13] rfl rfl rfl hl.1 rfl (Nat.le_of_ble_eq_true rfl) dX1_combine_43 ⟨(Nat.le_of_ble_eq_true rfl), (Nat.le_of_ble_eq_true rfl)⟩) hP hD hS hA [0, 1, 2, 3, 4, 5, 6, 7, 8, 9, 10, 11, 12, 13] [] rfl rfl rfl (by decide) (fun r_16 u_17 H locs hw_18 hP hD hS => ?_)
          have hw_19 : r_16 = (nI (cz zf (t1 * 16) 16)) := hw_18
          subst hw_19
          have hP : va_P D vwCl [kX1 lg l1 l2 l3 l4 l5, kJ cJ l1 96 fb, kI cI l2 96 gb, kI cZ l3 96 zf, kI cI l4 96 kf, kI cI l5 6 cf, kX4 rl (nI o) b0 s0 w0 u0, kX0 b0 a1 a2 a3 en ev, kI cI a1 3 x1, kI cI a2 3 x2, kI cI a3 3 x3, kI cI s0 3 x4, kI cI w0 64 x5, kI cI u0 64 x6] H := hP
          have hD : va_D A [kX1 lg l1 l2 l3 l4 l5, kJ cJ l1 96 fb, kI cI l2 96 gb, kI cZ l3 96 zf, kI cI l4 96 kf, kI cI l5 6 cf, kX4 rl (nI o) b0 s0 w0 u0, kX0 b0 a1 a2 a3 en ev, kI cI a1 3 x1, kI cI a2 3 x2, kI cI a3 3 x3, kI cI s0 3 x4, kI cI w0 64 x5, kI cI u0 64 x6] := hD
          refine lv_icmp_ge (tgt := 167) hx hb dX1_combine_46 (by decide) (fun c_20 => ?_) (fun c_20 => ?_)
          rotate_left
          · exact absurd (nI_le (a := (cz zf (t1 * 16) 16)) (b := j) (by omega) (by omega)) c_20
          refine lv_iinc (v := nI (i + 1)) (lv' := [(5, .int (nI (i + 1))), (0, .ref lg), (1, .ref rl), (2, .int p2), (3, .int 2), (4, .int (nI b)), (6, .int (nI q0)), (7, .int (nI j))]) hx hb dX1_combine_167 hl (k := 5) rfl (nI_1 i) (by decide) rfl (fun ls hl => ?_)
          refine lv_goto (tgt := 3) hx hb dX1_combine_170 (by decide) ?_
          exact ih_3 (i + 1) fb gb (by omega) _ _ _ (hP.sub [0, 1, 2, 3, 4, 5, 6, 7, 8, 9, 10, 11, 12, 13] rfl) (hD.sub [0, 1, 2, 3, 4, 5, 6, 7, 8, 9, 10, 11, 12, 13] rfl rfl) hS (lv_sub hl [1, 2, 3, 4, 5, 0] rfl)
        | succ n ih_37 =>
          intro j fb gb hj H locs ls hP hD hS hl
          refine lv_iload hx hb dX1_combine_37 (lv_at hl 7 rfl) ?_
          refine lv_aload_n hx hb dX1_combine_39 rfl (lv_at hl 0 rfl) ?_
          refine lv_aload_n hx hb dX1_combine_40 rfl (lv_at hl 1 rfl) ?_
          refine lv_iconst (v := 1) hx hb dX1_combine_41 (by decide) ?_
          refine lv_iload_n hx hb dX1_combine_42 rfl (lv_at hl 3 rfl) ?_
          refine xc_i (wc := [kX1 lg l1 l2 l3 l4 l5, kJ cJ l1 96 fb, kI cI l2 96 gb, kI cZ l3 96 zf, kI cI l4 96 kf, kI cI l5 6 cf, kX4 rl (nI o) b0 s0 w0 u0, kX0 b0 a1 a2 a3 en ev, kI cI a1 3 x1, kI cI a2 3 x2, kI cI a3 3 x3, kI cI s0 3 x4, kI cI w0 64 x5, kI cI u0 64 x6]) (wr := []) (xrV (n := 3) (As := [.ref rl, .int 1, .int 2]) (rest := [.int (nI j)]) (ci := 1) (q0 := 0) hd hK hP hD (g_choices_12 l D cI cJ cZ cR _ lg l1 l2 l3 l4 l5 rl b0 a1 a2 a3 s0 w0 u0 t1 fb gb zf kf cf (nI o) en ev x1 x2 x3 x4 x5 x6 e1 h1t (hSI.1 t1 h1t)) (gV t_487 mV_X1_choices) hV_X1_choices ⟨(Nat.le_of_ble_eq_true rfl), (Nat.le_of_ble_eq_true rfl)⟩ rfl rfl [0, 1, 2, 3, 4, 5, 6, 7, 8, 9, 10, 11, 12, 13] rfl rfl rfl hl.1 rfl (Nat.le_of_ble_eq_true rfl) dX1_combine_43 ⟨(Nat.le_of_ble_eq_true rfl), (Nat.le_of_ble_eq_true rfl)⟩) hP hD hS hA [0, 1, 2, 3, 4, 5, 6, 7, 8, 9, 10, 11, 12, 13] [] rfl rfl rfl (by decide) (fun r_21 u_22 H locs hw_23 hP hD hS => ?_)
          have hw_24 : r_21 = (nI (cz zf (t1 * 16) 16)) := hw_23
          subst hw_24
          have hP : va_P D vwCl [kX1 lg l1 l2 l3 l4 l5, kJ cJ l1 96 fb, kI cI l2 96 gb, kI cZ l3 96 zf, kI cI l4 96 kf, kI cI l5 6 cf, kX4 rl (nI o) b0 s0 w0 u0, kX0 b0 a1 a2 a3 en ev, kI cI a1 3 x1, kI cI a2 3 x2, kI cI a3 3 x3, kI cI s0 3 x4, kI cI w0 64 x5, kI cI u0 64 x6] H := hP
          have hD : va_D A [kX1 lg l1 l2 l3 l4 l5, kJ cJ l1 96 fb, kI cI l2 96 gb, kI cZ l3 96 zf, kI cI l4 96 kf, kI cI l5 6 cf, kX4 rl (nI o) b0 s0 w0 u0, kX0 b0 a1 a2 a3 en ev, kI cI a1 3 x1, kI cI a2 3 x2, kI cI a3 3 x3, kI cI s0 3 x4, kI cI w0 64 x5, kI cI u0 64 x6] := hD
          refine lv_icmp_ge (tgt := 167) hx hb dX1_combine_46 (by decide) (fun c_25 => ?_) (fun c_25 => ?_)
          · exact absurd c_25 (nI_ge (a := j) (b := (cz zf (t1 * 16) 16)) (by omega) (by omega))
          refine lv_iload_n hx hb dX1_combine_49 rfl (lv_at hl 3 rfl) ?_
          refine lv_iconst (v := 1) hx hb dX1_combine_50 (by decide) ?_
          refine lv_icmp_ne (tgt := 59) hx hb dX1_combine_51 (by decide) (fun c_26 => ?_) (fun c_26 => ?_)
          rotate_left
          · exact absurd c_26 (by decide)
          refine lv_aload_n hx hb dX1_combine_59 rfl (lv_at hl 0 rfl) ?_
          refine lv_aload_n hx hb dX1_combine_60 rfl (lv_at hl 1 rfl) ?_
          refine lv_iconst (v := 1) hx hb dX1_combine_61 (by decide) ?_
          refine lv_iload hx hb dX1_combine_62 (lv_at hl 7 rfl) ?_
          obtain ⟨q1, hq1, ek1⟩ := hSI.2 t1 h1t j (by omega)
          refine xc_i (wc := [kX1 lg l1 l2 l3 l4 l5, kJ cJ l1 96 fb, kI cI l2 96 gb, kI cZ l3 96 zf, kI cI l4 96 kf, kI cI l5 6 cf, kX4 rl (nI o) b0 s0 w0 u0, kX0 b0 a1 a2 a3 en ev, kI cI a1 3 x1, kI cI a2 3 x2, kI cI a3 3 x3, kI cI s0 3 x4, kI cI w0 64 x5, kI cI u0 64 x6]) (wr := []) (xrV (n := 3) (As := [.ref rl, .int 1, .int (nI j)]) (rest := []) (ci := 1) (q0 := 0) hd hK hP hD (g_settledKind_1 l D cI cJ cZ cR _ lg l1 l2 l3 l4 l5 rl b0 a1 a2 a3 s0 w0 u0 t1 fb gb zf kf cf (nI o) en ev x1 x2 x3 x4 x5 x6 j q1 e1 h1t (by omega) ek1) (gV t_491 mV_X1_settledKind) hV_X1_settledKind ⟨(Nat.le_of_ble_eq_true rfl), (Nat.le_of_ble_eq_true rfl)⟩ rfl rfl [0, 1, 2, 3, 4, 5, 6, 7, 8, 9, 10, 11, 12, 13] rfl rfl rfl hl.1 rfl (Nat.le_of_ble_eq_true rfl) dX1_combine_64 ⟨(Nat.le_of_ble_eq_true rfl), (Nat.le_of_ble_eq_true rfl)⟩) hP hD hS hA [0, 1, 2, 3, 4, 5, 6, 7, 8, 9, 10, 11, 12, 13] [] rfl rfl rfl (by decide) (fun r_27 u_28 H locs hw_29 hP hD hS => ?_)
          have hw_30 : r_27 = (nI q1) := hw_29
          subst hw_30
          have hP : va_P D vwCl [kX1 lg l1 l2 l3 l4 l5, kJ cJ l1 96 fb, kI cI l2 96 gb, kI cZ l3 96 zf, kI cI l4 96 kf, kI cI l5 6 cf, kX4 rl (nI o) b0 s0 w0 u0, kX0 b0 a1 a2 a3 en ev, kI cI a1 3 x1, kI cI a2 3 x2, kI cI a3 3 x3, kI cI s0 3 x4, kI cI w0 64 x5, kI cI u0 64 x6] H := hP
          have hD : va_D A [kX1 lg l1 l2 l3 l4 l5, kJ cJ l1 96 fb, kI cI l2 96 gb, kI cZ l3 96 zf, kI cI l4 96 kf, kI cI l5 6 cf, kX4 rl (nI o) b0 s0 w0 u0, kX0 b0 a1 a2 a3 en ev, kI cI a1 3 x1, kI cI a2 3 x2, kI cI a3 3 x3, kI cI s0 3 x4, kI cI w0 64 x5, kI cI u0 64 x6] := hD
          refine lv_istore (lv' := [(8, .int (nI q1)), (0, .ref lg), (1, .ref rl), (2, .int p2), (3, .int 2), (4, .int (nI b)), (5, .int (nI i)), (6, .int (nI q0)), (7, .int (nI j))]) hx hb dX1_combine_67 hl (by decide) rfl (fun ls hl => ?_)
          refine lv_lconst (v := 1) hx hb dX1_combine_69 (by decide) ?_
          refine lv_aload_n hx hb dX1_combine_70 rfl (lv_at hl 1 rfl) ?_
          refine lv_aload_n hx hb dX1_combine_71 rfl (lv_at hl 2 rfl) ?_
          refine lv_iconst (v := 0) hx hb dX1_combine_72 (by decide) ?_
          refine lv_iload hx hb dX1_combine_73 (lv_at hl 7 rfl) ?_
          refine xc_l (wc := [kX1 lg l1 l2 l3 l4 l5, kJ cJ l1 96 fb, kI cI l2 96 gb, kI cZ l3 96 zf, kI cI l4 96 kf, kI cI l5 6 cf, kX4 rl (nI o) b0 s0 w0 u0, kX0 b0 a1 a2 a3 en ev, kI cI a1 3 x1, kI cI a2 3 x2, kI cI a3 3 x3, kI cI s0 3 x4, kI cI w0 64 x5, kI cI u0 64 x6]) (wr := []) (xrV (n := 3) (As := [.ref rl, .int 0, .int (nI q0)]) (rest := [.long 1]) (ci := 1) (q0 := 0) hd hK hP hD (g_stepsIn_0 l D cI cJ cZ cR _ lg l1 l2 l3 l4 l5 rl b0 a1 a2 a3 s0 w0 u0 t0 fb gb zf kf cf (nI o) en ev x1 x2 x3 x4 x5 x6 q0 e0 h0t hq0) (gV t_495 mV_X1_stepsIn) hV_X1_stepsIn ⟨(Nat.le_of_ble_eq_true rfl), (Nat.le_of_ble_eq_true rfl)⟩ rfl rfl [0, 1, 2, 3, 4, 5, 6, 7, 8, 9, 10, 11, 12, 13] rfl rfl rfl hl.1 rfl (Nat.le_of_ble_eq_true rfl) dX1_combine_75 ⟨(Nat.le_of_ble_eq_true rfl), (Nat.le_of_ble_eq_true rfl)⟩) hP hD hS hA [0, 1, 2, 3, 4, 5, 6, 7, 8, 9, 10, 11, 12, 13] [] rfl rfl rfl (by decide) (fun r_31 u_32 H locs hw_33 hP hD hS => ?_)
          have hP : va_P D vwCl [kX1 lg l1 l2 l3 l4 l5, kJ cJ l1 96 fb, kI cI l2 96 gb, kI cZ l3 96 zf, kI cI l4 96 kf, kI cI l5 6 cf, kX4 rl (nI o) b0 s0 w0 u0, kX0 b0 a1 a2 a3 en ev, kI cI a1 3 x1, kI cI a2 3 x2, kI cI a3 3 x3, kI cI s0 3 x4, kI cI w0 64 x5, kI cI u0 64 x6] H := hP
          have hD : va_D A [kX1 lg l1 l2 l3 l4 l5, kJ cJ l1 96 fb, kI cI l2 96 gb, kI cZ l3 96 zf, kI cI l4 96 kf, kI cI l5 6 cf, kX4 rl (nI o) b0 s0 w0 u0, kX0 b0 a1 a2 a3 en ev, kI cI a1 3 x1, kI cI a2 3 x2, kI cI a3 3 x3, kI cI s0 3 x4, kI cI w0 64 x5, kI cI u0 64 x6] := hD
          refine lv_ladd hx hb dX1_combine_78 ?_
          refine lv_aload_n hx hb dX1_combine_79 rfl (lv_at hl 1 rfl) ?_
          refine lv_aload_n hx hb dX1_combine_80 rfl (lv_at hl 2 rfl) ?_
          refine lv_iconst (v := 1) hx hb dX1_combine_81 (by decide) ?_
          refine lv_iload hx hb dX1_combine_82 (lv_at hl 0 rfl) ?_
          refine xc_l (wc := [kX1 lg l1 l2 l3 l4 l5, kJ cJ l1 96 fb, kI cI l2 96 gb, kI cZ l3 96 zf, kI cI l4 96 kf, kI cI l5 6 cf, kX4 rl (nI o) b0 s0 w0 u0, kX0 b0 a1 a2 a3 en ev, kI cI a1 3 x1, kI cI a2 3 x2, kI cI a3 3 x3, kI cI s0 3 x4, kI cI w0 64 x5, kI cI u0 64 x6]) (wr := []) (xrV (n := 3) (As := [.ref rl, .int 1, .int (nI q1)]) (rest := [.long (1 + r_31)]) (ci := 1) (q0 := 0) hd hK hP hD (g_stepsIn_1 l D cI cJ cZ cR _ lg l1 l2 l3 l4 l5 rl b0 a1 a2 a3 s0 w0 u0 t1 fb gb zf kf cf (nI o) en ev x1 x2 x3 x4 x5 x6 q1 e1 h1t hq1) (gV t_495 mV_X1_stepsIn) hV_X1_stepsIn ⟨(Nat.le_of_ble_eq_true rfl), (Nat.le_of_ble_eq_true rfl)⟩ rfl rfl [0, 1, 2, 3, 4, 5, 6, 7, 8, 9, 10, 11, 12, 13] rfl rfl rfl hl.1 rfl (Nat.le_of_ble_eq_true rfl) dX1_combine_84 ⟨(Nat.le_of_ble_eq_true rfl), (Nat.le_of_ble_eq_true rfl)⟩) hP hD hS hA [0, 1, 2, 3, 4, 5, 6, 7, 8, 9, 10, 11, 12, 13] [] rfl rfl rfl (by decide) (fun r_34 u_35 H locs hw_36 hP hD hS => ?_)
          have hP : va_P D vwCl [kX1 lg l1 l2 l3 l4 l5, kJ cJ l1 96 fb, kI cI l2 96 gb, kI cZ l3 96 zf, kI cI l4 96 kf, kI cI l5 6 cf, kX4 rl (nI o) b0 s0 w0 u0, kX0 b0 a1 a2 a3 en ev, kI cI a1 3 x1, kI cI a2 3 x2, kI cI a3 3 x3, kI cI s0 3 x4, kI cI w0 64 x5, kI cI u0 64 x6] H := hP
          have hD : va_D A [kX1 lg l1 l2 l3 l4 l5, kJ cJ l1 96 fb, kI cI l2 96 gb, kI cZ l3 96 zf, kI cI l4 96 kf, kI cI l5 6 cf, kX4 rl (nI o) b0 s0 w0 u0, kX0 b0 a1 a2 a3 en ev, kI cI a1 3 x1, kI cI a2 3 x2, kI cI a3 3 x3, kI cI s0 3 x4, kI cI w0 64 x5, kI cI u0 64 x6] := hD
          refine lv_ladd hx hb dX1_combine_87 ?_
          refine lv_lstore (lv' := [(9, .long ((1 + r_31) + r_34)), (8, .int (nI q1)), (0, .ref lg), (1, .ref rl), (2, .int p2), (3, .int 2), (4, .int (nI b)), (5, .int (nI i)), (6, .int (nI q0)), (7, .int (nI j))]) hx hb dX1_combine_88 hl (by decide) rfl (fun ls hl => ?_)
          refine lv_iconst (v := 0) hx hb dX1_combine_90 (by decide) ?_
          refine lv_istore (lv' := [(11, .int 0), (9, .long ((1 + r_31) + r_34)), (8, .int (nI q1)), (0, .ref lg), (1, .ref rl), (2, .int p2), (3, .int 2), (4, .int (nI b)), (5, .int (nI i)), (6, .int (nI q0)), (7, .int (nI j))]) hx hb dX1_combine_91 hl (by decide) rfl (fun ls hl => ?_)
          have LOOP_93 : ∀ (n : Nat) (k : Nat) (tw : Int64) (fc : Nat → Int64) (gc : Nat → Int32), (k + n = 1) → ∀ (H : Heap) (locs : List Loc) (ls : Array Slot), va_P D vwCl [kX1 lg l1 l2 l3 l4 l5, kJ cJ l1 96 fc, kI cI l2 96 gc, kI cZ l3 96 zf, kI cI l4 96 kf, kI cI l5 6 cf, kX4 rl (nI o) b0 s0 w0 u0, kX0 b0 a1 a2 a3 en ev, kI cI a1 3 x1, kI cI a2 3 x2, kI cI a3 3 x3, kI cI s0 3 x4, kI cI w0 64 x5, kI cI u0 64 x6] H → va_D A [kX1 lg l1 l2 l3 l4 l5, kJ cJ l1 96 fc, kI cI l2 96 gc, kI cZ l3 96 zf, kI cI l4 96 kf, kI cI l5 6 cf, kX4 rl (nI o) b0 s0 w0 u0, kX0 b0 a1 a2 a3 en ev, kI cI a1 3 x1, kI cI a2 3 x2, kI cI a3 3 x3, kI cI s0 3 x4, kI cI w0 64 x5, kI cI u0 64 x6] → va_S A s.heap H locs → lv_has ls 13 [(0, .ref lg), (1, .ref rl), (2, .int p2), (3, .int 2), (4, .int (nI b)), (5, .int (nI i)), (6, .int (nI q0)), (7, .int (nI j)), (8, .int (nI q1)), (9, .long tw), (11, .int (nI k))] → W p l e (rM 1 0 0 26) s m ([.ref lg, .ref rl, .int p2, .int 2, .int (nI b)] : List Value).toArray below meth c H locs 0 0 Q (F0 m 93 ls []) := by
            intro n
            induction n with
            | zero =>
              intro k tw fc gc hk H locs ls hP hD hS hl
              refine lv_iload hx hb dX1_combine_93 (lv_at hl 10 rfl) ?_
              refine lv_aload_n hx hb dX1_combine_95 rfl (lv_at hl 0 rfl) ?_
              refine lv_aload_n hx hb dX1_combine_96 rfl (lv_at hl 1 rfl) ?_
              refine lv_iconst (v := 2) hx hb dX1_combine_97 (by decide) ?_
              refine lv_iload_n hx hb dX1_combine_98 rfl (lv_at hl 3 rfl) ?_
              refine xc_i (wc := [kX1 lg l1 l2 l3 l4 l5, kJ cJ l1 96 fc, kI cI l2 96 gc, kI cZ l3 96 zf, kI cI l4 96 kf, kI cI l5 6 cf, kX4 rl (nI o) b0 s0 w0 u0, kX0 b0 a1 a2 a3 en ev, kI cI a1 3 x1, kI cI a2 3 x2, kI cI a3 3 x3, kI cI s0 3 x4, kI cI w0 64 x5, kI cI u0 64 x6]) (wr := []) (xrV (n := 3) (As := [.ref rl, .int 2, .int 2]) (rest := [.int (nI k)]) (ci := 1) (q0 := 0) hd hK hP hD (g_choices_22 l D cI cJ cZ cR _ lg l1 l2 l3 l4 l5 rl b0 a1 a2 a3 s0 w0 u0 fc gc zf kf cf (nI o) en ev x1 x2 x3 x4 x5 x6 ) (gV t_487 mV_X1_choices) hV_X1_choices ⟨(Nat.le_of_ble_eq_true rfl), (Nat.le_of_ble_eq_true rfl)⟩ rfl rfl [0, 1, 2, 3, 4, 5, 6, 7, 8, 9, 10, 11, 12, 13] rfl rfl rfl hl.1 rfl (Nat.le_of_ble_eq_true rfl) dX1_combine_99 ⟨(Nat.le_of_ble_eq_true rfl), (Nat.le_of_ble_eq_true rfl)⟩) hP hD hS hA [0, 1, 2, 3, 4, 5, 6, 7, 8, 9, 10, 11, 12, 13] [] rfl rfl rfl (by decide) (fun r_37 u_38 H locs hw_39 hP hD hS => ?_)
              have hw_40 : r_37 = 1 := hw_39
              subst hw_40
              have hP : va_P D vwCl [kX1 lg l1 l2 l3 l4 l5, kJ cJ l1 96 fc, kI cI l2 96 gc, kI cZ l3 96 zf, kI cI l4 96 kf, kI cI l5 6 cf, kX4 rl (nI o) b0 s0 w0 u0, kX0 b0 a1 a2 a3 en ev, kI cI a1 3 x1, kI cI a2 3 x2, kI cI a3 3 x3, kI cI s0 3 x4, kI cI w0 64 x5, kI cI u0 64 x6] H := hP
              have hD : va_D A [kX1 lg l1 l2 l3 l4 l5, kJ cJ l1 96 fc, kI cI l2 96 gc, kI cZ l3 96 zf, kI cI l4 96 kf, kI cI l5 6 cf, kX4 rl (nI o) b0 s0 w0 u0, kX0 b0 a1 a2 a3 en ev, kI cI a1 3 x1, kI cI a2 3 x2, kI cI a3 3 x3, kI cI s0 3 x4, kI cI w0 64 x5, kI cI u0 64 x6] := hD
              refine lv_icmp_ge (tgt := 161) hx hb dX1_combine_102 (by decide) (fun c_41 => ?_) (fun c_41 => ?_)
              rotate_left
              · exact absurd (nI_le (a := 1) (b := k) (by omega) (by omega)) c_41
              refine lv_iinc (v := nI (j + 1)) (lv' := [(7, .int (nI (j + 1))), (0, .ref lg), (1, .ref rl), (2, .int p2), (3, .int 2), (4, .int (nI b)), (5, .int (nI i)), (6, .int (nI q0)), (8, .int (nI q1)), (9, .long tw), (11, .int (nI k))]) hx hb dX1_combine_161 hl (k := 7) rfl (nI_1 j) (by decide) rfl (fun ls hl => ?_)
              refine lv_goto (tgt := 37) hx hb dX1_combine_164 (by decide) ?_
              exact ih_37 (j + 1) fc gc (by omega) _ _ _ (hP.sub [0, 1, 2, 3, 4, 5, 6, 7, 8, 9, 10, 11, 12, 13] rfl) (hD.sub [0, 1, 2, 3, 4, 5, 6, 7, 8, 9, 10, 11, 12, 13] rfl rfl) hS (lv_sub hl [1, 2, 3, 4, 5, 6, 7, 0] rfl)
            | succ n ih_93 =>
              intro k tw fc gc hk H locs ls hP hD hS hl
              refine lv_iload hx hb dX1_combine_93 (lv_at hl 10 rfl) ?_
              refine lv_aload_n hx hb dX1_combine_95 rfl (lv_at hl 0 rfl) ?_
              refine lv_aload_n hx hb dX1_combine_96 rfl (lv_at hl 1 rfl) ?_
              refine lv_iconst (v := 2) hx hb dX1_combine_97 (by decide) ?_
              refine lv_iload_n hx hb dX1_combine_98 rfl (lv_at hl 3 rfl) ?_
              refine xc_i (wc := [kX1 lg l1 l2 l3 l4 l5, kJ cJ l1 96 fc, kI cI l2 96 gc, kI cZ l3 96 zf, kI cI l4 96 kf, kI cI l5 6 cf, kX4 rl (nI o) b0 s0 w0 u0, kX0 b0 a1 a2 a3 en ev, kI cI a1 3 x1, kI cI a2 3 x2, kI cI a3 3 x3, kI cI s0 3 x4, kI cI w0 64 x5, kI cI u0 64 x6]) (wr := []) (xrV (n := 3) (As := [.ref rl, .int 2, .int 2]) (rest := [.int (nI k)]) (ci := 1) (q0 := 0) hd hK hP hD (g_choices_22 l D cI cJ cZ cR _ lg l1 l2 l3 l4 l5 rl b0 a1 a2 a3 s0 w0 u0 fc gc zf kf cf (nI o) en ev x1 x2 x3 x4 x5 x6 ) (gV t_487 mV_X1_choices) hV_X1_choices ⟨(Nat.le_of_ble_eq_true rfl), (Nat.le_of_ble_eq_true rfl)⟩ rfl rfl [0, 1, 2, 3, 4, 5, 6, 7, 8, 9, 10, 11, 12, 13] rfl rfl rfl hl.1 rfl (Nat.le_of_ble_eq_true rfl) dX1_combine_99 ⟨(Nat.le_of_ble_eq_true rfl), (Nat.le_of_ble_eq_true rfl)⟩) hP hD hS hA [0, 1, 2, 3, 4, 5, 6, 7, 8, 9, 10, 11, 12, 13] [] rfl rfl rfl (by decide) (fun r_42 u_43 H locs hw_44 hP hD hS => ?_)
              have hw_45 : r_42 = 1 := hw_44
              subst hw_45
              have hP : va_P D vwCl [kX1 lg l1 l2 l3 l4 l5, kJ cJ l1 96 fc, kI cI l2 96 gc, kI cZ l3 96 zf, kI cI l4 96 kf, kI cI l5 6 cf, kX4 rl (nI o) b0 s0 w0 u0, kX0 b0 a1 a2 a3 en ev, kI cI a1 3 x1, kI cI a2 3 x2, kI cI a3 3 x3, kI cI s0 3 x4, kI cI w0 64 x5, kI cI u0 64 x6] H := hP
              have hD : va_D A [kX1 lg l1 l2 l3 l4 l5, kJ cJ l1 96 fc, kI cI l2 96 gc, kI cZ l3 96 zf, kI cI l4 96 kf, kI cI l5 6 cf, kX4 rl (nI o) b0 s0 w0 u0, kX0 b0 a1 a2 a3 en ev, kI cI a1 3 x1, kI cI a2 3 x2, kI cI a3 3 x3, kI cI s0 3 x4, kI cI w0 64 x5, kI cI u0 64 x6] := hD
              refine lv_icmp_ge (tgt := 161) hx hb dX1_combine_102 (by decide) (fun c_46 => ?_) (fun c_46 => ?_)
              · exact absurd c_46 (nI_ge (a := k) (b := 1) (by omega) (by omega))
              refine lv_iload_n hx hb dX1_combine_105 rfl (lv_at hl 3 rfl) ?_
              refine lv_iconst (v := 2) hx hb dX1_combine_106 (by decide) ?_
              refine lv_icmp_ne (tgt := 115) hx hb dX1_combine_107 (by decide) (fun c_47 => ?_) (fun c_47 => ?_)
              · exact absurd c_47 (by decide)
              refine lv_iload hx hb dX1_combine_110 (lv_at hl 4 rfl) ?_
              refine lv_goto (tgt := 123) hx hb dX1_combine_112 (by decide) ?_
              refine lv_istore (lv' := [(12, .int (nI b)), (0, .ref lg), (1, .ref rl), (2, .int p2), (3, .int 2), (4, .int (nI b)), (5, .int (nI i)), (6, .int (nI q0)), (7, .int (nI j)), (8, .int (nI q1)), (9, .long tw), (11, .int (nI k))]) hx hb dX1_combine_123 hl (by decide) rfl (fun ls hl => ?_)
              refine lv_aload_n hx hb dX1_combine_125 rfl (lv_at hl 1 rfl) ?_
              refine lv_aload_n hx hb dX1_combine_126 rfl (lv_at hl 2 rfl) ?_
              refine va_get (D := D) (ci := 4) (v := .int (nI o)) (C := RX4) (T := TX4) (N := 5) hx hb hts iT_X4 hown hK1 hP 6 rfl rfl 0 (by decide) (hts _ t_82) (fun _ h9 => h9) rfl dX1_combine_127 ?_
              refine lv_aload_n hx hb dX1_combine_130 rfl (lv_at hl 2 rfl) ?_
              refine lv_iload hx hb dX1_combine_131 (lv_at hl 7 rfl) ?_
              refine lv_iload hx hb dX1_combine_133 (lv_at hl 9 rfl) ?_
              refine lv_iload hx hb dX1_combine_135 (lv_at hl 0 rfl) ?_
              refine xc_i (wc := [kX4 rl (nI o) b0 s0 w0 u0, kX0 b0 a1 a2 a3 en ev, kI cI a1 3 x1, kI cI a2 3 x2, kI cI a3 3 x3, kI cI s0 3 x4, kI cI w0 64 x5, kI cI u0 64 x6]) (wr := [kX1 lg l1 l2 l3 l4 l5, kJ cJ l1 96 fc, kI cI l2 96 gc, kI cZ l3 96 zf, kI cI l4 96 kf, kI cI l5 6 cf]) (xrV (n := 3) (As := [.int (nI q0), .int (nI q1), .int (nI b)]) (rest := [.int (nI o), .ref lg]) (ci := 4) (q0 := 6) hd hK hP hD (c_X4_kindFrom l D cI cJ cZ cR _ rl b0 a1 a2 a3 s0 w0 u0 (nI o) en ev x1 x2 x3 x4 x5 x6 (nI q0) (nI q1) (nI b) hw4 hu4) (gV t_499 mV_X4_kindFrom) hV_X4_kindFrom ⟨(Nat.le_of_ble_eq_true rfl), (Nat.le_of_ble_eq_true rfl)⟩ rfl rfl [6, 7, 8, 9, 10, 11, 12, 13] rfl rfl rfl hl.1 rfl (Nat.le_of_ble_eq_true rfl) dX1_combine_137 ⟨(Nat.le_of_ble_eq_true rfl), (Nat.le_of_ble_eq_true rfl)⟩) hP hD hS hA [6, 7, 8, 9, 10, 11, 12, 13] [0, 1, 2, 3, 4, 5] rfl rfl rfl (by decide) (fun r_48 u_49 H locs hw_50 hP hD hS => ?_)
              obtain ⟨kk_51, rfl⟩ : ∃ z9, z9 = u_49 := ⟨_, rfl⟩
              obtain ⟨hw_52, hw_53⟩ : (r_48 = (nI kk_51)) ∧ (kk_51 < 16) := hw_50
              subst hw_52
              have hk16 := hw_53
              have hP : va_P D vwCl [kX1 lg l1 l2 l3 l4 l5, kJ cJ l1 96 fc, kI cI l2 96 gc, kI cZ l3 96 zf, kI cI l4 96 kf, kI cI l5 6 cf, kX4 rl (nI o) b0 s0 w0 u0, kX0 b0 a1 a2 a3 en ev, kI cI a1 3 x1, kI cI a2 3 x2, kI cI a3 3 x3, kI cI s0 3 x4, kI cI w0 64 x5, kI cI u0 64 x6] H := hP
              have hD : va_D A [kX1 lg l1 l2 l3 l4 l5, kJ cJ l1 96 fc, kI cI l2 96 gc, kI cZ l3 96 zf, kI cI l4 96 kf, kI cI l5 6 cf, kX4 rl (nI o) b0 s0 w0 u0, kX0 b0 a1 a2 a3 en ev, kI cI a1 3 x1, kI cI a2 3 x2, kI cI a3 3 x3, kI cI s0 3 x4, kI cI w0 64 x5, kI cI u0 64 x6] := hD
              refine lv_lload hx hb dX1_combine_140 (lv_at hl 10 rfl) ?_
              refine lv_aload_n hx hb dX1_combine_142 rfl (lv_at hl 1 rfl) ?_
              refine lv_aload_n hx hb dX1_combine_143 rfl (lv_at hl 2 rfl) ?_
              refine lv_iconst (v := 2) hx hb dX1_combine_144 (by decide) ?_
              refine lv_iload hx hb dX1_combine_145 (lv_at hl 0 rfl) ?_
              refine xc_l (wc := [kX1 lg l1 l2 l3 l4 l5, kJ cJ l1 96 fc, kI cI l2 96 gc, kI cZ l3 96 zf, kI cI l4 96 kf, kI cI l5 6 cf, kX4 rl (nI o) b0 s0 w0 u0, kX0 b0 a1 a2 a3 en ev, kI cI a1 3 x1, kI cI a2 3 x2, kI cI a3 3 x3, kI cI s0 3 x4, kI cI w0 64 x5, kI cI u0 64 x6]) (wr := []) (xrV (n := 3) (As := [.ref rl, .int 2, .int (nI b)]) (rest := [.long tw, .int (nI kk_51), .int (nI o), .ref lg]) (ci := 1) (q0 := 0) hd hK hP hD (g_stepsIn_2 l D cI cJ cZ cR _ lg l1 l2 l3 l4 l5 rl b0 a1 a2 a3 s0 w0 u0 t2 fc gc zf kf cf (nI o) en ev x1 x2 x3 x4 x5 x6 b e2 h2t hb0) (gV t_495 mV_X1_stepsIn) hV_X1_stepsIn ⟨(Nat.le_of_ble_eq_true rfl), (Nat.le_of_ble_eq_true rfl)⟩ rfl rfl [0, 1, 2, 3, 4, 5, 6, 7, 8, 9, 10, 11, 12, 13] rfl rfl rfl hl.1 rfl (Nat.le_of_ble_eq_true rfl) dX1_combine_147 ⟨(Nat.le_of_ble_eq_true rfl), (Nat.le_of_ble_eq_true rfl)⟩) hP hD hS hA [0, 1, 2, 3, 4, 5, 6, 7, 8, 9, 10, 11, 12, 13] [] rfl rfl rfl (by decide) (fun r_54 u_55 H locs hw_56 hP hD hS => ?_)
              have hP : va_P D vwCl [kX1 lg l1 l2 l3 l4 l5, kJ cJ l1 96 fc, kI cI l2 96 gc, kI cZ l3 96 zf, kI cI l4 96 kf, kI cI l5 6 cf, kX4 rl (nI o) b0 s0 w0 u0, kX0 b0 a1 a2 a3 en ev, kI cI a1 3 x1, kI cI a2 3 x2, kI cI a3 3 x3, kI cI s0 3 x4, kI cI w0 64 x5, kI cI u0 64 x6] H := hP
              have hD : va_D A [kX1 lg l1 l2 l3 l4 l5, kJ cJ l1 96 fc, kI cI l2 96 gc, kI cZ l3 96 zf, kI cI l4 96 kf, kI cI l5 6 cf, kX4 rl (nI o) b0 s0 w0 u0, kX0 b0 a1 a2 a3 en ev, kI cI a1 3 x1, kI cI a2 3 x2, kI cI a3 3 x3, kI cI s0 3 x4, kI cI w0 64 x5, kI cI u0 64 x6] := hD
              refine lv_ladd hx hb dX1_combine_150 ?_
              refine lv_iload_n hx hb dX1_combine_151 rfl (lv_at hl 3 rfl) ?_
              refine xc_v (wc := [kX1 lg l1 l2 l3 l4 l5, kJ cJ l1 96 fc, kI cI l2 96 gc, kI cZ l3 96 zf, kI cI l4 96 kf, kI cI l5 6 cf]) (wr := [kX4 rl (nI o) b0 s0 w0 u0, kX0 b0 a1 a2 a3 en ev, kI cI a1 3 x1, kI cI a2 3 x2, kI cI a3 3 x3, kI cI s0 3 x4, kI cI w0 64 x5, kI cI u0 64 x6]) (xrV (n := 4) (As := [.int (nI o), .int (nI kk_51), .long (tw + r_54), .int p2]) (rest := []) (ci := 1) (q0 := 0) hd hK hP hD (c_X1_offer l D cI cJ cZ cR _ lg l1 l2 l3 l4 l5 o kk_51 fc gc zf kf cf (tw + r_54) p2 (by omega) hk16) (gV t_467 mV_X1_offer) hV_X1_offer ⟨(Nat.le_of_ble_eq_true rfl), (Nat.le_of_ble_eq_true rfl)⟩ rfl rfl [0, 1, 2, 3, 4, 5] rfl rfl rfl hl.1 rfl (Nat.le_of_ble_eq_true rfl) dX1_combine_152 ⟨(Nat.le_of_ble_eq_true rfl), (Nat.le_of_ble_eq_true rfl)⟩) hP hD hS hA [0, 1, 2, 3, 4, 5] [6, 7, 8, 9, 10, 11, 12, 13] rfl rfl rfl (by decide) (fun u_58 H locs hw_59 hP hD hS => ?_)
              obtain ⟨f2_60, g2_61⟩ := u_58
              have hP : va_P D vwCl [kX4 rl (nI o) b0 s0 w0 u0, kX0 b0 a1 a2 a3 en ev, kI cI a1 3 x1, kI cI a2 3 x2, kI cI a3 3 x3, kI cI s0 3 x4, kI cI w0 64 x5, kI cI u0 64 x6, kX1 lg l1 l2 l3 l4 l5, kJ cJ l1 96 f2_60, kI cI l2 96 g2_61, kI cZ l3 96 zf, kI cI l4 96 kf, kI cI l5 6 cf] H := hP
              have hD : va_D A [kX4 rl (nI o) b0 s0 w0 u0, kX0 b0 a1 a2 a3 en ev, kI cI a1 3 x1, kI cI a2 3 x2, kI cI a3 3 x3, kI cI s0 3 x4, kI cI w0 64 x5, kI cI u0 64 x6, kX1 lg l1 l2 l3 l4 l5, kJ cJ l1 96 f2_60, kI cI l2 96 g2_61, kI cZ l3 96 zf, kI cI l4 96 kf, kI cI l5 6 cf] := hD
              refine lv_iinc (v := nI (k + 1)) (lv' := [(11, .int (nI (k + 1))), (12, .int (nI b)), (0, .ref lg), (1, .ref rl), (2, .int p2), (3, .int 2), (4, .int (nI b)), (5, .int (nI i)), (6, .int (nI q0)), (7, .int (nI j)), (8, .int (nI q1)), (9, .long tw)]) hx hb dX1_combine_155 hl (k := 11) rfl (nI_1 k) (by decide) rfl (fun ls hl => ?_)
              refine lv_goto (tgt := 93) hx hb dX1_combine_158 (by decide) ?_
              exact ih_93 (k + 1) tw f2_60 g2_61 (by omega) _ _ _ (hP.sub [8, 9, 10, 11, 12, 13, 0, 1, 2, 3, 4, 5, 6, 7] rfl) (hD.sub [8, 9, 10, 11, 12, 13, 0, 1, 2, 3, 4, 5, 6, 7] rfl rfl) hS (lv_sub hl [2, 3, 4, 5, 6, 7, 8, 9, 10, 11, 0] rfl)
          exact LOOP_93 (1) 0 ((1 + r_31) + r_34) fb gb (by omega) _ _ _ (hP.sub [0, 1, 2, 3, 4, 5, 6, 7, 8, 9, 10, 11, 12, 13] rfl) (hD.sub [0, 1, 2, 3, 4, 5, 6, 7, 8, 9, 10, 11, 12, 13] rfl rfl) hS (lv_sub hl [3, 4, 5, 6, 7, 8, 9, 10, 2, 1, 0] rfl)
      exact LOOP_37 (cz zf (t1 * 16) 16) 0 fa ga (by omega) _ _ _ (hP.sub [0, 1, 2, 3, 4, 5, 6, 7, 8, 9, 10, 11, 12, 13] rfl) (hD.sub [0, 1, 2, 3, 4, 5, 6, 7, 8, 9, 10, 11, 12, 13] rfl rfl) hS (lv_sub hl [2, 3, 4, 5, 6, 7, 1, 0] rfl)
  exact LOOP_3 (cz zf (t0 * 16) 16) 0 ff gf (by omega) _ _ _ (hP.sub [0, 1, 2, 3, 4, 5, 6, 7, 8, 9, 10, 11, 12, 13] rfl) (hD.sub [0, 1, 2, 3, 4, 5, 6, 7, 8, 9, 10, 11, 12, 13] rfl rfl) hS (lv_sub hl [1, 2, 3, 4, 5, 0] rfl)
set_option maxHeartbeats 4000000 in
set_option maxRecDepth 100000 in
theorem c_X1_spread (sz : Nat) (lg : Nat) (l1 : Nat) (l2 : Nat) (l3 : Nat) (l4 : Nat) (l5 : Nat) (rl : Nat) (b0 : Nat) (a1 : Nat) (a2 : Nat) (a3 : Nat) (s0 : Nat) (w0 : Nat) (u0 : Nat) (t0 : Nat) (t1 : Nat) (t2 : Nat) (a : Nat) (b : Nat) (ff : Nat → Int64) (gf : Nat → Int32) (zf : Nat → Int32) (kf : Nat → Int32) (cf : Nat → Int32) (o : Nat) (en : Int32) (ev : Int32) (x1 : Nat → Int32) (x2 : Nat → Int32) (x3 : Nat → Int32) (x4 : Nat → Int32) (x5 : Nat → Int32) (x6 : Nat → Int32) (p2 : Int32) (e0 : x4 0 = nI t0) (e1 : x4 1 = nI t1) (e2 : x4 2 = nI t2) (h0t : t0 < 6) (h1t : t1 < 6) (h2t : t2 < 6) (ho : o < 3) (hw4 : ∀ j, j < 64 → lt4 (x5 j)) (hu4 : ∀ j, j < 64 → lt4 (x6 j)) (hSI : SI zf kf cf) (hb0 : b < 16) : CTv l D cI cJ cZ cR yX1_spread cX1_spread 6 none 2 58 0 0 sz [.ref lg, .ref rl, .int p2, .int (nI a), .int (nI b)] [kX1 lg l1 l2 l3 l4 l5, kJ cJ l1 96 ff, kI cI l2 96 gf, kI cZ l3 96 zf, kI cI l4 96 kf, kI cI l5 6 cf, kX4 rl (nI o) b0 s0 w0 u0, kX0 b0 a1 a2 a3 en ev, kI cI a1 3 x1, kI cI a2 3 x2, kI cI a3 3 x3, kI cI s0 3 x4, kI cI w0 64 x5, kI cI u0 64 x6] (fun (u : (Nat → Int64) × (Nat → Int32)) => True) (fun (u : (Nat → Int64) × (Nat → Int32)) => [kX1 lg l1 l2 l3 l4 l5, kJ cJ l1 96 u.1, kI cI l2 96 u.2, kI cZ l3 96 zf, kI cI l4 96 kf, kI cI l5 6 cf, kX4 rl (nI o) b0 s0 w0 u0, kX0 b0 a1 a2 a3 en ev, kI cI a1 3 x1, kI cI a2 3 x2, kI cI a3 3 x3, kI cI s0 3 x4, kI cI w0 64 x5, kI cI u0 64 x6]) := by
  refine CTv.of (by decide) (Nat.le_of_ble_eq_true rfl) rfl ?_
  intro p e s m below meth c A Q ls hd hin hK hsz hP hD hA hS hl hret
  obtain ⟨hx, hb, hml, hown, hts⟩ := id hd
  have hK1 := hK.1
  have hown : s.vm.findClass RX1 = some m.cls := hown
  have hl : lv_has ls 6 [(0, .ref lg), (1, .ref rl), (2, .int p2), (3, .int (nI a)), (4, .int (nI b))] := hl
  refine lv_iconst (v := 0) hx hb dX1_spread_0 (by decide) ?_
  refine lv_istore (lv' := [(5, .int 0), (0, .ref lg), (1, .ref rl), (2, .int p2), (3, .int (nI a)), (4, .int (nI b))]) hx hb dX1_spread_1 hl (by decide) rfl (fun ls hl => ?_)
  refine lv_iload hx hb dX1_spread_3 (lv_at hl 0 rfl) ?_
  refine lv_iconst (v := 3) hx hb dX1_spread_5 (by decide) ?_
  refine lv_icmp_ge (tgt := 36) hx hb dX1_spread_6 (by decide) (fun c_1 => ?_) (fun c_1 => ?_)
  · exact absurd c_1 (by decide)
  refine lv_aload_n hx hb dX1_spread_9 rfl (lv_at hl 2 rfl) ?_
  refine va_get (D := D) (ci := 4) (v := .ref s0) (C := RX4) (T := TX4) (N := 5) hx hb hts iT_X4 hown hK1 hP 6 rfl rfl 2 (by decide) (hts _ t_88) (fun _ h9 => h9) rfl dX1_spread_10 ?_
  refine lv_iload hx hb dX1_spread_13 (lv_at hl 0 rfl) ?_
  refine va_iald hx hb hK1 hP 11 0 rfl rfl (vin (by decide)) dX1_spread_15 ?_
  refine lv_nmi (show _ = x4 0 from rfl) ?_
  refine lv_iload_n hx hb dX1_spread_16 rfl (lv_at hl 4 rfl) ?_
  refine lv_icmp_ne (tgt := 30) hx hb dX1_spread_17 (by decide) (fun c_2 => ?_) (fun c_2 => ?_)
  · skip
    refine lv_iinc (v := 1) (lv' := [(5, .int 1), (0, .ref lg), (1, .ref rl), (2, .int p2), (3, .int (nI a)), (4, .int (nI b))]) hx hb dX1_spread_30 hl (k := 0) rfl (by decide) (by decide) rfl (fun ls hl => ?_)
    refine lv_goto (tgt := 3) hx hb dX1_spread_33 (by decide) ?_
    refine lv_iload hx hb dX1_spread_3 (lv_at hl 0 rfl) ?_
    refine lv_iconst (v := 3) hx hb dX1_spread_5 (by decide) ?_
    refine lv_icmp_ge (tgt := 36) hx hb dX1_spread_6 (by decide) (fun c_3 => ?_) (fun c_3 => ?_)
    · exact absurd c_3 (by decide)
    refine lv_aload_n hx hb dX1_spread_9 rfl (lv_at hl 2 rfl) ?_
    refine va_get (D := D) (ci := 4) (v := .ref s0) (C := RX4) (T := TX4) (N := 5) hx hb hts iT_X4 hown hK1 hP 6 rfl rfl 2 (by decide) (hts _ t_88) (fun _ h9 => h9) rfl dX1_spread_10 ?_
    refine lv_iload hx hb dX1_spread_13 (lv_at hl 0 rfl) ?_
    refine va_iald hx hb hK1 hP 11 0 rfl rfl (vin (by decide)) dX1_spread_15 ?_
    refine lv_nmi (show _ = x4 1 from rfl) ?_
    refine lv_iload_n hx hb dX1_spread_16 rfl (lv_at hl 4 rfl) ?_
    refine lv_icmp_ne (tgt := 30) hx hb dX1_spread_17 (by decide) (fun c_4 => ?_) (fun c_4 => ?_)
    · skip
      refine lv_iinc (v := 2) (lv' := [(5, .int 2), (0, .ref lg), (1, .ref rl), (2, .int p2), (3, .int (nI a)), (4, .int (nI b))]) hx hb dX1_spread_30 hl (k := 0) rfl (by decide) (by decide) rfl (fun ls hl => ?_)
      refine lv_goto (tgt := 3) hx hb dX1_spread_33 (by decide) ?_
      refine lv_iload hx hb dX1_spread_3 (lv_at hl 0 rfl) ?_
      refine lv_iconst (v := 3) hx hb dX1_spread_5 (by decide) ?_
      refine lv_icmp_ge (tgt := 36) hx hb dX1_spread_6 (by decide) (fun c_5 => ?_) (fun c_5 => ?_)
      · exact absurd c_5 (by decide)
      refine lv_aload_n hx hb dX1_spread_9 rfl (lv_at hl 2 rfl) ?_
      refine va_get (D := D) (ci := 4) (v := .ref s0) (C := RX4) (T := TX4) (N := 5) hx hb hts iT_X4 hown hK1 hP 6 rfl rfl 2 (by decide) (hts _ t_88) (fun _ h9 => h9) rfl dX1_spread_10 ?_
      refine lv_iload hx hb dX1_spread_13 (lv_at hl 0 rfl) ?_
      refine va_iald hx hb hK1 hP 11 0 rfl rfl (vin (by decide)) dX1_spread_15 ?_
      refine lv_nmi (show _ = x4 2 from rfl) ?_
      refine lv_iload_n hx hb dX1_spread_16 rfl (lv_at hl 4 rfl) ?_
      refine lv_icmp_ne (tgt := 30) hx hb dX1_spread_17 (by decide) (fun c_6 => ?_) (fun c_6 => ?_)
      · skip
        refine lv_iinc (v := 3) (lv' := [(5, .int 3), (0, .ref lg), (1, .ref rl), (2, .int p2), (3, .int (nI a)), (4, .int (nI b))]) hx hb dX1_spread_30 hl (k := 0) rfl (by decide) (by decide) rfl (fun ls hl => ?_)
        refine lv_goto (tgt := 3) hx hb dX1_spread_33 (by decide) ?_
        refine lv_iload hx hb dX1_spread_3 (lv_at hl 0 rfl) ?_
        refine lv_iconst (v := 3) hx hb dX1_spread_5 (by decide) ?_
        refine lv_icmp_ge (tgt := 36) hx hb dX1_spread_6 (by decide) (fun c_7 => ?_) (fun c_7 => ?_)
        rotate_left
        · exact absurd c_7 (by decide)
        exact hret _ _ _ _ _ _ (ff, gf) dX1_spread_36 hS (Nat.le_of_ble_eq_true rfl) (Nat.le_of_ble_eq_true rfl) trivial (hP.sub [0, 1, 2, 3, 4, 5, 6, 7, 8, 9, 10, 11, 12, 13] rfl) (hD.sub [0, 1, 2, 3, 4, 5, 6, 7, 8, 9, 10, 11, 12, 13] rfl rfl)
      · skip
        refine lv_aload_n hx hb dX1_spread_20 rfl (lv_at hl 1 rfl) ?_
        refine lv_aload_n hx hb dX1_spread_21 rfl (lv_at hl 2 rfl) ?_
        refine lv_iload_n hx hb dX1_spread_22 rfl (lv_at hl 3 rfl) ?_
        refine lv_iload hx hb dX1_spread_23 (lv_at hl 0 rfl) ?_
        refine lv_iload hx hb dX1_spread_25 (lv_at hl 5 rfl) ?_
        refine xc_v (wc := [kX1 lg l1 l2 l3 l4 l5, kJ cJ l1 96 ff, kI cI l2 96 gf, kI cZ l3 96 zf, kI cI l4 96 kf, kI cI l5 6 cf, kX4 rl (nI o) b0 s0 w0 u0, kX0 b0 a1 a2 a3 en ev, kI cI a1 3 x1, kI cI a2 3 x2, kI cI a3 3 x3, kI cI s0 3 x4, kI cI w0 64 x5, kI cI u0 64 x6]) (wr := []) (xrV (n := 4) (As := [.ref rl, .int p2, .int 2, .int (nI b)]) (rest := []) (ci := 1) (q0 := 0) hd hK hP hD (g_combine_2 l D cI cJ cZ cR _ lg l1 l2 l3 l4 l5 rl b0 a1 a2 a3 s0 w0 u0 t0 t1 t2 b ff gf zf kf cf o en ev x1 x2 x3 x4 x5 x6 p2 e0 e1 e2 h0t h1t h2t ho hw4 hu4 hSI hb0) (gV t_483 mV_X1_combine) hV_X1_combine ⟨(Nat.le_of_ble_eq_true rfl), (Nat.le_of_ble_eq_true rfl)⟩ rfl rfl [0, 1, 2, 3, 4, 5, 6, 7, 8, 9, 10, 11, 12, 13] rfl rfl rfl hl.1 rfl (Nat.le_of_ble_eq_true rfl) dX1_spread_27 ⟨(Nat.le_of_ble_eq_true rfl), (Nat.le_of_ble_eq_true rfl)⟩) hP hD hS hA [0, 1, 2, 3, 4, 5, 6, 7, 8, 9, 10, 11, 12, 13] [] rfl rfl rfl (by decide) (fun u_9 H locs hw_10 hP hD hS => ?_)
        obtain ⟨f2_11, g2_12⟩ := u_9
        have hP : va_P D vwCl [kX1 lg l1 l2 l3 l4 l5, kJ cJ l1 96 f2_11, kI cI l2 96 g2_12, kI cZ l3 96 zf, kI cI l4 96 kf, kI cI l5 6 cf, kX4 rl (nI o) b0 s0 w0 u0, kX0 b0 a1 a2 a3 en ev, kI cI a1 3 x1, kI cI a2 3 x2, kI cI a3 3 x3, kI cI s0 3 x4, kI cI w0 64 x5, kI cI u0 64 x6] H := hP
        have hD : va_D A [kX1 lg l1 l2 l3 l4 l5, kJ cJ l1 96 f2_11, kI cI l2 96 g2_12, kI cZ l3 96 zf, kI cI l4 96 kf, kI cI l5 6 cf, kX4 rl (nI o) b0 s0 w0 u0, kX0 b0 a1 a2 a3 en ev, kI cI a1 3 x1, kI cI a2 3 x2, kI cI a3 3 x3, kI cI s0 3 x4, kI cI w0 64 x5, kI cI u0 64 x6] := hD
        refine lv_iinc (v := 3) (lv' := [(5, .int 3), (0, .ref lg), (1, .ref rl), (2, .int p2), (3, .int (nI a)), (4, .int (nI b))]) hx hb dX1_spread_30 hl (k := 0) rfl (by decide) (by decide) rfl (fun ls hl => ?_)
        refine lv_goto (tgt := 3) hx hb dX1_spread_33 (by decide) ?_
        refine lv_iload hx hb dX1_spread_3 (lv_at hl 0 rfl) ?_
        refine lv_iconst (v := 3) hx hb dX1_spread_5 (by decide) ?_
        refine lv_icmp_ge (tgt := 36) hx hb dX1_spread_6 (by decide) (fun c_13 => ?_) (fun c_13 => ?_)
        rotate_left
        · exact absurd c_13 (by decide)
        exact hret _ _ _ _ _ _ (f2_11, g2_12) dX1_spread_36 hS (Nat.le_of_ble_eq_true rfl) (Nat.le_of_ble_eq_true rfl) trivial (hP.sub [0, 1, 2, 3, 4, 5, 6, 7, 8, 9, 10, 11, 12, 13] rfl) (hD.sub [0, 1, 2, 3, 4, 5, 6, 7, 8, 9, 10, 11, 12, 13] rfl rfl)
    · skip
      refine lv_aload_n hx hb dX1_spread_20 rfl (lv_at hl 1 rfl) ?_
      refine lv_aload_n hx hb dX1_spread_21 rfl (lv_at hl 2 rfl) ?_
      refine lv_iload_n hx hb dX1_spread_22 rfl (lv_at hl 3 rfl) ?_
      refine lv_iload hx hb dX1_spread_23 (lv_at hl 0 rfl) ?_
      refine lv_iload hx hb dX1_spread_25 (lv_at hl 5 rfl) ?_
      refine xc_v (wc := [kX1 lg l1 l2 l3 l4 l5, kJ cJ l1 96 ff, kI cI l2 96 gf, kI cZ l3 96 zf, kI cI l4 96 kf, kI cI l5 6 cf, kX4 rl (nI o) b0 s0 w0 u0, kX0 b0 a1 a2 a3 en ev, kI cI a1 3 x1, kI cI a2 3 x2, kI cI a3 3 x3, kI cI s0 3 x4, kI cI w0 64 x5, kI cI u0 64 x6]) (wr := []) (xrV (n := 4) (As := [.ref rl, .int p2, .int 1, .int (nI b)]) (rest := []) (ci := 1) (q0 := 0) hd hK hP hD (g_combine_1 l D cI cJ cZ cR _ lg l1 l2 l3 l4 l5 rl b0 a1 a2 a3 s0 w0 u0 t0 t1 t2 b ff gf zf kf cf o en ev x1 x2 x3 x4 x5 x6 p2 e0 e1 e2 h0t h1t h2t ho hw4 hu4 hSI hb0) (gV t_483 mV_X1_combine) hV_X1_combine ⟨(Nat.le_of_ble_eq_true rfl), (Nat.le_of_ble_eq_true rfl)⟩ rfl rfl [0, 1, 2, 3, 4, 5, 6, 7, 8, 9, 10, 11, 12, 13] rfl rfl rfl hl.1 rfl (Nat.le_of_ble_eq_true rfl) dX1_spread_27 ⟨(Nat.le_of_ble_eq_true rfl), (Nat.le_of_ble_eq_true rfl)⟩) hP hD hS hA [0, 1, 2, 3, 4, 5, 6, 7, 8, 9, 10, 11, 12, 13] [] rfl rfl rfl (by decide) (fun u_15 H locs hw_16 hP hD hS => ?_)
      obtain ⟨f2_17, g2_18⟩ := u_15
      have hP : va_P D vwCl [kX1 lg l1 l2 l3 l4 l5, kJ cJ l1 96 f2_17, kI cI l2 96 g2_18, kI cZ l3 96 zf, kI cI l4 96 kf, kI cI l5 6 cf, kX4 rl (nI o) b0 s0 w0 u0, kX0 b0 a1 a2 a3 en ev, kI cI a1 3 x1, kI cI a2 3 x2, kI cI a3 3 x3, kI cI s0 3 x4, kI cI w0 64 x5, kI cI u0 64 x6] H := hP
      have hD : va_D A [kX1 lg l1 l2 l3 l4 l5, kJ cJ l1 96 f2_17, kI cI l2 96 g2_18, kI cZ l3 96 zf, kI cI l4 96 kf, kI cI l5 6 cf, kX4 rl (nI o) b0 s0 w0 u0, kX0 b0 a1 a2 a3 en ev, kI cI a1 3 x1, kI cI a2 3 x2, kI cI a3 3 x3, kI cI s0 3 x4, kI cI w0 64 x5, kI cI u0 64 x6] := hD
      refine lv_iinc (v := 2) (lv' := [(5, .int 2), (0, .ref lg), (1, .ref rl), (2, .int p2), (3, .int (nI a)), (4, .int (nI b))]) hx hb dX1_spread_30 hl (k := 0) rfl (by decide) (by decide) rfl (fun ls hl => ?_)
      refine lv_goto (tgt := 3) hx hb dX1_spread_33 (by decide) ?_
      refine lv_iload hx hb dX1_spread_3 (lv_at hl 0 rfl) ?_
      refine lv_iconst (v := 3) hx hb dX1_spread_5 (by decide) ?_
      refine lv_icmp_ge (tgt := 36) hx hb dX1_spread_6 (by decide) (fun c_19 => ?_) (fun c_19 => ?_)
      · exact absurd c_19 (by decide)
      refine lv_aload_n hx hb dX1_spread_9 rfl (lv_at hl 2 rfl) ?_
      refine va_get (D := D) (ci := 4) (v := .ref s0) (C := RX4) (T := TX4) (N := 5) hx hb hts iT_X4 hown hK1 hP 6 rfl rfl 2 (by decide) (hts _ t_88) (fun _ h9 => h9) rfl dX1_spread_10 ?_
      refine lv_iload hx hb dX1_spread_13 (lv_at hl 0 rfl) ?_
      refine va_iald hx hb hK1 hP 11 0 rfl rfl (vin (by decide)) dX1_spread_15 ?_
      refine lv_nmi (show _ = x4 2 from rfl) ?_
      refine lv_iload_n hx hb dX1_spread_16 rfl (lv_at hl 4 rfl) ?_
      refine lv_icmp_ne (tgt := 30) hx hb dX1_spread_17 (by decide) (fun c_20 => ?_) (fun c_20 => ?_)
      · skip
        refine lv_iinc (v := 3) (lv' := [(5, .int 3), (0, .ref lg), (1, .ref rl), (2, .int p2), (3, .int (nI a)), (4, .int (nI b))]) hx hb dX1_spread_30 hl (k := 0) rfl (by decide) (by decide) rfl (fun ls hl => ?_)
        refine lv_goto (tgt := 3) hx hb dX1_spread_33 (by decide) ?_
        refine lv_iload hx hb dX1_spread_3 (lv_at hl 0 rfl) ?_
        refine lv_iconst (v := 3) hx hb dX1_spread_5 (by decide) ?_
        refine lv_icmp_ge (tgt := 36) hx hb dX1_spread_6 (by decide) (fun c_21 => ?_) (fun c_21 => ?_)
        rotate_left
        · exact absurd c_21 (by decide)
        exact hret _ _ _ _ _ _ (f2_17, g2_18) dX1_spread_36 hS (Nat.le_of_ble_eq_true rfl) (Nat.le_of_ble_eq_true rfl) trivial (hP.sub [0, 1, 2, 3, 4, 5, 6, 7, 8, 9, 10, 11, 12, 13] rfl) (hD.sub [0, 1, 2, 3, 4, 5, 6, 7, 8, 9, 10, 11, 12, 13] rfl rfl)
      · skip
        refine lv_aload_n hx hb dX1_spread_20 rfl (lv_at hl 1 rfl) ?_
        refine lv_aload_n hx hb dX1_spread_21 rfl (lv_at hl 2 rfl) ?_
        refine lv_iload_n hx hb dX1_spread_22 rfl (lv_at hl 3 rfl) ?_
        refine lv_iload hx hb dX1_spread_23 (lv_at hl 0 rfl) ?_
        refine lv_iload hx hb dX1_spread_25 (lv_at hl 5 rfl) ?_
        refine xc_v (wc := [kX1 lg l1 l2 l3 l4 l5, kJ cJ l1 96 f2_17, kI cI l2 96 g2_18, kI cZ l3 96 zf, kI cI l4 96 kf, kI cI l5 6 cf, kX4 rl (nI o) b0 s0 w0 u0, kX0 b0 a1 a2 a3 en ev, kI cI a1 3 x1, kI cI a2 3 x2, kI cI a3 3 x3, kI cI s0 3 x4, kI cI w0 64 x5, kI cI u0 64 x6]) (wr := []) (xrV (n := 4) (As := [.ref rl, .int p2, .int 2, .int (nI b)]) (rest := []) (ci := 1) (q0 := 0) hd hK hP hD (g_combine_2 l D cI cJ cZ cR _ lg l1 l2 l3 l4 l5 rl b0 a1 a2 a3 s0 w0 u0 t0 t1 t2 b f2_17 g2_18 zf kf cf o en ev x1 x2 x3 x4 x5 x6 p2 e0 e1 e2 h0t h1t h2t ho hw4 hu4 hSI hb0) (gV t_483 mV_X1_combine) hV_X1_combine ⟨(Nat.le_of_ble_eq_true rfl), (Nat.le_of_ble_eq_true rfl)⟩ rfl rfl [0, 1, 2, 3, 4, 5, 6, 7, 8, 9, 10, 11, 12, 13] rfl rfl rfl hl.1 rfl (Nat.le_of_ble_eq_true rfl) dX1_spread_27 ⟨(Nat.le_of_ble_eq_true rfl), (Nat.le_of_ble_eq_true rfl)⟩) hP hD hS hA [0, 1, 2, 3, 4, 5, 6, 7, 8, 9, 10, 11, 12, 13] [] rfl rfl rfl (by decide) (fun u_23 H locs hw_24 hP hD hS => ?_)
        obtain ⟨f2_25, g2_26⟩ := u_23
        have hP : va_P D vwCl [kX1 lg l1 l2 l3 l4 l5, kJ cJ l1 96 f2_25, kI cI l2 96 g2_26, kI cZ l3 96 zf, kI cI l4 96 kf, kI cI l5 6 cf, kX4 rl (nI o) b0 s0 w0 u0, kX0 b0 a1 a2 a3 en ev, kI cI a1 3 x1, kI cI a2 3 x2, kI cI a3 3 x3, kI cI s0 3 x4, kI cI w0 64 x5, kI cI u0 64 x6] H := hP
        have hD : va_D A [kX1 lg l1 l2 l3 l4 l5, kJ cJ l1 96 f2_25, kI cI l2 96 g2_26, kI cZ l3 96 zf, kI cI l4 96 kf, kI cI l5 6 cf, kX4 rl (nI o) b0 s0 w0 u0, kX0 b0 a1 a2 a3 en ev, kI cI a1 3 x1, kI cI a2 3 x2, kI cI a3 3 x3, kI cI s0 3 x4, kI cI w0 64 x5, kI cI u0 64 x6] := hD
        refine lv_iinc (v := 3) (lv' := [(5, .int 3), (0, .ref lg), (1, .ref rl), (2, .int p2), (3, .int (nI a)), (4, .int (nI b))]) hx hb dX1_spread_30 hl (k := 0) rfl (by decide) (by decide) rfl (fun ls hl => ?_)
        refine lv_goto (tgt := 3) hx hb dX1_spread_33 (by decide) ?_
        refine lv_iload hx hb dX1_spread_3 (lv_at hl 0 rfl) ?_
        refine lv_iconst (v := 3) hx hb dX1_spread_5 (by decide) ?_
        refine lv_icmp_ge (tgt := 36) hx hb dX1_spread_6 (by decide) (fun c_27 => ?_) (fun c_27 => ?_)
        rotate_left
        · exact absurd c_27 (by decide)
        exact hret _ _ _ _ _ _ (f2_25, g2_26) dX1_spread_36 hS (Nat.le_of_ble_eq_true rfl) (Nat.le_of_ble_eq_true rfl) trivial (hP.sub [0, 1, 2, 3, 4, 5, 6, 7, 8, 9, 10, 11, 12, 13] rfl) (hD.sub [0, 1, 2, 3, 4, 5, 6, 7, 8, 9, 10, 11, 12, 13] rfl rfl)
  · skip
    refine lv_aload_n hx hb dX1_spread_20 rfl (lv_at hl 1 rfl) ?_
    refine lv_aload_n hx hb dX1_spread_21 rfl (lv_at hl 2 rfl) ?_
    refine lv_iload_n hx hb dX1_spread_22 rfl (lv_at hl 3 rfl) ?_
    refine lv_iload hx hb dX1_spread_23 (lv_at hl 0 rfl) ?_
    refine lv_iload hx hb dX1_spread_25 (lv_at hl 5 rfl) ?_
    refine xc_v (wc := [kX1 lg l1 l2 l3 l4 l5, kJ cJ l1 96 ff, kI cI l2 96 gf, kI cZ l3 96 zf, kI cI l4 96 kf, kI cI l5 6 cf, kX4 rl (nI o) b0 s0 w0 u0, kX0 b0 a1 a2 a3 en ev, kI cI a1 3 x1, kI cI a2 3 x2, kI cI a3 3 x3, kI cI s0 3 x4, kI cI w0 64 x5, kI cI u0 64 x6]) (wr := []) (xrV (n := 4) (As := [.ref rl, .int p2, .int 0, .int (nI b)]) (rest := []) (ci := 1) (q0 := 0) hd hK hP hD (g_combine_0 l D cI cJ cZ cR _ lg l1 l2 l3 l4 l5 rl b0 a1 a2 a3 s0 w0 u0 t0 t1 t2 b ff gf zf kf cf o en ev x1 x2 x3 x4 x5 x6 p2 e0 e1 e2 h0t h1t h2t ho hw4 hu4 hSI hb0) (gV t_483 mV_X1_combine) hV_X1_combine ⟨(Nat.le_of_ble_eq_true rfl), (Nat.le_of_ble_eq_true rfl)⟩ rfl rfl [0, 1, 2, 3, 4, 5, 6, 7, 8, 9, 10, 11, 12, 13] rfl rfl rfl hl.1 rfl (Nat.le_of_ble_eq_true rfl) dX1_spread_27 ⟨(Nat.le_of_ble_eq_true rfl), (Nat.le_of_ble_eq_true rfl)⟩) hP hD hS hA [0, 1, 2, 3, 4, 5, 6, 7, 8, 9, 10, 11, 12, 13] [] rfl rfl rfl (by decide) (fun u_29 H locs hw_30 hP hD hS => ?_)
    obtain ⟨f2_31, g2_32⟩ := u_29
    have hP : va_P D vwCl [kX1 lg l1 l2 l3 l4 l5, kJ cJ l1 96 f2_31, kI cI l2 96 g2_32, kI cZ l3 96 zf, kI cI l4 96 kf, kI cI l5 6 cf, kX4 rl (nI o) b0 s0 w0 u0, kX0 b0 a1 a2 a3 en ev, kI cI a1 3 x1, kI cI a2 3 x2, kI cI a3 3 x3, kI cI s0 3 x4, kI cI w0 64 x5, kI cI u0 64 x6] H := hP
    have hD : va_D A [kX1 lg l1 l2 l3 l4 l5, kJ cJ l1 96 f2_31, kI cI l2 96 g2_32, kI cZ l3 96 zf, kI cI l4 96 kf, kI cI l5 6 cf, kX4 rl (nI o) b0 s0 w0 u0, kX0 b0 a1 a2 a3 en ev, kI cI a1 3 x1, kI cI a2 3 x2, kI cI a3 3 x3, kI cI s0 3 x4, kI cI w0 64 x5, kI cI u0 64 x6] := hD
    refine lv_iinc (v := 1) (lv' := [(5, .int 1), (0, .ref lg), (1, .ref rl), (2, .int p2), (3, .int (nI a)), (4, .int (nI b))]) hx hb dX1_spread_30 hl (k := 0) rfl (by decide) (by decide) rfl (fun ls hl => ?_)
    refine lv_goto (tgt := 3) hx hb dX1_spread_33 (by decide) ?_
    refine lv_iload hx hb dX1_spread_3 (lv_at hl 0 rfl) ?_
    refine lv_iconst (v := 3) hx hb dX1_spread_5 (by decide) ?_
    refine lv_icmp_ge (tgt := 36) hx hb dX1_spread_6 (by decide) (fun c_33 => ?_) (fun c_33 => ?_)
    · exact absurd c_33 (by decide)
    refine lv_aload_n hx hb dX1_spread_9 rfl (lv_at hl 2 rfl) ?_
    refine va_get (D := D) (ci := 4) (v := .ref s0) (C := RX4) (T := TX4) (N := 5) hx hb hts iT_X4 hown hK1 hP 6 rfl rfl 2 (by decide) (hts _ t_88) (fun _ h9 => h9) rfl dX1_spread_10 ?_
    refine lv_iload hx hb dX1_spread_13 (lv_at hl 0 rfl) ?_
    refine va_iald hx hb hK1 hP 11 0 rfl rfl (vin (by decide)) dX1_spread_15 ?_
    refine lv_nmi (show _ = x4 1 from rfl) ?_
    refine lv_iload_n hx hb dX1_spread_16 rfl (lv_at hl 4 rfl) ?_
    refine lv_icmp_ne (tgt := 30) hx hb dX1_spread_17 (by decide) (fun c_34 => ?_) (fun c_34 => ?_)
    · skip
      refine lv_iinc (v := 2) (lv' := [(5, .int 2), (0, .ref lg), (1, .ref rl), (2, .int p2), (3, .int (nI a)), (4, .int (nI b))]) hx hb dX1_spread_30 hl (k := 0) rfl (by decide) (by decide) rfl (fun ls hl => ?_)
      refine lv_goto (tgt := 3) hx hb dX1_spread_33 (by decide) ?_
      refine lv_iload hx hb dX1_spread_3 (lv_at hl 0 rfl) ?_
      refine lv_iconst (v := 3) hx hb dX1_spread_5 (by decide) ?_
      refine lv_icmp_ge (tgt := 36) hx hb dX1_spread_6 (by decide) (fun c_35 => ?_) (fun c_35 => ?_)
      · exact absurd c_35 (by decide)
      refine lv_aload_n hx hb dX1_spread_9 rfl (lv_at hl 2 rfl) ?_
      refine va_get (D := D) (ci := 4) (v := .ref s0) (C := RX4) (T := TX4) (N := 5) hx hb hts iT_X4 hown hK1 hP 6 rfl rfl 2 (by decide) (hts _ t_88) (fun _ h9 => h9) rfl dX1_spread_10 ?_
      refine lv_iload hx hb dX1_spread_13 (lv_at hl 0 rfl) ?_
      refine va_iald hx hb hK1 hP 11 0 rfl rfl (vin (by decide)) dX1_spread_15 ?_
      refine lv_nmi (show _ = x4 2 from rfl) ?_
      refine lv_iload_n hx hb dX1_spread_16 rfl (lv_at hl 4 rfl) ?_
      refine lv_icmp_ne (tgt := 30) hx hb dX1_spread_17 (by decide) (fun c_36 => ?_) (fun c_36 => ?_)
      · skip
        refine lv_iinc (v := 3) (lv' := [(5, .int 3), (0, .ref lg), (1, .ref rl), (2, .int p2), (3, .int (nI a)), (4, .int (nI b))]) hx hb dX1_spread_30 hl (k := 0) rfl (by decide) (by decide) rfl (fun ls hl => ?_)
        refine lv_goto (tgt := 3) hx hb dX1_spread_33 (by decide) ?_
        refine lv_iload hx hb dX1_spread_3 (lv_at hl 0 rfl) ?_
        refine lv_iconst (v := 3) hx hb dX1_spread_5 (by decide) ?_
        refine lv_icmp_ge (tgt := 36) hx hb dX1_spread_6 (by decide) (fun c_37 => ?_) (fun c_37 => ?_)
        rotate_left
        · exact absurd c_37 (by decide)
        exact hret _ _ _ _ _ _ (f2_31, g2_32) dX1_spread_36 hS (Nat.le_of_ble_eq_true rfl) (Nat.le_of_ble_eq_true rfl) trivial (hP.sub [0, 1, 2, 3, 4, 5, 6, 7, 8, 9, 10, 11, 12, 13] rfl) (hD.sub [0, 1, 2, 3, 4, 5, 6, 7, 8, 9, 10, 11, 12, 13] rfl rfl)
      · skip
        refine lv_aload_n hx hb dX1_spread_20 rfl (lv_at hl 1 rfl) ?_
        refine lv_aload_n hx hb dX1_spread_21 rfl (lv_at hl 2 rfl) ?_
        refine lv_iload_n hx hb dX1_spread_22 rfl (lv_at hl 3 rfl) ?_
        refine lv_iload hx hb dX1_spread_23 (lv_at hl 0 rfl) ?_
        refine lv_iload hx hb dX1_spread_25 (lv_at hl 5 rfl) ?_
        refine xc_v (wc := [kX1 lg l1 l2 l3 l4 l5, kJ cJ l1 96 f2_31, kI cI l2 96 g2_32, kI cZ l3 96 zf, kI cI l4 96 kf, kI cI l5 6 cf, kX4 rl (nI o) b0 s0 w0 u0, kX0 b0 a1 a2 a3 en ev, kI cI a1 3 x1, kI cI a2 3 x2, kI cI a3 3 x3, kI cI s0 3 x4, kI cI w0 64 x5, kI cI u0 64 x6]) (wr := []) (xrV (n := 4) (As := [.ref rl, .int p2, .int 2, .int (nI b)]) (rest := []) (ci := 1) (q0 := 0) hd hK hP hD (g_combine_2 l D cI cJ cZ cR _ lg l1 l2 l3 l4 l5 rl b0 a1 a2 a3 s0 w0 u0 t0 t1 t2 b f2_31 g2_32 zf kf cf o en ev x1 x2 x3 x4 x5 x6 p2 e0 e1 e2 h0t h1t h2t ho hw4 hu4 hSI hb0) (gV t_483 mV_X1_combine) hV_X1_combine ⟨(Nat.le_of_ble_eq_true rfl), (Nat.le_of_ble_eq_true rfl)⟩ rfl rfl [0, 1, 2, 3, 4, 5, 6, 7, 8, 9, 10, 11, 12, 13] rfl rfl rfl hl.1 rfl (Nat.le_of_ble_eq_true rfl) dX1_spread_27 ⟨(Nat.le_of_ble_eq_true rfl), (Nat.le_of_ble_eq_true rfl)⟩) hP hD hS hA [0, 1, 2, 3, 4, 5, 6, 7, 8, 9, 10, 11, 12, 13] [] rfl rfl rfl (by decide) (fun u_39 H locs hw_40 hP hD hS => ?_)
        obtain ⟨f2_41, g2_42⟩ := u_39
        have hP : va_P D vwCl [kX1 lg l1 l2 l3 l4 l5, kJ cJ l1 96 f2_41, kI cI l2 96 g2_42, kI cZ l3 96 zf, kI cI l4 96 kf, kI cI l5 6 cf, kX4 rl (nI o) b0 s0 w0 u0, kX0 b0 a1 a2 a3 en ev, kI cI a1 3 x1, kI cI a2 3 x2, kI cI a3 3 x3, kI cI s0 3 x4, kI cI w0 64 x5, kI cI u0 64 x6] H := hP
        have hD : va_D A [kX1 lg l1 l2 l3 l4 l5, kJ cJ l1 96 f2_41, kI cI l2 96 g2_42, kI cZ l3 96 zf, kI cI l4 96 kf, kI cI l5 6 cf, kX4 rl (nI o) b0 s0 w0 u0, kX0 b0 a1 a2 a3 en ev, kI cI a1 3 x1, kI cI a2 3 x2, kI cI a3 3 x3, kI cI s0 3 x4, kI cI w0 64 x5, kI cI u0 64 x6] := hD
        refine lv_iinc (v := 3) (lv' := [(5, .int 3), (0, .ref lg), (1, .ref rl), (2, .int p2), (3, .int (nI a)), (4, .int (nI b))]) hx hb dX1_spread_30 hl (k := 0) rfl (by decide) (by decide) rfl (fun ls hl => ?_)
        refine lv_goto (tgt := 3) hx hb dX1_spread_33 (by decide) ?_
        refine lv_iload hx hb dX1_spread_3 (lv_at hl 0 rfl) ?_
        refine lv_iconst (v := 3) hx hb dX1_spread_5 (by decide) ?_
        refine lv_icmp_ge (tgt := 36) hx hb dX1_spread_6 (by decide) (fun c_43 => ?_) (fun c_43 => ?_)
        rotate_left
        · exact absurd c_43 (by decide)
        exact hret _ _ _ _ _ _ (f2_41, g2_42) dX1_spread_36 hS (Nat.le_of_ble_eq_true rfl) (Nat.le_of_ble_eq_true rfl) trivial (hP.sub [0, 1, 2, 3, 4, 5, 6, 7, 8, 9, 10, 11, 12, 13] rfl) (hD.sub [0, 1, 2, 3, 4, 5, 6, 7, 8, 9, 10, 11, 12, 13] rfl rfl)
    · skip
      refine lv_aload_n hx hb dX1_spread_20 rfl (lv_at hl 1 rfl) ?_
      refine lv_aload_n hx hb dX1_spread_21 rfl (lv_at hl 2 rfl) ?_
      refine lv_iload_n hx hb dX1_spread_22 rfl (lv_at hl 3 rfl) ?_
      refine lv_iload hx hb dX1_spread_23 (lv_at hl 0 rfl) ?_
      refine lv_iload hx hb dX1_spread_25 (lv_at hl 5 rfl) ?_
      refine xc_v (wc := [kX1 lg l1 l2 l3 l4 l5, kJ cJ l1 96 f2_31, kI cI l2 96 g2_32, kI cZ l3 96 zf, kI cI l4 96 kf, kI cI l5 6 cf, kX4 rl (nI o) b0 s0 w0 u0, kX0 b0 a1 a2 a3 en ev, kI cI a1 3 x1, kI cI a2 3 x2, kI cI a3 3 x3, kI cI s0 3 x4, kI cI w0 64 x5, kI cI u0 64 x6]) (wr := []) (xrV (n := 4) (As := [.ref rl, .int p2, .int 1, .int (nI b)]) (rest := []) (ci := 1) (q0 := 0) hd hK hP hD (g_combine_1 l D cI cJ cZ cR _ lg l1 l2 l3 l4 l5 rl b0 a1 a2 a3 s0 w0 u0 t0 t1 t2 b f2_31 g2_32 zf kf cf o en ev x1 x2 x3 x4 x5 x6 p2 e0 e1 e2 h0t h1t h2t ho hw4 hu4 hSI hb0) (gV t_483 mV_X1_combine) hV_X1_combine ⟨(Nat.le_of_ble_eq_true rfl), (Nat.le_of_ble_eq_true rfl)⟩ rfl rfl [0, 1, 2, 3, 4, 5, 6, 7, 8, 9, 10, 11, 12, 13] rfl rfl rfl hl.1 rfl (Nat.le_of_ble_eq_true rfl) dX1_spread_27 ⟨(Nat.le_of_ble_eq_true rfl), (Nat.le_of_ble_eq_true rfl)⟩) hP hD hS hA [0, 1, 2, 3, 4, 5, 6, 7, 8, 9, 10, 11, 12, 13] [] rfl rfl rfl (by decide) (fun u_45 H locs hw_46 hP hD hS => ?_)
      obtain ⟨f2_47, g2_48⟩ := u_45
      have hP : va_P D vwCl [kX1 lg l1 l2 l3 l4 l5, kJ cJ l1 96 f2_47, kI cI l2 96 g2_48, kI cZ l3 96 zf, kI cI l4 96 kf, kI cI l5 6 cf, kX4 rl (nI o) b0 s0 w0 u0, kX0 b0 a1 a2 a3 en ev, kI cI a1 3 x1, kI cI a2 3 x2, kI cI a3 3 x3, kI cI s0 3 x4, kI cI w0 64 x5, kI cI u0 64 x6] H := hP
      have hD : va_D A [kX1 lg l1 l2 l3 l4 l5, kJ cJ l1 96 f2_47, kI cI l2 96 g2_48, kI cZ l3 96 zf, kI cI l4 96 kf, kI cI l5 6 cf, kX4 rl (nI o) b0 s0 w0 u0, kX0 b0 a1 a2 a3 en ev, kI cI a1 3 x1, kI cI a2 3 x2, kI cI a3 3 x3, kI cI s0 3 x4, kI cI w0 64 x5, kI cI u0 64 x6] := hD
      refine lv_iinc (v := 2) (lv' := [(5, .int 2), (0, .ref lg), (1, .ref rl), (2, .int p2), (3, .int (nI a)), (4, .int (nI b))]) hx hb dX1_spread_30 hl (k := 0) rfl (by decide) (by decide) rfl (fun ls hl => ?_)
      refine lv_goto (tgt := 3) hx hb dX1_spread_33 (by decide) ?_
      refine lv_iload hx hb dX1_spread_3 (lv_at hl 0 rfl) ?_
      refine lv_iconst (v := 3) hx hb dX1_spread_5 (by decide) ?_
      refine lv_icmp_ge (tgt := 36) hx hb dX1_spread_6 (by decide) (fun c_49 => ?_) (fun c_49 => ?_)
      · exact absurd c_49 (by decide)
      refine lv_aload_n hx hb dX1_spread_9 rfl (lv_at hl 2 rfl) ?_
      refine va_get (D := D) (ci := 4) (v := .ref s0) (C := RX4) (T := TX4) (N := 5) hx hb hts iT_X4 hown hK1 hP 6 rfl rfl 2 (by decide) (hts _ t_88) (fun _ h9 => h9) rfl dX1_spread_10 ?_
      refine lv_iload hx hb dX1_spread_13 (lv_at hl 0 rfl) ?_
      refine va_iald hx hb hK1 hP 11 0 rfl rfl (vin (by decide)) dX1_spread_15 ?_
      refine lv_nmi (show _ = x4 2 from rfl) ?_
      refine lv_iload_n hx hb dX1_spread_16 rfl (lv_at hl 4 rfl) ?_
      refine lv_icmp_ne (tgt := 30) hx hb dX1_spread_17 (by decide) (fun c_50 => ?_) (fun c_50 => ?_)
      · skip
        refine lv_iinc (v := 3) (lv' := [(5, .int 3), (0, .ref lg), (1, .ref rl), (2, .int p2), (3, .int (nI a)), (4, .int (nI b))]) hx hb dX1_spread_30 hl (k := 0) rfl (by decide) (by decide) rfl (fun ls hl => ?_)
        refine lv_goto (tgt := 3) hx hb dX1_spread_33 (by decide) ?_
        refine lv_iload hx hb dX1_spread_3 (lv_at hl 0 rfl) ?_
        refine lv_iconst (v := 3) hx hb dX1_spread_5 (by decide) ?_
        refine lv_icmp_ge (tgt := 36) hx hb dX1_spread_6 (by decide) (fun c_51 => ?_) (fun c_51 => ?_)
        rotate_left
        · exact absurd c_51 (by decide)
        exact hret _ _ _ _ _ _ (f2_47, g2_48) dX1_spread_36 hS (Nat.le_of_ble_eq_true rfl) (Nat.le_of_ble_eq_true rfl) trivial (hP.sub [0, 1, 2, 3, 4, 5, 6, 7, 8, 9, 10, 11, 12, 13] rfl) (hD.sub [0, 1, 2, 3, 4, 5, 6, 7, 8, 9, 10, 11, 12, 13] rfl rfl)
      · skip
        refine lv_aload_n hx hb dX1_spread_20 rfl (lv_at hl 1 rfl) ?_
        refine lv_aload_n hx hb dX1_spread_21 rfl (lv_at hl 2 rfl) ?_
        refine lv_iload_n hx hb dX1_spread_22 rfl (lv_at hl 3 rfl) ?_
        refine lv_iload hx hb dX1_spread_23 (lv_at hl 0 rfl) ?_
        refine lv_iload hx hb dX1_spread_25 (lv_at hl 5 rfl) ?_
        refine xc_v (wc := [kX1 lg l1 l2 l3 l4 l5, kJ cJ l1 96 f2_47, kI cI l2 96 g2_48, kI cZ l3 96 zf, kI cI l4 96 kf, kI cI l5 6 cf, kX4 rl (nI o) b0 s0 w0 u0, kX0 b0 a1 a2 a3 en ev, kI cI a1 3 x1, kI cI a2 3 x2, kI cI a3 3 x3, kI cI s0 3 x4, kI cI w0 64 x5, kI cI u0 64 x6]) (wr := []) (xrV (n := 4) (As := [.ref rl, .int p2, .int 2, .int (nI b)]) (rest := []) (ci := 1) (q0 := 0) hd hK hP hD (g_combine_2 l D cI cJ cZ cR _ lg l1 l2 l3 l4 l5 rl b0 a1 a2 a3 s0 w0 u0 t0 t1 t2 b f2_47 g2_48 zf kf cf o en ev x1 x2 x3 x4 x5 x6 p2 e0 e1 e2 h0t h1t h2t ho hw4 hu4 hSI hb0) (gV t_483 mV_X1_combine) hV_X1_combine ⟨(Nat.le_of_ble_eq_true rfl), (Nat.le_of_ble_eq_true rfl)⟩ rfl rfl [0, 1, 2, 3, 4, 5, 6, 7, 8, 9, 10, 11, 12, 13] rfl rfl rfl hl.1 rfl (Nat.le_of_ble_eq_true rfl) dX1_spread_27 ⟨(Nat.le_of_ble_eq_true rfl), (Nat.le_of_ble_eq_true rfl)⟩) hP hD hS hA [0, 1, 2, 3, 4, 5, 6, 7, 8, 9, 10, 11, 12, 13] [] rfl rfl rfl (by decide) (fun u_53 H locs hw_54 hP hD hS => ?_)
        obtain ⟨f2_55, g2_56⟩ := u_53
        have hP : va_P D vwCl [kX1 lg l1 l2 l3 l4 l5, kJ cJ l1 96 f2_55, kI cI l2 96 g2_56, kI cZ l3 96 zf, kI cI l4 96 kf, kI cI l5 6 cf, kX4 rl (nI o) b0 s0 w0 u0, kX0 b0 a1 a2 a3 en ev, kI cI a1 3 x1, kI cI a2 3 x2, kI cI a3 3 x3, kI cI s0 3 x4, kI cI w0 64 x5, kI cI u0 64 x6] H := hP
        have hD : va_D A [kX1 lg l1 l2 l3 l4 l5, kJ cJ l1 96 f2_55, kI cI l2 96 g2_56, kI cZ l3 96 zf, kI cI l4 96 kf, kI cI l5 6 cf, kX4 rl (nI o) b0 s0 w0 u0, kX0 b0 a1 a2 a3 en ev, kI cI a1 3 x1, kI cI a2 3 x2, kI cI a3 3 x3, kI cI s0 3 x4, kI cI w0 64 x5, kI cI u0 64 x6] := hD
        refine lv_iinc (v := 3) (lv' := [(5, .int 3), (0, .ref lg), (1, .ref rl), (2, .int p2), (3, .int (nI a)), (4, .int (nI b))]) hx hb dX1_spread_30 hl (k := 0) rfl (by decide) (by decide) rfl (fun ls hl => ?_)
        refine lv_goto (tgt := 3) hx hb dX1_spread_33 (by decide) ?_
        refine lv_iload hx hb dX1_spread_3 (lv_at hl 0 rfl) ?_
        refine lv_iconst (v := 3) hx hb dX1_spread_5 (by decide) ?_
        refine lv_icmp_ge (tgt := 36) hx hb dX1_spread_6 (by decide) (fun c_57 => ?_) (fun c_57 => ?_)
        rotate_left
        · exact absurd c_57 (by decide)
        exact hret _ _ _ _ _ _ (f2_55, g2_56) dX1_spread_36 hS (Nat.le_of_ble_eq_true rfl) (Nat.le_of_ble_eq_true rfl) trivial (hP.sub [0, 1, 2, 3, 4, 5, 6, 7, 8, 9, 10, 11, 12, 13] rfl) (hD.sub [0, 1, 2, 3, 4, 5, 6, 7, 8, 9, 10, 11, 12, 13] rfl rfl)
set_option maxHeartbeats 4000000 in
set_option maxRecDepth 100000 in
theorem c_X1_find (sz : Nat) (lg : Nat) (l1 : Nat) (l2 : Nat) (l3 : Nat) (l4 : Nat) (l5 : Nat) (bk : Nat) (br : Nat) (r9 : Nat) (ff : Nat → Int64) (gf : Nat → Int32) (zf : Nat → Int32) (kf : Nat → Int32) (cf : Nat → Int32) (rho : Nat → RT) (hr : r9 ≤ 9) (hB : BI rho r9) : CTv l D cI cJ cZ cR yX1_find cX1_find 5 none 3 83 0 0 sz [.ref lg, .ref bk] ([kX1 lg l1 l2 l3 l4 l5, kJ cJ l1 96 ff, kI cI l2 96 gf, kI cZ l3 96 zf, kI cI l4 96 kf, kI cI l5 6 cf, kX5 bk br (nI r9), kQ cR br 9 (fun k => some ((rho k).1.1))] ++ RB cI rho) (fun (u : (Nat → Int64) × (Nat → Int32) × (Nat → Int32) × (Nat → Int32) × (Nat → Int32)) => True) (fun (u : (Nat → Int64) × (Nat → Int32) × (Nat → Int32) × (Nat → Int32) × (Nat → Int32)) => ([kX1 lg l1 l2 l3 l4 l5, kJ cJ l1 96 u.1, kI cI l2 96 u.2.1, kI cZ l3 96 u.2.2.1, kI cI l4 96 u.2.2.2.1, kI cI l5 6 u.2.2.2.2, kX5 bk br (nI r9), kQ cR br 9 (fun k => some ((rho k).1.1))] ++ RB cI rho)) := by
  refine CTv.of (by decide) (Nat.le_of_ble_eq_true rfl) rfl ?_
  intro p e s m below meth c A Q ls hd hin hK hsz hP hD hA hS hl hret
  obtain ⟨hx, hb, hml, hown, hts⟩ := id hd
  have hK1 := hK.1
  have hown : s.vm.findClass RX1 = some m.cls := hown
  have hl : lv_has ls 5 [(0, .ref lg), (1, .ref bk)] := hl
  refine lv_aload_n hx hb dX1_find_0 rfl (lv_at hl 0 rfl) ?_
  have hPD : PD D A ([kX1 lg l1 l2 l3 l4 l5, kJ cJ l1 96 ff, kI cI l2 96 gf, kI cZ l3 96 zf, kI cI l4 96 kf, kI cI l5 6 cf] ++ ([kX5 bk br (nI r9), kQ cR br 9 (fun k => some ((rho k).1.1))] ++ RB cI rho)) s.heap := PD.perm ⟨hP, hD⟩ (permA pm_13)
  refine xp_v (wc := [kX1 lg l1 l2 l3 l4 l5, kJ cJ l1 96 ff, kI cI l2 96 gf, kI cZ l3 96 zf, kI cI l4 96 kf, kI cI l5 6 cf]) (wr := ([kX5 bk br (nI r9), kQ cR br 9 (fun k => some ((rho k).1.1))] ++ RB cI rho)) (xqV (n := 0) (As := []) (rest := []) (ci := 1) (q0 := 0) hd hK hPD.left (c_X1_forget l D cI cJ cZ cR _ lg l1 l2 l3 l4 l5 ff gf zf kf cf ) (gV t_458 mV_X1_forget) hV_X1_forget ⟨(Nat.le_of_ble_eq_true rfl), (Nat.le_of_ble_eq_true rfl)⟩ rfl rfl rfl hl.1 rfl (Nat.le_of_ble_eq_true rfl) dX1_find_1 ⟨(Nat.le_of_ble_eq_true rfl), (Nat.le_of_ble_eq_true rfl)⟩) hPD hS hA (fun u_2 H locs hw_3 hPD hS => ?_)
  obtain ⟨hP, hD⟩ := hPD.perm permA'
  have hP : va_P D vwCl ([kX5 bk br (nI r9), kQ cR br 9 (fun k => some ((rho k).1.1)), kX1 lg l1 l2 l3 l4 l5, kJ cJ l1 96 (fun _ => 2305843009213693952), kI cI l2 96 (fun _ => (-1)), kI cZ l3 96 (fun _ => 0), kI cI l4 96 kf, kI cI l5 6 (fun _ => 0)] ++ RB cI rho) H := hP
  have hD : va_D A ([kX5 bk br (nI r9), kQ cR br 9 (fun k => some ((rho k).1.1)), kX1 lg l1 l2 l3 l4 l5, kJ cJ l1 96 (fun _ => 2305843009213693952), kI cI l2 96 (fun _ => (-1)), kI cZ l3 96 (fun _ => 0), kI cI l4 96 kf, kI cI l5 6 (fun _ => 0)] ++ RB cI rho) := hD
  refine lv_aload_n hx hb dX1_find_4 rfl (lv_at hl 0 rfl) ?_
  refine lv_iconst (v := 3) hx hb dX1_find_5 (by decide) ?_
  refine lv_bipush (v := 9) hx hb dX1_find_6 (by decide) ?_
  refine lv_lconst (v := 0) hx hb dX1_find_8 (by decide) ?_
  refine lv_iconst (v := -1) hx hb dX1_find_9 (by decide) ?_
  have hPD : PD D A ([kX1 lg l1 l2 l3 l4 l5, kJ cJ l1 96 (fun _ => 2305843009213693952), kI cI l2 96 (fun _ => (-1)), kI cZ l3 96 (fun _ => 0), kI cI l4 96 kf, kI cI l5 6 (fun _ => 0)] ++ ([kX5 bk br (nI r9), kQ cR br 9 (fun k => some ((rho k).1.1))] ++ RB cI rho)) H := PD.perm ⟨hP, hD⟩ (permA pm_14)
  refine xp_v (wc := [kX1 lg l1 l2 l3 l4 l5, kJ cJ l1 96 (fun _ => 2305843009213693952), kI cI l2 96 (fun _ => (-1)), kI cZ l3 96 (fun _ => 0), kI cI l4 96 kf, kI cI l5 6 (fun _ => 0)]) (wr := ([kX5 bk br (nI r9), kQ cR br 9 (fun k => some ((rho k).1.1))] ++ RB cI rho)) (xqV (n := 4) (As := [.int 3, .int 9, .long 0, .int (-1)]) (rest := []) (ci := 1) (q0 := 0) hd hK hPD.left (c_X1_offer l D cI cJ cZ cR _ lg l1 l2 l3 l4 l5 3 9 (fun _ => 2305843009213693952) (fun _ => (-1)) (fun _ => 0) kf (fun _ => 0) 0 (-1) (by decide) (by decide)) (gV t_467 mV_X1_offer) hV_X1_offer ⟨(Nat.le_of_ble_eq_true rfl), (Nat.le_of_ble_eq_true rfl)⟩ rfl rfl rfl hl.1 rfl (Nat.le_of_ble_eq_true rfl) dX1_find_10 ⟨(Nat.le_of_ble_eq_true rfl), (Nat.le_of_ble_eq_true rfl)⟩) hPD hS hA (fun u_5 H locs hw_6 hPD hS => ?_)
  obtain ⟨f2_7, g2_8⟩ := u_5
  obtain ⟨hP, hD⟩ := hPD.perm permA'
  have hP : va_P D vwCl ([kX5 bk br (nI r9), kQ cR br 9 (fun k => some ((rho k).1.1)), kX1 lg l1 l2 l3 l4 l5, kJ cJ l1 96 f2_7, kI cI l2 96 g2_8, kI cZ l3 96 (fun _ => 0), kI cI l4 96 kf, kI cI l5 6 (fun _ => 0)] ++ RB cI rho) H := hP
  have hD : va_D A ([kX5 bk br (nI r9), kQ cR br 9 (fun k => some ((rho k).1.1)), kX1 lg l1 l2 l3 l4 l5, kJ cJ l1 96 f2_7, kI cI l2 96 g2_8, kI cZ l3 96 (fun _ => 0), kI cI l4 96 kf, kI cI l5 6 (fun _ => 0)] ++ RB cI rho) := hD
  refine lv_aload_n hx hb dX1_find_13 rfl (lv_at hl 0 rfl) ?_
  refine lv_iconst (v := 4) hx hb dX1_find_14 (by decide) ?_
  refine lv_bipush (v := 15) hx hb dX1_find_15 (by decide) ?_
  refine lv_lconst (v := 0) hx hb dX1_find_17 (by decide) ?_
  refine lv_iconst (v := -1) hx hb dX1_find_18 (by decide) ?_
  have hPD : PD D A ([kX1 lg l1 l2 l3 l4 l5, kJ cJ l1 96 f2_7, kI cI l2 96 g2_8, kI cZ l3 96 (fun _ => 0), kI cI l4 96 kf, kI cI l5 6 (fun _ => 0)] ++ ([kX5 bk br (nI r9), kQ cR br 9 (fun k => some ((rho k).1.1))] ++ RB cI rho)) H := PD.perm ⟨hP, hD⟩ (permA pm_14)
  refine xp_v (wc := [kX1 lg l1 l2 l3 l4 l5, kJ cJ l1 96 f2_7, kI cI l2 96 g2_8, kI cZ l3 96 (fun _ => 0), kI cI l4 96 kf, kI cI l5 6 (fun _ => 0)]) (wr := ([kX5 bk br (nI r9), kQ cR br 9 (fun k => some ((rho k).1.1))] ++ RB cI rho)) (xqV (n := 4) (As := [.int 4, .int 15, .long 0, .int (-1)]) (rest := []) (ci := 1) (q0 := 0) hd hK hPD.left (c_X1_offer l D cI cJ cZ cR _ lg l1 l2 l3 l4 l5 4 15 f2_7 g2_8 (fun _ => 0) kf (fun _ => 0) 0 (-1) (by decide) (by decide)) (gV t_467 mV_X1_offer) hV_X1_offer ⟨(Nat.le_of_ble_eq_true rfl), (Nat.le_of_ble_eq_true rfl)⟩ rfl rfl rfl hl.1 rfl (Nat.le_of_ble_eq_true rfl) dX1_find_19 ⟨(Nat.le_of_ble_eq_true rfl), (Nat.le_of_ble_eq_true rfl)⟩) hPD hS hA (fun u_10 H locs hw_11 hPD hS => ?_)
  obtain ⟨f2_12, g2_13⟩ := u_10
  obtain ⟨hP, hD⟩ := hPD.perm permA'
  have hP : va_P D vwCl ([kX5 bk br (nI r9), kQ cR br 9 (fun k => some ((rho k).1.1)), kX1 lg l1 l2 l3 l4 l5, kJ cJ l1 96 f2_12, kI cI l2 96 g2_13, kI cZ l3 96 (fun _ => 0), kI cI l4 96 kf, kI cI l5 6 (fun _ => 0)] ++ RB cI rho) H := hP
  have hD : va_D A ([kX5 bk br (nI r9), kQ cR br 9 (fun k => some ((rho k).1.1)), kX1 lg l1 l2 l3 l4 l5, kJ cJ l1 96 f2_12, kI cI l2 96 g2_13, kI cZ l3 96 (fun _ => 0), kI cI l4 96 kf, kI cI l5 6 (fun _ => 0)] ++ RB cI rho) := hD
  refine lv_aload_n hx hb dX1_find_22 rfl (lv_at hl 0 rfl) ?_
  refine lv_iconst (v := 5) hx hb dX1_find_23 (by decide) ?_
  refine lv_bipush (v := 12) hx hb dX1_find_24 (by decide) ?_
  refine lv_lconst (v := 0) hx hb dX1_find_26 (by decide) ?_
  refine lv_iconst (v := -1) hx hb dX1_find_27 (by decide) ?_
  have hPD : PD D A ([kX1 lg l1 l2 l3 l4 l5, kJ cJ l1 96 f2_12, kI cI l2 96 g2_13, kI cZ l3 96 (fun _ => 0), kI cI l4 96 kf, kI cI l5 6 (fun _ => 0)] ++ ([kX5 bk br (nI r9), kQ cR br 9 (fun k => some ((rho k).1.1))] ++ RB cI rho)) H := PD.perm ⟨hP, hD⟩ (permA pm_14)
  refine xp_v (wc := [kX1 lg l1 l2 l3 l4 l5, kJ cJ l1 96 f2_12, kI cI l2 96 g2_13, kI cZ l3 96 (fun _ => 0), kI cI l4 96 kf, kI cI l5 6 (fun _ => 0)]) (wr := ([kX5 bk br (nI r9), kQ cR br 9 (fun k => some ((rho k).1.1))] ++ RB cI rho)) (xqV (n := 4) (As := [.int 5, .int 12, .long 0, .int (-1)]) (rest := []) (ci := 1) (q0 := 0) hd hK hPD.left (c_X1_offer l D cI cJ cZ cR _ lg l1 l2 l3 l4 l5 5 12 f2_12 g2_13 (fun _ => 0) kf (fun _ => 0) 0 (-1) (by decide) (by decide)) (gV t_467 mV_X1_offer) hV_X1_offer ⟨(Nat.le_of_ble_eq_true rfl), (Nat.le_of_ble_eq_true rfl)⟩ rfl rfl rfl hl.1 rfl (Nat.le_of_ble_eq_true rfl) dX1_find_28 ⟨(Nat.le_of_ble_eq_true rfl), (Nat.le_of_ble_eq_true rfl)⟩) hPD hS hA (fun u_15 H locs hw_16 hPD hS => ?_)
  obtain ⟨f2_17, g2_18⟩ := u_15
  obtain ⟨hP, hD⟩ := hPD.perm permA'
  have hP : va_P D vwCl ([kX5 bk br (nI r9), kQ cR br 9 (fun k => some ((rho k).1.1)), kX1 lg l1 l2 l3 l4 l5, kJ cJ l1 96 f2_17, kI cI l2 96 g2_18, kI cZ l3 96 (fun _ => 0), kI cI l4 96 kf, kI cI l5 6 (fun _ => 0)] ++ RB cI rho) H := hP
  have hD : va_D A ([kX5 bk br (nI r9), kQ cR br 9 (fun k => some ((rho k).1.1)), kX1 lg l1 l2 l3 l4 l5, kJ cJ l1 96 f2_17, kI cI l2 96 g2_18, kI cZ l3 96 (fun _ => 0), kI cI l4 96 kf, kI cI l5 6 (fun _ => 0)] ++ RB cI rho) := hD
  refine lv_iconst (v := 0) hx hb dX1_find_31 (by decide) ?_
  refine lv_istore_n (lv' := [(2, .int 0), (0, .ref lg), (1, .ref bk)]) hx hb dX1_find_32 rfl hl (by decide) rfl (fun ls hl => ?_)
  have LOOP_33 : ∀ (n : Nat) (i : Nat) (fa : Nat → Int64) (ga : Nat → Int32) (za : Nat → Int32) (ka : Nat → Int32) (ca : Nat → Int32), (i + n = 96) → (SI za ka ca) → ∀ (H : Heap) (locs : List Loc) (ls : Array Slot), va_P D vwCl ([kX1 lg l1 l2 l3 l4 l5, kJ cJ l1 96 fa, kI cI l2 96 ga, kI cZ l3 96 za, kI cI l4 96 ka, kI cI l5 6 ca, kX5 bk br (nI r9), kQ cR br 9 (fun k => some ((rho k).1.1))] ++ RB cI rho) H → va_D A ([kX1 lg l1 l2 l3 l4 l5, kJ cJ l1 96 fa, kI cI l2 96 ga, kI cZ l3 96 za, kI cI l4 96 ka, kI cI l5 6 ca, kX5 bk br (nI r9), kQ cR br 9 (fun k => some ((rho k).1.1))] ++ RB cI rho) → va_S A s.heap H locs → lv_has ls 5 [(0, .ref lg), (1, .ref bk), (2, .int (nI i))] → W p l e (rM 3 0 0 83) s m ([.ref lg, .ref bk] : List Value).toArray below meth c H locs 0 0 Q (F0 m 33 ls []) := by
    intro n
    induction n with
    | zero =>
      intro i fa ga za ka ca hi hSI H locs ls hP hD hS hl
      refine lv_iload_n hx hb dX1_find_33 rfl (lv_at hl 2 rfl) ?_
      refine lv_bipush (v := 96) hx hb dX1_find_34 (by decide) ?_
      refine lv_icmp_ge (tgt := 107) hx hb dX1_find_36 (by decide) (fun c_19 => ?_) (fun c_19 => ?_)
      rotate_left
      · exact absurd (nI_le (a := 96) (b := i) (by omega) (by omega)) c_19
      have hPD : PD D A ([kX1 lg l1 l2 l3 l4 l5, kJ cJ l1 96 fa, kI cI l2 96 ga, kI cZ l3 96 za, kI cI l4 96 ka, kI cI l5 6 ca, kX5 bk br (nI r9), kQ cR br 9 (fun k => some ((rho k).1.1))] ++ RB cI rho) H := (PD.perm ⟨hP, hD⟩ (permB pm_15)).left
      exact hret _ _ _ _ _ _ (fa, ga, za, ka, ca) dX1_find_107 hS (Nat.le_of_ble_eq_true rfl) (Nat.le_of_ble_eq_true rfl) trivial hPD.1 hPD.2
    | succ n ih_33 =>
      intro i fa ga za ka ca hi hSI H locs ls hP hD hS hl
      refine lv_iload_n hx hb dX1_find_33 rfl (lv_at hl 2 rfl) ?_
      refine lv_bipush (v := 96) hx hb dX1_find_34 (by decide) ?_
      refine lv_icmp_ge (tgt := 107) hx hb dX1_find_36 (by decide) (fun c_20 => ?_) (fun c_20 => ?_)
      · exact absurd c_20 (nI_ge (a := i) (b := 96) (by omega) (by omega))
      refine lv_aload_n hx hb dX1_find_39 rfl (lv_at hl 0 rfl) ?_
      have hPD : PD D A ([kX1 lg l1 l2 l3 l4 l5, kJ cJ l1 96 fa, kI cI l2 96 ga, kI cZ l3 96 za, kI cI l4 96 ka, kI cI l5 6 ca] ++ ([kX5 bk br (nI r9), kQ cR br 9 (fun k => some ((rho k).1.1))] ++ RB cI rho)) H := PD.perm ⟨hP, hD⟩ (permA pm_13)
      refine xp_i (wc := [kX1 lg l1 l2 l3 l4 l5, kJ cJ l1 96 fa, kI cI l2 96 ga, kI cZ l3 96 za, kI cI l4 96 ka, kI cI l5 6 ca]) (wr := ([kX5 bk br (nI r9), kQ cR br 9 (fun k => some ((rho k).1.1))] ++ RB cI rho)) (xqV (n := 0) (As := []) (rest := []) (ci := 1) (q0 := 0) hd hK hPD.left (c_X1_nearest l D cI cJ cZ cR _ lg l1 l2 l3 l4 l5 fa ga za ka ca ) (gV t_471 mV_X1_nearest) hV_X1_nearest ⟨(Nat.le_of_ble_eq_true rfl), (Nat.le_of_ble_eq_true rfl)⟩ rfl rfl rfl hl.1 rfl (Nat.le_of_ble_eq_true rfl) dX1_find_40 ⟨(Nat.le_of_ble_eq_true rfl), (Nat.le_of_ble_eq_true rfl)⟩) hPD hS hA (fun r_21 u_22 H locs hw_23 hPD hS => ?_)
      have hw_24 : NR za r_21 := hw_23
      have hNR := hw_24
      obtain ⟨hP, hD⟩ := hPD.perm permA'
      have hP : va_P D vwCl ([kX5 bk br (nI r9), kQ cR br 9 (fun k => some ((rho k).1.1)), kX1 lg l1 l2 l3 l4 l5, kJ cJ l1 96 fa, kI cI l2 96 ga, kI cZ l3 96 za, kI cI l4 96 ka, kI cI l5 6 ca] ++ RB cI rho) H := hP
      have hD : va_D A ([kX5 bk br (nI r9), kQ cR br 9 (fun k => some ((rho k).1.1)), kX1 lg l1 l2 l3 l4 l5, kJ cJ l1 96 fa, kI cI l2 96 ga, kI cZ l3 96 za, kI cI l4 96 ka, kI cI l5 6 ca] ++ RB cI rho) := hD
      refine lv_istore_n (lv' := [(3, .int r_21), (0, .ref lg), (1, .ref bk), (2, .int (nI i))]) hx hb dX1_find_43 rfl hl (by decide) rfl (fun ls hl => ?_)
      refine lv_iload_n hx hb dX1_find_44 rfl (lv_at hl 0 rfl) ?_
      refine lv_iconst (v := -1) hx hb dX1_find_45 (by decide) ?_
      refine lv_icmp_ne (tgt := 50) hx hb dX1_find_46 (by decide) (fun c_25 => ?_) (fun c_25 => ?_)
      · skip
        obtain ⟨st9, hst9, est9, hz9⟩ := NR.of hNR c_25
        refine lv_aload_n hx hb dX1_find_50 rfl (lv_at hl 1 rfl) ?_
        refine lv_iload_n hx hb dX1_find_51 rfl (lv_at hl 0 rfl) ?_
        refine lv_nmi (show _ = (nI st9 : Int32) from est9) ?_
        refine lv_bipush (v := 16) hx hb dX1_find_52 (by decide) ?_
        refine lv_idiv hx hb dX1_find_54 (by decide) ?_
        refine lv_nmi (show _ = (nI (st9 / 16) : Int32) from pk_div (d := 16) (by omega) (by decide) (by decide)) ?_
        refine lv_iload_n hx hb dX1_find_55 rfl (lv_at hl 0 rfl) ?_
        refine lv_nmi (show _ = (nI st9 : Int32) from est9) ?_
        refine lv_bipush (v := 16) hx hb dX1_find_56 (by decide) ?_
        refine lv_irem hx hb dX1_find_58 (by decide) ?_
        refine lv_nmi (show _ = (nI (st9 % 16) : Int32) from pk_rem (d := 16) (by omega) (by decide) (by decide)) ?_
        have hPD : PD D A ([kX1 lg l1 l2 l3 l4 l5, kJ cJ l1 96 fa, kI cI l2 96 ga, kI cZ l3 96 za, kI cI l4 96 ka, kI cI l5 6 ca] ++ ([kX5 bk br (nI r9), kQ cR br 9 (fun k => some ((rho k).1.1))] ++ RB cI rho)) H := PD.perm ⟨hP, hD⟩ (permA pm_14)
        refine xp_v (wc := [kX1 lg l1 l2 l3 l4 l5, kJ cJ l1 96 fa, kI cI l2 96 ga, kI cZ l3 96 za, kI cI l4 96 ka, kI cI l5 6 ca]) (wr := ([kX5 bk br (nI r9), kQ cR br 9 (fun k => some ((rho k).1.1))] ++ RB cI rho)) (xqV (n := 2) (As := [.int (nI (st9 / 16)), .int (nI (st9 % 16))]) (rest := []) (ci := 1) (q0 := 0) hd hK hPD.left (c_X1_settle l D cI cJ cZ cR _ lg l1 l2 l3 l4 l5 (st9 / 16) (st9 % 16) fa ga za ka ca (by omega) (by omega) (hSI.1 _ (by omega)) (cz_lt (by rw [show st9 / 16 * 16 + st9 % 16 = st9 by omega]; exact hz9) 16 (by omega))) (gV t_475 mV_X1_settle) hV_X1_settle ⟨(Nat.le_of_ble_eq_true rfl), (Nat.le_of_ble_eq_true rfl)⟩ rfl rfl rfl hl.1 rfl (Nat.le_of_ble_eq_true rfl) dX1_find_59 ⟨(Nat.le_of_ble_eq_true rfl), (Nat.le_of_ble_eq_true rfl)⟩) hPD hS hA (fun u_27 H locs hw_28 hPD hS => ?_)
        obtain ⟨hP, hD⟩ := hPD.perm permA'
        have hP : va_P D vwCl ([kX5 bk br (nI r9), kQ cR br 9 (fun k => some ((rho k).1.1)), kX1 lg l1 l2 l3 l4 l5, kJ cJ l1 96 fa, kI cI l2 96 ga, kI cZ l3 96 (upd za ((st9 / 16) * 16 + (st9 % 16)) 1), kI cI l4 96 (upd ka ((st9 / 16) * 16 + cz za ((st9 / 16) * 16) 16) (nI (st9 % 16))), kI cI l5 6 (upd ca (st9 / 16) (nI (cz za ((st9 / 16) * 16) 16 + 1)))] ++ RB cI rho) H := hP
        have hD : va_D A ([kX5 bk br (nI r9), kQ cR br 9 (fun k => some ((rho k).1.1)), kX1 lg l1 l2 l3 l4 l5, kJ cJ l1 96 fa, kI cI l2 96 ga, kI cZ l3 96 (upd za ((st9 / 16) * 16 + (st9 % 16)) 1), kI cI l4 96 (upd ka ((st9 / 16) * 16 + cz za ((st9 / 16) * 16) 16) (nI (st9 % 16))), kI cI l5 6 (upd ca (st9 / 16) (nI (cz za ((st9 / 16) * 16) 16 + 1)))] ++ RB cI rho) := hD
        refine lv_iconst (v := 0) hx hb dX1_find_62 (by decide) ?_
        refine lv_istore (lv' := [(4, .int 0), (3, .int r_21), (0, .ref lg), (1, .ref bk), (2, .int (nI i))]) hx hb dX1_find_63 hl (by decide) rfl (fun ls hl => ?_)
        have LOOP_65 : ∀ (n : Nat) (q9 : Nat) (fb : Nat → Int64) (gb : Nat → Int32), (q9 + n = r9) → ∀ (H : Heap) (locs : List Loc) (ls : Array Slot), va_P D vwCl ([kX5 bk br (nI r9), kQ cR br 9 (fun k => some ((rho k).1.1)), kX1 lg l1 l2 l3 l4 l5, kJ cJ l1 96 fb, kI cI l2 96 gb, kI cZ l3 96 (upd za ((st9 / 16) * 16 + (st9 % 16)) 1), kI cI l4 96 (upd ka ((st9 / 16) * 16 + cz za ((st9 / 16) * 16) 16) (nI (st9 % 16))), kI cI l5 6 (upd ca (st9 / 16) (nI (cz za ((st9 / 16) * 16) 16 + 1)))] ++ RB cI rho) H → va_D A ([kX5 bk br (nI r9), kQ cR br 9 (fun k => some ((rho k).1.1)), kX1 lg l1 l2 l3 l4 l5, kJ cJ l1 96 fb, kI cI l2 96 gb, kI cZ l3 96 (upd za ((st9 / 16) * 16 + (st9 % 16)) 1), kI cI l4 96 (upd ka ((st9 / 16) * 16 + cz za ((st9 / 16) * 16) 16) (nI (st9 % 16))), kI cI l5 6 (upd ca (st9 / 16) (nI (cz za ((st9 / 16) * 16) 16 + 1)))] ++ RB cI rho) → va_S A s.heap H locs → lv_has ls 5 [(0, .ref lg), (1, .ref bk), (2, .int (nI i)), (3, .int r_21), (4, .int (nI q9))] → W p l e (rM 3 0 0 83) s m ([.ref lg, .ref bk] : List Value).toArray below meth c H locs 0 0 Q (F0 m 65 ls []) := by
          intro n
          induction n with
          | zero =>
            intro q9 fb gb hq H locs ls hP hD hS hl
            refine lv_iload hx hb dX1_find_65 (lv_at hl 4 rfl) ?_
            refine lv_aload_n hx hb dX1_find_67 rfl (lv_at hl 1 rfl) ?_
            refine va_get (D := D) (ci := 5) (v := .int (nI r9)) (C := RX5) (T := TX5) (N := 2) hx hb hts iT_X5 hown hK1 hP 0 rfl rfl 1 (by decide) (hts _ t_108) (fun _ h9 => h9) rfl dX1_find_68 ?_
            refine lv_icmp_ge (tgt := 101) hx hb dX1_find_71 (by decide) (fun c_29 => ?_) (fun c_29 => ?_)
            rotate_left
            · exact absurd (nI_le (a := r9) (b := q9) (by omega) (by omega)) c_29
            refine lv_iinc (v := nI (i + 1)) (lv' := [(2, .int (nI (i + 1))), (0, .ref lg), (1, .ref bk), (3, .int r_21), (4, .int (nI q9))]) hx hb dX1_find_101 hl (k := 2) rfl (nI_1 i) (by decide) rfl (fun ls hl => ?_)
            refine lv_goto (tgt := 33) hx hb dX1_find_104 (by decide) ?_
            have hPD : PD D A ([kX1 lg l1 l2 l3 l4 l5, kJ cJ l1 96 fb, kI cI l2 96 gb, kI cZ l3 96 (upd za ((st9 / 16) * 16 + (st9 % 16)) 1), kI cI l4 96 (upd ka ((st9 / 16) * 16 + cz za ((st9 / 16) * 16) 16) (nI (st9 % 16))), kI cI l5 6 (upd ca (st9 / 16) (nI (cz za ((st9 / 16) * 16) 16 + 1))), kX5 bk br (nI r9), kQ cR br 9 (fun k => some ((rho k).1.1))] ++ RB cI rho) H := (PD.perm ⟨hP, hD⟩ (permB pm_16)).left
            exact ih_33 (i + 1) fb gb (upd za ((st9 / 16) * 16 + (st9 % 16)) 1) (upd ka ((st9 / 16) * 16 + cz za ((st9 / 16) * 16) 16) (nI (st9 % 16))) (upd ca (st9 / 16) (nI (cz za ((st9 / 16) * 16) 16 + 1))) (by omega) (SI_s hSI (by omega) (by omega) (by rw [show st9 / 16 * 16 + st9 % 16 = st9 by omega]; exact hz9)) _ _ _ hPD.1 hPD.2 hS (lv_sub hl [1, 2, 0] rfl)
          | succ n ih_65 =>
            intro q9 fb gb hq H locs ls hP hD hS hl
            refine lv_iload hx hb dX1_find_65 (lv_at hl 4 rfl) ?_
            refine lv_aload_n hx hb dX1_find_67 rfl (lv_at hl 1 rfl) ?_
            refine va_get (D := D) (ci := 5) (v := .int (nI r9)) (C := RX5) (T := TX5) (N := 2) hx hb hts iT_X5 hown hK1 hP 0 rfl rfl 1 (by decide) (hts _ t_108) (fun _ h9 => h9) rfl dX1_find_68 ?_
            refine lv_icmp_ge (tgt := 101) hx hb dX1_find_71 (by decide) (fun c_30 => ?_) (fun c_30 => ?_)
            · exact absurd c_30 (nI_ge (a := q9) (b := r9) (by omega) (by omega))
            refine lv_aload_n hx hb dX1_find_74 rfl (lv_at hl 0 rfl) ?_
            refine lv_aload_n hx hb dX1_find_75 rfl (lv_at hl 1 rfl) ?_
            refine va_get (D := D) (ci := 5) (v := .ref br) (C := RX5) (T := TX5) (N := 2) hx hb hts iT_X5 hown hK1 hP 0 rfl rfl 0 (by decide) (hts _ t_103) (fun _ h9 => h9) rfl dX1_find_76 ?_
            refine lv_iload hx hb dX1_find_79 (lv_at hl 4 rfl) ?_
            refine va_aldq hx hb hK1 hP 1 3 rfl rfl (vp_in_nI (by omega) (by omega)) dX1_find_81 ?_
            refine lv_nmr (show _ = Value.ref (rho q9).1.1 from by rw [nI_clamp (n := q9) (by omega)]; rfl) ?_
            refine lv_iload hx hb dX1_find_82 (lv_at hl 4 rfl) ?_
            refine lv_iload_n hx hb dX1_find_84 rfl (lv_at hl 3 rfl) ?_
            refine lv_nmi (show _ = (nI st9 : Int32) from est9) ?_
            refine lv_bipush (v := 16) hx hb dX1_find_85 (by decide) ?_
            refine lv_idiv hx hb dX1_find_87 (by decide) ?_
            refine lv_nmi (show _ = (nI (st9 / 16) : Int32) from pk_div (d := 16) (by omega) (by decide) (by decide)) ?_
            refine lv_iload_n hx hb dX1_find_88 rfl (lv_at hl 3 rfl) ?_
            refine lv_nmi (show _ = (nI st9 : Int32) from est9) ?_
            refine lv_bipush (v := 16) hx hb dX1_find_89 (by decide) ?_
            refine lv_irem hx hb dX1_find_91 (by decide) ?_
            refine lv_nmi (show _ = (nI (st9 % 16) : Int32) from pk_rem (d := 16) (by omega) (by decide) (by decide)) ?_
            obtain ⟨⟨o9, ho9, eo9⟩, -, -, hsl9, -, hw9, hu9⟩ := hB q9 (by omega)
            obtain ⟨t0, h0t, e0⟩ := hsl9 0 (by decide)
            obtain ⟨t1, h1t, e1⟩ := hsl9 1 (by decide)
            obtain ⟨t2, h2t, e2⟩ := hsl9 2 (by decide)
            obtain ⟨hP, hD⟩ := focus q9 (by omega) hP hD
            have hP : va_P D vwCl ([kX5 bk br (nI r9), kQ cR br 9 (fun k => some ((rho k).1.1)), kX1 lg l1 l2 l3 l4 l5, kJ cJ l1 96 fb, kI cI l2 96 gb, kI cZ l3 96 (upd za ((st9 / 16) * 16 + (st9 % 16)) 1), kI cI l4 96 (upd ka ((st9 / 16) * 16 + cz za ((st9 / 16) * 16) 16) (nI (st9 % 16))), kI cI l5 6 (upd ca (st9 / 16) (nI (cz za ((st9 / 16) * 16) 16 + 1))), kX4 ((rho q9).1.1) ((rho q9).2.1.1) ((rho q9).1.2.1) ((rho q9).1.2.2.2.2.2.1) ((rho q9).1.2.2.2.2.2.2.1) ((rho q9).1.2.2.2.2.2.2.2), kX0 ((rho q9).1.2.1) ((rho q9).1.2.2.1) ((rho q9).1.2.2.2.1) ((rho q9).1.2.2.2.2.1) ((rho q9).2.1.2.1) ((rho q9).2.1.2.2), kI cI ((rho q9).1.2.2.1) 3 ((rho q9).2.2.1), kI cI ((rho q9).1.2.2.2.1) 3 ((rho q9).2.2.2.1), kI cI ((rho q9).1.2.2.2.2.1) 3 ((rho q9).2.2.2.2.1), kI cI ((rho q9).1.2.2.2.2.2.1) 3 ((rho q9).2.2.2.2.2.1), kI cI ((rho q9).1.2.2.2.2.2.2.1) 64 ((rho q9).2.2.2.2.2.2.1), kI cI ((rho q9).1.2.2.2.2.2.2.2) 64 ((rho q9).2.2.2.2.2.2.2)] ++ RX cI rho q9) H := hP
            have hD : va_D A ([kX5 bk br (nI r9), kQ cR br 9 (fun k => some ((rho k).1.1)), kX1 lg l1 l2 l3 l4 l5, kJ cJ l1 96 fb, kI cI l2 96 gb, kI cZ l3 96 (upd za ((st9 / 16) * 16 + (st9 % 16)) 1), kI cI l4 96 (upd ka ((st9 / 16) * 16 + cz za ((st9 / 16) * 16) 16) (nI (st9 % 16))), kI cI l5 6 (upd ca (st9 / 16) (nI (cz za ((st9 / 16) * 16) 16 + 1))), kX4 ((rho q9).1.1) ((rho q9).2.1.1) ((rho q9).1.2.1) ((rho q9).1.2.2.2.2.2.1) ((rho q9).1.2.2.2.2.2.2.1) ((rho q9).1.2.2.2.2.2.2.2), kX0 ((rho q9).1.2.1) ((rho q9).1.2.2.1) ((rho q9).1.2.2.2.1) ((rho q9).1.2.2.2.2.1) ((rho q9).2.1.2.1) ((rho q9).2.1.2.2), kI cI ((rho q9).1.2.2.1) 3 ((rho q9).2.2.1), kI cI ((rho q9).1.2.2.2.1) 3 ((rho q9).2.2.2.1), kI cI ((rho q9).1.2.2.2.2.1) 3 ((rho q9).2.2.2.2.1), kI cI ((rho q9).1.2.2.2.2.2.1) 3 ((rho q9).2.2.2.2.2.1), kI cI ((rho q9).1.2.2.2.2.2.2.1) 64 ((rho q9).2.2.2.2.2.2.1), kI cI ((rho q9).1.2.2.2.2.2.2.2) 64 ((rho q9).2.2.2.2.2.2.2)] ++ RX cI rho q9) := hD
            rw [eo9] at hP hD
            have hP : va_P D vwCl ([kX5 bk br (nI r9), kQ cR br 9 (fun k => some ((rho k).1.1)), kX1 lg l1 l2 l3 l4 l5, kJ cJ l1 96 fb, kI cI l2 96 gb, kI cZ l3 96 (upd za ((st9 / 16) * 16 + (st9 % 16)) 1), kI cI l4 96 (upd ka ((st9 / 16) * 16 + cz za ((st9 / 16) * 16) 16) (nI (st9 % 16))), kI cI l5 6 (upd ca (st9 / 16) (nI (cz za ((st9 / 16) * 16) 16 + 1))), kX4 ((rho q9).1.1) (nI o9) ((rho q9).1.2.1) ((rho q9).1.2.2.2.2.2.1) ((rho q9).1.2.2.2.2.2.2.1) ((rho q9).1.2.2.2.2.2.2.2), kX0 ((rho q9).1.2.1) ((rho q9).1.2.2.1) ((rho q9).1.2.2.2.1) ((rho q9).1.2.2.2.2.1) ((rho q9).2.1.2.1) ((rho q9).2.1.2.2), kI cI ((rho q9).1.2.2.1) 3 ((rho q9).2.2.1), kI cI ((rho q9).1.2.2.2.1) 3 ((rho q9).2.2.2.1), kI cI ((rho q9).1.2.2.2.2.1) 3 ((rho q9).2.2.2.2.1), kI cI ((rho q9).1.2.2.2.2.2.1) 3 ((rho q9).2.2.2.2.2.1), kI cI ((rho q9).1.2.2.2.2.2.2.1) 64 ((rho q9).2.2.2.2.2.2.1), kI cI ((rho q9).1.2.2.2.2.2.2.2) 64 ((rho q9).2.2.2.2.2.2.2)] ++ RX cI rho q9) H := hP
            have hD : va_D A ([kX5 bk br (nI r9), kQ cR br 9 (fun k => some ((rho k).1.1)), kX1 lg l1 l2 l3 l4 l5, kJ cJ l1 96 fb, kI cI l2 96 gb, kI cZ l3 96 (upd za ((st9 / 16) * 16 + (st9 % 16)) 1), kI cI l4 96 (upd ka ((st9 / 16) * 16 + cz za ((st9 / 16) * 16) 16) (nI (st9 % 16))), kI cI l5 6 (upd ca (st9 / 16) (nI (cz za ((st9 / 16) * 16) 16 + 1))), kX4 ((rho q9).1.1) (nI o9) ((rho q9).1.2.1) ((rho q9).1.2.2.2.2.2.1) ((rho q9).1.2.2.2.2.2.2.1) ((rho q9).1.2.2.2.2.2.2.2), kX0 ((rho q9).1.2.1) ((rho q9).1.2.2.1) ((rho q9).1.2.2.2.1) ((rho q9).1.2.2.2.2.1) ((rho q9).2.1.2.1) ((rho q9).2.1.2.2), kI cI ((rho q9).1.2.2.1) 3 ((rho q9).2.2.1), kI cI ((rho q9).1.2.2.2.1) 3 ((rho q9).2.2.2.1), kI cI ((rho q9).1.2.2.2.2.1) 3 ((rho q9).2.2.2.2.1), kI cI ((rho q9).1.2.2.2.2.2.1) 3 ((rho q9).2.2.2.2.2.1), kI cI ((rho q9).1.2.2.2.2.2.2.1) 64 ((rho q9).2.2.2.2.2.2.1), kI cI ((rho q9).1.2.2.2.2.2.2.2) 64 ((rho q9).2.2.2.2.2.2.2)] ++ RX cI rho q9) := hD
            have hPD : PD D A ([kX1 lg l1 l2 l3 l4 l5, kJ cJ l1 96 fb, kI cI l2 96 gb, kI cZ l3 96 (upd za ((st9 / 16) * 16 + (st9 % 16)) 1), kI cI l4 96 (upd ka ((st9 / 16) * 16 + cz za ((st9 / 16) * 16) 16) (nI (st9 % 16))), kI cI l5 6 (upd ca (st9 / 16) (nI (cz za ((st9 / 16) * 16) 16 + 1))), kX4 ((rho q9).1.1) (nI o9) ((rho q9).1.2.1) ((rho q9).1.2.2.2.2.2.1) ((rho q9).1.2.2.2.2.2.2.1) ((rho q9).1.2.2.2.2.2.2.2), kX0 ((rho q9).1.2.1) ((rho q9).1.2.2.1) ((rho q9).1.2.2.2.1) ((rho q9).1.2.2.2.2.1) ((rho q9).2.1.2.1) ((rho q9).2.1.2.2), kI cI ((rho q9).1.2.2.1) 3 ((rho q9).2.2.1), kI cI ((rho q9).1.2.2.2.1) 3 ((rho q9).2.2.2.1), kI cI ((rho q9).1.2.2.2.2.1) 3 ((rho q9).2.2.2.2.1), kI cI ((rho q9).1.2.2.2.2.2.1) 3 ((rho q9).2.2.2.2.2.1), kI cI ((rho q9).1.2.2.2.2.2.2.1) 64 ((rho q9).2.2.2.2.2.2.1), kI cI ((rho q9).1.2.2.2.2.2.2.2) 64 ((rho q9).2.2.2.2.2.2.2)] ++ ([kX5 bk br (nI r9), kQ cR br 9 (fun k => some ((rho k).1.1))] ++ RX cI rho q9)) H := PD.perm ⟨hP, hD⟩ (permA pm_17)
            refine xp_v (wc := [kX1 lg l1 l2 l3 l4 l5, kJ cJ l1 96 fb, kI cI l2 96 gb, kI cZ l3 96 (upd za ((st9 / 16) * 16 + (st9 % 16)) 1), kI cI l4 96 (upd ka ((st9 / 16) * 16 + cz za ((st9 / 16) * 16) 16) (nI (st9 % 16))), kI cI l5 6 (upd ca (st9 / 16) (nI (cz za ((st9 / 16) * 16) 16 + 1))), kX4 ((rho q9).1.1) (nI o9) ((rho q9).1.2.1) ((rho q9).1.2.2.2.2.2.1) ((rho q9).1.2.2.2.2.2.2.1) ((rho q9).1.2.2.2.2.2.2.2), kX0 ((rho q9).1.2.1) ((rho q9).1.2.2.1) ((rho q9).1.2.2.2.1) ((rho q9).1.2.2.2.2.1) ((rho q9).2.1.2.1) ((rho q9).2.1.2.2), kI cI ((rho q9).1.2.2.1) 3 ((rho q9).2.2.1), kI cI ((rho q9).1.2.2.2.1) 3 ((rho q9).2.2.2.1), kI cI ((rho q9).1.2.2.2.2.1) 3 ((rho q9).2.2.2.2.1), kI cI ((rho q9).1.2.2.2.2.2.1) 3 ((rho q9).2.2.2.2.2.1), kI cI ((rho q9).1.2.2.2.2.2.2.1) 64 ((rho q9).2.2.2.2.2.2.1), kI cI ((rho q9).1.2.2.2.2.2.2.2) 64 ((rho q9).2.2.2.2.2.2.2)]) (wr := ([kX5 bk br (nI r9), kQ cR br 9 (fun k => some ((rho k).1.1))] ++ RX cI rho q9)) (xqV (n := 4) (As := [.ref ((rho q9).1.1), .int (nI q9), .int (nI (st9 / 16)), .int (nI (st9 % 16))]) (rest := []) (ci := 1) (q0 := 0) hd hK hPD.left (c_X1_spread l D cI cJ cZ cR _ lg l1 l2 l3 l4 l5 ((rho q9).1.1) ((rho q9).1.2.1) ((rho q9).1.2.2.1) ((rho q9).1.2.2.2.1) ((rho q9).1.2.2.2.2.1) ((rho q9).1.2.2.2.2.2.1) ((rho q9).1.2.2.2.2.2.2.1) ((rho q9).1.2.2.2.2.2.2.2) t0 t1 t2 (st9 / 16) (st9 % 16) fb gb (upd za ((st9 / 16) * 16 + (st9 % 16)) 1) (upd ka ((st9 / 16) * 16 + cz za ((st9 / 16) * 16) 16) (nI (st9 % 16))) (upd ca (st9 / 16) (nI (cz za ((st9 / 16) * 16) 16 + 1))) o9 ((rho q9).2.1.2.1) ((rho q9).2.1.2.2) ((rho q9).2.2.1) ((rho q9).2.2.2.1) ((rho q9).2.2.2.2.1) ((rho q9).2.2.2.2.2.1) ((rho q9).2.2.2.2.2.2.1) ((rho q9).2.2.2.2.2.2.2) (nI q9) e0 e1 e2 h0t h1t h2t ho9 hw9 hu9 (SI_s hSI (by omega) (by omega) (by rw [show st9 / 16 * 16 + st9 % 16 = st9 by omega]; exact hz9)) (by omega)) (gV t_479 mV_X1_spread) hV_X1_spread ⟨(Nat.le_of_ble_eq_true rfl), (Nat.le_of_ble_eq_true rfl)⟩ rfl rfl rfl hl.1 rfl (Nat.le_of_ble_eq_true rfl) dX1_find_92 ⟨(Nat.le_of_ble_eq_true rfl), (Nat.le_of_ble_eq_true rfl)⟩) hPD hS hA (fun u_32 H locs hw_33 hPD hS => ?_)
            obtain ⟨f2_34, g2_35⟩ := u_32
            obtain ⟨hP, hD⟩ := hPD.perm permA'
            have hP : va_P D vwCl ([kX5 bk br (nI r9), kQ cR br 9 (fun k => some ((rho k).1.1)), kX1 lg l1 l2 l3 l4 l5, kJ cJ l1 96 f2_34, kI cI l2 96 g2_35, kI cZ l3 96 (upd za ((st9 / 16) * 16 + (st9 % 16)) 1), kI cI l4 96 (upd ka ((st9 / 16) * 16 + cz za ((st9 / 16) * 16) 16) (nI (st9 % 16))), kI cI l5 6 (upd ca (st9 / 16) (nI (cz za ((st9 / 16) * 16) 16 + 1))), kX4 ((rho q9).1.1) (nI o9) ((rho q9).1.2.1) ((rho q9).1.2.2.2.2.2.1) ((rho q9).1.2.2.2.2.2.2.1) ((rho q9).1.2.2.2.2.2.2.2), kX0 ((rho q9).1.2.1) ((rho q9).1.2.2.1) ((rho q9).1.2.2.2.1) ((rho q9).1.2.2.2.2.1) ((rho q9).2.1.2.1) ((rho q9).2.1.2.2), kI cI ((rho q9).1.2.2.1) 3 ((rho q9).2.2.1), kI cI ((rho q9).1.2.2.2.1) 3 ((rho q9).2.2.2.1), kI cI ((rho q9).1.2.2.2.2.1) 3 ((rho q9).2.2.2.2.1), kI cI ((rho q9).1.2.2.2.2.2.1) 3 ((rho q9).2.2.2.2.2.1), kI cI ((rho q9).1.2.2.2.2.2.2.1) 64 ((rho q9).2.2.2.2.2.2.1), kI cI ((rho q9).1.2.2.2.2.2.2.2) 64 ((rho q9).2.2.2.2.2.2.2)] ++ RX cI rho q9) H := hP
            have hD : va_D A ([kX5 bk br (nI r9), kQ cR br 9 (fun k => some ((rho k).1.1)), kX1 lg l1 l2 l3 l4 l5, kJ cJ l1 96 f2_34, kI cI l2 96 g2_35, kI cZ l3 96 (upd za ((st9 / 16) * 16 + (st9 % 16)) 1), kI cI l4 96 (upd ka ((st9 / 16) * 16 + cz za ((st9 / 16) * 16) 16) (nI (st9 % 16))), kI cI l5 6 (upd ca (st9 / 16) (nI (cz za ((st9 / 16) * 16) 16 + 1))), kX4 ((rho q9).1.1) (nI o9) ((rho q9).1.2.1) ((rho q9).1.2.2.2.2.2.1) ((rho q9).1.2.2.2.2.2.2.1) ((rho q9).1.2.2.2.2.2.2.2), kX0 ((rho q9).1.2.1) ((rho q9).1.2.2.1) ((rho q9).1.2.2.2.1) ((rho q9).1.2.2.2.2.1) ((rho q9).2.1.2.1) ((rho q9).2.1.2.2), kI cI ((rho q9).1.2.2.1) 3 ((rho q9).2.2.1), kI cI ((rho q9).1.2.2.2.1) 3 ((rho q9).2.2.2.1), kI cI ((rho q9).1.2.2.2.2.1) 3 ((rho q9).2.2.2.2.1), kI cI ((rho q9).1.2.2.2.2.2.1) 3 ((rho q9).2.2.2.2.2.1), kI cI ((rho q9).1.2.2.2.2.2.2.1) 64 ((rho q9).2.2.2.2.2.2.1), kI cI ((rho q9).1.2.2.2.2.2.2.2) 64 ((rho q9).2.2.2.2.2.2.2)] ++ RX cI rho q9) := hD
            rw [← eo9] at hP hD
            have hP : va_P D vwCl ([kX5 bk br (nI r9), kQ cR br 9 (fun k => some ((rho k).1.1)), kX1 lg l1 l2 l3 l4 l5, kJ cJ l1 96 f2_34, kI cI l2 96 g2_35, kI cZ l3 96 (upd za ((st9 / 16) * 16 + (st9 % 16)) 1), kI cI l4 96 (upd ka ((st9 / 16) * 16 + cz za ((st9 / 16) * 16) 16) (nI (st9 % 16))), kI cI l5 6 (upd ca (st9 / 16) (nI (cz za ((st9 / 16) * 16) 16 + 1))), kX4 ((rho q9).1.1) ((rho q9).2.1.1) ((rho q9).1.2.1) ((rho q9).1.2.2.2.2.2.1) ((rho q9).1.2.2.2.2.2.2.1) ((rho q9).1.2.2.2.2.2.2.2), kX0 ((rho q9).1.2.1) ((rho q9).1.2.2.1) ((rho q9).1.2.2.2.1) ((rho q9).1.2.2.2.2.1) ((rho q9).2.1.2.1) ((rho q9).2.1.2.2), kI cI ((rho q9).1.2.2.1) 3 ((rho q9).2.2.1), kI cI ((rho q9).1.2.2.2.1) 3 ((rho q9).2.2.2.1), kI cI ((rho q9).1.2.2.2.2.1) 3 ((rho q9).2.2.2.2.1), kI cI ((rho q9).1.2.2.2.2.2.1) 3 ((rho q9).2.2.2.2.2.1), kI cI ((rho q9).1.2.2.2.2.2.2.1) 64 ((rho q9).2.2.2.2.2.2.1), kI cI ((rho q9).1.2.2.2.2.2.2.2) 64 ((rho q9).2.2.2.2.2.2.2)] ++ RX cI rho q9) H := hP
            have hD : va_D A ([kX5 bk br (nI r9), kQ cR br 9 (fun k => some ((rho k).1.1)), kX1 lg l1 l2 l3 l4 l5, kJ cJ l1 96 f2_34, kI cI l2 96 g2_35, kI cZ l3 96 (upd za ((st9 / 16) * 16 + (st9 % 16)) 1), kI cI l4 96 (upd ka ((st9 / 16) * 16 + cz za ((st9 / 16) * 16) 16) (nI (st9 % 16))), kI cI l5 6 (upd ca (st9 / 16) (nI (cz za ((st9 / 16) * 16) 16 + 1))), kX4 ((rho q9).1.1) ((rho q9).2.1.1) ((rho q9).1.2.1) ((rho q9).1.2.2.2.2.2.1) ((rho q9).1.2.2.2.2.2.2.1) ((rho q9).1.2.2.2.2.2.2.2), kX0 ((rho q9).1.2.1) ((rho q9).1.2.2.1) ((rho q9).1.2.2.2.1) ((rho q9).1.2.2.2.2.1) ((rho q9).2.1.2.1) ((rho q9).2.1.2.2), kI cI ((rho q9).1.2.2.1) 3 ((rho q9).2.2.1), kI cI ((rho q9).1.2.2.2.1) 3 ((rho q9).2.2.2.1), kI cI ((rho q9).1.2.2.2.2.1) 3 ((rho q9).2.2.2.2.1), kI cI ((rho q9).1.2.2.2.2.2.1) 3 ((rho q9).2.2.2.2.2.1), kI cI ((rho q9).1.2.2.2.2.2.2.1) 64 ((rho q9).2.2.2.2.2.2.1), kI cI ((rho q9).1.2.2.2.2.2.2.2) 64 ((rho q9).2.2.2.2.2.2.2)] ++ RX cI rho q9) := hD
            have hPD : PD D A ([kX5 bk br (nI r9), kQ cR br 9 (fun k => some ((rho k).1.1)), kX1 lg l1 l2 l3 l4 l5, kJ cJ l1 96 f2_34, kI cI l2 96 g2_35, kI cZ l3 96 (upd za ((st9 / 16) * 16 + (st9 % 16)) 1), kI cI l4 96 (upd ka ((st9 / 16) * 16 + cz za ((st9 / 16) * 16) 16) (nI (st9 % 16))), kI cI l5 6 (upd ca (st9 / 16) (nI (cz za ((st9 / 16) * 16) 16 + 1))), kX4 ((rho q9).1.1) ((rho q9).2.1.1) ((rho q9).1.2.1) ((rho q9).1.2.2.2.2.2.1) ((rho q9).1.2.2.2.2.2.2.1) ((rho q9).1.2.2.2.2.2.2.2), kX0 ((rho q9).1.2.1) ((rho q9).1.2.2.1) ((rho q9).1.2.2.2.1) ((rho q9).1.2.2.2.2.1) ((rho q9).2.1.2.1) ((rho q9).2.1.2.2), kI cI ((rho q9).1.2.2.1) 3 ((rho q9).2.2.1), kI cI ((rho q9).1.2.2.2.1) 3 ((rho q9).2.2.2.1), kI cI ((rho q9).1.2.2.2.2.1) 3 ((rho q9).2.2.2.2.1), kI cI ((rho q9).1.2.2.2.2.2.1) 3 ((rho q9).2.2.2.2.2.1), kI cI ((rho q9).1.2.2.2.2.2.2.1) 64 ((rho q9).2.2.2.2.2.2.1), kI cI ((rho q9).1.2.2.2.2.2.2.2) 64 ((rho q9).2.2.2.2.2.2.2)] ++ RX cI rho q9) H := (PD.perm ⟨hP, hD⟩ (permB pm_18)).left
            obtain ⟨hP, hD⟩ := unfocus0 (E := [kX5 bk br (nI r9), kQ cR br 9 (fun k => some ((rho k).1.1)), kX1 lg l1 l2 l3 l4 l5, kJ cJ l1 96 f2_34, kI cI l2 96 g2_35, kI cZ l3 96 (upd za ((st9 / 16) * 16 + (st9 % 16)) 1), kI cI l4 96 (upd ka ((st9 / 16) * 16 + cz za ((st9 / 16) * 16) 16) (nI (st9 % 16))), kI cI l5 6 (upd ca (st9 / 16) (nI (cz za ((st9 / 16) * 16) 16 + 1)))]) q9 (by omega) hPD.1 hPD.2
            have hP : va_P D vwCl ([kX5 bk br (nI r9), kQ cR br 9 (fun k => some ((rho k).1.1)), kX1 lg l1 l2 l3 l4 l5, kJ cJ l1 96 f2_34, kI cI l2 96 g2_35, kI cZ l3 96 (upd za ((st9 / 16) * 16 + (st9 % 16)) 1), kI cI l4 96 (upd ka ((st9 / 16) * 16 + cz za ((st9 / 16) * 16) 16) (nI (st9 % 16))), kI cI l5 6 (upd ca (st9 / 16) (nI (cz za ((st9 / 16) * 16) 16 + 1)))] ++ RB cI rho) H := hP
            have hD : va_D A ([kX5 bk br (nI r9), kQ cR br 9 (fun k => some ((rho k).1.1)), kX1 lg l1 l2 l3 l4 l5, kJ cJ l1 96 f2_34, kI cI l2 96 g2_35, kI cZ l3 96 (upd za ((st9 / 16) * 16 + (st9 % 16)) 1), kI cI l4 96 (upd ka ((st9 / 16) * 16 + cz za ((st9 / 16) * 16) 16) (nI (st9 % 16))), kI cI l5 6 (upd ca (st9 / 16) (nI (cz za ((st9 / 16) * 16) 16 + 1)))] ++ RB cI rho) := hD
            refine lv_iinc (v := nI (q9 + 1)) (lv' := [(4, .int (nI (q9 + 1))), (0, .ref lg), (1, .ref bk), (2, .int (nI i)), (3, .int r_21)]) hx hb dX1_find_95 hl (k := 4) rfl (nI_1 q9) (by decide) rfl (fun ls hl => ?_)
            refine lv_goto (tgt := 65) hx hb dX1_find_98 (by decide) ?_
            have hPD : PD D A ([kX5 bk br (nI r9), kQ cR br 9 (fun k => some ((rho k).1.1)), kX1 lg l1 l2 l3 l4 l5, kJ cJ l1 96 f2_34, kI cI l2 96 g2_35, kI cZ l3 96 (upd za ((st9 / 16) * 16 + (st9 % 16)) 1), kI cI l4 96 (upd ka ((st9 / 16) * 16 + cz za ((st9 / 16) * 16) 16) (nI (st9 % 16))), kI cI l5 6 (upd ca (st9 / 16) (nI (cz za ((st9 / 16) * 16) 16 + 1)))] ++ RB cI rho) H := (PD.perm ⟨hP, hD⟩ (permB pm_15)).left
            exact ih_65 (q9 + 1) f2_34 g2_35 (by omega) _ _ _ hPD.1 hPD.2 hS (lv_sub hl [1, 2, 3, 4, 0] rfl)
        have hPD : PD D A ([kX5 bk br (nI r9), kQ cR br 9 (fun k => some ((rho k).1.1)), kX1 lg l1 l2 l3 l4 l5, kJ cJ l1 96 fa, kI cI l2 96 ga, kI cZ l3 96 (upd za ((st9 / 16) * 16 + (st9 % 16)) 1), kI cI l4 96 (upd ka ((st9 / 16) * 16 + cz za ((st9 / 16) * 16) 16) (nI (st9 % 16))), kI cI l5 6 (upd ca (st9 / 16) (nI (cz za ((st9 / 16) * 16) 16 + 1)))] ++ RB cI rho) H := (PD.perm ⟨hP, hD⟩ (permB pm_15)).left
        exact LOOP_65 r9 0 fa ga (by omega) _ _ _ hPD.1 hPD.2 hS (lv_sub hl [2, 3, 4, 1, 0] rfl)
      · skip
        have hPD : PD D A ([kX1 lg l1 l2 l3 l4 l5, kJ cJ l1 96 fa, kI cI l2 96 ga, kI cZ l3 96 za, kI cI l4 96 ka, kI cI l5 6 ca, kX5 bk br (nI r9), kQ cR br 9 (fun k => some ((rho k).1.1))] ++ RB cI rho) H := (PD.perm ⟨hP, hD⟩ (permB pm_16)).left
        exact hret _ _ _ _ _ _ (fa, ga, za, ka, ca) dX1_find_49 hS (Nat.le_of_ble_eq_true rfl) (Nat.le_of_ble_eq_true rfl) trivial hPD.1 hPD.2
  have hPD : PD D A ([kX1 lg l1 l2 l3 l4 l5, kJ cJ l1 96 f2_17, kI cI l2 96 g2_18, kI cZ l3 96 (fun _ => 0), kI cI l4 96 kf, kI cI l5 6 (fun _ => 0), kX5 bk br (nI r9), kQ cR br 9 (fun k => some ((rho k).1.1))] ++ RB cI rho) H := (PD.perm ⟨hP, hD⟩ (permB pm_16)).left
  exact LOOP_33 96 0 f2_17 g2_18 (fun _ => 0) kf (fun _ => 0) (by omega) SI_0 _ _ _ hPD.1 hPD.2 hS (lv_sub hl [1, 2, 0] rfl)
set_option maxHeartbeats 4000000 in
set_option maxRecDepth 100000 in
theorem c_X6_bringLights (sz : Nat) (h0 : Nat) (pg : Nat) (fg : Nat) (og : Nat) (oS : Int32) (lS : Int32) (s1 : Int32) (s2 : Int32) (s3 : Int32) (lg : Nat) (l1 : Nat) (l2 : Nat) (l3 : Nat) (l4 : Nat) (l5 : Nat) (bk : Nat) (br : Nat) (r9 : Nat) (ff : Nat → Int64) (gf : Nat → Int32) (zf : Nat → Int32) (kf : Nat → Int32) (cf : Nat → Int32) (rho : Nat → RT) (hr : r9 ≤ 9) (hB : BI rho r9) : CTv l D cI cJ cZ cR yX6_bringLights cX6_bringLights 1 none 4 107 0 0 sz [.ref h0] ([kX6 h0 pg bk fg og lg oS lS s1 s2 s3, kX1 lg l1 l2 l3 l4 l5, kJ cJ l1 96 ff, kI cI l2 96 gf, kI cZ l3 96 zf, kI cI l4 96 kf, kI cI l5 6 cf, kX5 bk br (nI r9), kQ cR br 9 (fun k => some ((rho k).1.1))] ++ RB cI rho) (fun (u : (Nat → Int64) × (Nat → Int32) × (Nat → Int32) × (Nat → Int32) × (Nat → Int32) × Int32) => True) (fun (u : (Nat → Int64) × (Nat → Int32) × (Nat → Int32) × (Nat → Int32) × (Nat → Int32) × Int32) => ([kX6 h0 pg bk fg og lg oS u.2.2.2.2.2 s1 s2 s3, kX1 lg l1 l2 l3 l4 l5, kJ cJ l1 96 u.1, kI cI l2 96 u.2.1, kI cZ l3 96 u.2.2.1, kI cI l4 96 u.2.2.2.1, kI cI l5 6 u.2.2.2.2.1, kX5 bk br (nI r9), kQ cR br 9 (fun k => some ((rho k).1.1))] ++ RB cI rho)) := by
  refine CTv.of (by decide) (Nat.le_of_ble_eq_true rfl) rfl ?_
  intro p e s m below meth c A Q ls hd hin hK hsz hP hD hA hS hl hret
  obtain ⟨hx, hb, hml, hown, hts⟩ := id hd
  have hK1 := hK.1
  have hown : s.vm.findClass RX6 = some m.cls := hown
  have hl : lv_has ls 1 [(0, .ref h0)] := hl
  refine lv_aload_n hx hb dX6_bringLights_0 rfl (lv_at hl 0 rfl) ?_
  refine va_get (D := D) (ci := 6) (v := .int lS) (C := RX6) (T := TX6) (N := 10) hx hb hts iT_X6 hown hK1 hP 0 rfl rfl 6 (by decide) (hts _ t_160) (fun _ h9 => h9) rfl dX6_bringLights_1 ?_
  refine lv_if_ne (tgt := 23) hx hb dX6_bringLights_4 (by decide) (fun c_1 => ?_) (fun c_1 => ?_)
  · skip
    have hPD : PD D A ([kX6 h0 pg bk fg og lg oS lS s1 s2 s3, kX1 lg l1 l2 l3 l4 l5, kJ cJ l1 96 ff, kI cI l2 96 gf, kI cZ l3 96 zf, kI cI l4 96 kf, kI cI l5 6 cf, kX5 bk br (nI r9), kQ cR br 9 (fun k => some ((rho k).1.1))] ++ RB cI rho) s.heap := (PD.perm ⟨hP, hD⟩ (permB pm_19)).left
    exact hret _ _ _ _ _ _ (ff, gf, zf, kf, cf, lS) dX6_bringLights_23 hS (Nat.le_of_ble_eq_true rfl) (Nat.le_of_ble_eq_true rfl) trivial hPD.1 hPD.2
  · skip
    refine lv_aload_n hx hb dX6_bringLights_7 rfl (lv_at hl 0 rfl) ?_
    refine va_get (D := D) (ci := 6) (v := .ref lg) (C := RX6) (T := TX6) (N := 10) hx hb hts iT_X6 hown hK1 hP 0 rfl rfl 4 (by decide) (hts _ t_158) (fun _ h9 => h9) rfl dX6_bringLights_8 ?_
    refine lv_aload_n hx hb dX6_bringLights_11 rfl (lv_at hl 0 rfl) ?_
    refine va_get (D := D) (ci := 6) (v := .ref bk) (C := RX6) (T := TX6) (N := 10) hx hb hts iT_X6 hown hK1 hP 0 rfl rfl 1 (by decide) (hts _ t_155) (fun _ h9 => h9) rfl dX6_bringLights_12 ?_
    have hPD : PD D A (([kX1 lg l1 l2 l3 l4 l5, kJ cJ l1 96 ff, kI cI l2 96 gf, kI cZ l3 96 zf, kI cI l4 96 kf, kI cI l5 6 cf, kX5 bk br (nI r9), kQ cR br 9 (fun k => some ((rho k).1.1))] ++ RB cI rho) ++ [kX6 h0 pg bk fg og lg oS lS s1 s2 s3]) s.heap := PD.perm ⟨hP, hD⟩ (permB pm_20)
    refine xp_v (wc := ([kX1 lg l1 l2 l3 l4 l5, kJ cJ l1 96 ff, kI cI l2 96 gf, kI cZ l3 96 zf, kI cI l4 96 kf, kI cI l5 6 cf, kX5 bk br (nI r9), kQ cR br 9 (fun k => some ((rho k).1.1))] ++ RB cI rho)) (wr := [kX6 h0 pg bk fg og lg oS lS s1 s2 s3]) (xqV (n := 1) (As := [.ref bk]) (rest := []) (ci := 1) (q0 := 0) hd hK hPD.left (c_X1_find l D cI cJ cZ cR _ lg l1 l2 l3 l4 l5 bk br r9 ff gf zf kf cf rho hr hB) (gV t_454 mV_X1_find) hV_X1_find ⟨(Nat.le_of_ble_eq_true rfl), (Nat.le_of_ble_eq_true rfl)⟩ rfl rfl rfl hl.1 rfl (Nat.le_of_ble_eq_true rfl) dX6_bringLights_15 ⟨(Nat.le_of_ble_eq_true rfl), (Nat.le_of_ble_eq_true rfl)⟩) hPD hS hA (fun u_3 H locs hw_4 hPD hS => ?_)
    obtain ⟨f2_5, g2_6, z2_7, k2_8, c2_9⟩ := u_3
    obtain ⟨hP, hD⟩ := hPD.perm permB'
    have hP : va_P D vwCl ([kX6 h0 pg bk fg og lg oS lS s1 s2 s3, kX1 lg l1 l2 l3 l4 l5, kJ cJ l1 96 f2_5, kI cI l2 96 g2_6, kI cZ l3 96 z2_7, kI cI l4 96 k2_8, kI cI l5 6 c2_9, kX5 bk br (nI r9), kQ cR br 9 (fun k => some ((rho k).1.1))] ++ RB cI rho) H := hP
    have hD : va_D A ([kX6 h0 pg bk fg og lg oS lS s1 s2 s3, kX1 lg l1 l2 l3 l4 l5, kJ cJ l1 96 f2_5, kI cI l2 96 g2_6, kI cZ l3 96 z2_7, kI cI l4 96 k2_8, kI cI l5 6 c2_9, kX5 bk br (nI r9), kQ cR br 9 (fun k => some ((rho k).1.1))] ++ RB cI rho) := hD
    refine lv_aload_n hx hb dX6_bringLights_18 rfl (lv_at hl 0 rfl) ?_
    refine lv_iconst (v := 1) hx hb dX6_bringLights_19 (by decide) ?_
    refine va_put (D := D) (ci := 6) (v := .int 1) (ty := .boolean) (C := RX6) (T := TX6) (N := 10) hx hb hts iT_X6 tyX6 tyX6_ok nmX6 hown hK1 hP hD hS 0 rfl rfl 6 (by decide) (hts _ t_160) (fun _ h9 => h9) rfl (by decide +kernel) rfl rfl (Nat.le_of_ble_eq_true rfl) dX6_bringLights_20 (fun H locs hP hD hS => ?_)
    have hP : va_P D vwCl ([kX6 h0 pg bk fg og lg oS 1 s1 s2 s3, kX1 lg l1 l2 l3 l4 l5, kJ cJ l1 96 f2_5, kI cI l2 96 g2_6, kI cZ l3 96 z2_7, kI cI l4 96 k2_8, kI cI l5 6 c2_9, kX5 bk br (nI r9), kQ cR br 9 (fun k => some ((rho k).1.1))] ++ RB cI rho) H := hP
    have hD : va_D A ([kX6 h0 pg bk fg og lg oS 1 s1 s2 s3, kX1 lg l1 l2 l3 l4 l5, kJ cJ l1 96 f2_5, kI cI l2 96 g2_6, kI cZ l3 96 z2_7, kI cI l4 96 k2_8, kI cI l5 6 c2_9, kX5 bk br (nI r9), kQ cR br 9 (fun k => some ((rho k).1.1))] ++ RB cI rho) := hD
    have hPD : PD D A ([kX6 h0 pg bk fg og lg oS 1 s1 s2 s3, kX1 lg l1 l2 l3 l4 l5, kJ cJ l1 96 f2_5, kI cI l2 96 g2_6, kI cZ l3 96 z2_7, kI cI l4 96 k2_8, kI cI l5 6 c2_9, kX5 bk br (nI r9), kQ cR br 9 (fun k => some ((rho k).1.1))] ++ RB cI rho) H := (PD.perm ⟨hP, hD⟩ (permB pm_19)).left
    exact hret _ _ _ _ _ _ (f2_5, g2_6, z2_7, k2_8, c2_9, 1) dX6_bringLights_23 hS (Nat.le_of_ble_eq_true rfl) (Nat.le_of_ble_eq_true rfl) trivial hPD.1 hPD.2
set_option maxHeartbeats 4000000 in
set_option maxRecDepth 100000 in
theorem c_X1_reaches (sz : Nat) (lg : Nat) (l1 : Nat) (l2 : Nat) (l3 : Nat) (l4 : Nat) (l5 : Nat) (a : Nat) (b : Nat) (ff : Nat → Int64) (gf : Nat → Int32) (zf : Nat → Int32) (kf : Nat → Int32) (cf : Nat → Int32) (ha : a < 6) (hb0 : b < 16) : CTi l D cI cJ cZ cR yX1_reaches cX1_reaches 3 (some .boolean) 0 0 0 0 sz [.ref lg, .int (nI a), .int (nI b)] [kX1 lg l1 l2 l3 l4 l5, kJ cJ l1 96 ff, kI cI l2 96 gf, kI cZ l3 96 zf, kI cI l4 96 kf, kI cI l5 6 cf] (fun (r : Int32) (u : Unit) => True) (fun (u : Unit) => [kX1 lg l1 l2 l3 l4 l5, kJ cJ l1 96 ff, kI cI l2 96 gf, kI cZ l3 96 zf, kI cI l4 96 kf, kI cI l5 6 cf]) := by
  refine CTi.of (ty := .boolean) (by decide) (Nat.le_of_ble_eq_true rfl) rfl ?_
  intro p e s m below meth c A Q ls hd hin hK hsz hP hD hA hS hl hret
  obtain ⟨hx, hb, hml, hown, hts⟩ := id hd
  have hK1 := hK.1
  have hown : s.vm.findClass RX1 = some m.cls := hown
  have hl : lv_has ls 3 [(0, .ref lg), (1, .int (nI a)), (2, .int (nI b))] := hl
  refine lv_aload_n hx hb dX1_reaches_0 rfl (lv_at hl 0 rfl) ?_
  refine va_get (D := D) (ci := 1) (v := .ref l1) (C := RX1) (T := TX1) (N := 5) hx hb hts iT_X1 hown hK1 hP 0 rfl rfl 0 (by decide) (hts _ t_136) (fun _ h9 => h9) rfl dX1_reaches_1 ?_
  refine lv_iload_n hx hb dX1_reaches_4 rfl (lv_at hl 1 rfl) ?_
  refine lv_bipush (v := 16) hx hb dX1_reaches_5 (by decide) ?_
  refine lv_imul hx hb dX1_reaches_7 ?_
  refine lv_nmi (show _ = (nI (a * 16)) from pk_mul (a) (16)) ?_
  refine lv_iload_n hx hb dX1_reaches_8 rfl (lv_at hl 2 rfl) ?_
  refine lv_iadd hx hb dX1_reaches_9 ?_
  refine lv_nmi (show _ = (nI ((a * 16) + b)) from nI_add ((a * 16)) (b)) ?_
  refine va_lald hx hb hK1 hP 1 1 rfl rfl (vp_in_nI (by omega) (by omega)) dX1_reaches_10 ?_
  refine lv_nml (show _ = ff ((a * 16) + b) from by rw [nI_clamp (n := ((a * 16) + b)) (by omega)]) ?_
  refine lv_ldc2 hx hb hown (hts _ t_462) dX1_reaches_11 ?_
  refine W.lcmp hx hb dX1_reaches_14 ?_
  refine lv_if_ge (tgt := 22) hx hb dX1_reaches_15 (by decide) (fun c_1 => ?_) (fun c_1 => ?_)
  · skip
    refine lv_iconst (v := 0) hx hb dX1_reaches_22 (by decide) ?_
    exact hret _ _ _ _ _ _ 0 () dX1_reaches_23 rfl hS (Nat.le_of_ble_eq_true rfl) (Nat.le_of_ble_eq_true rfl) trivial (hP.sub [0, 1, 2, 3, 4, 5] rfl) (hD.sub [0, 1, 2, 3, 4, 5] rfl rfl)
  · skip
    refine lv_iconst (v := 1) hx hb dX1_reaches_18 (by decide) ?_
    refine lv_goto (tgt := 23) hx hb dX1_reaches_19 (by decide) ?_
    exact hret _ _ _ _ _ _ 1 () dX1_reaches_23 rfl hS (Nat.le_of_ble_eq_true rfl) (Nat.le_of_ble_eq_true rfl) trivial (hP.sub [0, 1, 2, 3, 4, 5] rfl) (hD.sub [0, 1, 2, 3, 4, 5] rfl rfl)
set_option maxHeartbeats 4000000 in
set_option maxRecDepth 100000 in
theorem c_X1_stepsTo (sz : Nat) (lg : Nat) (l1 : Nat) (l2 : Nat) (l3 : Nat) (l4 : Nat) (l5 : Nat) (a : Nat) (b : Nat) (ff : Nat → Int64) (gf : Nat → Int32) (zf : Nat → Int32) (kf : Nat → Int32) (cf : Nat → Int32) (ha : a < 6) (hb0 : b < 16) : CTi l D cI cJ cZ cR yX1_stepsTo cX1_stepsTo 3 (some .int) 1 32 0 0 sz [.ref lg, .int (nI a), .int (nI b)] [kX1 lg l1 l2 l3 l4 l5, kJ cJ l1 96 ff, kI cI l2 96 gf, kI cZ l3 96 zf, kI cI l4 96 kf, kI cI l5 6 cf] (fun (r : Int32) (u : Unit) => True) (fun (u : Unit) => [kX1 lg l1 l2 l3 l4 l5, kJ cJ l1 96 ff, kI cI l2 96 gf, kI cZ l3 96 zf, kI cI l4 96 kf, kI cI l5 6 cf]) := by
  refine CTi.of (ty := .int) (by decide) (Nat.le_of_ble_eq_true rfl) rfl ?_
  intro p e s m below meth c A Q ls hd hin hK hsz hP hD hA hS hl hret
  obtain ⟨hx, hb, hml, hown, hts⟩ := id hd
  have hK1 := hK.1
  have hown : s.vm.findClass RX1 = some m.cls := hown
  have hl : lv_has ls 3 [(0, .ref lg), (1, .int (nI a)), (2, .int (nI b))] := hl
  refine lv_aload_n hx hb dX1_stepsTo_0 rfl (lv_at hl 0 rfl) ?_
  refine lv_iload_n hx hb dX1_stepsTo_1 rfl (lv_at hl 1 rfl) ?_
  refine lv_iload_n hx hb dX1_stepsTo_2 rfl (lv_at hl 2 rfl) ?_
  refine xc_i (wc := [kX1 lg l1 l2 l3 l4 l5, kJ cJ l1 96 ff, kI cI l2 96 gf, kI cZ l3 96 zf, kI cI l4 96 kf, kI cI l5 6 cf]) (wr := []) (xrV (n := 2) (As := [.int (nI a), .int (nI b)]) (rest := []) (ci := 1) (q0 := 0) hd hK hP hD (c_X1_reaches l D cI cJ cZ cR _ lg l1 l2 l3 l4 l5 a b ff gf zf kf cf ha hb0) (gV t_515 mV_X1_reaches) hV_X1_reaches ⟨(Nat.le_of_ble_eq_true rfl), (Nat.le_of_ble_eq_true rfl)⟩ rfl rfl [0, 1, 2, 3, 4, 5] rfl rfl rfl hl.1 rfl (Nat.le_of_ble_eq_true rfl) dX1_stepsTo_3 ⟨(Nat.le_of_ble_eq_true rfl), (Nat.le_of_ble_eq_true rfl)⟩) hP hD hS hA [0, 1, 2, 3, 4, 5] [] rfl rfl rfl (by decide) (fun r_1 u_2 H locs hw_3 hP hD hS => ?_)
  have hP : va_P D vwCl [kX1 lg l1 l2 l3 l4 l5, kJ cJ l1 96 ff, kI cI l2 96 gf, kI cZ l3 96 zf, kI cI l4 96 kf, kI cI l5 6 cf] H := hP
  have hD : va_D A [kX1 lg l1 l2 l3 l4 l5, kJ cJ l1 96 ff, kI cI l2 96 gf, kI cZ l3 96 zf, kI cI l4 96 kf, kI cI l5 6 cf] := hD
  refine lv_if_eq (tgt := 30) hx hb dX1_stepsTo_6 (by decide) (fun c_4 => ?_) (fun c_4 => ?_)
  · skip
    refine lv_iconst (v := -1) hx hb dX1_stepsTo_30 (by decide) ?_
    exact hret _ _ _ _ _ _ (-1) () dX1_stepsTo_31 rfl hS (Nat.le_of_ble_eq_true rfl) (Nat.le_of_ble_eq_true rfl) trivial (hP.sub [0, 1, 2, 3, 4, 5] rfl) (hD.sub [0, 1, 2, 3, 4, 5] rfl rfl)
  · skip
    refine lv_aload_n hx hb dX1_stepsTo_9 rfl (lv_at hl 0 rfl) ?_
    refine va_get (D := D) (ci := 1) (v := .ref l1) (C := RX1) (T := TX1) (N := 5) hx hb hts iT_X1 hown hK1 hP 0 rfl rfl 0 (by decide) (hts _ t_136) (fun _ h9 => h9) rfl dX1_stepsTo_10 ?_
    refine lv_iload_n hx hb dX1_stepsTo_13 rfl (lv_at hl 1 rfl) ?_
    refine lv_bipush (v := 16) hx hb dX1_stepsTo_14 (by decide) ?_
    refine lv_imul hx hb dX1_stepsTo_16 ?_
    refine lv_nmi (show _ = (nI (a * 16)) from pk_mul (a) (16)) ?_
    refine lv_iload_n hx hb dX1_stepsTo_17 rfl (lv_at hl 2 rfl) ?_
    refine lv_iadd hx hb dX1_stepsTo_18 ?_
    refine lv_nmi (show _ = (nI ((a * 16) + b)) from nI_add ((a * 16)) (b)) ?_
    refine va_lald hx hb hK1 hP 1 1 rfl rfl (vp_in_nI (by omega) (by omega)) dX1_stepsTo_19 ?_
    refine lv_nml (show _ = ff ((a * 16) + b) from by rw [nI_clamp (n := ((a * 16) + b)) (by omega)]) ?_
    refine lv_ldc2 hx hb hown (hts _ t_516) dX1_stepsTo_20 ?_
    refine va_mmin_long hx hb (hml.trans hl.1.symm) hown (hts _ t_517) (hts _ t_518) (hts _ t_9) (hts _ t_519) (Nat.le_of_ble_eq_true rfl) (Nat.le_of_ble_eq_true rfl) (Nat.le_of_ble_eq_true rfl) (Nat.le_of_ble_eq_true rfl) dX1_stepsTo_23 ?_
    refine lv_l2i (v := (if 2147483647 < (ff ((a * 16) + b)) then 2147483647 else (ff ((a * 16) + b))).toInt32) hx hb dX1_stepsTo_26 rfl ?_
    refine lv_goto (tgt := 31) hx hb dX1_stepsTo_27 (by decide) ?_
    exact hret _ _ _ _ _ _ ((if 2147483647 < (ff ((a * 16) + b)) then 2147483647 else (ff ((a * 16) + b))).toInt32) () dX1_stepsTo_31 rfl hS (Nat.le_of_ble_eq_true rfl) (Nat.le_of_ble_eq_true rfl) trivial (hP.sub [0, 1, 2, 3, 4, 5] rfl) (hD.sub [0, 1, 2, 3, 4, 5] rfl rfl)
set_option maxHeartbeats 4000000 in
set_option maxRecDepth 100000 in
theorem c_X1_firstTo (sz : Nat) (lg : Nat) (l1 : Nat) (l2 : Nat) (l3 : Nat) (l4 : Nat) (l5 : Nat) (a : Nat) (b : Nat) (ff : Nat → Int64) (gf : Nat → Int32) (zf : Nat → Int32) (kf : Nat → Int32) (cf : Nat → Int32) (ha : a < 6) (hb0 : b < 16) : CTi l D cI cJ cZ cR yX1_firstTo cX1_firstTo 3 (some .int) 0 0 0 0 sz [.ref lg, .int (nI a), .int (nI b)] [kX1 lg l1 l2 l3 l4 l5, kJ cJ l1 96 ff, kI cI l2 96 gf, kI cZ l3 96 zf, kI cI l4 96 kf, kI cI l5 6 cf] (fun (r : Int32) (u : Unit) => True) (fun (u : Unit) => [kX1 lg l1 l2 l3 l4 l5, kJ cJ l1 96 ff, kI cI l2 96 gf, kI cZ l3 96 zf, kI cI l4 96 kf, kI cI l5 6 cf]) := by
  refine CTi.of (ty := .int) (by decide) (Nat.le_of_ble_eq_true rfl) rfl ?_
  intro p e s m below meth c A Q ls hd hin hK hsz hP hD hA hS hl hret
  obtain ⟨hx, hb, hml, hown, hts⟩ := id hd
  have hK1 := hK.1
  have hown : s.vm.findClass RX1 = some m.cls := hown
  have hl : lv_has ls 3 [(0, .ref lg), (1, .int (nI a)), (2, .int (nI b))] := hl
  refine lv_aload_n hx hb dX1_firstTo_0 rfl (lv_at hl 0 rfl) ?_
  refine va_get (D := D) (ci := 1) (v := .ref l2) (C := RX1) (T := TX1) (N := 5) hx hb hts iT_X1 hown hK1 hP 0 rfl rfl 1 (by decide) (hts _ t_137) (fun _ h9 => h9) rfl dX1_firstTo_1 ?_
  refine lv_iload_n hx hb dX1_firstTo_4 rfl (lv_at hl 1 rfl) ?_
  refine lv_bipush (v := 16) hx hb dX1_firstTo_5 (by decide) ?_
  refine lv_imul hx hb dX1_firstTo_7 ?_
  refine lv_nmi (show _ = (nI (a * 16)) from pk_mul (a) (16)) ?_
  refine lv_iload_n hx hb dX1_firstTo_8 rfl (lv_at hl 2 rfl) ?_
  refine lv_iadd hx hb dX1_firstTo_9 ?_
  refine lv_nmi (show _ = (nI ((a * 16) + b)) from nI_add ((a * 16)) (b)) ?_
  refine va_iald hx hb hK1 hP 2 0 rfl rfl (vp_in_nI (by omega) (by omega)) dX1_firstTo_10 ?_
  refine lv_nmi (show _ = gf ((a * 16) + b) from by rw [nI_clamp (n := ((a * 16) + b)) (by omega)]) ?_
  exact hret _ _ _ _ _ _ (gf ((a * 16) + b)) () dX1_firstTo_11 rfl hS (Nat.le_of_ble_eq_true rfl) (Nat.le_of_ble_eq_true rfl) trivial (hP.sub [0, 1, 2, 3, 4, 5] rfl) (hD.sub [0, 1, 2, 3, 4, 5] rfl rfl)
set_option maxHeartbeats 4000000 in
set_option maxRecDepth 100000 in
theorem c_X6_kinds (sz : Nat) (h0 : Nat) (pg : Nat) (fg : Nat) (og : Nat) (oS : Int32) (lS : Int32) (s1 : Int32) (s2 : Int32) (s3 : Int32) (lg : Nat) (l1 : Nat) (l2 : Nat) (l3 : Nat) (l4 : Nat) (l5 : Nat) (bk : Nat) (br : Nat) (r9 : Nat) (ff : Nat → Int64) (gf : Nat → Int32) (zf : Nat → Int32) (kf : Nat → Int32) (cf : Nat → Int32) (rho : Nat → RT) (p0 : Int32) (hr : r9 ≤ 9) (hB : BI rho r9) : CTi l D cI cJ cZ cR yX6_kinds cX6_kinds 4 (some .int) 5 127 0 0 sz [.ref h0, .int p0] ([kX6 h0 pg bk fg og lg oS lS s1 s2 s3, kX1 lg l1 l2 l3 l4 l5, kJ cJ l1 96 ff, kI cI l2 96 gf, kI cZ l3 96 zf, kI cI l4 96 kf, kI cI l5 6 cf, kX5 bk br (nI r9), kQ cR br 9 (fun k => some ((rho k).1.1))] ++ RB cI rho) (fun (r : Int32) (u : (Nat → Int64) × (Nat → Int32) × (Nat → Int32) × (Nat → Int32) × (Nat → Int32) × Int32) => True) (fun (u : (Nat → Int64) × (Nat → Int32) × (Nat → Int32) × (Nat → Int32) × (Nat → Int32) × Int32) => ([kX6 h0 pg bk fg og lg oS u.2.2.2.2.2 s1 s2 s3, kX1 lg l1 l2 l3 l4 l5, kJ cJ l1 96 u.1, kI cI l2 96 u.2.1, kI cZ l3 96 u.2.2.1, kI cI l4 96 u.2.2.2.1, kI cI l5 6 u.2.2.2.2.1, kX5 bk br (nI r9), kQ cR br 9 (fun k => some ((rho k).1.1))] ++ RB cI rho)) := by
  refine CTi.of (ty := .int) (by decide) (Nat.le_of_ble_eq_true rfl) rfl ?_
  intro p e s m below meth c A Q ls hd hin hK hsz hP hD hA hS hl hret
  obtain ⟨hx, hb, hml, hown, hts⟩ := id hd
  have hK1 := hK.1
  have hown : s.vm.findClass RX6 = some m.cls := hown
  have hl : lv_has ls 4 [(0, .ref h0), (1, .int p0)] := hl
  refine lv_iload_n hx hb dX6_kinds_0 rfl (lv_at hl 1 rfl) ?_
  have hPD : PD D A ([] ++ ([kX6 h0 pg bk fg og lg oS lS s1 s2 s3, kX1 lg l1 l2 l3 l4 l5, kJ cJ l1 96 ff, kI cI l2 96 gf, kI cZ l3 96 zf, kI cI l4 96 kf, kI cI l5 6 cf, kX5 bk br (nI r9), kQ cR br 9 (fun k => some ((rho k).1.1))] ++ RB cI rho)) s.heap := PD.perm ⟨hP, hD⟩ (permA pm_21)
  refine xp_i (wc := []) (wr := ([kX6 h0 pg bk fg og lg oS lS s1 s2 s3, kX1 lg l1 l2 l3 l4 l5, kJ cJ l1 96 ff, kI cI l2 96 gf, kI cZ l3 96 zf, kI cI l4 96 kf, kI cI l5 6 cf, kX5 bk br (nI r9), kQ cR br 9 (fun k => some ((rho k).1.1))] ++ RB cI rho)) (xqS (n := 1) (As := [.int p0]) (rest := []) hd hK hPD.left (c_X6_isOpen l D cI cJ cZ cR _ p0 ) (gS t_341 mS_X6_isOpen) hS_X6_isOpen ⟨(Nat.le_of_ble_eq_true rfl), (Nat.le_of_ble_eq_true rfl)⟩ rfl hl.1 rfl (Nat.le_of_ble_eq_true rfl) dX6_kinds_1 ⟨(Nat.le_of_ble_eq_true rfl), (Nat.le_of_ble_eq_true rfl)⟩) hPD hS hA (fun r_1 u_2 H locs hw_3 hPD hS => ?_)
  have hw_4 : r_1 = (opn p0) := hw_3
  subst hw_4
  obtain ⟨hP, hD⟩ := hPD.perm permA'
  have hP : va_P D vwCl ([kX6 h0 pg bk fg og lg oS lS s1 s2 s3, kX1 lg l1 l2 l3 l4 l5, kJ cJ l1 96 ff, kI cI l2 96 gf, kI cZ l3 96 zf, kI cI l4 96 kf, kI cI l5 6 cf, kX5 bk br (nI r9), kQ cR br 9 (fun k => some ((rho k).1.1))] ++ RB cI rho) H := hP
  have hD : va_D A ([kX6 h0 pg bk fg og lg oS lS s1 s2 s3, kX1 lg l1 l2 l3 l4 l5, kJ cJ l1 96 ff, kI cI l2 96 gf, kI cZ l3 96 zf, kI cI l4 96 kf, kI cI l5 6 cf, kX5 bk br (nI r9), kQ cR br 9 (fun k => some ((rho k).1.1))] ++ RB cI rho) := hD
  refine lv_if_ne (tgt := 11) hx hb dX6_kinds_4 (by decide) (fun c_5 => ?_) (fun c_5 => ?_)
  · skip
    obtain ⟨a9, ha9, ea9⟩ := opn_y c_5
    have hl : lv_has ls 4 [(0, .ref h0), (1, .int (nI a9))] := by rw [← ea9]; exact hl
    refine lv_aload_n hx hb dX6_kinds_11 rfl (lv_at hl 0 rfl) ?_
    have hPD : PD D A (([kX6 h0 pg bk fg og lg oS lS s1 s2 s3, kX1 lg l1 l2 l3 l4 l5, kJ cJ l1 96 ff, kI cI l2 96 gf, kI cZ l3 96 zf, kI cI l4 96 kf, kI cI l5 6 cf, kX5 bk br (nI r9), kQ cR br 9 (fun k => some ((rho k).1.1))] ++ RB cI rho) ++ []) H := PD.perm ⟨hP, hD⟩ (permB pm_19)
    refine xp_v (wc := ([kX6 h0 pg bk fg og lg oS lS s1 s2 s3, kX1 lg l1 l2 l3 l4 l5, kJ cJ l1 96 ff, kI cI l2 96 gf, kI cZ l3 96 zf, kI cI l4 96 kf, kI cI l5 6 cf, kX5 bk br (nI r9), kQ cR br 9 (fun k => some ((rho k).1.1))] ++ RB cI rho)) (wr := []) (xqV (n := 0) (As := []) (rest := []) (ci := 6) (q0 := 0) hd hK hPD.left (c_X6_bringLights l D cI cJ cZ cR _ h0 pg fg og oS lS s1 s2 s3 lg l1 l2 l3 l4 l5 bk br r9 ff gf zf kf cf rho hr hB) (gV t_450 mV_X6_bringLights) hV_X6_bringLights ⟨(Nat.le_of_ble_eq_true rfl), (Nat.le_of_ble_eq_true rfl)⟩ rfl rfl rfl hl.1 rfl (Nat.le_of_ble_eq_true rfl) dX6_kinds_12 ⟨(Nat.le_of_ble_eq_true rfl), (Nat.le_of_ble_eq_true rfl)⟩) hPD hS hA (fun u_7 H locs hw_8 hPD hS => ?_)
    obtain ⟨f2_9, g2_10, z2_11, k2_12, c2_13, l2v_14⟩ := u_7
    obtain ⟨hP, hD⟩ := hPD.perm permB'
    have hP : va_P D vwCl ([kX6 h0 pg bk fg og lg oS l2v_14 s1 s2 s3, kX1 lg l1 l2 l3 l4 l5, kJ cJ l1 96 f2_9, kI cI l2 96 g2_10, kI cZ l3 96 z2_11, kI cI l4 96 k2_12, kI cI l5 6 c2_13, kX5 bk br (nI r9), kQ cR br 9 (fun k => some ((rho k).1.1))] ++ RB cI rho) H := hP
    have hD : va_D A ([kX6 h0 pg bk fg og lg oS l2v_14 s1 s2 s3, kX1 lg l1 l2 l3 l4 l5, kJ cJ l1 96 f2_9, kI cI l2 96 g2_10, kI cZ l3 96 z2_11, kI cI l4 96 k2_12, kI cI l5 6 c2_13, kX5 bk br (nI r9), kQ cR br 9 (fun k => some ((rho k).1.1))] ++ RB cI rho) := hD
    refine lv_iconst (v := 0) hx hb dX6_kinds_15 (by decide) ?_
    refine lv_istore_n (lv' := [(2, .int 0), (0, .ref h0), (1, .int (nI a9))]) hx hb dX6_kinds_16 rfl hl (by decide) rfl (fun ls hl => ?_)
    refine lv_iconst (v := 0) hx hb dX6_kinds_17 (by decide) ?_
    refine lv_istore_n (lv' := [(3, .int 0), (2, .int 0), (0, .ref h0), (1, .int (nI a9))]) hx hb dX6_kinds_18 rfl hl (by decide) rfl (fun ls hl => ?_)
    have LOOP_19 : ∀ (n : Nat) (i : Nat) (bi : Int32), (i + n = 16) → ∀ (H : Heap) (locs : List Loc) (ls : Array Slot), va_P D vwCl ([kX6 h0 pg bk fg og lg oS l2v_14 s1 s2 s3, kX1 lg l1 l2 l3 l4 l5, kJ cJ l1 96 f2_9, kI cI l2 96 g2_10, kI cZ l3 96 z2_11, kI cI l4 96 k2_12, kI cI l5 6 c2_13, kX5 bk br (nI r9), kQ cR br 9 (fun k => some ((rho k).1.1))] ++ RB cI rho) H → va_D A ([kX6 h0 pg bk fg og lg oS l2v_14 s1 s2 s3, kX1 lg l1 l2 l3 l4 l5, kJ cJ l1 96 f2_9, kI cI l2 96 g2_10, kI cZ l3 96 z2_11, kI cI l4 96 k2_12, kI cI l5 6 c2_13, kX5 bk br (nI r9), kQ cR br 9 (fun k => some ((rho k).1.1))] ++ RB cI rho) → va_S A s.heap H locs → lv_has ls 4 [(0, .ref h0), (1, .int (nI a9)), (2, .int bi), (3, .int (nI i))] → W p l e (rM 5 0 0 127) s m ([.ref h0, .int p0] : List Value).toArray below meth c H locs 0 0 Q (F0 m 19 ls []) := by
      intro n
      induction n with
      | zero =>
        intro i bi hi H locs ls hP hD hS hl
        refine lv_iload_n hx hb dX6_kinds_19 rfl (lv_at hl 3 rfl) ?_
        refine lv_bipush (v := 16) hx hb dX6_kinds_20 (by decide) ?_
        refine lv_icmp_ge (tgt := 49) hx hb dX6_kinds_22 (by decide) (fun c_15 => ?_) (fun c_15 => ?_)
        rotate_left
        · exact absurd (nI_le (a := 16) (b := i) (by omega) (by omega)) c_15
        refine lv_iload_n hx hb dX6_kinds_49 rfl (lv_at hl 2 rfl) ?_
        have hPD : PD D A ([kX6 h0 pg bk fg og lg oS l2v_14 s1 s2 s3, kX1 lg l1 l2 l3 l4 l5, kJ cJ l1 96 f2_9, kI cI l2 96 g2_10, kI cZ l3 96 z2_11, kI cI l4 96 k2_12, kI cI l5 6 c2_13, kX5 bk br (nI r9), kQ cR br 9 (fun k => some ((rho k).1.1))] ++ RB cI rho) H := (PD.perm ⟨hP, hD⟩ (permB pm_19)).left
        exact hret _ _ _ _ _ _ bi (f2_9, g2_10, z2_11, k2_12, c2_13, l2v_14) dX6_kinds_50 rfl hS (Nat.le_of_ble_eq_true rfl) (Nat.le_of_ble_eq_true rfl) trivial hPD.1 hPD.2
      | succ n ih_19 =>
        intro i bi hi H locs ls hP hD hS hl
        refine lv_iload_n hx hb dX6_kinds_19 rfl (lv_at hl 3 rfl) ?_
        refine lv_bipush (v := 16) hx hb dX6_kinds_20 (by decide) ?_
        refine lv_icmp_ge (tgt := 49) hx hb dX6_kinds_22 (by decide) (fun c_16 => ?_) (fun c_16 => ?_)
        · exact absurd c_16 (nI_ge (a := i) (b := 16) (by omega) (by omega))
        refine lv_aload_n hx hb dX6_kinds_25 rfl (lv_at hl 0 rfl) ?_
        refine va_get (D := D) (ci := 6) (v := .ref lg) (C := RX6) (T := TX6) (N := 10) hx hb hts iT_X6 hown hK1 hP 0 rfl rfl 4 (by decide) (hts _ t_158) (fun _ h9 => h9) rfl dX6_kinds_26 ?_
        refine lv_iload_n hx hb dX6_kinds_29 rfl (lv_at hl 1 rfl) ?_
        refine lv_iload_n hx hb dX6_kinds_30 rfl (lv_at hl 3 rfl) ?_
        have hPD : PD D A ([kX1 lg l1 l2 l3 l4 l5, kJ cJ l1 96 f2_9, kI cI l2 96 g2_10, kI cZ l3 96 z2_11, kI cI l4 96 k2_12, kI cI l5 6 c2_13] ++ ([kX6 h0 pg bk fg og lg oS l2v_14 s1 s2 s3, kX5 bk br (nI r9), kQ cR br 9 (fun k => some ((rho k).1.1))] ++ RB cI rho)) H := PD.perm ⟨hP, hD⟩ (permA pm_22)
        refine xp_i (wc := [kX1 lg l1 l2 l3 l4 l5, kJ cJ l1 96 f2_9, kI cI l2 96 g2_10, kI cZ l3 96 z2_11, kI cI l4 96 k2_12, kI cI l5 6 c2_13]) (wr := ([kX6 h0 pg bk fg og lg oS l2v_14 s1 s2 s3, kX5 bk br (nI r9), kQ cR br 9 (fun k => some ((rho k).1.1))] ++ RB cI rho)) (xqV (n := 2) (As := [.int (nI a9), .int (nI i)]) (rest := []) (ci := 1) (q0 := 0) hd hK hPD.left (c_X1_reaches l D cI cJ cZ cR _ lg l1 l2 l3 l4 l5 a9 i f2_9 g2_10 z2_11 k2_12 c2_13 (by omega) (by omega)) (gV t_503 mV_X1_reaches) hV_X1_reaches ⟨(Nat.le_of_ble_eq_true rfl), (Nat.le_of_ble_eq_true rfl)⟩ rfl rfl rfl hl.1 rfl (Nat.le_of_ble_eq_true rfl) dX6_kinds_31 ⟨(Nat.le_of_ble_eq_true rfl), (Nat.le_of_ble_eq_true rfl)⟩) hPD hS hA (fun r_17 u_18 H locs hw_19 hPD hS => ?_)
        obtain ⟨hP, hD⟩ := hPD.perm permA'
        have hP : va_P D vwCl ([kX6 h0 pg bk fg og lg oS l2v_14 s1 s2 s3, kX5 bk br (nI r9), kQ cR br 9 (fun k => some ((rho k).1.1)), kX1 lg l1 l2 l3 l4 l5, kJ cJ l1 96 f2_9, kI cI l2 96 g2_10, kI cZ l3 96 z2_11, kI cI l4 96 k2_12, kI cI l5 6 c2_13] ++ RB cI rho) H := hP
        have hD : va_D A ([kX6 h0 pg bk fg og lg oS l2v_14 s1 s2 s3, kX5 bk br (nI r9), kQ cR br 9 (fun k => some ((rho k).1.1)), kX1 lg l1 l2 l3 l4 l5, kJ cJ l1 96 f2_9, kI cI l2 96 g2_10, kI cZ l3 96 z2_11, kI cI l4 96 k2_12, kI cI l5 6 c2_13] ++ RB cI rho) := hD
        refine lv_if_eq (tgt := 43) hx hb dX6_kinds_34 (by decide) (fun c_20 => ?_) (fun c_20 => ?_)
        · skip
          refine lv_iinc (v := nI (i + 1)) (lv' := [(3, .int (nI (i + 1))), (0, .ref h0), (1, .int (nI a9)), (2, .int bi)]) hx hb dX6_kinds_43 hl (k := 3) rfl (nI_1 i) (by decide) rfl (fun ls hl => ?_)
          refine lv_goto (tgt := 19) hx hb dX6_kinds_46 (by decide) ?_
          have hPD : PD D A ([kX6 h0 pg bk fg og lg oS l2v_14 s1 s2 s3, kX1 lg l1 l2 l3 l4 l5, kJ cJ l1 96 f2_9, kI cI l2 96 g2_10, kI cZ l3 96 z2_11, kI cI l4 96 k2_12, kI cI l5 6 c2_13, kX5 bk br (nI r9), kQ cR br 9 (fun k => some ((rho k).1.1))] ++ RB cI rho) H := (PD.perm ⟨hP, hD⟩ (permB pm_23)).left
          exact ih_19 (i + 1) bi (by omega) _ _ _ hPD.1 hPD.2 hS (lv_sub hl [1, 2, 3, 0] rfl)
        · skip
          refine lv_iload_n hx hb dX6_kinds_37 rfl (lv_at hl 2 rfl) ?_
          refine lv_iconst (v := 1) hx hb dX6_kinds_38 (by decide) ?_
          refine lv_iload_n hx hb dX6_kinds_39 rfl (lv_at hl 3 rfl) ?_
          refine lv_ishl hx hb dX6_kinds_40 ?_
          refine lv_ior hx hb dX6_kinds_41 ?_
          refine lv_istore_n (lv' := [(2, .int (bi ||| ((1 : Int32) <<< ((nI i) &&& 31)))), (0, .ref h0), (1, .int (nI a9)), (3, .int (nI i))]) hx hb dX6_kinds_42 rfl hl (by decide) rfl (fun ls hl => ?_)
          refine lv_iinc (v := nI (i + 1)) (lv' := [(3, .int (nI (i + 1))), (2, .int (bi ||| ((1 : Int32) <<< ((nI i) &&& 31)))), (0, .ref h0), (1, .int (nI a9))]) hx hb dX6_kinds_43 hl (k := 3) rfl (nI_1 i) (by decide) rfl (fun ls hl => ?_)
          refine lv_goto (tgt := 19) hx hb dX6_kinds_46 (by decide) ?_
          have hPD : PD D A ([kX6 h0 pg bk fg og lg oS l2v_14 s1 s2 s3, kX1 lg l1 l2 l3 l4 l5, kJ cJ l1 96 f2_9, kI cI l2 96 g2_10, kI cZ l3 96 z2_11, kI cI l4 96 k2_12, kI cI l5 6 c2_13, kX5 bk br (nI r9), kQ cR br 9 (fun k => some ((rho k).1.1))] ++ RB cI rho) H := (PD.perm ⟨hP, hD⟩ (permB pm_23)).left
          exact ih_19 (i + 1) (bi ||| ((1 : Int32) <<< ((nI i) &&& 31))) (by omega) _ _ _ hPD.1 hPD.2 hS (lv_sub hl [2, 3, 1, 0] rfl)
    have hPD : PD D A ([kX6 h0 pg bk fg og lg oS l2v_14 s1 s2 s3, kX1 lg l1 l2 l3 l4 l5, kJ cJ l1 96 f2_9, kI cI l2 96 g2_10, kI cZ l3 96 z2_11, kI cI l4 96 k2_12, kI cI l5 6 c2_13, kX5 bk br (nI r9), kQ cR br 9 (fun k => some ((rho k).1.1))] ++ RB cI rho) H := (PD.perm ⟨hP, hD⟩ (permB pm_19)).left
    exact LOOP_19 16 0 0 (by omega) _ _ _ hPD.1 hPD.2 hS (lv_sub hl [2, 3, 1, 0] rfl)
  · skip
    refine lv_sipush (v := -1001) hx hb dX6_kinds_7 (by decide) ?_
    have hPD : PD D A ([kX6 h0 pg bk fg og lg oS lS s1 s2 s3, kX1 lg l1 l2 l3 l4 l5, kJ cJ l1 96 ff, kI cI l2 96 gf, kI cZ l3 96 zf, kI cI l4 96 kf, kI cI l5 6 cf, kX5 bk br (nI r9), kQ cR br 9 (fun k => some ((rho k).1.1))] ++ RB cI rho) H := (PD.perm ⟨hP, hD⟩ (permB pm_19)).left
    exact hret _ _ _ _ _ _ (-1001) (ff, gf, zf, kf, cf, lS) dX6_kinds_10 rfl hS (Nat.le_of_ble_eq_true rfl) (Nat.le_of_ble_eq_true rfl) trivial hPD.1 hPD.2
set_option maxHeartbeats 4000000 in
set_option maxRecDepth 100000 in
theorem c_X6_light (sz : Nat) (h0 : Nat) (pg : Nat) (fg : Nat) (og : Nat) (oS : Int32) (lS : Int32) (s1 : Int32) (s2 : Int32) (s3 : Int32) (lg : Nat) (l1 : Nat) (l2 : Nat) (l3 : Nat) (l4 : Nat) (l5 : Nat) (bk : Nat) (br : Nat) (r9 : Nat) (ff : Nat → Int64) (gf : Nat → Int32) (zf : Nat → Int32) (kf : Nat → Int32) (cf : Nat → Int32) (rho : Nat → RT) (p0 : Int32) (p1 : Int32) (p2 : Int32) (hr : r9 ≤ 9) (hB : BI rho r9) : CTi l D cI cJ cZ cR yX6_light cX6_light 4 (some .int) 5 127 0 0 sz [.ref h0, .int p0, .int p1, .int p2] ([kX6 h0 pg bk fg og lg oS lS s1 s2 s3, kX1 lg l1 l2 l3 l4 l5, kJ cJ l1 96 ff, kI cI l2 96 gf, kI cZ l3 96 zf, kI cI l4 96 kf, kI cI l5 6 cf, kX5 bk br (nI r9), kQ cR br 9 (fun k => some ((rho k).1.1))] ++ RB cI rho) (fun (r : Int32) (u : (Nat → Int64) × (Nat → Int32) × (Nat → Int32) × (Nat → Int32) × (Nat → Int32) × Int32) => True) (fun (u : (Nat → Int64) × (Nat → Int32) × (Nat → Int32) × (Nat → Int32) × (Nat → Int32) × Int32) => ([kX6 h0 pg bk fg og lg oS u.2.2.2.2.2 s1 s2 s3, kX1 lg l1 l2 l3 l4 l5, kJ cJ l1 96 u.1, kI cI l2 96 u.2.1, kI cZ l3 96 u.2.2.1, kI cI l4 96 u.2.2.2.1, kI cI l5 6 u.2.2.2.2.1, kX5 bk br (nI r9), kQ cR br 9 (fun k => some ((rho k).1.1))] ++ RB cI rho)) := by
  refine CTi.of (ty := .int) (by decide) (Nat.le_of_ble_eq_true rfl) rfl ?_
  intro p e s m below meth c A Q ls hd hin hK hsz hP hD hA hS hl hret
  obtain ⟨hx, hb, hml, hown, hts⟩ := id hd
  have hK1 := hK.1
  have hown : s.vm.findClass RX6 = some m.cls := hown
  have hl : lv_has ls 4 [(0, .ref h0), (1, .int p0), (2, .int p1), (3, .int p2)] := hl
  refine lv_iload_n hx hb dX6_light_0 rfl (lv_at hl 1 rfl) ?_
  have hPD : PD D A ([] ++ ([kX6 h0 pg bk fg og lg oS lS s1 s2 s3, kX1 lg l1 l2 l3 l4 l5, kJ cJ l1 96 ff, kI cI l2 96 gf, kI cZ l3 96 zf, kI cI l4 96 kf, kI cI l5 6 cf, kX5 bk br (nI r9), kQ cR br 9 (fun k => some ((rho k).1.1))] ++ RB cI rho)) s.heap := PD.perm ⟨hP, hD⟩ (permA pm_21)
  refine xp_i (wc := []) (wr := ([kX6 h0 pg bk fg og lg oS lS s1 s2 s3, kX1 lg l1 l2 l3 l4 l5, kJ cJ l1 96 ff, kI cI l2 96 gf, kI cZ l3 96 zf, kI cI l4 96 kf, kI cI l5 6 cf, kX5 bk br (nI r9), kQ cR br 9 (fun k => some ((rho k).1.1))] ++ RB cI rho)) (xqS (n := 1) (As := [.int p0]) (rest := []) hd hK hPD.left (c_X6_isOpen l D cI cJ cZ cR _ p0 ) (gS t_341 mS_X6_isOpen) hS_X6_isOpen ⟨(Nat.le_of_ble_eq_true rfl), (Nat.le_of_ble_eq_true rfl)⟩ rfl hl.1 rfl (Nat.le_of_ble_eq_true rfl) dX6_light_1 ⟨(Nat.le_of_ble_eq_true rfl), (Nat.le_of_ble_eq_true rfl)⟩) hPD hS hA (fun r_1 u_2 H locs hw_3 hPD hS => ?_)
  have hw_4 : r_1 = (opn p0) := hw_3
  subst hw_4
  obtain ⟨hP, hD⟩ := hPD.perm permA'
  have hP : va_P D vwCl ([kX6 h0 pg bk fg og lg oS lS s1 s2 s3, kX1 lg l1 l2 l3 l4 l5, kJ cJ l1 96 ff, kI cI l2 96 gf, kI cZ l3 96 zf, kI cI l4 96 kf, kI cI l5 6 cf, kX5 bk br (nI r9), kQ cR br 9 (fun k => some ((rho k).1.1))] ++ RB cI rho) H := hP
  have hD : va_D A ([kX6 h0 pg bk fg og lg oS lS s1 s2 s3, kX1 lg l1 l2 l3 l4 l5, kJ cJ l1 96 ff, kI cI l2 96 gf, kI cZ l3 96 zf, kI cI l4 96 kf, kI cI l5 6 cf, kX5 bk br (nI r9), kQ cR br 9 (fun k => some ((rho k).1.1))] ++ RB cI rho) := hD
  refine lv_if_ne (tgt := 11) hx hb dX6_light_4 (by decide) (fun c_5 => ?_) (fun c_5 => ?_)
  · skip
    refine lv_iload_n hx hb dX6_light_11 rfl (lv_at hl 2 rfl) ?_
    refine lv_if_lt (tgt := 30) hx hb dX6_light_12 (by decide) (fun c_6 => ?_) (fun c_6 => ?_)
    · skip
      refine lv_sipush (v := -1002) hx hb dX6_light_30 (by decide) ?_
      have hPD : PD D A ([kX6 h0 pg bk fg og lg oS lS s1 s2 s3, kX1 lg l1 l2 l3 l4 l5, kJ cJ l1 96 ff, kI cI l2 96 gf, kI cZ l3 96 zf, kI cI l4 96 kf, kI cI l5 6 cf, kX5 bk br (nI r9), kQ cR br 9 (fun k => some ((rho k).1.1))] ++ RB cI rho) H := (PD.perm ⟨hP, hD⟩ (permB pm_19)).left
      exact hret _ _ _ _ _ _ (-1002) (ff, gf, zf, kf, cf, lS) dX6_light_33 rfl hS (Nat.le_of_ble_eq_true rfl) (Nat.le_of_ble_eq_true rfl) trivial hPD.1 hPD.2
    · skip
      refine lv_iload_n hx hb dX6_light_15 rfl (lv_at hl 2 rfl) ?_
      refine lv_bipush (v := 16) hx hb dX6_light_16 (by decide) ?_
      refine lv_icmp_ge (tgt := 30) hx hb dX6_light_18 (by decide) (fun c_7 => ?_) (fun c_7 => ?_)
      · skip
        refine lv_sipush (v := -1002) hx hb dX6_light_30 (by decide) ?_
        have hPD : PD D A ([kX6 h0 pg bk fg og lg oS lS s1 s2 s3, kX1 lg l1 l2 l3 l4 l5, kJ cJ l1 96 ff, kI cI l2 96 gf, kI cZ l3 96 zf, kI cI l4 96 kf, kI cI l5 6 cf, kX5 bk br (nI r9), kQ cR br 9 (fun k => some ((rho k).1.1))] ++ RB cI rho) H := (PD.perm ⟨hP, hD⟩ (permB pm_19)).left
        exact hret _ _ _ _ _ _ (-1002) (ff, gf, zf, kf, cf, lS) dX6_light_33 rfl hS (Nat.le_of_ble_eq_true rfl) (Nat.le_of_ble_eq_true rfl) trivial hPD.1 hPD.2
      · skip
        refine lv_iload_n hx hb dX6_light_21 rfl (lv_at hl 3 rfl) ?_
        refine lv_if_lt (tgt := 30) hx hb dX6_light_22 (by decide) (fun c_8 => ?_) (fun c_8 => ?_)
        · skip
          refine lv_sipush (v := -1002) hx hb dX6_light_30 (by decide) ?_
          have hPD : PD D A ([kX6 h0 pg bk fg og lg oS lS s1 s2 s3, kX1 lg l1 l2 l3 l4 l5, kJ cJ l1 96 ff, kI cI l2 96 gf, kI cZ l3 96 zf, kI cI l4 96 kf, kI cI l5 6 cf, kX5 bk br (nI r9), kQ cR br 9 (fun k => some ((rho k).1.1))] ++ RB cI rho) H := (PD.perm ⟨hP, hD⟩ (permB pm_19)).left
          exact hret _ _ _ _ _ _ (-1002) (ff, gf, zf, kf, cf, lS) dX6_light_33 rfl hS (Nat.le_of_ble_eq_true rfl) (Nat.le_of_ble_eq_true rfl) trivial hPD.1 hPD.2
        · skip
          refine lv_iload_n hx hb dX6_light_25 rfl (lv_at hl 3 rfl) ?_
          refine lv_iconst (v := 1) hx hb dX6_light_26 (by decide) ?_
          refine lv_icmp_le (tgt := 34) hx hb dX6_light_27 (by decide) (fun c_9 => ?_) (fun c_9 => ?_)
          · skip
            obtain ⟨a9, ha9, ea9⟩ := opn_y c_5
            obtain ⟨b9, hb9, eb9⟩ := rng16 c_6 c_7
            have hl : lv_has ls 4 [(0, .ref h0), (1, .int (nI a9)), (2, .int p1), (3, .int p2)] := by rw [← ea9]; exact hl
            have hl : lv_has ls 4 [(0, .ref h0), (1, .int (nI a9)), (2, .int (nI b9)), (3, .int p2)] := by rw [← eb9]; exact hl
            refine lv_aload_n hx hb dX6_light_34 rfl (lv_at hl 0 rfl) ?_
            have hPD : PD D A (([kX6 h0 pg bk fg og lg oS lS s1 s2 s3, kX1 lg l1 l2 l3 l4 l5, kJ cJ l1 96 ff, kI cI l2 96 gf, kI cZ l3 96 zf, kI cI l4 96 kf, kI cI l5 6 cf, kX5 bk br (nI r9), kQ cR br 9 (fun k => some ((rho k).1.1))] ++ RB cI rho) ++ []) H := PD.perm ⟨hP, hD⟩ (permB pm_19)
            refine xp_v (wc := ([kX6 h0 pg bk fg og lg oS lS s1 s2 s3, kX1 lg l1 l2 l3 l4 l5, kJ cJ l1 96 ff, kI cI l2 96 gf, kI cZ l3 96 zf, kI cI l4 96 kf, kI cI l5 6 cf, kX5 bk br (nI r9), kQ cR br 9 (fun k => some ((rho k).1.1))] ++ RB cI rho)) (wr := []) (xqV (n := 0) (As := []) (rest := []) (ci := 6) (q0 := 0) hd hK hPD.left (c_X6_bringLights l D cI cJ cZ cR _ h0 pg fg og oS lS s1 s2 s3 lg l1 l2 l3 l4 l5 bk br r9 ff gf zf kf cf rho hr hB) (gV t_450 mV_X6_bringLights) hV_X6_bringLights ⟨(Nat.le_of_ble_eq_true rfl), (Nat.le_of_ble_eq_true rfl)⟩ rfl rfl rfl hl.1 rfl (Nat.le_of_ble_eq_true rfl) dX6_light_35 ⟨(Nat.le_of_ble_eq_true rfl), (Nat.le_of_ble_eq_true rfl)⟩) hPD hS hA (fun u_11 H locs hw_12 hPD hS => ?_)
            obtain ⟨f2_13, g2_14, z2_15, k2_16, c2_17, l2v_18⟩ := u_11
            obtain ⟨hP, hD⟩ := hPD.perm permB'
            have hP : va_P D vwCl ([kX6 h0 pg bk fg og lg oS l2v_18 s1 s2 s3, kX1 lg l1 l2 l3 l4 l5, kJ cJ l1 96 f2_13, kI cI l2 96 g2_14, kI cZ l3 96 z2_15, kI cI l4 96 k2_16, kI cI l5 6 c2_17, kX5 bk br (nI r9), kQ cR br 9 (fun k => some ((rho k).1.1))] ++ RB cI rho) H := hP
            have hD : va_D A ([kX6 h0 pg bk fg og lg oS l2v_18 s1 s2 s3, kX1 lg l1 l2 l3 l4 l5, kJ cJ l1 96 f2_13, kI cI l2 96 g2_14, kI cZ l3 96 z2_15, kI cI l4 96 k2_16, kI cI l5 6 c2_17, kX5 bk br (nI r9), kQ cR br 9 (fun k => some ((rho k).1.1))] ++ RB cI rho) := hD
            refine lv_iload_n hx hb dX6_light_38 rfl (lv_at hl 3 rfl) ?_
            refine lv_if_ne (tgt := 54) hx hb dX6_light_39 (by decide) (fun c_19 => ?_) (fun c_19 => ?_)
            · skip
              refine lv_aload_n hx hb dX6_light_54 rfl (lv_at hl 0 rfl) ?_
              refine va_get (D := D) (ci := 6) (v := .ref lg) (C := RX6) (T := TX6) (N := 10) hx hb hts iT_X6 hown hK1 hP 0 rfl rfl 4 (by decide) (hts _ t_158) (fun _ h9 => h9) rfl dX6_light_55 ?_
              refine lv_iload_n hx hb dX6_light_58 rfl (lv_at hl 1 rfl) ?_
              refine lv_iload_n hx hb dX6_light_59 rfl (lv_at hl 2 rfl) ?_
              have hPD : PD D A ([kX1 lg l1 l2 l3 l4 l5, kJ cJ l1 96 f2_13, kI cI l2 96 g2_14, kI cZ l3 96 z2_15, kI cI l4 96 k2_16, kI cI l5 6 c2_17] ++ ([kX6 h0 pg bk fg og lg oS l2v_18 s1 s2 s3, kX5 bk br (nI r9), kQ cR br 9 (fun k => some ((rho k).1.1))] ++ RB cI rho)) H := PD.perm ⟨hP, hD⟩ (permA pm_22)
              refine xp_i (wc := [kX1 lg l1 l2 l3 l4 l5, kJ cJ l1 96 f2_13, kI cI l2 96 g2_14, kI cZ l3 96 z2_15, kI cI l4 96 k2_16, kI cI l5 6 c2_17]) (wr := ([kX6 h0 pg bk fg og lg oS l2v_18 s1 s2 s3, kX5 bk br (nI r9), kQ cR br 9 (fun k => some ((rho k).1.1))] ++ RB cI rho)) (xqV (n := 2) (As := [.int (nI a9), .int (nI b9)]) (rest := []) (ci := 1) (q0 := 0) hd hK hPD.left (c_X1_firstTo l D cI cJ cZ cR _ lg l1 l2 l3 l4 l5 a9 b9 f2_13 g2_14 z2_15 k2_16 c2_17 (by omega) hb9) (gV t_520 mV_X1_firstTo) hV_X1_firstTo ⟨(Nat.le_of_ble_eq_true rfl), (Nat.le_of_ble_eq_true rfl)⟩ rfl rfl rfl hl.1 rfl (Nat.le_of_ble_eq_true rfl) dX6_light_60 ⟨(Nat.le_of_ble_eq_true rfl), (Nat.le_of_ble_eq_true rfl)⟩) hPD hS hA (fun r_20 u_21 H locs hw_22 hPD hS => ?_)
              obtain ⟨hP, hD⟩ := hPD.perm permA'
              have hP : va_P D vwCl ([kX6 h0 pg bk fg og lg oS l2v_18 s1 s2 s3, kX5 bk br (nI r9), kQ cR br 9 (fun k => some ((rho k).1.1)), kX1 lg l1 l2 l3 l4 l5, kJ cJ l1 96 f2_13, kI cI l2 96 g2_14, kI cZ l3 96 z2_15, kI cI l4 96 k2_16, kI cI l5 6 c2_17] ++ RB cI rho) H := hP
              have hD : va_D A ([kX6 h0 pg bk fg og lg oS l2v_18 s1 s2 s3, kX5 bk br (nI r9), kQ cR br 9 (fun k => some ((rho k).1.1)), kX1 lg l1 l2 l3 l4 l5, kJ cJ l1 96 f2_13, kI cI l2 96 g2_14, kI cZ l3 96 z2_15, kI cI l4 96 k2_16, kI cI l5 6 c2_17] ++ RB cI rho) := hD
              have hPD : PD D A ([kX6 h0 pg bk fg og lg oS l2v_18 s1 s2 s3, kX1 lg l1 l2 l3 l4 l5, kJ cJ l1 96 f2_13, kI cI l2 96 g2_14, kI cZ l3 96 z2_15, kI cI l4 96 k2_16, kI cI l5 6 c2_17, kX5 bk br (nI r9), kQ cR br 9 (fun k => some ((rho k).1.1))] ++ RB cI rho) H := (PD.perm ⟨hP, hD⟩ (permB pm_23)).left
              exact hret _ _ _ _ _ _ r_20 (f2_13, g2_14, z2_15, k2_16, c2_17, l2v_18) dX6_light_63 rfl hS (Nat.le_of_ble_eq_true rfl) (Nat.le_of_ble_eq_true rfl) trivial hPD.1 hPD.2
            · skip
              refine lv_aload_n hx hb dX6_light_42 rfl (lv_at hl 0 rfl) ?_
              refine va_get (D := D) (ci := 6) (v := .ref lg) (C := RX6) (T := TX6) (N := 10) hx hb hts iT_X6 hown hK1 hP 0 rfl rfl 4 (by decide) (hts _ t_158) (fun _ h9 => h9) rfl dX6_light_43 ?_
              refine lv_iload_n hx hb dX6_light_46 rfl (lv_at hl 1 rfl) ?_
              refine lv_iload_n hx hb dX6_light_47 rfl (lv_at hl 2 rfl) ?_
              have hPD : PD D A ([kX1 lg l1 l2 l3 l4 l5, kJ cJ l1 96 f2_13, kI cI l2 96 g2_14, kI cZ l3 96 z2_15, kI cI l4 96 k2_16, kI cI l5 6 c2_17] ++ ([kX6 h0 pg bk fg og lg oS l2v_18 s1 s2 s3, kX5 bk br (nI r9), kQ cR br 9 (fun k => some ((rho k).1.1))] ++ RB cI rho)) H := PD.perm ⟨hP, hD⟩ (permA pm_22)
              refine xp_i (wc := [kX1 lg l1 l2 l3 l4 l5, kJ cJ l1 96 f2_13, kI cI l2 96 g2_14, kI cZ l3 96 z2_15, kI cI l4 96 k2_16, kI cI l5 6 c2_17]) (wr := ([kX6 h0 pg bk fg og lg oS l2v_18 s1 s2 s3, kX5 bk br (nI r9), kQ cR br 9 (fun k => some ((rho k).1.1))] ++ RB cI rho)) (xqV (n := 2) (As := [.int (nI a9), .int (nI b9)]) (rest := []) (ci := 1) (q0 := 0) hd hK hPD.left (c_X1_stepsTo l D cI cJ cZ cR _ lg l1 l2 l3 l4 l5 a9 b9 f2_13 g2_14 z2_15 k2_16 c2_17 (by omega) hb9) (gV t_511 mV_X1_stepsTo) hV_X1_stepsTo ⟨(Nat.le_of_ble_eq_true rfl), (Nat.le_of_ble_eq_true rfl)⟩ rfl rfl rfl hl.1 rfl (Nat.le_of_ble_eq_true rfl) dX6_light_48 ⟨(Nat.le_of_ble_eq_true rfl), (Nat.le_of_ble_eq_true rfl)⟩) hPD hS hA (fun r_23 u_24 H locs hw_25 hPD hS => ?_)
              obtain ⟨hP, hD⟩ := hPD.perm permA'
              have hP : va_P D vwCl ([kX6 h0 pg bk fg og lg oS l2v_18 s1 s2 s3, kX5 bk br (nI r9), kQ cR br 9 (fun k => some ((rho k).1.1)), kX1 lg l1 l2 l3 l4 l5, kJ cJ l1 96 f2_13, kI cI l2 96 g2_14, kI cZ l3 96 z2_15, kI cI l4 96 k2_16, kI cI l5 6 c2_17] ++ RB cI rho) H := hP
              have hD : va_D A ([kX6 h0 pg bk fg og lg oS l2v_18 s1 s2 s3, kX5 bk br (nI r9), kQ cR br 9 (fun k => some ((rho k).1.1)), kX1 lg l1 l2 l3 l4 l5, kJ cJ l1 96 f2_13, kI cI l2 96 g2_14, kI cZ l3 96 z2_15, kI cI l4 96 k2_16, kI cI l5 6 c2_17] ++ RB cI rho) := hD
              refine lv_goto (tgt := 63) hx hb dX6_light_51 (by decide) ?_
              have hPD : PD D A ([kX6 h0 pg bk fg og lg oS l2v_18 s1 s2 s3, kX1 lg l1 l2 l3 l4 l5, kJ cJ l1 96 f2_13, kI cI l2 96 g2_14, kI cZ l3 96 z2_15, kI cI l4 96 k2_16, kI cI l5 6 c2_17, kX5 bk br (nI r9), kQ cR br 9 (fun k => some ((rho k).1.1))] ++ RB cI rho) H := (PD.perm ⟨hP, hD⟩ (permB pm_23)).left
              exact hret _ _ _ _ _ _ r_23 (f2_13, g2_14, z2_15, k2_16, c2_17, l2v_18) dX6_light_63 rfl hS (Nat.le_of_ble_eq_true rfl) (Nat.le_of_ble_eq_true rfl) trivial hPD.1 hPD.2
          · skip
            refine lv_sipush (v := -1002) hx hb dX6_light_30 (by decide) ?_
            have hPD : PD D A ([kX6 h0 pg bk fg og lg oS lS s1 s2 s3, kX1 lg l1 l2 l3 l4 l5, kJ cJ l1 96 ff, kI cI l2 96 gf, kI cZ l3 96 zf, kI cI l4 96 kf, kI cI l5 6 cf, kX5 bk br (nI r9), kQ cR br 9 (fun k => some ((rho k).1.1))] ++ RB cI rho) H := (PD.perm ⟨hP, hD⟩ (permB pm_19)).left
            exact hret _ _ _ _ _ _ (-1002) (ff, gf, zf, kf, cf, lS) dX6_light_33 rfl hS (Nat.le_of_ble_eq_true rfl) (Nat.le_of_ble_eq_true rfl) trivial hPD.1 hPD.2
  · skip
    refine lv_sipush (v := -1001) hx hb dX6_light_7 (by decide) ?_
    have hPD : PD D A ([kX6 h0 pg bk fg og lg oS lS s1 s2 s3, kX1 lg l1 l2 l3 l4 l5, kJ cJ l1 96 ff, kI cI l2 96 gf, kI cZ l3 96 zf, kI cI l4 96 kf, kI cI l5 6 cf, kX5 bk br (nI r9), kQ cR br 9 (fun k => some ((rho k).1.1))] ++ RB cI rho) H := (PD.perm ⟨hP, hD⟩ (permB pm_19)).left
    exact hret _ _ _ _ _ _ (-1001) (ff, gf, zf, kf, cf, lS) dX6_light_10 rfl hS (Nat.le_of_ble_eq_true rfl) (Nat.le_of_ble_eq_true rfl) trivial hPD.1 hPD.2
end
