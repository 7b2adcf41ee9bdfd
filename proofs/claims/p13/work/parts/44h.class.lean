theorem mV_X6_letter : Cond.instanceMethod yX6_letter ∈ gT ∧ Cond.selects RX6 yX6_letter yX6_letter ∈ gT ∧ Cond.initialized RX6 ∈ gT ∧ Cond.code yX6_letter cX6_letter 2 (some .int) ∈ gT := ⟨t_186, t_187, t_1, t_188⟩
theorem hV_X6_letter : yX6_letter.cls = RX6 ∧ yX6_letter.cls ≠ "java/lang/invoke/MethodHandle" ∧ yX6_letter.cls ≠ "java/lang/invoke/VarHandle" ∧ (parseMethodDescriptor yX6_letter.desc).map (fun d => d.parameters.length) = some 1 := by decide +kernel
theorem mV_X6_blank : Cond.instanceMethod yX6_blank ∈ gT ∧ Cond.selects RX6 yX6_blank yX6_blank ∈ gT ∧ Cond.initialized RX6 ∈ gT ∧ Cond.code yX6_blank cX6_blank 2 (some .int) ∈ gT := ⟨t_194, t_195, t_1, t_196⟩
theorem hV_X6_blank : yX6_blank.cls = RX6 ∧ yX6_blank.cls ≠ "java/lang/invoke/MethodHandle" ∧ yX6_blank.cls ≠ "java/lang/invoke/VarHandle" ∧ (parseMethodDescriptor yX6_blank.desc).map (fun d => d.parameters.length) = some 0 := by decide +kernel
theorem mV_X6_fault : Cond.instanceMethod yX6_fault ∈ gT ∧ Cond.selects RX6 yX6_fault yX6_fault ∈ gT ∧ Cond.initialized RX6 ∈ gT ∧ Cond.code yX6_fault cX6_fault 2 (some .int) ∈ gT := ⟨t_202, t_203, t_1, t_204⟩
theorem hV_X6_fault : yX6_fault.cls = RX6 ∧ yX6_fault.cls ≠ "java/lang/invoke/MethodHandle" ∧ yX6_fault.cls ≠ "java/lang/invoke/VarHandle" ∧ (parseMethodDescriptor yX6_fault.desc).map (fun d => d.parameters.length) = some 1 := by decide +kernel
theorem mV_X6_rule : Cond.instanceMethod yX6_rule ∈ gT ∧ Cond.selects RX6 yX6_rule yX6_rule ∈ gT ∧ Cond.initialized RX6 ∈ gT ∧ Cond.code yX6_rule cX6_rule 1 (some .int) ∈ gT := ⟨t_224, t_225, t_1, t_226⟩
theorem hV_X6_rule : yX6_rule.cls = RX6 ∧ yX6_rule.cls ≠ "java/lang/invoke/MethodHandle" ∧ yX6_rule.cls ≠ "java/lang/invoke/VarHandle" ∧ (parseMethodDescriptor yX6_rule.desc).map (fun d => d.parameters.length) = some 0 := by decide +kernel
theorem mV_X6_drop : Cond.instanceMethod yX6_drop ∈ gT ∧ Cond.selects RX6 yX6_drop yX6_drop ∈ gT ∧ Cond.initialized RX6 ∈ gT ∧ Cond.code yX6_drop cX6_drop 2 (some .int) ∈ gT := ⟨t_300, t_301, t_1, t_302⟩
theorem hV_X6_drop : yX6_drop.cls = RX6 ∧ yX6_drop.cls ≠ "java/lang/invoke/MethodHandle" ∧ yX6_drop.cls ≠ "java/lang/invoke/VarHandle" ∧ (parseMethodDescriptor yX6_drop.desc).map (fun d => d.parameters.length) = some 1 := by decide +kernel
theorem mV_X6_noteNewGraph : Cond.instanceMethod yX6_noteNewGraph ∈ gT ∧ Cond.selects RX6 yX6_noteNewGraph yX6_noteNewGraph ∈ gT ∧ Cond.initialized RX6 ∈ gT ∧ Cond.code yX6_noteNewGraph cX6_noteNewGraph 1 none ∈ gT := ⟨t_326, ts_9, t_1, t_327⟩
theorem hV_X6_noteNewGraph : yX6_noteNewGraph.cls = RX6 ∧ yX6_noteNewGraph.cls ≠ "java/lang/invoke/MethodHandle" ∧ yX6_noteNewGraph.cls ≠ "java/lang/invoke/VarHandle" ∧ (parseMethodDescriptor yX6_noteNewGraph.desc).map (fun d => d.parameters.length) = some 0 := by decide +kernel
theorem mV_X6_graph : Cond.instanceMethod yX6_graph ∈ gT ∧ Cond.selects RX6 yX6_graph yX6_graph ∈ gT ∧ Cond.initialized RX6 ∈ gT ∧ Cond.code yX6_graph cX6_graph 1 (some .int) ∈ gT := ⟨t_313, t_314, t_1, t_315⟩
theorem hV_X6_graph : yX6_graph.cls = RX6 ∧ yX6_graph.cls ≠ "java/lang/invoke/MethodHandle" ∧ yX6_graph.cls ≠ "java/lang/invoke/VarHandle" ∧ (parseMethodDescriptor yX6_graph.desc).map (fun d => d.parameters.length) = some 0 := by decide +kernel
theorem mV_X6_begin : Cond.instanceMethod yX6_begin ∈ gT ∧ Cond.selects RX6 yX6_begin yX6_begin ∈ gT ∧ Cond.initialized RX6 ∈ gT ∧ Cond.code yX6_begin cX6_begin 2 (some .int) ∈ gT := ⟨t_338, t_339, t_1, t_340⟩
theorem hV_X6_begin : yX6_begin.cls = RX6 ∧ yX6_begin.cls ≠ "java/lang/invoke/MethodHandle" ∧ yX6_begin.cls ≠ "java/lang/invoke/VarHandle" ∧ (parseMethodDescriptor yX6_begin.desc).map (fun d => d.parameters.length) = some 1 := by decide +kernel
theorem mV_X6_of : Cond.instanceMethod yX6_of ∈ gT ∧ Cond.selects RX6 yX6_of yX6_of ∈ gT ∧ Cond.initialized RX6 ∈ gT ∧ Cond.code yX6_of cX6_of 4 (some .int) ∈ gT := ⟨t_329, t_330, t_1, t_331⟩
theorem hV_X6_of : yX6_of.cls = RX6 ∧ yX6_of.cls ≠ "java/lang/invoke/MethodHandle" ∧ yX6_of.cls ≠ "java/lang/invoke/VarHandle" ∧ (parseMethodDescriptor yX6_of.desc).map (fun d => d.parameters.length) = some 2 := by decide +kernel
theorem mV_X6_step : Cond.instanceMethod yX6_step ∈ gT ∧ Cond.selects RX6 yX6_step yX6_step ∈ gT ∧ Cond.initialized RX6 ∈ gT ∧ Cond.code yX6_step cX6_step 4 (some .int) ∈ gT := ⟨t_345, t_346, t_1, t_347⟩
theorem hV_X6_step : yX6_step.cls = RX6 ∧ yX6_step.cls ≠ "java/lang/invoke/MethodHandle" ∧ yX6_step.cls ≠ "java/lang/invoke/VarHandle" ∧ (parseMethodDescriptor yX6_step.desc).map (fun d => d.parameters.length) = some 2 := by decide +kernel
theorem mV_X6_edge : Cond.instanceMethod yX6_edge ∈ gT ∧ Cond.selects RX6 yX6_edge yX6_edge ∈ gT ∧ Cond.initialized RX6 ∈ gT ∧ Cond.code yX6_edge cX6_edge 2 (some .int) ∈ gT := ⟨t_358, t_359, t_1, t_360⟩
theorem hV_X6_edge : yX6_edge.cls = RX6 ∧ yX6_edge.cls ≠ "java/lang/invoke/MethodHandle" ∧ yX6_edge.cls ≠ "java/lang/invoke/VarHandle" ∧ (parseMethodDescriptor yX6_edge.desc).map (fun d => d.parameters.length) = some 1 := by decide +kernel
theorem mV_X6_kind : Cond.instanceMethod yX6_kind ∈ gT ∧ Cond.selects RX6 yX6_kind yX6_kind ∈ gT ∧ Cond.initialized RX6 ∈ gT ∧ Cond.code yX6_kind cX6_kind 1 (some .int) ∈ gT := ⟨t_362, t_363, t_1, t_364⟩
theorem hV_X6_kind : yX6_kind.cls = RX6 ∧ yX6_kind.cls ≠ "java/lang/invoke/MethodHandle" ∧ yX6_kind.cls ≠ "java/lang/invoke/VarHandle" ∧ (parseMethodDescriptor yX6_kind.desc).map (fun d => d.parameters.length) = some 0 := by decide +kernel
theorem mV_X6_count : Cond.instanceMethod yX6_count ∈ gT ∧ Cond.selects RX6 yX6_count yX6_count ∈ gT ∧ Cond.initialized RX6 ∈ gT ∧ Cond.code yX6_count cX6_count 2 (some .int) ∈ gT := ⟨t_525, t_526, t_1, t_527⟩
theorem hV_X6_count : yX6_count.cls = RX6 ∧ yX6_count.cls ≠ "java/lang/invoke/MethodHandle" ∧ yX6_count.cls ≠ "java/lang/invoke/VarHandle" ∧ (parseMethodDescriptor yX6_count.desc).map (fun d => d.parameters.length) = some 1 := by decide +kernel
theorem mV_X6_fewest : Cond.instanceMethod yX6_fewest ∈ gT ∧ Cond.selects RX6 yX6_fewest yX6_fewest ∈ gT ∧ Cond.initialized RX6 ∈ gT ∧ Cond.code yX6_fewest cX6_fewest 3 (some .int) ∈ gT := ⟨t_381, t_382, t_1, t_383⟩
theorem hV_X6_fewest : yX6_fewest.cls = RX6 ∧ yX6_fewest.cls ≠ "java/lang/invoke/MethodHandle" ∧ yX6_fewest.cls ≠ "java/lang/invoke/VarHandle" ∧ (parseMethodDescriptor yX6_fewest.desc).map (fun d => d.parameters.length) = some 1 := by decide +kernel
theorem pm_34 {c0 c1 c2 c3 c4 : Nat × va_E} : List.Perm ([c0, c1, c2, c3, c4] : va_W) ([c1, c2] ++ [c0, c3, c4]) := pick_perm 5 rfl [1, 2] [0, 3, 4] (by decide +kernel) rfl rfl
theorem pm_35 {c0 c1 c2 c3 c4 : Nat × va_E} : List.Perm ([c0, c1, c2, c3, c4] : va_W) ([c1, c2, c3, c4] ++ [c0]) := pick_perm 5 rfl [1, 2, 3, 4] [0] (by decide +kernel) rfl rfl
theorem pm_36 {c0 c1 c2 c3 c4 : Nat × va_E} : List.Perm ([c0, c1, c2, c3, c4] : va_W) ([c3] ++ [c0, c1, c2, c4]) := pick_perm 5 rfl [3] [0, 1, 2, 4] (by decide +kernel) rfl rfl
theorem pm_37 {c0 c1 c2 c3 c4 : Nat × va_E} : List.Perm ([c0, c1, c2, c3, c4] : va_W) ([c0, c4, c3, c1, c2] ++ []) := pick_perm 5 rfl [0, 4, 3, 1, 2] [] (by decide +kernel) rfl rfl
theorem pm_38 {c0 c1 c2 c3 c4 : Nat × va_E} : List.Perm ([c0, c1, c2, c3, c4] : va_W) ([c0, c3, c4, c1, c2] ++ []) := pick_perm 5 rfl [0, 3, 4, 1, 2] [] (by decide +kernel) rfl rfl
theorem pm_39 {c0 c1 c2 : Nat × va_E} : List.Perm ([c0, c1, c2] : va_W) ([c1] ++ [c0, c2]) := pick_perm 3 rfl [1] [0, 2] (by decide +kernel) rfl rfl
theorem pm_40 {c0 c1 c2 : Nat × va_E} : List.Perm ([c0, c1, c2] : va_W) ([c2, c1] ++ [c0]) := pick_perm 3 rfl [2, 1] [0] (by decide +kernel) rfl rfl
theorem pm_41 {c0 c1 c2 : Nat × va_E} : List.Perm ([c0, c1, c2] : va_W) ([c0, c1, c2] ++ []) := pick_perm 3 rfl [0, 1, 2] [] (by decide +kernel) rfl rfl
theorem pm_42 {c0 c1 c2 : Nat × va_E} : List.Perm ([c0, c1, c2] : va_W) ([c0, c2, c1] ++ []) := pick_perm 3 rfl [0, 2, 1] [] (by decide +kernel) rfl rfl
theorem pm_43 {c0 c1 c2 c3 c4 c5 c6 c7 c8 c9 c10 : Nat × va_E} : List.Perm ([c0, c1, c2, c3, c4, c5, c6, c7, c8, c9, c10] : va_W) ([c0, c1, c2, c3, c4, c5, c6, c7, c8, c9, c10] ++ []) := pick_perm 11 rfl [0, 1, 2, 3, 4, 5, 6, 7, 8, 9, 10] [] (by decide +kernel) rfl rfl
theorem pm_44 {c0 c1 c2 c3 c4 c5 c6 c7 c8 c9 c10 : Nat × va_E} : List.Perm ([c0, c1, c2, c3, c4, c5, c6, c7, c8, c9, c10] : va_W) ([c4] ++ [c0, c1, c2, c3, c5, c6, c7, c8, c9, c10]) := pick_perm 11 rfl [4] [0, 1, 2, 3, 5, 6, 7, 8, 9, 10] (by decide +kernel) rfl rfl
theorem pm_45 {c0 c1 c2 c3 c4 c5 c6 c7 c8 c9 c10 : Nat × va_E} : List.Perm ([c0, c1, c2, c3, c4, c5, c6, c7, c8, c9, c10] : va_W) ([c0, c1, c2, c3, c10, c4, c5, c6, c7, c8, c9] ++ []) := pick_perm 11 rfl [0, 1, 2, 3, 10, 4, 5, 6, 7, 8, 9] [] (by decide +kernel) rfl rfl
theorem pm_46 {c0 c1 c2 c3 c4 c5 c6 c7 c8 c9 c10 : Nat × va_E} : List.Perm ([c0, c1, c2, c3, c4, c5, c6, c7, c8, c9, c10] : va_W) ([c10, c4, c5, c6] ++ [c0, c1, c2, c3, c7, c8, c9]) := pick_perm 11 rfl [10, 4, 5, 6] [0, 1, 2, 3, 7, 8, 9] (by decide +kernel) rfl rfl
theorem pm_47 {c0 c1 c2 c3 c4 c5 c6 c7 c8 c9 c10 : Nat × va_E} : List.Perm ([c0, c1, c2, c3, c4, c5, c6, c7, c8, c9, c10] : va_W) ([c0, c1, c2, c3, c7, c8, c9, c10, c4, c5, c6] ++ []) := pick_perm 11 rfl [0, 1, 2, 3, 7, 8, 9, 10, 4, 5, 6] [] (by decide +kernel) rfl rfl
theorem pm_48 {c0 c1 c2 c3 c4 c5 c6 : Nat × va_E} : List.Perm ([c0, c1, c2, c3, c4, c5, c6] : va_W) ([c3] ++ [c0, c1, c2, c4, c5, c6]) := pick_perm 7 rfl [3] [0, 1, 2, 4, 5, 6] (by decide +kernel) rfl rfl
theorem pm_49 {c0 c1 c2 c3 c4 c5 c6 : Nat × va_E} : List.Perm ([c0, c1, c2, c3, c4, c5, c6] : va_W) ([c0, c1, c2, c6, c3, c4, c5] ++ []) := pick_perm 7 rfl [0, 1, 2, 6, 3, 4, 5] [] (by decide +kernel) rfl rfl
theorem pm_50 {c0 c1 c2 c3 c4 c5 c6 : Nat × va_E} : List.Perm ([c0, c1, c2, c3, c4, c5, c6] : va_W) ([c1] ++ [c0, c2, c3, c4, c5, c6]) := pick_perm 7 rfl [1] [0, 2, 3, 4, 5, 6] (by decide +kernel) rfl rfl
theorem pm_51 {c0 c1 c2 c3 c4 c5 c6 c7 c8 c9 c10 c11 c12 c13 c14 : Nat × va_E} : List.Perm ([c0, c1, c2, c3, c4, c5, c6, c7, c8, c9, c10, c11, c12, c13, c14] : va_W) ([c0, c1, c2, c3, c4, c5, c6, c7, c8, c9, c10, c11, c12, c13, c14] ++ []) := pick_perm 15 rfl [0, 1, 2, 3, 4, 5, 6, 7, 8, 9, 10, 11, 12, 13, 14] [] (by decide +kernel) rfl rfl
theorem pm_52 {c0 c1 c2 c3 c4 c5 c6 : Nat × va_E} : List.Perm ([c0, c1, c2, c3, c4, c5, c6] : va_W) ([c0, c6, c1, c5, c2, c3, c4] ++ []) := pick_perm 7 rfl [0, 6, 1, 5, 2, 3, 4] [] (by decide +kernel) rfl rfl
theorem pm_53 {c0 c1 c2 c3 c4 c5 c6 c7 c8 c9 c10 c11 c12 c13 c14 : Nat × va_E} : List.Perm ([c0, c1, c2, c3, c4, c5, c6, c7, c8, c9, c10, c11, c12, c13, c14] : va_W) ([c5, c2, c3, c4, c8, c9, c10, c11] ++ [c0, c1, c6, c7, c12, c13, c14]) := pick_perm 15 rfl [5, 2, 3, 4, 8, 9, 10, 11] [0, 1, 6, 7, 12, 13, 14] (by decide +kernel) rfl rfl
theorem pm_54 {c0 c1 c2 c3 c4 c5 c6 c7 c8 c9 c10 c11 c12 c13 c14 : Nat × va_E} : List.Perm ([c0, c1, c2, c3, c4, c5, c6, c7, c8, c9, c10, c11, c12, c13, c14] : va_W) ([c0, c1, c2, c7, c8, c9, c10, c3, c11, c12, c13, c14, c4, c5, c6] ++ []) := pick_perm 15 rfl [0, 1, 2, 7, 8, 9, 10, 3, 11, 12, 13, 14, 4, 5, 6] [] (by decide +kernel) rfl rfl
theorem pm_55 {c0 c1 c2 c3 c4 c5 c6 : Nat × va_E} : List.Perm ([c0, c1, c2, c3, c4, c5, c6] : va_W) ([c0, c2, c1, c3, c4, c5, c6] ++ []) := pick_perm 7 rfl [0, 2, 1, 3, 4, 5, 6] [] (by decide +kernel) rfl rfl
theorem pm_56 {c0 c1 c2 c3 c4 c5 c6 c7 c8 c9 : Nat × va_E} : List.Perm ([c0, c1, c2, c3, c4, c5, c6, c7, c8, c9] : va_W) ([] ++ [c0, c1, c2, c3, c4, c5, c6, c7, c8, c9]) := pick_perm 10 rfl [] [0, 1, 2, 3, 4, 5, 6, 7, 8, 9] (by decide +kernel) rfl rfl
theorem pm_57 {c0 c1 c2 c3 c4 c5 c6 c7 c8 c9 : Nat × va_E} : List.Perm ([c0, c1, c2, c3, c4, c5, c6, c7, c8, c9] : va_W) ([c3, c4, c5, c6] ++ [c0, c1, c2, c7, c8, c9]) := pick_perm 10 rfl [3, 4, 5, 6] [0, 1, 2, 7, 8, 9] (by decide +kernel) rfl rfl
theorem pm_58 {c0 c1 c2 c3 c4 c5 c6 c7 c8 c9 : Nat × va_E} : List.Perm ([c0, c1, c2, c3, c4, c5, c6, c7, c8, c9] : va_W) ([c0, c1, c2, c6, c7, c8, c9, c3, c4, c5] ++ []) := pick_perm 10 rfl [0, 1, 2, 6, 7, 8, 9, 3, 4, 5] [] (by decide +kernel) rfl rfl
theorem pm_59 {c0 c1 c2 c3 c4 c5 c6 c7 c8 c9 : Nat × va_E} : List.Perm ([c0, c1, c2, c3, c4, c5, c6, c7, c8, c9] : va_W) ([c0, c1, c2, c9, c3, c4, c5, c6, c7, c8] ++ []) := pick_perm 10 rfl [0, 1, 2, 9, 3, 4, 5, 6, 7, 8] [] (by decide +kernel) rfl rfl
theorem pm_60 {c0 c1 c2 c3 c4 c5 c6 c7 c8 c9 : Nat × va_E} : List.Perm ([c0, c1, c2, c3, c4, c5, c6, c7, c8, c9] : va_W) ([c3, c4, c5, c6, c7, c8, c9, c1, c2] ++ [c0]) := pick_perm 10 rfl [3, 4, 5, 6, 7, 8, 9, 1, 2] [0] (by decide +kernel) rfl rfl
theorem pm_61 {c0 c1 c2 c3 c4 c5 c6 c7 c8 c9 : Nat × va_E} : List.Perm ([c0, c1, c2, c3, c4, c5, c6, c7, c8, c9] : va_W) ([c1, c2, c3, c4] ++ [c0, c5, c6, c7, c8, c9]) := pick_perm 10 rfl [1, 2, 3, 4] [0, 5, 6, 7, 8, 9] (by decide +kernel) rfl rfl
theorem pm_62 {c0 c1 c2 c3 c4 c5 c6 c7 c8 c9 : Nat × va_E} : List.Perm ([c0, c1, c2, c3, c4, c5, c6, c7, c8, c9] : va_W) ([c0, c4, c5, c9, c1, c2, c3, c6, c7, c8] ++ []) := pick_perm 10 rfl [0, 4, 5, 9, 1, 2, 3, 6, 7, 8] [] (by decide +kernel) rfl rfl
theorem dX6_begin_0 : decode cX6_begin 0 = .ok (.iload_n 1, 1) := by decide +kernel
theorem dX6_begin_1 : decode cX6_begin 1 = .ok (.invokestatic 123, 3) := by decide +kernel
theorem dX6_begin_4 : decode cX6_begin 4 = .ok (.ifCond .ne 7, 3) := by decide +kernel
theorem dX6_begin_7 : decode cX6_begin 7 = .ok (.sipush (-1001), 3) := by decide +kernel
theorem dX6_begin_10 : decode cX6_begin 10 = .ok (.ireturn, 1) := by decide +kernel
theorem dX6_begin_11 : decode cX6_begin 11 = .ok (.aload_n 0, 1) := by decide +kernel
theorem dX6_begin_12 : decode cX6_begin 12 = .ok (.getfield 28, 3) := by decide +kernel
theorem dX6_begin_15 : decode cX6_begin 15 = .ok (.iconst 2, 1) := by decide +kernel
theorem dX6_begin_16 : decode cX6_begin 16 = .ok (.invokevirtual 126, 3) := by decide +kernel
theorem dX6_begin_19 : decode cX6_begin 19 = .ok (.aload_n 0, 1) := by decide +kernel
theorem dX6_begin_20 : decode cX6_begin 20 = .ok (.getfield 28, 3) := by decide +kernel
theorem dX6_begin_23 : decode cX6_begin 23 = .ok (.iload_n 1, 1) := by decide +kernel
theorem dX6_begin_24 : decode cX6_begin 24 = .ok (.iconst 0, 1) := by decide +kernel
theorem dX6_begin_25 : decode cX6_begin 25 = .ok (.iconst 1, 1) := by decide +kernel
theorem dX6_begin_26 : decode cX6_begin 26 = .ok (.invokevirtual 128, 3) := by decide +kernel
theorem dX6_begin_29 : decode cX6_begin 29 = .ok (.aload_n 0, 1) := by decide +kernel
theorem dX6_begin_30 : decode cX6_begin 30 = .ok (.invokevirtual 99, 3) := by decide +kernel
theorem dX6_begin_33 : decode cX6_begin 33 = .ok (.aload_n 0, 1) := by decide +kernel
theorem dX6_begin_34 : decode cX6_begin 34 = .ok (.getfield 28, 3) := by decide +kernel
theorem dX6_begin_37 : decode cX6_begin 37 = .ok (.getfield 102, 3) := by decide +kernel
theorem dX6_begin_40 : decode cX6_begin 40 = .ok (.ireturn, 1) := by decide +kernel
theorem dX6_blank_0 : decode cX6_blank 0 = .ok (.aload_n 0, 1) := by decide +kernel
theorem dX6_blank_1 : decode cX6_blank 1 = .ok (.getfield 10, 3) := by decide +kernel
theorem dX6_blank_4 : decode cX6_blank 4 = .ok (.getfield 63, 3) := by decide +kernel
theorem dX6_blank_7 : decode cX6_blank 7 = .ok (.istore_n 1, 1) := by decide +kernel
theorem dX6_blank_8 : decode cX6_blank 8 = .ok (.aload_n 0, 1) := by decide +kernel
theorem dX6_blank_9 : decode cX6_blank 9 = .ok (.getfield 10, 3) := by decide +kernel
theorem dX6_blank_12 : decode cX6_blank 12 = .ok (.invokevirtual 69, 3) := by decide +kernel
theorem dX6_blank_15 : decode cX6_blank 15 = .ok (.iload_n 1, 1) := by decide +kernel
theorem dX6_blank_16 : decode cX6_blank 16 = .ok (.ireturn, 1) := by decide +kernel
theorem dX6_count_0 : decode cX6_count 0 = .ok (.iload_n 1, 1) := by decide +kernel
theorem dX6_count_1 : decode cX6_count 1 = .ok (.tableswitch 102 0 7 #[47, 55, 63, 71, 79, 87, 92, 97], 47) := by decide +kernel
theorem dX6_count_48 : decode cX6_count 48 = .ok (.aload_n 0, 1) := by decide +kernel
theorem dX6_count_49 : decode cX6_count 49 = .ok (.getfield 10, 3) := by decide +kernel
theorem dX6_count_52 : decode cX6_count 52 = .ok (.getfield 63, 3) := by decide +kernel
theorem dX6_count_55 : decode cX6_count 55 = .ok (.ireturn, 1) := by decide +kernel
theorem dX6_count_56 : decode cX6_count 56 = .ok (.aload_n 0, 1) := by decide +kernel
theorem dX6_count_57 : decode cX6_count 57 = .ok (.getfield 19, 3) := by decide +kernel
theorem dX6_count_60 : decode cX6_count 60 = .ok (.getfield 80, 3) := by decide +kernel
theorem dX6_count_63 : decode cX6_count 63 = .ok (.ireturn, 1) := by decide +kernel
theorem dX6_count_64 : decode cX6_count 64 = .ok (.aload_n 0, 1) := by decide +kernel
theorem dX6_count_65 : decode cX6_count 65 = .ok (.getfield 28, 3) := by decide +kernel
theorem dX6_count_68 : decode cX6_count 68 = .ok (.getfield 102, 3) := by decide +kernel
theorem dX6_count_71 : decode cX6_count 71 = .ok (.ireturn, 1) := by decide +kernel
theorem dX6_count_72 : decode cX6_count 72 = .ok (.aload_n 0, 1) := by decide +kernel
theorem dX6_count_73 : decode cX6_count 73 = .ok (.getfield 28, 3) := by decide +kernel
theorem dX6_count_76 : decode cX6_count 76 = .ok (.getfield 115, 3) := by decide +kernel
theorem dX6_count_79 : decode cX6_count 79 = .ok (.ireturn, 1) := by decide +kernel
theorem dX6_count_80 : decode cX6_count 80 = .ok (.aload_n 0, 1) := by decide +kernel
theorem dX6_count_81 : decode cX6_count 81 = .ok (.getfield 28, 3) := by decide +kernel
theorem dX6_count_84 : decode cX6_count 84 = .ok (.invokevirtual 170, 3) := by decide +kernel
theorem dX6_count_87 : decode cX6_count 87 = .ok (.ireturn, 1) := by decide +kernel
theorem dX6_count_88 : decode cX6_count 88 = .ok (.aload_n 0, 1) := by decide +kernel
theorem dX6_count_89 : decode cX6_count 89 = .ok (.getfield 53, 3) := by decide +kernel
theorem dX6_count_92 : decode cX6_count 92 = .ok (.ireturn, 1) := by decide +kernel
theorem dX6_count_93 : decode cX6_count 93 = .ok (.aload_n 0, 1) := by decide +kernel
theorem dX6_count_94 : decode cX6_count 94 = .ok (.getfield 57, 3) := by decide +kernel
theorem dX6_count_97 : decode cX6_count 97 = .ok (.ireturn, 1) := by decide +kernel
theorem dX6_count_98 : decode cX6_count 98 = .ok (.aload_n 0, 1) := by decide +kernel
theorem dX6_count_99 : decode cX6_count 99 = .ok (.getfield 60, 3) := by decide +kernel
theorem dX6_count_102 : decode cX6_count 102 = .ok (.ireturn, 1) := by decide +kernel
theorem dX6_count_103 : decode cX6_count 103 = .ok (.sipush (-1002), 3) := by decide +kernel
theorem dX6_count_106 : decode cX6_count 106 = .ok (.ireturn, 1) := by decide +kernel
theorem dX6_drop_0 : decode cX6_drop 0 = .ok (.aload_n 0, 1) := by decide +kernel
theorem dX6_drop_1 : decode cX6_drop 1 = .ok (.getfield 19, 3) := by decide +kernel
theorem dX6_drop_4 : decode cX6_drop 4 = .ok (.iload_n 1, 1) := by decide +kernel
theorem dX6_drop_5 : decode cX6_drop 5 = .ok (.invokevirtual 85, 3) := by decide +kernel
theorem dX6_drop_8 : decode cX6_drop 8 = .ok (.ifCond .ne 7, 3) := by decide +kernel
theorem dX6_drop_11 : decode cX6_drop 11 = .ok (.sipush (-1001), 3) := by decide +kernel
theorem dX6_drop_14 : decode cX6_drop 14 = .ok (.ireturn, 1) := by decide +kernel
theorem dX6_drop_15 : decode cX6_drop 15 = .ok (.aload_n 0, 1) := by decide +kernel
theorem dX6_drop_16 : decode cX6_drop 16 = .ok (.getfield 19, 3) := by decide +kernel
theorem dX6_drop_19 : decode cX6_drop 19 = .ok (.iload_n 1, 1) := by decide +kernel
theorem dX6_drop_20 : decode cX6_drop 20 = .ok (.invokevirtual 89, 3) := by decide +kernel
theorem dX6_drop_23 : decode cX6_drop 23 = .ok (.aload_n 0, 1) := by decide +kernel
theorem dX6_drop_24 : decode cX6_drop 24 = .ok (.iconst 0, 1) := by decide +kernel
theorem dX6_drop_25 : decode cX6_drop 25 = .ok (.putfield 46, 3) := by decide +kernel
theorem dX6_drop_28 : decode cX6_drop 28 = .ok (.aload_n 0, 1) := by decide +kernel
theorem dX6_drop_29 : decode cX6_drop 29 = .ok (.iconst 0, 1) := by decide +kernel
theorem dX6_drop_30 : decode cX6_drop 30 = .ok (.putfield 50, 3) := by decide +kernel
theorem dX6_drop_33 : decode cX6_drop 33 = .ok (.aload_n 0, 1) := by decide +kernel
theorem dX6_drop_34 : decode cX6_drop 34 = .ok (.getfield 19, 3) := by decide +kernel
theorem dX6_drop_37 : decode cX6_drop 37 = .ok (.getfield 80, 3) := by decide +kernel
theorem dX6_drop_40 : decode cX6_drop 40 = .ok (.ireturn, 1) := by decide +kernel
theorem dX6_edge_0 : decode cX6_edge 0 = .ok (.aload_n 0, 1) := by decide +kernel
theorem dX6_edge_1 : decode cX6_edge 1 = .ok (.getfield 28, 3) := by decide +kernel
theorem dX6_edge_4 : decode cX6_edge 4 = .ok (.iload_n 1, 1) := by decide +kernel
theorem dX6_edge_5 : decode cX6_edge 5 = .ok (.invokevirtual 118, 3) := by decide +kernel
theorem dX6_edge_8 : decode cX6_edge 8 = .ok (.ifCond .eq 14, 3) := by decide +kernel
theorem dX6_edge_11 : decode cX6_edge 11 = .ok (.aload_n 0, 1) := by decide +kernel
theorem dX6_edge_12 : decode cX6_edge 12 = .ok (.getfield 28, 3) := by decide +kernel
theorem dX6_edge_15 : decode cX6_edge 15 = .ok (.iload_n 1, 1) := by decide +kernel
theorem dX6_edge_16 : decode cX6_edge 16 = .ok (.invokevirtual 119, 3) := by decide +kernel
theorem dX6_edge_19 : decode cX6_edge 19 = .ok (.goto 6, 3) := by decide +kernel
theorem dX6_edge_22 : decode cX6_edge 22 = .ok (.sipush (-1001), 3) := by decide +kernel
theorem dX6_edge_25 : decode cX6_edge 25 = .ok (.ireturn, 1) := by decide +kernel
theorem dX6_fault_0 : decode cX6_fault 0 = .ok (.aload_n 0, 1) := by decide +kernel
theorem dX6_fault_1 : decode cX6_fault 1 = .ok (.getfield 10, 3) := by decide +kernel
theorem dX6_fault_4 : decode cX6_fault 4 = .ok (.iload_n 1, 1) := by decide +kernel
theorem dX6_fault_5 : decode cX6_fault 5 = .ok (.invokevirtual 72, 3) := by decide +kernel
theorem dX6_fault_8 : decode cX6_fault 8 = .ok (.ireturn, 1) := by decide +kernel
theorem dX6_fewest_0 : decode cX6_fewest 0 = .ok (.iload_n 1, 1) := by decide +kernel
theorem dX6_fewest_1 : decode cX6_fewest 1 = .ok (.invokestatic 123, 3) := by decide +kernel
theorem dX6_fewest_4 : decode cX6_fewest 4 = .ok (.ifCond .ne 7, 3) := by decide +kernel
theorem dX6_fewest_7 : decode cX6_fewest 7 = .ok (.sipush (-1001), 3) := by decide +kernel
theorem dX6_fewest_10 : decode cX6_fewest 10 = .ok (.ireturn, 1) := by decide +kernel
theorem dX6_fewest_11 : decode cX6_fewest 11 = .ok (.aload_n 0, 1) := by decide +kernel
theorem dX6_fewest_12 : decode cX6_fewest 12 = .ok (.getfield 28, 3) := by decide +kernel
theorem dX6_fewest_15 : decode cX6_fewest 15 = .ok (.invokevirtual 140, 3) := by decide +kernel
theorem dX6_fewest_18 : decode cX6_fewest 18 = .ok (.ifCond .eq 25, 3) := by decide +kernel
theorem dX6_fewest_21 : decode cX6_fewest 21 = .ok (.aload_n 0, 1) := by decide +kernel
theorem dX6_fewest_22 : decode cX6_fewest 22 = .ok (.getfield 28, 3) := by decide +kernel
theorem dX6_fewest_25 : decode cX6_fewest 25 = .ok (.getfield 102, 3) := by decide +kernel
theorem dX6_fewest_28 : decode cX6_fewest 28 = .ok (.iconst 5, 1) := by decide +kernel
theorem dX6_fewest_29 : decode cX6_fewest 29 = .ok (.if_icmp .gt 14, 3) := by decide +kernel
theorem dX6_fewest_32 : decode cX6_fewest 32 = .ok (.aload_n 0, 1) := by decide +kernel
theorem dX6_fewest_33 : decode cX6_fewest 33 = .ok (.getfield 28, 3) := by decide +kernel
theorem dX6_fewest_36 : decode cX6_fewest 36 = .ok (.getfield 115, 3) := by decide +kernel
theorem dX6_fewest_39 : decode cX6_fewest 39 = .ok (.iconst 5, 1) := by decide +kernel
theorem dX6_fewest_40 : decode cX6_fewest 40 = .ok (.if_icmp .le 7, 3) := by decide +kernel
theorem dX6_fewest_43 : decode cX6_fewest 43 = .ok (.sipush (-1003), 3) := by decide +kernel
theorem dX6_fewest_46 : decode cX6_fewest 46 = .ok (.ireturn, 1) := by decide +kernel
theorem dX6_fewest_47 : decode cX6_fewest 47 = .ok (.aload_n 0, 1) := by decide +kernel
theorem dX6_fewest_48 : decode cX6_fewest 48 = .ok (.getfield 46, 3) := by decide +kernel
theorem dX6_fewest_51 : decode cX6_fewest 51 = .ok (.ifCond .ne 23, 3) := by decide +kernel
theorem dX6_fewest_54 : decode cX6_fewest 54 = .ok (.aload_n 0, 1) := by decide +kernel
theorem dX6_fewest_55 : decode cX6_fewest 55 = .ok (.getfield 35, 3) := by decide +kernel
theorem dX6_fewest_58 : decode cX6_fewest 58 = .ok (.aload_n 0, 1) := by decide +kernel
theorem dX6_fewest_59 : decode cX6_fewest 59 = .ok (.getfield 28, 3) := by decide +kernel
theorem dX6_fewest_62 : decode cX6_fewest 62 = .ok (.aload_n 0, 1) := by decide +kernel
theorem dX6_fewest_63 : decode cX6_fewest 63 = .ok (.getfield 19, 3) := by decide +kernel
theorem dX6_fewest_66 : decode cX6_fewest 66 = .ok (.invokevirtual 147, 3) := by decide +kernel
theorem dX6_fewest_69 : decode cX6_fewest 69 = .ok (.aload_n 0, 1) := by decide +kernel
theorem dX6_fewest_70 : decode cX6_fewest 70 = .ok (.iconst 1, 1) := by decide +kernel
theorem dX6_fewest_71 : decode cX6_fewest 71 = .ok (.putfield 46, 3) := by decide +kernel
theorem dX6_fewest_74 : decode cX6_fewest 74 = .ok (.aload_n 0, 1) := by decide +kernel
theorem dX6_fewest_75 : decode cX6_fewest 75 = .ok (.getfield 35, 3) := by decide +kernel
theorem dX6_fewest_78 : decode cX6_fewest 78 = .ok (.aload_n 0, 1) := by decide +kernel
theorem dX6_fewest_79 : decode cX6_fewest 79 = .ok (.getfield 28, 3) := by decide +kernel
theorem dX6_fewest_82 : decode cX6_fewest 82 = .ok (.iload_n 1, 1) := by decide +kernel
theorem dX6_fewest_83 : decode cX6_fewest 83 = .ok (.invokevirtual 151, 3) := by decide +kernel
theorem dX6_fewest_86 : decode cX6_fewest 86 = .ok (.istore_n 2, 1) := by decide +kernel
theorem dX6_fewest_87 : decode cX6_fewest 87 = .ok (.iload_n 2, 1) := by decide +kernel
theorem dX6_fewest_88 : decode cX6_fewest 88 = .ok (.ldc 155, 2) := by decide +kernel
theorem dX6_fewest_90 : decode cX6_fewest 90 = .ok (.if_icmp .ge 7, 3) := by decide +kernel
theorem dX6_fewest_93 : decode cX6_fewest 93 = .ok (.iload_n 2, 1) := by decide +kernel
theorem dX6_fewest_94 : decode cX6_fewest 94 = .ok (.goto 4, 3) := by decide +kernel
theorem dX6_fewest_97 : decode cX6_fewest 97 = .ok (.iconst (-1), 1) := by decide +kernel
theorem dX6_fewest_98 : decode cX6_fewest 98 = .ok (.ireturn, 1) := by decide +kernel
theorem dX6_graph_0 : decode cX6_graph 0 = .ok (.aload_n 0, 1) := by decide +kernel
theorem dX6_graph_1 : decode cX6_graph 1 = .ok (.getfield 10, 3) := by decide +kernel
theorem dX6_graph_4 : decode cX6_graph 4 = .ok (.invokevirtual 92, 3) := by decide +kernel
theorem dX6_graph_7 : decode cX6_graph 7 = .ok (.ifCond .ne 7, 3) := by decide +kernel
theorem dX6_graph_10 : decode cX6_graph 10 = .ok (.sipush (-1003), 3) := by decide +kernel
theorem dX6_graph_13 : decode cX6_graph 13 = .ok (.ireturn, 1) := by decide +kernel
theorem dX6_graph_14 : decode cX6_graph 14 = .ok (.aload_n 0, 1) := by decide +kernel
theorem dX6_graph_15 : decode cX6_graph 15 = .ok (.getfield 10, 3) := by decide +kernel
theorem dX6_graph_18 : decode cX6_graph 18 = .ok (.aload_n 0, 1) := by decide +kernel
theorem dX6_graph_19 : decode cX6_graph 19 = .ok (.getfield 28, 3) := by decide +kernel
theorem dX6_graph_22 : decode cX6_graph 22 = .ok (.invokevirtual 95, 3) := by decide +kernel
theorem dX6_graph_25 : decode cX6_graph 25 = .ok (.aload_n 0, 1) := by decide +kernel
theorem dX6_graph_26 : decode cX6_graph 26 = .ok (.getfield 10, 3) := by decide +kernel
theorem dX6_graph_29 : decode cX6_graph 29 = .ok (.invokevirtual 69, 3) := by decide +kernel
theorem dX6_graph_32 : decode cX6_graph 32 = .ok (.aload_n 0, 1) := by decide +kernel
theorem dX6_graph_33 : decode cX6_graph 33 = .ok (.invokevirtual 99, 3) := by decide +kernel
theorem dX6_graph_36 : decode cX6_graph 36 = .ok (.aload_n 0, 1) := by decide +kernel
theorem dX6_graph_37 : decode cX6_graph 37 = .ok (.getfield 28, 3) := by decide +kernel
theorem dX6_graph_40 : decode cX6_graph 40 = .ok (.getfield 102, 3) := by decide +kernel
theorem dX6_graph_43 : decode cX6_graph 43 = .ok (.ireturn, 1) := by decide +kernel
theorem dX6_kind_0 : decode cX6_kind 0 = .ok (.aload_n 0, 1) := by decide +kernel
theorem dX6_kind_1 : decode cX6_kind 1 = .ok (.getfield 28, 3) := by decide +kernel
theorem dX6_kind_4 : decode cX6_kind 4 = .ok (.invokevirtual 140, 3) := by decide +kernel
theorem dX6_kind_7 : decode cX6_kind 7 = .ok (.ifCond .eq 13, 3) := by decide +kernel
theorem dX6_kind_10 : decode cX6_kind 10 = .ok (.aload_n 0, 1) := by decide +kernel
theorem dX6_kind_11 : decode cX6_kind 11 = .ok (.getfield 28, 3) := by decide +kernel
theorem dX6_kind_14 : decode cX6_kind 14 = .ok (.invokevirtual 143, 3) := by decide +kernel
theorem dX6_kind_17 : decode cX6_kind 17 = .ok (.goto 6, 3) := by decide +kernel
theorem dX6_kind_20 : decode cX6_kind 20 = .ok (.sipush (-1003), 3) := by decide +kernel
theorem dX6_kind_23 : decode cX6_kind 23 = .ok (.ireturn, 1) := by decide +kernel
theorem dX6_letter_0 : decode cX6_letter 0 = .ok (.iload_n 1, 1) := by decide +kernel
theorem dX6_letter_1 : decode cX6_letter 1 = .ok (.bipush 32, 2) := by decide +kernel
theorem dX6_letter_3 : decode cX6_letter 3 = .ok (.if_icmp .lt 9, 3) := by decide +kernel
theorem dX6_letter_6 : decode cX6_letter 6 = .ok (.iload_n 1, 1) := by decide +kernel
theorem dX6_letter_7 : decode cX6_letter 7 = .ok (.bipush 126, 2) := by decide +kernel
theorem dX6_letter_9 : decode cX6_letter 9 = .ok (.if_icmp .le 7, 3) := by decide +kernel
theorem dX6_letter_12 : decode cX6_letter 12 = .ok (.sipush (-1002), 3) := by decide +kernel
theorem dX6_letter_15 : decode cX6_letter 15 = .ok (.ireturn, 1) := by decide +kernel
theorem dX6_letter_16 : decode cX6_letter 16 = .ok (.aload_n 0, 1) := by decide +kernel
theorem dX6_letter_17 : decode cX6_letter 17 = .ok (.getfield 10, 3) := by decide +kernel
theorem dX6_letter_20 : decode cX6_letter 20 = .ok (.getfield 63, 3) := by decide +kernel
theorem dX6_letter_23 : decode cX6_letter 23 = .ok (.bipush 16, 2) := by decide +kernel
theorem dX6_letter_25 : decode cX6_letter 25 = .ok (.if_icmp .lt 7, 3) := by decide +kernel
theorem dX6_letter_28 : decode cX6_letter 28 = .ok (.sipush (-1004), 3) := by decide +kernel
theorem dX6_letter_31 : decode cX6_letter 31 = .ok (.ireturn, 1) := by decide +kernel
theorem dX6_letter_32 : decode cX6_letter 32 = .ok (.aload_n 0, 1) := by decide +kernel
theorem dX6_letter_33 : decode cX6_letter 33 = .ok (.getfield 10, 3) := by decide +kernel
theorem dX6_letter_36 : decode cX6_letter 36 = .ok (.iload_n 1, 1) := by decide +kernel
theorem dX6_letter_37 : decode cX6_letter 37 = .ok (.invokevirtual 66, 3) := by decide +kernel
theorem dX6_letter_40 : decode cX6_letter 40 = .ok (.aload_n 0, 1) := by decide +kernel
theorem dX6_letter_41 : decode cX6_letter 41 = .ok (.getfield 10, 3) := by decide +kernel
theorem dX6_letter_44 : decode cX6_letter 44 = .ok (.getfield 63, 3) := by decide +kernel
theorem dX6_letter_47 : decode cX6_letter 47 = .ok (.ireturn, 1) := by decide +kernel
theorem dX6_noteNewGraph_0 : decode cX6_noteNewGraph 0 = .ok (.aload_n 0, 1) := by decide +kernel
theorem dX6_noteNewGraph_1 : decode cX6_noteNewGraph 1 = .ok (.iconst 0, 1) := by decide +kernel
theorem dX6_noteNewGraph_2 : decode cX6_noteNewGraph 2 = .ok (.putfield 46, 3) := by decide +kernel
theorem dX6_noteNewGraph_5 : decode cX6_noteNewGraph 5 = .ok (.aload_n 0, 1) := by decide +kernel
theorem dX6_noteNewGraph_6 : decode cX6_noteNewGraph 6 = .ok (.iconst 0, 1) := by decide +kernel
theorem dX6_noteNewGraph_7 : decode cX6_noteNewGraph 7 = .ok (.putfield 53, 3) := by decide +kernel
theorem dX6_noteNewGraph_10 : decode cX6_noteNewGraph 10 = .ok (.aload_n 0, 1) := by decide +kernel
theorem dX6_noteNewGraph_11 : decode cX6_noteNewGraph 11 = .ok (.dup, 1) := by decide +kernel
theorem dX6_noteNewGraph_12 : decode cX6_noteNewGraph 12 = .ok (.getfield 60, 3) := by decide +kernel
theorem dX6_noteNewGraph_15 : decode cX6_noteNewGraph 15 = .ok (.iconst 1, 1) := by decide +kernel
theorem dX6_noteNewGraph_16 : decode cX6_noteNewGraph 16 = .ok (.iadd, 1) := by decide +kernel
theorem dX6_noteNewGraph_17 : decode cX6_noteNewGraph 17 = .ok (.putfield 60, 3) := by decide +kernel
theorem dX6_noteNewGraph_20 : decode cX6_noteNewGraph 20 = .ok (.return_, 1) := by decide +kernel
theorem dX6_of_0 : decode cX6_of 0 = .ok (.aload_n 0, 1) := by decide +kernel
theorem dX6_of_1 : decode cX6_of 1 = .ok (.getfield 19, 3) := by decide +kernel
theorem dX6_of_4 : decode cX6_of 4 = .ok (.iload_n 1, 1) := by decide +kernel
theorem dX6_of_5 : decode cX6_of 5 = .ok (.invokevirtual 85, 3) := by decide +kernel
theorem dX6_of_8 : decode cX6_of 8 = .ok (.ifCond .ne 7, 3) := by decide +kernel
theorem dX6_of_11 : decode cX6_of 11 = .ok (.sipush (-1001), 3) := by decide +kernel
theorem dX6_of_14 : decode cX6_of 14 = .ok (.ireturn, 1) := by decide +kernel
theorem dX6_of_15 : decode cX6_of 15 = .ok (.aload_n 0, 1) := by decide +kernel
theorem dX6_of_16 : decode cX6_of 16 = .ok (.getfield 19, 3) := by decide +kernel
theorem dX6_of_19 : decode cX6_of 19 = .ok (.getfield 103, 3) := by decide +kernel
theorem dX6_of_22 : decode cX6_of 22 = .ok (.iload_n 1, 1) := by decide +kernel
theorem dX6_of_23 : decode cX6_of 23 = .ok (.aaload, 1) := by decide +kernel
theorem dX6_of_24 : decode cX6_of 24 = .ok (.astore_n 3, 1) := by decide +kernel
theorem dX6_of_25 : decode cX6_of 25 = .ok (.iload_n 2, 1) := by decide +kernel
theorem dX6_of_26 : decode cX6_of 26 = .ok (.ifCond .ne 8, 3) := by decide +kernel
theorem dX6_of_29 : decode cX6_of 29 = .ok (.aload_n 3, 1) := by decide +kernel
theorem dX6_of_30 : decode cX6_of 30 = .ok (.getfield 107, 3) := by decide +kernel
theorem dX6_of_33 : decode cX6_of 33 = .ok (.ireturn, 1) := by decide +kernel
theorem dX6_of_34 : decode cX6_of 34 = .ok (.iload_n 2, 1) := by decide +kernel
theorem dX6_of_35 : decode cX6_of 35 = .ok (.iconst 1, 1) := by decide +kernel
theorem dX6_of_36 : decode cX6_of 36 = .ok (.if_icmp .ne 11, 3) := by decide +kernel
theorem dX6_of_39 : decode cX6_of 39 = .ok (.aload_n 3, 1) := by decide +kernel
theorem dX6_of_40 : decode cX6_of 40 = .ok (.getfield 112, 3) := by decide +kernel
theorem dX6_of_43 : decode cX6_of 43 = .ok (.getfield 102, 3) := by decide +kernel
theorem dX6_of_46 : decode cX6_of 46 = .ok (.ireturn, 1) := by decide +kernel
theorem dX6_of_47 : decode cX6_of 47 = .ok (.iload_n 2, 1) := by decide +kernel
theorem dX6_of_48 : decode cX6_of 48 = .ok (.iconst 2, 1) := by decide +kernel
theorem dX6_of_49 : decode cX6_of 49 = .ok (.if_icmp .ne 11, 3) := by decide +kernel
theorem dX6_of_52 : decode cX6_of 52 = .ok (.aload_n 3, 1) := by decide +kernel
theorem dX6_of_53 : decode cX6_of 53 = .ok (.getfield 112, 3) := by decide +kernel
theorem dX6_of_56 : decode cX6_of 56 = .ok (.getfield 115, 3) := by decide +kernel
theorem dX6_of_59 : decode cX6_of 59 = .ok (.ireturn, 1) := by decide +kernel
theorem dX6_of_60 : decode cX6_of 60 = .ok (.iload_n 2, 1) := by decide +kernel
theorem dX6_of_61 : decode cX6_of 61 = .ok (.bipush 10, 2) := by decide +kernel
theorem dX6_of_63 : decode cX6_of 63 = .ok (.if_icmp .lt 9, 3) := by decide +kernel
theorem dX6_of_66 : decode cX6_of 66 = .ok (.iload_n 2, 1) := by decide +kernel
theorem dX6_of_67 : decode cX6_of 67 = .ok (.bipush 13, 2) := by decide +kernel
theorem dX6_of_69 : decode cX6_of 69 = .ok (.if_icmp .lt 7, 3) := by decide +kernel
theorem dX6_of_72 : decode cX6_of 72 = .ok (.sipush (-1002), 3) := by decide +kernel
theorem dX6_of_75 : decode cX6_of 75 = .ok (.ireturn, 1) := by decide +kernel
theorem dX6_of_76 : decode cX6_of 76 = .ok (.aload_n 3, 1) := by decide +kernel
theorem dX6_of_77 : decode cX6_of 77 = .ok (.getfield 112, 3) := by decide +kernel
theorem dX6_of_80 : decode cX6_of 80 = .ok (.iload_n 2, 1) := by decide +kernel
theorem dX6_of_81 : decode cX6_of 81 = .ok (.bipush 10, 2) := by decide +kernel
theorem dX6_of_83 : decode cX6_of 83 = .ok (.isub, 1) := by decide +kernel
theorem dX6_of_84 : decode cX6_of 84 = .ok (.invokevirtual 118, 3) := by decide +kernel
theorem dX6_of_87 : decode cX6_of 87 = .ok (.ifCond .eq 17, 3) := by decide +kernel
theorem dX6_of_90 : decode cX6_of 90 = .ok (.aload_n 3, 1) := by decide +kernel
theorem dX6_of_91 : decode cX6_of 91 = .ok (.getfield 112, 3) := by decide +kernel
theorem dX6_of_94 : decode cX6_of 94 = .ok (.iload_n 2, 1) := by decide +kernel
theorem dX6_of_95 : decode cX6_of 95 = .ok (.bipush 10, 2) := by decide +kernel
theorem dX6_of_97 : decode cX6_of 97 = .ok (.isub, 1) := by decide +kernel
theorem dX6_of_98 : decode cX6_of 98 = .ok (.invokevirtual 119, 3) := by decide +kernel
theorem dX6_of_101 : decode cX6_of 101 = .ok (.goto 4, 3) := by decide +kernel
theorem dX6_of_104 : decode cX6_of 104 = .ok (.iconst (-1), 1) := by decide +kernel
theorem dX6_of_105 : decode cX6_of 105 = .ok (.ireturn, 1) := by decide +kernel
theorem dX6_rule_0 : decode cX6_rule 0 = .ok (.aload_n 0, 1) := by decide +kernel
theorem dX6_rule_1 : decode cX6_rule 1 = .ok (.getfield 10, 3) := by decide +kernel
theorem dX6_rule_4 : decode cX6_rule 4 = .ok (.invokevirtual 76, 3) := by decide +kernel
theorem dX6_rule_7 : decode cX6_rule 7 = .ok (.ifCond .ne 7, 3) := by decide +kernel
theorem dX6_rule_10 : decode cX6_rule 10 = .ok (.sipush (-1003), 3) := by decide +kernel
theorem dX6_rule_13 : decode cX6_rule 13 = .ok (.ireturn, 1) := by decide +kernel
theorem dX6_rule_14 : decode cX6_rule 14 = .ok (.aload_n 0, 1) := by decide +kernel
theorem dX6_rule_15 : decode cX6_rule 15 = .ok (.getfield 19, 3) := by decide +kernel
theorem dX6_rule_18 : decode cX6_rule 18 = .ok (.getfield 80, 3) := by decide +kernel
theorem dX6_rule_21 : decode cX6_rule 21 = .ok (.bipush 9, 2) := by decide +kernel
theorem dX6_rule_23 : decode cX6_rule 23 = .ok (.if_icmp .lt 7, 3) := by decide +kernel
theorem dX6_rule_26 : decode cX6_rule 26 = .ok (.sipush (-1004), 3) := by decide +kernel
theorem dX6_rule_29 : decode cX6_rule 29 = .ok (.ireturn, 1) := by decide +kernel
theorem dX6_rule_30 : decode cX6_rule 30 = .ok (.aload_n 0, 1) := by decide +kernel
theorem dX6_rule_31 : decode cX6_rule 31 = .ok (.getfield 19, 3) := by decide +kernel
theorem dX6_rule_34 : decode cX6_rule 34 = .ok (.aload_n 0, 1) := by decide +kernel
theorem dX6_rule_35 : decode cX6_rule 35 = .ok (.getfield 10, 3) := by decide +kernel
theorem dX6_rule_38 : decode cX6_rule 38 = .ok (.invokevirtual 81, 3) := by decide +kernel
theorem dX6_rule_41 : decode cX6_rule 41 = .ok (.aload_n 0, 1) := by decide +kernel
theorem dX6_rule_42 : decode cX6_rule 42 = .ok (.getfield 10, 3) := by decide +kernel
theorem dX6_rule_45 : decode cX6_rule 45 = .ok (.invokevirtual 69, 3) := by decide +kernel
theorem dX6_rule_48 : decode cX6_rule 48 = .ok (.aload_n 0, 1) := by decide +kernel
theorem dX6_rule_49 : decode cX6_rule 49 = .ok (.iconst 0, 1) := by decide +kernel
theorem dX6_rule_50 : decode cX6_rule 50 = .ok (.putfield 46, 3) := by decide +kernel
theorem dX6_rule_53 : decode cX6_rule 53 = .ok (.aload_n 0, 1) := by decide +kernel
theorem dX6_rule_54 : decode cX6_rule 54 = .ok (.iconst 0, 1) := by decide +kernel
theorem dX6_rule_55 : decode cX6_rule 55 = .ok (.putfield 50, 3) := by decide +kernel
theorem dX6_rule_58 : decode cX6_rule 58 = .ok (.aload_n 0, 1) := by decide +kernel
theorem dX6_rule_59 : decode cX6_rule 59 = .ok (.getfield 19, 3) := by decide +kernel
theorem dX6_rule_62 : decode cX6_rule 62 = .ok (.getfield 80, 3) := by decide +kernel
theorem dX6_rule_65 : decode cX6_rule 65 = .ok (.iconst 1, 1) := by decide +kernel
theorem dX6_rule_66 : decode cX6_rule 66 = .ok (.isub, 1) := by decide +kernel
theorem dX6_rule_67 : decode cX6_rule 67 = .ok (.ireturn, 1) := by decide +kernel
theorem dX6_step_0 : decode cX6_step 0 = .ok (.aload_n 0, 1) := by decide +kernel
theorem dX6_step_1 : decode cX6_step 1 = .ok (.getfield 28, 3) := by decide +kernel
theorem dX6_step_4 : decode cX6_step 4 = .ok (.iload_n 1, 1) := by decide +kernel
theorem dX6_step_5 : decode cX6_step 5 = .ok (.invokevirtual 118, 3) := by decide +kernel
theorem dX6_step_8 : decode cX6_step 8 = .ok (.ifCond .eq 14, 3) := by decide +kernel
theorem dX6_step_11 : decode cX6_step 11 = .ok (.aload_n 0, 1) := by decide +kernel
theorem dX6_step_12 : decode cX6_step 12 = .ok (.getfield 19, 3) := by decide +kernel
theorem dX6_step_15 : decode cX6_step 15 = .ok (.iload_n 2, 1) := by decide +kernel
theorem dX6_step_16 : decode cX6_step 16 = .ok (.invokevirtual 85, 3) := by decide +kernel
theorem dX6_step_19 : decode cX6_step 19 = .ok (.ifCond .ne 7, 3) := by decide +kernel
theorem dX6_step_22 : decode cX6_step 22 = .ok (.sipush (-1001), 3) := by decide +kernel
theorem dX6_step_25 : decode cX6_step 25 = .ok (.ireturn, 1) := by decide +kernel
theorem dX6_step_26 : decode cX6_step 26 = .ok (.aload_n 0, 1) := by decide +kernel
theorem dX6_step_27 : decode cX6_step 27 = .ok (.getfield 19, 3) := by decide +kernel
theorem dX6_step_30 : decode cX6_step 30 = .ok (.getfield 103, 3) := by decide +kernel
theorem dX6_step_33 : decode cX6_step 33 = .ok (.iload_n 2, 1) := by decide +kernel
theorem dX6_step_34 : decode cX6_step 34 = .ok (.aaload, 1) := by decide +kernel
theorem dX6_step_35 : decode cX6_step 35 = .ok (.astore_n 3, 1) := by decide +kernel
theorem dX6_step_36 : decode cX6_step 36 = .ok (.aload_n 0, 1) := by decide +kernel
theorem dX6_step_37 : decode cX6_step 37 = .ok (.getfield 28, 3) := by decide +kernel
theorem dX6_step_40 : decode cX6_step 40 = .ok (.getfield 132, 3) := by decide +kernel
theorem dX6_step_43 : decode cX6_step 43 = .ok (.iload_n 1, 1) := by decide +kernel
theorem dX6_step_44 : decode cX6_step 44 = .ok (.iaload, 1) := by decide +kernel
theorem dX6_step_45 : decode cX6_step 45 = .ok (.aload_n 3, 1) := by decide +kernel
theorem dX6_step_46 : decode cX6_step 46 = .ok (.getfield 107, 3) := by decide +kernel
theorem dX6_step_49 : decode cX6_step 49 = .ok (.if_icmp .eq 7, 3) := by decide +kernel
theorem dX6_step_52 : decode cX6_step 52 = .ok (.sipush (-1003), 3) := by decide +kernel
theorem dX6_step_55 : decode cX6_step 55 = .ok (.ireturn, 1) := by decide +kernel
theorem dX6_step_56 : decode cX6_step 56 = .ok (.aload_n 0, 1) := by decide +kernel
theorem dX6_step_57 : decode cX6_step 57 = .ok (.getfield 28, 3) := by decide +kernel
theorem dX6_step_60 : decode cX6_step 60 = .ok (.getfield 102, 3) := by decide +kernel
theorem dX6_step_63 : decode cX6_step 63 = .ok (.aload_n 3, 1) := by decide +kernel
theorem dX6_step_64 : decode cX6_step 64 = .ok (.getfield 112, 3) := by decide +kernel
theorem dX6_step_67 : decode cX6_step 67 = .ok (.getfield 102, 3) := by decide +kernel
theorem dX6_step_70 : decode cX6_step 70 = .ok (.iadd, 1) := by decide +kernel
theorem dX6_step_71 : decode cX6_step 71 = .ok (.iconst 1, 1) := by decide +kernel
theorem dX6_step_72 : decode cX6_step 72 = .ok (.isub, 1) := by decide +kernel
theorem dX6_step_73 : decode cX6_step 73 = .ok (.bipush 12, 2) := by decide +kernel
theorem dX6_step_75 : decode cX6_step 75 = .ok (.if_icmp .gt 25, 3) := by decide +kernel
theorem dX6_step_78 : decode cX6_step 78 = .ok (.aload_n 0, 1) := by decide +kernel
theorem dX6_step_79 : decode cX6_step 79 = .ok (.getfield 28, 3) := by decide +kernel
theorem dX6_step_82 : decode cX6_step 82 = .ok (.getfield 115, 3) := by decide +kernel
theorem dX6_step_85 : decode cX6_step 85 = .ok (.aload_n 3, 1) := by decide +kernel
theorem dX6_step_86 : decode cX6_step 86 = .ok (.getfield 112, 3) := by decide +kernel
theorem dX6_step_89 : decode cX6_step 89 = .ok (.getfield 115, 3) := by decide +kernel
theorem dX6_step_92 : decode cX6_step 92 = .ok (.iadd, 1) := by decide +kernel
theorem dX6_step_93 : decode cX6_step 93 = .ok (.iconst 2, 1) := by decide +kernel
theorem dX6_step_94 : decode cX6_step 94 = .ok (.isub, 1) := by decide +kernel
theorem dX6_step_95 : decode cX6_step 95 = .ok (.bipush 9, 2) := by decide +kernel
theorem dX6_step_97 : decode cX6_step 97 = .ok (.if_icmp .le 7, 3) := by decide +kernel
theorem dX6_step_100 : decode cX6_step 100 = .ok (.sipush (-1004), 3) := by decide +kernel
theorem dX6_step_103 : decode cX6_step 103 = .ok (.ireturn, 1) := by decide +kernel
theorem dX6_step_104 : decode cX6_step 104 = .ok (.aload_n 0, 1) := by decide +kernel
theorem dX6_step_105 : decode cX6_step 105 = .ok (.getfield 28, 3) := by decide +kernel
theorem dX6_step_108 : decode cX6_step 108 = .ok (.iload_n 1, 1) := by decide +kernel
theorem dX6_step_109 : decode cX6_step 109 = .ok (.aload_n 3, 1) := by decide +kernel
theorem dX6_step_110 : decode cX6_step 110 = .ok (.getfield 112, 3) := by decide +kernel
theorem dX6_step_113 : decode cX6_step 113 = .ok (.invokevirtual 136, 3) := by decide +kernel
theorem dX6_step_116 : decode cX6_step 116 = .ok (.aload_n 0, 1) := by decide +kernel
theorem dX6_step_117 : decode cX6_step 117 = .ok (.iconst 0, 1) := by decide +kernel
theorem dX6_step_118 : decode cX6_step 118 = .ok (.putfield 46, 3) := by decide +kernel
theorem dX6_step_121 : decode cX6_step 121 = .ok (.aload_n 0, 1) := by decide +kernel
theorem dX6_step_122 : decode cX6_step 122 = .ok (.dup, 1) := by decide +kernel
theorem dX6_step_123 : decode cX6_step 123 = .ok (.getfield 53, 3) := by decide +kernel
theorem dX6_step_126 : decode cX6_step 126 = .ok (.iconst 1, 1) := by decide +kernel
theorem dX6_step_127 : decode cX6_step 127 = .ok (.iadd, 1) := by decide +kernel
theorem dX6_step_128 : decode cX6_step 128 = .ok (.putfield 53, 3) := by decide +kernel
theorem dX6_step_131 : decode cX6_step 131 = .ok (.aload_n 0, 1) := by decide +kernel
theorem dX6_step_132 : decode cX6_step 132 = .ok (.dup, 1) := by decide +kernel
theorem dX6_step_133 : decode cX6_step 133 = .ok (.getfield 57, 3) := by decide +kernel
theorem dX6_step_136 : decode cX6_step 136 = .ok (.iconst 1, 1) := by decide +kernel
theorem dX6_step_137 : decode cX6_step 137 = .ok (.iadd, 1) := by decide +kernel
theorem dX6_step_138 : decode cX6_step 138 = .ok (.putfield 57, 3) := by decide +kernel
theorem dX6_step_141 : decode cX6_step 141 = .ok (.aload_n 0, 1) := by decide +kernel
theorem dX6_step_142 : decode cX6_step 142 = .ok (.getfield 28, 3) := by decide +kernel
theorem dX6_step_145 : decode cX6_step 145 = .ok (.getfield 102, 3) := by decide +kernel
theorem dX6_step_148 : decode cX6_step 148 = .ok (.ireturn, 1) := by decide +kernel
section
variable (l : Launch) (D : va_G) (cI cJ cZ cR : ClassId)
set_option maxHeartbeats 4000000 in
set_option maxRecDepth 100000 in
theorem c_X6_letter (sz : Nat) (h0 : Nat) (pg : Nat) (bk : Nat) (fg : Nat) (og : Nat) (lg : Nat) (oS : Int32) (lS : Int32) (s1 : Int32) (s2 : Int32) (s3 : Int32) (pc : Nat) (z : Nat) (pf : Nat → Int32) (p0 : Int32) (hz : z ≤ 16) : CTi l D cI cJ cZ cR yX6_letter cX6_letter 2 (some .int) 1 21 0 0 sz [.ref h0, .int p0] [kX6 h0 pg bk fg og lg oS lS s1 s2 s3, kX3 pg pc (nI z), kI cI pc 16 pf] (fun (r : Int32) (u : Nat × (Nat → Int32)) => (r = (if p0 < 32 then -1002 else if p0 ≤ 126 then (if nI z < 16 then nI (z + 1) else -1004) else -1002)) ∧ ((letOK p0 z ∧ u.1 = z + 1 ∧ u.2 = upd pf z p0) ∨ (¬ letOK p0 z ∧ u.1 = z ∧ u.2 = pf))) (fun (u : Nat × (Nat → Int32)) => [kX6 h0 pg bk fg og lg oS lS s1 s2 s3, kX3 pg pc (nI u.1), kI cI pc 16 u.2]) := by
  refine CTi.of (ty := .int) (by decide) (Nat.le_of_ble_eq_true rfl) rfl ?_
  intro p e s m below meth c A Q ls hd hin hK hsz hP hD hA hS hl hret
  obtain ⟨hx, hb, hml, hown, hts⟩ := id hd
  have hK1 := hK.1
  have hown : s.vm.findClass RX6 = some m.cls := hown
  have hl : lv_has ls 2 [(0, .ref h0), (1, .int p0)] := hl
  refine lv_iload_n hx hb dX6_letter_0 rfl (lv_at hl 1 rfl) ?_
  refine lv_bipush (v := 32) hx hb dX6_letter_1 (by decide) ?_
  refine lv_icmp_lt (tgt := 12) hx hb dX6_letter_3 (by decide) (fun c_1 => ?_) (fun c_1 => ?_)
  · skip
    refine lv_sipush (v := -1002) hx hb dX6_letter_12 (by decide) ?_
    exact hret _ _ _ _ _ _ (-1002) (z, pf) dX6_letter_15 rfl hS (Nat.le_of_ble_eq_true rfl) (Nat.le_of_ble_eq_true rfl) ⟨by simp [c_1], by simp [letOK, c_1]⟩ (hP.sub [0, 1, 2] rfl) (hD.sub [0, 1, 2] rfl rfl)
  · skip
    refine lv_iload_n hx hb dX6_letter_6 rfl (lv_at hl 1 rfl) ?_
    refine lv_bipush (v := 126) hx hb dX6_letter_7 (by decide) ?_
    refine lv_icmp_le (tgt := 16) hx hb dX6_letter_9 (by decide) (fun c_2 => ?_) (fun c_2 => ?_)
    · skip
      refine lv_aload_n hx hb dX6_letter_16 rfl (lv_at hl 0 rfl) ?_
      refine va_get (D := D) (ci := 6) (v := .ref pg) (C := RX6) (T := TX6) (N := 10) hx hb hts iT_X6 hown hK1 hP 0 rfl rfl 0 (by decide) (hts _ t_154) (fun _ h9 => h9) rfl dX6_letter_17 ?_
      refine va_get (D := D) (ci := 3) (v := .int (nI z)) (C := RX3) (T := TX3) (N := 2) hx hb hts iT_X3 hown hK1 hP 1 rfl rfl 1 (by decide) (hts _ t_29) (fun _ h9 => h9) rfl dX6_letter_20 ?_
      refine lv_bipush (v := 16) hx hb dX6_letter_23 (by decide) ?_
      refine lv_icmp_lt (tgt := 32) hx hb dX6_letter_25 (by decide) (fun c_3 => ?_) (fun c_3 => ?_)
      · skip
        refine lv_aload_n hx hb dX6_letter_32 rfl (lv_at hl 0 rfl) ?_
        refine va_get (D := D) (ci := 6) (v := .ref pg) (C := RX6) (T := TX6) (N := 10) hx hb hts iT_X6 hown hK1 hP 0 rfl rfl 0 (by decide) (hts _ t_154) (fun _ h9 => h9) rfl dX6_letter_33 ?_
        refine lv_iload_n hx hb dX6_letter_36 rfl (lv_at hl 1 rfl) ?_
        refine xc_v (wc := [kX3 pg pc (nI z), kI cI pc 16 pf]) (wr := [kX6 h0 pg bk fg og lg oS lS s1 s2 s3]) (xrV (n := 1) (As := [.int p0]) (rest := []) (ci := 3) (q0 := 1) hd hK hP hD (c_X3_write l D cI cJ cZ cR _ pg pc z pf p0 (ltN (b := 16) (by decide) (by omega) c_3)) (gV t_189 mV_X3_write) hV_X3_write ⟨(Nat.le_of_ble_eq_true rfl), (Nat.le_of_ble_eq_true rfl)⟩ rfl rfl [1, 2] rfl rfl rfl hl.1 rfl (Nat.le_of_ble_eq_true rfl) dX6_letter_37 ⟨(Nat.le_of_ble_eq_true rfl), (Nat.le_of_ble_eq_true rfl)⟩) hP hD hS hA [1, 2] [0] rfl rfl rfl (by decide) (fun u_5 H locs hw_6 hP hD hS => ?_)
        have hP : va_P D vwCl [kX6 h0 pg bk fg og lg oS lS s1 s2 s3, kX3 pg pc (nI (z + 1)), kI cI pc 16 (upd pf z p0)] H := hP
        have hD : va_D A [kX6 h0 pg bk fg og lg oS lS s1 s2 s3, kX3 pg pc (nI (z + 1)), kI cI pc 16 (upd pf z p0)] := hD
        refine lv_aload_n hx hb dX6_letter_40 rfl (lv_at hl 0 rfl) ?_
        refine va_get (D := D) (ci := 6) (v := .ref pg) (C := RX6) (T := TX6) (N := 10) hx hb hts iT_X6 hown hK1 hP 0 rfl rfl 0 (by decide) (hts _ t_154) (fun _ h9 => h9) rfl dX6_letter_41 ?_
        refine va_get (D := D) (ci := 3) (v := .int (nI (z + 1))) (C := RX3) (T := TX3) (N := 2) hx hb hts iT_X3 hown hK1 hP 1 rfl rfl 1 (by decide) (hts _ t_29) (fun _ h9 => h9) rfl dX6_letter_44 ?_
        exact hret _ _ _ _ _ _ (nI (z + 1)) ((z + 1), upd pf z p0) dX6_letter_47 rfl hS (Nat.le_of_ble_eq_true rfl) (Nat.le_of_ble_eq_true rfl) ⟨by simp [c_1, c_2, c_3], by simp [letOK, c_1, c_2, c_3]⟩ (hP.sub [0, 1, 2] rfl) (hD.sub [0, 1, 2] rfl rfl)
      · skip
        refine lv_sipush (v := -1004) hx hb dX6_letter_28 (by decide) ?_
        exact hret _ _ _ _ _ _ (-1004) (z, pf) dX6_letter_31 rfl hS (Nat.le_of_ble_eq_true rfl) (Nat.le_of_ble_eq_true rfl) ⟨by simp [c_1, c_2, c_3], by simp [letOK, c_1, c_2, c_3]⟩ (hP.sub [0, 1, 2] rfl) (hD.sub [0, 1, 2] rfl rfl)
    · skip
      refine lv_sipush (v := -1002) hx hb dX6_letter_12 (by decide) ?_
      exact hret _ _ _ _ _ _ (-1002) (z, pf) dX6_letter_15 rfl hS (Nat.le_of_ble_eq_true rfl) (Nat.le_of_ble_eq_true rfl) ⟨by simp [c_1, c_2], by simp [letOK, c_1, c_2]⟩ (hP.sub [0, 1, 2] rfl) (hD.sub [0, 1, 2] rfl rfl)
set_option maxHeartbeats 4000000 in
set_option maxRecDepth 100000 in
theorem c_X6_blank (sz : Nat) (h0 : Nat) (pg : Nat) (bk : Nat) (fg : Nat) (og : Nat) (lg : Nat) (oS : Int32) (lS : Int32) (s1 : Int32) (s2 : Int32) (s3 : Int32) (pc : Nat) (z : Nat)  : CTi l D cI cJ cZ cR yX6_blank cX6_blank 2 (some .int) 1 20 0 0 sz [.ref h0] [kX6 h0 pg bk fg og lg oS lS s1 s2 s3, kX3 pg pc (nI z)] (fun (r : Int32) (u : Unit) => (r = (nI z))) (fun (u : Unit) => [kX6 h0 pg bk fg og lg oS lS s1 s2 s3, kX3 pg pc 0]) := by
  refine CTi.of (ty := .int) (by decide) (Nat.le_of_ble_eq_true rfl) rfl ?_
  intro p e s m below meth c A Q ls hd hin hK hsz hP hD hA hS hl hret
  obtain ⟨hx, hb, hml, hown, hts⟩ := id hd
  have hK1 := hK.1
  have hown : s.vm.findClass RX6 = some m.cls := hown
  have hl : lv_has ls 2 [(0, .ref h0)] := hl
  refine lv_aload_n hx hb dX6_blank_0 rfl (lv_at hl 0 rfl) ?_
  refine va_get (D := D) (ci := 6) (v := .ref pg) (C := RX6) (T := TX6) (N := 10) hx hb hts iT_X6 hown hK1 hP 0 rfl rfl 0 (by decide) (hts _ t_154) (fun _ h9 => h9) rfl dX6_blank_1 ?_
  refine va_get (D := D) (ci := 3) (v := .int (nI z)) (C := RX3) (T := TX3) (N := 2) hx hb hts iT_X3 hown hK1 hP 1 rfl rfl 1 (by decide) (hts _ t_29) (fun _ h9 => h9) rfl dX6_blank_4 ?_
  refine lv_istore_n (lv' := [(1, .int (nI z)), (0, .ref h0)]) hx hb dX6_blank_7 rfl hl (by decide) rfl (fun ls hl => ?_)
  refine lv_aload_n hx hb dX6_blank_8 rfl (lv_at hl 1 rfl) ?_
  refine va_get (D := D) (ci := 6) (v := .ref pg) (C := RX6) (T := TX6) (N := 10) hx hb hts iT_X6 hown hK1 hP 0 rfl rfl 0 (by decide) (hts _ t_154) (fun _ h9 => h9) rfl dX6_blank_9 ?_
  refine xc_v (wc := [kX3 pg pc (nI z)]) (wr := [kX6 h0 pg bk fg og lg oS lS s1 s2 s3]) (xrV (n := 0) (As := []) (rest := []) (ci := 3) (q0 := 1) hd hK hP hD (c_X3_clear l D cI cJ cZ cR _ pg pc z ) (gV t_197 mV_X3_clear) hV_X3_clear ⟨(Nat.le_of_ble_eq_true rfl), (Nat.le_of_ble_eq_true rfl)⟩ rfl rfl [1] rfl rfl rfl hl.1 rfl (Nat.le_of_ble_eq_true rfl) dX6_blank_12 ⟨(Nat.le_of_ble_eq_true rfl), (Nat.le_of_ble_eq_true rfl)⟩) hP hD hS hA [1] [0] rfl rfl rfl (by decide) (fun u_2 H locs hw_3 hP hD hS => ?_)
  have hP : va_P D vwCl [kX6 h0 pg bk fg og lg oS lS s1 s2 s3, kX3 pg pc 0] H := hP
  have hD : va_D A [kX6 h0 pg bk fg og lg oS lS s1 s2 s3, kX3 pg pc 0] := hD
  refine lv_iload_n hx hb dX6_blank_15 rfl (lv_at hl 0 rfl) ?_
  exact hret _ _ _ _ _ _ (nI z) () dX6_blank_16 rfl hS (Nat.le_of_ble_eq_true rfl) (Nat.le_of_ble_eq_true rfl) rfl (hP.sub [0, 1] rfl) (hD.sub [0, 1] rfl rfl)
set_option maxHeartbeats 4000000 in
set_option maxRecDepth 100000 in
theorem g_fault_0 (sz : Nat) (h0 : Nat) (pg : Nat) (bk : Nat) (fg : Nat) (og : Nat) (lg : Nat) (oS : Int32) (lS : Int32) (s1 : Int32) (s2 : Int32) (s3 : Int32) (pc : Nat) (z : Nat) (pf : Nat → Int32) (hz : z ≤ 16) : CTi l D cI cJ cZ cR yX6_fault cX6_fault 2 (some .int) 3 70 0 0 sz [.ref h0, .int 0] [kX6 h0 pg bk fg og lg oS lS s1 s2 s3, kX3 pg pc (nI z), kI cI pc 16 pf] (fun (r : Int32) (u : Nat) => (r = (nI u)) ∧ (FF (okF0 pf) z u)) (fun (u : Nat) => [kX6 h0 pg bk fg og lg oS lS s1 s2 s3, kX3 pg pc (nI z), kI cI pc 16 pf]) := by
  refine CTi.of (ty := .int) (by decide) (Nat.le_of_ble_eq_true rfl) rfl ?_
  intro p e s m below meth c A Q ls hd hin hK hsz hP hD hA hS hl hret
  obtain ⟨hx, hb, hml, hown, hts⟩ := id hd
  have hK1 := hK.1
  have hown : s.vm.findClass RX6 = some m.cls := hown
  have hl : lv_has ls 2 [(0, .ref h0), (1, .int 0)] := hl
  refine lv_aload_n hx hb dX6_fault_0 rfl (lv_at hl 0 rfl) ?_
  refine va_get (D := D) (ci := 6) (v := .ref pg) (C := RX6) (T := TX6) (N := 10) hx hb hts iT_X6 hown hK1 hP 0 rfl rfl 0 (by decide) (hts _ t_154) (fun _ h9 => h9) rfl dX6_fault_1 ?_
  refine lv_iload_n hx hb dX6_fault_4 rfl (lv_at hl 1 rfl) ?_
  refine xc_i (wc := [kX3 pg pc (nI z), kI cI pc 16 pf]) (wr := [kX6 h0 pg bk fg og lg oS lS s1 s2 s3]) (xrV (n := 1) (As := [.int 0]) (rest := []) (ci := 3) (q0 := 1) hd hK hP hD (g_firstFault_0 l D cI cJ cZ cR _ pg pc z pf hz) (gV t_205 mV_X3_firstFault) hV_X3_firstFault ⟨(Nat.le_of_ble_eq_true rfl), (Nat.le_of_ble_eq_true rfl)⟩ rfl rfl [1, 2] rfl rfl rfl hl.1 rfl (Nat.le_of_ble_eq_true rfl) dX6_fault_5 ⟨(Nat.le_of_ble_eq_true rfl), (Nat.le_of_ble_eq_true rfl)⟩) hP hD hS hA [1, 2] [0] rfl rfl rfl (by decide) (fun r_1 u_2 H locs hw_3 hP hD hS => ?_)
  obtain ⟨k_4, rfl⟩ : ∃ z9, z9 = u_2 := ⟨_, rfl⟩
  obtain ⟨hw_5, hw_6⟩ : (r_1 = (nI k_4)) ∧ (FF (okF0 pf) z k_4) := hw_3
  subst hw_5
  have hP : va_P D vwCl [kX6 h0 pg bk fg og lg oS lS s1 s2 s3, kX3 pg pc (nI z), kI cI pc 16 pf] H := hP
  have hD : va_D A [kX6 h0 pg bk fg og lg oS lS s1 s2 s3, kX3 pg pc (nI z), kI cI pc 16 pf] := hD
  exact hret _ _ _ _ _ _ (nI k_4) k_4 dX6_fault_8 rfl hS (Nat.le_of_ble_eq_true rfl) (Nat.le_of_ble_eq_true rfl) ⟨rfl, hw_6⟩ (hP.sub [0, 1, 2] rfl) (hD.sub [0, 1, 2] rfl rfl)
set_option maxHeartbeats 4000000 in
set_option maxRecDepth 100000 in
theorem g_fault_1 (sz : Nat) (h0 : Nat) (pg : Nat) (bk : Nat) (fg : Nat) (og : Nat) (lg : Nat) (oS : Int32) (lS : Int32) (s1 : Int32) (s2 : Int32) (s3 : Int32) (pc : Nat) (z : Nat) (pf : Nat → Int32) (hz : z ≤ 16) : CTi l D cI cJ cZ cR yX6_fault cX6_fault 2 (some .int) 3 70 0 0 sz [.ref h0, .int 1] [kX6 h0 pg bk fg og lg oS lS s1 s2 s3, kX3 pg pc (nI z), kI cI pc 16 pf] (fun (r : Int32) (u : Nat) => (r = (nI u)) ∧ (FF (okF1 pf) z u)) (fun (u : Nat) => [kX6 h0 pg bk fg og lg oS lS s1 s2 s3, kX3 pg pc (nI z), kI cI pc 16 pf]) := by
  refine CTi.of (ty := .int) (by decide) (Nat.le_of_ble_eq_true rfl) rfl ?_
  intro p e s m below meth c A Q ls hd hin hK hsz hP hD hA hS hl hret
  obtain ⟨hx, hb, hml, hown, hts⟩ := id hd
  have hK1 := hK.1
  have hown : s.vm.findClass RX6 = some m.cls := hown
  have hl : lv_has ls 2 [(0, .ref h0), (1, .int 1)] := hl
  refine lv_aload_n hx hb dX6_fault_0 rfl (lv_at hl 0 rfl) ?_
  refine va_get (D := D) (ci := 6) (v := .ref pg) (C := RX6) (T := TX6) (N := 10) hx hb hts iT_X6 hown hK1 hP 0 rfl rfl 0 (by decide) (hts _ t_154) (fun _ h9 => h9) rfl dX6_fault_1 ?_
  refine lv_iload_n hx hb dX6_fault_4 rfl (lv_at hl 1 rfl) ?_
  refine xc_i (wc := [kX3 pg pc (nI z), kI cI pc 16 pf]) (wr := [kX6 h0 pg bk fg og lg oS lS s1 s2 s3]) (xrV (n := 1) (As := [.int 1]) (rest := []) (ci := 3) (q0 := 1) hd hK hP hD (g_firstFault_1 l D cI cJ cZ cR _ pg pc z pf hz) (gV t_205 mV_X3_firstFault) hV_X3_firstFault ⟨(Nat.le_of_ble_eq_true rfl), (Nat.le_of_ble_eq_true rfl)⟩ rfl rfl [1, 2] rfl rfl rfl hl.1 rfl (Nat.le_of_ble_eq_true rfl) dX6_fault_5 ⟨(Nat.le_of_ble_eq_true rfl), (Nat.le_of_ble_eq_true rfl)⟩) hP hD hS hA [1, 2] [0] rfl rfl rfl (by decide) (fun r_1 u_2 H locs hw_3 hP hD hS => ?_)
  obtain ⟨k_4, rfl⟩ : ∃ z9, z9 = u_2 := ⟨_, rfl⟩
  obtain ⟨hw_5, hw_6⟩ : (r_1 = (nI k_4)) ∧ (FF (okF1 pf) z k_4) := hw_3
  subst hw_5
  have hP : va_P D vwCl [kX6 h0 pg bk fg og lg oS lS s1 s2 s3, kX3 pg pc (nI z), kI cI pc 16 pf] H := hP
  have hD : va_D A [kX6 h0 pg bk fg og lg oS lS s1 s2 s3, kX3 pg pc (nI z), kI cI pc 16 pf] := hD
  exact hret _ _ _ _ _ _ (nI k_4) k_4 dX6_fault_8 rfl hS (Nat.le_of_ble_eq_true rfl) (Nat.le_of_ble_eq_true rfl) ⟨rfl, hw_6⟩ (hP.sub [0, 1, 2] rfl) (hD.sub [0, 1, 2] rfl rfl)
set_option maxHeartbeats 4000000 in
set_option maxRecDepth 100000 in
theorem c_X6_rule (sz : Nat) (h0 : Nat) (pg : Nat) (bk : Nat) (fg : Nat) (og : Nat) (lg : Nat) (oS : Int32) (lS : Int32) (s1 : Int32) (s2 : Int32) (s3 : Int32) (br : Nat) (r9 : Nat) (pc : Nat) (z : Nat) (pf : Nat → Int32) (rho : Nat → RT) (hz : z ≤ 16) (hr : r9 ≤ 9) : CTi l D cI cJ cZ cR yX6_rule cX6_rule 1 (some .int) 6 135 0 0 sz [.ref h0] ([kX6 h0 pg bk fg og lg oS lS s1 s2 s3, kX3 pg pc (nI z), kI cI pc 16 pf, kX5 bk br (nI r9), kQ cR br 9 (fun k => some ((rho k).1.1))] ++ RB cI rho) (fun (r : Int32) (u : Int32 × Int32 × Nat × Nat × (Nat → RT)) => (RuP pf z r9 rho r u.2.2.1 u.2.2.2.1 u.2.2.2.2) ∧ (u.1 = 0 ∨ (u.1 = oS ∧ u.2.2.2.1 = r9 ∧ u.2.2.2.2 = rho))) (fun (u : Int32 × Int32 × Nat × Nat × (Nat → RT)) => ([kX6 h0 pg bk fg og lg u.1 u.2.1 s1 s2 s3, kX3 pg pc (nI u.2.2.1), kI cI pc 16 pf, kX5 bk br (nI u.2.2.2.1), kQ cR br 9 (fun k => some ((u.2.2.2.2 k).1.1))] ++ RB cI u.2.2.2.2)) := by
  refine CTi.of (ty := .int) (by decide) (Nat.le_of_ble_eq_true rfl) rfl ?_
  intro p e s m below meth c A Q ls hd hin hK hsz hP hD hA hS hl hret
  obtain ⟨hx, hb, hml, hown, hts⟩ := id hd
  have hK1 := hK.1
  have hown : s.vm.findClass RX6 = some m.cls := hown
  have hl : lv_has ls 1 [(0, .ref h0)] := hl
  refine lv_aload_n hx hb dX6_rule_0 rfl (lv_at hl 0 rfl) ?_
  refine va_get (D := D) (ci := 6) (v := .ref pg) (C := RX6) (T := TX6) (N := 10) hx hb hts iT_X6 hown hK1 hP 0 rfl rfl 0 (by decide) (hts _ t_154) (fun _ h9 => h9) rfl dX6_rule_1 ?_
  have hPD : PD D A ([kX3 pg pc (nI z), kI cI pc 16 pf] ++ ([kX6 h0 pg bk fg og lg oS lS s1 s2 s3, kX5 bk br (nI r9), kQ cR br 9 (fun k => some ((rho k).1.1))] ++ RB cI rho)) s.heap := PD.perm ⟨hP, hD⟩ (permA pm_34)
  refine xp_i (wc := [kX3 pg pc (nI z), kI cI pc 16 pf]) (wr := ([kX6 h0 pg bk fg og lg oS lS s1 s2 s3, kX5 bk br (nI r9), kQ cR br 9 (fun k => some ((rho k).1.1))] ++ RB cI rho)) (xqV (n := 0) (As := []) (rest := []) (ci := 3) (q0 := 0) hd hK hPD.left (c_X3_isRule l D cI cJ cZ cR _ pg pc z pf hz) (gV t_227 mV_X3_isRule) hV_X3_isRule ⟨(Nat.le_of_ble_eq_true rfl), (Nat.le_of_ble_eq_true rfl)⟩ rfl rfl rfl hl.1 rfl (Nat.le_of_ble_eq_true rfl) dX6_rule_4 ⟨(Nat.le_of_ble_eq_true rfl), (Nat.le_of_ble_eq_true rfl)⟩) hPD hS hA (fun r_1 u_2 H locs hw_3 hPD hS => ?_)
  have hw_4 : YN r_1 (RuleOK pf z) := hw_3
  have hYN := hw_4
  obtain ⟨hP, hD⟩ := hPD.perm permA'
  have hP : va_P D vwCl ([kX6 h0 pg bk fg og lg oS lS s1 s2 s3, kX5 bk br (nI r9), kQ cR br 9 (fun k => some ((rho k).1.1)), kX3 pg pc (nI z), kI cI pc 16 pf] ++ RB cI rho) H := hP
  have hD : va_D A ([kX6 h0 pg bk fg og lg oS lS s1 s2 s3, kX5 bk br (nI r9), kQ cR br 9 (fun k => some ((rho k).1.1)), kX3 pg pc (nI z), kI cI pc 16 pf] ++ RB cI rho) := hD
  refine lv_if_ne (tgt := 14) hx hb dX6_rule_7 (by decide) (fun c_5 => ?_) (fun c_5 => ?_)
  · skip
    have hRO := hYN.of c_5
    have hRZ := ro_z hRO
    refine lv_aload_n hx hb dX6_rule_14 rfl (lv_at hl 0 rfl) ?_
    refine va_get (D := D) (ci := 6) (v := .ref bk) (C := RX6) (T := TX6) (N := 10) hx hb hts iT_X6 hown hK1 hP 0 rfl rfl 1 (by decide) (hts _ t_155) (fun _ h9 => h9) rfl dX6_rule_15 ?_
    refine va_get (D := D) (ci := 5) (v := .int (nI r9)) (C := RX5) (T := TX5) (N := 2) hx hb hts iT_X5 hown hK1 hP 1 rfl rfl 1 (by decide) (hts _ t_107) (fun _ h9 => h9) rfl dX6_rule_18 ?_
    refine lv_bipush (v := 9) hx hb dX6_rule_21 (by decide) ?_
    refine lv_icmp_lt (tgt := 30) hx hb dX6_rule_23 (by decide) (fun c_6 => ?_) (fun c_6 => ?_)
    · skip
      refine lv_aload_n hx hb dX6_rule_30 rfl (lv_at hl 0 rfl) ?_
      refine va_get (D := D) (ci := 6) (v := .ref bk) (C := RX6) (T := TX6) (N := 10) hx hb hts iT_X6 hown hK1 hP 0 rfl rfl 1 (by decide) (hts _ t_155) (fun _ h9 => h9) rfl dX6_rule_31 ?_
      refine lv_aload_n hx hb dX6_rule_34 rfl (lv_at hl 0 rfl) ?_
      refine va_get (D := D) (ci := 6) (v := .ref pg) (C := RX6) (T := TX6) (N := 10) hx hb hts iT_X6 hown hK1 hP 0 rfl rfl 0 (by decide) (hts _ t_154) (fun _ h9 => h9) rfl dX6_rule_35 ?_
      have hPD : PD D A (([kX5 bk br (nI r9), kQ cR br 9 (fun k => some ((rho k).1.1)), kX3 pg pc (nI z), kI cI pc 16 pf] ++ RB cI rho) ++ [kX6 h0 pg bk fg og lg oS lS s1 s2 s3]) H := PD.perm ⟨hP, hD⟩ (permB pm_35)
      refine xp_v (wc := ([kX5 bk br (nI r9), kQ cR br 9 (fun k => some ((rho k).1.1)), kX3 pg pc (nI z), kI cI pc 16 pf] ++ RB cI rho)) (wr := [kX6 h0 pg bk fg og lg oS lS s1 s2 s3]) (xqV (n := 1) (As := [.ref pg]) (rest := []) (ci := 5) (q0 := 0) hd hK hPD.left (c_X5_add l D cI cJ cZ cR _ bk br r9 pg pc z pf rho hz (ltN (b := 9) (by decide) (by omega) c_6) (opn_n (ro_l hRO)) (by omega) (by omega) (nd_le pf z) (nd_ge pf z)) (gV t_244 mV_X5_add) hV_X5_add ⟨(Nat.le_of_ble_eq_true rfl), (Nat.le_of_ble_eq_true rfl)⟩ rfl rfl rfl hl.1 rfl (Nat.le_of_ble_eq_true rfl) dX6_rule_38 ⟨(Nat.le_of_ble_eq_true rfl), (Nat.le_of_ble_eq_true rfl)⟩) hPD hS hA (fun u_8 H locs hw_9 hPD hS => ?_)
      obtain ⟨rho2_10, rfl⟩ : ∃ z9, z9 = u_8 := ⟨_, rfl⟩
      obtain ⟨hw_11, hw_12⟩ : (RNew pf z (rho2_10 r9)) ∧ (∀ k, ¬ k = r9 → rho2_10 k = rho k) := hw_9
      have hN1 := hw_11
      have hN2 := hw_12
      obtain ⟨hP, hD⟩ := hPD.perm permB'
      have hP : va_P D vwCl ([kX6 h0 pg bk fg og lg oS lS s1 s2 s3, kX5 bk br (nI (r9 + 1)), kQ cR br 9 (fun k => some ((rho2_10 k).1.1)), kX3 pg pc (nI z), kI cI pc 16 pf] ++ RB cI rho2_10) H := hP
      have hD : va_D A ([kX6 h0 pg bk fg og lg oS lS s1 s2 s3, kX5 bk br (nI (r9 + 1)), kQ cR br 9 (fun k => some ((rho2_10 k).1.1)), kX3 pg pc (nI z), kI cI pc 16 pf] ++ RB cI rho2_10) := hD
      refine lv_aload_n hx hb dX6_rule_41 rfl (lv_at hl 0 rfl) ?_
      refine va_get (D := D) (ci := 6) (v := .ref pg) (C := RX6) (T := TX6) (N := 10) hx hb hts iT_X6 hown hK1 hP 0 rfl rfl 0 (by decide) (hts _ t_154) (fun _ h9 => h9) rfl dX6_rule_42 ?_
      have hPD : PD D A ([kX3 pg pc (nI z)] ++ ([kX6 h0 pg bk fg og lg oS lS s1 s2 s3, kX5 bk br (nI (r9 + 1)), kQ cR br 9 (fun k => some ((rho2_10 k).1.1)), kI cI pc 16 pf] ++ RB cI rho2_10)) H := PD.perm ⟨hP, hD⟩ (permA pm_36)
      refine xp_v (wc := [kX3 pg pc (nI z)]) (wr := ([kX6 h0 pg bk fg og lg oS lS s1 s2 s3, kX5 bk br (nI (r9 + 1)), kQ cR br 9 (fun k => some ((rho2_10 k).1.1)), kI cI pc 16 pf] ++ RB cI rho2_10)) (xqV (n := 0) (As := []) (rest := []) (ci := 3) (q0 := 0) hd hK hPD.left (c_X3_clear l D cI cJ cZ cR _ pg pc z ) (gV t_197 mV_X3_clear) hV_X3_clear ⟨(Nat.le_of_ble_eq_true rfl), (Nat.le_of_ble_eq_true rfl)⟩ rfl rfl rfl hl.1 rfl (Nat.le_of_ble_eq_true rfl) dX6_rule_45 ⟨(Nat.le_of_ble_eq_true rfl), (Nat.le_of_ble_eq_true rfl)⟩) hPD hS hA (fun u_14 H locs hw_15 hPD hS => ?_)
      obtain ⟨hP, hD⟩ := hPD.perm permA'
      have hP : va_P D vwCl ([kX6 h0 pg bk fg og lg oS lS s1 s2 s3, kX5 bk br (nI (r9 + 1)), kQ cR br 9 (fun k => some ((rho2_10 k).1.1)), kI cI pc 16 pf, kX3 pg pc 0] ++ RB cI rho2_10) H := hP
      have hD : va_D A ([kX6 h0 pg bk fg og lg oS lS s1 s2 s3, kX5 bk br (nI (r9 + 1)), kQ cR br 9 (fun k => some ((rho2_10 k).1.1)), kI cI pc 16 pf, kX3 pg pc 0] ++ RB cI rho2_10) := hD
      refine lv_aload_n hx hb dX6_rule_48 rfl (lv_at hl 0 rfl) ?_
      refine lv_iconst (v := 0) hx hb dX6_rule_49 (by decide) ?_
      refine va_put (D := D) (ci := 6) (v := .int 0) (ty := .boolean) (C := RX6) (T := TX6) (N := 10) hx hb hts iT_X6 tyX6 tyX6_ok nmX6 hown hK1 hP hD hS 0 rfl rfl 5 (by decide) (hts _ t_159) (fun _ h9 => h9) rfl (by decide +kernel) rfl rfl (Nat.le_of_ble_eq_true rfl) dX6_rule_50 (fun H locs hP hD hS => ?_)
      have hP : va_P D vwCl ([kX6 h0 pg bk fg og lg 0 lS s1 s2 s3, kX5 bk br (nI (r9 + 1)), kQ cR br 9 (fun k => some ((rho2_10 k).1.1)), kI cI pc 16 pf, kX3 pg pc 0] ++ RB cI rho2_10) H := hP
      have hD : va_D A ([kX6 h0 pg bk fg og lg 0 lS s1 s2 s3, kX5 bk br (nI (r9 + 1)), kQ cR br 9 (fun k => some ((rho2_10 k).1.1)), kI cI pc 16 pf, kX3 pg pc 0] ++ RB cI rho2_10) := hD
      refine lv_aload_n hx hb dX6_rule_53 rfl (lv_at hl 0 rfl) ?_
      refine lv_iconst (v := 0) hx hb dX6_rule_54 (by decide) ?_
      refine va_put (D := D) (ci := 6) (v := .int 0) (ty := .boolean) (C := RX6) (T := TX6) (N := 10) hx hb hts iT_X6 tyX6 tyX6_ok nmX6 hown hK1 hP hD hS 0 rfl rfl 6 (by decide) (hts _ t_160) (fun _ h9 => h9) rfl (by decide +kernel) rfl rfl (Nat.le_of_ble_eq_true rfl) dX6_rule_55 (fun H locs hP hD hS => ?_)
      have hP : va_P D vwCl ([kX6 h0 pg bk fg og lg 0 0 s1 s2 s3, kX5 bk br (nI (r9 + 1)), kQ cR br 9 (fun k => some ((rho2_10 k).1.1)), kI cI pc 16 pf, kX3 pg pc 0] ++ RB cI rho2_10) H := hP
      have hD : va_D A ([kX6 h0 pg bk fg og lg 0 0 s1 s2 s3, kX5 bk br (nI (r9 + 1)), kQ cR br 9 (fun k => some ((rho2_10 k).1.1)), kI cI pc 16 pf, kX3 pg pc 0] ++ RB cI rho2_10) := hD
      refine lv_aload_n hx hb dX6_rule_58 rfl (lv_at hl 0 rfl) ?_
      refine va_get (D := D) (ci := 6) (v := .ref bk) (C := RX6) (T := TX6) (N := 10) hx hb hts iT_X6 hown hK1 hP 0 rfl rfl 1 (by decide) (hts _ t_155) (fun _ h9 => h9) rfl dX6_rule_59 ?_
      refine va_get (D := D) (ci := 5) (v := .int (nI (r9 + 1))) (C := RX5) (T := TX5) (N := 2) hx hb hts iT_X5 hown hK1 hP 1 rfl rfl 1 (by decide) (hts _ t_107) (fun _ h9 => h9) rfl dX6_rule_62 ?_
      refine lv_iconst (v := 1) hx hb dX6_rule_65 (by decide) ?_
      refine lv_isub hx hb dX6_rule_66 ?_
      refine lv_nmi (show _ = (nI r9 : Int32) from pk_sub (a := r9 + 1) (b := 1) (by omega)) ?_
      have hPD : PD D A ([kX6 h0 pg bk fg og lg 0 0 s1 s2 s3, kX3 pg pc 0, kI cI pc 16 pf, kX5 bk br (nI (r9 + 1)), kQ cR br 9 (fun k => some ((rho2_10 k).1.1))] ++ RB cI rho2_10) H := (PD.perm ⟨hP, hD⟩ (permB pm_37)).left
      exact hret _ _ _ _ _ _ (nI r9) (0, 0, 0, (r9 + 1), rho2_10) dX6_rule_67 rfl hS (Nat.le_of_ble_eq_true rfl) (Nat.le_of_ble_eq_true rfl) ⟨Or.inr (Or.inr ⟨hRO, ltN (b := 9) (by decide) (by omega) c_6, rfl, rfl, rfl, hN1, hN2⟩), Or.inl rfl⟩ hPD.1 hPD.2
    · skip
      refine lv_sipush (v := -1004) hx hb dX6_rule_26 (by decide) ?_
      have hPD : PD D A ([kX6 h0 pg bk fg og lg oS lS s1 s2 s3, kX3 pg pc (nI z), kI cI pc 16 pf, kX5 bk br (nI r9), kQ cR br 9 (fun k => some ((rho k).1.1))] ++ RB cI rho) H := (PD.perm ⟨hP, hD⟩ (permB pm_38)).left
      exact hret _ _ _ _ _ _ (-1004) (oS, lS, z, r9, rho) dX6_rule_29 rfl hS (Nat.le_of_ble_eq_true rfl) (Nat.le_of_ble_eq_true rfl) ⟨Or.inr (Or.inl ⟨hRO, fun q => c_6 (nI_lt (b := 9) q (by decide)), rfl, rfl, rfl, rfl⟩), Or.inr ⟨rfl, rfl, rfl⟩⟩ hPD.1 hPD.2
  · skip
    refine lv_sipush (v := -1003) hx hb dX6_rule_10 (by decide) ?_
    have hPD : PD D A ([kX6 h0 pg bk fg og lg oS lS s1 s2 s3, kX3 pg pc (nI z), kI cI pc 16 pf, kX5 bk br (nI r9), kQ cR br 9 (fun k => some ((rho k).1.1))] ++ RB cI rho) H := (PD.perm ⟨hP, hD⟩ (permB pm_38)).left
    exact hret _ _ _ _ _ _ (-1003) (oS, lS, z, r9, rho) dX6_rule_13 rfl hS (Nat.le_of_ble_eq_true rfl) (Nat.le_of_ble_eq_true rfl) ⟨Or.inl ⟨hYN.no c_5, rfl, rfl, rfl, rfl⟩, Or.inr ⟨rfl, rfl, rfl⟩⟩ hPD.1 hPD.2
set_option maxHeartbeats 4000000 in
set_option maxRecDepth 100000 in
theorem c_X6_drop (sz : Nat) (h0 : Nat) (pg : Nat) (bk : Nat) (fg : Nat) (og : Nat) (lg : Nat) (oS : Int32) (lS : Int32) (s1 : Int32) (s2 : Int32) (s3 : Int32) (br : Nat) (r9 : Nat) (rho : Nat → RT) (p0 : Int32) (hr : r9 ≤ 9) : CTi l D cI cJ cZ cR yX6_drop cX6_drop 2 (some .int) 2 44 0 0 sz [.ref h0, .int p0] ([kX6 h0 pg bk fg og lg oS lS s1 s2 s3, kX5 bk br (nI r9), kQ cR br 9 (fun k => some ((rho k).1.1))] ++ RB cI rho) (fun (r : Int32) (u : Int32 × Int32 × Nat × (Nat → RT)) => (DrP p0 r9 rho r u.2.2.1 u.2.2.2) ∧ (u.1 = 0 ∨ (u.1 = oS ∧ u.2.2.1 = r9 ∧ u.2.2.2 = rho))) (fun (u : Int32 × Int32 × Nat × (Nat → RT)) => ([kX6 h0 pg bk fg og lg u.1 u.2.1 s1 s2 s3, kX5 bk br (nI u.2.2.1), kQ cR br 9 (fun k => some ((u.2.2.2 k).1.1))] ++ RB cI u.2.2.2)) := by
  refine CTi.of (ty := .int) (by decide) (Nat.le_of_ble_eq_true rfl) rfl ?_
  intro p e s m below meth c A Q ls hd hin hK hsz hP hD hA hS hl hret
  obtain ⟨hx, hb, hml, hown, hts⟩ := id hd
  have hK1 := hK.1
  have hown : s.vm.findClass RX6 = some m.cls := hown
  have hl : lv_has ls 2 [(0, .ref h0), (1, .int p0)] := hl
  refine lv_aload_n hx hb dX6_drop_0 rfl (lv_at hl 0 rfl) ?_
  refine va_get (D := D) (ci := 6) (v := .ref bk) (C := RX6) (T := TX6) (N := 10) hx hb hts iT_X6 hown hK1 hP 0 rfl rfl 1 (by decide) (hts _ t_155) (fun _ h9 => h9) rfl dX6_drop_1 ?_
  refine lv_iload_n hx hb dX6_drop_4 rfl (lv_at hl 1 rfl) ?_
  have hPD : PD D A ([kX5 bk br (nI r9)] ++ ([kX6 h0 pg bk fg og lg oS lS s1 s2 s3, kQ cR br 9 (fun k => some ((rho k).1.1))] ++ RB cI rho)) s.heap := PD.perm ⟨hP, hD⟩ (permA pm_39)
  refine xp_i (wc := [kX5 bk br (nI r9)]) (wr := ([kX6 h0 pg bk fg og lg oS lS s1 s2 s3, kQ cR br 9 (fun k => some ((rho k).1.1))] ++ RB cI rho)) (xqV (n := 1) (As := [.int p0]) (rest := []) (ci := 5) (q0 := 0) hd hK hPD.left (c_X5_has l D cI cJ cZ cR _ bk br r9 p0 ) (gV t_303 mV_X5_has) hV_X5_has ⟨(Nat.le_of_ble_eq_true rfl), (Nat.le_of_ble_eq_true rfl)⟩ rfl rfl rfl hl.1 rfl (Nat.le_of_ble_eq_true rfl) dX6_drop_5 ⟨(Nat.le_of_ble_eq_true rfl), (Nat.le_of_ble_eq_true rfl)⟩) hPD hS hA (fun r_1 u_2 H locs hw_3 hPD hS => ?_)
  have hw_4 : r_1 = (hs p0 r9) := hw_3
  subst hw_4
  obtain ⟨hP, hD⟩ := hPD.perm permA'
  have hP : va_P D vwCl ([kX6 h0 pg bk fg og lg oS lS s1 s2 s3, kQ cR br 9 (fun k => some ((rho k).1.1)), kX5 bk br (nI r9)] ++ RB cI rho) H := hP
  have hD : va_D A ([kX6 h0 pg bk fg og lg oS lS s1 s2 s3, kQ cR br 9 (fun k => some ((rho k).1.1)), kX5 bk br (nI r9)] ++ RB cI rho) := hD
  refine lv_if_ne (tgt := 15) hx hb dX6_drop_8 (by decide) (fun c_5 => ?_) (fun c_5 => ?_)
  · skip
    obtain ⟨k9, hk9, ek9⟩ := hs_y (by omega) c_5
    refine lv_aload_n hx hb dX6_drop_15 rfl (lv_at hl 0 rfl) ?_
    refine va_get (D := D) (ci := 6) (v := .ref bk) (C := RX6) (T := TX6) (N := 10) hx hb hts iT_X6 hown hK1 hP 0 rfl rfl 1 (by decide) (hts _ t_155) (fun _ h9 => h9) rfl dX6_drop_16 ?_
    refine lv_iload_n hx hb dX6_drop_19 rfl (lv_at hl 1 rfl) ?_
    refine lv_nmi (show _ = (nI k9 : Int32) from ek9) ?_
    have hPD : PD D A (([kX5 bk br (nI r9), kQ cR br 9 (fun k => some ((rho k).1.1))] ++ RB cI rho) ++ [kX6 h0 pg bk fg og lg oS lS s1 s2 s3]) H := PD.perm ⟨hP, hD⟩ (permB pm_40)
    refine xp_v (wc := ([kX5 bk br (nI r9), kQ cR br 9 (fun k => some ((rho k).1.1))] ++ RB cI rho)) (wr := [kX6 h0 pg bk fg og lg oS lS s1 s2 s3]) (xqV (n := 1) (As := [.int (nI k9)]) (rest := []) (ci := 5) (q0 := 0) hd hK hPD.left (c_X5_remove l D cI cJ cZ cR _ bk br r9 k9 rho hk9 hr) (gV t_307 mV_X5_remove) hV_X5_remove ⟨(Nat.le_of_ble_eq_true rfl), (Nat.le_of_ble_eq_true rfl)⟩ rfl rfl rfl hl.1 rfl (Nat.le_of_ble_eq_true rfl) dX6_drop_20 ⟨(Nat.le_of_ble_eq_true rfl), (Nat.le_of_ble_eq_true rfl)⟩) hPD hS hA (fun u_7 H locs hw_8 hPD hS => ?_)
    obtain ⟨rho2_9, rfl⟩ : ∃ z9, z9 = u_7 := ⟨_, rfl⟩
    have hw_10 : rho2_9 = fun j => rho (sg k9 r9 j) := hw_8
    have hrh := hw_10
    obtain ⟨hP, hD⟩ := hPD.perm permB'
    have hP : va_P D vwCl ([kX6 h0 pg bk fg og lg oS lS s1 s2 s3, kX5 bk br (nI (r9 - 1)), kQ cR br 9 (fun k => some ((rho2_9 k).1.1))] ++ RB cI rho2_9) H := hP
    have hD : va_D A ([kX6 h0 pg bk fg og lg oS lS s1 s2 s3, kX5 bk br (nI (r9 - 1)), kQ cR br 9 (fun k => some ((rho2_9 k).1.1))] ++ RB cI rho2_9) := hD
    refine lv_aload_n hx hb dX6_drop_23 rfl (lv_at hl 0 rfl) ?_
    refine lv_iconst (v := 0) hx hb dX6_drop_24 (by decide) ?_
    refine va_put (D := D) (ci := 6) (v := .int 0) (ty := .boolean) (C := RX6) (T := TX6) (N := 10) hx hb hts iT_X6 tyX6 tyX6_ok nmX6 hown hK1 hP hD hS 0 rfl rfl 5 (by decide) (hts _ t_159) (fun _ h9 => h9) rfl (by decide +kernel) rfl rfl (Nat.le_of_ble_eq_true rfl) dX6_drop_25 (fun H locs hP hD hS => ?_)
    have hP : va_P D vwCl ([kX6 h0 pg bk fg og lg 0 lS s1 s2 s3, kX5 bk br (nI (r9 - 1)), kQ cR br 9 (fun k => some ((rho2_9 k).1.1))] ++ RB cI rho2_9) H := hP
    have hD : va_D A ([kX6 h0 pg bk fg og lg 0 lS s1 s2 s3, kX5 bk br (nI (r9 - 1)), kQ cR br 9 (fun k => some ((rho2_9 k).1.1))] ++ RB cI rho2_9) := hD
    refine lv_aload_n hx hb dX6_drop_28 rfl (lv_at hl 0 rfl) ?_
    refine lv_iconst (v := 0) hx hb dX6_drop_29 (by decide) ?_
    refine va_put (D := D) (ci := 6) (v := .int 0) (ty := .boolean) (C := RX6) (T := TX6) (N := 10) hx hb hts iT_X6 tyX6 tyX6_ok nmX6 hown hK1 hP hD hS 0 rfl rfl 6 (by decide) (hts _ t_160) (fun _ h9 => h9) rfl (by decide +kernel) rfl rfl (Nat.le_of_ble_eq_true rfl) dX6_drop_30 (fun H locs hP hD hS => ?_)
    have hP : va_P D vwCl ([kX6 h0 pg bk fg og lg 0 0 s1 s2 s3, kX5 bk br (nI (r9 - 1)), kQ cR br 9 (fun k => some ((rho2_9 k).1.1))] ++ RB cI rho2_9) H := hP
    have hD : va_D A ([kX6 h0 pg bk fg og lg 0 0 s1 s2 s3, kX5 bk br (nI (r9 - 1)), kQ cR br 9 (fun k => some ((rho2_9 k).1.1))] ++ RB cI rho2_9) := hD
    refine lv_aload_n hx hb dX6_drop_33 rfl (lv_at hl 0 rfl) ?_
    refine va_get (D := D) (ci := 6) (v := .ref bk) (C := RX6) (T := TX6) (N := 10) hx hb hts iT_X6 hown hK1 hP 0 rfl rfl 1 (by decide) (hts _ t_155) (fun _ h9 => h9) rfl dX6_drop_34 ?_
    refine va_get (D := D) (ci := 5) (v := .int (nI (r9 - 1))) (C := RX5) (T := TX5) (N := 2) hx hb hts iT_X5 hown hK1 hP 1 rfl rfl 1 (by decide) (hts _ t_107) (fun _ h9 => h9) rfl dX6_drop_37 ?_
    have hPD : PD D A ([kX6 h0 pg bk fg og lg 0 0 s1 s2 s3, kX5 bk br (nI (r9 - 1)), kQ cR br 9 (fun k => some ((rho2_9 k).1.1))] ++ RB cI rho2_9) H := (PD.perm ⟨hP, hD⟩ (permB pm_41)).left
    exact hret _ _ _ _ _ _ (nI (r9 - 1)) (0, 0, (r9 - 1), rho2_9) dX6_drop_40 rfl hS (Nat.le_of_ble_eq_true rfl) (Nat.le_of_ble_eq_true rfl) ⟨Or.inr ⟨k9, hk9, ek9, rfl, rfl, hrh⟩, Or.inl rfl⟩ hPD.1 hPD.2
  · skip
    refine lv_sipush (v := -1001) hx hb dX6_drop_11 (by decide) ?_
    have hPD : PD D A ([kX6 h0 pg bk fg og lg oS lS s1 s2 s3, kX5 bk br (nI r9), kQ cR br 9 (fun k => some ((rho k).1.1))] ++ RB cI rho) H := (PD.perm ⟨hP, hD⟩ (permB pm_42)).left
    exact hret _ _ _ _ _ _ (-1001) (oS, lS, r9, rho) dX6_drop_14 rfl hS (Nat.le_of_ble_eq_true rfl) (Nat.le_of_ble_eq_true rfl) ⟨Or.inl ⟨c_5, rfl, rfl, rfl⟩, Or.inr ⟨rfl, rfl, rfl⟩⟩ hPD.1 hPD.2
set_option maxHeartbeats 4000000 in
set_option maxRecDepth 100000 in
theorem c_X6_noteNewGraph (sz : Nat) (h0 : Nat) (pg : Nat) (bk : Nat) (fg : Nat) (og : Nat) (lg : Nat) (oS : Int32) (lS : Int32) (s1 : Int32) (s2 : Int32) (s3 : Int32)  : CTv l D cI cJ cZ cR yX6_noteNewGraph cX6_noteNewGraph 1 none 0 0 0 0 sz [.ref h0] [kX6 h0 pg bk fg og lg oS lS s1 s2 s3] (fun (u : Unit) => True) (fun (u : Unit) => [kX6 h0 pg bk fg og lg 0 lS 0 s2 (s3 + 1)]) := by
  refine CTv.of (by decide) (Nat.le_of_ble_eq_true rfl) rfl ?_
  intro p e s m below meth c A Q ls hd hin hK hsz hP hD hA hS hl hret
  obtain ⟨hx, hb, hml, hown, hts⟩ := id hd
  have hK1 := hK.1
  have hown : s.vm.findClass RX6 = some m.cls := hown
  have hl : lv_has ls 1 [(0, .ref h0)] := hl
  refine lv_aload_n hx hb dX6_noteNewGraph_0 rfl (lv_at hl 0 rfl) ?_
  refine lv_iconst (v := 0) hx hb dX6_noteNewGraph_1 (by decide) ?_
  refine va_put (D := D) (ci := 6) (v := .int 0) (ty := .boolean) (C := RX6) (T := TX6) (N := 10) hx hb hts iT_X6 tyX6 tyX6_ok nmX6 hown hK1 hP hD hS 0 rfl rfl 5 (by decide) (hts _ t_159) (fun _ h9 => h9) rfl (by decide +kernel) rfl rfl (Nat.le_of_ble_eq_true rfl) dX6_noteNewGraph_2 (fun H locs hP hD hS => ?_)
  have hP : va_P D vwCl [kX6 h0 pg bk fg og lg 0 lS s1 s2 s3] H := hP
  have hD : va_D A [kX6 h0 pg bk fg og lg 0 lS s1 s2 s3] := hD
  refine lv_aload_n hx hb dX6_noteNewGraph_5 rfl (lv_at hl 0 rfl) ?_
  refine lv_iconst (v := 0) hx hb dX6_noteNewGraph_6 (by decide) ?_
  refine va_put (D := D) (ci := 6) (v := .int 0) (ty := .int) (C := RX6) (T := TX6) (N := 10) hx hb hts iT_X6 tyX6 tyX6_ok nmX6 hown hK1 hP hD hS 0 rfl rfl 7 (by decide) (hts _ t_161) (fun _ h9 => h9) rfl (by decide +kernel) rfl rfl (Nat.le_of_ble_eq_true rfl) dX6_noteNewGraph_7 (fun H locs hP hD hS => ?_)
  have hP : va_P D vwCl [kX6 h0 pg bk fg og lg 0 lS 0 s2 s3] H := hP
  have hD : va_D A [kX6 h0 pg bk fg og lg 0 lS 0 s2 s3] := hD
  refine lv_aload_n hx hb dX6_noteNewGraph_10 rfl (lv_at hl 0 rfl) ?_
  refine lv_dup hx hb dX6_noteNewGraph_11 rfl ?_
  refine va_get (D := D) (ci := 6) (v := .int s3) (C := RX6) (T := TX6) (N := 10) hx hb hts iT_X6 hown hK1 hP 0 rfl rfl 9 (by decide) (hts _ t_163) (fun _ h9 => h9) rfl dX6_noteNewGraph_12 ?_
  refine lv_iconst (v := 1) hx hb dX6_noteNewGraph_15 (by decide) ?_
  refine lv_iadd hx hb dX6_noteNewGraph_16 ?_
  refine va_put (D := D) (ci := 6) (v := .int (s3 + 1)) (ty := .int) (C := RX6) (T := TX6) (N := 10) hx hb hts iT_X6 tyX6 tyX6_ok nmX6 hown hK1 hP hD hS 0 rfl rfl 9 (by decide) (hts _ t_163) (fun _ h9 => h9) rfl (by decide +kernel) rfl rfl (Nat.le_of_ble_eq_true rfl) dX6_noteNewGraph_17 (fun H locs hP hD hS => ?_)
  have hP : va_P D vwCl [kX6 h0 pg bk fg og lg 0 lS 0 s2 (s3 + 1)] H := hP
  have hD : va_D A [kX6 h0 pg bk fg og lg 0 lS 0 s2 (s3 + 1)] := hD
  exact hret _ _ _ _ _ _ () dX6_noteNewGraph_20 hS (Nat.le_of_ble_eq_true rfl) (Nat.le_of_ble_eq_true rfl) trivial (hP.sub [0] rfl) (hD.sub [0] rfl rfl)
set_option maxHeartbeats 4000000 in
set_option maxRecDepth 100000 in
theorem c_X6_graph (sz : Nat) (h0 : Nat) (pg : Nat) (bk : Nat) (fg : Nat) (og : Nat) (lg : Nat) (oS : Int32) (lS : Int32) (s1 : Int32) (s2 : Int32) (s3 : Int32) (pc : Nat) (z : Nat) (pf : Nat → Int32) (f1 : Nat) (f2 : Nat) (f3 : Nat) (n9 : Nat) (v : Nat) (g1 : Nat → Int32) (g2 : Nat → Int32) (g3 : Nat → Int32) (hz : z ≤ 16) : CTi l D cI cJ cZ cR yX6_graph cX6_graph 1 (some .int) 4 92 0 0 sz [.ref h0] [kX6 h0 pg bk fg og lg oS lS s1 s2 s3, kX3 pg pc (nI z), kI cI pc 16 pf, kX0 fg f1 f2 f3 (nI n9) (nI v), kI cI f1 12 g1, kI cI f2 12 g2, kI cI f3 12 g3] (fun (r : Int32) (u : Int32 × Int32 × Int32 × Nat × Nat × Nat × (Nat → Int32) × (Nat → Int32) × (Nat → Int32)) => (GrP pf z n9 v g1 g2 g3 r u.2.2.2.1 u.2.2.2.2.1 u.2.2.2.2.2.1 u.2.2.2.2.2.2.1 u.2.2.2.2.2.2.2.1 u.2.2.2.2.2.2.2.2) ∧ (GrS pf z s1 s3 u.2.1 u.2.2.1) ∧ (u.1 = 0 ∨ (u.1 = oS ∧ u.2.2.2.2.1 = n9 ∧ u.2.2.2.2.2.1 = v ∧ u.2.2.2.2.2.2.1 = g1 ∧ u.2.2.2.2.2.2.2.1 = g2 ∧ u.2.2.2.2.2.2.2.2 = g3))) (fun (u : Int32 × Int32 × Int32 × Nat × Nat × Nat × (Nat → Int32) × (Nat → Int32) × (Nat → Int32)) => [kX6 h0 pg bk fg og lg u.1 lS u.2.1 s2 u.2.2.1, kX3 pg pc (nI u.2.2.2.1), kI cI pc 16 pf, kX0 fg f1 f2 f3 (nI u.2.2.2.2.1) (nI u.2.2.2.2.2.1), kI cI f1 12 u.2.2.2.2.2.2.1, kI cI f2 12 u.2.2.2.2.2.2.2.1, kI cI f3 12 u.2.2.2.2.2.2.2.2]) := by
  refine CTi.of (ty := .int) (by decide) (Nat.le_of_ble_eq_true rfl) rfl ?_
  intro p e s m below meth c A Q ls hd hin hK hsz hP hD hA hS hl hret
  obtain ⟨hx, hb, hml, hown, hts⟩ := id hd
  have hK1 := hK.1
  have hown : s.vm.findClass RX6 = some m.cls := hown
  have hl : lv_has ls 1 [(0, .ref h0)] := hl
  refine lv_aload_n hx hb dX6_graph_0 rfl (lv_at hl 0 rfl) ?_
  refine va_get (D := D) (ci := 6) (v := .ref pg) (C := RX6) (T := TX6) (N := 10) hx hb hts iT_X6 hown hK1 hP 0 rfl rfl 0 (by decide) (hts _ t_154) (fun _ h9 => h9) rfl dX6_graph_1 ?_
  refine xc_i (wc := [kX3 pg pc (nI z), kI cI pc 16 pf]) (wr := [kX6 h0 pg bk fg og lg oS lS s1 s2 s3, kX0 fg f1 f2 f3 (nI n9) (nI v), kI cI f1 12 g1, kI cI f2 12 g2, kI cI f3 12 g3]) (xrV (n := 0) (As := []) (rest := []) (ci := 3) (q0 := 1) hd hK hP hD (c_X3_isGraph l D cI cJ cZ cR _ pg pc z pf hz) (gV t_316 mV_X3_isGraph) hV_X3_isGraph ⟨(Nat.le_of_ble_eq_true rfl), (Nat.le_of_ble_eq_true rfl)⟩ rfl rfl [1, 2] rfl rfl rfl hl.1 rfl (Nat.le_of_ble_eq_true rfl) dX6_graph_4 ⟨(Nat.le_of_ble_eq_true rfl), (Nat.le_of_ble_eq_true rfl)⟩) hP hD hS hA [1, 2] [0, 3, 4, 5, 6] rfl rfl rfl (by decide) (fun r_1 u_2 H locs hw_3 hP hD hS => ?_)
  have hw_4 : YN r_1 (GraphOK pf z) := hw_3
  have hYN := hw_4
  have hP : va_P D vwCl [kX6 h0 pg bk fg og lg oS lS s1 s2 s3, kX0 fg f1 f2 f3 (nI n9) (nI v), kI cI f1 12 g1, kI cI f2 12 g2, kI cI f3 12 g3, kX3 pg pc (nI z), kI cI pc 16 pf] H := hP
  have hD : va_D A [kX6 h0 pg bk fg og lg oS lS s1 s2 s3, kX0 fg f1 f2 f3 (nI n9) (nI v), kI cI f1 12 g1, kI cI f2 12 g2, kI cI f3 12 g3, kX3 pg pc (nI z), kI cI pc 16 pf] := hD
  refine lv_if_ne (tgt := 14) hx hb dX6_graph_7 (by decide) (fun c_5 => ?_) (fun c_5 => ?_)
  · skip
    have hGO := hYN.of c_5
    have hGZ := go_z hGO
    refine lv_aload_n hx hb dX6_graph_14 rfl (lv_at hl 0 rfl) ?_
    refine va_get (D := D) (ci := 6) (v := .ref pg) (C := RX6) (T := TX6) (N := 10) hx hb hts iT_X6 hown hK1 hP 0 rfl rfl 0 (by decide) (hts _ t_154) (fun _ h9 => h9) rfl dX6_graph_15 ?_
    refine lv_aload_n hx hb dX6_graph_18 rfl (lv_at hl 0 rfl) ?_
    refine va_get (D := D) (ci := 6) (v := .ref fg) (C := RX6) (T := TX6) (N := 10) hx hb hts iT_X6 hown hK1 hP 0 rfl rfl 2 (by decide) (hts _ t_156) (fun _ h9 => h9) rfl dX6_graph_19 ?_
    refine xc_v (wc := [kX3 pg pc (nI z), kI cI pc 16 pf, kX0 fg f1 f2 f3 (nI n9) (nI v), kI cI f1 12 g1, kI cI f2 12 g2, kI cI f3 12 g3]) (wr := [kX6 h0 pg bk fg og lg oS lS s1 s2 s3]) (xrV (n := 1) (As := [.ref fg]) (rest := []) (ci := 3) (q0 := 5) hd hK hP hD (c_X3_copyGraph l D cI cJ cZ cR _ pg pc z pf fg f1 f2 f3 (z / 3) (nI n9) (nI v) g1 g2 g3 hz (by omega) (by omega)) (gV t_320 mV_X3_copyGraph) hV_X3_copyGraph ⟨(Nat.le_of_ble_eq_true rfl), (Nat.le_of_ble_eq_true rfl)⟩ rfl rfl [5, 6, 1, 2, 3, 4] rfl rfl rfl hl.1 rfl (Nat.le_of_ble_eq_true rfl) dX6_graph_22 ⟨(Nat.le_of_ble_eq_true rfl), (Nat.le_of_ble_eq_true rfl)⟩) hP hD hS hA [5, 6, 1, 2, 3, 4] [0] rfl rfl rfl (by decide) (fun u_7 H locs hw_8 hP hD hS => ?_)
    obtain ⟨y1_9, y2_10, y3_11⟩ := u_7
    have hw_12 : edT pf 0 (z / 3) y1_9 y2_10 y3_11 := hw_8
    have hed := hw_12
    have hP : va_P D vwCl [kX6 h0 pg bk fg og lg oS lS s1 s2 s3, kX3 pg pc (nI z), kI cI pc 16 pf, kX0 fg f1 f2 f3 (nI (z / 3)) (nI (ndN pf z)), kI cI f1 12 y1_9, kI cI f2 12 y2_10, kI cI f3 12 y3_11] H := hP
    have hD : va_D A [kX6 h0 pg bk fg og lg oS lS s1 s2 s3, kX3 pg pc (nI z), kI cI pc 16 pf, kX0 fg f1 f2 f3 (nI (z / 3)) (nI (ndN pf z)), kI cI f1 12 y1_9, kI cI f2 12 y2_10, kI cI f3 12 y3_11] := hD
    refine lv_aload_n hx hb dX6_graph_25 rfl (lv_at hl 0 rfl) ?_
    refine va_get (D := D) (ci := 6) (v := .ref pg) (C := RX6) (T := TX6) (N := 10) hx hb hts iT_X6 hown hK1 hP 0 rfl rfl 0 (by decide) (hts _ t_154) (fun _ h9 => h9) rfl dX6_graph_26 ?_
    refine xc_v (wc := [kX3 pg pc (nI z)]) (wr := [kX6 h0 pg bk fg og lg oS lS s1 s2 s3, kI cI pc 16 pf, kX0 fg f1 f2 f3 (nI (z / 3)) (nI (ndN pf z)), kI cI f1 12 y1_9, kI cI f2 12 y2_10, kI cI f3 12 y3_11]) (xrV (n := 0) (As := []) (rest := []) (ci := 3) (q0 := 1) hd hK hP hD (c_X3_clear l D cI cJ cZ cR _ pg pc z ) (gV t_197 mV_X3_clear) hV_X3_clear ⟨(Nat.le_of_ble_eq_true rfl), (Nat.le_of_ble_eq_true rfl)⟩ rfl rfl [1] rfl rfl rfl hl.1 rfl (Nat.le_of_ble_eq_true rfl) dX6_graph_29 ⟨(Nat.le_of_ble_eq_true rfl), (Nat.le_of_ble_eq_true rfl)⟩) hP hD hS hA [1] [0, 2, 3, 4, 5, 6] rfl rfl rfl (by decide) (fun u_14 H locs hw_15 hP hD hS => ?_)
    have hP : va_P D vwCl [kX6 h0 pg bk fg og lg oS lS s1 s2 s3, kI cI pc 16 pf, kX0 fg f1 f2 f3 (nI (z / 3)) (nI (ndN pf z)), kI cI f1 12 y1_9, kI cI f2 12 y2_10, kI cI f3 12 y3_11, kX3 pg pc 0] H := hP
    have hD : va_D A [kX6 h0 pg bk fg og lg oS lS s1 s2 s3, kI cI pc 16 pf, kX0 fg f1 f2 f3 (nI (z / 3)) (nI (ndN pf z)), kI cI f1 12 y1_9, kI cI f2 12 y2_10, kI cI f3 12 y3_11, kX3 pg pc 0] := hD
    refine lv_aload_n hx hb dX6_graph_32 rfl (lv_at hl 0 rfl) ?_
    refine xc_v (wc := [kX6 h0 pg bk fg og lg oS lS s1 s2 s3]) (wr := [kI cI pc 16 pf, kX0 fg f1 f2 f3 (nI (z / 3)) (nI (ndN pf z)), kI cI f1 12 y1_9, kI cI f2 12 y2_10, kI cI f3 12 y3_11, kX3 pg pc 0]) (xrV (n := 0) (As := []) (rest := []) (ci := 6) (q0 := 0) hd hK hP hD (c_X6_noteNewGraph l D cI cJ cZ cR _ h0 pg bk fg og lg oS lS s1 s2 s3 ) (gV t_324 mV_X6_noteNewGraph) hV_X6_noteNewGraph ⟨(Nat.le_of_ble_eq_true rfl), (Nat.le_of_ble_eq_true rfl)⟩ rfl rfl [0] rfl rfl rfl hl.1 rfl (Nat.le_of_ble_eq_true rfl) dX6_graph_33 ⟨(Nat.le_of_ble_eq_true rfl), (Nat.le_of_ble_eq_true rfl)⟩) hP hD hS hA [0] [1, 2, 3, 4, 5, 6] rfl rfl rfl (by decide) (fun u_17 H locs hw_18 hP hD hS => ?_)
    have hP : va_P D vwCl [kI cI pc 16 pf, kX0 fg f1 f2 f3 (nI (z / 3)) (nI (ndN pf z)), kI cI f1 12 y1_9, kI cI f2 12 y2_10, kI cI f3 12 y3_11, kX3 pg pc 0, kX6 h0 pg bk fg og lg 0 lS 0 s2 (s3 + 1)] H := hP
    have hD : va_D A [kI cI pc 16 pf, kX0 fg f1 f2 f3 (nI (z / 3)) (nI (ndN pf z)), kI cI f1 12 y1_9, kI cI f2 12 y2_10, kI cI f3 12 y3_11, kX3 pg pc 0, kX6 h0 pg bk fg og lg 0 lS 0 s2 (s3 + 1)] := hD
    refine lv_aload_n hx hb dX6_graph_36 rfl (lv_at hl 0 rfl) ?_
    refine va_get (D := D) (ci := 6) (v := .ref fg) (C := RX6) (T := TX6) (N := 10) hx hb hts iT_X6 hown hK1 hP 6 rfl rfl 2 (by decide) (hts _ t_156) (fun _ h9 => h9) rfl dX6_graph_37 ?_
    refine va_get (D := D) (ci := 0) (v := .int (nI (z / 3))) (C := RX0) (T := TX0) (N := 5) hx hb hts iT_X0 hown hK1 hP 1 rfl rfl 3 (by decide) (hts _ t_64) (fun _ h9 => h9) rfl dX6_graph_40 ?_
    exact hret _ _ _ _ _ _ (nI (z / 3)) (0, 0, s3 + 1, 0, (z / 3), (ndN pf z), y1_9, y2_10, y3_11) dX6_graph_43 rfl hS (Nat.le_of_ble_eq_true rfl) (Nat.le_of_ble_eq_true rfl) ⟨Or.inr ⟨hGO, rfl, rfl, rfl, rfl, hed⟩, Or.inr ⟨hGO, rfl, rfl⟩, Or.inl rfl⟩ (hP.sub [6, 5, 0, 1, 2, 3, 4] rfl) (hD.sub [6, 5, 0, 1, 2, 3, 4] rfl rfl)
  · skip
    refine lv_sipush (v := -1003) hx hb dX6_graph_10 (by decide) ?_
    exact hret _ _ _ _ _ _ (-1003) (oS, s1, s3, z, n9, v, g1, g2, g3) dX6_graph_13 rfl hS (Nat.le_of_ble_eq_true rfl) (Nat.le_of_ble_eq_true rfl) ⟨Or.inl ⟨hYN.no c_5, rfl, rfl, rfl, rfl, rfl, rfl, rfl⟩, Or.inl ⟨hYN.no c_5, rfl, rfl⟩, Or.inr ⟨rfl, rfl, rfl, rfl, rfl, rfl⟩⟩ (hP.sub [0, 5, 6, 1, 2, 3, 4] rfl) (hD.sub [0, 5, 6, 1, 2, 3, 4] rfl rfl)
set_option maxHeartbeats 4000000 in
set_option maxRecDepth 100000 in
theorem c_X6_begin (sz : Nat) (h0 : Nat) (pg : Nat) (bk : Nat) (fg : Nat) (og : Nat) (lg : Nat) (oS : Int32) (lS : Int32) (s1 : Int32) (s2 : Int32) (s3 : Int32) (f1 : Nat) (f2 : Nat) (f3 : Nat) (n9 : Nat) (v : Nat) (g1 : Nat → Int32) (g2 : Nat → Int32) (g3 : Nat → Int32) (p0 : Int32)  : CTi l D cI cJ cZ cR yX6_begin cX6_begin 2 (some .int) 2 47 0 0 sz [.ref h0, .int p0] [kX6 h0 pg bk fg og lg oS lS s1 s2 s3, kX0 fg f1 f2 f3 (nI n9) (nI v), kI cI f1 12 g1, kI cI f2 12 g2, kI cI f3 12 g3] (fun (r : Int32) (u : Int32 × Int32 × Int32 × Nat × Nat × (Nat → Int32) × (Nat → Int32) × (Nat → Int32)) => (r = (if opn p0 = 0 then -1001 else 1)) ∧ ((opn p0 = 0 ∧ u.2.2.2.1 = n9 ∧ u.2.2.2.2.1 = v ∧ u.2.2.2.2.2.1 = g1 ∧ u.2.2.2.2.2.2.1 = g2 ∧ u.2.2.2.2.2.2.2 = g3 ∧ u.2.1 = s1 ∧ u.2.2.1 = s3) ∨ (¬ opn p0 = 0 ∧ u.2.2.2.1 = 1 ∧ u.2.2.2.2.1 = 2 ∧ u.2.2.2.2.2.1 = upd g1 0 p0 ∧ u.2.2.2.2.2.2.1 = upd g2 0 0 ∧ u.2.2.2.2.2.2.2 = upd g3 0 1 ∧ u.2.1 = 0 ∧ u.2.2.1 = s3 + 1)) ∧ (u.1 = 0 ∨ (u.1 = oS ∧ u.2.2.2.1 = n9 ∧ u.2.2.2.2.1 = v ∧ u.2.2.2.2.2.1 = g1 ∧ u.2.2.2.2.2.2.1 = g2 ∧ u.2.2.2.2.2.2.2 = g3))) (fun (u : Int32 × Int32 × Int32 × Nat × Nat × (Nat → Int32) × (Nat → Int32) × (Nat → Int32)) => [kX6 h0 pg bk fg og lg u.1 lS u.2.1 s2 u.2.2.1, kX0 fg f1 f2 f3 (nI u.2.2.2.1) (nI u.2.2.2.2.1), kI cI f1 12 u.2.2.2.2.2.1, kI cI f2 12 u.2.2.2.2.2.2.1, kI cI f3 12 u.2.2.2.2.2.2.2]) := by
  refine CTi.of (ty := .int) (by decide) (Nat.le_of_ble_eq_true rfl) rfl ?_
  intro p e s m below meth c A Q ls hd hin hK hsz hP hD hA hS hl hret
  obtain ⟨hx, hb, hml, hown, hts⟩ := id hd
  have hK1 := hK.1
  have hown : s.vm.findClass RX6 = some m.cls := hown
  have hl : lv_has ls 2 [(0, .ref h0), (1, .int p0)] := hl
  refine lv_iload_n hx hb dX6_begin_0 rfl (lv_at hl 1 rfl) ?_
  refine xc_i (wc := []) (wr := [kX6 h0 pg bk fg og lg oS lS s1 s2 s3, kX0 fg f1 f2 f3 (nI n9) (nI v), kI cI f1 12 g1, kI cI f2 12 g2, kI cI f3 12 g3]) (xrS (n := 1) (As := [.int p0]) (rest := []) hd hK hP hD (c_X6_isOpen l D cI cJ cZ cR _ p0 ) (gS t_341 mS_X6_isOpen) hS_X6_isOpen ⟨(Nat.le_of_ble_eq_true rfl), (Nat.le_of_ble_eq_true rfl)⟩ [] rfl rfl rfl hl.1 rfl (Nat.le_of_ble_eq_true rfl) dX6_begin_1 ⟨(Nat.le_of_ble_eq_true rfl), (Nat.le_of_ble_eq_true rfl)⟩) hP hD hS hA [] [0, 1, 2, 3, 4] rfl rfl rfl (by decide) (fun r_1 u_2 H locs hw_3 hP hD hS => ?_)
  have hw_4 : r_1 = (opn p0) := hw_3
  subst hw_4
  have hP : va_P D vwCl [kX6 h0 pg bk fg og lg oS lS s1 s2 s3, kX0 fg f1 f2 f3 (nI n9) (nI v), kI cI f1 12 g1, kI cI f2 12 g2, kI cI f3 12 g3] H := hP
  have hD : va_D A [kX6 h0 pg bk fg og lg oS lS s1 s2 s3, kX0 fg f1 f2 f3 (nI n9) (nI v), kI cI f1 12 g1, kI cI f2 12 g2, kI cI f3 12 g3] := hD
  refine lv_if_ne (tgt := 11) hx hb dX6_begin_4 (by decide) (fun c_5 => ?_) (fun c_5 => ?_)
  · skip
    refine lv_aload_n hx hb dX6_begin_11 rfl (lv_at hl 0 rfl) ?_
    refine va_get (D := D) (ci := 6) (v := .ref fg) (C := RX6) (T := TX6) (N := 10) hx hb hts iT_X6 hown hK1 hP 0 rfl rfl 2 (by decide) (hts _ t_156) (fun _ h9 => h9) rfl dX6_begin_12 ?_
    refine lv_iconst (v := 2) hx hb dX6_begin_15 (by decide) ?_
    refine xc_v (wc := [kX0 fg f1 f2 f3 (nI n9) (nI v)]) (wr := [kX6 h0 pg bk fg og lg oS lS s1 s2 s3, kI cI f1 12 g1, kI cI f2 12 g2, kI cI f3 12 g3]) (xrV (n := 1) (As := [.int 2]) (rest := []) (ci := 0) (q0 := 1) hd hK hP hD (c_X0_clear l D cI cJ cZ cR _ fg f1 f2 f3 n9 v 2 ) (gV t_342 mV_X0_clear) hV_X0_clear ⟨(Nat.le_of_ble_eq_true rfl), (Nat.le_of_ble_eq_true rfl)⟩ rfl rfl [1] rfl rfl rfl hl.1 rfl (Nat.le_of_ble_eq_true rfl) dX6_begin_16 ⟨(Nat.le_of_ble_eq_true rfl), (Nat.le_of_ble_eq_true rfl)⟩) hP hD hS hA [1] [0, 2, 3, 4] rfl rfl rfl (by decide) (fun u_7 H locs hw_8 hP hD hS => ?_)
    have hP : va_P D vwCl [kX6 h0 pg bk fg og lg oS lS s1 s2 s3, kI cI f1 12 g1, kI cI f2 12 g2, kI cI f3 12 g3, kX0 fg f1 f2 f3 0 (nI 2)] H := hP
    have hD : va_D A [kX6 h0 pg bk fg og lg oS lS s1 s2 s3, kI cI f1 12 g1, kI cI f2 12 g2, kI cI f3 12 g3, kX0 fg f1 f2 f3 0 (nI 2)] := hD
    refine lv_aload_n hx hb dX6_begin_19 rfl (lv_at hl 0 rfl) ?_
    refine va_get (D := D) (ci := 6) (v := .ref fg) (C := RX6) (T := TX6) (N := 10) hx hb hts iT_X6 hown hK1 hP 0 rfl rfl 2 (by decide) (hts _ t_156) (fun _ h9 => h9) rfl dX6_begin_20 ?_
    refine lv_iload_n hx hb dX6_begin_23 rfl (lv_at hl 1 rfl) ?_
    refine lv_iconst (v := 0) hx hb dX6_begin_24 (by decide) ?_
    refine lv_iconst (v := 1) hx hb dX6_begin_25 (by decide) ?_
    refine xc_v (wc := [kX0 fg f1 f2 f3 0 (nI 2), kI cI f1 12 g1, kI cI f2 12 g2, kI cI f3 12 g3]) (wr := [kX6 h0 pg bk fg og lg oS lS s1 s2 s3]) (xrV (n := 3) (As := [.int p0, .int 0, .int 1]) (rest := []) (ci := 0) (q0 := 4) hd hK hP hD (c_X0_append l D cI cJ cZ cR _ fg f1 f2 f3 12 0 2 p0 0 1 g1 g2 g3 (by decide) (by decide)) (gV t_343 mV_X0_append) hV_X0_append ⟨(Nat.le_of_ble_eq_true rfl), (Nat.le_of_ble_eq_true rfl)⟩ rfl rfl [4, 1, 2, 3] rfl rfl rfl hl.1 rfl (Nat.le_of_ble_eq_true rfl) dX6_begin_26 ⟨(Nat.le_of_ble_eq_true rfl), (Nat.le_of_ble_eq_true rfl)⟩) hP hD hS hA [4, 1, 2, 3] [0] rfl rfl rfl (by decide) (fun u_10 H locs hw_11 hP hD hS => ?_)
    have hP : va_P D vwCl [kX6 h0 pg bk fg og lg oS lS s1 s2 s3, kX0 fg f1 f2 f3 (nI (0 + 1)) (nI 2), kI cI f1 12 (upd g1 0 p0), kI cI f2 12 (upd g2 0 0), kI cI f3 12 (upd g3 0 1)] H := hP
    have hD : va_D A [kX6 h0 pg bk fg og lg oS lS s1 s2 s3, kX0 fg f1 f2 f3 (nI (0 + 1)) (nI 2), kI cI f1 12 (upd g1 0 p0), kI cI f2 12 (upd g2 0 0), kI cI f3 12 (upd g3 0 1)] := hD
    refine lv_aload_n hx hb dX6_begin_29 rfl (lv_at hl 0 rfl) ?_
    refine xc_v (wc := [kX6 h0 pg bk fg og lg oS lS s1 s2 s3]) (wr := [kX0 fg f1 f2 f3 (nI (0 + 1)) (nI 2), kI cI f1 12 (upd g1 0 p0), kI cI f2 12 (upd g2 0 0), kI cI f3 12 (upd g3 0 1)]) (xrV (n := 0) (As := []) (rest := []) (ci := 6) (q0 := 0) hd hK hP hD (c_X6_noteNewGraph l D cI cJ cZ cR _ h0 pg bk fg og lg oS lS s1 s2 s3 ) (gV t_324 mV_X6_noteNewGraph) hV_X6_noteNewGraph ⟨(Nat.le_of_ble_eq_true rfl), (Nat.le_of_ble_eq_true rfl)⟩ rfl rfl [0] rfl rfl rfl hl.1 rfl (Nat.le_of_ble_eq_true rfl) dX6_begin_30 ⟨(Nat.le_of_ble_eq_true rfl), (Nat.le_of_ble_eq_true rfl)⟩) hP hD hS hA [0] [1, 2, 3, 4] rfl rfl rfl (by decide) (fun u_13 H locs hw_14 hP hD hS => ?_)
    have hP : va_P D vwCl [kX0 fg f1 f2 f3 (nI (0 + 1)) (nI 2), kI cI f1 12 (upd g1 0 p0), kI cI f2 12 (upd g2 0 0), kI cI f3 12 (upd g3 0 1), kX6 h0 pg bk fg og lg 0 lS 0 s2 (s3 + 1)] H := hP
    have hD : va_D A [kX0 fg f1 f2 f3 (nI (0 + 1)) (nI 2), kI cI f1 12 (upd g1 0 p0), kI cI f2 12 (upd g2 0 0), kI cI f3 12 (upd g3 0 1), kX6 h0 pg bk fg og lg 0 lS 0 s2 (s3 + 1)] := hD
    refine lv_aload_n hx hb dX6_begin_33 rfl (lv_at hl 0 rfl) ?_
    refine va_get (D := D) (ci := 6) (v := .ref fg) (C := RX6) (T := TX6) (N := 10) hx hb hts iT_X6 hown hK1 hP 4 rfl rfl 2 (by decide) (hts _ t_156) (fun _ h9 => h9) rfl dX6_begin_34 ?_
    refine va_get (D := D) (ci := 0) (v := .int (nI (0 + 1))) (C := RX0) (T := TX0) (N := 5) hx hb hts iT_X0 hown hK1 hP 0 rfl rfl 3 (by decide) (hts _ t_64) (fun _ h9 => h9) rfl dX6_begin_37 ?_
    exact hret _ _ _ _ _ _ (nI (0 + 1)) (0, 0, s3 + 1, (0 + 1), 2, upd g1 0 p0, upd g2 0 0, upd g3 0 1) dX6_begin_40 rfl hS (Nat.le_of_ble_eq_true rfl) (Nat.le_of_ble_eq_true rfl) ⟨by simp [c_5]; rfl, Or.inr ⟨c_5, rfl, rfl, rfl, rfl, rfl, rfl, rfl⟩, Or.inl rfl⟩ (hP.sub [4, 0, 1, 2, 3] rfl) (hD.sub [4, 0, 1, 2, 3] rfl rfl)
  · skip
    refine lv_sipush (v := -1001) hx hb dX6_begin_7 (by decide) ?_
    exact hret _ _ _ _ _ _ (-1001) (oS, s1, s3, n9, v, g1, g2, g3) dX6_begin_10 rfl hS (Nat.le_of_ble_eq_true rfl) (Nat.le_of_ble_eq_true rfl) ⟨by simp [c_5], Or.inl ⟨c_5, rfl, rfl, rfl, rfl, rfl, rfl, rfl⟩, Or.inr ⟨rfl, rfl, rfl, rfl, rfl, rfl⟩⟩ (hP.sub [0, 1, 2, 3, 4] rfl) (hD.sub [0, 1, 2, 3, 4] rfl rfl)
set_option maxHeartbeats 4000000 in
set_option maxRecDepth 100000 in
theorem c_X6_of (sz : Nat) (h0 : Nat) (pg : Nat) (bk : Nat) (fg : Nat) (og : Nat) (lg : Nat) (oS : Int32) (lS : Int32) (s1 : Int32) (s2 : Int32) (s3 : Int32) (br : Nat) (r9 : Nat) (rho : Nat → RT) (p0 : Int32) (p1 : Int32) (hr : r9 ≤ 9) (hB : BI rho r9) : CTi l D cI cJ cZ cR yX6_of cX6_of 4 (some .int) 1 21 0 0 sz [.ref h0, .int p0, .int p1] ([kX6 h0 pg bk fg og lg oS lS s1 s2 s3, kX5 bk br (nI r9), kQ cR br 9 (fun k => some ((rho k).1.1))] ++ RB cI rho) (fun (r : Int32) (u : Unit) => (COf p0 p1 r9 rho r)) (fun (u : Unit) => ([kX6 h0 pg bk fg og lg oS lS s1 s2 s3, kX5 bk br (nI r9), kQ cR br 9 (fun k => some ((rho k).1.1))] ++ RB cI rho)) := by
  refine CTi.of (ty := .int) (by decide) (Nat.le_of_ble_eq_true rfl) rfl ?_
  intro p e s m below meth c A Q ls hd hin hK hsz hP hD hA hS hl hret
  obtain ⟨hx, hb, hml, hown, hts⟩ := id hd
  have hK1 := hK.1
  have hown : s.vm.findClass RX6 = some m.cls := hown
  have hl : lv_has ls 4 [(0, .ref h0), (1, .int p0), (2, .int p1)] := hl
  refine lv_aload_n hx hb dX6_of_0 rfl (lv_at hl 0 rfl) ?_
  refine va_get (D := D) (ci := 6) (v := .ref bk) (C := RX6) (T := TX6) (N := 10) hx hb hts iT_X6 hown hK1 hP 0 rfl rfl 1 (by decide) (hts _ t_155) (fun _ h9 => h9) rfl dX6_of_1 ?_
  refine lv_iload_n hx hb dX6_of_4 rfl (lv_at hl 1 rfl) ?_
  have hPD : PD D A ([kX5 bk br (nI r9)] ++ ([kX6 h0 pg bk fg og lg oS lS s1 s2 s3, kQ cR br 9 (fun k => some ((rho k).1.1))] ++ RB cI rho)) s.heap := PD.perm ⟨hP, hD⟩ (permA pm_39)
  refine xp_i (wc := [kX5 bk br (nI r9)]) (wr := ([kX6 h0 pg bk fg og lg oS lS s1 s2 s3, kQ cR br 9 (fun k => some ((rho k).1.1))] ++ RB cI rho)) (xqV (n := 1) (As := [.int p0]) (rest := []) (ci := 5) (q0 := 0) hd hK hPD.left (c_X5_has l D cI cJ cZ cR _ bk br r9 p0 ) (gV t_303 mV_X5_has) hV_X5_has ⟨(Nat.le_of_ble_eq_true rfl), (Nat.le_of_ble_eq_true rfl)⟩ rfl rfl rfl hl.1 rfl (Nat.le_of_ble_eq_true rfl) dX6_of_5 ⟨(Nat.le_of_ble_eq_true rfl), (Nat.le_of_ble_eq_true rfl)⟩) hPD hS hA (fun r_1 u_2 H locs hw_3 hPD hS => ?_)
  have hw_4 : r_1 = (hs p0 r9) := hw_3
  subst hw_4
  obtain ⟨hP, hD⟩ := hPD.perm permA'
  have hP : va_P D vwCl ([kX6 h0 pg bk fg og lg oS lS s1 s2 s3, kQ cR br 9 (fun k => some ((rho k).1.1)), kX5 bk br (nI r9)] ++ RB cI rho) H := hP
  have hD : va_D A ([kX6 h0 pg bk fg og lg oS lS s1 s2 s3, kQ cR br 9 (fun k => some ((rho k).1.1)), kX5 bk br (nI r9)] ++ RB cI rho) := hD
  refine lv_if_ne (tgt := 15) hx hb dX6_of_8 (by decide) (fun c_5 => ?_) (fun c_5 => ?_)
  · skip
    obtain ⟨k9, hk9, ek9⟩ := hs_y (by omega) c_5
    obtain ⟨-, ⟨e9, he1, he3, ee9⟩, ⟨v9, hv2, hv5, ev9⟩, -⟩ := hB k9 hk9
    refine lv_aload_n hx hb dX6_of_15 rfl (lv_at hl 0 rfl) ?_
    refine va_get (D := D) (ci := 6) (v := .ref bk) (C := RX6) (T := TX6) (N := 10) hx hb hts iT_X6 hown hK1 hP 0 rfl rfl 1 (by decide) (hts _ t_155) (fun _ h9 => h9) rfl dX6_of_16 ?_
    refine va_get (D := D) (ci := 5) (v := .ref br) (C := RX5) (T := TX5) (N := 2) hx hb hts iT_X5 hown hK1 hP 2 rfl rfl 0 (by decide) (hts _ t_105) (fun _ h9 => h9) rfl dX6_of_19 ?_
    refine lv_iload_n hx hb dX6_of_22 rfl (lv_at hl 1 rfl) ?_
    refine lv_nmi (show _ = (nI k9 : Int32) from ek9) ?_
    refine va_aldq hx hb hK1 hP 1 3 rfl rfl (vp_in_nI (by omega) (by omega)) dX6_of_23 ?_
    refine lv_nmr (show _ = Value.ref (rho k9).1.1 from by rw [nI_clamp (n := k9) (by omega)]; rfl) ?_
    refine lv_astore_n (lv' := [(3, .ref ((rho k9).1.1)), (0, .ref h0), (1, .int p0), (2, .int p1)]) hx hb dX6_of_24 rfl hl (by decide) rfl (fun ls hl => ?_)
    obtain ⟨hP, hD⟩ := focus k9 (by omega) hP hD
    have hP : va_P D vwCl ([kX6 h0 pg bk fg og lg oS lS s1 s2 s3, kQ cR br 9 (fun k => some ((rho k).1.1)), kX5 bk br (nI r9), kX4 ((rho k9).1.1) ((rho k9).2.1.1) ((rho k9).1.2.1) ((rho k9).1.2.2.2.2.2.1) ((rho k9).1.2.2.2.2.2.2.1) ((rho k9).1.2.2.2.2.2.2.2), kX0 ((rho k9).1.2.1) ((rho k9).1.2.2.1) ((rho k9).1.2.2.2.1) ((rho k9).1.2.2.2.2.1) ((rho k9).2.1.2.1) ((rho k9).2.1.2.2), kI cI ((rho k9).1.2.2.1) 3 ((rho k9).2.2.1), kI cI ((rho k9).1.2.2.2.1) 3 ((rho k9).2.2.2.1), kI cI ((rho k9).1.2.2.2.2.1) 3 ((rho k9).2.2.2.2.1), kI cI ((rho k9).1.2.2.2.2.2.1) 3 ((rho k9).2.2.2.2.2.1), kI cI ((rho k9).1.2.2.2.2.2.2.1) 64 ((rho k9).2.2.2.2.2.2.1), kI cI ((rho k9).1.2.2.2.2.2.2.2) 64 ((rho k9).2.2.2.2.2.2.2)] ++ RX cI rho k9) H := hP
    have hD : va_D A ([kX6 h0 pg bk fg og lg oS lS s1 s2 s3, kQ cR br 9 (fun k => some ((rho k).1.1)), kX5 bk br (nI r9), kX4 ((rho k9).1.1) ((rho k9).2.1.1) ((rho k9).1.2.1) ((rho k9).1.2.2.2.2.2.1) ((rho k9).1.2.2.2.2.2.2.1) ((rho k9).1.2.2.2.2.2.2.2), kX0 ((rho k9).1.2.1) ((rho k9).1.2.2.1) ((rho k9).1.2.2.2.1) ((rho k9).1.2.2.2.2.1) ((rho k9).2.1.2.1) ((rho k9).2.1.2.2), kI cI ((rho k9).1.2.2.1) 3 ((rho k9).2.2.1), kI cI ((rho k9).1.2.2.2.1) 3 ((rho k9).2.2.2.1), kI cI ((rho k9).1.2.2.2.2.1) 3 ((rho k9).2.2.2.2.1), kI cI ((rho k9).1.2.2.2.2.2.1) 3 ((rho k9).2.2.2.2.2.1), kI cI ((rho k9).1.2.2.2.2.2.2.1) 64 ((rho k9).2.2.2.2.2.2.1), kI cI ((rho k9).1.2.2.2.2.2.2.2) 64 ((rho k9).2.2.2.2.2.2.2)] ++ RX cI rho k9) := hD
    rw [ee9] at hP hD
    have hP : va_P D vwCl ([kX6 h0 pg bk fg og lg oS lS s1 s2 s3, kQ cR br 9 (fun k => some ((rho k).1.1)), kX5 bk br (nI r9), kX4 ((rho k9).1.1) ((rho k9).2.1.1) ((rho k9).1.2.1) ((rho k9).1.2.2.2.2.2.1) ((rho k9).1.2.2.2.2.2.2.1) ((rho k9).1.2.2.2.2.2.2.2), kX0 ((rho k9).1.2.1) ((rho k9).1.2.2.1) ((rho k9).1.2.2.2.1) ((rho k9).1.2.2.2.2.1) (nI e9) ((rho k9).2.1.2.2), kI cI ((rho k9).1.2.2.1) 3 ((rho k9).2.2.1), kI cI ((rho k9).1.2.2.2.1) 3 ((rho k9).2.2.2.1), kI cI ((rho k9).1.2.2.2.2.1) 3 ((rho k9).2.2.2.2.1), kI cI ((rho k9).1.2.2.2.2.2.1) 3 ((rho k9).2.2.2.2.2.1), kI cI ((rho k9).1.2.2.2.2.2.2.1) 64 ((rho k9).2.2.2.2.2.2.1), kI cI ((rho k9).1.2.2.2.2.2.2.2) 64 ((rho k9).2.2.2.2.2.2.2)] ++ RX cI rho k9) H := hP
    have hD : va_D A ([kX6 h0 pg bk fg og lg oS lS s1 s2 s3, kQ cR br 9 (fun k => some ((rho k).1.1)), kX5 bk br (nI r9), kX4 ((rho k9).1.1) ((rho k9).2.1.1) ((rho k9).1.2.1) ((rho k9).1.2.2.2.2.2.1) ((rho k9).1.2.2.2.2.2.2.1) ((rho k9).1.2.2.2.2.2.2.2), kX0 ((rho k9).1.2.1) ((rho k9).1.2.2.1) ((rho k9).1.2.2.2.1) ((rho k9).1.2.2.2.2.1) (nI e9) ((rho k9).2.1.2.2), kI cI ((rho k9).1.2.2.1) 3 ((rho k9).2.2.1), kI cI ((rho k9).1.2.2.2.1) 3 ((rho k9).2.2.2.1), kI cI ((rho k9).1.2.2.2.2.1) 3 ((rho k9).2.2.2.2.1), kI cI ((rho k9).1.2.2.2.2.2.1) 3 ((rho k9).2.2.2.2.2.1), kI cI ((rho k9).1.2.2.2.2.2.2.1) 64 ((rho k9).2.2.2.2.2.2.1), kI cI ((rho k9).1.2.2.2.2.2.2.2) 64 ((rho k9).2.2.2.2.2.2.2)] ++ RX cI rho k9) := hD
    rw [ev9] at hP hD
    have hP : va_P D vwCl ([kX6 h0 pg bk fg og lg oS lS s1 s2 s3, kQ cR br 9 (fun k => some ((rho k).1.1)), kX5 bk br (nI r9), kX4 ((rho k9).1.1) ((rho k9).2.1.1) ((rho k9).1.2.1) ((rho k9).1.2.2.2.2.2.1) ((rho k9).1.2.2.2.2.2.2.1) ((rho k9).1.2.2.2.2.2.2.2), kX0 ((rho k9).1.2.1) ((rho k9).1.2.2.1) ((rho k9).1.2.2.2.1) ((rho k9).1.2.2.2.2.1) (nI e9) (nI v9), kI cI ((rho k9).1.2.2.1) 3 ((rho k9).2.2.1), kI cI ((rho k9).1.2.2.2.1) 3 ((rho k9).2.2.2.1), kI cI ((rho k9).1.2.2.2.2.1) 3 ((rho k9).2.2.2.2.1), kI cI ((rho k9).1.2.2.2.2.2.1) 3 ((rho k9).2.2.2.2.2.1), kI cI ((rho k9).1.2.2.2.2.2.2.1) 64 ((rho k9).2.2.2.2.2.2.1), kI cI ((rho k9).1.2.2.2.2.2.2.2) 64 ((rho k9).2.2.2.2.2.2.2)] ++ RX cI rho k9) H := hP
    have hD : va_D A ([kX6 h0 pg bk fg og lg oS lS s1 s2 s3, kQ cR br 9 (fun k => some ((rho k).1.1)), kX5 bk br (nI r9), kX4 ((rho k9).1.1) ((rho k9).2.1.1) ((rho k9).1.2.1) ((rho k9).1.2.2.2.2.2.1) ((rho k9).1.2.2.2.2.2.2.1) ((rho k9).1.2.2.2.2.2.2.2), kX0 ((rho k9).1.2.1) ((rho k9).1.2.2.1) ((rho k9).1.2.2.2.1) ((rho k9).1.2.2.2.2.1) (nI e9) (nI v9), kI cI ((rho k9).1.2.2.1) 3 ((rho k9).2.2.1), kI cI ((rho k9).1.2.2.2.1) 3 ((rho k9).2.2.2.1), kI cI ((rho k9).1.2.2.2.2.1) 3 ((rho k9).2.2.2.2.1), kI cI ((rho k9).1.2.2.2.2.2.1) 3 ((rho k9).2.2.2.2.2.1), kI cI ((rho k9).1.2.2.2.2.2.2.1) 64 ((rho k9).2.2.2.2.2.2.1), kI cI ((rho k9).1.2.2.2.2.2.2.2) 64 ((rho k9).2.2.2.2.2.2.2)] ++ RX cI rho k9) := hD
    refine lv_iload_n hx hb dX6_of_25 rfl (lv_at hl 3 rfl) ?_
    refine lv_if_ne (tgt := 34) hx hb dX6_of_26 (by decide) (fun c_6 => ?_) (fun c_6 => ?_)
    · skip
      refine lv_iload_n hx hb dX6_of_34 rfl (lv_at hl 3 rfl) ?_
      refine lv_iconst (v := 1) hx hb dX6_of_35 (by decide) ?_
      refine lv_icmp_ne (tgt := 47) hx hb dX6_of_36 (by decide) (fun c_7 => ?_) (fun c_7 => ?_)
      · skip
        refine lv_iload_n hx hb dX6_of_47 rfl (lv_at hl 3 rfl) ?_
        refine lv_iconst (v := 2) hx hb dX6_of_48 (by decide) ?_
        refine lv_icmp_ne (tgt := 60) hx hb dX6_of_49 (by decide) (fun c_8 => ?_) (fun c_8 => ?_)
        · skip
          refine lv_iload_n hx hb dX6_of_60 rfl (lv_at hl 3 rfl) ?_
          refine lv_bipush (v := 10) hx hb dX6_of_61 (by decide) ?_
          refine lv_icmp_lt (tgt := 72) hx hb dX6_of_63 (by decide) (fun c_9 => ?_) (fun c_9 => ?_)
          · skip
            refine lv_sipush (v := -1002) hx hb dX6_of_72 (by decide) ?_
            rw [← ee9] at hP hD
            have hP : va_P D vwCl ([kX6 h0 pg bk fg og lg oS lS s1 s2 s3, kQ cR br 9 (fun k => some ((rho k).1.1)), kX5 bk br (nI r9), kX4 ((rho k9).1.1) ((rho k9).2.1.1) ((rho k9).1.2.1) ((rho k9).1.2.2.2.2.2.1) ((rho k9).1.2.2.2.2.2.2.1) ((rho k9).1.2.2.2.2.2.2.2), kX0 ((rho k9).1.2.1) ((rho k9).1.2.2.1) ((rho k9).1.2.2.2.1) ((rho k9).1.2.2.2.2.1) ((rho k9).2.1.2.1) (nI v9), kI cI ((rho k9).1.2.2.1) 3 ((rho k9).2.2.1), kI cI ((rho k9).1.2.2.2.1) 3 ((rho k9).2.2.2.1), kI cI ((rho k9).1.2.2.2.2.1) 3 ((rho k9).2.2.2.2.1), kI cI ((rho k9).1.2.2.2.2.2.1) 3 ((rho k9).2.2.2.2.2.1), kI cI ((rho k9).1.2.2.2.2.2.2.1) 64 ((rho k9).2.2.2.2.2.2.1), kI cI ((rho k9).1.2.2.2.2.2.2.2) 64 ((rho k9).2.2.2.2.2.2.2)] ++ RX cI rho k9) H := hP
            have hD : va_D A ([kX6 h0 pg bk fg og lg oS lS s1 s2 s3, kQ cR br 9 (fun k => some ((rho k).1.1)), kX5 bk br (nI r9), kX4 ((rho k9).1.1) ((rho k9).2.1.1) ((rho k9).1.2.1) ((rho k9).1.2.2.2.2.2.1) ((rho k9).1.2.2.2.2.2.2.1) ((rho k9).1.2.2.2.2.2.2.2), kX0 ((rho k9).1.2.1) ((rho k9).1.2.2.1) ((rho k9).1.2.2.2.1) ((rho k9).1.2.2.2.2.1) ((rho k9).2.1.2.1) (nI v9), kI cI ((rho k9).1.2.2.1) 3 ((rho k9).2.2.1), kI cI ((rho k9).1.2.2.2.1) 3 ((rho k9).2.2.2.1), kI cI ((rho k9).1.2.2.2.2.1) 3 ((rho k9).2.2.2.2.1), kI cI ((rho k9).1.2.2.2.2.2.1) 3 ((rho k9).2.2.2.2.2.1), kI cI ((rho k9).1.2.2.2.2.2.2.1) 64 ((rho k9).2.2.2.2.2.2.1), kI cI ((rho k9).1.2.2.2.2.2.2.2) 64 ((rho k9).2.2.2.2.2.2.2)] ++ RX cI rho k9) := hD
            rw [← ev9] at hP hD
            have hP : va_P D vwCl ([kX6 h0 pg bk fg og lg oS lS s1 s2 s3, kQ cR br 9 (fun k => some ((rho k).1.1)), kX5 bk br (nI r9), kX4 ((rho k9).1.1) ((rho k9).2.1.1) ((rho k9).1.2.1) ((rho k9).1.2.2.2.2.2.1) ((rho k9).1.2.2.2.2.2.2.1) ((rho k9).1.2.2.2.2.2.2.2), kX0 ((rho k9).1.2.1) ((rho k9).1.2.2.1) ((rho k9).1.2.2.2.1) ((rho k9).1.2.2.2.2.1) ((rho k9).2.1.2.1) ((rho k9).2.1.2.2), kI cI ((rho k9).1.2.2.1) 3 ((rho k9).2.2.1), kI cI ((rho k9).1.2.2.2.1) 3 ((rho k9).2.2.2.1), kI cI ((rho k9).1.2.2.2.2.1) 3 ((rho k9).2.2.2.2.1), kI cI ((rho k9).1.2.2.2.2.2.1) 3 ((rho k9).2.2.2.2.2.1), kI cI ((rho k9).1.2.2.2.2.2.2.1) 64 ((rho k9).2.2.2.2.2.2.1), kI cI ((rho k9).1.2.2.2.2.2.2.2) 64 ((rho k9).2.2.2.2.2.2.2)] ++ RX cI rho k9) H := hP
            have hD : va_D A ([kX6 h0 pg bk fg og lg oS lS s1 s2 s3, kQ cR br 9 (fun k => some ((rho k).1.1)), kX5 bk br (nI r9), kX4 ((rho k9).1.1) ((rho k9).2.1.1) ((rho k9).1.2.1) ((rho k9).1.2.2.2.2.2.1) ((rho k9).1.2.2.2.2.2.2.1) ((rho k9).1.2.2.2.2.2.2.2), kX0 ((rho k9).1.2.1) ((rho k9).1.2.2.1) ((rho k9).1.2.2.2.1) ((rho k9).1.2.2.2.2.1) ((rho k9).2.1.2.1) ((rho k9).2.1.2.2), kI cI ((rho k9).1.2.2.1) 3 ((rho k9).2.2.1), kI cI ((rho k9).1.2.2.2.1) 3 ((rho k9).2.2.2.1), kI cI ((rho k9).1.2.2.2.2.1) 3 ((rho k9).2.2.2.2.1), kI cI ((rho k9).1.2.2.2.2.2.1) 3 ((rho k9).2.2.2.2.2.1), kI cI ((rho k9).1.2.2.2.2.2.2.1) 64 ((rho k9).2.2.2.2.2.2.1), kI cI ((rho k9).1.2.2.2.2.2.2.2) 64 ((rho k9).2.2.2.2.2.2.2)] ++ RX cI rho k9) := hD
            have hPD : PD D A ([kX6 h0 pg bk fg og lg oS lS s1 s2 s3, kQ cR br 9 (fun k => some ((rho k).1.1)), kX5 bk br (nI r9), kX4 ((rho k9).1.1) ((rho k9).2.1.1) ((rho k9).1.2.1) ((rho k9).1.2.2.2.2.2.1) ((rho k9).1.2.2.2.2.2.2.1) ((rho k9).1.2.2.2.2.2.2.2), kX0 ((rho k9).1.2.1) ((rho k9).1.2.2.1) ((rho k9).1.2.2.2.1) ((rho k9).1.2.2.2.2.1) ((rho k9).2.1.2.1) ((rho k9).2.1.2.2), kI cI ((rho k9).1.2.2.1) 3 ((rho k9).2.2.1), kI cI ((rho k9).1.2.2.2.1) 3 ((rho k9).2.2.2.1), kI cI ((rho k9).1.2.2.2.2.1) 3 ((rho k9).2.2.2.2.1), kI cI ((rho k9).1.2.2.2.2.2.1) 3 ((rho k9).2.2.2.2.2.1), kI cI ((rho k9).1.2.2.2.2.2.2.1) 64 ((rho k9).2.2.2.2.2.2.1), kI cI ((rho k9).1.2.2.2.2.2.2.2) 64 ((rho k9).2.2.2.2.2.2.2)] ++ RX cI rho k9) H := (PD.perm ⟨hP, hD⟩ (permB pm_43)).left
            obtain ⟨hP, hD⟩ := unfocus0 (E := [kX6 h0 pg bk fg og lg oS lS s1 s2 s3, kQ cR br 9 (fun k => some ((rho k).1.1)), kX5 bk br (nI r9)]) k9 (by omega) hPD.1 hPD.2
            have hP : va_P D vwCl ([kX6 h0 pg bk fg og lg oS lS s1 s2 s3, kQ cR br 9 (fun k => some ((rho k).1.1)), kX5 bk br (nI r9)] ++ RB cI rho) H := hP
            have hD : va_D A ([kX6 h0 pg bk fg og lg oS lS s1 s2 s3, kQ cR br 9 (fun k => some ((rho k).1.1)), kX5 bk br (nI r9)] ++ RB cI rho) := hD
            have hPD : PD D A ([kX6 h0 pg bk fg og lg oS lS s1 s2 s3, kX5 bk br (nI r9), kQ cR br 9 (fun k => some ((rho k).1.1))] ++ RB cI rho) H := (PD.perm ⟨hP, hD⟩ (permB pm_42)).left
            exact hret _ _ _ _ _ _ (-1002) () dX6_of_75 rfl hS (Nat.le_of_ble_eq_true rfl) (Nat.le_of_ble_eq_true rfl) (Or.inr ⟨k9, hk9, ek9, Or.inr (Or.inr (Or.inr (Or.inl ⟨⟨c_6, c_7, c_8, Or.inl c_9⟩, rfl⟩)))⟩) hPD.1 hPD.2
          · skip
            refine lv_iload_n hx hb dX6_of_66 rfl (lv_at hl 3 rfl) ?_
            refine lv_bipush (v := 13) hx hb dX6_of_67 (by decide) ?_
            refine lv_icmp_lt (tgt := 76) hx hb dX6_of_69 (by decide) (fun c_10 => ?_) (fun c_10 => ?_)
            · skip
              refine lv_aload_n hx hb dX6_of_76 rfl (lv_at hl 0 rfl) ?_
              refine va_get (D := D) (ci := 4) (v := .ref ((rho k9).1.2.1)) (C := RX4) (T := TX4) (N := 5) hx hb hts iT_X4 hown hK1 hP 3 rfl rfl 1 (by decide) (hts _ t_85) (fun _ h9 => h9) rfl dX6_of_77 ?_
              refine lv_iload_n hx hb dX6_of_80 rfl (lv_at hl 3 rfl) ?_
              refine lv_bipush (v := 10) hx hb dX6_of_81 (by decide) ?_
              refine lv_isub hx hb dX6_of_83 ?_
              have hPD : PD D A ([kX0 ((rho k9).1.2.1) ((rho k9).1.2.2.1) ((rho k9).1.2.2.2.1) ((rho k9).1.2.2.2.2.1) (nI e9) (nI v9)] ++ ([kX6 h0 pg bk fg og lg oS lS s1 s2 s3, kQ cR br 9 (fun k => some ((rho k).1.1)), kX5 bk br (nI r9), kX4 ((rho k9).1.1) ((rho k9).2.1.1) ((rho k9).1.2.1) ((rho k9).1.2.2.2.2.2.1) ((rho k9).1.2.2.2.2.2.2.1) ((rho k9).1.2.2.2.2.2.2.2), kI cI ((rho k9).1.2.2.1) 3 ((rho k9).2.2.1), kI cI ((rho k9).1.2.2.2.1) 3 ((rho k9).2.2.2.1), kI cI ((rho k9).1.2.2.2.2.1) 3 ((rho k9).2.2.2.2.1), kI cI ((rho k9).1.2.2.2.2.2.1) 3 ((rho k9).2.2.2.2.2.1), kI cI ((rho k9).1.2.2.2.2.2.2.1) 64 ((rho k9).2.2.2.2.2.2.1), kI cI ((rho k9).1.2.2.2.2.2.2.2) 64 ((rho k9).2.2.2.2.2.2.2)] ++ RX cI rho k9)) H := PD.perm ⟨hP, hD⟩ (permA pm_44)
              refine xp_i (wc := [kX0 ((rho k9).1.2.1) ((rho k9).1.2.2.1) ((rho k9).1.2.2.2.1) ((rho k9).1.2.2.2.2.1) (nI e9) (nI v9)]) (wr := ([kX6 h0 pg bk fg og lg oS lS s1 s2 s3, kQ cR br 9 (fun k => some ((rho k).1.1)), kX5 bk br (nI r9), kX4 ((rho k9).1.1) ((rho k9).2.1.1) ((rho k9).1.2.1) ((rho k9).1.2.2.2.2.2.1) ((rho k9).1.2.2.2.2.2.2.1) ((rho k9).1.2.2.2.2.2.2.2), kI cI ((rho k9).1.2.2.1) 3 ((rho k9).2.2.1), kI cI ((rho k9).1.2.2.2.1) 3 ((rho k9).2.2.2.1), kI cI ((rho k9).1.2.2.2.2.1) 3 ((rho k9).2.2.2.2.1), kI cI ((rho k9).1.2.2.2.2.2.1) 3 ((rho k9).2.2.2.2.2.1), kI cI ((rho k9).1.2.2.2.2.2.2.1) 64 ((rho k9).2.2.2.2.2.2.1), kI cI ((rho k9).1.2.2.2.2.2.2.2) 64 ((rho k9).2.2.2.2.2.2.2)] ++ RX cI rho k9)) (xqV (n := 1) (As := [.int (p1 - 10)]) (rest := []) (ci := 0) (q0 := 0) hd hK hPD.left (c_X0_has l D cI cJ cZ cR _ ((rho k9).1.2.1) ((rho k9).1.2.2.1) ((rho k9).1.2.2.2.1) ((rho k9).1.2.2.2.2.1) e9 v9 (p1 - 10) ) (gV t_332 mV_X0_has) hV_X0_has ⟨(Nat.le_of_ble_eq_true rfl), (Nat.le_of_ble_eq_true rfl)⟩ rfl rfl rfl hl.1 rfl (Nat.le_of_ble_eq_true rfl) dX6_of_84 ⟨(Nat.le_of_ble_eq_true rfl), (Nat.le_of_ble_eq_true rfl)⟩) hPD hS hA (fun r_11 u_12 H locs hw_13 hPD hS => ?_)
              have hw_14 : r_11 = (hs (p1 - 10) e9) := hw_13
              subst hw_14
              obtain ⟨hP, hD⟩ := hPD.perm permA'
              have hP : va_P D vwCl ([kX6 h0 pg bk fg og lg oS lS s1 s2 s3, kQ cR br 9 (fun k => some ((rho k).1.1)), kX5 bk br (nI r9), kX4 ((rho k9).1.1) ((rho k9).2.1.1) ((rho k9).1.2.1) ((rho k9).1.2.2.2.2.2.1) ((rho k9).1.2.2.2.2.2.2.1) ((rho k9).1.2.2.2.2.2.2.2), kI cI ((rho k9).1.2.2.1) 3 ((rho k9).2.2.1), kI cI ((rho k9).1.2.2.2.1) 3 ((rho k9).2.2.2.1), kI cI ((rho k9).1.2.2.2.2.1) 3 ((rho k9).2.2.2.2.1), kI cI ((rho k9).1.2.2.2.2.2.1) 3 ((rho k9).2.2.2.2.2.1), kI cI ((rho k9).1.2.2.2.2.2.2.1) 64 ((rho k9).2.2.2.2.2.2.1), kI cI ((rho k9).1.2.2.2.2.2.2.2) 64 ((rho k9).2.2.2.2.2.2.2), kX0 ((rho k9).1.2.1) ((rho k9).1.2.2.1) ((rho k9).1.2.2.2.1) ((rho k9).1.2.2.2.2.1) (nI e9) (nI v9)] ++ RX cI rho k9) H := hP
              have hD : va_D A ([kX6 h0 pg bk fg og lg oS lS s1 s2 s3, kQ cR br 9 (fun k => some ((rho k).1.1)), kX5 bk br (nI r9), kX4 ((rho k9).1.1) ((rho k9).2.1.1) ((rho k9).1.2.1) ((rho k9).1.2.2.2.2.2.1) ((rho k9).1.2.2.2.2.2.2.1) ((rho k9).1.2.2.2.2.2.2.2), kI cI ((rho k9).1.2.2.1) 3 ((rho k9).2.2.1), kI cI ((rho k9).1.2.2.2.1) 3 ((rho k9).2.2.2.1), kI cI ((rho k9).1.2.2.2.2.1) 3 ((rho k9).2.2.2.2.1), kI cI ((rho k9).1.2.2.2.2.2.1) 3 ((rho k9).2.2.2.2.2.1), kI cI ((rho k9).1.2.2.2.2.2.2.1) 64 ((rho k9).2.2.2.2.2.2.1), kI cI ((rho k9).1.2.2.2.2.2.2.2) 64 ((rho k9).2.2.2.2.2.2.2), kX0 ((rho k9).1.2.1) ((rho k9).1.2.2.1) ((rho k9).1.2.2.2.1) ((rho k9).1.2.2.2.2.1) (nI e9) (nI v9)] ++ RX cI rho k9) := hD
              refine lv_if_eq (tgt := 104) hx hb dX6_of_87 (by decide) (fun c_15 => ?_) (fun c_15 => ?_)
              · skip
                refine lv_iconst (v := -1) hx hb dX6_of_104 (by decide) ?_
                rw [← ee9] at hP hD
                have hP : va_P D vwCl ([kX6 h0 pg bk fg og lg oS lS s1 s2 s3, kQ cR br 9 (fun k => some ((rho k).1.1)), kX5 bk br (nI r9), kX4 ((rho k9).1.1) ((rho k9).2.1.1) ((rho k9).1.2.1) ((rho k9).1.2.2.2.2.2.1) ((rho k9).1.2.2.2.2.2.2.1) ((rho k9).1.2.2.2.2.2.2.2), kI cI ((rho k9).1.2.2.1) 3 ((rho k9).2.2.1), kI cI ((rho k9).1.2.2.2.1) 3 ((rho k9).2.2.2.1), kI cI ((rho k9).1.2.2.2.2.1) 3 ((rho k9).2.2.2.2.1), kI cI ((rho k9).1.2.2.2.2.2.1) 3 ((rho k9).2.2.2.2.2.1), kI cI ((rho k9).1.2.2.2.2.2.2.1) 64 ((rho k9).2.2.2.2.2.2.1), kI cI ((rho k9).1.2.2.2.2.2.2.2) 64 ((rho k9).2.2.2.2.2.2.2), kX0 ((rho k9).1.2.1) ((rho k9).1.2.2.1) ((rho k9).1.2.2.2.1) ((rho k9).1.2.2.2.2.1) ((rho k9).2.1.2.1) (nI v9)] ++ RX cI rho k9) H := hP
                have hD : va_D A ([kX6 h0 pg bk fg og lg oS lS s1 s2 s3, kQ cR br 9 (fun k => some ((rho k).1.1)), kX5 bk br (nI r9), kX4 ((rho k9).1.1) ((rho k9).2.1.1) ((rho k9).1.2.1) ((rho k9).1.2.2.2.2.2.1) ((rho k9).1.2.2.2.2.2.2.1) ((rho k9).1.2.2.2.2.2.2.2), kI cI ((rho k9).1.2.2.1) 3 ((rho k9).2.2.1), kI cI ((rho k9).1.2.2.2.1) 3 ((rho k9).2.2.2.1), kI cI ((rho k9).1.2.2.2.2.1) 3 ((rho k9).2.2.2.2.1), kI cI ((rho k9).1.2.2.2.2.2.1) 3 ((rho k9).2.2.2.2.2.1), kI cI ((rho k9).1.2.2.2.2.2.2.1) 64 ((rho k9).2.2.2.2.2.2.1), kI cI ((rho k9).1.2.2.2.2.2.2.2) 64 ((rho k9).2.2.2.2.2.2.2), kX0 ((rho k9).1.2.1) ((rho k9).1.2.2.1) ((rho k9).1.2.2.2.1) ((rho k9).1.2.2.2.2.1) ((rho k9).2.1.2.1) (nI v9)] ++ RX cI rho k9) := hD
                rw [← ev9] at hP hD
                have hP : va_P D vwCl ([kX6 h0 pg bk fg og lg oS lS s1 s2 s3, kQ cR br 9 (fun k => some ((rho k).1.1)), kX5 bk br (nI r9), kX4 ((rho k9).1.1) ((rho k9).2.1.1) ((rho k9).1.2.1) ((rho k9).1.2.2.2.2.2.1) ((rho k9).1.2.2.2.2.2.2.1) ((rho k9).1.2.2.2.2.2.2.2), kI cI ((rho k9).1.2.2.1) 3 ((rho k9).2.2.1), kI cI ((rho k9).1.2.2.2.1) 3 ((rho k9).2.2.2.1), kI cI ((rho k9).1.2.2.2.2.1) 3 ((rho k9).2.2.2.2.1), kI cI ((rho k9).1.2.2.2.2.2.1) 3 ((rho k9).2.2.2.2.2.1), kI cI ((rho k9).1.2.2.2.2.2.2.1) 64 ((rho k9).2.2.2.2.2.2.1), kI cI ((rho k9).1.2.2.2.2.2.2.2) 64 ((rho k9).2.2.2.2.2.2.2), kX0 ((rho k9).1.2.1) ((rho k9).1.2.2.1) ((rho k9).1.2.2.2.1) ((rho k9).1.2.2.2.2.1) ((rho k9).2.1.2.1) ((rho k9).2.1.2.2)] ++ RX cI rho k9) H := hP
                have hD : va_D A ([kX6 h0 pg bk fg og lg oS lS s1 s2 s3, kQ cR br 9 (fun k => some ((rho k).1.1)), kX5 bk br (nI r9), kX4 ((rho k9).1.1) ((rho k9).2.1.1) ((rho k9).1.2.1) ((rho k9).1.2.2.2.2.2.1) ((rho k9).1.2.2.2.2.2.2.1) ((rho k9).1.2.2.2.2.2.2.2), kI cI ((rho k9).1.2.2.1) 3 ((rho k9).2.2.1), kI cI ((rho k9).1.2.2.2.1) 3 ((rho k9).2.2.2.1), kI cI ((rho k9).1.2.2.2.2.1) 3 ((rho k9).2.2.2.2.1), kI cI ((rho k9).1.2.2.2.2.2.1) 3 ((rho k9).2.2.2.2.2.1), kI cI ((rho k9).1.2.2.2.2.2.2.1) 64 ((rho k9).2.2.2.2.2.2.1), kI cI ((rho k9).1.2.2.2.2.2.2.2) 64 ((rho k9).2.2.2.2.2.2.2), kX0 ((rho k9).1.2.1) ((rho k9).1.2.2.1) ((rho k9).1.2.2.2.1) ((rho k9).1.2.2.2.2.1) ((rho k9).2.1.2.1) ((rho k9).2.1.2.2)] ++ RX cI rho k9) := hD
                have hPD : PD D A ([kX6 h0 pg bk fg og lg oS lS s1 s2 s3, kQ cR br 9 (fun k => some ((rho k).1.1)), kX5 bk br (nI r9), kX4 ((rho k9).1.1) ((rho k9).2.1.1) ((rho k9).1.2.1) ((rho k9).1.2.2.2.2.2.1) ((rho k9).1.2.2.2.2.2.2.1) ((rho k9).1.2.2.2.2.2.2.2), kX0 ((rho k9).1.2.1) ((rho k9).1.2.2.1) ((rho k9).1.2.2.2.1) ((rho k9).1.2.2.2.2.1) ((rho k9).2.1.2.1) ((rho k9).2.1.2.2), kI cI ((rho k9).1.2.2.1) 3 ((rho k9).2.2.1), kI cI ((rho k9).1.2.2.2.1) 3 ((rho k9).2.2.2.1), kI cI ((rho k9).1.2.2.2.2.1) 3 ((rho k9).2.2.2.2.1), kI cI ((rho k9).1.2.2.2.2.2.1) 3 ((rho k9).2.2.2.2.2.1), kI cI ((rho k9).1.2.2.2.2.2.2.1) 64 ((rho k9).2.2.2.2.2.2.1), kI cI ((rho k9).1.2.2.2.2.2.2.2) 64 ((rho k9).2.2.2.2.2.2.2)] ++ RX cI rho k9) H := (PD.perm ⟨hP, hD⟩ (permB pm_45)).left
                obtain ⟨hP, hD⟩ := unfocus0 (E := [kX6 h0 pg bk fg og lg oS lS s1 s2 s3, kQ cR br 9 (fun k => some ((rho k).1.1)), kX5 bk br (nI r9)]) k9 (by omega) hPD.1 hPD.2
                have hP : va_P D vwCl ([kX6 h0 pg bk fg og lg oS lS s1 s2 s3, kQ cR br 9 (fun k => some ((rho k).1.1)), kX5 bk br (nI r9)] ++ RB cI rho) H := hP
                have hD : va_D A ([kX6 h0 pg bk fg og lg oS lS s1 s2 s3, kQ cR br 9 (fun k => some ((rho k).1.1)), kX5 bk br (nI r9)] ++ RB cI rho) := hD
                have hPD : PD D A ([kX6 h0 pg bk fg og lg oS lS s1 s2 s3, kX5 bk br (nI r9), kQ cR br 9 (fun k => some ((rho k).1.1))] ++ RB cI rho) H := (PD.perm ⟨hP, hD⟩ (permB pm_42)).left
                exact hret _ _ _ _ _ _ (-1) () dX6_of_105 rfl hS (Nat.le_of_ble_eq_true rfl) (Nat.le_of_ble_eq_true rfl) (Or.inr ⟨k9, hk9, ek9, Or.inr (Or.inr (Or.inr (Or.inr ⟨c_9, c_10, e9, ⟨he3, ee9⟩, Or.inl ⟨c_15, rfl⟩⟩)))⟩) hPD.1 hPD.2
              · skip
                obtain ⟨j9, hj9, ej9⟩ := hs_y (by omega) c_15
                refine lv_aload_n hx hb dX6_of_90 rfl (lv_at hl 0 rfl) ?_
                refine va_get (D := D) (ci := 4) (v := .ref ((rho k9).1.2.1)) (C := RX4) (T := TX4) (N := 5) hx hb hts iT_X4 hown hK1 hP 3 rfl rfl 1 (by decide) (hts _ t_85) (fun _ h9 => h9) rfl dX6_of_91 ?_
                refine lv_iload_n hx hb dX6_of_94 rfl (lv_at hl 3 rfl) ?_
                refine lv_bipush (v := 10) hx hb dX6_of_95 (by decide) ?_
                refine lv_isub hx hb dX6_of_97 ?_
                refine lv_nmi (show _ = (nI j9 : Int32) from ej9) ?_
                have hPD : PD D A ([kX0 ((rho k9).1.2.1) ((rho k9).1.2.2.1) ((rho k9).1.2.2.2.1) ((rho k9).1.2.2.2.2.1) (nI e9) (nI v9), kI cI ((rho k9).1.2.2.1) 3 ((rho k9).2.2.1), kI cI ((rho k9).1.2.2.2.1) 3 ((rho k9).2.2.2.1), kI cI ((rho k9).1.2.2.2.2.1) 3 ((rho k9).2.2.2.2.1)] ++ ([kX6 h0 pg bk fg og lg oS lS s1 s2 s3, kQ cR br 9 (fun k => some ((rho k).1.1)), kX5 bk br (nI r9), kX4 ((rho k9).1.1) ((rho k9).2.1.1) ((rho k9).1.2.1) ((rho k9).1.2.2.2.2.2.1) ((rho k9).1.2.2.2.2.2.2.1) ((rho k9).1.2.2.2.2.2.2.2), kI cI ((rho k9).1.2.2.2.2.2.1) 3 ((rho k9).2.2.2.2.2.1), kI cI ((rho k9).1.2.2.2.2.2.2.1) 64 ((rho k9).2.2.2.2.2.2.1), kI cI ((rho k9).1.2.2.2.2.2.2.2) 64 ((rho k9).2.2.2.2.2.2.2)] ++ RX cI rho k9)) H := PD.perm ⟨hP, hD⟩ (permA pm_46)
                refine xp_i (wc := [kX0 ((rho k9).1.2.1) ((rho k9).1.2.2.1) ((rho k9).1.2.2.2.1) ((rho k9).1.2.2.2.2.1) (nI e9) (nI v9), kI cI ((rho k9).1.2.2.1) 3 ((rho k9).2.2.1), kI cI ((rho k9).1.2.2.2.1) 3 ((rho k9).2.2.2.1), kI cI ((rho k9).1.2.2.2.2.1) 3 ((rho k9).2.2.2.2.1)]) (wr := ([kX6 h0 pg bk fg og lg oS lS s1 s2 s3, kQ cR br 9 (fun k => some ((rho k).1.1)), kX5 bk br (nI r9), kX4 ((rho k9).1.1) ((rho k9).2.1.1) ((rho k9).1.2.1) ((rho k9).1.2.2.2.2.2.1) ((rho k9).1.2.2.2.2.2.2.1) ((rho k9).1.2.2.2.2.2.2.2), kI cI ((rho k9).1.2.2.2.2.2.1) 3 ((rho k9).2.2.2.2.2.1), kI cI ((rho k9).1.2.2.2.2.2.2.1) 64 ((rho k9).2.2.2.2.2.2.1), kI cI ((rho k9).1.2.2.2.2.2.2.2) 64 ((rho k9).2.2.2.2.2.2.2)] ++ RX cI rho k9)) (xqV (n := 1) (As := [.int (nI j9)]) (rest := []) (ci := 0) (q0 := 0) hd hK hPD.left (c_X0_told l D cI cJ cZ cR _ ((rho k9).1.2.1) ((rho k9).1.2.2.1) ((rho k9).1.2.2.2.1) ((rho k9).1.2.2.2.2.1) 3 e9 v9 j9 ((rho k9).2.2.1) ((rho k9).2.2.2.1) ((rho k9).2.2.2.2.1) (by decide) (by omega)) (gV t_333 mV_X0_told) hV_X0_told ⟨(Nat.le_of_ble_eq_true rfl), (Nat.le_of_ble_eq_true rfl)⟩ rfl rfl rfl hl.1 rfl (Nat.le_of_ble_eq_true rfl) dX6_of_98 ⟨(Nat.le_of_ble_eq_true rfl), (Nat.le_of_ble_eq_true rfl)⟩) hPD hS hA (fun r_16 u_17 H locs hw_18 hPD hS => ?_)
                have hw_19 : r_16 = (((100 * (((rho k9).2.2.1) j9)) + (10 * (((rho k9).2.2.2.1) j9))) + (((rho k9).2.2.2.2.1) j9)) := hw_18
                subst hw_19
                obtain ⟨hP, hD⟩ := hPD.perm permA'
                have hP : va_P D vwCl ([kX6 h0 pg bk fg og lg oS lS s1 s2 s3, kQ cR br 9 (fun k => some ((rho k).1.1)), kX5 bk br (nI r9), kX4 ((rho k9).1.1) ((rho k9).2.1.1) ((rho k9).1.2.1) ((rho k9).1.2.2.2.2.2.1) ((rho k9).1.2.2.2.2.2.2.1) ((rho k9).1.2.2.2.2.2.2.2), kI cI ((rho k9).1.2.2.2.2.2.1) 3 ((rho k9).2.2.2.2.2.1), kI cI ((rho k9).1.2.2.2.2.2.2.1) 64 ((rho k9).2.2.2.2.2.2.1), kI cI ((rho k9).1.2.2.2.2.2.2.2) 64 ((rho k9).2.2.2.2.2.2.2), kX0 ((rho k9).1.2.1) ((rho k9).1.2.2.1) ((rho k9).1.2.2.2.1) ((rho k9).1.2.2.2.2.1) (nI e9) (nI v9), kI cI ((rho k9).1.2.2.1) 3 ((rho k9).2.2.1), kI cI ((rho k9).1.2.2.2.1) 3 ((rho k9).2.2.2.1), kI cI ((rho k9).1.2.2.2.2.1) 3 ((rho k9).2.2.2.2.1)] ++ RX cI rho k9) H := hP
                have hD : va_D A ([kX6 h0 pg bk fg og lg oS lS s1 s2 s3, kQ cR br 9 (fun k => some ((rho k).1.1)), kX5 bk br (nI r9), kX4 ((rho k9).1.1) ((rho k9).2.1.1) ((rho k9).1.2.1) ((rho k9).1.2.2.2.2.2.1) ((rho k9).1.2.2.2.2.2.2.1) ((rho k9).1.2.2.2.2.2.2.2), kI cI ((rho k9).1.2.2.2.2.2.1) 3 ((rho k9).2.2.2.2.2.1), kI cI ((rho k9).1.2.2.2.2.2.2.1) 64 ((rho k9).2.2.2.2.2.2.1), kI cI ((rho k9).1.2.2.2.2.2.2.2) 64 ((rho k9).2.2.2.2.2.2.2), kX0 ((rho k9).1.2.1) ((rho k9).1.2.2.1) ((rho k9).1.2.2.2.1) ((rho k9).1.2.2.2.2.1) (nI e9) (nI v9), kI cI ((rho k9).1.2.2.1) 3 ((rho k9).2.2.1), kI cI ((rho k9).1.2.2.2.1) 3 ((rho k9).2.2.2.1), kI cI ((rho k9).1.2.2.2.2.1) 3 ((rho k9).2.2.2.2.1)] ++ RX cI rho k9) := hD
                refine lv_goto (tgt := 105) hx hb dX6_of_101 (by decide) ?_
                rw [← ee9] at hP hD
                have hP : va_P D vwCl ([kX6 h0 pg bk fg og lg oS lS s1 s2 s3, kQ cR br 9 (fun k => some ((rho k).1.1)), kX5 bk br (nI r9), kX4 ((rho k9).1.1) ((rho k9).2.1.1) ((rho k9).1.2.1) ((rho k9).1.2.2.2.2.2.1) ((rho k9).1.2.2.2.2.2.2.1) ((rho k9).1.2.2.2.2.2.2.2), kI cI ((rho k9).1.2.2.2.2.2.1) 3 ((rho k9).2.2.2.2.2.1), kI cI ((rho k9).1.2.2.2.2.2.2.1) 64 ((rho k9).2.2.2.2.2.2.1), kI cI ((rho k9).1.2.2.2.2.2.2.2) 64 ((rho k9).2.2.2.2.2.2.2), kX0 ((rho k9).1.2.1) ((rho k9).1.2.2.1) ((rho k9).1.2.2.2.1) ((rho k9).1.2.2.2.2.1) ((rho k9).2.1.2.1) (nI v9), kI cI ((rho k9).1.2.2.1) 3 ((rho k9).2.2.1), kI cI ((rho k9).1.2.2.2.1) 3 ((rho k9).2.2.2.1), kI cI ((rho k9).1.2.2.2.2.1) 3 ((rho k9).2.2.2.2.1)] ++ RX cI rho k9) H := hP
                have hD : va_D A ([kX6 h0 pg bk fg og lg oS lS s1 s2 s3, kQ cR br 9 (fun k => some ((rho k).1.1)), kX5 bk br (nI r9), kX4 ((rho k9).1.1) ((rho k9).2.1.1) ((rho k9).1.2.1) ((rho k9).1.2.2.2.2.2.1) ((rho k9).1.2.2.2.2.2.2.1) ((rho k9).1.2.2.2.2.2.2.2), kI cI ((rho k9).1.2.2.2.2.2.1) 3 ((rho k9).2.2.2.2.2.1), kI cI ((rho k9).1.2.2.2.2.2.2.1) 64 ((rho k9).2.2.2.2.2.2.1), kI cI ((rho k9).1.2.2.2.2.2.2.2) 64 ((rho k9).2.2.2.2.2.2.2), kX0 ((rho k9).1.2.1) ((rho k9).1.2.2.1) ((rho k9).1.2.2.2.1) ((rho k9).1.2.2.2.2.1) ((rho k9).2.1.2.1) (nI v9), kI cI ((rho k9).1.2.2.1) 3 ((rho k9).2.2.1), kI cI ((rho k9).1.2.2.2.1) 3 ((rho k9).2.2.2.1), kI cI ((rho k9).1.2.2.2.2.1) 3 ((rho k9).2.2.2.2.1)] ++ RX cI rho k9) := hD
                rw [← ev9] at hP hD
                have hP : va_P D vwCl ([kX6 h0 pg bk fg og lg oS lS s1 s2 s3, kQ cR br 9 (fun k => some ((rho k).1.1)), kX5 bk br (nI r9), kX4 ((rho k9).1.1) ((rho k9).2.1.1) ((rho k9).1.2.1) ((rho k9).1.2.2.2.2.2.1) ((rho k9).1.2.2.2.2.2.2.1) ((rho k9).1.2.2.2.2.2.2.2), kI cI ((rho k9).1.2.2.2.2.2.1) 3 ((rho k9).2.2.2.2.2.1), kI cI ((rho k9).1.2.2.2.2.2.2.1) 64 ((rho k9).2.2.2.2.2.2.1), kI cI ((rho k9).1.2.2.2.2.2.2.2) 64 ((rho k9).2.2.2.2.2.2.2), kX0 ((rho k9).1.2.1) ((rho k9).1.2.2.1) ((rho k9).1.2.2.2.1) ((rho k9).1.2.2.2.2.1) ((rho k9).2.1.2.1) ((rho k9).2.1.2.2), kI cI ((rho k9).1.2.2.1) 3 ((rho k9).2.2.1), kI cI ((rho k9).1.2.2.2.1) 3 ((rho k9).2.2.2.1), kI cI ((rho k9).1.2.2.2.2.1) 3 ((rho k9).2.2.2.2.1)] ++ RX cI rho k9) H := hP
                have hD : va_D A ([kX6 h0 pg bk fg og lg oS lS s1 s2 s3, kQ cR br 9 (fun k => some ((rho k).1.1)), kX5 bk br (nI r9), kX4 ((rho k9).1.1) ((rho k9).2.1.1) ((rho k9).1.2.1) ((rho k9).1.2.2.2.2.2.1) ((rho k9).1.2.2.2.2.2.2.1) ((rho k9).1.2.2.2.2.2.2.2), kI cI ((rho k9).1.2.2.2.2.2.1) 3 ((rho k9).2.2.2.2.2.1), kI cI ((rho k9).1.2.2.2.2.2.2.1) 64 ((rho k9).2.2.2.2.2.2.1), kI cI ((rho k9).1.2.2.2.2.2.2.2) 64 ((rho k9).2.2.2.2.2.2.2), kX0 ((rho k9).1.2.1) ((rho k9).1.2.2.1) ((rho k9).1.2.2.2.1) ((rho k9).1.2.2.2.2.1) ((rho k9).2.1.2.1) ((rho k9).2.1.2.2), kI cI ((rho k9).1.2.2.1) 3 ((rho k9).2.2.1), kI cI ((rho k9).1.2.2.2.1) 3 ((rho k9).2.2.2.1), kI cI ((rho k9).1.2.2.2.2.1) 3 ((rho k9).2.2.2.2.1)] ++ RX cI rho k9) := hD
                have hPD : PD D A ([kX6 h0 pg bk fg og lg oS lS s1 s2 s3, kQ cR br 9 (fun k => some ((rho k).1.1)), kX5 bk br (nI r9), kX4 ((rho k9).1.1) ((rho k9).2.1.1) ((rho k9).1.2.1) ((rho k9).1.2.2.2.2.2.1) ((rho k9).1.2.2.2.2.2.2.1) ((rho k9).1.2.2.2.2.2.2.2), kX0 ((rho k9).1.2.1) ((rho k9).1.2.2.1) ((rho k9).1.2.2.2.1) ((rho k9).1.2.2.2.2.1) ((rho k9).2.1.2.1) ((rho k9).2.1.2.2), kI cI ((rho k9).1.2.2.1) 3 ((rho k9).2.2.1), kI cI ((rho k9).1.2.2.2.1) 3 ((rho k9).2.2.2.1), kI cI ((rho k9).1.2.2.2.2.1) 3 ((rho k9).2.2.2.2.1), kI cI ((rho k9).1.2.2.2.2.2.1) 3 ((rho k9).2.2.2.2.2.1), kI cI ((rho k9).1.2.2.2.2.2.2.1) 64 ((rho k9).2.2.2.2.2.2.1), kI cI ((rho k9).1.2.2.2.2.2.2.2) 64 ((rho k9).2.2.2.2.2.2.2)] ++ RX cI rho k9) H := (PD.perm ⟨hP, hD⟩ (permB pm_47)).left
                obtain ⟨hP, hD⟩ := unfocus0 (E := [kX6 h0 pg bk fg og lg oS lS s1 s2 s3, kQ cR br 9 (fun k => some ((rho k).1.1)), kX5 bk br (nI r9)]) k9 (by omega) hPD.1 hPD.2
                have hP : va_P D vwCl ([kX6 h0 pg bk fg og lg oS lS s1 s2 s3, kQ cR br 9 (fun k => some ((rho k).1.1)), kX5 bk br (nI r9)] ++ RB cI rho) H := hP
                have hD : va_D A ([kX6 h0 pg bk fg og lg oS lS s1 s2 s3, kQ cR br 9 (fun k => some ((rho k).1.1)), kX5 bk br (nI r9)] ++ RB cI rho) := hD
                have hPD : PD D A ([kX6 h0 pg bk fg og lg oS lS s1 s2 s3, kX5 bk br (nI r9), kQ cR br 9 (fun k => some ((rho k).1.1))] ++ RB cI rho) H := (PD.perm ⟨hP, hD⟩ (permB pm_42)).left
                exact hret _ _ _ _ _ _ (((100 * (((rho k9).2.2.1) j9)) + (10 * (((rho k9).2.2.2.1) j9))) + (((rho k9).2.2.2.2.1) j9)) () dX6_of_105 rfl hS (Nat.le_of_ble_eq_true rfl) (Nat.le_of_ble_eq_true rfl) (Or.inr ⟨k9, hk9, ek9, Or.inr (Or.inr (Or.inr (Or.inr ⟨c_9, c_10, e9, ⟨he3, ee9⟩, Or.inr ⟨j9, hj9, ej9, rfl⟩⟩)))⟩) hPD.1 hPD.2
            · skip
              refine lv_sipush (v := -1002) hx hb dX6_of_72 (by decide) ?_
              rw [← ee9] at hP hD
              have hP : va_P D vwCl ([kX6 h0 pg bk fg og lg oS lS s1 s2 s3, kQ cR br 9 (fun k => some ((rho k).1.1)), kX5 bk br (nI r9), kX4 ((rho k9).1.1) ((rho k9).2.1.1) ((rho k9).1.2.1) ((rho k9).1.2.2.2.2.2.1) ((rho k9).1.2.2.2.2.2.2.1) ((rho k9).1.2.2.2.2.2.2.2), kX0 ((rho k9).1.2.1) ((rho k9).1.2.2.1) ((rho k9).1.2.2.2.1) ((rho k9).1.2.2.2.2.1) ((rho k9).2.1.2.1) (nI v9), kI cI ((rho k9).1.2.2.1) 3 ((rho k9).2.2.1), kI cI ((rho k9).1.2.2.2.1) 3 ((rho k9).2.2.2.1), kI cI ((rho k9).1.2.2.2.2.1) 3 ((rho k9).2.2.2.2.1), kI cI ((rho k9).1.2.2.2.2.2.1) 3 ((rho k9).2.2.2.2.2.1), kI cI ((rho k9).1.2.2.2.2.2.2.1) 64 ((rho k9).2.2.2.2.2.2.1), kI cI ((rho k9).1.2.2.2.2.2.2.2) 64 ((rho k9).2.2.2.2.2.2.2)] ++ RX cI rho k9) H := hP
              have hD : va_D A ([kX6 h0 pg bk fg og lg oS lS s1 s2 s3, kQ cR br 9 (fun k => some ((rho k).1.1)), kX5 bk br (nI r9), kX4 ((rho k9).1.1) ((rho k9).2.1.1) ((rho k9).1.2.1) ((rho k9).1.2.2.2.2.2.1) ((rho k9).1.2.2.2.2.2.2.1) ((rho k9).1.2.2.2.2.2.2.2), kX0 ((rho k9).1.2.1) ((rho k9).1.2.2.1) ((rho k9).1.2.2.2.1) ((rho k9).1.2.2.2.2.1) ((rho k9).2.1.2.1) (nI v9), kI cI ((rho k9).1.2.2.1) 3 ((rho k9).2.2.1), kI cI ((rho k9).1.2.2.2.1) 3 ((rho k9).2.2.2.1), kI cI ((rho k9).1.2.2.2.2.1) 3 ((rho k9).2.2.2.2.1), kI cI ((rho k9).1.2.2.2.2.2.1) 3 ((rho k9).2.2.2.2.2.1), kI cI ((rho k9).1.2.2.2.2.2.2.1) 64 ((rho k9).2.2.2.2.2.2.1), kI cI ((rho k9).1.2.2.2.2.2.2.2) 64 ((rho k9).2.2.2.2.2.2.2)] ++ RX cI rho k9) := hD
              rw [← ev9] at hP hD
              have hP : va_P D vwCl ([kX6 h0 pg bk fg og lg oS lS s1 s2 s3, kQ cR br 9 (fun k => some ((rho k).1.1)), kX5 bk br (nI r9), kX4 ((rho k9).1.1) ((rho k9).2.1.1) ((rho k9).1.2.1) ((rho k9).1.2.2.2.2.2.1) ((rho k9).1.2.2.2.2.2.2.1) ((rho k9).1.2.2.2.2.2.2.2), kX0 ((rho k9).1.2.1) ((rho k9).1.2.2.1) ((rho k9).1.2.2.2.1) ((rho k9).1.2.2.2.2.1) ((rho k9).2.1.2.1) ((rho k9).2.1.2.2), kI cI ((rho k9).1.2.2.1) 3 ((rho k9).2.2.1), kI cI ((rho k9).1.2.2.2.1) 3 ((rho k9).2.2.2.1), kI cI ((rho k9).1.2.2.2.2.1) 3 ((rho k9).2.2.2.2.1), kI cI ((rho k9).1.2.2.2.2.2.1) 3 ((rho k9).2.2.2.2.2.1), kI cI ((rho k9).1.2.2.2.2.2.2.1) 64 ((rho k9).2.2.2.2.2.2.1), kI cI ((rho k9).1.2.2.2.2.2.2.2) 64 ((rho k9).2.2.2.2.2.2.2)] ++ RX cI rho k9) H := hP
              have hD : va_D A ([kX6 h0 pg bk fg og lg oS lS s1 s2 s3, kQ cR br 9 (fun k => some ((rho k).1.1)), kX5 bk br (nI r9), kX4 ((rho k9).1.1) ((rho k9).2.1.1) ((rho k9).1.2.1) ((rho k9).1.2.2.2.2.2.1) ((rho k9).1.2.2.2.2.2.2.1) ((rho k9).1.2.2.2.2.2.2.2), kX0 ((rho k9).1.2.1) ((rho k9).1.2.2.1) ((rho k9).1.2.2.2.1) ((rho k9).1.2.2.2.2.1) ((rho k9).2.1.2.1) ((rho k9).2.1.2.2), kI cI ((rho k9).1.2.2.1) 3 ((rho k9).2.2.1), kI cI ((rho k9).1.2.2.2.1) 3 ((rho k9).2.2.2.1), kI cI ((rho k9).1.2.2.2.2.1) 3 ((rho k9).2.2.2.2.1), kI cI ((rho k9).1.2.2.2.2.2.1) 3 ((rho k9).2.2.2.2.2.1), kI cI ((rho k9).1.2.2.2.2.2.2.1) 64 ((rho k9).2.2.2.2.2.2.1), kI cI ((rho k9).1.2.2.2.2.2.2.2) 64 ((rho k9).2.2.2.2.2.2.2)] ++ RX cI rho k9) := hD
              have hPD : PD D A ([kX6 h0 pg bk fg og lg oS lS s1 s2 s3, kQ cR br 9 (fun k => some ((rho k).1.1)), kX5 bk br (nI r9), kX4 ((rho k9).1.1) ((rho k9).2.1.1) ((rho k9).1.2.1) ((rho k9).1.2.2.2.2.2.1) ((rho k9).1.2.2.2.2.2.2.1) ((rho k9).1.2.2.2.2.2.2.2), kX0 ((rho k9).1.2.1) ((rho k9).1.2.2.1) ((rho k9).1.2.2.2.1) ((rho k9).1.2.2.2.2.1) ((rho k9).2.1.2.1) ((rho k9).2.1.2.2), kI cI ((rho k9).1.2.2.1) 3 ((rho k9).2.2.1), kI cI ((rho k9).1.2.2.2.1) 3 ((rho k9).2.2.2.1), kI cI ((rho k9).1.2.2.2.2.1) 3 ((rho k9).2.2.2.2.1), kI cI ((rho k9).1.2.2.2.2.2.1) 3 ((rho k9).2.2.2.2.2.1), kI cI ((rho k9).1.2.2.2.2.2.2.1) 64 ((rho k9).2.2.2.2.2.2.1), kI cI ((rho k9).1.2.2.2.2.2.2.2) 64 ((rho k9).2.2.2.2.2.2.2)] ++ RX cI rho k9) H := (PD.perm ⟨hP, hD⟩ (permB pm_43)).left
              obtain ⟨hP, hD⟩ := unfocus0 (E := [kX6 h0 pg bk fg og lg oS lS s1 s2 s3, kQ cR br 9 (fun k => some ((rho k).1.1)), kX5 bk br (nI r9)]) k9 (by omega) hPD.1 hPD.2
              have hP : va_P D vwCl ([kX6 h0 pg bk fg og lg oS lS s1 s2 s3, kQ cR br 9 (fun k => some ((rho k).1.1)), kX5 bk br (nI r9)] ++ RB cI rho) H := hP
              have hD : va_D A ([kX6 h0 pg bk fg og lg oS lS s1 s2 s3, kQ cR br 9 (fun k => some ((rho k).1.1)), kX5 bk br (nI r9)] ++ RB cI rho) := hD
              have hPD : PD D A ([kX6 h0 pg bk fg og lg oS lS s1 s2 s3, kX5 bk br (nI r9), kQ cR br 9 (fun k => some ((rho k).1.1))] ++ RB cI rho) H := (PD.perm ⟨hP, hD⟩ (permB pm_42)).left
              exact hret _ _ _ _ _ _ (-1002) () dX6_of_75 rfl hS (Nat.le_of_ble_eq_true rfl) (Nat.le_of_ble_eq_true rfl) (Or.inr ⟨k9, hk9, ek9, Or.inr (Or.inr (Or.inr (Or.inl ⟨⟨c_6, c_7, c_8, Or.inr c_10⟩, rfl⟩)))⟩) hPD.1 hPD.2
        · skip
          refine lv_aload_n hx hb dX6_of_52 rfl (lv_at hl 0 rfl) ?_
          refine va_get (D := D) (ci := 4) (v := .ref ((rho k9).1.2.1)) (C := RX4) (T := TX4) (N := 5) hx hb hts iT_X4 hown hK1 hP 3 rfl rfl 1 (by decide) (hts _ t_85) (fun _ h9 => h9) rfl dX6_of_53 ?_
          refine va_get (D := D) (ci := 0) (v := .int (nI v9)) (C := RX0) (T := TX0) (N := 5) hx hb hts iT_X0 hown hK1 hP 4 rfl rfl 4 (by decide) (hts _ t_67) (fun _ h9 => h9) rfl dX6_of_56 ?_
          rw [← ee9] at hP hD
          have hP : va_P D vwCl ([kX6 h0 pg bk fg og lg oS lS s1 s2 s3, kQ cR br 9 (fun k => some ((rho k).1.1)), kX5 bk br (nI r9), kX4 ((rho k9).1.1) ((rho k9).2.1.1) ((rho k9).1.2.1) ((rho k9).1.2.2.2.2.2.1) ((rho k9).1.2.2.2.2.2.2.1) ((rho k9).1.2.2.2.2.2.2.2), kX0 ((rho k9).1.2.1) ((rho k9).1.2.2.1) ((rho k9).1.2.2.2.1) ((rho k9).1.2.2.2.2.1) ((rho k9).2.1.2.1) (nI v9), kI cI ((rho k9).1.2.2.1) 3 ((rho k9).2.2.1), kI cI ((rho k9).1.2.2.2.1) 3 ((rho k9).2.2.2.1), kI cI ((rho k9).1.2.2.2.2.1) 3 ((rho k9).2.2.2.2.1), kI cI ((rho k9).1.2.2.2.2.2.1) 3 ((rho k9).2.2.2.2.2.1), kI cI ((rho k9).1.2.2.2.2.2.2.1) 64 ((rho k9).2.2.2.2.2.2.1), kI cI ((rho k9).1.2.2.2.2.2.2.2) 64 ((rho k9).2.2.2.2.2.2.2)] ++ RX cI rho k9) H := hP
          have hD : va_D A ([kX6 h0 pg bk fg og lg oS lS s1 s2 s3, kQ cR br 9 (fun k => some ((rho k).1.1)), kX5 bk br (nI r9), kX4 ((rho k9).1.1) ((rho k9).2.1.1) ((rho k9).1.2.1) ((rho k9).1.2.2.2.2.2.1) ((rho k9).1.2.2.2.2.2.2.1) ((rho k9).1.2.2.2.2.2.2.2), kX0 ((rho k9).1.2.1) ((rho k9).1.2.2.1) ((rho k9).1.2.2.2.1) ((rho k9).1.2.2.2.2.1) ((rho k9).2.1.2.1) (nI v9), kI cI ((rho k9).1.2.2.1) 3 ((rho k9).2.2.1), kI cI ((rho k9).1.2.2.2.1) 3 ((rho k9).2.2.2.1), kI cI ((rho k9).1.2.2.2.2.1) 3 ((rho k9).2.2.2.2.1), kI cI ((rho k9).1.2.2.2.2.2.1) 3 ((rho k9).2.2.2.2.2.1), kI cI ((rho k9).1.2.2.2.2.2.2.1) 64 ((rho k9).2.2.2.2.2.2.1), kI cI ((rho k9).1.2.2.2.2.2.2.2) 64 ((rho k9).2.2.2.2.2.2.2)] ++ RX cI rho k9) := hD
          rw [← ev9] at hP hD
          have hP : va_P D vwCl ([kX6 h0 pg bk fg og lg oS lS s1 s2 s3, kQ cR br 9 (fun k => some ((rho k).1.1)), kX5 bk br (nI r9), kX4 ((rho k9).1.1) ((rho k9).2.1.1) ((rho k9).1.2.1) ((rho k9).1.2.2.2.2.2.1) ((rho k9).1.2.2.2.2.2.2.1) ((rho k9).1.2.2.2.2.2.2.2), kX0 ((rho k9).1.2.1) ((rho k9).1.2.2.1) ((rho k9).1.2.2.2.1) ((rho k9).1.2.2.2.2.1) ((rho k9).2.1.2.1) ((rho k9).2.1.2.2), kI cI ((rho k9).1.2.2.1) 3 ((rho k9).2.2.1), kI cI ((rho k9).1.2.2.2.1) 3 ((rho k9).2.2.2.1), kI cI ((rho k9).1.2.2.2.2.1) 3 ((rho k9).2.2.2.2.1), kI cI ((rho k9).1.2.2.2.2.2.1) 3 ((rho k9).2.2.2.2.2.1), kI cI ((rho k9).1.2.2.2.2.2.2.1) 64 ((rho k9).2.2.2.2.2.2.1), kI cI ((rho k9).1.2.2.2.2.2.2.2) 64 ((rho k9).2.2.2.2.2.2.2)] ++ RX cI rho k9) H := hP
          have hD : va_D A ([kX6 h0 pg bk fg og lg oS lS s1 s2 s3, kQ cR br 9 (fun k => some ((rho k).1.1)), kX5 bk br (nI r9), kX4 ((rho k9).1.1) ((rho k9).2.1.1) ((rho k9).1.2.1) ((rho k9).1.2.2.2.2.2.1) ((rho k9).1.2.2.2.2.2.2.1) ((rho k9).1.2.2.2.2.2.2.2), kX0 ((rho k9).1.2.1) ((rho k9).1.2.2.1) ((rho k9).1.2.2.2.1) ((rho k9).1.2.2.2.2.1) ((rho k9).2.1.2.1) ((rho k9).2.1.2.2), kI cI ((rho k9).1.2.2.1) 3 ((rho k9).2.2.1), kI cI ((rho k9).1.2.2.2.1) 3 ((rho k9).2.2.2.1), kI cI ((rho k9).1.2.2.2.2.1) 3 ((rho k9).2.2.2.2.1), kI cI ((rho k9).1.2.2.2.2.2.1) 3 ((rho k9).2.2.2.2.2.1), kI cI ((rho k9).1.2.2.2.2.2.2.1) 64 ((rho k9).2.2.2.2.2.2.1), kI cI ((rho k9).1.2.2.2.2.2.2.2) 64 ((rho k9).2.2.2.2.2.2.2)] ++ RX cI rho k9) := hD
          have hPD : PD D A ([kX6 h0 pg bk fg og lg oS lS s1 s2 s3, kQ cR br 9 (fun k => some ((rho k).1.1)), kX5 bk br (nI r9), kX4 ((rho k9).1.1) ((rho k9).2.1.1) ((rho k9).1.2.1) ((rho k9).1.2.2.2.2.2.1) ((rho k9).1.2.2.2.2.2.2.1) ((rho k9).1.2.2.2.2.2.2.2), kX0 ((rho k9).1.2.1) ((rho k9).1.2.2.1) ((rho k9).1.2.2.2.1) ((rho k9).1.2.2.2.2.1) ((rho k9).2.1.2.1) ((rho k9).2.1.2.2), kI cI ((rho k9).1.2.2.1) 3 ((rho k9).2.2.1), kI cI ((rho k9).1.2.2.2.1) 3 ((rho k9).2.2.2.1), kI cI ((rho k9).1.2.2.2.2.1) 3 ((rho k9).2.2.2.2.1), kI cI ((rho k9).1.2.2.2.2.2.1) 3 ((rho k9).2.2.2.2.2.1), kI cI ((rho k9).1.2.2.2.2.2.2.1) 64 ((rho k9).2.2.2.2.2.2.1), kI cI ((rho k9).1.2.2.2.2.2.2.2) 64 ((rho k9).2.2.2.2.2.2.2)] ++ RX cI rho k9) H := (PD.perm ⟨hP, hD⟩ (permB pm_43)).left
          obtain ⟨hP, hD⟩ := unfocus0 (E := [kX6 h0 pg bk fg og lg oS lS s1 s2 s3, kQ cR br 9 (fun k => some ((rho k).1.1)), kX5 bk br (nI r9)]) k9 (by omega) hPD.1 hPD.2
          have hP : va_P D vwCl ([kX6 h0 pg bk fg og lg oS lS s1 s2 s3, kQ cR br 9 (fun k => some ((rho k).1.1)), kX5 bk br (nI r9)] ++ RB cI rho) H := hP
          have hD : va_D A ([kX6 h0 pg bk fg og lg oS lS s1 s2 s3, kQ cR br 9 (fun k => some ((rho k).1.1)), kX5 bk br (nI r9)] ++ RB cI rho) := hD
          have hPD : PD D A ([kX6 h0 pg bk fg og lg oS lS s1 s2 s3, kX5 bk br (nI r9), kQ cR br 9 (fun k => some ((rho k).1.1))] ++ RB cI rho) H := (PD.perm ⟨hP, hD⟩ (permB pm_42)).left
          exact hret _ _ _ _ _ _ (nI v9) () dX6_of_59 rfl hS (Nat.le_of_ble_eq_true rfl) (Nat.le_of_ble_eq_true rfl) (Or.inr ⟨k9, hk9, ek9, Or.inr (Or.inr (Or.inl ⟨c_8, ev9.symm⟩))⟩) hPD.1 hPD.2
      · skip
        refine lv_aload_n hx hb dX6_of_39 rfl (lv_at hl 0 rfl) ?_
        refine va_get (D := D) (ci := 4) (v := .ref ((rho k9).1.2.1)) (C := RX4) (T := TX4) (N := 5) hx hb hts iT_X4 hown hK1 hP 3 rfl rfl 1 (by decide) (hts _ t_85) (fun _ h9 => h9) rfl dX6_of_40 ?_
        refine va_get (D := D) (ci := 0) (v := .int (nI e9)) (C := RX0) (T := TX0) (N := 5) hx hb hts iT_X0 hown hK1 hP 4 rfl rfl 3 (by decide) (hts _ t_64) (fun _ h9 => h9) rfl dX6_of_43 ?_
        rw [← ee9] at hP hD
        have hP : va_P D vwCl ([kX6 h0 pg bk fg og lg oS lS s1 s2 s3, kQ cR br 9 (fun k => some ((rho k).1.1)), kX5 bk br (nI r9), kX4 ((rho k9).1.1) ((rho k9).2.1.1) ((rho k9).1.2.1) ((rho k9).1.2.2.2.2.2.1) ((rho k9).1.2.2.2.2.2.2.1) ((rho k9).1.2.2.2.2.2.2.2), kX0 ((rho k9).1.2.1) ((rho k9).1.2.2.1) ((rho k9).1.2.2.2.1) ((rho k9).1.2.2.2.2.1) ((rho k9).2.1.2.1) (nI v9), kI cI ((rho k9).1.2.2.1) 3 ((rho k9).2.2.1), kI cI ((rho k9).1.2.2.2.1) 3 ((rho k9).2.2.2.1), kI cI ((rho k9).1.2.2.2.2.1) 3 ((rho k9).2.2.2.2.1), kI cI ((rho k9).1.2.2.2.2.2.1) 3 ((rho k9).2.2.2.2.2.1), kI cI ((rho k9).1.2.2.2.2.2.2.1) 64 ((rho k9).2.2.2.2.2.2.1), kI cI ((rho k9).1.2.2.2.2.2.2.2) 64 ((rho k9).2.2.2.2.2.2.2)] ++ RX cI rho k9) H := hP
        have hD : va_D A ([kX6 h0 pg bk fg og lg oS lS s1 s2 s3, kQ cR br 9 (fun k => some ((rho k).1.1)), kX5 bk br (nI r9), kX4 ((rho k9).1.1) ((rho k9).2.1.1) ((rho k9).1.2.1) ((rho k9).1.2.2.2.2.2.1) ((rho k9).1.2.2.2.2.2.2.1) ((rho k9).1.2.2.2.2.2.2.2), kX0 ((rho k9).1.2.1) ((rho k9).1.2.2.1) ((rho k9).1.2.2.2.1) ((rho k9).1.2.2.2.2.1) ((rho k9).2.1.2.1) (nI v9), kI cI ((rho k9).1.2.2.1) 3 ((rho k9).2.2.1), kI cI ((rho k9).1.2.2.2.1) 3 ((rho k9).2.2.2.1), kI cI ((rho k9).1.2.2.2.2.1) 3 ((rho k9).2.2.2.2.1), kI cI ((rho k9).1.2.2.2.2.2.1) 3 ((rho k9).2.2.2.2.2.1), kI cI ((rho k9).1.2.2.2.2.2.2.1) 64 ((rho k9).2.2.2.2.2.2.1), kI cI ((rho k9).1.2.2.2.2.2.2.2) 64 ((rho k9).2.2.2.2.2.2.2)] ++ RX cI rho k9) := hD
        rw [← ev9] at hP hD
        have hP : va_P D vwCl ([kX6 h0 pg bk fg og lg oS lS s1 s2 s3, kQ cR br 9 (fun k => some ((rho k).1.1)), kX5 bk br (nI r9), kX4 ((rho k9).1.1) ((rho k9).2.1.1) ((rho k9).1.2.1) ((rho k9).1.2.2.2.2.2.1) ((rho k9).1.2.2.2.2.2.2.1) ((rho k9).1.2.2.2.2.2.2.2), kX0 ((rho k9).1.2.1) ((rho k9).1.2.2.1) ((rho k9).1.2.2.2.1) ((rho k9).1.2.2.2.2.1) ((rho k9).2.1.2.1) ((rho k9).2.1.2.2), kI cI ((rho k9).1.2.2.1) 3 ((rho k9).2.2.1), kI cI ((rho k9).1.2.2.2.1) 3 ((rho k9).2.2.2.1), kI cI ((rho k9).1.2.2.2.2.1) 3 ((rho k9).2.2.2.2.1), kI cI ((rho k9).1.2.2.2.2.2.1) 3 ((rho k9).2.2.2.2.2.1), kI cI ((rho k9).1.2.2.2.2.2.2.1) 64 ((rho k9).2.2.2.2.2.2.1), kI cI ((rho k9).1.2.2.2.2.2.2.2) 64 ((rho k9).2.2.2.2.2.2.2)] ++ RX cI rho k9) H := hP
        have hD : va_D A ([kX6 h0 pg bk fg og lg oS lS s1 s2 s3, kQ cR br 9 (fun k => some ((rho k).1.1)), kX5 bk br (nI r9), kX4 ((rho k9).1.1) ((rho k9).2.1.1) ((rho k9).1.2.1) ((rho k9).1.2.2.2.2.2.1) ((rho k9).1.2.2.2.2.2.2.1) ((rho k9).1.2.2.2.2.2.2.2), kX0 ((rho k9).1.2.1) ((rho k9).1.2.2.1) ((rho k9).1.2.2.2.1) ((rho k9).1.2.2.2.2.1) ((rho k9).2.1.2.1) ((rho k9).2.1.2.2), kI cI ((rho k9).1.2.2.1) 3 ((rho k9).2.2.1), kI cI ((rho k9).1.2.2.2.1) 3 ((rho k9).2.2.2.1), kI cI ((rho k9).1.2.2.2.2.1) 3 ((rho k9).2.2.2.2.1), kI cI ((rho k9).1.2.2.2.2.2.1) 3 ((rho k9).2.2.2.2.2.1), kI cI ((rho k9).1.2.2.2.2.2.2.1) 64 ((rho k9).2.2.2.2.2.2.1), kI cI ((rho k9).1.2.2.2.2.2.2.2) 64 ((rho k9).2.2.2.2.2.2.2)] ++ RX cI rho k9) := hD
        have hPD : PD D A ([kX6 h0 pg bk fg og lg oS lS s1 s2 s3, kQ cR br 9 (fun k => some ((rho k).1.1)), kX5 bk br (nI r9), kX4 ((rho k9).1.1) ((rho k9).2.1.1) ((rho k9).1.2.1) ((rho k9).1.2.2.2.2.2.1) ((rho k9).1.2.2.2.2.2.2.1) ((rho k9).1.2.2.2.2.2.2.2), kX0 ((rho k9).1.2.1) ((rho k9).1.2.2.1) ((rho k9).1.2.2.2.1) ((rho k9).1.2.2.2.2.1) ((rho k9).2.1.2.1) ((rho k9).2.1.2.2), kI cI ((rho k9).1.2.2.1) 3 ((rho k9).2.2.1), kI cI ((rho k9).1.2.2.2.1) 3 ((rho k9).2.2.2.1), kI cI ((rho k9).1.2.2.2.2.1) 3 ((rho k9).2.2.2.2.1), kI cI ((rho k9).1.2.2.2.2.2.1) 3 ((rho k9).2.2.2.2.2.1), kI cI ((rho k9).1.2.2.2.2.2.2.1) 64 ((rho k9).2.2.2.2.2.2.1), kI cI ((rho k9).1.2.2.2.2.2.2.2) 64 ((rho k9).2.2.2.2.2.2.2)] ++ RX cI rho k9) H := (PD.perm ⟨hP, hD⟩ (permB pm_43)).left
        obtain ⟨hP, hD⟩ := unfocus0 (E := [kX6 h0 pg bk fg og lg oS lS s1 s2 s3, kQ cR br 9 (fun k => some ((rho k).1.1)), kX5 bk br (nI r9)]) k9 (by omega) hPD.1 hPD.2
        have hP : va_P D vwCl ([kX6 h0 pg bk fg og lg oS lS s1 s2 s3, kQ cR br 9 (fun k => some ((rho k).1.1)), kX5 bk br (nI r9)] ++ RB cI rho) H := hP
        have hD : va_D A ([kX6 h0 pg bk fg og lg oS lS s1 s2 s3, kQ cR br 9 (fun k => some ((rho k).1.1)), kX5 bk br (nI r9)] ++ RB cI rho) := hD
        have hPD : PD D A ([kX6 h0 pg bk fg og lg oS lS s1 s2 s3, kX5 bk br (nI r9), kQ cR br 9 (fun k => some ((rho k).1.1))] ++ RB cI rho) H := (PD.perm ⟨hP, hD⟩ (permB pm_42)).left
        exact hret _ _ _ _ _ _ (nI e9) () dX6_of_46 rfl hS (Nat.le_of_ble_eq_true rfl) (Nat.le_of_ble_eq_true rfl) (Or.inr ⟨k9, hk9, ek9, Or.inr (Or.inl ⟨c_7, ee9.symm⟩)⟩) hPD.1 hPD.2
    · skip
      refine lv_aload_n hx hb dX6_of_29 rfl (lv_at hl 0 rfl) ?_
      refine va_get (D := D) (ci := 4) (v := .int ((rho k9).2.1.1)) (C := RX4) (T := TX4) (N := 5) hx hb hts iT_X4 hown hK1 hP 3 rfl rfl 0 (by decide) (hts _ t_81) (fun _ h9 => h9) rfl dX6_of_30 ?_
      rw [← ee9] at hP hD
      have hP : va_P D vwCl ([kX6 h0 pg bk fg og lg oS lS s1 s2 s3, kQ cR br 9 (fun k => some ((rho k).1.1)), kX5 bk br (nI r9), kX4 ((rho k9).1.1) ((rho k9).2.1.1) ((rho k9).1.2.1) ((rho k9).1.2.2.2.2.2.1) ((rho k9).1.2.2.2.2.2.2.1) ((rho k9).1.2.2.2.2.2.2.2), kX0 ((rho k9).1.2.1) ((rho k9).1.2.2.1) ((rho k9).1.2.2.2.1) ((rho k9).1.2.2.2.2.1) ((rho k9).2.1.2.1) (nI v9), kI cI ((rho k9).1.2.2.1) 3 ((rho k9).2.2.1), kI cI ((rho k9).1.2.2.2.1) 3 ((rho k9).2.2.2.1), kI cI ((rho k9).1.2.2.2.2.1) 3 ((rho k9).2.2.2.2.1), kI cI ((rho k9).1.2.2.2.2.2.1) 3 ((rho k9).2.2.2.2.2.1), kI cI ((rho k9).1.2.2.2.2.2.2.1) 64 ((rho k9).2.2.2.2.2.2.1), kI cI ((rho k9).1.2.2.2.2.2.2.2) 64 ((rho k9).2.2.2.2.2.2.2)] ++ RX cI rho k9) H := hP
      have hD : va_D A ([kX6 h0 pg bk fg og lg oS lS s1 s2 s3, kQ cR br 9 (fun k => some ((rho k).1.1)), kX5 bk br (nI r9), kX4 ((rho k9).1.1) ((rho k9).2.1.1) ((rho k9).1.2.1) ((rho k9).1.2.2.2.2.2.1) ((rho k9).1.2.2.2.2.2.2.1) ((rho k9).1.2.2.2.2.2.2.2), kX0 ((rho k9).1.2.1) ((rho k9).1.2.2.1) ((rho k9).1.2.2.2.1) ((rho k9).1.2.2.2.2.1) ((rho k9).2.1.2.1) (nI v9), kI cI ((rho k9).1.2.2.1) 3 ((rho k9).2.2.1), kI cI ((rho k9).1.2.2.2.1) 3 ((rho k9).2.2.2.1), kI cI ((rho k9).1.2.2.2.2.1) 3 ((rho k9).2.2.2.2.1), kI cI ((rho k9).1.2.2.2.2.2.1) 3 ((rho k9).2.2.2.2.2.1), kI cI ((rho k9).1.2.2.2.2.2.2.1) 64 ((rho k9).2.2.2.2.2.2.1), kI cI ((rho k9).1.2.2.2.2.2.2.2) 64 ((rho k9).2.2.2.2.2.2.2)] ++ RX cI rho k9) := hD
      rw [← ev9] at hP hD
      have hP : va_P D vwCl ([kX6 h0 pg bk fg og lg oS lS s1 s2 s3, kQ cR br 9 (fun k => some ((rho k).1.1)), kX5 bk br (nI r9), kX4 ((rho k9).1.1) ((rho k9).2.1.1) ((rho k9).1.2.1) ((rho k9).1.2.2.2.2.2.1) ((rho k9).1.2.2.2.2.2.2.1) ((rho k9).1.2.2.2.2.2.2.2), kX0 ((rho k9).1.2.1) ((rho k9).1.2.2.1) ((rho k9).1.2.2.2.1) ((rho k9).1.2.2.2.2.1) ((rho k9).2.1.2.1) ((rho k9).2.1.2.2), kI cI ((rho k9).1.2.2.1) 3 ((rho k9).2.2.1), kI cI ((rho k9).1.2.2.2.1) 3 ((rho k9).2.2.2.1), kI cI ((rho k9).1.2.2.2.2.1) 3 ((rho k9).2.2.2.2.1), kI cI ((rho k9).1.2.2.2.2.2.1) 3 ((rho k9).2.2.2.2.2.1), kI cI ((rho k9).1.2.2.2.2.2.2.1) 64 ((rho k9).2.2.2.2.2.2.1), kI cI ((rho k9).1.2.2.2.2.2.2.2) 64 ((rho k9).2.2.2.2.2.2.2)] ++ RX cI rho k9) H := hP
      have hD : va_D A ([kX6 h0 pg bk fg og lg oS lS s1 s2 s3, kQ cR br 9 (fun k => some ((rho k).1.1)), kX5 bk br (nI r9), kX4 ((rho k9).1.1) ((rho k9).2.1.1) ((rho k9).1.2.1) ((rho k9).1.2.2.2.2.2.1) ((rho k9).1.2.2.2.2.2.2.1) ((rho k9).1.2.2.2.2.2.2.2), kX0 ((rho k9).1.2.1) ((rho k9).1.2.2.1) ((rho k9).1.2.2.2.1) ((rho k9).1.2.2.2.2.1) ((rho k9).2.1.2.1) ((rho k9).2.1.2.2), kI cI ((rho k9).1.2.2.1) 3 ((rho k9).2.2.1), kI cI ((rho k9).1.2.2.2.1) 3 ((rho k9).2.2.2.1), kI cI ((rho k9).1.2.2.2.2.1) 3 ((rho k9).2.2.2.2.1), kI cI ((rho k9).1.2.2.2.2.2.1) 3 ((rho k9).2.2.2.2.2.1), kI cI ((rho k9).1.2.2.2.2.2.2.1) 64 ((rho k9).2.2.2.2.2.2.1), kI cI ((rho k9).1.2.2.2.2.2.2.2) 64 ((rho k9).2.2.2.2.2.2.2)] ++ RX cI rho k9) := hD
      have hPD : PD D A ([kX6 h0 pg bk fg og lg oS lS s1 s2 s3, kQ cR br 9 (fun k => some ((rho k).1.1)), kX5 bk br (nI r9), kX4 ((rho k9).1.1) ((rho k9).2.1.1) ((rho k9).1.2.1) ((rho k9).1.2.2.2.2.2.1) ((rho k9).1.2.2.2.2.2.2.1) ((rho k9).1.2.2.2.2.2.2.2), kX0 ((rho k9).1.2.1) ((rho k9).1.2.2.1) ((rho k9).1.2.2.2.1) ((rho k9).1.2.2.2.2.1) ((rho k9).2.1.2.1) ((rho k9).2.1.2.2), kI cI ((rho k9).1.2.2.1) 3 ((rho k9).2.2.1), kI cI ((rho k9).1.2.2.2.1) 3 ((rho k9).2.2.2.1), kI cI ((rho k9).1.2.2.2.2.1) 3 ((rho k9).2.2.2.2.1), kI cI ((rho k9).1.2.2.2.2.2.1) 3 ((rho k9).2.2.2.2.2.1), kI cI ((rho k9).1.2.2.2.2.2.2.1) 64 ((rho k9).2.2.2.2.2.2.1), kI cI ((rho k9).1.2.2.2.2.2.2.2) 64 ((rho k9).2.2.2.2.2.2.2)] ++ RX cI rho k9) H := (PD.perm ⟨hP, hD⟩ (permB pm_43)).left
      obtain ⟨hP, hD⟩ := unfocus0 (E := [kX6 h0 pg bk fg og lg oS lS s1 s2 s3, kQ cR br 9 (fun k => some ((rho k).1.1)), kX5 bk br (nI r9)]) k9 (by omega) hPD.1 hPD.2
      have hP : va_P D vwCl ([kX6 h0 pg bk fg og lg oS lS s1 s2 s3, kQ cR br 9 (fun k => some ((rho k).1.1)), kX5 bk br (nI r9)] ++ RB cI rho) H := hP
      have hD : va_D A ([kX6 h0 pg bk fg og lg oS lS s1 s2 s3, kQ cR br 9 (fun k => some ((rho k).1.1)), kX5 bk br (nI r9)] ++ RB cI rho) := hD
      have hPD : PD D A ([kX6 h0 pg bk fg og lg oS lS s1 s2 s3, kX5 bk br (nI r9), kQ cR br 9 (fun k => some ((rho k).1.1))] ++ RB cI rho) H := (PD.perm ⟨hP, hD⟩ (permB pm_42)).left
      exact hret _ _ _ _ _ _ ((rho k9).2.1.1) () dX6_of_33 rfl hS (Nat.le_of_ble_eq_true rfl) (Nat.le_of_ble_eq_true rfl) (Or.inr ⟨k9, hk9, ek9, Or.inl ⟨c_6, rfl⟩⟩) hPD.1 hPD.2
  · skip
    refine lv_sipush (v := -1001) hx hb dX6_of_11 (by decide) ?_
    have hPD : PD D A ([kX6 h0 pg bk fg og lg oS lS s1 s2 s3, kX5 bk br (nI r9), kQ cR br 9 (fun k => some ((rho k).1.1))] ++ RB cI rho) H := (PD.perm ⟨hP, hD⟩ (permB pm_42)).left
    exact hret _ _ _ _ _ _ (-1001) () dX6_of_14 rfl hS (Nat.le_of_ble_eq_true rfl) (Nat.le_of_ble_eq_true rfl) (Or.inl ⟨c_5, rfl⟩) hPD.1 hPD.2
set_option maxHeartbeats 4000000 in
set_option maxRecDepth 100000 in
theorem c_X6_step (sz : Nat) (h0 : Nat) (pg : Nat) (bk : Nat) (fg : Nat) (og : Nat) (lg : Nat) (oS : Int32) (lS : Int32) (s1 : Int32) (s2 : Int32) (s3 : Int32) (br : Nat) (r9 : Nat) (rho : Nat → RT) (f1 : Nat) (f2 : Nat) (f3 : Nat) (n9 : Nat) (v : Nat) (g1 : Nat → Int32) (g2 : Nat → Int32) (g3 : Nat → Int32) (p0 : Int32) (p1 : Int32) (hr : r9 ≤ 9) (hB : BI rho r9) (hf : FgI n9 v) : CTi l D cI cJ cZ cR yX6_step cX6_step 4 (some .int) 2 50 0 0 sz [.ref h0, .int p0, .int p1] ([kX6 h0 pg bk fg og lg oS lS s1 s2 s3, kX5 bk br (nI r9), kQ cR br 9 (fun k => some ((rho k).1.1)), kX0 fg f1 f2 f3 (nI n9) (nI v), kI cI f1 12 g1, kI cI f2 12 g2, kI cI f3 12 g3] ++ RB cI rho) (fun (r : Int32) (u : Int32 × Int32 × Int32 × Nat × Nat × (Nat → Int32) × (Nat → Int32) × (Nat → Int32)) => (FgI u.2.2.2.1 u.2.2.2.2.1) ∧ (CStP p0 p1 r9 n9 v g1 g2 g3 rho s1 s2 r u.2.2.2.1 u.2.2.2.2.1 u.2.2.2.2.2.1 u.2.2.2.2.2.2.1 u.2.2.2.2.2.2.2 u.2.1 u.2.2.1) ∧ (u.1 = 0 ∨ (u.1 = oS ∧ u.2.2.2.1 = n9 ∧ u.2.2.2.2.1 = v ∧ u.2.2.2.2.2.1 = g1 ∧ u.2.2.2.2.2.2.1 = g2 ∧ u.2.2.2.2.2.2.2 = g3))) (fun (u : Int32 × Int32 × Int32 × Nat × Nat × (Nat → Int32) × (Nat → Int32) × (Nat → Int32)) => ([kX6 h0 pg bk fg og lg u.1 lS u.2.1 u.2.2.1 s3, kX5 bk br (nI r9), kQ cR br 9 (fun k => some ((rho k).1.1)), kX0 fg f1 f2 f3 (nI u.2.2.2.1) (nI u.2.2.2.2.1), kI cI f1 12 u.2.2.2.2.2.1, kI cI f2 12 u.2.2.2.2.2.2.1, kI cI f3 12 u.2.2.2.2.2.2.2] ++ RB cI rho)) := by
  refine CTi.of (ty := .int) (by decide) (Nat.le_of_ble_eq_true rfl) rfl ?_
  intro p e s m below meth c A Q ls hd hin hK hsz hP hD hA hS hl hret
  obtain ⟨hx, hb, hml, hown, hts⟩ := id hd
  have hK1 := hK.1
  have hown : s.vm.findClass RX6 = some m.cls := hown
  have hl : lv_has ls 4 [(0, .ref h0), (1, .int p0), (2, .int p1)] := hl
  refine lv_aload_n hx hb dX6_step_0 rfl (lv_at hl 0 rfl) ?_
  refine va_get (D := D) (ci := 6) (v := .ref fg) (C := RX6) (T := TX6) (N := 10) hx hb hts iT_X6 hown hK1 hP 0 rfl rfl 2 (by decide) (hts _ t_156) (fun _ h9 => h9) rfl dX6_step_1 ?_
  refine lv_iload_n hx hb dX6_step_4 rfl (lv_at hl 1 rfl) ?_
  have hPD : PD D A ([kX0 fg f1 f2 f3 (nI n9) (nI v)] ++ ([kX6 h0 pg bk fg og lg oS lS s1 s2 s3, kX5 bk br (nI r9), kQ cR br 9 (fun k => some ((rho k).1.1)), kI cI f1 12 g1, kI cI f2 12 g2, kI cI f3 12 g3] ++ RB cI rho)) s.heap := PD.perm ⟨hP, hD⟩ (permA pm_48)
  refine xp_i (wc := [kX0 fg f1 f2 f3 (nI n9) (nI v)]) (wr := ([kX6 h0 pg bk fg og lg oS lS s1 s2 s3, kX5 bk br (nI r9), kQ cR br 9 (fun k => some ((rho k).1.1)), kI cI f1 12 g1, kI cI f2 12 g2, kI cI f3 12 g3] ++ RB cI rho)) (xqV (n := 1) (As := [.int p0]) (rest := []) (ci := 0) (q0 := 0) hd hK hPD.left (c_X0_has l D cI cJ cZ cR _ fg f1 f2 f3 n9 v p0 ) (gV t_332 mV_X0_has) hV_X0_has ⟨(Nat.le_of_ble_eq_true rfl), (Nat.le_of_ble_eq_true rfl)⟩ rfl rfl rfl hl.1 rfl (Nat.le_of_ble_eq_true rfl) dX6_step_5 ⟨(Nat.le_of_ble_eq_true rfl), (Nat.le_of_ble_eq_true rfl)⟩) hPD hS hA (fun r_1 u_2 H locs hw_3 hPD hS => ?_)
  have hw_4 : r_1 = (hs p0 n9) := hw_3
  subst hw_4
  obtain ⟨hP, hD⟩ := hPD.perm permA'
  have hP : va_P D vwCl ([kX6 h0 pg bk fg og lg oS lS s1 s2 s3, kX5 bk br (nI r9), kQ cR br 9 (fun k => some ((rho k).1.1)), kI cI f1 12 g1, kI cI f2 12 g2, kI cI f3 12 g3, kX0 fg f1 f2 f3 (nI n9) (nI v)] ++ RB cI rho) H := hP
  have hD : va_D A ([kX6 h0 pg bk fg og lg oS lS s1 s2 s3, kX5 bk br (nI r9), kQ cR br 9 (fun k => some ((rho k).1.1)), kI cI f1 12 g1, kI cI f2 12 g2, kI cI f3 12 g3, kX0 fg f1 f2 f3 (nI n9) (nI v)] ++ RB cI rho) := hD
  refine lv_if_eq (tgt := 22) hx hb dX6_step_8 (by decide) (fun c_5 => ?_) (fun c_5 => ?_)
  · skip
    refine lv_sipush (v := -1001) hx hb dX6_step_22 (by decide) ?_
    have hPD : PD D A ([kX6 h0 pg bk fg og lg oS lS s1 s2 s3, kX5 bk br (nI r9), kQ cR br 9 (fun k => some ((rho k).1.1)), kX0 fg f1 f2 f3 (nI n9) (nI v), kI cI f1 12 g1, kI cI f2 12 g2, kI cI f3 12 g3] ++ RB cI rho) H := (PD.perm ⟨hP, hD⟩ (permB pm_49)).left
    exact hret _ _ _ _ _ _ (-1001) (oS, s1, s2, n9, v, g1, g2, g3) dX6_step_25 rfl hS (Nat.le_of_ble_eq_true rfl) (Nat.le_of_ble_eq_true rfl) ⟨hf, Or.inl ⟨Or.inl c_5, rfl, rfl, rfl, rfl, rfl, rfl, rfl, rfl⟩, Or.inr ⟨rfl, rfl, rfl, rfl, rfl, rfl⟩⟩ hPD.1 hPD.2
  · skip
    refine lv_aload_n hx hb dX6_step_11 rfl (lv_at hl 0 rfl) ?_
    refine va_get (D := D) (ci := 6) (v := .ref bk) (C := RX6) (T := TX6) (N := 10) hx hb hts iT_X6 hown hK1 hP 0 rfl rfl 1 (by decide) (hts _ t_155) (fun _ h9 => h9) rfl dX6_step_12 ?_
    refine lv_iload_n hx hb dX6_step_15 rfl (lv_at hl 2 rfl) ?_
    have hPD : PD D A ([kX5 bk br (nI r9)] ++ ([kX6 h0 pg bk fg og lg oS lS s1 s2 s3, kQ cR br 9 (fun k => some ((rho k).1.1)), kI cI f1 12 g1, kI cI f2 12 g2, kI cI f3 12 g3, kX0 fg f1 f2 f3 (nI n9) (nI v)] ++ RB cI rho)) H := PD.perm ⟨hP, hD⟩ (permA pm_50)
    refine xp_i (wc := [kX5 bk br (nI r9)]) (wr := ([kX6 h0 pg bk fg og lg oS lS s1 s2 s3, kQ cR br 9 (fun k => some ((rho k).1.1)), kI cI f1 12 g1, kI cI f2 12 g2, kI cI f3 12 g3, kX0 fg f1 f2 f3 (nI n9) (nI v)] ++ RB cI rho)) (xqV (n := 1) (As := [.int p1]) (rest := []) (ci := 5) (q0 := 0) hd hK hPD.left (c_X5_has l D cI cJ cZ cR _ bk br r9 p1 ) (gV t_303 mV_X5_has) hV_X5_has ⟨(Nat.le_of_ble_eq_true rfl), (Nat.le_of_ble_eq_true rfl)⟩ rfl rfl rfl hl.1 rfl (Nat.le_of_ble_eq_true rfl) dX6_step_16 ⟨(Nat.le_of_ble_eq_true rfl), (Nat.le_of_ble_eq_true rfl)⟩) hPD hS hA (fun r_6 u_7 H locs hw_8 hPD hS => ?_)
    have hw_9 : r_6 = (hs p1 r9) := hw_8
    subst hw_9
    obtain ⟨hP, hD⟩ := hPD.perm permA'
    have hP : va_P D vwCl ([kX6 h0 pg bk fg og lg oS lS s1 s2 s3, kQ cR br 9 (fun k => some ((rho k).1.1)), kI cI f1 12 g1, kI cI f2 12 g2, kI cI f3 12 g3, kX0 fg f1 f2 f3 (nI n9) (nI v), kX5 bk br (nI r9)] ++ RB cI rho) H := hP
    have hD : va_D A ([kX6 h0 pg bk fg og lg oS lS s1 s2 s3, kQ cR br 9 (fun k => some ((rho k).1.1)), kI cI f1 12 g1, kI cI f2 12 g2, kI cI f3 12 g3, kX0 fg f1 f2 f3 (nI n9) (nI v), kX5 bk br (nI r9)] ++ RB cI rho) := hD
    refine lv_if_ne (tgt := 26) hx hb dX6_step_19 (by decide) (fun c_10 => ?_) (fun c_10 => ?_)
    · skip
      obtain ⟨j9, hj9, ej9⟩ := hs_y (by have := hf.1; omega) c_5
      obtain ⟨k9, hk9, ek9⟩ := hs_y (by omega) c_10
      obtain ⟨-, ⟨e9, he1, he3, ee9⟩, ⟨v9, hv2, hv5, ev9⟩, -⟩ := hB k9 hk9
      obtain ⟨hf1, hf2, hf3⟩ := hf
      refine lv_aload_n hx hb dX6_step_26 rfl (lv_at hl 0 rfl) ?_
      refine va_get (D := D) (ci := 6) (v := .ref bk) (C := RX6) (T := TX6) (N := 10) hx hb hts iT_X6 hown hK1 hP 0 rfl rfl 1 (by decide) (hts _ t_155) (fun _ h9 => h9) rfl dX6_step_27 ?_
      refine va_get (D := D) (ci := 5) (v := .ref br) (C := RX5) (T := TX5) (N := 2) hx hb hts iT_X5 hown hK1 hP 6 rfl rfl 0 (by decide) (hts _ t_105) (fun _ h9 => h9) rfl dX6_step_30 ?_
      refine lv_iload_n hx hb dX6_step_33 rfl (lv_at hl 2 rfl) ?_
      refine lv_nmi (show _ = (nI k9 : Int32) from ek9) ?_
      refine va_aldq hx hb hK1 hP 1 3 rfl rfl (vp_in_nI (by omega) (by omega)) dX6_step_34 ?_
      refine lv_nmr (show _ = Value.ref (rho k9).1.1 from by rw [nI_clamp (n := k9) (by omega)]; rfl) ?_
      refine lv_astore_n (lv' := [(3, .ref ((rho k9).1.1)), (0, .ref h0), (1, .int p0), (2, .int p1)]) hx hb dX6_step_35 rfl hl (by decide) rfl (fun ls hl => ?_)
      obtain ⟨hP, hD⟩ := focus k9 (by omega) hP hD
      have hP : va_P D vwCl ([kX6 h0 pg bk fg og lg oS lS s1 s2 s3, kQ cR br 9 (fun k => some ((rho k).1.1)), kI cI f1 12 g1, kI cI f2 12 g2, kI cI f3 12 g3, kX0 fg f1 f2 f3 (nI n9) (nI v), kX5 bk br (nI r9), kX4 ((rho k9).1.1) ((rho k9).2.1.1) ((rho k9).1.2.1) ((rho k9).1.2.2.2.2.2.1) ((rho k9).1.2.2.2.2.2.2.1) ((rho k9).1.2.2.2.2.2.2.2), kX0 ((rho k9).1.2.1) ((rho k9).1.2.2.1) ((rho k9).1.2.2.2.1) ((rho k9).1.2.2.2.2.1) ((rho k9).2.1.2.1) ((rho k9).2.1.2.2), kI cI ((rho k9).1.2.2.1) 3 ((rho k9).2.2.1), kI cI ((rho k9).1.2.2.2.1) 3 ((rho k9).2.2.2.1), kI cI ((rho k9).1.2.2.2.2.1) 3 ((rho k9).2.2.2.2.1), kI cI ((rho k9).1.2.2.2.2.2.1) 3 ((rho k9).2.2.2.2.2.1), kI cI ((rho k9).1.2.2.2.2.2.2.1) 64 ((rho k9).2.2.2.2.2.2.1), kI cI ((rho k9).1.2.2.2.2.2.2.2) 64 ((rho k9).2.2.2.2.2.2.2)] ++ RX cI rho k9) H := hP
      have hD : va_D A ([kX6 h0 pg bk fg og lg oS lS s1 s2 s3, kQ cR br 9 (fun k => some ((rho k).1.1)), kI cI f1 12 g1, kI cI f2 12 g2, kI cI f3 12 g3, kX0 fg f1 f2 f3 (nI n9) (nI v), kX5 bk br (nI r9), kX4 ((rho k9).1.1) ((rho k9).2.1.1) ((rho k9).1.2.1) ((rho k9).1.2.2.2.2.2.1) ((rho k9).1.2.2.2.2.2.2.1) ((rho k9).1.2.2.2.2.2.2.2), kX0 ((rho k9).1.2.1) ((rho k9).1.2.2.1) ((rho k9).1.2.2.2.1) ((rho k9).1.2.2.2.2.1) ((rho k9).2.1.2.1) ((rho k9).2.1.2.2), kI cI ((rho k9).1.2.2.1) 3 ((rho k9).2.2.1), kI cI ((rho k9).1.2.2.2.1) 3 ((rho k9).2.2.2.1), kI cI ((rho k9).1.2.2.2.2.1) 3 ((rho k9).2.2.2.2.1), kI cI ((rho k9).1.2.2.2.2.2.1) 3 ((rho k9).2.2.2.2.2.1), kI cI ((rho k9).1.2.2.2.2.2.2.1) 64 ((rho k9).2.2.2.2.2.2.1), kI cI ((rho k9).1.2.2.2.2.2.2.2) 64 ((rho k9).2.2.2.2.2.2.2)] ++ RX cI rho k9) := hD
      rw [ee9] at hP hD
      have hP : va_P D vwCl ([kX6 h0 pg bk fg og lg oS lS s1 s2 s3, kQ cR br 9 (fun k => some ((rho k).1.1)), kI cI f1 12 g1, kI cI f2 12 g2, kI cI f3 12 g3, kX0 fg f1 f2 f3 (nI n9) (nI v), kX5 bk br (nI r9), kX4 ((rho k9).1.1) ((rho k9).2.1.1) ((rho k9).1.2.1) ((rho k9).1.2.2.2.2.2.1) ((rho k9).1.2.2.2.2.2.2.1) ((rho k9).1.2.2.2.2.2.2.2), kX0 ((rho k9).1.2.1) ((rho k9).1.2.2.1) ((rho k9).1.2.2.2.1) ((rho k9).1.2.2.2.2.1) (nI e9) ((rho k9).2.1.2.2), kI cI ((rho k9).1.2.2.1) 3 ((rho k9).2.2.1), kI cI ((rho k9).1.2.2.2.1) 3 ((rho k9).2.2.2.1), kI cI ((rho k9).1.2.2.2.2.1) 3 ((rho k9).2.2.2.2.1), kI cI ((rho k9).1.2.2.2.2.2.1) 3 ((rho k9).2.2.2.2.2.1), kI cI ((rho k9).1.2.2.2.2.2.2.1) 64 ((rho k9).2.2.2.2.2.2.1), kI cI ((rho k9).1.2.2.2.2.2.2.2) 64 ((rho k9).2.2.2.2.2.2.2)] ++ RX cI rho k9) H := hP
      have hD : va_D A ([kX6 h0 pg bk fg og lg oS lS s1 s2 s3, kQ cR br 9 (fun k => some ((rho k).1.1)), kI cI f1 12 g1, kI cI f2 12 g2, kI cI f3 12 g3, kX0 fg f1 f2 f3 (nI n9) (nI v), kX5 bk br (nI r9), kX4 ((rho k9).1.1) ((rho k9).2.1.1) ((rho k9).1.2.1) ((rho k9).1.2.2.2.2.2.1) ((rho k9).1.2.2.2.2.2.2.1) ((rho k9).1.2.2.2.2.2.2.2), kX0 ((rho k9).1.2.1) ((rho k9).1.2.2.1) ((rho k9).1.2.2.2.1) ((rho k9).1.2.2.2.2.1) (nI e9) ((rho k9).2.1.2.2), kI cI ((rho k9).1.2.2.1) 3 ((rho k9).2.2.1), kI cI ((rho k9).1.2.2.2.1) 3 ((rho k9).2.2.2.1), kI cI ((rho k9).1.2.2.2.2.1) 3 ((rho k9).2.2.2.2.1), kI cI ((rho k9).1.2.2.2.2.2.1) 3 ((rho k9).2.2.2.2.2.1), kI cI ((rho k9).1.2.2.2.2.2.2.1) 64 ((rho k9).2.2.2.2.2.2.1), kI cI ((rho k9).1.2.2.2.2.2.2.2) 64 ((rho k9).2.2.2.2.2.2.2)] ++ RX cI rho k9) := hD
      rw [ev9] at hP hD
      have hP : va_P D vwCl ([kX6 h0 pg bk fg og lg oS lS s1 s2 s3, kQ cR br 9 (fun k => some ((rho k).1.1)), kI cI f1 12 g1, kI cI f2 12 g2, kI cI f3 12 g3, kX0 fg f1 f2 f3 (nI n9) (nI v), kX5 bk br (nI r9), kX4 ((rho k9).1.1) ((rho k9).2.1.1) ((rho k9).1.2.1) ((rho k9).1.2.2.2.2.2.1) ((rho k9).1.2.2.2.2.2.2.1) ((rho k9).1.2.2.2.2.2.2.2), kX0 ((rho k9).1.2.1) ((rho k9).1.2.2.1) ((rho k9).1.2.2.2.1) ((rho k9).1.2.2.2.2.1) (nI e9) (nI v9), kI cI ((rho k9).1.2.2.1) 3 ((rho k9).2.2.1), kI cI ((rho k9).1.2.2.2.1) 3 ((rho k9).2.2.2.1), kI cI ((rho k9).1.2.2.2.2.1) 3 ((rho k9).2.2.2.2.1), kI cI ((rho k9).1.2.2.2.2.2.1) 3 ((rho k9).2.2.2.2.2.1), kI cI ((rho k9).1.2.2.2.2.2.2.1) 64 ((rho k9).2.2.2.2.2.2.1), kI cI ((rho k9).1.2.2.2.2.2.2.2) 64 ((rho k9).2.2.2.2.2.2.2)] ++ RX cI rho k9) H := hP
      have hD : va_D A ([kX6 h0 pg bk fg og lg oS lS s1 s2 s3, kQ cR br 9 (fun k => some ((rho k).1.1)), kI cI f1 12 g1, kI cI f2 12 g2, kI cI f3 12 g3, kX0 fg f1 f2 f3 (nI n9) (nI v), kX5 bk br (nI r9), kX4 ((rho k9).1.1) ((rho k9).2.1.1) ((rho k9).1.2.1) ((rho k9).1.2.2.2.2.2.1) ((rho k9).1.2.2.2.2.2.2.1) ((rho k9).1.2.2.2.2.2.2.2), kX0 ((rho k9).1.2.1) ((rho k9).1.2.2.1) ((rho k9).1.2.2.2.1) ((rho k9).1.2.2.2.2.1) (nI e9) (nI v9), kI cI ((rho k9).1.2.2.1) 3 ((rho k9).2.2.1), kI cI ((rho k9).1.2.2.2.1) 3 ((rho k9).2.2.2.1), kI cI ((rho k9).1.2.2.2.2.1) 3 ((rho k9).2.2.2.2.1), kI cI ((rho k9).1.2.2.2.2.2.1) 3 ((rho k9).2.2.2.2.2.1), kI cI ((rho k9).1.2.2.2.2.2.2.1) 64 ((rho k9).2.2.2.2.2.2.1), kI cI ((rho k9).1.2.2.2.2.2.2.2) 64 ((rho k9).2.2.2.2.2.2.2)] ++ RX cI rho k9) := hD
      refine lv_aload_n hx hb dX6_step_36 rfl (lv_at hl 1 rfl) ?_
      refine va_get (D := D) (ci := 6) (v := .ref fg) (C := RX6) (T := TX6) (N := 10) hx hb hts iT_X6 hown hK1 hP 0 rfl rfl 2 (by decide) (hts _ t_156) (fun _ h9 => h9) rfl dX6_step_37 ?_
      refine va_get (D := D) (ci := 0) (v := .ref f1) (C := RX0) (T := TX0) (N := 5) hx hb hts iT_X0 hown hK1 hP 5 rfl rfl 0 (by decide) (hts _ t_57) (fun _ h9 => h9) rfl dX6_step_40 ?_
      refine lv_iload_n hx hb dX6_step_43 rfl (lv_at hl 2 rfl) ?_
      refine lv_nmi (show _ = (nI j9 : Int32) from ej9) ?_
      refine va_iald hx hb hK1 hP 2 0 rfl rfl (vp_in_nI (by omega) (by omega)) dX6_step_44 ?_
      refine lv_nmi (show _ = g1 j9 from by rw [nI_clamp (n := j9) (by omega)]) ?_
      refine lv_aload_n hx hb dX6_step_45 rfl (lv_at hl 0 rfl) ?_
      refine va_get (D := D) (ci := 4) (v := .int ((rho k9).2.1.1)) (C := RX4) (T := TX4) (N := 5) hx hb hts iT_X4 hown hK1 hP 7 rfl rfl 0 (by decide) (hts _ t_81) (fun _ h9 => h9) rfl dX6_step_46 ?_
      refine lv_icmp_eq (tgt := 56) hx hb dX6_step_49 (by decide) (fun c_11 => ?_) (fun c_11 => ?_)
      · skip
        refine lv_aload_n hx hb dX6_step_56 rfl (lv_at hl 1 rfl) ?_
        refine va_get (D := D) (ci := 6) (v := .ref fg) (C := RX6) (T := TX6) (N := 10) hx hb hts iT_X6 hown hK1 hP 0 rfl rfl 2 (by decide) (hts _ t_156) (fun _ h9 => h9) rfl dX6_step_57 ?_
        refine va_get (D := D) (ci := 0) (v := .int (nI n9)) (C := RX0) (T := TX0) (N := 5) hx hb hts iT_X0 hown hK1 hP 5 rfl rfl 3 (by decide) (hts _ t_64) (fun _ h9 => h9) rfl dX6_step_60 ?_
        refine lv_aload_n hx hb dX6_step_63 rfl (lv_at hl 0 rfl) ?_
        refine va_get (D := D) (ci := 4) (v := .ref ((rho k9).1.2.1)) (C := RX4) (T := TX4) (N := 5) hx hb hts iT_X4 hown hK1 hP 7 rfl rfl 1 (by decide) (hts _ t_85) (fun _ h9 => h9) rfl dX6_step_64 ?_
        refine va_get (D := D) (ci := 0) (v := .int (nI e9)) (C := RX0) (T := TX0) (N := 5) hx hb hts iT_X0 hown hK1 hP 8 rfl rfl 3 (by decide) (hts _ t_64) (fun _ h9 => h9) rfl dX6_step_67 ?_
        refine lv_iadd hx hb dX6_step_70 ?_
        refine lv_nmi (show _ = (nI (n9 + e9)) from nI_add (n9) (e9)) ?_
        refine lv_iconst (v := 1) hx hb dX6_step_71 (by decide) ?_
        refine lv_isub hx hb dX6_step_72 ?_
        refine lv_nmi (show _ = (nI (n9 + e9 - 1) : Int32) from pk_sub (a := n9 + e9) (b := 1) (by omega)) ?_
        refine lv_bipush (v := 12) hx hb dX6_step_73 (by decide) ?_
        refine lv_icmp_gt (tgt := 100) hx hb dX6_step_75 (by decide) (fun c_12 => ?_) (fun c_12 => ?_)
        · skip
          rw [← ee9] at hP hD
          have hP : va_P D vwCl ([kX6 h0 pg bk fg og lg oS lS s1 s2 s3, kQ cR br 9 (fun k => some ((rho k).1.1)), kI cI f1 12 g1, kI cI f2 12 g2, kI cI f3 12 g3, kX0 fg f1 f2 f3 (nI n9) (nI v), kX5 bk br (nI r9), kX4 ((rho k9).1.1) ((rho k9).2.1.1) ((rho k9).1.2.1) ((rho k9).1.2.2.2.2.2.1) ((rho k9).1.2.2.2.2.2.2.1) ((rho k9).1.2.2.2.2.2.2.2), kX0 ((rho k9).1.2.1) ((rho k9).1.2.2.1) ((rho k9).1.2.2.2.1) ((rho k9).1.2.2.2.2.1) ((rho k9).2.1.2.1) (nI v9), kI cI ((rho k9).1.2.2.1) 3 ((rho k9).2.2.1), kI cI ((rho k9).1.2.2.2.1) 3 ((rho k9).2.2.2.1), kI cI ((rho k9).1.2.2.2.2.1) 3 ((rho k9).2.2.2.2.1), kI cI ((rho k9).1.2.2.2.2.2.1) 3 ((rho k9).2.2.2.2.2.1), kI cI ((rho k9).1.2.2.2.2.2.2.1) 64 ((rho k9).2.2.2.2.2.2.1), kI cI ((rho k9).1.2.2.2.2.2.2.2) 64 ((rho k9).2.2.2.2.2.2.2)] ++ RX cI rho k9) H := hP
          have hD : va_D A ([kX6 h0 pg bk fg og lg oS lS s1 s2 s3, kQ cR br 9 (fun k => some ((rho k).1.1)), kI cI f1 12 g1, kI cI f2 12 g2, kI cI f3 12 g3, kX0 fg f1 f2 f3 (nI n9) (nI v), kX5 bk br (nI r9), kX4 ((rho k9).1.1) ((rho k9).2.1.1) ((rho k9).1.2.1) ((rho k9).1.2.2.2.2.2.1) ((rho k9).1.2.2.2.2.2.2.1) ((rho k9).1.2.2.2.2.2.2.2), kX0 ((rho k9).1.2.1) ((rho k9).1.2.2.1) ((rho k9).1.2.2.2.1) ((rho k9).1.2.2.2.2.1) ((rho k9).2.1.2.1) (nI v9), kI cI ((rho k9).1.2.2.1) 3 ((rho k9).2.2.1), kI cI ((rho k9).1.2.2.2.1) 3 ((rho k9).2.2.2.1), kI cI ((rho k9).1.2.2.2.2.1) 3 ((rho k9).2.2.2.2.1), kI cI ((rho k9).1.2.2.2.2.2.1) 3 ((rho k9).2.2.2.2.2.1), kI cI ((rho k9).1.2.2.2.2.2.2.1) 64 ((rho k9).2.2.2.2.2.2.1), kI cI ((rho k9).1.2.2.2.2.2.2.2) 64 ((rho k9).2.2.2.2.2.2.2)] ++ RX cI rho k9) := hD
          rw [← ev9] at hP hD
          have hP : va_P D vwCl ([kX6 h0 pg bk fg og lg oS lS s1 s2 s3, kQ cR br 9 (fun k => some ((rho k).1.1)), kI cI f1 12 g1, kI cI f2 12 g2, kI cI f3 12 g3, kX0 fg f1 f2 f3 (nI n9) (nI v), kX5 bk br (nI r9), kX4 ((rho k9).1.1) ((rho k9).2.1.1) ((rho k9).1.2.1) ((rho k9).1.2.2.2.2.2.1) ((rho k9).1.2.2.2.2.2.2.1) ((rho k9).1.2.2.2.2.2.2.2), kX0 ((rho k9).1.2.1) ((rho k9).1.2.2.1) ((rho k9).1.2.2.2.1) ((rho k9).1.2.2.2.2.1) ((rho k9).2.1.2.1) ((rho k9).2.1.2.2), kI cI ((rho k9).1.2.2.1) 3 ((rho k9).2.2.1), kI cI ((rho k9).1.2.2.2.1) 3 ((rho k9).2.2.2.1), kI cI ((rho k9).1.2.2.2.2.1) 3 ((rho k9).2.2.2.2.1), kI cI ((rho k9).1.2.2.2.2.2.1) 3 ((rho k9).2.2.2.2.2.1), kI cI ((rho k9).1.2.2.2.2.2.2.1) 64 ((rho k9).2.2.2.2.2.2.1), kI cI ((rho k9).1.2.2.2.2.2.2.2) 64 ((rho k9).2.2.2.2.2.2.2)] ++ RX cI rho k9) H := hP
          have hD : va_D A ([kX6 h0 pg bk fg og lg oS lS s1 s2 s3, kQ cR br 9 (fun k => some ((rho k).1.1)), kI cI f1 12 g1, kI cI f2 12 g2, kI cI f3 12 g3, kX0 fg f1 f2 f3 (nI n9) (nI v), kX5 bk br (nI r9), kX4 ((rho k9).1.1) ((rho k9).2.1.1) ((rho k9).1.2.1) ((rho k9).1.2.2.2.2.2.1) ((rho k9).1.2.2.2.2.2.2.1) ((rho k9).1.2.2.2.2.2.2.2), kX0 ((rho k9).1.2.1) ((rho k9).1.2.2.1) ((rho k9).1.2.2.2.1) ((rho k9).1.2.2.2.2.1) ((rho k9).2.1.2.1) ((rho k9).2.1.2.2), kI cI ((rho k9).1.2.2.1) 3 ((rho k9).2.2.1), kI cI ((rho k9).1.2.2.2.1) 3 ((rho k9).2.2.2.1), kI cI ((rho k9).1.2.2.2.2.1) 3 ((rho k9).2.2.2.2.1), kI cI ((rho k9).1.2.2.2.2.2.1) 3 ((rho k9).2.2.2.2.2.1), kI cI ((rho k9).1.2.2.2.2.2.2.1) 64 ((rho k9).2.2.2.2.2.2.1), kI cI ((rho k9).1.2.2.2.2.2.2.2) 64 ((rho k9).2.2.2.2.2.2.2)] ++ RX cI rho k9) := hD
          have hPD : PD D A ([kX6 h0 pg bk fg og lg oS lS s1 s2 s3, kQ cR br 9 (fun k => some ((rho k).1.1)), kI cI f1 12 g1, kI cI f2 12 g2, kI cI f3 12 g3, kX0 fg f1 f2 f3 (nI n9) (nI v), kX5 bk br (nI r9), kX4 ((rho k9).1.1) ((rho k9).2.1.1) ((rho k9).1.2.1) ((rho k9).1.2.2.2.2.2.1) ((rho k9).1.2.2.2.2.2.2.1) ((rho k9).1.2.2.2.2.2.2.2), kX0 ((rho k9).1.2.1) ((rho k9).1.2.2.1) ((rho k9).1.2.2.2.1) ((rho k9).1.2.2.2.2.1) ((rho k9).2.1.2.1) ((rho k9).2.1.2.2), kI cI ((rho k9).1.2.2.1) 3 ((rho k9).2.2.1), kI cI ((rho k9).1.2.2.2.1) 3 ((rho k9).2.2.2.1), kI cI ((rho k9).1.2.2.2.2.1) 3 ((rho k9).2.2.2.2.1), kI cI ((rho k9).1.2.2.2.2.2.1) 3 ((rho k9).2.2.2.2.2.1), kI cI ((rho k9).1.2.2.2.2.2.2.1) 64 ((rho k9).2.2.2.2.2.2.1), kI cI ((rho k9).1.2.2.2.2.2.2.2) 64 ((rho k9).2.2.2.2.2.2.2)] ++ RX cI rho k9) H := (PD.perm ⟨hP, hD⟩ (permB pm_51)).left
          obtain ⟨hP, hD⟩ := unfocus0 (E := [kX6 h0 pg bk fg og lg oS lS s1 s2 s3, kQ cR br 9 (fun k => some ((rho k).1.1)), kI cI f1 12 g1, kI cI f2 12 g2, kI cI f3 12 g3, kX0 fg f1 f2 f3 (nI n9) (nI v), kX5 bk br (nI r9)]) k9 (by omega) hPD.1 hPD.2
          have hP : va_P D vwCl ([kX6 h0 pg bk fg og lg oS lS s1 s2 s3, kQ cR br 9 (fun k => some ((rho k).1.1)), kI cI f1 12 g1, kI cI f2 12 g2, kI cI f3 12 g3, kX0 fg f1 f2 f3 (nI n9) (nI v), kX5 bk br (nI r9)] ++ RB cI rho) H := hP
          have hD : va_D A ([kX6 h0 pg bk fg og lg oS lS s1 s2 s3, kQ cR br 9 (fun k => some ((rho k).1.1)), kI cI f1 12 g1, kI cI f2 12 g2, kI cI f3 12 g3, kX0 fg f1 f2 f3 (nI n9) (nI v), kX5 bk br (nI r9)] ++ RB cI rho) := hD
          refine lv_sipush (v := -1004) hx hb dX6_step_100 (by decide) ?_
          have hPD : PD D A ([kX6 h0 pg bk fg og lg oS lS s1 s2 s3, kX5 bk br (nI r9), kQ cR br 9 (fun k => some ((rho k).1.1)), kX0 fg f1 f2 f3 (nI n9) (nI v), kI cI f1 12 g1, kI cI f2 12 g2, kI cI f3 12 g3] ++ RB cI rho) H := (PD.perm ⟨hP, hD⟩ (permB pm_52)).left
          exact hret _ _ _ _ _ _ (-1004) (oS, s1, s2, n9, v, g1, g2, g3) dX6_step_103 rfl hS (Nat.le_of_ble_eq_true rfl) (Nat.le_of_ble_eq_true rfl) ⟨⟨hf1, hf2, hf3⟩, Or.inr ⟨j9, k9, hj9, hk9, ej9, ek9, Or.inr ⟨c_11, e9, v9, he1, he3, hv5, ee9, ev9, Or.inl ⟨Or.inl (by have := (nI_ltI (a := 12) (b := n9 + e9 - 1) (by omega) (by omega)).mp c_12; omega), rfl, rfl, rfl, rfl, rfl, rfl, rfl, rfl⟩⟩⟩, Or.inr ⟨rfl, rfl, rfl, rfl, rfl, rfl⟩⟩ hPD.1 hPD.2
        · skip
          refine lv_aload_n hx hb dX6_step_78 rfl (lv_at hl 1 rfl) ?_
          refine va_get (D := D) (ci := 6) (v := .ref fg) (C := RX6) (T := TX6) (N := 10) hx hb hts iT_X6 hown hK1 hP 0 rfl rfl 2 (by decide) (hts _ t_156) (fun _ h9 => h9) rfl dX6_step_79 ?_
          refine va_get (D := D) (ci := 0) (v := .int (nI v)) (C := RX0) (T := TX0) (N := 5) hx hb hts iT_X0 hown hK1 hP 5 rfl rfl 4 (by decide) (hts _ t_67) (fun _ h9 => h9) rfl dX6_step_82 ?_
          refine lv_aload_n hx hb dX6_step_85 rfl (lv_at hl 0 rfl) ?_
          refine va_get (D := D) (ci := 4) (v := .ref ((rho k9).1.2.1)) (C := RX4) (T := TX4) (N := 5) hx hb hts iT_X4 hown hK1 hP 7 rfl rfl 1 (by decide) (hts _ t_85) (fun _ h9 => h9) rfl dX6_step_86 ?_
          refine va_get (D := D) (ci := 0) (v := .int (nI v9)) (C := RX0) (T := TX0) (N := 5) hx hb hts iT_X0 hown hK1 hP 8 rfl rfl 4 (by decide) (hts _ t_67) (fun _ h9 => h9) rfl dX6_step_89 ?_
          refine lv_iadd hx hb dX6_step_92 ?_
          refine lv_nmi (show _ = (nI (v + v9)) from nI_add (v) (v9)) ?_
          refine lv_iconst (v := 2) hx hb dX6_step_93 (by decide) ?_
          refine lv_isub hx hb dX6_step_94 ?_
          refine lv_nmi (show _ = (nI (v + v9 - 2) : Int32) from pk_sub (a := v + v9) (b := 2) (by omega)) ?_
          refine lv_bipush (v := 9) hx hb dX6_step_95 (by decide) ?_
          refine lv_icmp_le (tgt := 104) hx hb dX6_step_97 (by decide) (fun c_13 => ?_) (fun c_13 => ?_)
          · skip
            have hc1 := nltN (a := 12) (b := n9 + e9 - 1) (by omega) (by omega) c_12
            have hc2 := leN (a := v + v9 - 2) (b := 9) (by omega) (by omega) c_13
            refine lv_aload_n hx hb dX6_step_104 rfl (lv_at hl 1 rfl) ?_
            refine va_get (D := D) (ci := 6) (v := .ref fg) (C := RX6) (T := TX6) (N := 10) hx hb hts iT_X6 hown hK1 hP 0 rfl rfl 2 (by decide) (hts _ t_156) (fun _ h9 => h9) rfl dX6_step_105 ?_
            refine lv_iload_n hx hb dX6_step_108 rfl (lv_at hl 2 rfl) ?_
            refine lv_nmi (show _ = (nI j9 : Int32) from ej9) ?_
            refine lv_aload_n hx hb dX6_step_109 rfl (lv_at hl 0 rfl) ?_
            refine va_get (D := D) (ci := 4) (v := .ref ((rho k9).1.2.1)) (C := RX4) (T := TX4) (N := 5) hx hb hts iT_X4 hown hK1 hP 7 rfl rfl 1 (by decide) (hts _ t_85) (fun _ h9 => h9) rfl dX6_step_110 ?_
            have hPD : PD D A ([kX0 fg f1 f2 f3 (nI n9) (nI v), kI cI f1 12 g1, kI cI f2 12 g2, kI cI f3 12 g3, kX0 ((rho k9).1.2.1) ((rho k9).1.2.2.1) ((rho k9).1.2.2.2.1) ((rho k9).1.2.2.2.2.1) (nI e9) (nI v9), kI cI ((rho k9).1.2.2.1) 3 ((rho k9).2.2.1), kI cI ((rho k9).1.2.2.2.1) 3 ((rho k9).2.2.2.1), kI cI ((rho k9).1.2.2.2.2.1) 3 ((rho k9).2.2.2.2.1)] ++ ([kX6 h0 pg bk fg og lg oS lS s1 s2 s3, kQ cR br 9 (fun k => some ((rho k).1.1)), kX5 bk br (nI r9), kX4 ((rho k9).1.1) ((rho k9).2.1.1) ((rho k9).1.2.1) ((rho k9).1.2.2.2.2.2.1) ((rho k9).1.2.2.2.2.2.2.1) ((rho k9).1.2.2.2.2.2.2.2), kI cI ((rho k9).1.2.2.2.2.2.1) 3 ((rho k9).2.2.2.2.2.1), kI cI ((rho k9).1.2.2.2.2.2.2.1) 64 ((rho k9).2.2.2.2.2.2.1), kI cI ((rho k9).1.2.2.2.2.2.2.2) 64 ((rho k9).2.2.2.2.2.2.2)] ++ RX cI rho k9)) H := PD.perm ⟨hP, hD⟩ (permA pm_53)
            refine xp_v (wc := [kX0 fg f1 f2 f3 (nI n9) (nI v), kI cI f1 12 g1, kI cI f2 12 g2, kI cI f3 12 g3, kX0 ((rho k9).1.2.1) ((rho k9).1.2.2.1) ((rho k9).1.2.2.2.1) ((rho k9).1.2.2.2.2.1) (nI e9) (nI v9), kI cI ((rho k9).1.2.2.1) 3 ((rho k9).2.2.1), kI cI ((rho k9).1.2.2.2.1) 3 ((rho k9).2.2.2.1), kI cI ((rho k9).1.2.2.2.2.1) 3 ((rho k9).2.2.2.2.1)]) (wr := ([kX6 h0 pg bk fg og lg oS lS s1 s2 s3, kQ cR br 9 (fun k => some ((rho k).1.1)), kX5 bk br (nI r9), kX4 ((rho k9).1.1) ((rho k9).2.1.1) ((rho k9).1.2.1) ((rho k9).1.2.2.2.2.2.1) ((rho k9).1.2.2.2.2.2.2.1) ((rho k9).1.2.2.2.2.2.2.2), kI cI ((rho k9).1.2.2.2.2.2.1) 3 ((rho k9).2.2.2.2.2.1), kI cI ((rho k9).1.2.2.2.2.2.2.1) 64 ((rho k9).2.2.2.2.2.2.1), kI cI ((rho k9).1.2.2.2.2.2.2.2) 64 ((rho k9).2.2.2.2.2.2.2)] ++ RX cI rho k9)) (xqV (n := 2) (As := [.int (nI j9), .ref ((rho k9).1.2.1)]) (rest := []) (ci := 0) (q0 := 0) hd hK hPD.left (c_X0_replace l D cI cJ cZ cR _ fg f1 f2 f3 n9 v j9 g1 g2 g3 ((rho k9).1.2.1) ((rho k9).1.2.2.1) ((rho k9).1.2.2.2.1) ((rho k9).1.2.2.2.2.1) e9 v9 ((rho k9).2.2.1) ((rho k9).2.2.2.1) ((rho k9).2.2.2.2.1) hj9 he1 he3 (by omega) hv2) (gV t_348 mV_X0_replace) hV_X0_replace ⟨(Nat.le_of_ble_eq_true rfl), (Nat.le_of_ble_eq_true rfl)⟩ rfl rfl rfl hl.1 rfl (Nat.le_of_ble_eq_true rfl) dX6_step_113 ⟨(Nat.le_of_ble_eq_true rfl), (Nat.le_of_ble_eq_true rfl)⟩) hPD hS hA (fun u_15 H locs hw_16 hPD hS => ?_)
            obtain ⟨y1_17, y2_18, y3_19⟩ := u_15
            obtain ⟨hw_20, hw_21, hw_22⟩ : (RPL g1 ((rho k9).2.2.1) y1_17 j9 e9 n9) ∧ (RPL g2 (fun t => nC v (((rho k9).2.2.2.1) t) (g2 j9) (g3 j9)) y2_18 j9 e9 n9) ∧ (RPL g3 (fun t => nC v (((rho k9).2.2.2.2.1) t) (g2 j9) (g3 j9)) y3_19 j9 e9 n9) := hw_16
            have hR1 := hw_20
            have hR2 := hw_21
            have hR3 := hw_22
            obtain ⟨hP, hD⟩ := hPD.perm permA'
            have hP : va_P D vwCl ([kX6 h0 pg bk fg og lg oS lS s1 s2 s3, kQ cR br 9 (fun k => some ((rho k).1.1)), kX5 bk br (nI r9), kX4 ((rho k9).1.1) ((rho k9).2.1.1) ((rho k9).1.2.1) ((rho k9).1.2.2.2.2.2.1) ((rho k9).1.2.2.2.2.2.2.1) ((rho k9).1.2.2.2.2.2.2.2), kI cI ((rho k9).1.2.2.2.2.2.1) 3 ((rho k9).2.2.2.2.2.1), kI cI ((rho k9).1.2.2.2.2.2.2.1) 64 ((rho k9).2.2.2.2.2.2.1), kI cI ((rho k9).1.2.2.2.2.2.2.2) 64 ((rho k9).2.2.2.2.2.2.2), kX0 fg f1 f2 f3 (nI (n9 + (e9 - 1))) (nI (v + (v9 - 2))), kI cI f1 12 y1_17, kI cI f2 12 y2_18, kI cI f3 12 y3_19, kX0 ((rho k9).1.2.1) ((rho k9).1.2.2.1) ((rho k9).1.2.2.2.1) ((rho k9).1.2.2.2.2.1) (nI e9) (nI v9), kI cI ((rho k9).1.2.2.1) 3 ((rho k9).2.2.1), kI cI ((rho k9).1.2.2.2.1) 3 ((rho k9).2.2.2.1), kI cI ((rho k9).1.2.2.2.2.1) 3 ((rho k9).2.2.2.2.1)] ++ RX cI rho k9) H := hP
            have hD : va_D A ([kX6 h0 pg bk fg og lg oS lS s1 s2 s3, kQ cR br 9 (fun k => some ((rho k).1.1)), kX5 bk br (nI r9), kX4 ((rho k9).1.1) ((rho k9).2.1.1) ((rho k9).1.2.1) ((rho k9).1.2.2.2.2.2.1) ((rho k9).1.2.2.2.2.2.2.1) ((rho k9).1.2.2.2.2.2.2.2), kI cI ((rho k9).1.2.2.2.2.2.1) 3 ((rho k9).2.2.2.2.2.1), kI cI ((rho k9).1.2.2.2.2.2.2.1) 64 ((rho k9).2.2.2.2.2.2.1), kI cI ((rho k9).1.2.2.2.2.2.2.2) 64 ((rho k9).2.2.2.2.2.2.2), kX0 fg f1 f2 f3 (nI (n9 + (e9 - 1))) (nI (v + (v9 - 2))), kI cI f1 12 y1_17, kI cI f2 12 y2_18, kI cI f3 12 y3_19, kX0 ((rho k9).1.2.1) ((rho k9).1.2.2.1) ((rho k9).1.2.2.2.1) ((rho k9).1.2.2.2.2.1) (nI e9) (nI v9), kI cI ((rho k9).1.2.2.1) 3 ((rho k9).2.2.1), kI cI ((rho k9).1.2.2.2.1) 3 ((rho k9).2.2.2.1), kI cI ((rho k9).1.2.2.2.2.1) 3 ((rho k9).2.2.2.2.1)] ++ RX cI rho k9) := hD
            rw [← ee9] at hP hD
            have hP : va_P D vwCl ([kX6 h0 pg bk fg og lg oS lS s1 s2 s3, kQ cR br 9 (fun k => some ((rho k).1.1)), kX5 bk br (nI r9), kX4 ((rho k9).1.1) ((rho k9).2.1.1) ((rho k9).1.2.1) ((rho k9).1.2.2.2.2.2.1) ((rho k9).1.2.2.2.2.2.2.1) ((rho k9).1.2.2.2.2.2.2.2), kI cI ((rho k9).1.2.2.2.2.2.1) 3 ((rho k9).2.2.2.2.2.1), kI cI ((rho k9).1.2.2.2.2.2.2.1) 64 ((rho k9).2.2.2.2.2.2.1), kI cI ((rho k9).1.2.2.2.2.2.2.2) 64 ((rho k9).2.2.2.2.2.2.2), kX0 fg f1 f2 f3 (nI (n9 + (e9 - 1))) (nI (v + (v9 - 2))), kI cI f1 12 y1_17, kI cI f2 12 y2_18, kI cI f3 12 y3_19, kX0 ((rho k9).1.2.1) ((rho k9).1.2.2.1) ((rho k9).1.2.2.2.1) ((rho k9).1.2.2.2.2.1) ((rho k9).2.1.2.1) (nI v9), kI cI ((rho k9).1.2.2.1) 3 ((rho k9).2.2.1), kI cI ((rho k9).1.2.2.2.1) 3 ((rho k9).2.2.2.1), kI cI ((rho k9).1.2.2.2.2.1) 3 ((rho k9).2.2.2.2.1)] ++ RX cI rho k9) H := hP
            have hD : va_D A ([kX6 h0 pg bk fg og lg oS lS s1 s2 s3, kQ cR br 9 (fun k => some ((rho k).1.1)), kX5 bk br (nI r9), kX4 ((rho k9).1.1) ((rho k9).2.1.1) ((rho k9).1.2.1) ((rho k9).1.2.2.2.2.2.1) ((rho k9).1.2.2.2.2.2.2.1) ((rho k9).1.2.2.2.2.2.2.2), kI cI ((rho k9).1.2.2.2.2.2.1) 3 ((rho k9).2.2.2.2.2.1), kI cI ((rho k9).1.2.2.2.2.2.2.1) 64 ((rho k9).2.2.2.2.2.2.1), kI cI ((rho k9).1.2.2.2.2.2.2.2) 64 ((rho k9).2.2.2.2.2.2.2), kX0 fg f1 f2 f3 (nI (n9 + (e9 - 1))) (nI (v + (v9 - 2))), kI cI f1 12 y1_17, kI cI f2 12 y2_18, kI cI f3 12 y3_19, kX0 ((rho k9).1.2.1) ((rho k9).1.2.2.1) ((rho k9).1.2.2.2.1) ((rho k9).1.2.2.2.2.1) ((rho k9).2.1.2.1) (nI v9), kI cI ((rho k9).1.2.2.1) 3 ((rho k9).2.2.1), kI cI ((rho k9).1.2.2.2.1) 3 ((rho k9).2.2.2.1), kI cI ((rho k9).1.2.2.2.2.1) 3 ((rho k9).2.2.2.2.1)] ++ RX cI rho k9) := hD
            rw [← ev9] at hP hD
            have hP : va_P D vwCl ([kX6 h0 pg bk fg og lg oS lS s1 s2 s3, kQ cR br 9 (fun k => some ((rho k).1.1)), kX5 bk br (nI r9), kX4 ((rho k9).1.1) ((rho k9).2.1.1) ((rho k9).1.2.1) ((rho k9).1.2.2.2.2.2.1) ((rho k9).1.2.2.2.2.2.2.1) ((rho k9).1.2.2.2.2.2.2.2), kI cI ((rho k9).1.2.2.2.2.2.1) 3 ((rho k9).2.2.2.2.2.1), kI cI ((rho k9).1.2.2.2.2.2.2.1) 64 ((rho k9).2.2.2.2.2.2.1), kI cI ((rho k9).1.2.2.2.2.2.2.2) 64 ((rho k9).2.2.2.2.2.2.2), kX0 fg f1 f2 f3 (nI (n9 + (e9 - 1))) (nI (v + (v9 - 2))), kI cI f1 12 y1_17, kI cI f2 12 y2_18, kI cI f3 12 y3_19, kX0 ((rho k9).1.2.1) ((rho k9).1.2.2.1) ((rho k9).1.2.2.2.1) ((rho k9).1.2.2.2.2.1) ((rho k9).2.1.2.1) ((rho k9).2.1.2.2), kI cI ((rho k9).1.2.2.1) 3 ((rho k9).2.2.1), kI cI ((rho k9).1.2.2.2.1) 3 ((rho k9).2.2.2.1), kI cI ((rho k9).1.2.2.2.2.1) 3 ((rho k9).2.2.2.2.1)] ++ RX cI rho k9) H := hP
            have hD : va_D A ([kX6 h0 pg bk fg og lg oS lS s1 s2 s3, kQ cR br 9 (fun k => some ((rho k).1.1)), kX5 bk br (nI r9), kX4 ((rho k9).1.1) ((rho k9).2.1.1) ((rho k9).1.2.1) ((rho k9).1.2.2.2.2.2.1) ((rho k9).1.2.2.2.2.2.2.1) ((rho k9).1.2.2.2.2.2.2.2), kI cI ((rho k9).1.2.2.2.2.2.1) 3 ((rho k9).2.2.2.2.2.1), kI cI ((rho k9).1.2.2.2.2.2.2.1) 64 ((rho k9).2.2.2.2.2.2.1), kI cI ((rho k9).1.2.2.2.2.2.2.2) 64 ((rho k9).2.2.2.2.2.2.2), kX0 fg f1 f2 f3 (nI (n9 + (e9 - 1))) (nI (v + (v9 - 2))), kI cI f1 12 y1_17, kI cI f2 12 y2_18, kI cI f3 12 y3_19, kX0 ((rho k9).1.2.1) ((rho k9).1.2.2.1) ((rho k9).1.2.2.2.1) ((rho k9).1.2.2.2.2.1) ((rho k9).2.1.2.1) ((rho k9).2.1.2.2), kI cI ((rho k9).1.2.2.1) 3 ((rho k9).2.2.1), kI cI ((rho k9).1.2.2.2.1) 3 ((rho k9).2.2.2.1), kI cI ((rho k9).1.2.2.2.2.1) 3 ((rho k9).2.2.2.2.1)] ++ RX cI rho k9) := hD
            have hPD : PD D A ([kX6 h0 pg bk fg og lg oS lS s1 s2 s3, kQ cR br 9 (fun k => some ((rho k).1.1)), kX5 bk br (nI r9), kX0 fg f1 f2 f3 (nI (n9 + (e9 - 1))) (nI (v + (v9 - 2))), kI cI f1 12 y1_17, kI cI f2 12 y2_18, kI cI f3 12 y3_19, kX4 ((rho k9).1.1) ((rho k9).2.1.1) ((rho k9).1.2.1) ((rho k9).1.2.2.2.2.2.1) ((rho k9).1.2.2.2.2.2.2.1) ((rho k9).1.2.2.2.2.2.2.2), kX0 ((rho k9).1.2.1) ((rho k9).1.2.2.1) ((rho k9).1.2.2.2.1) ((rho k9).1.2.2.2.2.1) ((rho k9).2.1.2.1) ((rho k9).2.1.2.2), kI cI ((rho k9).1.2.2.1) 3 ((rho k9).2.2.1), kI cI ((rho k9).1.2.2.2.1) 3 ((rho k9).2.2.2.1), kI cI ((rho k9).1.2.2.2.2.1) 3 ((rho k9).2.2.2.2.1), kI cI ((rho k9).1.2.2.2.2.2.1) 3 ((rho k9).2.2.2.2.2.1), kI cI ((rho k9).1.2.2.2.2.2.2.1) 64 ((rho k9).2.2.2.2.2.2.1), kI cI ((rho k9).1.2.2.2.2.2.2.2) 64 ((rho k9).2.2.2.2.2.2.2)] ++ RX cI rho k9) H := (PD.perm ⟨hP, hD⟩ (permB pm_54)).left
            obtain ⟨hP, hD⟩ := unfocus0 (E := [kX6 h0 pg bk fg og lg oS lS s1 s2 s3, kQ cR br 9 (fun k => some ((rho k).1.1)), kX5 bk br (nI r9), kX0 fg f1 f2 f3 (nI (n9 + (e9 - 1))) (nI (v + (v9 - 2))), kI cI f1 12 y1_17, kI cI f2 12 y2_18, kI cI f3 12 y3_19]) k9 (by omega) hPD.1 hPD.2
            have hP : va_P D vwCl ([kX6 h0 pg bk fg og lg oS lS s1 s2 s3, kQ cR br 9 (fun k => some ((rho k).1.1)), kX5 bk br (nI r9), kX0 fg f1 f2 f3 (nI (n9 + (e9 - 1))) (nI (v + (v9 - 2))), kI cI f1 12 y1_17, kI cI f2 12 y2_18, kI cI f3 12 y3_19] ++ RB cI rho) H := hP
            have hD : va_D A ([kX6 h0 pg bk fg og lg oS lS s1 s2 s3, kQ cR br 9 (fun k => some ((rho k).1.1)), kX5 bk br (nI r9), kX0 fg f1 f2 f3 (nI (n9 + (e9 - 1))) (nI (v + (v9 - 2))), kI cI f1 12 y1_17, kI cI f2 12 y2_18, kI cI f3 12 y3_19] ++ RB cI rho) := hD
            refine lv_aload_n hx hb dX6_step_116 rfl (lv_at hl 1 rfl) ?_
            refine lv_iconst (v := 0) hx hb dX6_step_117 (by decide) ?_
            refine va_put (D := D) (ci := 6) (v := .int 0) (ty := .boolean) (C := RX6) (T := TX6) (N := 10) hx hb hts iT_X6 tyX6 tyX6_ok nmX6 hown hK1 hP hD hS 0 rfl rfl 5 (by decide) (hts _ t_159) (fun _ h9 => h9) rfl (by decide +kernel) rfl rfl (Nat.le_of_ble_eq_true rfl) dX6_step_118 (fun H locs hP hD hS => ?_)
            have hP : va_P D vwCl ([kX6 h0 pg bk fg og lg 0 lS s1 s2 s3, kQ cR br 9 (fun k => some ((rho k).1.1)), kX5 bk br (nI r9), kX0 fg f1 f2 f3 (nI (n9 + (e9 - 1))) (nI (v + (v9 - 2))), kI cI f1 12 y1_17, kI cI f2 12 y2_18, kI cI f3 12 y3_19] ++ RB cI rho) H := hP
            have hD : va_D A ([kX6 h0 pg bk fg og lg 0 lS s1 s2 s3, kQ cR br 9 (fun k => some ((rho k).1.1)), kX5 bk br (nI r9), kX0 fg f1 f2 f3 (nI (n9 + (e9 - 1))) (nI (v + (v9 - 2))), kI cI f1 12 y1_17, kI cI f2 12 y2_18, kI cI f3 12 y3_19] ++ RB cI rho) := hD
            refine lv_aload_n hx hb dX6_step_121 rfl (lv_at hl 1 rfl) ?_
            refine lv_dup hx hb dX6_step_122 rfl ?_
            refine va_get (D := D) (ci := 6) (v := .int s1) (C := RX6) (T := TX6) (N := 10) hx hb hts iT_X6 hown hK1 hP 0 rfl rfl 7 (by decide) (hts _ t_161) (fun _ h9 => h9) rfl dX6_step_123 ?_
            refine lv_iconst (v := 1) hx hb dX6_step_126 (by decide) ?_
            refine lv_iadd hx hb dX6_step_127 ?_
            refine va_put (D := D) (ci := 6) (v := .int (s1 + 1)) (ty := .int) (C := RX6) (T := TX6) (N := 10) hx hb hts iT_X6 tyX6 tyX6_ok nmX6 hown hK1 hP hD hS 0 rfl rfl 7 (by decide) (hts _ t_161) (fun _ h9 => h9) rfl (by decide +kernel) rfl rfl (Nat.le_of_ble_eq_true rfl) dX6_step_128 (fun H locs hP hD hS => ?_)
            have hP : va_P D vwCl ([kX6 h0 pg bk fg og lg 0 lS (s1 + 1) s2 s3, kQ cR br 9 (fun k => some ((rho k).1.1)), kX5 bk br (nI r9), kX0 fg f1 f2 f3 (nI (n9 + (e9 - 1))) (nI (v + (v9 - 2))), kI cI f1 12 y1_17, kI cI f2 12 y2_18, kI cI f3 12 y3_19] ++ RB cI rho) H := hP
            have hD : va_D A ([kX6 h0 pg bk fg og lg 0 lS (s1 + 1) s2 s3, kQ cR br 9 (fun k => some ((rho k).1.1)), kX5 bk br (nI r9), kX0 fg f1 f2 f3 (nI (n9 + (e9 - 1))) (nI (v + (v9 - 2))), kI cI f1 12 y1_17, kI cI f2 12 y2_18, kI cI f3 12 y3_19] ++ RB cI rho) := hD
            refine lv_aload_n hx hb dX6_step_131 rfl (lv_at hl 1 rfl) ?_
            refine lv_dup hx hb dX6_step_132 rfl ?_
            refine va_get (D := D) (ci := 6) (v := .int s2) (C := RX6) (T := TX6) (N := 10) hx hb hts iT_X6 hown hK1 hP 0 rfl rfl 8 (by decide) (hts _ t_162) (fun _ h9 => h9) rfl dX6_step_133 ?_
            refine lv_iconst (v := 1) hx hb dX6_step_136 (by decide) ?_
            refine lv_iadd hx hb dX6_step_137 ?_
            refine va_put (D := D) (ci := 6) (v := .int (s2 + 1)) (ty := .int) (C := RX6) (T := TX6) (N := 10) hx hb hts iT_X6 tyX6 tyX6_ok nmX6 hown hK1 hP hD hS 0 rfl rfl 8 (by decide) (hts _ t_162) (fun _ h9 => h9) rfl (by decide +kernel) rfl rfl (Nat.le_of_ble_eq_true rfl) dX6_step_138 (fun H locs hP hD hS => ?_)
            have hP : va_P D vwCl ([kX6 h0 pg bk fg og lg 0 lS (s1 + 1) (s2 + 1) s3, kQ cR br 9 (fun k => some ((rho k).1.1)), kX5 bk br (nI r9), kX0 fg f1 f2 f3 (nI (n9 + (e9 - 1))) (nI (v + (v9 - 2))), kI cI f1 12 y1_17, kI cI f2 12 y2_18, kI cI f3 12 y3_19] ++ RB cI rho) H := hP
            have hD : va_D A ([kX6 h0 pg bk fg og lg 0 lS (s1 + 1) (s2 + 1) s3, kQ cR br 9 (fun k => some ((rho k).1.1)), kX5 bk br (nI r9), kX0 fg f1 f2 f3 (nI (n9 + (e9 - 1))) (nI (v + (v9 - 2))), kI cI f1 12 y1_17, kI cI f2 12 y2_18, kI cI f3 12 y3_19] ++ RB cI rho) := hD
            refine lv_aload_n hx hb dX6_step_141 rfl (lv_at hl 1 rfl) ?_
            refine va_get (D := D) (ci := 6) (v := .ref fg) (C := RX6) (T := TX6) (N := 10) hx hb hts iT_X6 hown hK1 hP 0 rfl rfl 2 (by decide) (hts _ t_156) (fun _ h9 => h9) rfl dX6_step_142 ?_
            refine va_get (D := D) (ci := 0) (v := .int (nI (n9 + (e9 - 1)))) (C := RX0) (T := TX0) (N := 5) hx hb hts iT_X0 hown hK1 hP 3 rfl rfl 3 (by decide) (hts _ t_64) (fun _ h9 => h9) rfl dX6_step_145 ?_
            have hPD : PD D A ([kX6 h0 pg bk fg og lg 0 lS (s1 + 1) (s2 + 1) s3, kX5 bk br (nI r9), kQ cR br 9 (fun k => some ((rho k).1.1)), kX0 fg f1 f2 f3 (nI (n9 + (e9 - 1))) (nI (v + (v9 - 2))), kI cI f1 12 y1_17, kI cI f2 12 y2_18, kI cI f3 12 y3_19] ++ RB cI rho) H := (PD.perm ⟨hP, hD⟩ (permB pm_55)).left
            exact hret _ _ _ _ _ _ (nI (n9 + (e9 - 1))) (0, s1 + 1, s2 + 1, (n9 + (e9 - 1)), (v + (v9 - 2)), y1_17, y2_18, y3_19) dX6_step_148 rfl hS (Nat.le_of_ble_eq_true rfl) (Nat.le_of_ble_eq_true rfl) ⟨(show FgI (n9 + (e9 - 1)) (v + (v9 - 2)) from ⟨by omega, by omega, by omega⟩), Or.inr ⟨j9, k9, hj9, hk9, ej9, ek9, Or.inr ⟨c_11, e9, v9, he1, he3, hv5, ee9, ev9, Or.inr ⟨by omega, by omega, rfl, rfl, rfl, rfl, rfl, hR1, hR2, hR3⟩⟩⟩, Or.inl rfl⟩ hPD.1 hPD.2
          · skip
            rw [← ee9] at hP hD
            have hP : va_P D vwCl ([kX6 h0 pg bk fg og lg oS lS s1 s2 s3, kQ cR br 9 (fun k => some ((rho k).1.1)), kI cI f1 12 g1, kI cI f2 12 g2, kI cI f3 12 g3, kX0 fg f1 f2 f3 (nI n9) (nI v), kX5 bk br (nI r9), kX4 ((rho k9).1.1) ((rho k9).2.1.1) ((rho k9).1.2.1) ((rho k9).1.2.2.2.2.2.1) ((rho k9).1.2.2.2.2.2.2.1) ((rho k9).1.2.2.2.2.2.2.2), kX0 ((rho k9).1.2.1) ((rho k9).1.2.2.1) ((rho k9).1.2.2.2.1) ((rho k9).1.2.2.2.2.1) ((rho k9).2.1.2.1) (nI v9), kI cI ((rho k9).1.2.2.1) 3 ((rho k9).2.2.1), kI cI ((rho k9).1.2.2.2.1) 3 ((rho k9).2.2.2.1), kI cI ((rho k9).1.2.2.2.2.1) 3 ((rho k9).2.2.2.2.1), kI cI ((rho k9).1.2.2.2.2.2.1) 3 ((rho k9).2.2.2.2.2.1), kI cI ((rho k9).1.2.2.2.2.2.2.1) 64 ((rho k9).2.2.2.2.2.2.1), kI cI ((rho k9).1.2.2.2.2.2.2.2) 64 ((rho k9).2.2.2.2.2.2.2)] ++ RX cI rho k9) H := hP
            have hD : va_D A ([kX6 h0 pg bk fg og lg oS lS s1 s2 s3, kQ cR br 9 (fun k => some ((rho k).1.1)), kI cI f1 12 g1, kI cI f2 12 g2, kI cI f3 12 g3, kX0 fg f1 f2 f3 (nI n9) (nI v), kX5 bk br (nI r9), kX4 ((rho k9).1.1) ((rho k9).2.1.1) ((rho k9).1.2.1) ((rho k9).1.2.2.2.2.2.1) ((rho k9).1.2.2.2.2.2.2.1) ((rho k9).1.2.2.2.2.2.2.2), kX0 ((rho k9).1.2.1) ((rho k9).1.2.2.1) ((rho k9).1.2.2.2.1) ((rho k9).1.2.2.2.2.1) ((rho k9).2.1.2.1) (nI v9), kI cI ((rho k9).1.2.2.1) 3 ((rho k9).2.2.1), kI cI ((rho k9).1.2.2.2.1) 3 ((rho k9).2.2.2.1), kI cI ((rho k9).1.2.2.2.2.1) 3 ((rho k9).2.2.2.2.1), kI cI ((rho k9).1.2.2.2.2.2.1) 3 ((rho k9).2.2.2.2.2.1), kI cI ((rho k9).1.2.2.2.2.2.2.1) 64 ((rho k9).2.2.2.2.2.2.1), kI cI ((rho k9).1.2.2.2.2.2.2.2) 64 ((rho k9).2.2.2.2.2.2.2)] ++ RX cI rho k9) := hD
            rw [← ev9] at hP hD
            have hP : va_P D vwCl ([kX6 h0 pg bk fg og lg oS lS s1 s2 s3, kQ cR br 9 (fun k => some ((rho k).1.1)), kI cI f1 12 g1, kI cI f2 12 g2, kI cI f3 12 g3, kX0 fg f1 f2 f3 (nI n9) (nI v), kX5 bk br (nI r9), kX4 ((rho k9).1.1) ((rho k9).2.1.1) ((rho k9).1.2.1) ((rho k9).1.2.2.2.2.2.1) ((rho k9).1.2.2.2.2.2.2.1) ((rho k9).1.2.2.2.2.2.2.2), kX0 ((rho k9).1.2.1) ((rho k9).1.2.2.1) ((rho k9).1.2.2.2.1) ((rho k9).1.2.2.2.2.1) ((rho k9).2.1.2.1) ((rho k9).2.1.2.2), kI cI ((rho k9).1.2.2.1) 3 ((rho k9).2.2.1), kI cI ((rho k9).1.2.2.2.1) 3 ((rho k9).2.2.2.1), kI cI ((rho k9).1.2.2.2.2.1) 3 ((rho k9).2.2.2.2.1), kI cI ((rho k9).1.2.2.2.2.2.1) 3 ((rho k9).2.2.2.2.2.1), kI cI ((rho k9).1.2.2.2.2.2.2.1) 64 ((rho k9).2.2.2.2.2.2.1), kI cI ((rho k9).1.2.2.2.2.2.2.2) 64 ((rho k9).2.2.2.2.2.2.2)] ++ RX cI rho k9) H := hP
            have hD : va_D A ([kX6 h0 pg bk fg og lg oS lS s1 s2 s3, kQ cR br 9 (fun k => some ((rho k).1.1)), kI cI f1 12 g1, kI cI f2 12 g2, kI cI f3 12 g3, kX0 fg f1 f2 f3 (nI n9) (nI v), kX5 bk br (nI r9), kX4 ((rho k9).1.1) ((rho k9).2.1.1) ((rho k9).1.2.1) ((rho k9).1.2.2.2.2.2.1) ((rho k9).1.2.2.2.2.2.2.1) ((rho k9).1.2.2.2.2.2.2.2), kX0 ((rho k9).1.2.1) ((rho k9).1.2.2.1) ((rho k9).1.2.2.2.1) ((rho k9).1.2.2.2.2.1) ((rho k9).2.1.2.1) ((rho k9).2.1.2.2), kI cI ((rho k9).1.2.2.1) 3 ((rho k9).2.2.1), kI cI ((rho k9).1.2.2.2.1) 3 ((rho k9).2.2.2.1), kI cI ((rho k9).1.2.2.2.2.1) 3 ((rho k9).2.2.2.2.1), kI cI ((rho k9).1.2.2.2.2.2.1) 3 ((rho k9).2.2.2.2.2.1), kI cI ((rho k9).1.2.2.2.2.2.2.1) 64 ((rho k9).2.2.2.2.2.2.1), kI cI ((rho k9).1.2.2.2.2.2.2.2) 64 ((rho k9).2.2.2.2.2.2.2)] ++ RX cI rho k9) := hD
            have hPD : PD D A ([kX6 h0 pg bk fg og lg oS lS s1 s2 s3, kQ cR br 9 (fun k => some ((rho k).1.1)), kI cI f1 12 g1, kI cI f2 12 g2, kI cI f3 12 g3, kX0 fg f1 f2 f3 (nI n9) (nI v), kX5 bk br (nI r9), kX4 ((rho k9).1.1) ((rho k9).2.1.1) ((rho k9).1.2.1) ((rho k9).1.2.2.2.2.2.1) ((rho k9).1.2.2.2.2.2.2.1) ((rho k9).1.2.2.2.2.2.2.2), kX0 ((rho k9).1.2.1) ((rho k9).1.2.2.1) ((rho k9).1.2.2.2.1) ((rho k9).1.2.2.2.2.1) ((rho k9).2.1.2.1) ((rho k9).2.1.2.2), kI cI ((rho k9).1.2.2.1) 3 ((rho k9).2.2.1), kI cI ((rho k9).1.2.2.2.1) 3 ((rho k9).2.2.2.1), kI cI ((rho k9).1.2.2.2.2.1) 3 ((rho k9).2.2.2.2.1), kI cI ((rho k9).1.2.2.2.2.2.1) 3 ((rho k9).2.2.2.2.2.1), kI cI ((rho k9).1.2.2.2.2.2.2.1) 64 ((rho k9).2.2.2.2.2.2.1), kI cI ((rho k9).1.2.2.2.2.2.2.2) 64 ((rho k9).2.2.2.2.2.2.2)] ++ RX cI rho k9) H := (PD.perm ⟨hP, hD⟩ (permB pm_51)).left
            obtain ⟨hP, hD⟩ := unfocus0 (E := [kX6 h0 pg bk fg og lg oS lS s1 s2 s3, kQ cR br 9 (fun k => some ((rho k).1.1)), kI cI f1 12 g1, kI cI f2 12 g2, kI cI f3 12 g3, kX0 fg f1 f2 f3 (nI n9) (nI v), kX5 bk br (nI r9)]) k9 (by omega) hPD.1 hPD.2
            have hP : va_P D vwCl ([kX6 h0 pg bk fg og lg oS lS s1 s2 s3, kQ cR br 9 (fun k => some ((rho k).1.1)), kI cI f1 12 g1, kI cI f2 12 g2, kI cI f3 12 g3, kX0 fg f1 f2 f3 (nI n9) (nI v), kX5 bk br (nI r9)] ++ RB cI rho) H := hP
            have hD : va_D A ([kX6 h0 pg bk fg og lg oS lS s1 s2 s3, kQ cR br 9 (fun k => some ((rho k).1.1)), kI cI f1 12 g1, kI cI f2 12 g2, kI cI f3 12 g3, kX0 fg f1 f2 f3 (nI n9) (nI v), kX5 bk br (nI r9)] ++ RB cI rho) := hD
            refine lv_sipush (v := -1004) hx hb dX6_step_100 (by decide) ?_
            have hPD : PD D A ([kX6 h0 pg bk fg og lg oS lS s1 s2 s3, kX5 bk br (nI r9), kQ cR br 9 (fun k => some ((rho k).1.1)), kX0 fg f1 f2 f3 (nI n9) (nI v), kI cI f1 12 g1, kI cI f2 12 g2, kI cI f3 12 g3] ++ RB cI rho) H := (PD.perm ⟨hP, hD⟩ (permB pm_52)).left
            exact hret _ _ _ _ _ _ (-1004) (oS, s1, s2, n9, v, g1, g2, g3) dX6_step_103 rfl hS (Nat.le_of_ble_eq_true rfl) (Nat.le_of_ble_eq_true rfl) ⟨⟨hf1, hf2, hf3⟩, Or.inr ⟨j9, k9, hj9, hk9, ej9, ek9, Or.inr ⟨c_11, e9, v9, he1, he3, hv5, ee9, ev9, Or.inl ⟨Or.inr (by have := nleN (a := v + v9 - 2) (b := 9) (by omega) (by omega) c_13; omega), rfl, rfl, rfl, rfl, rfl, rfl, rfl, rfl⟩⟩⟩, Or.inr ⟨rfl, rfl, rfl, rfl, rfl, rfl⟩⟩ hPD.1 hPD.2
      · skip
        rw [← ee9] at hP hD
        have hP : va_P D vwCl ([kX6 h0 pg bk fg og lg oS lS s1 s2 s3, kQ cR br 9 (fun k => some ((rho k).1.1)), kI cI f1 12 g1, kI cI f2 12 g2, kI cI f3 12 g3, kX0 fg f1 f2 f3 (nI n9) (nI v), kX5 bk br (nI r9), kX4 ((rho k9).1.1) ((rho k9).2.1.1) ((rho k9).1.2.1) ((rho k9).1.2.2.2.2.2.1) ((rho k9).1.2.2.2.2.2.2.1) ((rho k9).1.2.2.2.2.2.2.2), kX0 ((rho k9).1.2.1) ((rho k9).1.2.2.1) ((rho k9).1.2.2.2.1) ((rho k9).1.2.2.2.2.1) ((rho k9).2.1.2.1) (nI v9), kI cI ((rho k9).1.2.2.1) 3 ((rho k9).2.2.1), kI cI ((rho k9).1.2.2.2.1) 3 ((rho k9).2.2.2.1), kI cI ((rho k9).1.2.2.2.2.1) 3 ((rho k9).2.2.2.2.1), kI cI ((rho k9).1.2.2.2.2.2.1) 3 ((rho k9).2.2.2.2.2.1), kI cI ((rho k9).1.2.2.2.2.2.2.1) 64 ((rho k9).2.2.2.2.2.2.1), kI cI ((rho k9).1.2.2.2.2.2.2.2) 64 ((rho k9).2.2.2.2.2.2.2)] ++ RX cI rho k9) H := hP
        have hD : va_D A ([kX6 h0 pg bk fg og lg oS lS s1 s2 s3, kQ cR br 9 (fun k => some ((rho k).1.1)), kI cI f1 12 g1, kI cI f2 12 g2, kI cI f3 12 g3, kX0 fg f1 f2 f3 (nI n9) (nI v), kX5 bk br (nI r9), kX4 ((rho k9).1.1) ((rho k9).2.1.1) ((rho k9).1.2.1) ((rho k9).1.2.2.2.2.2.1) ((rho k9).1.2.2.2.2.2.2.1) ((rho k9).1.2.2.2.2.2.2.2), kX0 ((rho k9).1.2.1) ((rho k9).1.2.2.1) ((rho k9).1.2.2.2.1) ((rho k9).1.2.2.2.2.1) ((rho k9).2.1.2.1) (nI v9), kI cI ((rho k9).1.2.2.1) 3 ((rho k9).2.2.1), kI cI ((rho k9).1.2.2.2.1) 3 ((rho k9).2.2.2.1), kI cI ((rho k9).1.2.2.2.2.1) 3 ((rho k9).2.2.2.2.1), kI cI ((rho k9).1.2.2.2.2.2.1) 3 ((rho k9).2.2.2.2.2.1), kI cI ((rho k9).1.2.2.2.2.2.2.1) 64 ((rho k9).2.2.2.2.2.2.1), kI cI ((rho k9).1.2.2.2.2.2.2.2) 64 ((rho k9).2.2.2.2.2.2.2)] ++ RX cI rho k9) := hD
        rw [← ev9] at hP hD
        have hP : va_P D vwCl ([kX6 h0 pg bk fg og lg oS lS s1 s2 s3, kQ cR br 9 (fun k => some ((rho k).1.1)), kI cI f1 12 g1, kI cI f2 12 g2, kI cI f3 12 g3, kX0 fg f1 f2 f3 (nI n9) (nI v), kX5 bk br (nI r9), kX4 ((rho k9).1.1) ((rho k9).2.1.1) ((rho k9).1.2.1) ((rho k9).1.2.2.2.2.2.1) ((rho k9).1.2.2.2.2.2.2.1) ((rho k9).1.2.2.2.2.2.2.2), kX0 ((rho k9).1.2.1) ((rho k9).1.2.2.1) ((rho k9).1.2.2.2.1) ((rho k9).1.2.2.2.2.1) ((rho k9).2.1.2.1) ((rho k9).2.1.2.2), kI cI ((rho k9).1.2.2.1) 3 ((rho k9).2.2.1), kI cI ((rho k9).1.2.2.2.1) 3 ((rho k9).2.2.2.1), kI cI ((rho k9).1.2.2.2.2.1) 3 ((rho k9).2.2.2.2.1), kI cI ((rho k9).1.2.2.2.2.2.1) 3 ((rho k9).2.2.2.2.2.1), kI cI ((rho k9).1.2.2.2.2.2.2.1) 64 ((rho k9).2.2.2.2.2.2.1), kI cI ((rho k9).1.2.2.2.2.2.2.2) 64 ((rho k9).2.2.2.2.2.2.2)] ++ RX cI rho k9) H := hP
        have hD : va_D A ([kX6 h0 pg bk fg og lg oS lS s1 s2 s3, kQ cR br 9 (fun k => some ((rho k).1.1)), kI cI f1 12 g1, kI cI f2 12 g2, kI cI f3 12 g3, kX0 fg f1 f2 f3 (nI n9) (nI v), kX5 bk br (nI r9), kX4 ((rho k9).1.1) ((rho k9).2.1.1) ((rho k9).1.2.1) ((rho k9).1.2.2.2.2.2.1) ((rho k9).1.2.2.2.2.2.2.1) ((rho k9).1.2.2.2.2.2.2.2), kX0 ((rho k9).1.2.1) ((rho k9).1.2.2.1) ((rho k9).1.2.2.2.1) ((rho k9).1.2.2.2.2.1) ((rho k9).2.1.2.1) ((rho k9).2.1.2.2), kI cI ((rho k9).1.2.2.1) 3 ((rho k9).2.2.1), kI cI ((rho k9).1.2.2.2.1) 3 ((rho k9).2.2.2.1), kI cI ((rho k9).1.2.2.2.2.1) 3 ((rho k9).2.2.2.2.1), kI cI ((rho k9).1.2.2.2.2.2.1) 3 ((rho k9).2.2.2.2.2.1), kI cI ((rho k9).1.2.2.2.2.2.2.1) 64 ((rho k9).2.2.2.2.2.2.1), kI cI ((rho k9).1.2.2.2.2.2.2.2) 64 ((rho k9).2.2.2.2.2.2.2)] ++ RX cI rho k9) := hD
        have hPD : PD D A ([kX6 h0 pg bk fg og lg oS lS s1 s2 s3, kQ cR br 9 (fun k => some ((rho k).1.1)), kI cI f1 12 g1, kI cI f2 12 g2, kI cI f3 12 g3, kX0 fg f1 f2 f3 (nI n9) (nI v), kX5 bk br (nI r9), kX4 ((rho k9).1.1) ((rho k9).2.1.1) ((rho k9).1.2.1) ((rho k9).1.2.2.2.2.2.1) ((rho k9).1.2.2.2.2.2.2.1) ((rho k9).1.2.2.2.2.2.2.2), kX0 ((rho k9).1.2.1) ((rho k9).1.2.2.1) ((rho k9).1.2.2.2.1) ((rho k9).1.2.2.2.2.1) ((rho k9).2.1.2.1) ((rho k9).2.1.2.2), kI cI ((rho k9).1.2.2.1) 3 ((rho k9).2.2.1), kI cI ((rho k9).1.2.2.2.1) 3 ((rho k9).2.2.2.1), kI cI ((rho k9).1.2.2.2.2.1) 3 ((rho k9).2.2.2.2.1), kI cI ((rho k9).1.2.2.2.2.2.1) 3 ((rho k9).2.2.2.2.2.1), kI cI ((rho k9).1.2.2.2.2.2.2.1) 64 ((rho k9).2.2.2.2.2.2.1), kI cI ((rho k9).1.2.2.2.2.2.2.2) 64 ((rho k9).2.2.2.2.2.2.2)] ++ RX cI rho k9) H := (PD.perm ⟨hP, hD⟩ (permB pm_51)).left
        obtain ⟨hP, hD⟩ := unfocus0 (E := [kX6 h0 pg bk fg og lg oS lS s1 s2 s3, kQ cR br 9 (fun k => some ((rho k).1.1)), kI cI f1 12 g1, kI cI f2 12 g2, kI cI f3 12 g3, kX0 fg f1 f2 f3 (nI n9) (nI v), kX5 bk br (nI r9)]) k9 (by omega) hPD.1 hPD.2
        have hP : va_P D vwCl ([kX6 h0 pg bk fg og lg oS lS s1 s2 s3, kQ cR br 9 (fun k => some ((rho k).1.1)), kI cI f1 12 g1, kI cI f2 12 g2, kI cI f3 12 g3, kX0 fg f1 f2 f3 (nI n9) (nI v), kX5 bk br (nI r9)] ++ RB cI rho) H := hP
        have hD : va_D A ([kX6 h0 pg bk fg og lg oS lS s1 s2 s3, kQ cR br 9 (fun k => some ((rho k).1.1)), kI cI f1 12 g1, kI cI f2 12 g2, kI cI f3 12 g3, kX0 fg f1 f2 f3 (nI n9) (nI v), kX5 bk br (nI r9)] ++ RB cI rho) := hD
        refine lv_sipush (v := -1003) hx hb dX6_step_52 (by decide) ?_
        have hPD : PD D A ([kX6 h0 pg bk fg og lg oS lS s1 s2 s3, kX5 bk br (nI r9), kQ cR br 9 (fun k => some ((rho k).1.1)), kX0 fg f1 f2 f3 (nI n9) (nI v), kI cI f1 12 g1, kI cI f2 12 g2, kI cI f3 12 g3] ++ RB cI rho) H := (PD.perm ⟨hP, hD⟩ (permB pm_52)).left
        exact hret _ _ _ _ _ _ (-1003) (oS, s1, s2, n9, v, g1, g2, g3) dX6_step_55 rfl hS (Nat.le_of_ble_eq_true rfl) (Nat.le_of_ble_eq_true rfl) ⟨⟨hf1, hf2, hf3⟩, Or.inr ⟨j9, k9, hj9, hk9, ej9, ek9, Or.inl ⟨c_11, rfl, rfl, rfl, rfl, rfl, rfl, rfl, rfl⟩⟩, Or.inr ⟨rfl, rfl, rfl, rfl, rfl, rfl⟩⟩ hPD.1 hPD.2
    · skip
      refine lv_sipush (v := -1001) hx hb dX6_step_22 (by decide) ?_
      have hPD : PD D A ([kX6 h0 pg bk fg og lg oS lS s1 s2 s3, kX5 bk br (nI r9), kQ cR br 9 (fun k => some ((rho k).1.1)), kX0 fg f1 f2 f3 (nI n9) (nI v), kI cI f1 12 g1, kI cI f2 12 g2, kI cI f3 12 g3] ++ RB cI rho) H := (PD.perm ⟨hP, hD⟩ (permB pm_52)).left
      exact hret _ _ _ _ _ _ (-1001) (oS, s1, s2, n9, v, g1, g2, g3) dX6_step_25 rfl hS (Nat.le_of_ble_eq_true rfl) (Nat.le_of_ble_eq_true rfl) ⟨hf, Or.inl ⟨Or.inr c_10, rfl, rfl, rfl, rfl, rfl, rfl, rfl, rfl⟩, Or.inr ⟨rfl, rfl, rfl, rfl, rfl, rfl⟩⟩ hPD.1 hPD.2
set_option maxHeartbeats 4000000 in
set_option maxRecDepth 100000 in
theorem c_X6_edge (sz : Nat) (h0 : Nat) (pg : Nat) (bk : Nat) (fg : Nat) (og : Nat) (lg : Nat) (oS : Int32) (lS : Int32) (s1 : Int32) (s2 : Int32) (s3 : Int32) (f1 : Nat) (f2 : Nat) (f3 : Nat) (n9 : Nat) (v : Nat) (g1 : Nat → Int32) (g2 : Nat → Int32) (g3 : Nat → Int32) (p0 : Int32) (hf : FgI n9 v) : CTi l D cI cJ cZ cR yX6_edge cX6_edge 2 (some .int) 1 21 0 0 sz [.ref h0, .int p0] [kX6 h0 pg bk fg og lg oS lS s1 s2 s3, kX0 fg f1 f2 f3 (nI n9) (nI v), kI cI f1 12 g1, kI cI f2 12 g2, kI cI f3 12 g3] (fun (r : Int32) (u : Unit) => ((hs p0 n9 = 0 ∧ r = -1001) ∨ ∃ j, j < n9 ∧ p0 = nI j ∧ r = ((100 * (g1 j)) + (10 * (g2 j))) + (g3 j))) (fun (u : Unit) => [kX6 h0 pg bk fg og lg oS lS s1 s2 s3, kX0 fg f1 f2 f3 (nI n9) (nI v), kI cI f1 12 g1, kI cI f2 12 g2, kI cI f3 12 g3]) := by
  refine CTi.of (ty := .int) (by decide) (Nat.le_of_ble_eq_true rfl) rfl ?_
  intro p e s m below meth c A Q ls hd hin hK hsz hP hD hA hS hl hret
  obtain ⟨hx, hb, hml, hown, hts⟩ := id hd
  have hK1 := hK.1
  have hown : s.vm.findClass RX6 = some m.cls := hown
  have hl : lv_has ls 2 [(0, .ref h0), (1, .int p0)] := hl
  refine lv_aload_n hx hb dX6_edge_0 rfl (lv_at hl 0 rfl) ?_
  refine va_get (D := D) (ci := 6) (v := .ref fg) (C := RX6) (T := TX6) (N := 10) hx hb hts iT_X6 hown hK1 hP 0 rfl rfl 2 (by decide) (hts _ t_156) (fun _ h9 => h9) rfl dX6_edge_1 ?_
  refine lv_iload_n hx hb dX6_edge_4 rfl (lv_at hl 1 rfl) ?_
  refine xc_i (wc := [kX0 fg f1 f2 f3 (nI n9) (nI v)]) (wr := [kX6 h0 pg bk fg og lg oS lS s1 s2 s3, kI cI f1 12 g1, kI cI f2 12 g2, kI cI f3 12 g3]) (xrV (n := 1) (As := [.int p0]) (rest := []) (ci := 0) (q0 := 1) hd hK hP hD (c_X0_has l D cI cJ cZ cR _ fg f1 f2 f3 n9 v p0 ) (gV t_332 mV_X0_has) hV_X0_has ⟨(Nat.le_of_ble_eq_true rfl), (Nat.le_of_ble_eq_true rfl)⟩ rfl rfl [1] rfl rfl rfl hl.1 rfl (Nat.le_of_ble_eq_true rfl) dX6_edge_5 ⟨(Nat.le_of_ble_eq_true rfl), (Nat.le_of_ble_eq_true rfl)⟩) hP hD hS hA [1] [0, 2, 3, 4] rfl rfl rfl (by decide) (fun r_1 u_2 H locs hw_3 hP hD hS => ?_)
  have hw_4 : r_1 = (hs p0 n9) := hw_3
  subst hw_4
  have hP : va_P D vwCl [kX6 h0 pg bk fg og lg oS lS s1 s2 s3, kI cI f1 12 g1, kI cI f2 12 g2, kI cI f3 12 g3, kX0 fg f1 f2 f3 (nI n9) (nI v)] H := hP
  have hD : va_D A [kX6 h0 pg bk fg og lg oS lS s1 s2 s3, kI cI f1 12 g1, kI cI f2 12 g2, kI cI f3 12 g3, kX0 fg f1 f2 f3 (nI n9) (nI v)] := hD
  refine lv_if_eq (tgt := 22) hx hb dX6_edge_8 (by decide) (fun c_5 => ?_) (fun c_5 => ?_)
  · skip
    refine lv_sipush (v := -1001) hx hb dX6_edge_22 (by decide) ?_
    exact hret _ _ _ _ _ _ (-1001) () dX6_edge_25 rfl hS (Nat.le_of_ble_eq_true rfl) (Nat.le_of_ble_eq_true rfl) (Or.inl ⟨c_5, rfl⟩) (hP.sub [0, 4, 1, 2, 3] rfl) (hD.sub [0, 4, 1, 2, 3] rfl rfl)
  · skip
    obtain ⟨j9, hj9, ej9⟩ := hs_y (by have := hf.1; omega) c_5
    refine lv_aload_n hx hb dX6_edge_11 rfl (lv_at hl 0 rfl) ?_
    refine va_get (D := D) (ci := 6) (v := .ref fg) (C := RX6) (T := TX6) (N := 10) hx hb hts iT_X6 hown hK1 hP 0 rfl rfl 2 (by decide) (hts _ t_156) (fun _ h9 => h9) rfl dX6_edge_12 ?_
    refine lv_iload_n hx hb dX6_edge_15 rfl (lv_at hl 1 rfl) ?_
    refine lv_nmi (show _ = (nI j9 : Int32) from ej9) ?_
    refine xc_i (wc := [kX0 fg f1 f2 f3 (nI n9) (nI v), kI cI f1 12 g1, kI cI f2 12 g2, kI cI f3 12 g3]) (wr := [kX6 h0 pg bk fg og lg oS lS s1 s2 s3]) (xrV (n := 1) (As := [.int (nI j9)]) (rest := []) (ci := 0) (q0 := 4) hd hK hP hD (c_X0_told l D cI cJ cZ cR _ fg f1 f2 f3 12 n9 v j9 g1 g2 g3 (by decide) (by have := hf.1; omega)) (gV t_333 mV_X0_told) hV_X0_told ⟨(Nat.le_of_ble_eq_true rfl), (Nat.le_of_ble_eq_true rfl)⟩ rfl rfl [4, 1, 2, 3] rfl rfl rfl hl.1 rfl (Nat.le_of_ble_eq_true rfl) dX6_edge_16 ⟨(Nat.le_of_ble_eq_true rfl), (Nat.le_of_ble_eq_true rfl)⟩) hP hD hS hA [4, 1, 2, 3] [0] rfl rfl rfl (by decide) (fun r_6 u_7 H locs hw_8 hP hD hS => ?_)
    have hw_9 : r_6 = (((100 * (g1 j9)) + (10 * (g2 j9))) + (g3 j9)) := hw_8
    subst hw_9
    have hP : va_P D vwCl [kX6 h0 pg bk fg og lg oS lS s1 s2 s3, kX0 fg f1 f2 f3 (nI n9) (nI v), kI cI f1 12 g1, kI cI f2 12 g2, kI cI f3 12 g3] H := hP
    have hD : va_D A [kX6 h0 pg bk fg og lg oS lS s1 s2 s3, kX0 fg f1 f2 f3 (nI n9) (nI v), kI cI f1 12 g1, kI cI f2 12 g2, kI cI f3 12 g3] := hD
    refine lv_goto (tgt := 25) hx hb dX6_edge_19 (by decide) ?_
    exact hret _ _ _ _ _ _ (((100 * (g1 j9)) + (10 * (g2 j9))) + (g3 j9)) () dX6_edge_25 rfl hS (Nat.le_of_ble_eq_true rfl) (Nat.le_of_ble_eq_true rfl) (Or.inr ⟨j9, hj9, ej9, rfl⟩) (hP.sub [0, 1, 2, 3, 4] rfl) (hD.sub [0, 1, 2, 3, 4] rfl rfl)
set_option maxHeartbeats 4000000 in
set_option maxRecDepth 100000 in
theorem c_X6_kind (sz : Nat) (h0 : Nat) (pg : Nat) (bk : Nat) (fg : Nat) (og : Nat) (lg : Nat) (oS : Int32) (lS : Int32) (s1 : Int32) (s2 : Int32) (s3 : Int32) (f1 : Nat) (f2 : Nat) (f3 : Nat) (n9 : Nat) (v : Nat) (g1 : Nat → Int32) (g2 : Nat → Int32) (g3 : Nat → Int32) (hf : FgI n9 v) : CTi l D cI cJ cZ cR yX6_kind cX6_kind 1 (some .int) 3 72 0 0 sz [.ref h0] [kX6 h0 pg bk fg og lg oS lS s1 s2 s3, kX0 fg f1 f2 f3 (nI n9) (nI v), kI cI f1 12 g1, kI cI f2 12 g2, kI cI f3 12 g3] (fun (r : Int32) (u : Unit) => (KdC g1 g2 g3 n9 v r)) (fun (u : Unit) => [kX6 h0 pg bk fg og lg oS lS s1 s2 s3, kX0 fg f1 f2 f3 (nI n9) (nI v), kI cI f1 12 g1, kI cI f2 12 g2, kI cI f3 12 g3]) := by
  refine CTi.of (ty := .int) (by decide) (Nat.le_of_ble_eq_true rfl) rfl ?_
  intro p e s m below meth c A Q ls hd hin hK hsz hP hD hA hS hl hret
  obtain ⟨hx, hb, hml, hown, hts⟩ := id hd
  have hK1 := hK.1
  have hown : s.vm.findClass RX6 = some m.cls := hown
  have hl : lv_has ls 1 [(0, .ref h0)] := hl
  refine lv_aload_n hx hb dX6_kind_0 rfl (lv_at hl 0 rfl) ?_
  refine va_get (D := D) (ci := 6) (v := .ref fg) (C := RX6) (T := TX6) (N := 10) hx hb hts iT_X6 hown hK1 hP 0 rfl rfl 2 (by decide) (hts _ t_156) (fun _ h9 => h9) rfl dX6_kind_1 ?_
  refine xc_i (wc := [kX0 fg f1 f2 f3 (nI n9) (nI v), kI cI f1 12 g1, kI cI f2 12 g2, kI cI f3 12 g3]) (wr := [kX6 h0 pg bk fg og lg oS lS s1 s2 s3]) (xrV (n := 0) (As := []) (rest := []) (ci := 0) (q0 := 1) hd hK hP hD (c_X0_isDone l D cI cJ cZ cR _ fg f1 f2 f3 12 n9 v g1 g2 g3 (by decide) hf.1) (gV t_365 mV_X0_isDone) hV_X0_isDone ⟨(Nat.le_of_ble_eq_true rfl), (Nat.le_of_ble_eq_true rfl)⟩ rfl rfl [1, 2, 3, 4] rfl rfl rfl hl.1 rfl (Nat.le_of_ble_eq_true rfl) dX6_kind_4 ⟨(Nat.le_of_ble_eq_true rfl), (Nat.le_of_ble_eq_true rfl)⟩) hP hD hS hA [1, 2, 3, 4] [0] rfl rfl rfl (by decide) (fun r_1 u_2 H locs hw_3 hP hD hS => ?_)
  have hw_4 : r_1 = (isD g1 n9) := hw_3
  subst hw_4
  have hP : va_P D vwCl [kX6 h0 pg bk fg og lg oS lS s1 s2 s3, kX0 fg f1 f2 f3 (nI n9) (nI v), kI cI f1 12 g1, kI cI f2 12 g2, kI cI f3 12 g3] H := hP
  have hD : va_D A [kX6 h0 pg bk fg og lg oS lS s1 s2 s3, kX0 fg f1 f2 f3 (nI n9) (nI v), kI cI f1 12 g1, kI cI f2 12 g2, kI cI f3 12 g3] := hD
  refine lv_if_eq (tgt := 20) hx hb dX6_kind_7 (by decide) (fun c_5 => ?_) (fun c_5 => ?_)
  · skip
    refine lv_sipush (v := -1003) hx hb dX6_kind_20 (by decide) ?_
    exact hret _ _ _ _ _ _ (-1003) () dX6_kind_23 rfl hS (Nat.le_of_ble_eq_true rfl) (Nat.le_of_ble_eq_true rfl) (Or.inl ⟨c_5, rfl⟩) (hP.sub [0, 1, 2, 3, 4] rfl) (hD.sub [0, 1, 2, 3, 4] rfl rfl)
  · skip
    refine lv_aload_n hx hb dX6_kind_10 rfl (lv_at hl 0 rfl) ?_
    refine va_get (D := D) (ci := 6) (v := .ref fg) (C := RX6) (T := TX6) (N := 10) hx hb hts iT_X6 hown hK1 hP 0 rfl rfl 2 (by decide) (hts _ t_156) (fun _ h9 => h9) rfl dX6_kind_11 ?_
    refine xc_i (wc := [kX0 fg f1 f2 f3 (nI n9) (nI v), kI cI f1 12 g1, kI cI f2 12 g2, kI cI f3 12 g3]) (wr := [kX6 h0 pg bk fg og lg oS lS s1 s2 s3]) (xrV (n := 0) (As := []) (rest := []) (ci := 0) (q0 := 1) hd hK hP hD (c_X0_ownKind l D cI cJ cZ cR _ fg f1 f2 f3 12 n9 v g1 g2 g3 (by decide) hf.1 (isD_v hf c_5) hf.2.1) (gV t_374 mV_X0_ownKind) hV_X0_ownKind ⟨(Nat.le_of_ble_eq_true rfl), (Nat.le_of_ble_eq_true rfl)⟩ rfl rfl [1, 2, 3, 4] rfl rfl rfl hl.1 rfl (Nat.le_of_ble_eq_true rfl) dX6_kind_14 ⟨(Nat.le_of_ble_eq_true rfl), (Nat.le_of_ble_eq_true rfl)⟩) hP hD hS hA [1, 2, 3, 4] [0] rfl rfl rfl (by decide) (fun r_6 u_7 H locs hw_8 hP hD hS => ?_)
    have hw_9 : OwK g1 g2 g3 n9 v r_6 := hw_8
    have hP : va_P D vwCl [kX6 h0 pg bk fg og lg oS lS s1 s2 s3, kX0 fg f1 f2 f3 (nI n9) (nI v), kI cI f1 12 g1, kI cI f2 12 g2, kI cI f3 12 g3] H := hP
    have hD : va_D A [kX6 h0 pg bk fg og lg oS lS s1 s2 s3, kX0 fg f1 f2 f3 (nI n9) (nI v), kI cI f1 12 g1, kI cI f2 12 g2, kI cI f3 12 g3] := hD
    refine lv_goto (tgt := 23) hx hb dX6_kind_17 (by decide) ?_
    exact hret _ _ _ _ _ _ r_6 () dX6_kind_23 rfl hS (Nat.le_of_ble_eq_true rfl) (Nat.le_of_ble_eq_true rfl) (Or.inr ⟨c_5, hw_9⟩) (hP.sub [0, 1, 2, 3, 4] rfl) (hD.sub [0, 1, 2, 3, 4] rfl rfl)
set_option maxHeartbeats 4000000 in
set_option maxRecDepth 100000 in
theorem c_X6_count (sz : Nat) (h0 : Nat) (pg : Nat) (bk : Nat) (fg : Nat) (og : Nat) (lg : Nat) (oS : Int32) (lS : Int32) (s1 : Int32) (s2 : Int32) (s3 : Int32) (pc : Nat) (z : Nat) (br : Nat) (r9 : Nat) (f1 : Nat) (f2 : Nat) (f3 : Nat) (n9 : Nat) (v : Nat) (g1 : Nat → Int32) (g2 : Nat → Int32) (g3 : Nat → Int32) (p0 : Int32) (hf : FgI n9 v) : CTi l D cI cJ cZ cR yX6_count cX6_count 2 (some .int) 2 42 0 0 sz [.ref h0, .int p0] [kX6 h0 pg bk fg og lg oS lS s1 s2 s3, kX3 pg pc (nI z), kX5 bk br (nI r9), kX0 fg f1 f2 f3 (nI n9) (nI v), kI cI f1 12 g1, kI cI f2 12 g2, kI cI f3 12 g3] (fun (r : Int32) (u : Unit) => (r = (cntF p0 (nI z) (nI r9) (nI n9) (nI v) (opE g1 n9) s1 s2 s3))) (fun (u : Unit) => [kX6 h0 pg bk fg og lg oS lS s1 s2 s3, kX3 pg pc (nI z), kX5 bk br (nI r9), kX0 fg f1 f2 f3 (nI n9) (nI v), kI cI f1 12 g1, kI cI f2 12 g2, kI cI f3 12 g3]) := by
  refine CTi.of (ty := .int) (by decide) (Nat.le_of_ble_eq_true rfl) rfl ?_
  intro p e s m below meth c A Q ls hd hin hK hsz hP hD hA hS hl hret
  obtain ⟨hx, hb, hml, hown, hts⟩ := id hd
  have hK1 := hK.1
  have hown : s.vm.findClass RX6 = some m.cls := hown
  have hl : lv_has ls 2 [(0, .ref h0), (1, .int p0)] := hl
  refine lv_iload_n hx hb dX6_count_0 rfl (lv_at hl 1 rfl) ?_
  rcases sw_7 p0 with c_1 | c_1 | c_1 | c_1 | c_1 | c_1 | c_1 | c_1 | c_1
  · refine lv_nmi c_1 ?_
    refine lv_tableIn (off := 47) (tgt := 48) hx hb dX6_count_1 (by decide) (by decide) (by decide) (by decide) ?_
    refine lv_aload_n hx hb dX6_count_48 rfl (lv_at hl 0 rfl) ?_
    refine va_get (D := D) (ci := 6) (v := .ref pg) (C := RX6) (T := TX6) (N := 10) hx hb hts iT_X6 hown hK1 hP 0 rfl rfl 0 (by decide) (hts _ t_154) (fun _ h9 => h9) rfl dX6_count_49 ?_
    refine va_get (D := D) (ci := 3) (v := .int (nI z)) (C := RX3) (T := TX3) (N := 2) hx hb hts iT_X3 hown hK1 hP 1 rfl rfl 1 (by decide) (hts _ t_29) (fun _ h9 => h9) rfl dX6_count_52 ?_
    exact hret _ _ _ _ _ _ (nI z) () dX6_count_55 rfl hS (Nat.le_of_ble_eq_true rfl) (Nat.le_of_ble_eq_true rfl) (by rw [c_1]; rfl) (hP.sub [0, 1, 2, 3, 4, 5, 6] rfl) (hD.sub [0, 1, 2, 3, 4, 5, 6] rfl rfl)
  · refine lv_nmi c_1 ?_
    refine lv_tableIn (off := 55) (tgt := 56) hx hb dX6_count_1 (by decide) (by decide) (by decide) (by decide) ?_
    refine lv_aload_n hx hb dX6_count_56 rfl (lv_at hl 0 rfl) ?_
    refine va_get (D := D) (ci := 6) (v := .ref bk) (C := RX6) (T := TX6) (N := 10) hx hb hts iT_X6 hown hK1 hP 0 rfl rfl 1 (by decide) (hts _ t_155) (fun _ h9 => h9) rfl dX6_count_57 ?_
    refine va_get (D := D) (ci := 5) (v := .int (nI r9)) (C := RX5) (T := TX5) (N := 2) hx hb hts iT_X5 hown hK1 hP 2 rfl rfl 1 (by decide) (hts _ t_107) (fun _ h9 => h9) rfl dX6_count_60 ?_
    exact hret _ _ _ _ _ _ (nI r9) () dX6_count_63 rfl hS (Nat.le_of_ble_eq_true rfl) (Nat.le_of_ble_eq_true rfl) (by rw [c_1]; rfl) (hP.sub [0, 1, 2, 3, 4, 5, 6] rfl) (hD.sub [0, 1, 2, 3, 4, 5, 6] rfl rfl)
  · refine lv_nmi c_1 ?_
    refine lv_tableIn (off := 63) (tgt := 64) hx hb dX6_count_1 (by decide) (by decide) (by decide) (by decide) ?_
    refine lv_aload_n hx hb dX6_count_64 rfl (lv_at hl 0 rfl) ?_
    refine va_get (D := D) (ci := 6) (v := .ref fg) (C := RX6) (T := TX6) (N := 10) hx hb hts iT_X6 hown hK1 hP 0 rfl rfl 2 (by decide) (hts _ t_156) (fun _ h9 => h9) rfl dX6_count_65 ?_
    refine va_get (D := D) (ci := 0) (v := .int (nI n9)) (C := RX0) (T := TX0) (N := 5) hx hb hts iT_X0 hown hK1 hP 3 rfl rfl 3 (by decide) (hts _ t_64) (fun _ h9 => h9) rfl dX6_count_68 ?_
    exact hret _ _ _ _ _ _ (nI n9) () dX6_count_71 rfl hS (Nat.le_of_ble_eq_true rfl) (Nat.le_of_ble_eq_true rfl) (by rw [c_1]; rfl) (hP.sub [0, 1, 2, 3, 4, 5, 6] rfl) (hD.sub [0, 1, 2, 3, 4, 5, 6] rfl rfl)
  · refine lv_nmi c_1 ?_
    refine lv_tableIn (off := 71) (tgt := 72) hx hb dX6_count_1 (by decide) (by decide) (by decide) (by decide) ?_
    refine lv_aload_n hx hb dX6_count_72 rfl (lv_at hl 0 rfl) ?_
    refine va_get (D := D) (ci := 6) (v := .ref fg) (C := RX6) (T := TX6) (N := 10) hx hb hts iT_X6 hown hK1 hP 0 rfl rfl 2 (by decide) (hts _ t_156) (fun _ h9 => h9) rfl dX6_count_73 ?_
    refine va_get (D := D) (ci := 0) (v := .int (nI v)) (C := RX0) (T := TX0) (N := 5) hx hb hts iT_X0 hown hK1 hP 3 rfl rfl 4 (by decide) (hts _ t_67) (fun _ h9 => h9) rfl dX6_count_76 ?_
    exact hret _ _ _ _ _ _ (nI v) () dX6_count_79 rfl hS (Nat.le_of_ble_eq_true rfl) (Nat.le_of_ble_eq_true rfl) (by rw [c_1]; rfl) (hP.sub [0, 1, 2, 3, 4, 5, 6] rfl) (hD.sub [0, 1, 2, 3, 4, 5, 6] rfl rfl)
  · refine lv_nmi c_1 ?_
    refine lv_tableIn (off := 79) (tgt := 80) hx hb dX6_count_1 (by decide) (by decide) (by decide) (by decide) ?_
    refine lv_aload_n hx hb dX6_count_80 rfl (lv_at hl 0 rfl) ?_
    refine va_get (D := D) (ci := 6) (v := .ref fg) (C := RX6) (T := TX6) (N := 10) hx hb hts iT_X6 hown hK1 hP 0 rfl rfl 2 (by decide) (hts _ t_156) (fun _ h9 => h9) rfl dX6_count_81 ?_
    refine xc_i (wc := [kX0 fg f1 f2 f3 (nI n9) (nI v), kI cI f1 12 g1, kI cI f2 12 g2, kI cI f3 12 g3]) (wr := [kX6 h0 pg bk fg og lg oS lS s1 s2 s3, kX3 pg pc (nI z), kX5 bk br (nI r9)]) (xrV (n := 0) (As := []) (rest := []) (ci := 0) (q0 := 3) hd hK hP hD (c_X0_openEdges l D cI cJ cZ cR _ fg f1 f2 f3 12 n9 v g1 g2 g3 (by decide) hf.1) (gV t_528 mV_X0_openEdges) hV_X0_openEdges ⟨(Nat.le_of_ble_eq_true rfl), (Nat.le_of_ble_eq_true rfl)⟩ rfl rfl [3, 4, 5, 6] rfl rfl rfl hl.1 rfl (Nat.le_of_ble_eq_true rfl) dX6_count_84 ⟨(Nat.le_of_ble_eq_true rfl), (Nat.le_of_ble_eq_true rfl)⟩) hP hD hS hA [3, 4, 5, 6] [0, 1, 2] rfl rfl rfl (by decide) (fun r_2 u_3 H locs hw_4 hP hD hS => ?_)
    have hw_5 : r_2 = (opE g1 n9) := hw_4
    subst hw_5
    have hP : va_P D vwCl [kX6 h0 pg bk fg og lg oS lS s1 s2 s3, kX3 pg pc (nI z), kX5 bk br (nI r9), kX0 fg f1 f2 f3 (nI n9) (nI v), kI cI f1 12 g1, kI cI f2 12 g2, kI cI f3 12 g3] H := hP
    have hD : va_D A [kX6 h0 pg bk fg og lg oS lS s1 s2 s3, kX3 pg pc (nI z), kX5 bk br (nI r9), kX0 fg f1 f2 f3 (nI n9) (nI v), kI cI f1 12 g1, kI cI f2 12 g2, kI cI f3 12 g3] := hD
    exact hret _ _ _ _ _ _ (opE g1 n9) () dX6_count_87 rfl hS (Nat.le_of_ble_eq_true rfl) (Nat.le_of_ble_eq_true rfl) (by rw [c_1]; rfl) (hP.sub [0, 1, 2, 3, 4, 5, 6] rfl) (hD.sub [0, 1, 2, 3, 4, 5, 6] rfl rfl)
  · refine lv_nmi c_1 ?_
    refine lv_tableIn (off := 87) (tgt := 88) hx hb dX6_count_1 (by decide) (by decide) (by decide) (by decide) ?_
    refine lv_aload_n hx hb dX6_count_88 rfl (lv_at hl 0 rfl) ?_
    refine va_get (D := D) (ci := 6) (v := .int s1) (C := RX6) (T := TX6) (N := 10) hx hb hts iT_X6 hown hK1 hP 0 rfl rfl 7 (by decide) (hts _ t_161) (fun _ h9 => h9) rfl dX6_count_89 ?_
    exact hret _ _ _ _ _ _ s1 () dX6_count_92 rfl hS (Nat.le_of_ble_eq_true rfl) (Nat.le_of_ble_eq_true rfl) (by rw [c_1]; rfl) (hP.sub [0, 1, 2, 3, 4, 5, 6] rfl) (hD.sub [0, 1, 2, 3, 4, 5, 6] rfl rfl)
  · refine lv_nmi c_1 ?_
    refine lv_tableIn (off := 92) (tgt := 93) hx hb dX6_count_1 (by decide) (by decide) (by decide) (by decide) ?_
    refine lv_aload_n hx hb dX6_count_93 rfl (lv_at hl 0 rfl) ?_
    refine va_get (D := D) (ci := 6) (v := .int s2) (C := RX6) (T := TX6) (N := 10) hx hb hts iT_X6 hown hK1 hP 0 rfl rfl 8 (by decide) (hts _ t_162) (fun _ h9 => h9) rfl dX6_count_94 ?_
    exact hret _ _ _ _ _ _ s2 () dX6_count_97 rfl hS (Nat.le_of_ble_eq_true rfl) (Nat.le_of_ble_eq_true rfl) (by rw [c_1]; rfl) (hP.sub [0, 1, 2, 3, 4, 5, 6] rfl) (hD.sub [0, 1, 2, 3, 4, 5, 6] rfl rfl)
  · refine lv_nmi c_1 ?_
    refine lv_tableIn (off := 97) (tgt := 98) hx hb dX6_count_1 (by decide) (by decide) (by decide) (by decide) ?_
    refine lv_aload_n hx hb dX6_count_98 rfl (lv_at hl 0 rfl) ?_
    refine va_get (D := D) (ci := 6) (v := .int s3) (C := RX6) (T := TX6) (N := 10) hx hb hts iT_X6 hown hK1 hP 0 rfl rfl 9 (by decide) (hts _ t_163) (fun _ h9 => h9) rfl dX6_count_99 ?_
    exact hret _ _ _ _ _ _ s3 () dX6_count_102 rfl hS (Nat.le_of_ble_eq_true rfl) (Nat.le_of_ble_eq_true rfl) (by rw [c_1]; rfl) (hP.sub [0, 1, 2, 3, 4, 5, 6] rfl) (hD.sub [0, 1, 2, 3, 4, 5, 6] rfl rfl)
  · refine lv_tableOut (tgt := 103) hx hb dX6_count_1 c_1 (by decide) ?_
    refine lv_sipush (v := -1002) hx hb dX6_count_103 (by decide) ?_
    exact hret _ _ _ _ _ _ (-1002) () dX6_count_106 rfl hS (Nat.le_of_ble_eq_true rfl) (Nat.le_of_ble_eq_true rfl) (cnt_o c_1).symm (hP.sub [0, 1, 2, 3, 4, 5, 6] rfl) (hD.sub [0, 1, 2, 3, 4, 5, 6] rfl rfl)
set_option maxHeartbeats 4000000 in
set_option maxRecDepth 100000 in
theorem c_X6_fewest (sz : Nat) (h0 : Nat) (pg : Nat) (bk : Nat) (fg : Nat) (og : Nat) (lg : Nat) (oS : Int32) (lS : Int32) (s1 : Int32) (s2 : Int32) (s3 : Int32) (br : Nat) (r9 : Nat) (rho : Nat → RT) (f1 : Nat) (f2 : Nat) (f3 : Nat) (n9 : Nat) (v : Nat) (g1 : Nat → Int32) (g2 : Nat → Int32) (g3 : Nat → Int32) (o1 : Nat) (o2 : Nat) (sf : Nat → Int32) (sd : Nat → Int32) (p0 : Int32) (hr : r9 ≤ 9) (hB : BI rho r9) (hf : FgI n9 v) (hG : GI n9 v g1 g2 g3) (hRQ : RRQ rho r9) (hOS : ¬ oS = 0 → OFin n9 v g1 g2 g3 rho r9 sf) : CTi l D cI cJ cZ cR yX6_fewest cX6_fewest 3 (some .int) 6 165 0 0 sz [.ref h0, .int p0] ([kX6 h0 pg bk fg og lg oS lS s1 s2 s3, kX5 bk br (nI r9), kQ cR br 9 (fun k => some ((rho k).1.1)), kX0 fg f1 f2 f3 (nI n9) (nI v), kI cI f1 12 g1, kI cI f2 12 g2, kI cI f3 12 g3, kX2 og o1 o2, kI cI o1 2400 sf, kI cI o2 4 sd] ++ RB cI rho) (fun (r : Int32) (u : Int32 × (Nat → Int32) × (Nat → Int32)) => (FeC p0 n9 v g1 g2 g3 rho r9 r) ∧ (¬ u.1 = 0 → OFin n9 v g1 g2 g3 rho r9 u.2.1)) (fun (u : Int32 × (Nat → Int32) × (Nat → Int32)) => ([kX6 h0 pg bk fg og lg u.1 lS s1 s2 s3, kX5 bk br (nI r9), kQ cR br 9 (fun k => some ((rho k).1.1)), kX0 fg f1 f2 f3 (nI n9) (nI v), kI cI f1 12 g1, kI cI f2 12 g2, kI cI f3 12 g3, kX2 og o1 o2, kI cI o1 2400 u.2.1, kI cI o2 4 u.2.2] ++ RB cI rho)) := by
  refine CTi.of (ty := .int) (by decide) (Nat.le_of_ble_eq_true rfl) rfl ?_
  intro p e s m below meth c A Q ls hd hin hK hsz hP hD hA hS hl hret
  obtain ⟨hx, hb, hml, hown, hts⟩ := id hd
  have hK1 := hK.1
  have hown : s.vm.findClass RX6 = some m.cls := hown
  have hl : lv_has ls 3 [(0, .ref h0), (1, .int p0)] := hl
  refine lv_iload_n hx hb dX6_fewest_0 rfl (lv_at hl 1 rfl) ?_
  have hPD : PD D A ([] ++ ([kX6 h0 pg bk fg og lg oS lS s1 s2 s3, kX5 bk br (nI r9), kQ cR br 9 (fun k => some ((rho k).1.1)), kX0 fg f1 f2 f3 (nI n9) (nI v), kI cI f1 12 g1, kI cI f2 12 g2, kI cI f3 12 g3, kX2 og o1 o2, kI cI o1 2400 sf, kI cI o2 4 sd] ++ RB cI rho)) s.heap := PD.perm ⟨hP, hD⟩ (permA pm_56)
  refine xp_i (wc := []) (wr := ([kX6 h0 pg bk fg og lg oS lS s1 s2 s3, kX5 bk br (nI r9), kQ cR br 9 (fun k => some ((rho k).1.1)), kX0 fg f1 f2 f3 (nI n9) (nI v), kI cI f1 12 g1, kI cI f2 12 g2, kI cI f3 12 g3, kX2 og o1 o2, kI cI o1 2400 sf, kI cI o2 4 sd] ++ RB cI rho)) (xqS (n := 1) (As := [.int p0]) (rest := []) hd hK hPD.left (c_X6_isOpen l D cI cJ cZ cR _ p0 ) (gS t_341 mS_X6_isOpen) hS_X6_isOpen ⟨(Nat.le_of_ble_eq_true rfl), (Nat.le_of_ble_eq_true rfl)⟩ rfl hl.1 rfl (Nat.le_of_ble_eq_true rfl) dX6_fewest_1 ⟨(Nat.le_of_ble_eq_true rfl), (Nat.le_of_ble_eq_true rfl)⟩) hPD hS hA (fun r_1 u_2 H locs hw_3 hPD hS => ?_)
  have hw_4 : r_1 = (opn p0) := hw_3
  subst hw_4
  obtain ⟨hP, hD⟩ := hPD.perm permA'
  have hP : va_P D vwCl ([kX6 h0 pg bk fg og lg oS lS s1 s2 s3, kX5 bk br (nI r9), kQ cR br 9 (fun k => some ((rho k).1.1)), kX0 fg f1 f2 f3 (nI n9) (nI v), kI cI f1 12 g1, kI cI f2 12 g2, kI cI f3 12 g3, kX2 og o1 o2, kI cI o1 2400 sf, kI cI o2 4 sd] ++ RB cI rho) H := hP
  have hD : va_D A ([kX6 h0 pg bk fg og lg oS lS s1 s2 s3, kX5 bk br (nI r9), kQ cR br 9 (fun k => some ((rho k).1.1)), kX0 fg f1 f2 f3 (nI n9) (nI v), kI cI f1 12 g1, kI cI f2 12 g2, kI cI f3 12 g3, kX2 og o1 o2, kI cI o1 2400 sf, kI cI o2 4 sd] ++ RB cI rho) := hD
  refine lv_if_ne (tgt := 11) hx hb dX6_fewest_4 (by decide) (fun c_5 => ?_) (fun c_5 => ?_)
  · skip
    obtain ⟨a9, ha9, ea9⟩ := opn_y c_5
    refine lv_aload_n hx hb dX6_fewest_11 rfl (lv_at hl 0 rfl) ?_
    refine va_get (D := D) (ci := 6) (v := .ref fg) (C := RX6) (T := TX6) (N := 10) hx hb hts iT_X6 hown hK1 hP 0 rfl rfl 2 (by decide) (hts _ t_156) (fun _ h9 => h9) rfl dX6_fewest_12 ?_
    have hPD : PD D A ([kX0 fg f1 f2 f3 (nI n9) (nI v), kI cI f1 12 g1, kI cI f2 12 g2, kI cI f3 12 g3] ++ ([kX6 h0 pg bk fg og lg oS lS s1 s2 s3, kX5 bk br (nI r9), kQ cR br 9 (fun k => some ((rho k).1.1)), kX2 og o1 o2, kI cI o1 2400 sf, kI cI o2 4 sd] ++ RB cI rho)) H := PD.perm ⟨hP, hD⟩ (permA pm_57)
    refine xp_i (wc := [kX0 fg f1 f2 f3 (nI n9) (nI v), kI cI f1 12 g1, kI cI f2 12 g2, kI cI f3 12 g3]) (wr := ([kX6 h0 pg bk fg og lg oS lS s1 s2 s3, kX5 bk br (nI r9), kQ cR br 9 (fun k => some ((rho k).1.1)), kX2 og o1 o2, kI cI o1 2400 sf, kI cI o2 4 sd] ++ RB cI rho)) (xqV (n := 0) (As := []) (rest := []) (ci := 0) (q0 := 0) hd hK hPD.left (c_X0_isDone l D cI cJ cZ cR _ fg f1 f2 f3 12 n9 v g1 g2 g3 (by decide) hf.1) (gV t_365 mV_X0_isDone) hV_X0_isDone ⟨(Nat.le_of_ble_eq_true rfl), (Nat.le_of_ble_eq_true rfl)⟩ rfl rfl rfl hl.1 rfl (Nat.le_of_ble_eq_true rfl) dX6_fewest_15 ⟨(Nat.le_of_ble_eq_true rfl), (Nat.le_of_ble_eq_true rfl)⟩) hPD hS hA (fun r_6 u_7 H locs hw_8 hPD hS => ?_)
    have hw_9 : r_6 = (isD g1 n9) := hw_8
    subst hw_9
    obtain ⟨hP, hD⟩ := hPD.perm permA'
    have hP : va_P D vwCl ([kX6 h0 pg bk fg og lg oS lS s1 s2 s3, kX5 bk br (nI r9), kQ cR br 9 (fun k => some ((rho k).1.1)), kX2 og o1 o2, kI cI o1 2400 sf, kI cI o2 4 sd, kX0 fg f1 f2 f3 (nI n9) (nI v), kI cI f1 12 g1, kI cI f2 12 g2, kI cI f3 12 g3] ++ RB cI rho) H := hP
    have hD : va_D A ([kX6 h0 pg bk fg og lg oS lS s1 s2 s3, kX5 bk br (nI r9), kQ cR br 9 (fun k => some ((rho k).1.1)), kX2 og o1 o2, kI cI o1 2400 sf, kI cI o2 4 sd, kX0 fg f1 f2 f3 (nI n9) (nI v), kI cI f1 12 g1, kI cI f2 12 g2, kI cI f3 12 g3] ++ RB cI rho) := hD
    refine lv_if_eq (tgt := 43) hx hb dX6_fewest_18 (by decide) (fun c_10 => ?_) (fun c_10 => ?_)
    · skip
      refine lv_sipush (v := -1003) hx hb dX6_fewest_43 (by decide) ?_
      have hPD : PD D A ([kX6 h0 pg bk fg og lg oS lS s1 s2 s3, kX5 bk br (nI r9), kQ cR br 9 (fun k => some ((rho k).1.1)), kX0 fg f1 f2 f3 (nI n9) (nI v), kI cI f1 12 g1, kI cI f2 12 g2, kI cI f3 12 g3, kX2 og o1 o2, kI cI o1 2400 sf, kI cI o2 4 sd] ++ RB cI rho) H := (PD.perm ⟨hP, hD⟩ (permB pm_58)).left
      exact hret _ _ _ _ _ _ (-1003) (oS, sf, sd) dX6_fewest_46 rfl hS (Nat.le_of_ble_eq_true rfl) (Nat.le_of_ble_eq_true rfl) ⟨Or.inr (Or.inl ⟨c_5, Or.inl c_10, rfl⟩), hOS⟩ hPD.1 hPD.2
    · skip
      refine lv_aload_n hx hb dX6_fewest_21 rfl (lv_at hl 0 rfl) ?_
      refine va_get (D := D) (ci := 6) (v := .ref fg) (C := RX6) (T := TX6) (N := 10) hx hb hts iT_X6 hown hK1 hP 0 rfl rfl 2 (by decide) (hts _ t_156) (fun _ h9 => h9) rfl dX6_fewest_22 ?_
      refine va_get (D := D) (ci := 0) (v := .int (nI n9)) (C := RX0) (T := TX0) (N := 5) hx hb hts iT_X0 hown hK1 hP 6 rfl rfl 3 (by decide) (hts _ t_64) (fun _ h9 => h9) rfl dX6_fewest_25 ?_
      refine lv_iconst (v := 5) hx hb dX6_fewest_28 (by decide) ?_
      refine lv_icmp_gt (tgt := 43) hx hb dX6_fewest_29 (by decide) (fun c_11 => ?_) (fun c_11 => ?_)
      · skip
        refine lv_sipush (v := -1003) hx hb dX6_fewest_43 (by decide) ?_
        have hPD : PD D A ([kX6 h0 pg bk fg og lg oS lS s1 s2 s3, kX5 bk br (nI r9), kQ cR br 9 (fun k => some ((rho k).1.1)), kX0 fg f1 f2 f3 (nI n9) (nI v), kI cI f1 12 g1, kI cI f2 12 g2, kI cI f3 12 g3, kX2 og o1 o2, kI cI o1 2400 sf, kI cI o2 4 sd] ++ RB cI rho) H := (PD.perm ⟨hP, hD⟩ (permB pm_58)).left
        exact hret _ _ _ _ _ _ (-1003) (oS, sf, sd) dX6_fewest_46 rfl hS (Nat.le_of_ble_eq_true rfl) (Nat.le_of_ble_eq_true rfl) ⟨Or.inr (Or.inl ⟨c_5, Or.inr (Or.inl (ltN (a := 5) (b := n9) (by have := hf.1; omega) (by decide) c_11)), rfl⟩), hOS⟩ hPD.1 hPD.2
      · skip
        refine lv_aload_n hx hb dX6_fewest_32 rfl (lv_at hl 0 rfl) ?_
        refine va_get (D := D) (ci := 6) (v := .ref fg) (C := RX6) (T := TX6) (N := 10) hx hb hts iT_X6 hown hK1 hP 0 rfl rfl 2 (by decide) (hts _ t_156) (fun _ h9 => h9) rfl dX6_fewest_33 ?_
        refine va_get (D := D) (ci := 0) (v := .int (nI v)) (C := RX0) (T := TX0) (N := 5) hx hb hts iT_X0 hown hK1 hP 6 rfl rfl 4 (by decide) (hts _ t_67) (fun _ h9 => h9) rfl dX6_fewest_36 ?_
        refine lv_iconst (v := 5) hx hb dX6_fewest_39 (by decide) ?_
        refine lv_icmp_le (tgt := 47) hx hb dX6_fewest_40 (by decide) (fun c_12 => ?_) (fun c_12 => ?_)
        · skip
          have hn5 := nltN (a := 5) (b := n9) (by have := hf.1; omega) (by decide) c_11
          have hv5 := leN (a := v) (b := 5) (by decide) (by have := hf.2.1; omega) c_12
          have h32 := pow_le5 hn5
          refine lv_aload_n hx hb dX6_fewest_47 rfl (lv_at hl 0 rfl) ?_
          refine va_get (D := D) (ci := 6) (v := .int oS) (C := RX6) (T := TX6) (N := 10) hx hb hts iT_X6 hown hK1 hP 0 rfl rfl 5 (by decide) (hts _ t_159) (fun _ h9 => h9) rfl dX6_fewest_48 ?_
          refine lv_if_ne (tgt := 74) hx hb dX6_fewest_51 (by decide) (fun c_13 => ?_) (fun c_13 => ?_)
          · skip
            have hOF := hOS c_13
            refine lv_aload_n hx hb dX6_fewest_74 rfl (lv_at hl 0 rfl) ?_
            refine va_get (D := D) (ci := 6) (v := .ref og) (C := RX6) (T := TX6) (N := 10) hx hb hts iT_X6 hown hK1 hP 0 rfl rfl 3 (by decide) (hts _ t_157) (fun _ h9 => h9) rfl dX6_fewest_75 ?_
            refine lv_aload_n hx hb dX6_fewest_78 rfl (lv_at hl 0 rfl) ?_
            refine va_get (D := D) (ci := 6) (v := .ref fg) (C := RX6) (T := TX6) (N := 10) hx hb hts iT_X6 hown hK1 hP 0 rfl rfl 2 (by decide) (hts _ t_156) (fun _ h9 => h9) rfl dX6_fewest_79 ?_
            refine lv_iload_n hx hb dX6_fewest_82 rfl (lv_at hl 1 rfl) ?_
            refine lv_nmi (show _ = (nI a9 : Int32) from ea9) ?_
            have hPD : PD D A ([kX2 og o1 o2, kI cI o1 2400 sf, kI cI o2 4 sd, kX0 fg f1 f2 f3 (nI n9) (nI v)] ++ ([kX6 h0 pg bk fg og lg oS lS s1 s2 s3, kX5 bk br (nI r9), kQ cR br 9 (fun k => some ((rho k).1.1)), kI cI f1 12 g1, kI cI f2 12 g2, kI cI f3 12 g3] ++ RB cI rho)) H := PD.perm ⟨hP, hD⟩ (permA pm_57)
            refine xp_i (wc := [kX2 og o1 o2, kI cI o1 2400 sf, kI cI o2 4 sd, kX0 fg f1 f2 f3 (nI n9) (nI v)]) (wr := ([kX6 h0 pg bk fg og lg oS lS s1 s2 s3, kX5 bk br (nI r9), kQ cR br 9 (fun k => some ((rho k).1.1)), kI cI f1 12 g1, kI cI f2 12 g2, kI cI f3 12 g3] ++ RB cI rho)) (xqV (n := 2) (As := [.ref fg, .int (nI a9)]) (rest := []) (ci := 2) (q0 := 0) hd hK hPD.left (c_X2_ofWhole l D cI cJ cZ cR _ og o1 o2 fg f1 f2 f3 n9 v a9 sf sd hn5 ha9 hOF.2.2.1) (gV t_441 mV_X2_ofWhole) hV_X2_ofWhole ⟨(Nat.le_of_ble_eq_true rfl), (Nat.le_of_ble_eq_true rfl)⟩ rfl rfl rfl hl.1 rfl (Nat.le_of_ble_eq_true rfl) dX6_fewest_83 ⟨(Nat.le_of_ble_eq_true rfl), (Nat.le_of_ble_eq_true rfl)⟩) hPD hS hA (fun r_14 u_15 H locs hw_16 hPD hS => ?_)
            have hw_17 : r_14 = (nI (tbl sf a9 (2 ^ n9 - 1) 0 1)) := hw_16
            subst hw_17
            obtain ⟨hP, hD⟩ := hPD.perm permA'
            have hP : va_P D vwCl ([kX6 h0 pg bk fg og lg oS lS s1 s2 s3, kX5 bk br (nI r9), kQ cR br 9 (fun k => some ((rho k).1.1)), kI cI f1 12 g1, kI cI f2 12 g2, kI cI f3 12 g3, kX2 og o1 o2, kI cI o1 2400 sf, kI cI o2 4 sd, kX0 fg f1 f2 f3 (nI n9) (nI v)] ++ RB cI rho) H := hP
            have hD : va_D A ([kX6 h0 pg bk fg og lg oS lS s1 s2 s3, kX5 bk br (nI r9), kQ cR br 9 (fun k => some ((rho k).1.1)), kI cI f1 12 g1, kI cI f2 12 g2, kI cI f3 12 g3, kX2 og o1 o2, kI cI o1 2400 sf, kI cI o2 4 sd, kX0 fg f1 f2 f3 (nI n9) (nI v)] ++ RB cI rho) := hD
            have hT9 : (tbl sf a9 (2 ^ n9 - 1) 0 1) ≤ zF9 := (TBI_at hOF.2.2.1 (by omega)).2
            have hF9 : zF9 = 536870912 := rfl
            refine lv_istore_n (lv' := [(2, .int (nI (tbl sf a9 (2 ^ n9 - 1) 0 1))), (0, .ref h0), (1, .int p0)]) hx hb dX6_fewest_86 rfl hl (by decide) rfl (fun ls hl => ?_)
            refine lv_iload_n hx hb dX6_fewest_87 rfl (lv_at hl 0 rfl) ?_
            refine lv_ldc hx hb hown (hts _ t_445) dX6_fewest_88 ?_
            refine lv_icmp_ge (tgt := 97) hx hb dX6_fewest_90 (by decide) (fun c_18 => ?_) (fun c_18 => ?_)
            · skip
              refine lv_iconst (v := -1) hx hb dX6_fewest_97 (by decide) ?_
              have hPD : PD D A ([kX6 h0 pg bk fg og lg oS lS s1 s2 s3, kX5 bk br (nI r9), kQ cR br 9 (fun k => some ((rho k).1.1)), kX0 fg f1 f2 f3 (nI n9) (nI v), kI cI f1 12 g1, kI cI f2 12 g2, kI cI f3 12 g3, kX2 og o1 o2, kI cI o1 2400 sf, kI cI o2 4 sd] ++ RB cI rho) H := (PD.perm ⟨hP, hD⟩ (permB pm_59)).left
              exact hret _ _ _ _ _ _ (-1) (oS, sf, sd) dX6_fewest_98 rfl hS (Nat.le_of_ble_eq_true rfl) (Nat.le_of_ble_eq_true rfl) ⟨Or.inr (Or.inr ⟨a9, _, ha9, ea9, c_10, hOF, (by rw [if_neg (Nat.not_lt.mpr (leN (a := 536870912) (by omega) (by omega) c_18))])⟩), fun _ => hOF⟩ hPD.1 hPD.2
            · skip
              refine lv_iload_n hx hb dX6_fewest_93 rfl (lv_at hl 0 rfl) ?_
              refine lv_goto (tgt := 98) hx hb dX6_fewest_94 (by decide) ?_
              have hPD : PD D A ([kX6 h0 pg bk fg og lg oS lS s1 s2 s3, kX5 bk br (nI r9), kQ cR br 9 (fun k => some ((rho k).1.1)), kX0 fg f1 f2 f3 (nI n9) (nI v), kI cI f1 12 g1, kI cI f2 12 g2, kI cI f3 12 g3, kX2 og o1 o2, kI cI o1 2400 sf, kI cI o2 4 sd] ++ RB cI rho) H := (PD.perm ⟨hP, hD⟩ (permB pm_59)).left
              exact hret _ _ _ _ _ _ (nI (tbl sf a9 (2 ^ n9 - 1) 0 1)) (oS, sf, sd) dX6_fewest_98 rfl hS (Nat.le_of_ble_eq_true rfl) (Nat.le_of_ble_eq_true rfl) ⟨Or.inr (Or.inr ⟨a9, _, ha9, ea9, c_10, hOF, (by rw [if_pos (nleN (a := 536870912) (by omega) (by omega) c_18)])⟩), fun _ => hOF⟩ hPD.1 hPD.2
          · skip
            refine lv_aload_n hx hb dX6_fewest_54 rfl (lv_at hl 0 rfl) ?_
            refine va_get (D := D) (ci := 6) (v := .ref og) (C := RX6) (T := TX6) (N := 10) hx hb hts iT_X6 hown hK1 hP 0 rfl rfl 3 (by decide) (hts _ t_157) (fun _ h9 => h9) rfl dX6_fewest_55 ?_
            refine lv_aload_n hx hb dX6_fewest_58 rfl (lv_at hl 0 rfl) ?_
            refine va_get (D := D) (ci := 6) (v := .ref fg) (C := RX6) (T := TX6) (N := 10) hx hb hts iT_X6 hown hK1 hP 0 rfl rfl 2 (by decide) (hts _ t_156) (fun _ h9 => h9) rfl dX6_fewest_59 ?_
            refine lv_aload_n hx hb dX6_fewest_62 rfl (lv_at hl 0 rfl) ?_
            refine va_get (D := D) (ci := 6) (v := .ref bk) (C := RX6) (T := TX6) (N := 10) hx hb hts iT_X6 hown hK1 hP 0 rfl rfl 1 (by decide) (hts _ t_155) (fun _ h9 => h9) rfl dX6_fewest_63 ?_
            have hPD : PD D A (([kX2 og o1 o2, kI cI o1 2400 sf, kI cI o2 4 sd, kX0 fg f1 f2 f3 (nI n9) (nI v), kI cI f1 12 g1, kI cI f2 12 g2, kI cI f3 12 g3, kX5 bk br (nI r9), kQ cR br 9 (fun k => some ((rho k).1.1))] ++ RB cI rho) ++ [kX6 h0 pg bk fg og lg oS lS s1 s2 s3]) H := PD.perm ⟨hP, hD⟩ (permB pm_60)
            refine xp_v (wc := ([kX2 og o1 o2, kI cI o1 2400 sf, kI cI o2 4 sd, kX0 fg f1 f2 f3 (nI n9) (nI v), kI cI f1 12 g1, kI cI f2 12 g2, kI cI f3 12 g3, kX5 bk br (nI r9), kQ cR br 9 (fun k => some ((rho k).1.1))] ++ RB cI rho)) (wr := [kX6 h0 pg bk fg og lg oS lS s1 s2 s3]) (xqV (n := 2) (As := [.ref fg, .ref bk]) (rest := []) (ci := 2) (q0 := 0) hd hK hPD.left (c_X2_find l D cI cJ cZ cR _ og o1 o2 fg f1 f2 f3 n9 v bk br r9 sf sd g1 g2 g3 rho hn5 hv5 hG hr hRQ) (gV t_384 mV_X2_find) hV_X2_find ⟨(Nat.le_of_ble_eq_true rfl), (Nat.le_of_ble_eq_true rfl)⟩ rfl rfl rfl hl.1 rfl (Nat.le_of_ble_eq_true rfl) dX6_fewest_66 ⟨(Nat.le_of_ble_eq_true rfl), (Nat.le_of_ble_eq_true rfl)⟩) hPD hS hA (fun u_20 H locs hw_21 hPD hS => ?_)
            obtain ⟨s2_22, d2_23⟩ := u_20
            have hw_24 : FNI (gC n9 v g1 g2 g3) (rC rho r9) s2_22 (2 ^ n9) := hw_21
            have hFN := hw_24
            obtain ⟨hP, hD⟩ := hPD.perm permB'
            have hP : va_P D vwCl ([kX6 h0 pg bk fg og lg oS lS s1 s2 s3, kX2 og o1 o2, kI cI o1 2400 s2_22, kI cI o2 4 d2_23, kX0 fg f1 f2 f3 (nI n9) (nI v), kI cI f1 12 g1, kI cI f2 12 g2, kI cI f3 12 g3, kX5 bk br (nI r9), kQ cR br 9 (fun k => some ((rho k).1.1))] ++ RB cI rho) H := hP
            have hD : va_D A ([kX6 h0 pg bk fg og lg oS lS s1 s2 s3, kX2 og o1 o2, kI cI o1 2400 s2_22, kI cI o2 4 d2_23, kX0 fg f1 f2 f3 (nI n9) (nI v), kI cI f1 12 g1, kI cI f2 12 g2, kI cI f3 12 g3, kX5 bk br (nI r9), kQ cR br 9 (fun k => some ((rho k).1.1))] ++ RB cI rho) := hD
            refine lv_aload_n hx hb dX6_fewest_69 rfl (lv_at hl 0 rfl) ?_
            refine lv_iconst (v := 1) hx hb dX6_fewest_70 (by decide) ?_
            refine va_put (D := D) (ci := 6) (v := .int 1) (ty := .boolean) (C := RX6) (T := TX6) (N := 10) hx hb hts iT_X6 tyX6 tyX6_ok nmX6 hown hK1 hP hD hS 0 rfl rfl 5 (by decide) (hts _ t_159) (fun _ h9 => h9) rfl (by decide +kernel) rfl rfl (Nat.le_of_ble_eq_true rfl) dX6_fewest_71 (fun H locs hP hD hS => ?_)
            have hP : va_P D vwCl ([kX6 h0 pg bk fg og lg 1 lS s1 s2 s3, kX2 og o1 o2, kI cI o1 2400 s2_22, kI cI o2 4 d2_23, kX0 fg f1 f2 f3 (nI n9) (nI v), kI cI f1 12 g1, kI cI f2 12 g2, kI cI f3 12 g3, kX5 bk br (nI r9), kQ cR br 9 (fun k => some ((rho k).1.1))] ++ RB cI rho) H := hP
            have hD : va_D A ([kX6 h0 pg bk fg og lg 1 lS s1 s2 s3, kX2 og o1 o2, kI cI o1 2400 s2_22, kI cI o2 4 d2_23, kX0 fg f1 f2 f3 (nI n9) (nI v), kI cI f1 12 g1, kI cI f2 12 g2, kI cI f3 12 g3, kX5 bk br (nI r9), kQ cR br 9 (fun k => some ((rho k).1.1))] ++ RB cI rho) := hD
            have hOF : OFin n9 v g1 g2 g3 rho r9 _ := ⟨hn5, hv5, hFN⟩
            refine lv_aload_n hx hb dX6_fewest_74 rfl (lv_at hl 0 rfl) ?_
            refine va_get (D := D) (ci := 6) (v := .ref og) (C := RX6) (T := TX6) (N := 10) hx hb hts iT_X6 hown hK1 hP 0 rfl rfl 3 (by decide) (hts _ t_157) (fun _ h9 => h9) rfl dX6_fewest_75 ?_
            refine lv_aload_n hx hb dX6_fewest_78 rfl (lv_at hl 0 rfl) ?_
            refine va_get (D := D) (ci := 6) (v := .ref fg) (C := RX6) (T := TX6) (N := 10) hx hb hts iT_X6 hown hK1 hP 0 rfl rfl 2 (by decide) (hts _ t_156) (fun _ h9 => h9) rfl dX6_fewest_79 ?_
            refine lv_iload_n hx hb dX6_fewest_82 rfl (lv_at hl 1 rfl) ?_
            refine lv_nmi (show _ = (nI a9 : Int32) from ea9) ?_
            have hPD : PD D A ([kX2 og o1 o2, kI cI o1 2400 s2_22, kI cI o2 4 d2_23, kX0 fg f1 f2 f3 (nI n9) (nI v)] ++ ([kX6 h0 pg bk fg og lg 1 lS s1 s2 s3, kI cI f1 12 g1, kI cI f2 12 g2, kI cI f3 12 g3, kX5 bk br (nI r9), kQ cR br 9 (fun k => some ((rho k).1.1))] ++ RB cI rho)) H := PD.perm ⟨hP, hD⟩ (permA pm_61)
            refine xp_i (wc := [kX2 og o1 o2, kI cI o1 2400 s2_22, kI cI o2 4 d2_23, kX0 fg f1 f2 f3 (nI n9) (nI v)]) (wr := ([kX6 h0 pg bk fg og lg 1 lS s1 s2 s3, kI cI f1 12 g1, kI cI f2 12 g2, kI cI f3 12 g3, kX5 bk br (nI r9), kQ cR br 9 (fun k => some ((rho k).1.1))] ++ RB cI rho)) (xqV (n := 2) (As := [.ref fg, .int (nI a9)]) (rest := []) (ci := 2) (q0 := 0) hd hK hPD.left (c_X2_ofWhole l D cI cJ cZ cR _ og o1 o2 fg f1 f2 f3 n9 v a9 s2_22 d2_23 hn5 ha9 hOF.2.2.1) (gV t_441 mV_X2_ofWhole) hV_X2_ofWhole ⟨(Nat.le_of_ble_eq_true rfl), (Nat.le_of_ble_eq_true rfl)⟩ rfl rfl rfl hl.1 rfl (Nat.le_of_ble_eq_true rfl) dX6_fewest_83 ⟨(Nat.le_of_ble_eq_true rfl), (Nat.le_of_ble_eq_true rfl)⟩) hPD hS hA (fun r_25 u_26 H locs hw_27 hPD hS => ?_)
            have hw_28 : r_25 = (nI (tbl s2_22 a9 (2 ^ n9 - 1) 0 1)) := hw_27
            subst hw_28
            obtain ⟨hP, hD⟩ := hPD.perm permA'
            have hP : va_P D vwCl ([kX6 h0 pg bk fg og lg 1 lS s1 s2 s3, kI cI f1 12 g1, kI cI f2 12 g2, kI cI f3 12 g3, kX5 bk br (nI r9), kQ cR br 9 (fun k => some ((rho k).1.1)), kX2 og o1 o2, kI cI o1 2400 s2_22, kI cI o2 4 d2_23, kX0 fg f1 f2 f3 (nI n9) (nI v)] ++ RB cI rho) H := hP
            have hD : va_D A ([kX6 h0 pg bk fg og lg 1 lS s1 s2 s3, kI cI f1 12 g1, kI cI f2 12 g2, kI cI f3 12 g3, kX5 bk br (nI r9), kQ cR br 9 (fun k => some ((rho k).1.1)), kX2 og o1 o2, kI cI o1 2400 s2_22, kI cI o2 4 d2_23, kX0 fg f1 f2 f3 (nI n9) (nI v)] ++ RB cI rho) := hD
            have hT9 : (tbl s2_22 a9 (2 ^ n9 - 1) 0 1) ≤ zF9 := (TBI_at hOF.2.2.1 (by omega)).2
            have hF9 : zF9 = 536870912 := rfl
            refine lv_istore_n (lv' := [(2, .int (nI (tbl s2_22 a9 (2 ^ n9 - 1) 0 1))), (0, .ref h0), (1, .int p0)]) hx hb dX6_fewest_86 rfl hl (by decide) rfl (fun ls hl => ?_)
            refine lv_iload_n hx hb dX6_fewest_87 rfl (lv_at hl 0 rfl) ?_
            refine lv_ldc hx hb hown (hts _ t_445) dX6_fewest_88 ?_
            refine lv_icmp_ge (tgt := 97) hx hb dX6_fewest_90 (by decide) (fun c_29 => ?_) (fun c_29 => ?_)
            · skip
              refine lv_iconst (v := -1) hx hb dX6_fewest_97 (by decide) ?_
              have hPD : PD D A ([kX6 h0 pg bk fg og lg 1 lS s1 s2 s3, kX5 bk br (nI r9), kQ cR br 9 (fun k => some ((rho k).1.1)), kX0 fg f1 f2 f3 (nI n9) (nI v), kI cI f1 12 g1, kI cI f2 12 g2, kI cI f3 12 g3, kX2 og o1 o2, kI cI o1 2400 s2_22, kI cI o2 4 d2_23] ++ RB cI rho) H := (PD.perm ⟨hP, hD⟩ (permB pm_62)).left
              exact hret _ _ _ _ _ _ (-1) (1, s2_22, d2_23) dX6_fewest_98 rfl hS (Nat.le_of_ble_eq_true rfl) (Nat.le_of_ble_eq_true rfl) ⟨Or.inr (Or.inr ⟨a9, _, ha9, ea9, c_10, hOF, (by rw [if_neg (Nat.not_lt.mpr (leN (a := 536870912) (by omega) (by omega) c_29))])⟩), fun _ => hOF⟩ hPD.1 hPD.2
            · skip
              refine lv_iload_n hx hb dX6_fewest_93 rfl (lv_at hl 0 rfl) ?_
              refine lv_goto (tgt := 98) hx hb dX6_fewest_94 (by decide) ?_
              have hPD : PD D A ([kX6 h0 pg bk fg og lg 1 lS s1 s2 s3, kX5 bk br (nI r9), kQ cR br 9 (fun k => some ((rho k).1.1)), kX0 fg f1 f2 f3 (nI n9) (nI v), kI cI f1 12 g1, kI cI f2 12 g2, kI cI f3 12 g3, kX2 og o1 o2, kI cI o1 2400 s2_22, kI cI o2 4 d2_23] ++ RB cI rho) H := (PD.perm ⟨hP, hD⟩ (permB pm_62)).left
              exact hret _ _ _ _ _ _ (nI (tbl s2_22 a9 (2 ^ n9 - 1) 0 1)) (1, s2_22, d2_23) dX6_fewest_98 rfl hS (Nat.le_of_ble_eq_true rfl) (Nat.le_of_ble_eq_true rfl) ⟨Or.inr (Or.inr ⟨a9, _, ha9, ea9, c_10, hOF, (by rw [if_pos (nleN (a := 536870912) (by omega) (by omega) c_29)])⟩), fun _ => hOF⟩ hPD.1 hPD.2
        · skip
          refine lv_sipush (v := -1003) hx hb dX6_fewest_43 (by decide) ?_
          have hPD : PD D A ([kX6 h0 pg bk fg og lg oS lS s1 s2 s3, kX5 bk br (nI r9), kQ cR br 9 (fun k => some ((rho k).1.1)), kX0 fg f1 f2 f3 (nI n9) (nI v), kI cI f1 12 g1, kI cI f2 12 g2, kI cI f3 12 g3, kX2 og o1 o2, kI cI o1 2400 sf, kI cI o2 4 sd] ++ RB cI rho) H := (PD.perm ⟨hP, hD⟩ (permB pm_58)).left
          exact hret _ _ _ _ _ _ (-1003) (oS, sf, sd) dX6_fewest_46 rfl hS (Nat.le_of_ble_eq_true rfl) (Nat.le_of_ble_eq_true rfl) ⟨Or.inr (Or.inl ⟨c_5, Or.inr (Or.inr (nleN (a := v) (b := 5) (by decide) (by have := hf.2.1; omega) c_12)), rfl⟩), hOS⟩ hPD.1 hPD.2
  · skip
    refine lv_sipush (v := -1001) hx hb dX6_fewest_7 (by decide) ?_
    have hPD : PD D A ([kX6 h0 pg bk fg og lg oS lS s1 s2 s3, kX5 bk br (nI r9), kQ cR br 9 (fun k => some ((rho k).1.1)), kX0 fg f1 f2 f3 (nI n9) (nI v), kI cI f1 12 g1, kI cI f2 12 g2, kI cI f3 12 g3, kX2 og o1 o2, kI cI o1 2400 sf, kI cI o2 4 sd] ++ RB cI rho) H := (PD.perm ⟨hP, hD⟩ (permB pm_2)).left
    exact hret _ _ _ _ _ _ (-1001) (oS, sf, sd) dX6_fewest_10 rfl hS (Nat.le_of_ble_eq_true rfl) (Nat.le_of_ble_eq_true rfl) ⟨Or.inl ⟨c_5, rfl⟩, hOS⟩ hPD.1 hPD.2
end
