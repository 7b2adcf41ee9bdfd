theorem mV_X3_namesNoGap : Cond.instanceMethod yX3_namesNoGap ∈ gT ∧ Cond.selects RX3 yX3_namesNoGap yX3_namesNoGap ∈ gT ∧ Cond.initialized RX3 ∈ gT ∧ Cond.code yX3_namesNoGap cX3_namesNoGap 2 (some .boolean) ∈ gT := ⟨t_242, ts_4, t_2, t_243⟩
theorem hV_X3_namesNoGap : yX3_namesNoGap.cls = RX3 ∧ yX3_namesNoGap.cls ≠ "java/lang/invoke/MethodHandle" ∧ yX3_namesNoGap.cls ≠ "java/lang/invoke/VarHandle" ∧ (parseMethodDescriptor yX3_namesNoGap.desc).map (fun d => d.parameters.length) = some 0 := by decide +kernel
theorem mV_X3_isRule : Cond.instanceMethod yX3_isRule ∈ gT ∧ Cond.selects RX3 yX3_isRule yX3_isRule ∈ gT ∧ Cond.initialized RX3 ∈ gT ∧ Cond.code yX3_isRule cX3_isRule 1 (some .boolean) ∈ gT := ⟨t_228, t_229, t_2, t_230⟩
theorem hV_X3_isRule : yX3_isRule.cls = RX3 ∧ yX3_isRule.cls ≠ "java/lang/invoke/MethodHandle" ∧ yX3_isRule.cls ≠ "java/lang/invoke/VarHandle" ∧ (parseMethodDescriptor yX3_isRule.desc).map (fun d => d.parameters.length) = some 0 := by decide +kernel
theorem mV_X3_isGraph : Cond.instanceMethod yX3_isGraph ∈ gT ∧ Cond.selects RX3 yX3_isGraph yX3_isGraph ∈ gT ∧ Cond.initialized RX3 ∈ gT ∧ Cond.code yX3_isGraph cX3_isGraph 1 (some .boolean) ∈ gT := ⟨t_317, t_318, t_2, t_319⟩
theorem hV_X3_isGraph : yX3_isGraph.cls = RX3 ∧ yX3_isGraph.cls ≠ "java/lang/invoke/MethodHandle" ∧ yX3_isGraph.cls ≠ "java/lang/invoke/VarHandle" ∧ (parseMethodDescriptor yX3_isGraph.desc).map (fun d => d.parameters.length) = some 0 := by decide +kernel
theorem mV_X3_openLetter : Cond.instanceMethod yX3_openLetter ∈ gT ∧ Cond.selects RX3 yX3_openLetter yX3_openLetter ∈ gT ∧ Cond.initialized RX3 ∈ gT ∧ Cond.code yX3_openLetter cX3_openLetter 1 (some .int) ∈ gT := ⟨t_253, t_254, t_2, t_255⟩
theorem hV_X3_openLetter : yX3_openLetter.cls = RX3 ∧ yX3_openLetter.cls ≠ "java/lang/invoke/MethodHandle" ∧ yX3_openLetter.cls ≠ "java/lang/invoke/VarHandle" ∧ (parseMethodDescriptor yX3_openLetter.desc).map (fun d => d.parameters.length) = some 0 := by decide +kernel
theorem mV_X3_clear : Cond.instanceMethod yX3_clear ∈ gT ∧ Cond.selects RX3 yX3_clear yX3_clear ∈ gT ∧ Cond.initialized RX3 ∈ gT ∧ Cond.code yX3_clear cX3_clear 1 none ∈ gT := ⟨t_198, t_199, t_2, t_200⟩
theorem hV_X3_clear : yX3_clear.cls = RX3 ∧ yX3_clear.cls ≠ "java/lang/invoke/MethodHandle" ∧ yX3_clear.cls ≠ "java/lang/invoke/VarHandle" ∧ (parseMethodDescriptor yX3_clear.desc).map (fun d => d.parameters.length) = some 0 := by decide +kernel
theorem mV_X3_write : Cond.instanceMethod yX3_write ∈ gT ∧ Cond.selects RX3 yX3_write yX3_write ∈ gT ∧ Cond.initialized RX3 ∈ gT ∧ Cond.code yX3_write cX3_write 2 none ∈ gT := ⟨t_190, t_191, t_2, t_192⟩
theorem hV_X3_write : yX3_write.cls = RX3 ∧ yX3_write.cls ≠ "java/lang/invoke/MethodHandle" ∧ yX3_write.cls ≠ "java/lang/invoke/VarHandle" ∧ (parseMethodDescriptor yX3_write.desc).map (fun d => d.parameters.length) = some 1 := by decide +kernel
theorem mV_X0_has : Cond.instanceMethod yX0_has ∈ gT ∧ Cond.selects RX0 yX0_has yX0_has ∈ gT ∧ Cond.initialized RX0 ∈ gT ∧ Cond.code yX0_has cX0_has 2 (some .boolean) ∈ gT := ⟨t_280, t_281, t_5, t_282⟩
theorem hV_X0_has : yX0_has.cls = RX0 ∧ yX0_has.cls ≠ "java/lang/invoke/MethodHandle" ∧ yX0_has.cls ≠ "java/lang/invoke/VarHandle" ∧ (parseMethodDescriptor yX0_has.desc).map (fun d => d.parameters.length) = some 1 := by decide +kernel
theorem mV_X0_clear : Cond.instanceMethod yX0_clear ∈ gT ∧ Cond.selects RX0 yX0_clear yX0_clear ∈ gT ∧ Cond.initialized RX0 ∈ gT ∧ Cond.code yX0_clear cX0_clear 2 none ∈ gT := ⟨t_268, t_269, t_5, t_270⟩
theorem hV_X0_clear : yX0_clear.cls = RX0 ∧ yX0_clear.cls ≠ "java/lang/invoke/MethodHandle" ∧ yX0_clear.cls ≠ "java/lang/invoke/VarHandle" ∧ (parseMethodDescriptor yX0_clear.desc).map (fun d => d.parameters.length) = some 1 := by decide +kernel
theorem mV_X0_put : Cond.instanceMethod yX0_put ∈ gT ∧ Cond.selects RX0 yX0_put yX0_put ∈ gT ∧ Cond.initialized RX0 ∈ gT ∧ Cond.code yX0_put cX0_put 5 none ∈ gT := ⟨t_277, ts_6, t_5, t_278⟩
theorem hV_X0_put : yX0_put.cls = RX0 ∧ yX0_put.cls ≠ "java/lang/invoke/MethodHandle" ∧ yX0_put.cls ≠ "java/lang/invoke/VarHandle" ∧ (parseMethodDescriptor yX0_put.desc).map (fun d => d.parameters.length) = some 4 := by decide +kernel
theorem mV_X0_append : Cond.instanceMethod yX0_append ∈ gT ∧ Cond.selects RX0 yX0_append yX0_append ∈ gT ∧ Cond.initialized RX0 ∈ gT ∧ Cond.code yX0_append cX0_append 4 none ∈ gT := ⟨t_272, t_273, t_5, t_274⟩
theorem hV_X0_append : yX0_append.cls = RX0 ∧ yX0_append.cls ≠ "java/lang/invoke/MethodHandle" ∧ yX0_append.cls ≠ "java/lang/invoke/VarHandle" ∧ (parseMethodDescriptor yX0_append.desc).map (fun d => d.parameters.length) = some 3 := by decide +kernel
theorem mV_X0_told : Cond.instanceMethod yX0_told ∈ gT ∧ Cond.selects RX0 yX0_told yX0_told ∈ gT ∧ Cond.initialized RX0 ∈ gT ∧ Cond.code yX0_told cX0_told 2 (some .int) ∈ gT := ⟨t_334, t_335, t_5, t_336⟩
theorem hV_X0_told : yX0_told.cls = RX0 ∧ yX0_told.cls ≠ "java/lang/invoke/MethodHandle" ∧ yX0_told.cls ≠ "java/lang/invoke/VarHandle" ∧ (parseMethodDescriptor yX0_told.desc).map (fun d => d.parameters.length) = some 1 := by decide +kernel
theorem mV_X0_openEdges : Cond.instanceMethod yX0_openEdges ∈ gT ∧ Cond.selects RX0 yX0_openEdges yX0_openEdges ∈ gT ∧ Cond.initialized RX0 ∈ gT ∧ Cond.code yX0_openEdges cX0_openEdges 3 (some .int) ∈ gT := ⟨t_370, t_371, t_5, t_372⟩
theorem hV_X0_openEdges : yX0_openEdges.cls = RX0 ∧ yX0_openEdges.cls ≠ "java/lang/invoke/MethodHandle" ∧ yX0_openEdges.cls ≠ "java/lang/invoke/VarHandle" ∧ (parseMethodDescriptor yX0_openEdges.desc).map (fun d => d.parameters.length) = some 0 := by decide +kernel
theorem mV_X0_isDone : Cond.instanceMethod yX0_isDone ∈ gT ∧ Cond.selects RX0 yX0_isDone yX0_isDone ∈ gT ∧ Cond.initialized RX0 ∈ gT ∧ Cond.code yX0_isDone cX0_isDone 1 (some .boolean) ∈ gT := ⟨t_366, t_367, t_5, t_368⟩
theorem hV_X0_isDone : yX0_isDone.cls = RX0 ∧ yX0_isDone.cls ≠ "java/lang/invoke/MethodHandle" ∧ yX0_isDone.cls ≠ "java/lang/invoke/VarHandle" ∧ (parseMethodDescriptor yX0_isDone.desc).map (fun d => d.parameters.length) = some 0 := by decide +kernel
theorem mV_X0_comes : Cond.instanceMethod yX0_comes ∈ gT ∧ Cond.selects RX0 yX0_comes yX0_comes ∈ gT ∧ Cond.initialized RX0 ∈ gT ∧ Cond.code yX0_comes cX0_comes 8 (some .boolean) ∈ gT := ⟨t_289, ts_7, t_5, t_290⟩
theorem hV_X0_comes : yX0_comes.cls = RX0 ∧ yX0_comes.cls ≠ "java/lang/invoke/MethodHandle" ∧ yX0_comes.cls ≠ "java/lang/invoke/VarHandle" ∧ (parseMethodDescriptor yX0_comes.desc).map (fun d => d.parameters.length) = some 3 := by decide +kernel
theorem mV_X0_waysOf : Cond.instanceMethod yX0_waysOf ∈ gT ∧ Cond.selects RX0 yX0_waysOf yX0_waysOf ∈ gT ∧ Cond.initialized RX0 ∈ gT ∧ Cond.code yX0_waysOf cX0_waysOf 2 (some .int) ∈ gT := ⟨t_284, t_285, t_5, t_286⟩
theorem hV_X0_waysOf : yX0_waysOf.cls = RX0 ∧ yX0_waysOf.cls ≠ "java/lang/invoke/MethodHandle" ∧ yX0_waysOf.cls ≠ "java/lang/invoke/VarHandle" ∧ (parseMethodDescriptor yX0_waysOf.desc).map (fun d => d.parameters.length) = some 1 := by decide +kernel
theorem mV_X0_allows : Cond.instanceMethod yX0_allows ∈ gT ∧ Cond.selects RX0 yX0_allows yX0_allows ∈ gT ∧ Cond.initialized RX0 ∈ gT ∧ Cond.code yX0_allows cX0_allows 5 (some .boolean) ∈ gT := ⟨t_297, ts_8, t_5, t_298⟩
theorem hV_X0_allows : yX0_allows.cls = RX0 ∧ yX0_allows.cls ≠ "java/lang/invoke/MethodHandle" ∧ yX0_allows.cls ≠ "java/lang/invoke/VarHandle" ∧ (parseMethodDescriptor yX0_allows.desc).map (fun d => d.parameters.length) = some 2 := by decide +kernel
theorem mV_X0_huesOf : Cond.instanceMethod yX0_huesOf ∈ gT ∧ Cond.selects RX0 yX0_huesOf yX0_huesOf ∈ gT ∧ Cond.initialized RX0 ∈ gT ∧ Cond.code yX0_huesOf cX0_huesOf 4 (some .int) ∈ gT := ⟨t_292, t_293, t_5, t_294⟩
theorem hV_X0_huesOf : yX0_huesOf.cls = RX0 ∧ yX0_huesOf.cls ≠ "java/lang/invoke/MethodHandle" ∧ yX0_huesOf.cls ≠ "java/lang/invoke/VarHandle" ∧ (parseMethodDescriptor yX0_huesOf.desc).map (fun d => d.parameters.length) = some 1 := by decide +kernel
theorem mV_X0_ownKind : Cond.instanceMethod yX0_ownKind ∈ gT ∧ Cond.selects RX0 yX0_ownKind yX0_ownKind ∈ gT ∧ Cond.initialized RX0 ∈ gT ∧ Cond.code yX0_ownKind cX0_ownKind 5 (some .int) ∈ gT := ⟨t_375, t_376, t_5, t_377⟩
theorem hV_X0_ownKind : yX0_ownKind.cls = RX0 ∧ yX0_ownKind.cls ≠ "java/lang/invoke/MethodHandle" ∧ yX0_ownKind.cls ≠ "java/lang/invoke/VarHandle" ∧ (parseMethodDescriptor yX0_ownKind.desc).map (fun d => d.parameters.length) = some 0 := by decide +kernel
theorem dX0_allows_0 : decode cX0_allows 0 = .ok (.iconst 0, 1) := by decide +kernel
theorem dX0_allows_1 : decode cX0_allows 1 = .ok (.istore_n 3, 1) := by decide +kernel
theorem dX0_allows_2 : decode cX0_allows 2 = .ok (.iload_n 3, 1) := by decide +kernel
theorem dX0_allows_3 : decode cX0_allows 3 = .ok (.aload_n 0, 1) := by decide +kernel
theorem dX0_allows_4 : decode cX0_allows 4 = .ok (.getfield 9, 3) := by decide +kernel
theorem dX0_allows_7 : decode cX0_allows 7 = .ok (.if_icmp .ge 45, 3) := by decide +kernel
theorem dX0_allows_10 : decode cX0_allows 10 = .ok (.iload_n 1, 1) := by decide +kernel
theorem dX0_allows_11 : decode cX0_allows 11 = .ok (.aload_n 0, 1) := by decide +kernel
theorem dX0_allows_12 : decode cX0_allows 12 = .ok (.getfield 22, 3) := by decide +kernel
theorem dX0_allows_15 : decode cX0_allows 15 = .ok (.iload_n 3, 1) := by decide +kernel
theorem dX0_allows_16 : decode cX0_allows 16 = .ok (.iaload, 1) := by decide +kernel
theorem dX0_allows_17 : decode cX0_allows 17 = .ok (.ishr, 1) := by decide +kernel
theorem dX0_allows_18 : decode cX0_allows 18 = .ok (.iload_n 1, 1) := by decide +kernel
theorem dX0_allows_19 : decode cX0_allows 19 = .ok (.aload_n 0, 1) := by decide +kernel
theorem dX0_allows_20 : decode cX0_allows 20 = .ok (.getfield 25, 3) := by decide +kernel
theorem dX0_allows_23 : decode cX0_allows 23 = .ok (.iload_n 3, 1) := by decide +kernel
theorem dX0_allows_24 : decode cX0_allows 24 = .ok (.iaload, 1) := by decide +kernel
theorem dX0_allows_25 : decode cX0_allows 25 = .ok (.ishr, 1) := by decide +kernel
theorem dX0_allows_26 : decode cX0_allows 26 = .ok (.ixor, 1) := by decide +kernel
theorem dX0_allows_27 : decode cX0_allows 27 = .ok (.iconst 1, 1) := by decide +kernel
theorem dX0_allows_28 : decode cX0_allows 28 = .ok (.iand, 1) := by decide +kernel
theorem dX0_allows_29 : decode cX0_allows 29 = .ok (.istore 4, 2) := by decide +kernel
theorem dX0_allows_31 : decode cX0_allows 31 = .ok (.iload_n 2, 1) := by decide +kernel
theorem dX0_allows_32 : decode cX0_allows 32 = .ok (.iconst 2, 1) := by decide +kernel
theorem dX0_allows_33 : decode cX0_allows 33 = .ok (.iload_n 3, 1) := by decide +kernel
theorem dX0_allows_34 : decode cX0_allows 34 = .ok (.imul, 1) := by decide +kernel
theorem dX0_allows_35 : decode cX0_allows 35 = .ok (.iload 4, 2) := by decide +kernel
theorem dX0_allows_37 : decode cX0_allows 37 = .ok (.iadd, 1) := by decide +kernel
theorem dX0_allows_38 : decode cX0_allows 38 = .ok (.ishr, 1) := by decide +kernel
theorem dX0_allows_39 : decode cX0_allows 39 = .ok (.iconst 1, 1) := by decide +kernel
theorem dX0_allows_40 : decode cX0_allows 40 = .ok (.iand, 1) := by decide +kernel
theorem dX0_allows_41 : decode cX0_allows 41 = .ok (.ifCond .ne 5, 3) := by decide +kernel
theorem dX0_allows_44 : decode cX0_allows 44 = .ok (.iconst 0, 1) := by decide +kernel
theorem dX0_allows_45 : decode cX0_allows 45 = .ok (.ireturn, 1) := by decide +kernel
theorem dX0_allows_46 : decode cX0_allows 46 = .ok (.iinc 3 1, 3) := by decide +kernel
theorem dX0_allows_49 : decode cX0_allows 49 = .ok (.goto (-47), 3) := by decide +kernel
theorem dX0_allows_52 : decode cX0_allows 52 = .ok (.iconst 1, 1) := by decide +kernel
theorem dX0_allows_53 : decode cX0_allows 53 = .ok (.ireturn, 1) := by decide +kernel
theorem dX0_append_0 : decode cX0_append 0 = .ok (.aload_n 0, 1) := by decide +kernel
theorem dX0_append_1 : decode cX0_append 1 = .ok (.getfield 9, 3) := by decide +kernel
theorem dX0_append_4 : decode cX0_append 4 = .ok (.aload_n 0, 1) := by decide +kernel
theorem dX0_append_5 : decode cX0_append 5 = .ok (.getfield 18, 3) := by decide +kernel
theorem dX0_append_8 : decode cX0_append 8 = .ok (.arraylength, 1) := by decide +kernel
theorem dX0_append_9 : decode cX0_append 9 = .ok (.if_icmp .ge 24, 3) := by decide +kernel
theorem dX0_append_12 : decode cX0_append 12 = .ok (.aload_n 0, 1) := by decide +kernel
theorem dX0_append_13 : decode cX0_append 13 = .ok (.aload_n 0, 1) := by decide +kernel
theorem dX0_append_14 : decode cX0_append 14 = .ok (.getfield 9, 3) := by decide +kernel
theorem dX0_append_17 : decode cX0_append 17 = .ok (.iload_n 1, 1) := by decide +kernel
theorem dX0_append_18 : decode cX0_append 18 = .ok (.iload_n 2, 1) := by decide +kernel
theorem dX0_append_19 : decode cX0_append 19 = .ok (.iload_n 3, 1) := by decide +kernel
theorem dX0_append_20 : decode cX0_append 20 = .ok (.invokevirtual 28, 3) := by decide +kernel
theorem dX0_append_23 : decode cX0_append 23 = .ok (.aload_n 0, 1) := by decide +kernel
theorem dX0_append_24 : decode cX0_append 24 = .ok (.dup, 1) := by decide +kernel
theorem dX0_append_25 : decode cX0_append 25 = .ok (.getfield 9, 3) := by decide +kernel
theorem dX0_append_28 : decode cX0_append 28 = .ok (.iconst 1, 1) := by decide +kernel
theorem dX0_append_29 : decode cX0_append 29 = .ok (.iadd, 1) := by decide +kernel
theorem dX0_append_30 : decode cX0_append 30 = .ok (.putfield 9, 3) := by decide +kernel
theorem dX0_append_33 : decode cX0_append 33 = .ok (.return_, 1) := by decide +kernel
theorem dX0_clear_0 : decode cX0_clear 0 = .ok (.aload_n 0, 1) := by decide +kernel
theorem dX0_clear_1 : decode cX0_clear 1 = .ok (.iconst 0, 1) := by decide +kernel
theorem dX0_clear_2 : decode cX0_clear 2 = .ok (.putfield 9, 3) := by decide +kernel
theorem dX0_clear_5 : decode cX0_clear 5 = .ok (.aload_n 0, 1) := by decide +kernel
theorem dX0_clear_6 : decode cX0_clear 6 = .ok (.iload_n 1, 1) := by decide +kernel
theorem dX0_clear_7 : decode cX0_clear 7 = .ok (.putfield 15, 3) := by decide +kernel
theorem dX0_clear_10 : decode cX0_clear 10 = .ok (.return_, 1) := by decide +kernel
theorem dX0_comes_0 : decode cX0_comes 0 = .ok (.iconst 1, 1) := by decide +kernel
theorem dX0_comes_1 : decode cX0_comes 1 = .ok (.iload_n 1, 1) := by decide +kernel
theorem dX0_comes_2 : decode cX0_comes 2 = .ok (.ishl, 1) := by decide +kernel
theorem dX0_comes_3 : decode cX0_comes 3 = .ok (.istore 4, 2) := by decide +kernel
theorem dX0_comes_5 : decode cX0_comes 5 = .ok (.iconst 1, 1) := by decide +kernel
theorem dX0_comes_6 : decode cX0_comes 6 = .ok (.istore 5, 2) := by decide +kernel
theorem dX0_comes_8 : decode cX0_comes 8 = .ok (.iload 5, 2) := by decide +kernel
theorem dX0_comes_10 : decode cX0_comes 10 = .ok (.aload_n 0, 1) := by decide +kernel
theorem dX0_comes_11 : decode cX0_comes 11 = .ok (.getfield 15, 3) := by decide +kernel
theorem dX0_comes_14 : decode cX0_comes 14 = .ok (.if_icmp .ge 107, 3) := by decide +kernel
theorem dX0_comes_17 : decode cX0_comes 17 = .ok (.iconst 0, 1) := by decide +kernel
theorem dX0_comes_18 : decode cX0_comes 18 = .ok (.istore 6, 2) := by decide +kernel
theorem dX0_comes_20 : decode cX0_comes 20 = .ok (.iload 6, 2) := by decide +kernel
theorem dX0_comes_22 : decode cX0_comes 22 = .ok (.aload_n 0, 1) := by decide +kernel
theorem dX0_comes_23 : decode cX0_comes 23 = .ok (.getfield 9, 3) := by decide +kernel
theorem dX0_comes_26 : decode cX0_comes 26 = .ok (.if_icmp .ge 89, 3) := by decide +kernel
theorem dX0_comes_29 : decode cX0_comes 29 = .ok (.iload_n 3, 1) := by decide +kernel
theorem dX0_comes_30 : decode cX0_comes 30 = .ok (.iconst 2, 1) := by decide +kernel
theorem dX0_comes_31 : decode cX0_comes 31 = .ok (.iload 6, 2) := by decide +kernel
theorem dX0_comes_33 : decode cX0_comes 33 = .ok (.imul, 1) := by decide +kernel
theorem dX0_comes_34 : decode cX0_comes 34 = .ok (.ishr, 1) := by decide +kernel
theorem dX0_comes_35 : decode cX0_comes 35 = .ok (.istore 7, 2) := by decide +kernel
theorem dX0_comes_37 : decode cX0_comes 37 = .ok (.iload 7, 2) := by decide +kernel
theorem dX0_comes_39 : decode cX0_comes 39 = .ok (.iconst 1, 1) := by decide +kernel
theorem dX0_comes_40 : decode cX0_comes 40 = .ok (.iand, 1) := by decide +kernel
theorem dX0_comes_41 : decode cX0_comes 41 = .ok (.ifCond .eq 32, 3) := by decide +kernel
theorem dX0_comes_44 : decode cX0_comes 44 = .ok (.iload 4, 2) := by decide +kernel
theorem dX0_comes_46 : decode cX0_comes 46 = .ok (.aload_n 0, 1) := by decide +kernel
theorem dX0_comes_47 : decode cX0_comes 47 = .ok (.getfield 22, 3) := by decide +kernel
theorem dX0_comes_50 : decode cX0_comes 50 = .ok (.iload 6, 2) := by decide +kernel
theorem dX0_comes_52 : decode cX0_comes 52 = .ok (.iaload, 1) := by decide +kernel
theorem dX0_comes_53 : decode cX0_comes 53 = .ok (.ishr, 1) := by decide +kernel
theorem dX0_comes_54 : decode cX0_comes 54 = .ok (.iconst 1, 1) := by decide +kernel
theorem dX0_comes_55 : decode cX0_comes 55 = .ok (.iand, 1) := by decide +kernel
theorem dX0_comes_56 : decode cX0_comes 56 = .ok (.ifCond .eq 17, 3) := by decide +kernel
theorem dX0_comes_59 : decode cX0_comes 59 = .ok (.iload 4, 2) := by decide +kernel
theorem dX0_comes_61 : decode cX0_comes 61 = .ok (.iconst 1, 1) := by decide +kernel
theorem dX0_comes_62 : decode cX0_comes 62 = .ok (.aload_n 0, 1) := by decide +kernel
theorem dX0_comes_63 : decode cX0_comes 63 = .ok (.getfield 25, 3) := by decide +kernel
theorem dX0_comes_66 : decode cX0_comes 66 = .ok (.iload 6, 2) := by decide +kernel
theorem dX0_comes_68 : decode cX0_comes 68 = .ok (.iaload, 1) := by decide +kernel
theorem dX0_comes_69 : decode cX0_comes 69 = .ok (.ishl, 1) := by decide +kernel
theorem dX0_comes_70 : decode cX0_comes 70 = .ok (.ior, 1) := by decide +kernel
theorem dX0_comes_71 : decode cX0_comes 71 = .ok (.istore 4, 2) := by decide +kernel
theorem dX0_comes_73 : decode cX0_comes 73 = .ok (.iload 7, 2) := by decide +kernel
theorem dX0_comes_75 : decode cX0_comes 75 = .ok (.iconst 2, 1) := by decide +kernel
theorem dX0_comes_76 : decode cX0_comes 76 = .ok (.iand, 1) := by decide +kernel
theorem dX0_comes_77 : decode cX0_comes 77 = .ok (.ifCond .eq 32, 3) := by decide +kernel
theorem dX0_comes_80 : decode cX0_comes 80 = .ok (.iload 4, 2) := by decide +kernel
theorem dX0_comes_82 : decode cX0_comes 82 = .ok (.aload_n 0, 1) := by decide +kernel
theorem dX0_comes_83 : decode cX0_comes 83 = .ok (.getfield 25, 3) := by decide +kernel
theorem dX0_comes_86 : decode cX0_comes 86 = .ok (.iload 6, 2) := by decide +kernel
theorem dX0_comes_88 : decode cX0_comes 88 = .ok (.iaload, 1) := by decide +kernel
theorem dX0_comes_89 : decode cX0_comes 89 = .ok (.ishr, 1) := by decide +kernel
theorem dX0_comes_90 : decode cX0_comes 90 = .ok (.iconst 1, 1) := by decide +kernel
theorem dX0_comes_91 : decode cX0_comes 91 = .ok (.iand, 1) := by decide +kernel
theorem dX0_comes_92 : decode cX0_comes 92 = .ok (.ifCond .eq 17, 3) := by decide +kernel
theorem dX0_comes_95 : decode cX0_comes 95 = .ok (.iload 4, 2) := by decide +kernel
theorem dX0_comes_97 : decode cX0_comes 97 = .ok (.iconst 1, 1) := by decide +kernel
theorem dX0_comes_98 : decode cX0_comes 98 = .ok (.aload_n 0, 1) := by decide +kernel
theorem dX0_comes_99 : decode cX0_comes 99 = .ok (.getfield 22, 3) := by decide +kernel
theorem dX0_comes_102 : decode cX0_comes 102 = .ok (.iload 6, 2) := by decide +kernel
theorem dX0_comes_104 : decode cX0_comes 104 = .ok (.iaload, 1) := by decide +kernel
theorem dX0_comes_105 : decode cX0_comes 105 = .ok (.ishl, 1) := by decide +kernel
theorem dX0_comes_106 : decode cX0_comes 106 = .ok (.ior, 1) := by decide +kernel
theorem dX0_comes_107 : decode cX0_comes 107 = .ok (.istore 4, 2) := by decide +kernel
theorem dX0_comes_109 : decode cX0_comes 109 = .ok (.iinc 6 1, 3) := by decide +kernel
theorem dX0_comes_112 : decode cX0_comes 112 = .ok (.goto (-92), 3) := by decide +kernel
theorem dX0_comes_115 : decode cX0_comes 115 = .ok (.iinc 5 1, 3) := by decide +kernel
theorem dX0_comes_118 : decode cX0_comes 118 = .ok (.goto (-110), 3) := by decide +kernel
theorem dX0_comes_121 : decode cX0_comes 121 = .ok (.iload 4, 2) := by decide +kernel
theorem dX0_comes_123 : decode cX0_comes 123 = .ok (.iload_n 2, 1) := by decide +kernel
theorem dX0_comes_124 : decode cX0_comes 124 = .ok (.ishr, 1) := by decide +kernel
theorem dX0_comes_125 : decode cX0_comes 125 = .ok (.iconst 1, 1) := by decide +kernel
theorem dX0_comes_126 : decode cX0_comes 126 = .ok (.iand, 1) := by decide +kernel
theorem dX0_comes_127 : decode cX0_comes 127 = .ok (.ifCond .eq 7, 3) := by decide +kernel
theorem dX0_comes_130 : decode cX0_comes 130 = .ok (.iconst 1, 1) := by decide +kernel
theorem dX0_comes_131 : decode cX0_comes 131 = .ok (.goto 4, 3) := by decide +kernel
theorem dX0_comes_134 : decode cX0_comes 134 = .ok (.iconst 0, 1) := by decide +kernel
theorem dX0_comes_135 : decode cX0_comes 135 = .ok (.ireturn, 1) := by decide +kernel
theorem dX0_has_0 : decode cX0_has 0 = .ok (.iload_n 1, 1) := by decide +kernel
theorem dX0_has_1 : decode cX0_has 1 = .ok (.ifCond .lt 15, 3) := by decide +kernel
theorem dX0_has_4 : decode cX0_has 4 = .ok (.iload_n 1, 1) := by decide +kernel
theorem dX0_has_5 : decode cX0_has 5 = .ok (.aload_n 0, 1) := by decide +kernel
theorem dX0_has_6 : decode cX0_has 6 = .ok (.getfield 9, 3) := by decide +kernel
theorem dX0_has_9 : decode cX0_has 9 = .ok (.if_icmp .ge 7, 3) := by decide +kernel
theorem dX0_has_12 : decode cX0_has 12 = .ok (.iconst 1, 1) := by decide +kernel
theorem dX0_has_13 : decode cX0_has 13 = .ok (.goto 4, 3) := by decide +kernel
theorem dX0_has_16 : decode cX0_has 16 = .ok (.iconst 0, 1) := by decide +kernel
theorem dX0_has_17 : decode cX0_has 17 = .ok (.ireturn, 1) := by decide +kernel
theorem dX0_huesOf_0 : decode cX0_huesOf 0 = .ok (.iconst 0, 1) := by decide +kernel
theorem dX0_huesOf_1 : decode cX0_huesOf 1 = .ok (.istore_n 2, 1) := by decide +kernel
theorem dX0_huesOf_2 : decode cX0_huesOf 2 = .ok (.iconst 0, 1) := by decide +kernel
theorem dX0_huesOf_3 : decode cX0_huesOf 3 = .ok (.istore_n 3, 1) := by decide +kernel
theorem dX0_huesOf_4 : decode cX0_huesOf 4 = .ok (.iload_n 3, 1) := by decide +kernel
theorem dX0_huesOf_5 : decode cX0_huesOf 5 = .ok (.iconst 1, 1) := by decide +kernel
theorem dX0_huesOf_6 : decode cX0_huesOf 6 = .ok (.aload_n 0, 1) := by decide +kernel
theorem dX0_huesOf_7 : decode cX0_huesOf 7 = .ok (.getfield 15, 3) := by decide +kernel
theorem dX0_huesOf_10 : decode cX0_huesOf 10 = .ok (.ishl, 1) := by decide +kernel
theorem dX0_huesOf_11 : decode cX0_huesOf 11 = .ok (.if_icmp .ge 32, 3) := by decide +kernel
theorem dX0_huesOf_14 : decode cX0_huesOf 14 = .ok (.aload_n 0, 1) := by decide +kernel
theorem dX0_huesOf_15 : decode cX0_huesOf 15 = .ok (.iload_n 3, 1) := by decide +kernel
theorem dX0_huesOf_16 : decode cX0_huesOf 16 = .ok (.iload_n 1, 1) := by decide +kernel
theorem dX0_huesOf_17 : decode cX0_huesOf 17 = .ok (.invokevirtual 61, 3) := by decide +kernel
theorem dX0_huesOf_20 : decode cX0_huesOf 20 = .ok (.ifCond .eq 17, 3) := by decide +kernel
theorem dX0_huesOf_23 : decode cX0_huesOf 23 = .ok (.iload_n 2, 1) := by decide +kernel
theorem dX0_huesOf_24 : decode cX0_huesOf 24 = .ok (.iload_n 3, 1) := by decide +kernel
theorem dX0_huesOf_25 : decode cX0_huesOf 25 = .ok (.iconst 2, 1) := by decide +kernel
theorem dX0_huesOf_26 : decode cX0_huesOf 26 = .ok (.iand, 1) := by decide +kernel
theorem dX0_huesOf_27 : decode cX0_huesOf 27 = .ok (.ifCond .ne 7, 3) := by decide +kernel
theorem dX0_huesOf_30 : decode cX0_huesOf 30 = .ok (.iconst 1, 1) := by decide +kernel
theorem dX0_huesOf_31 : decode cX0_huesOf 31 = .ok (.goto 4, 3) := by decide +kernel
theorem dX0_huesOf_34 : decode cX0_huesOf 34 = .ok (.iconst 2, 1) := by decide +kernel
theorem dX0_huesOf_35 : decode cX0_huesOf 35 = .ok (.ior, 1) := by decide +kernel
theorem dX0_huesOf_36 : decode cX0_huesOf 36 = .ok (.istore_n 2, 1) := by decide +kernel
theorem dX0_huesOf_37 : decode cX0_huesOf 37 = .ok (.iinc 3 2, 3) := by decide +kernel
theorem dX0_huesOf_40 : decode cX0_huesOf 40 = .ok (.goto (-36), 3) := by decide +kernel
theorem dX0_huesOf_43 : decode cX0_huesOf 43 = .ok (.iload_n 2, 1) := by decide +kernel
theorem dX0_huesOf_44 : decode cX0_huesOf 44 = .ok (.ireturn, 1) := by decide +kernel
theorem dX0_isDone_0 : decode cX0_isDone 0 = .ok (.aload_n 0, 1) := by decide +kernel
theorem dX0_isDone_1 : decode cX0_isDone 1 = .ok (.getfield 9, 3) := by decide +kernel
theorem dX0_isDone_4 : decode cX0_isDone 4 = .ok (.ifCond .le 14, 3) := by decide +kernel
theorem dX0_isDone_7 : decode cX0_isDone 7 = .ok (.aload_n 0, 1) := by decide +kernel
theorem dX0_isDone_8 : decode cX0_isDone 8 = .ok (.invokevirtual 36, 3) := by decide +kernel
theorem dX0_isDone_11 : decode cX0_isDone 11 = .ok (.ifCond .ne 7, 3) := by decide +kernel
theorem dX0_isDone_14 : decode cX0_isDone 14 = .ok (.iconst 1, 1) := by decide +kernel
theorem dX0_isDone_15 : decode cX0_isDone 15 = .ok (.goto 4, 3) := by decide +kernel
theorem dX0_isDone_18 : decode cX0_isDone 18 = .ok (.iconst 0, 1) := by decide +kernel
theorem dX0_isDone_19 : decode cX0_isDone 19 = .ok (.ireturn, 1) := by decide +kernel
theorem dX0_openEdges_0 : decode cX0_openEdges 0 = .ok (.iconst 0, 1) := by decide +kernel
theorem dX0_openEdges_1 : decode cX0_openEdges 1 = .ok (.istore_n 1, 1) := by decide +kernel
theorem dX0_openEdges_2 : decode cX0_openEdges 2 = .ok (.iconst 0, 1) := by decide +kernel
theorem dX0_openEdges_3 : decode cX0_openEdges 3 = .ok (.istore_n 2, 1) := by decide +kernel
theorem dX0_openEdges_4 : decode cX0_openEdges 4 = .ok (.iload_n 2, 1) := by decide +kernel
theorem dX0_openEdges_5 : decode cX0_openEdges 5 = .ok (.aload_n 0, 1) := by decide +kernel
theorem dX0_openEdges_6 : decode cX0_openEdges 6 = .ok (.getfield 9, 3) := by decide +kernel
theorem dX0_openEdges_9 : decode cX0_openEdges 9 = .ok (.if_icmp .ge 29, 3) := by decide +kernel
theorem dX0_openEdges_12 : decode cX0_openEdges 12 = .ok (.iload_n 1, 1) := by decide +kernel
theorem dX0_openEdges_13 : decode cX0_openEdges 13 = .ok (.aload_n 0, 1) := by decide +kernel
theorem dX0_openEdges_14 : decode cX0_openEdges 14 = .ok (.getfield 18, 3) := by decide +kernel
theorem dX0_openEdges_17 : decode cX0_openEdges 17 = .ok (.iload_n 2, 1) := by decide +kernel
theorem dX0_openEdges_18 : decode cX0_openEdges 18 = .ok (.iaload, 1) := by decide +kernel
theorem dX0_openEdges_19 : decode cX0_openEdges 19 = .ok (.invokestatic 32, 3) := by decide +kernel
theorem dX0_openEdges_22 : decode cX0_openEdges 22 = .ok (.ifCond .eq 7, 3) := by decide +kernel
theorem dX0_openEdges_25 : decode cX0_openEdges 25 = .ok (.iconst 1, 1) := by decide +kernel
theorem dX0_openEdges_26 : decode cX0_openEdges 26 = .ok (.goto 4, 3) := by decide +kernel
theorem dX0_openEdges_29 : decode cX0_openEdges 29 = .ok (.iconst 0, 1) := by decide +kernel
theorem dX0_openEdges_30 : decode cX0_openEdges 30 = .ok (.iadd, 1) := by decide +kernel
theorem dX0_openEdges_31 : decode cX0_openEdges 31 = .ok (.istore_n 1, 1) := by decide +kernel
theorem dX0_openEdges_32 : decode cX0_openEdges 32 = .ok (.iinc 2 1, 3) := by decide +kernel
theorem dX0_openEdges_35 : decode cX0_openEdges 35 = .ok (.goto (-31), 3) := by decide +kernel
theorem dX0_openEdges_38 : decode cX0_openEdges 38 = .ok (.iload_n 1, 1) := by decide +kernel
theorem dX0_openEdges_39 : decode cX0_openEdges 39 = .ok (.ireturn, 1) := by decide +kernel
theorem dX0_ownKind_0 : decode cX0_ownKind 0 = .ok (.iconst 0, 1) := by decide +kernel
theorem dX0_ownKind_1 : decode cX0_ownKind 1 = .ok (.istore_n 1, 1) := by decide +kernel
theorem dX0_ownKind_2 : decode cX0_ownKind 2 = .ok (.iconst 0, 1) := by decide +kernel
theorem dX0_ownKind_3 : decode cX0_ownKind 3 = .ok (.istore_n 2, 1) := by decide +kernel
theorem dX0_ownKind_4 : decode cX0_ownKind 4 = .ok (.iconst 0, 1) := by decide +kernel
theorem dX0_ownKind_5 : decode cX0_ownKind 5 = .ok (.istore_n 3, 1) := by decide +kernel
theorem dX0_ownKind_6 : decode cX0_ownKind 6 = .ok (.iload_n 3, 1) := by decide +kernel
theorem dX0_ownKind_7 : decode cX0_ownKind 7 = .ok (.aload_n 0, 1) := by decide +kernel
theorem dX0_ownKind_8 : decode cX0_ownKind 8 = .ok (.getfield 9, 3) := by decide +kernel
theorem dX0_ownKind_11 : decode cX0_ownKind 11 = .ok (.if_icmp .ge 50, 3) := by decide +kernel
theorem dX0_ownKind_14 : decode cX0_ownKind 14 = .ok (.aload_n 0, 1) := by decide +kernel
theorem dX0_ownKind_15 : decode cX0_ownKind 15 = .ok (.getfield 18, 3) := by decide +kernel
theorem dX0_ownKind_18 : decode cX0_ownKind 18 = .ok (.iload_n 3, 1) := by decide +kernel
theorem dX0_ownKind_19 : decode cX0_ownKind 19 = .ok (.iaload, 1) := by decide +kernel
theorem dX0_ownKind_20 : decode cX0_ownKind 20 = .ok (.iconst 3, 1) := by decide +kernel
theorem dX0_ownKind_21 : decode cX0_ownKind 21 = .ok (.if_icmp .ne 8, 3) := by decide +kernel
theorem dX0_ownKind_24 : decode cX0_ownKind 24 = .ok (.bipush 9, 2) := by decide +kernel
theorem dX0_ownKind_26 : decode cX0_ownKind 26 = .ok (.goto 5, 3) := by decide +kernel
theorem dX0_ownKind_29 : decode cX0_ownKind 29 = .ok (.bipush 15, 2) := by decide +kernel
theorem dX0_ownKind_31 : decode cX0_ownKind 31 = .ok (.istore 4, 2) := by decide +kernel
theorem dX0_ownKind_33 : decode cX0_ownKind 33 = .ok (.iload_n 1, 1) := by decide +kernel
theorem dX0_ownKind_34 : decode cX0_ownKind 34 = .ok (.iload 4, 2) := by decide +kernel
theorem dX0_ownKind_36 : decode cX0_ownKind 36 = .ok (.iconst 3, 1) := by decide +kernel
theorem dX0_ownKind_37 : decode cX0_ownKind 37 = .ok (.iand, 1) := by decide +kernel
theorem dX0_ownKind_38 : decode cX0_ownKind 38 = .ok (.iconst 2, 1) := by decide +kernel
theorem dX0_ownKind_39 : decode cX0_ownKind 39 = .ok (.iload_n 3, 1) := by decide +kernel
theorem dX0_ownKind_40 : decode cX0_ownKind 40 = .ok (.imul, 1) := by decide +kernel
theorem dX0_ownKind_41 : decode cX0_ownKind 41 = .ok (.ishl, 1) := by decide +kernel
theorem dX0_ownKind_42 : decode cX0_ownKind 42 = .ok (.ior, 1) := by decide +kernel
theorem dX0_ownKind_43 : decode cX0_ownKind 43 = .ok (.istore_n 1, 1) := by decide +kernel
theorem dX0_ownKind_44 : decode cX0_ownKind 44 = .ok (.iload_n 2, 1) := by decide +kernel
theorem dX0_ownKind_45 : decode cX0_ownKind 45 = .ok (.iload 4, 2) := by decide +kernel
theorem dX0_ownKind_47 : decode cX0_ownKind 47 = .ok (.iconst 2, 1) := by decide +kernel
theorem dX0_ownKind_48 : decode cX0_ownKind 48 = .ok (.ishr, 1) := by decide +kernel
theorem dX0_ownKind_49 : decode cX0_ownKind 49 = .ok (.iconst 2, 1) := by decide +kernel
theorem dX0_ownKind_50 : decode cX0_ownKind 50 = .ok (.iload_n 3, 1) := by decide +kernel
theorem dX0_ownKind_51 : decode cX0_ownKind 51 = .ok (.imul, 1) := by decide +kernel
theorem dX0_ownKind_52 : decode cX0_ownKind 52 = .ok (.ishl, 1) := by decide +kernel
theorem dX0_ownKind_53 : decode cX0_ownKind 53 = .ok (.ior, 1) := by decide +kernel
theorem dX0_ownKind_54 : decode cX0_ownKind 54 = .ok (.istore_n 2, 1) := by decide +kernel
theorem dX0_ownKind_55 : decode cX0_ownKind 55 = .ok (.iinc 3 1, 3) := by decide +kernel
theorem dX0_ownKind_58 : decode cX0_ownKind 58 = .ok (.goto (-52), 3) := by decide +kernel
theorem dX0_ownKind_61 : decode cX0_ownKind 61 = .ok (.aload_n 0, 1) := by decide +kernel
theorem dX0_ownKind_62 : decode cX0_ownKind 62 = .ok (.iload_n 1, 1) := by decide +kernel
theorem dX0_ownKind_63 : decode cX0_ownKind 63 = .ok (.invokevirtual 51, 3) := by decide +kernel
theorem dX0_ownKind_66 : decode cX0_ownKind 66 = .ok (.aload_n 0, 1) := by decide +kernel
theorem dX0_ownKind_67 : decode cX0_ownKind 67 = .ok (.iload_n 2, 1) := by decide +kernel
theorem dX0_ownKind_68 : decode cX0_ownKind 68 = .ok (.invokevirtual 54, 3) := by decide +kernel
theorem dX0_ownKind_71 : decode cX0_ownKind 71 = .ok (.iconst 2, 1) := by decide +kernel
theorem dX0_ownKind_72 : decode cX0_ownKind 72 = .ok (.ishl, 1) := by decide +kernel
theorem dX0_ownKind_73 : decode cX0_ownKind 73 = .ok (.ior, 1) := by decide +kernel
theorem dX0_ownKind_74 : decode cX0_ownKind 74 = .ok (.ireturn, 1) := by decide +kernel
theorem dX0_put_0 : decode cX0_put 0 = .ok (.aload_n 0, 1) := by decide +kernel
theorem dX0_put_1 : decode cX0_put 1 = .ok (.getfield 18, 3) := by decide +kernel
theorem dX0_put_4 : decode cX0_put 4 = .ok (.iload_n 1, 1) := by decide +kernel
theorem dX0_put_5 : decode cX0_put 5 = .ok (.iload_n 2, 1) := by decide +kernel
theorem dX0_put_6 : decode cX0_put 6 = .ok (.iastore, 1) := by decide +kernel
theorem dX0_put_7 : decode cX0_put 7 = .ok (.aload_n 0, 1) := by decide +kernel
theorem dX0_put_8 : decode cX0_put 8 = .ok (.getfield 22, 3) := by decide +kernel
theorem dX0_put_11 : decode cX0_put 11 = .ok (.iload_n 1, 1) := by decide +kernel
theorem dX0_put_12 : decode cX0_put 12 = .ok (.iload_n 3, 1) := by decide +kernel
theorem dX0_put_13 : decode cX0_put 13 = .ok (.iastore, 1) := by decide +kernel
theorem dX0_put_14 : decode cX0_put 14 = .ok (.aload_n 0, 1) := by decide +kernel
theorem dX0_put_15 : decode cX0_put 15 = .ok (.getfield 25, 3) := by decide +kernel
theorem dX0_put_18 : decode cX0_put 18 = .ok (.iload_n 1, 1) := by decide +kernel
theorem dX0_put_19 : decode cX0_put 19 = .ok (.iload 4, 2) := by decide +kernel
theorem dX0_put_21 : decode cX0_put 21 = .ok (.iastore, 1) := by decide +kernel
theorem dX0_put_22 : decode cX0_put 22 = .ok (.return_, 1) := by decide +kernel
theorem dX0_told_0 : decode cX0_told 0 = .ok (.bipush 100, 2) := by decide +kernel
theorem dX0_told_2 : decode cX0_told 2 = .ok (.aload_n 0, 1) := by decide +kernel
theorem dX0_told_3 : decode cX0_told 3 = .ok (.getfield 18, 3) := by decide +kernel
theorem dX0_told_6 : decode cX0_told 6 = .ok (.iload_n 1, 1) := by decide +kernel
theorem dX0_told_7 : decode cX0_told 7 = .ok (.iaload, 1) := by decide +kernel
theorem dX0_told_8 : decode cX0_told 8 = .ok (.imul, 1) := by decide +kernel
theorem dX0_told_9 : decode cX0_told 9 = .ok (.bipush 10, 2) := by decide +kernel
theorem dX0_told_11 : decode cX0_told 11 = .ok (.aload_n 0, 1) := by decide +kernel
theorem dX0_told_12 : decode cX0_told 12 = .ok (.getfield 22, 3) := by decide +kernel
theorem dX0_told_15 : decode cX0_told 15 = .ok (.iload_n 1, 1) := by decide +kernel
theorem dX0_told_16 : decode cX0_told 16 = .ok (.iaload, 1) := by decide +kernel
theorem dX0_told_17 : decode cX0_told 17 = .ok (.imul, 1) := by decide +kernel
theorem dX0_told_18 : decode cX0_told 18 = .ok (.iadd, 1) := by decide +kernel
theorem dX0_told_19 : decode cX0_told 19 = .ok (.aload_n 0, 1) := by decide +kernel
theorem dX0_told_20 : decode cX0_told 20 = .ok (.getfield 25, 3) := by decide +kernel
theorem dX0_told_23 : decode cX0_told 23 = .ok (.iload_n 1, 1) := by decide +kernel
theorem dX0_told_24 : decode cX0_told 24 = .ok (.iaload, 1) := by decide +kernel
theorem dX0_told_25 : decode cX0_told 25 = .ok (.iadd, 1) := by decide +kernel
theorem dX0_told_26 : decode cX0_told 26 = .ok (.ireturn, 1) := by decide +kernel
theorem dX0_waysOf_0 : decode cX0_waysOf 0 = .ok (.aload_n 0, 1) := by decide +kernel
theorem dX0_waysOf_1 : decode cX0_waysOf 1 = .ok (.iconst 0, 1) := by decide +kernel
theorem dX0_waysOf_2 : decode cX0_waysOf 2 = .ok (.iconst 1, 1) := by decide +kernel
theorem dX0_waysOf_3 : decode cX0_waysOf 3 = .ok (.iload_n 1, 1) := by decide +kernel
theorem dX0_waysOf_4 : decode cX0_waysOf 4 = .ok (.invokevirtual 57, 3) := by decide +kernel
theorem dX0_waysOf_7 : decode cX0_waysOf 7 = .ok (.ifCond .eq 7, 3) := by decide +kernel
theorem dX0_waysOf_10 : decode cX0_waysOf 10 = .ok (.iconst 1, 1) := by decide +kernel
theorem dX0_waysOf_11 : decode cX0_waysOf 11 = .ok (.goto 4, 3) := by decide +kernel
theorem dX0_waysOf_14 : decode cX0_waysOf 14 = .ok (.iconst 0, 1) := by decide +kernel
theorem dX0_waysOf_15 : decode cX0_waysOf 15 = .ok (.aload_n 0, 1) := by decide +kernel
theorem dX0_waysOf_16 : decode cX0_waysOf 16 = .ok (.iconst 1, 1) := by decide +kernel
theorem dX0_waysOf_17 : decode cX0_waysOf 17 = .ok (.iconst 0, 1) := by decide +kernel
theorem dX0_waysOf_18 : decode cX0_waysOf 18 = .ok (.iload_n 1, 1) := by decide +kernel
theorem dX0_waysOf_19 : decode cX0_waysOf 19 = .ok (.invokevirtual 57, 3) := by decide +kernel
theorem dX0_waysOf_22 : decode cX0_waysOf 22 = .ok (.ifCond .eq 7, 3) := by decide +kernel
theorem dX0_waysOf_25 : decode cX0_waysOf 25 = .ok (.iconst 2, 1) := by decide +kernel
theorem dX0_waysOf_26 : decode cX0_waysOf 26 = .ok (.goto 4, 3) := by decide +kernel
theorem dX0_waysOf_29 : decode cX0_waysOf 29 = .ok (.iconst 0, 1) := by decide +kernel
theorem dX0_waysOf_30 : decode cX0_waysOf 30 = .ok (.ior, 1) := by decide +kernel
theorem dX0_waysOf_31 : decode cX0_waysOf 31 = .ok (.ireturn, 1) := by decide +kernel
theorem dX3_clear_0 : decode cX3_clear 0 = .ok (.aload_n 0, 1) := by decide +kernel
theorem dX3_clear_1 : decode cX3_clear 1 = .ok (.iconst 0, 1) := by decide +kernel
theorem dX3_clear_2 : decode cX3_clear 2 = .ok (.putfield 15, 3) := by decide +kernel
theorem dX3_clear_5 : decode cX3_clear 5 = .ok (.return_, 1) := by decide +kernel
theorem dX3_isGraph_0 : decode cX3_isGraph 0 = .ok (.aload_n 0, 1) := by decide +kernel
theorem dX3_isGraph_1 : decode cX3_isGraph 1 = .ok (.iconst 0, 1) := by decide +kernel
theorem dX3_isGraph_2 : decode cX3_isGraph 2 = .ok (.invokevirtual 34, 3) := by decide +kernel
theorem dX3_isGraph_5 : decode cX3_isGraph 5 = .ok (.ifCond .eq 26, 3) := by decide +kernel
theorem dX3_isGraph_8 : decode cX3_isGraph 8 = .ok (.aload_n 0, 1) := by decide +kernel
theorem dX3_isGraph_9 : decode cX3_isGraph 9 = .ok (.iconst 1, 1) := by decide +kernel
theorem dX3_isGraph_10 : decode cX3_isGraph 10 = .ok (.invokevirtual 37, 3) := by decide +kernel
theorem dX3_isGraph_13 : decode cX3_isGraph 13 = .ok (.aload_n 0, 1) := by decide +kernel
theorem dX3_isGraph_14 : decode cX3_isGraph 14 = .ok (.getfield 15, 3) := by decide +kernel
theorem dX3_isGraph_17 : decode cX3_isGraph 17 = .ok (.if_icmp .ne 14, 3) := by decide +kernel
theorem dX3_isGraph_20 : decode cX3_isGraph 20 = .ok (.aload_n 0, 1) := by decide +kernel
theorem dX3_isGraph_21 : decode cX3_isGraph 21 = .ok (.invokevirtual 44, 3) := by decide +kernel
theorem dX3_isGraph_24 : decode cX3_isGraph 24 = .ok (.ifCond .eq 7, 3) := by decide +kernel
theorem dX3_isGraph_27 : decode cX3_isGraph 27 = .ok (.iconst 1, 1) := by decide +kernel
theorem dX3_isGraph_28 : decode cX3_isGraph 28 = .ok (.goto 4, 3) := by decide +kernel
theorem dX3_isGraph_31 : decode cX3_isGraph 31 = .ok (.iconst 0, 1) := by decide +kernel
theorem dX3_isGraph_32 : decode cX3_isGraph 32 = .ok (.ireturn, 1) := by decide +kernel
theorem dX3_isRule_0 : decode cX3_isRule 0 = .ok (.aload_n 0, 1) := by decide +kernel
theorem dX3_isRule_1 : decode cX3_isRule 1 = .ok (.iconst 2, 1) := by decide +kernel
theorem dX3_isRule_2 : decode cX3_isRule 2 = .ok (.invokevirtual 34, 3) := by decide +kernel
theorem dX3_isRule_5 : decode cX3_isRule 5 = .ok (.ifCond .eq 42, 3) := by decide +kernel
theorem dX3_isRule_8 : decode cX3_isRule 8 = .ok (.aload_n 0, 1) := by decide +kernel
theorem dX3_isRule_9 : decode cX3_isRule 9 = .ok (.iconst 0, 1) := by decide +kernel
theorem dX3_isRule_10 : decode cX3_isRule 10 = .ok (.invokevirtual 37, 3) := by decide +kernel
theorem dX3_isRule_13 : decode cX3_isRule 13 = .ok (.aload_n 0, 1) := by decide +kernel
theorem dX3_isRule_14 : decode cX3_isRule 14 = .ok (.getfield 15, 3) := by decide +kernel
theorem dX3_isRule_17 : decode cX3_isRule 17 = .ok (.if_icmp .ne 30, 3) := by decide +kernel
theorem dX3_isRule_20 : decode cX3_isRule 20 = .ok (.aload_n 0, 1) := by decide +kernel
theorem dX3_isRule_21 : decode cX3_isRule 21 = .ok (.iconst 0, 1) := by decide +kernel
theorem dX3_isRule_22 : decode cX3_isRule 22 = .ok (.invokevirtual 41, 3) := by decide +kernel
theorem dX3_isRule_25 : decode cX3_isRule 25 = .ok (.ifCond .eq 22, 3) := by decide +kernel
theorem dX3_isRule_28 : decode cX3_isRule 28 = .ok (.aload_n 0, 1) := by decide +kernel
theorem dX3_isRule_29 : decode cX3_isRule 29 = .ok (.iconst 1, 1) := by decide +kernel
theorem dX3_isRule_30 : decode cX3_isRule 30 = .ok (.invokevirtual 41, 3) := by decide +kernel
theorem dX3_isRule_33 : decode cX3_isRule 33 = .ok (.ifCond .eq 14, 3) := by decide +kernel
theorem dX3_isRule_36 : decode cX3_isRule 36 = .ok (.aload_n 0, 1) := by decide +kernel
theorem dX3_isRule_37 : decode cX3_isRule 37 = .ok (.invokevirtual 44, 3) := by decide +kernel
theorem dX3_isRule_40 : decode cX3_isRule 40 = .ok (.ifCond .eq 7, 3) := by decide +kernel
theorem dX3_isRule_43 : decode cX3_isRule 43 = .ok (.iconst 1, 1) := by decide +kernel
theorem dX3_isRule_44 : decode cX3_isRule 44 = .ok (.goto 4, 3) := by decide +kernel
theorem dX3_isRule_47 : decode cX3_isRule 47 = .ok (.iconst 0, 1) := by decide +kernel
theorem dX3_isRule_48 : decode cX3_isRule 48 = .ok (.ireturn, 1) := by decide +kernel
theorem dX3_namesNoGap_0 : decode cX3_namesNoGap 0 = .ok (.iconst 3, 1) := by decide +kernel
theorem dX3_namesNoGap_1 : decode cX3_namesNoGap 1 = .ok (.istore_n 1, 1) := by decide +kernel
theorem dX3_namesNoGap_2 : decode cX3_namesNoGap 2 = .ok (.iload_n 1, 1) := by decide +kernel
theorem dX3_namesNoGap_3 : decode cX3_namesNoGap 3 = .ok (.iconst 5, 1) := by decide +kernel
theorem dX3_namesNoGap_4 : decode cX3_namesNoGap 4 = .ok (.if_icmp .ge 29, 3) := by decide +kernel
theorem dX3_namesNoGap_7 : decode cX3_namesNoGap 7 = .ok (.aload_n 0, 1) := by decide +kernel
theorem dX3_namesNoGap_8 : decode cX3_namesNoGap 8 = .ok (.iload_n 1, 1) := by decide +kernel
theorem dX3_namesNoGap_9 : decode cX3_namesNoGap 9 = .ok (.invokevirtual 41, 3) := by decide +kernel
theorem dX3_namesNoGap_12 : decode cX3_namesNoGap 12 = .ok (.ifCond .eq 15, 3) := by decide +kernel
theorem dX3_namesNoGap_15 : decode cX3_namesNoGap 15 = .ok (.aload_n 0, 1) := by decide +kernel
theorem dX3_namesNoGap_16 : decode cX3_namesNoGap 16 = .ok (.iload_n 1, 1) := by decide +kernel
theorem dX3_namesNoGap_17 : decode cX3_namesNoGap 17 = .ok (.iconst 1, 1) := by decide +kernel
theorem dX3_namesNoGap_18 : decode cX3_namesNoGap 18 = .ok (.isub, 1) := by decide +kernel
theorem dX3_namesNoGap_19 : decode cX3_namesNoGap 19 = .ok (.invokevirtual 41, 3) := by decide +kernel
theorem dX3_namesNoGap_22 : decode cX3_namesNoGap 22 = .ok (.ifCond .ne 5, 3) := by decide +kernel
theorem dX3_namesNoGap_25 : decode cX3_namesNoGap 25 = .ok (.iconst 0, 1) := by decide +kernel
theorem dX3_namesNoGap_26 : decode cX3_namesNoGap 26 = .ok (.ireturn, 1) := by decide +kernel
theorem dX3_namesNoGap_27 : decode cX3_namesNoGap 27 = .ok (.iinc 1 1, 3) := by decide +kernel
theorem dX3_namesNoGap_30 : decode cX3_namesNoGap 30 = .ok (.goto (-28), 3) := by decide +kernel
theorem dX3_namesNoGap_33 : decode cX3_namesNoGap 33 = .ok (.iconst 1, 1) := by decide +kernel
theorem dX3_namesNoGap_34 : decode cX3_namesNoGap 34 = .ok (.ireturn, 1) := by decide +kernel
theorem dX3_openLetter_0 : decode cX3_openLetter 0 = .ok (.iconst 0, 1) := by decide +kernel
theorem dX3_openLetter_1 : decode cX3_openLetter 1 = .ok (.aload_n 0, 1) := by decide +kernel
theorem dX3_openLetter_2 : decode cX3_openLetter 2 = .ok (.getfield 9, 3) := by decide +kernel
theorem dX3_openLetter_5 : decode cX3_openLetter 5 = .ok (.iconst 0, 1) := by decide +kernel
theorem dX3_openLetter_6 : decode cX3_openLetter 6 = .ok (.iaload, 1) := by decide +kernel
theorem dX3_openLetter_7 : decode cX3_openLetter 7 = .ok (.invokestatic 27, 3) := by decide +kernel
theorem dX3_openLetter_10 : decode cX3_openLetter 10 = .ok (.invokestatic 48, 3) := by decide +kernel
theorem dX3_openLetter_13 : decode cX3_openLetter 13 = .ok (.ireturn, 1) := by decide +kernel
theorem dX3_write_0 : decode cX3_write 0 = .ok (.aload_n 0, 1) := by decide +kernel
theorem dX3_write_1 : decode cX3_write 1 = .ok (.getfield 15, 3) := by decide +kernel
theorem dX3_write_4 : decode cX3_write 4 = .ok (.aload_n 0, 1) := by decide +kernel
theorem dX3_write_5 : decode cX3_write 5 = .ok (.getfield 9, 3) := by decide +kernel
theorem dX3_write_8 : decode cX3_write 8 = .ok (.arraylength, 1) := by decide +kernel
theorem dX3_write_9 : decode cX3_write 9 = .ok (.if_icmp .ge 23, 3) := by decide +kernel
theorem dX3_write_12 : decode cX3_write 12 = .ok (.aload_n 0, 1) := by decide +kernel
theorem dX3_write_13 : decode cX3_write 13 = .ok (.getfield 9, 3) := by decide +kernel
theorem dX3_write_16 : decode cX3_write 16 = .ok (.aload_n 0, 1) := by decide +kernel
theorem dX3_write_17 : decode cX3_write 17 = .ok (.getfield 15, 3) := by decide +kernel
theorem dX3_write_20 : decode cX3_write 20 = .ok (.iload_n 1, 1) := by decide +kernel
theorem dX3_write_21 : decode cX3_write 21 = .ok (.iastore, 1) := by decide +kernel
theorem dX3_write_22 : decode cX3_write 22 = .ok (.aload_n 0, 1) := by decide +kernel
theorem dX3_write_23 : decode cX3_write 23 = .ok (.dup, 1) := by decide +kernel
theorem dX3_write_24 : decode cX3_write 24 = .ok (.getfield 15, 3) := by decide +kernel
theorem dX3_write_27 : decode cX3_write 27 = .ok (.iconst 1, 1) := by decide +kernel
theorem dX3_write_28 : decode cX3_write 28 = .ok (.iadd, 1) := by decide +kernel
theorem dX3_write_29 : decode cX3_write 29 = .ok (.putfield 15, 3) := by decide +kernel
theorem dX3_write_32 : decode cX3_write 32 = .ok (.return_, 1) := by decide +kernel
section
variable (l : Launch) (D : va_G) (cI cJ cZ cR : ClassId)
set_option maxHeartbeats 4000000 in
set_option maxRecDepth 100000 in
theorem c_X3_namesNoGap (sz : Nat) (pg : Nat) (pc : Nat) (z : Nat) (pf : Nat → Int32) (hz : z ≤ 16) : CTi l D cI cJ cZ cR yX3_namesNoGap cX3_namesNoGap 2 (some .boolean) 1 22 0 0 sz [.ref pg] [kX3 pg pc (nI z), kI cI pc 16 pf] (fun (r : Int32) (u : Unit) => (YN r (gapOK pf z))) (fun (u : Unit) => [kX3 pg pc (nI z), kI cI pc 16 pf]) := by
  refine CTi.of (ty := .boolean) (by decide) (Nat.le_of_ble_eq_true rfl) rfl ?_
  intro p e s m below meth c A Q ls hd hin hK hsz hP hD hA hS hl hret
  obtain ⟨hx, hb, hml, hown, hts⟩ := id hd
  have hK1 := hK.1
  have hown : s.vm.findClass RX3 = some m.cls := hown
  have hl : lv_has ls 2 [(0, .ref pg)] := hl
  refine lv_iconst (v := 3) hx hb dX3_namesNoGap_0 (by decide) ?_
  refine lv_istore_n (lv' := [(1, .int 3), (0, .ref pg)]) hx hb dX3_namesNoGap_1 rfl hl (by decide) rfl (fun ls hl => ?_)
  refine lv_iload_n hx hb dX3_namesNoGap_2 rfl (lv_at hl 0 rfl) ?_
  refine lv_iconst (v := 5) hx hb dX3_namesNoGap_3 (by decide) ?_
  refine lv_icmp_ge (tgt := 33) hx hb dX3_namesNoGap_4 (by decide) (fun c_1 => ?_) (fun c_1 => ?_)
  · exact absurd c_1 (by decide)
  refine lv_aload_n hx hb dX3_namesNoGap_7 rfl (lv_at hl 1 rfl) ?_
  refine lv_iload_n hx hb dX3_namesNoGap_8 rfl (lv_at hl 0 rfl) ?_
  refine xc_i (wc := [kX3 pg pc (nI z), kI cI pc 16 pf]) (wr := []) (xrV (n := 1) (As := [.int 3]) (rest := []) (ci := 3) (q0 := 0) hd hK hP hD (c_X3_names l D cI cJ cZ cR _ pg pc z pf 3 hz) (gV t_236 mV_X3_names) hV_X3_names ⟨(Nat.le_of_ble_eq_true rfl), (Nat.le_of_ble_eq_true rfl)⟩ rfl rfl [0, 1] rfl rfl rfl hl.1 rfl (Nat.le_of_ble_eq_true rfl) dX3_namesNoGap_9 ⟨(Nat.le_of_ble_eq_true rfl), (Nat.le_of_ble_eq_true rfl)⟩) hP hD hS hA [0, 1] [] rfl rfl rfl (by decide) (fun r_2 u_3 H locs hw_4 hP hD hS => ?_)
  have hw_5 : r_2 = (nmB pf (nI (48 + 3)) z) := hw_4
  subst hw_5
  have hP : va_P D vwCl [kX3 pg pc (nI z), kI cI pc 16 pf] H := hP
  have hD : va_D A [kX3 pg pc (nI z), kI cI pc 16 pf] := hD
  refine lv_nmi (show _ = (nmB pf 51 z : Int32) from rfl) ?_
  refine lv_if_eq (tgt := 27) hx hb dX3_namesNoGap_12 (by decide) (fun c_6 => ?_) (fun c_6 => ?_)
  · skip
    refine lv_iinc (v := 4) (lv' := [(1, .int 4), (0, .ref pg)]) hx hb dX3_namesNoGap_27 hl (k := 0) rfl (by decide) (by decide) rfl (fun ls hl => ?_)
    refine lv_goto (tgt := 2) hx hb dX3_namesNoGap_30 (by decide) ?_
    refine lv_iload_n hx hb dX3_namesNoGap_2 rfl (lv_at hl 0 rfl) ?_
    refine lv_iconst (v := 5) hx hb dX3_namesNoGap_3 (by decide) ?_
    refine lv_icmp_ge (tgt := 33) hx hb dX3_namesNoGap_4 (by decide) (fun c_7 => ?_) (fun c_7 => ?_)
    · exact absurd c_7 (by decide)
    refine lv_aload_n hx hb dX3_namesNoGap_7 rfl (lv_at hl 1 rfl) ?_
    refine lv_iload_n hx hb dX3_namesNoGap_8 rfl (lv_at hl 0 rfl) ?_
    refine xc_i (wc := [kX3 pg pc (nI z), kI cI pc 16 pf]) (wr := []) (xrV (n := 1) (As := [.int 4]) (rest := []) (ci := 3) (q0 := 0) hd hK hP hD (c_X3_names l D cI cJ cZ cR _ pg pc z pf 4 hz) (gV t_236 mV_X3_names) hV_X3_names ⟨(Nat.le_of_ble_eq_true rfl), (Nat.le_of_ble_eq_true rfl)⟩ rfl rfl [0, 1] rfl rfl rfl hl.1 rfl (Nat.le_of_ble_eq_true rfl) dX3_namesNoGap_9 ⟨(Nat.le_of_ble_eq_true rfl), (Nat.le_of_ble_eq_true rfl)⟩) hP hD hS hA [0, 1] [] rfl rfl rfl (by decide) (fun r_8 u_9 H locs hw_10 hP hD hS => ?_)
    have hw_11 : r_8 = (nmB pf (nI (48 + 4)) z) := hw_10
    subst hw_11
    have hP : va_P D vwCl [kX3 pg pc (nI z), kI cI pc 16 pf] H := hP
    have hD : va_D A [kX3 pg pc (nI z), kI cI pc 16 pf] := hD
    refine lv_nmi (show _ = (nmB pf 52 z : Int32) from rfl) ?_
    refine lv_if_eq (tgt := 27) hx hb dX3_namesNoGap_12 (by decide) (fun c_12 => ?_) (fun c_12 => ?_)
    · skip
      refine lv_iinc (v := 5) (lv' := [(1, .int 5), (0, .ref pg)]) hx hb dX3_namesNoGap_27 hl (k := 0) rfl (by decide) (by decide) rfl (fun ls hl => ?_)
      refine lv_goto (tgt := 2) hx hb dX3_namesNoGap_30 (by decide) ?_
      refine lv_iload_n hx hb dX3_namesNoGap_2 rfl (lv_at hl 0 rfl) ?_
      refine lv_iconst (v := 5) hx hb dX3_namesNoGap_3 (by decide) ?_
      refine lv_icmp_ge (tgt := 33) hx hb dX3_namesNoGap_4 (by decide) (fun c_13 => ?_) (fun c_13 => ?_)
      rotate_left
      · exact absurd c_13 (by decide)
      refine lv_iconst (v := 1) hx hb dX3_namesNoGap_33 (by decide) ?_
      exact hret _ _ _ _ _ _ 1 () dX3_namesNoGap_34 rfl hS (Nat.le_of_ble_eq_true rfl) (Nat.le_of_ble_eq_true rfl) (YN_y ⟨Or.inl c_6, Or.inl c_12⟩) (hP.sub [0, 1] rfl) (hD.sub [0, 1] rfl rfl)
    · skip
      refine lv_aload_n hx hb dX3_namesNoGap_15 rfl (lv_at hl 1 rfl) ?_
      refine lv_iload_n hx hb dX3_namesNoGap_16 rfl (lv_at hl 0 rfl) ?_
      refine lv_iconst (v := 1) hx hb dX3_namesNoGap_17 (by decide) ?_
      refine lv_isub hx hb dX3_namesNoGap_18 ?_
      refine lv_nmi (show _ = (3 : Int32) from by decide +kernel) ?_
      refine xc_i (wc := [kX3 pg pc (nI z), kI cI pc 16 pf]) (wr := []) (xrV (n := 1) (As := [.int 3]) (rest := []) (ci := 3) (q0 := 0) hd hK hP hD (c_X3_names l D cI cJ cZ cR _ pg pc z pf 3 hz) (gV t_236 mV_X3_names) hV_X3_names ⟨(Nat.le_of_ble_eq_true rfl), (Nat.le_of_ble_eq_true rfl)⟩ rfl rfl [0, 1] rfl rfl rfl hl.1 rfl (Nat.le_of_ble_eq_true rfl) dX3_namesNoGap_19 ⟨(Nat.le_of_ble_eq_true rfl), (Nat.le_of_ble_eq_true rfl)⟩) hP hD hS hA [0, 1] [] rfl rfl rfl (by decide) (fun r_14 u_15 H locs hw_16 hP hD hS => ?_)
      have hw_17 : r_14 = (nmB pf (nI (48 + 3)) z) := hw_16
      subst hw_17
      have hP : va_P D vwCl [kX3 pg pc (nI z), kI cI pc 16 pf] H := hP
      have hD : va_D A [kX3 pg pc (nI z), kI cI pc 16 pf] := hD
      refine lv_nmi (show _ = (nmB pf 51 z : Int32) from rfl) ?_
      refine lv_if_ne (tgt := 27) hx hb dX3_namesNoGap_22 (by decide) (fun c_18 => ?_) (fun c_18 => ?_)
      · skip
        refine lv_iinc (v := 5) (lv' := [(1, .int 5), (0, .ref pg)]) hx hb dX3_namesNoGap_27 hl (k := 0) rfl (by decide) (by decide) rfl (fun ls hl => ?_)
        refine lv_goto (tgt := 2) hx hb dX3_namesNoGap_30 (by decide) ?_
        refine lv_iload_n hx hb dX3_namesNoGap_2 rfl (lv_at hl 0 rfl) ?_
        refine lv_iconst (v := 5) hx hb dX3_namesNoGap_3 (by decide) ?_
        refine lv_icmp_ge (tgt := 33) hx hb dX3_namesNoGap_4 (by decide) (fun c_19 => ?_) (fun c_19 => ?_)
        rotate_left
        · exact absurd c_19 (by decide)
        refine lv_iconst (v := 1) hx hb dX3_namesNoGap_33 (by decide) ?_
        exact hret _ _ _ _ _ _ 1 () dX3_namesNoGap_34 rfl hS (Nat.le_of_ble_eq_true rfl) (Nat.le_of_ble_eq_true rfl) (YN_y ⟨Or.inl c_6, Or.inr c_18⟩) (hP.sub [0, 1] rfl) (hD.sub [0, 1] rfl rfl)
      · skip
        refine lv_iconst (v := 0) hx hb dX3_namesNoGap_25 (by decide) ?_
        exact hret _ _ _ _ _ _ 0 () dX3_namesNoGap_26 rfl hS (Nat.le_of_ble_eq_true rfl) (Nat.le_of_ble_eq_true rfl) (YN_n (fun h => by rcases h.2 with q | q; exact c_12 q; exact q c_18)) (hP.sub [0, 1] rfl) (hD.sub [0, 1] rfl rfl)
  · skip
    refine lv_aload_n hx hb dX3_namesNoGap_15 rfl (lv_at hl 1 rfl) ?_
    refine lv_iload_n hx hb dX3_namesNoGap_16 rfl (lv_at hl 0 rfl) ?_
    refine lv_iconst (v := 1) hx hb dX3_namesNoGap_17 (by decide) ?_
    refine lv_isub hx hb dX3_namesNoGap_18 ?_
    refine lv_nmi (show _ = (2 : Int32) from by decide +kernel) ?_
    refine xc_i (wc := [kX3 pg pc (nI z), kI cI pc 16 pf]) (wr := []) (xrV (n := 1) (As := [.int 2]) (rest := []) (ci := 3) (q0 := 0) hd hK hP hD (c_X3_names l D cI cJ cZ cR _ pg pc z pf 2 hz) (gV t_236 mV_X3_names) hV_X3_names ⟨(Nat.le_of_ble_eq_true rfl), (Nat.le_of_ble_eq_true rfl)⟩ rfl rfl [0, 1] rfl rfl rfl hl.1 rfl (Nat.le_of_ble_eq_true rfl) dX3_namesNoGap_19 ⟨(Nat.le_of_ble_eq_true rfl), (Nat.le_of_ble_eq_true rfl)⟩) hP hD hS hA [0, 1] [] rfl rfl rfl (by decide) (fun r_20 u_21 H locs hw_22 hP hD hS => ?_)
    have hw_23 : r_20 = (nmB pf (nI (48 + 2)) z) := hw_22
    subst hw_23
    have hP : va_P D vwCl [kX3 pg pc (nI z), kI cI pc 16 pf] H := hP
    have hD : va_D A [kX3 pg pc (nI z), kI cI pc 16 pf] := hD
    refine lv_nmi (show _ = (nmB pf 50 z : Int32) from rfl) ?_
    refine lv_if_ne (tgt := 27) hx hb dX3_namesNoGap_22 (by decide) (fun c_24 => ?_) (fun c_24 => ?_)
    · skip
      refine lv_iinc (v := 4) (lv' := [(1, .int 4), (0, .ref pg)]) hx hb dX3_namesNoGap_27 hl (k := 0) rfl (by decide) (by decide) rfl (fun ls hl => ?_)
      refine lv_goto (tgt := 2) hx hb dX3_namesNoGap_30 (by decide) ?_
      refine lv_iload_n hx hb dX3_namesNoGap_2 rfl (lv_at hl 0 rfl) ?_
      refine lv_iconst (v := 5) hx hb dX3_namesNoGap_3 (by decide) ?_
      refine lv_icmp_ge (tgt := 33) hx hb dX3_namesNoGap_4 (by decide) (fun c_25 => ?_) (fun c_25 => ?_)
      · exact absurd c_25 (by decide)
      refine lv_aload_n hx hb dX3_namesNoGap_7 rfl (lv_at hl 1 rfl) ?_
      refine lv_iload_n hx hb dX3_namesNoGap_8 rfl (lv_at hl 0 rfl) ?_
      refine xc_i (wc := [kX3 pg pc (nI z), kI cI pc 16 pf]) (wr := []) (xrV (n := 1) (As := [.int 4]) (rest := []) (ci := 3) (q0 := 0) hd hK hP hD (c_X3_names l D cI cJ cZ cR _ pg pc z pf 4 hz) (gV t_236 mV_X3_names) hV_X3_names ⟨(Nat.le_of_ble_eq_true rfl), (Nat.le_of_ble_eq_true rfl)⟩ rfl rfl [0, 1] rfl rfl rfl hl.1 rfl (Nat.le_of_ble_eq_true rfl) dX3_namesNoGap_9 ⟨(Nat.le_of_ble_eq_true rfl), (Nat.le_of_ble_eq_true rfl)⟩) hP hD hS hA [0, 1] [] rfl rfl rfl (by decide) (fun r_26 u_27 H locs hw_28 hP hD hS => ?_)
      have hw_29 : r_26 = (nmB pf (nI (48 + 4)) z) := hw_28
      subst hw_29
      have hP : va_P D vwCl [kX3 pg pc (nI z), kI cI pc 16 pf] H := hP
      have hD : va_D A [kX3 pg pc (nI z), kI cI pc 16 pf] := hD
      refine lv_nmi (show _ = (nmB pf 52 z : Int32) from rfl) ?_
      refine lv_if_eq (tgt := 27) hx hb dX3_namesNoGap_12 (by decide) (fun c_30 => ?_) (fun c_30 => ?_)
      · skip
        refine lv_iinc (v := 5) (lv' := [(1, .int 5), (0, .ref pg)]) hx hb dX3_namesNoGap_27 hl (k := 0) rfl (by decide) (by decide) rfl (fun ls hl => ?_)
        refine lv_goto (tgt := 2) hx hb dX3_namesNoGap_30 (by decide) ?_
        refine lv_iload_n hx hb dX3_namesNoGap_2 rfl (lv_at hl 0 rfl) ?_
        refine lv_iconst (v := 5) hx hb dX3_namesNoGap_3 (by decide) ?_
        refine lv_icmp_ge (tgt := 33) hx hb dX3_namesNoGap_4 (by decide) (fun c_31 => ?_) (fun c_31 => ?_)
        rotate_left
        · exact absurd c_31 (by decide)
        refine lv_iconst (v := 1) hx hb dX3_namesNoGap_33 (by decide) ?_
        exact hret _ _ _ _ _ _ 1 () dX3_namesNoGap_34 rfl hS (Nat.le_of_ble_eq_true rfl) (Nat.le_of_ble_eq_true rfl) (YN_y ⟨Or.inr c_24, Or.inl c_30⟩) (hP.sub [0, 1] rfl) (hD.sub [0, 1] rfl rfl)
      · skip
        refine lv_aload_n hx hb dX3_namesNoGap_15 rfl (lv_at hl 1 rfl) ?_
        refine lv_iload_n hx hb dX3_namesNoGap_16 rfl (lv_at hl 0 rfl) ?_
        refine lv_iconst (v := 1) hx hb dX3_namesNoGap_17 (by decide) ?_
        refine lv_isub hx hb dX3_namesNoGap_18 ?_
        refine lv_nmi (show _ = (3 : Int32) from by decide +kernel) ?_
        refine xc_i (wc := [kX3 pg pc (nI z), kI cI pc 16 pf]) (wr := []) (xrV (n := 1) (As := [.int 3]) (rest := []) (ci := 3) (q0 := 0) hd hK hP hD (c_X3_names l D cI cJ cZ cR _ pg pc z pf 3 hz) (gV t_236 mV_X3_names) hV_X3_names ⟨(Nat.le_of_ble_eq_true rfl), (Nat.le_of_ble_eq_true rfl)⟩ rfl rfl [0, 1] rfl rfl rfl hl.1 rfl (Nat.le_of_ble_eq_true rfl) dX3_namesNoGap_19 ⟨(Nat.le_of_ble_eq_true rfl), (Nat.le_of_ble_eq_true rfl)⟩) hP hD hS hA [0, 1] [] rfl rfl rfl (by decide) (fun r_32 u_33 H locs hw_34 hP hD hS => ?_)
        have hw_35 : r_32 = (nmB pf (nI (48 + 3)) z) := hw_34
        subst hw_35
        have hP : va_P D vwCl [kX3 pg pc (nI z), kI cI pc 16 pf] H := hP
        have hD : va_D A [kX3 pg pc (nI z), kI cI pc 16 pf] := hD
        refine lv_nmi (show _ = (nmB pf 51 z : Int32) from rfl) ?_
        refine lv_if_ne (tgt := 27) hx hb dX3_namesNoGap_22 (by decide) (fun c_36 => ?_) (fun c_36 => ?_)
        · skip
          refine lv_iinc (v := 5) (lv' := [(1, .int 5), (0, .ref pg)]) hx hb dX3_namesNoGap_27 hl (k := 0) rfl (by decide) (by decide) rfl (fun ls hl => ?_)
          refine lv_goto (tgt := 2) hx hb dX3_namesNoGap_30 (by decide) ?_
          refine lv_iload_n hx hb dX3_namesNoGap_2 rfl (lv_at hl 0 rfl) ?_
          refine lv_iconst (v := 5) hx hb dX3_namesNoGap_3 (by decide) ?_
          refine lv_icmp_ge (tgt := 33) hx hb dX3_namesNoGap_4 (by decide) (fun c_37 => ?_) (fun c_37 => ?_)
          rotate_left
          · exact absurd c_37 (by decide)
          refine lv_iconst (v := 1) hx hb dX3_namesNoGap_33 (by decide) ?_
          exact hret _ _ _ _ _ _ 1 () dX3_namesNoGap_34 rfl hS (Nat.le_of_ble_eq_true rfl) (Nat.le_of_ble_eq_true rfl) (YN_y ⟨Or.inr c_24, Or.inr c_36⟩) (hP.sub [0, 1] rfl) (hD.sub [0, 1] rfl rfl)
        · skip
          refine lv_iconst (v := 0) hx hb dX3_namesNoGap_25 (by decide) ?_
          exact hret _ _ _ _ _ _ 0 () dX3_namesNoGap_26 rfl hS (Nat.le_of_ble_eq_true rfl) (Nat.le_of_ble_eq_true rfl) (YN_n (fun h => by rcases h.2 with q | q; exact c_30 q; exact q c_36)) (hP.sub [0, 1] rfl) (hD.sub [0, 1] rfl rfl)
    · skip
      refine lv_iconst (v := 0) hx hb dX3_namesNoGap_25 (by decide) ?_
      exact hret _ _ _ _ _ _ 0 () dX3_namesNoGap_26 rfl hS (Nat.le_of_ble_eq_true rfl) (Nat.le_of_ble_eq_true rfl) (YN_n (fun h => by rcases h.1 with q | q; exact c_6 q; exact q c_24)) (hP.sub [0, 1] rfl) (hD.sub [0, 1] rfl rfl)
set_option maxHeartbeats 4000000 in
set_option maxRecDepth 100000 in
theorem c_X3_isRule (sz : Nat) (pg : Nat) (pc : Nat) (z : Nat) (pf : Nat → Int32) (hz : z ≤ 16) : CTi l D cI cJ cZ cR yX3_isRule cX3_isRule 1 (some .boolean) 3 70 0 0 sz [.ref pg] [kX3 pg pc (nI z), kI cI pc 16 pf] (fun (r : Int32) (u : Unit) => (YN r (RuleOK pf z))) (fun (u : Unit) => [kX3 pg pc (nI z), kI cI pc 16 pf]) := by
  refine CTi.of (ty := .boolean) (by decide) (Nat.le_of_ble_eq_true rfl) rfl ?_
  intro p e s m below meth c A Q ls hd hin hK hsz hP hD hA hS hl hret
  obtain ⟨hx, hb, hml, hown, hts⟩ := id hd
  have hK1 := hK.1
  have hown : s.vm.findClass RX3 = some m.cls := hown
  have hl : lv_has ls 1 [(0, .ref pg)] := hl
  refine lv_aload_n hx hb dX3_isRule_0 rfl (lv_at hl 0 rfl) ?_
  refine lv_iconst (v := 2) hx hb dX3_isRule_1 (by decide) ?_
  refine xc_i (wc := [kX3 pg pc (nI z)]) (wr := [kI cI pc 16 pf]) (xrV (n := 1) (As := [.int 2]) (rest := []) (ci := 3) (q0 := 0) hd hK hP hD (g_isWhole_0 l D cI cJ cZ cR _ pg pc z hz) (gV t_231 mV_X3_isWhole) hV_X3_isWhole ⟨(Nat.le_of_ble_eq_true rfl), (Nat.le_of_ble_eq_true rfl)⟩ rfl rfl [0] rfl rfl rfl hl.1 rfl (Nat.le_of_ble_eq_true rfl) dX3_isRule_2 ⟨(Nat.le_of_ble_eq_true rfl), (Nat.le_of_ble_eq_true rfl)⟩) hP hD hS hA [0] [1] rfl rfl rfl (by decide) (fun r_1 u_2 H locs hw_3 hP hD hS => ?_)
  have hw_4 : r_1 = (iW 2 z) := hw_3
  subst hw_4
  have hP : va_P D vwCl [kI cI pc 16 pf, kX3 pg pc (nI z)] H := hP
  have hD : va_D A [kI cI pc 16 pf, kX3 pg pc (nI z)] := hD
  refine lv_if_eq (tgt := 47) hx hb dX3_isRule_5 (by decide) (fun c_5 => ?_) (fun c_5 => ?_)
  · skip
    refine lv_iconst (v := 0) hx hb dX3_isRule_47 (by decide) ?_
    exact hret _ _ _ _ _ _ 0 () dX3_isRule_48 rfl hS (Nat.le_of_ble_eq_true rfl) (Nat.le_of_ble_eq_true rfl) (YN_n (fun h => h.1 c_5)) (hP.sub [1, 0] rfl) (hD.sub [1, 0] rfl rfl)
  · skip
    refine lv_aload_n hx hb dX3_isRule_8 rfl (lv_at hl 0 rfl) ?_
    refine lv_iconst (v := 0) hx hb dX3_isRule_9 (by decide) ?_
    refine xc_i (wc := [kX3 pg pc (nI z), kI cI pc 16 pf]) (wr := []) (xrV (n := 1) (As := [.int 0]) (rest := []) (ci := 3) (q0 := 1) hd hK hP hD (g_firstFault_0 l D cI cJ cZ cR _ pg pc z pf hz) (gV t_235 mV_X3_firstFault) hV_X3_firstFault ⟨(Nat.le_of_ble_eq_true rfl), (Nat.le_of_ble_eq_true rfl)⟩ rfl rfl [1, 0] rfl rfl rfl hl.1 rfl (Nat.le_of_ble_eq_true rfl) dX3_isRule_10 ⟨(Nat.le_of_ble_eq_true rfl), (Nat.le_of_ble_eq_true rfl)⟩) hP hD hS hA [1, 0] [] rfl rfl rfl (by decide) (fun r_6 u_7 H locs hw_8 hP hD hS => ?_)
    obtain ⟨k_9, rfl⟩ : ∃ z9, z9 = u_7 := ⟨_, rfl⟩
    obtain ⟨hw_10, hw_11⟩ : (r_6 = (nI k_9)) ∧ (FF (okF0 pf) z k_9) := hw_8
    subst hw_10
    have hff := hw_11
    have hP : va_P D vwCl [kX3 pg pc (nI z), kI cI pc 16 pf] H := hP
    have hD : va_D A [kX3 pg pc (nI z), kI cI pc 16 pf] := hD
    refine lv_aload_n hx hb dX3_isRule_13 rfl (lv_at hl 0 rfl) ?_
    refine va_get (D := D) (ci := 3) (v := .int (nI z)) (C := RX3) (T := TX3) (N := 2) hx hb hts iT_X3 hown hK1 hP 0 rfl rfl 1 (by decide) (hts _ t_28) (fun _ h9 => h9) rfl dX3_isRule_14 ?_
    refine lv_icmp_ne (tgt := 47) hx hb dX3_isRule_17 (by decide) (fun c_12 => ?_) (fun c_12 => ?_)
    · skip
      refine lv_iconst (v := 0) hx hb dX3_isRule_47 (by decide) ?_
      exact hret _ _ _ _ _ _ 0 () dX3_isRule_48 rfl hS (Nat.le_of_ble_eq_true rfl) (Nat.le_of_ble_eq_true rfl) (YN_n (fun h => c_12 (by rw [FF_one hff h.2.1]))) (hP.sub [0, 1] rfl) (hD.sub [0, 1] rfl rfl)
    · skip
      refine lv_aload_n hx hb dX3_isRule_20 rfl (lv_at hl 0 rfl) ?_
      refine lv_iconst (v := 0) hx hb dX3_isRule_21 (by decide) ?_
      refine xc_i (wc := [kX3 pg pc (nI z), kI cI pc 16 pf]) (wr := []) (xrV (n := 1) (As := [.int 0]) (rest := []) (ci := 3) (q0 := 0) hd hK hP hD (c_X3_names l D cI cJ cZ cR _ pg pc z pf 0 hz) (gV t_236 mV_X3_names) hV_X3_names ⟨(Nat.le_of_ble_eq_true rfl), (Nat.le_of_ble_eq_true rfl)⟩ rfl rfl [0, 1] rfl rfl rfl hl.1 rfl (Nat.le_of_ble_eq_true rfl) dX3_isRule_22 ⟨(Nat.le_of_ble_eq_true rfl), (Nat.le_of_ble_eq_true rfl)⟩) hP hD hS hA [0, 1] [] rfl rfl rfl (by decide) (fun r_13 u_14 H locs hw_15 hP hD hS => ?_)
      have hw_16 : r_13 = (nmB pf (nI (48 + 0)) z) := hw_15
      subst hw_16
      have hP : va_P D vwCl [kX3 pg pc (nI z), kI cI pc 16 pf] H := hP
      have hD : va_D A [kX3 pg pc (nI z), kI cI pc 16 pf] := hD
      refine lv_nmi (show _ = (nmB pf 48 z : Int32) from rfl) ?_
      refine lv_if_eq (tgt := 47) hx hb dX3_isRule_25 (by decide) (fun c_17 => ?_) (fun c_17 => ?_)
      · skip
        refine lv_iconst (v := 0) hx hb dX3_isRule_47 (by decide) ?_
        exact hret _ _ _ _ _ _ 0 () dX3_isRule_48 rfl hS (Nat.le_of_ble_eq_true rfl) (Nat.le_of_ble_eq_true rfl) (YN_n (fun h => h.2.2.1 c_17)) (hP.sub [0, 1] rfl) (hD.sub [0, 1] rfl rfl)
      · skip
        refine lv_aload_n hx hb dX3_isRule_28 rfl (lv_at hl 0 rfl) ?_
        refine lv_iconst (v := 1) hx hb dX3_isRule_29 (by decide) ?_
        refine xc_i (wc := [kX3 pg pc (nI z), kI cI pc 16 pf]) (wr := []) (xrV (n := 1) (As := [.int 1]) (rest := []) (ci := 3) (q0 := 0) hd hK hP hD (c_X3_names l D cI cJ cZ cR _ pg pc z pf 1 hz) (gV t_236 mV_X3_names) hV_X3_names ⟨(Nat.le_of_ble_eq_true rfl), (Nat.le_of_ble_eq_true rfl)⟩ rfl rfl [0, 1] rfl rfl rfl hl.1 rfl (Nat.le_of_ble_eq_true rfl) dX3_isRule_30 ⟨(Nat.le_of_ble_eq_true rfl), (Nat.le_of_ble_eq_true rfl)⟩) hP hD hS hA [0, 1] [] rfl rfl rfl (by decide) (fun r_18 u_19 H locs hw_20 hP hD hS => ?_)
        have hw_21 : r_18 = (nmB pf (nI (48 + 1)) z) := hw_20
        subst hw_21
        have hP : va_P D vwCl [kX3 pg pc (nI z), kI cI pc 16 pf] H := hP
        have hD : va_D A [kX3 pg pc (nI z), kI cI pc 16 pf] := hD
        refine lv_nmi (show _ = (nmB pf 49 z : Int32) from rfl) ?_
        refine lv_if_eq (tgt := 47) hx hb dX3_isRule_33 (by decide) (fun c_22 => ?_) (fun c_22 => ?_)
        · skip
          refine lv_iconst (v := 0) hx hb dX3_isRule_47 (by decide) ?_
          exact hret _ _ _ _ _ _ 0 () dX3_isRule_48 rfl hS (Nat.le_of_ble_eq_true rfl) (Nat.le_of_ble_eq_true rfl) (YN_n (fun h => h.2.2.2.1 c_22)) (hP.sub [0, 1] rfl) (hD.sub [0, 1] rfl rfl)
        · skip
          refine lv_aload_n hx hb dX3_isRule_36 rfl (lv_at hl 0 rfl) ?_
          refine xc_i (wc := [kX3 pg pc (nI z), kI cI pc 16 pf]) (wr := []) (xrV (n := 0) (As := []) (rest := []) (ci := 3) (q0 := 0) hd hK hP hD (c_X3_namesNoGap l D cI cJ cZ cR _ pg pc z pf hz) (gV t_240 mV_X3_namesNoGap) hV_X3_namesNoGap ⟨(Nat.le_of_ble_eq_true rfl), (Nat.le_of_ble_eq_true rfl)⟩ rfl rfl [0, 1] rfl rfl rfl hl.1 rfl (Nat.le_of_ble_eq_true rfl) dX3_isRule_37 ⟨(Nat.le_of_ble_eq_true rfl), (Nat.le_of_ble_eq_true rfl)⟩) hP hD hS hA [0, 1] [] rfl rfl rfl (by decide) (fun r_23 u_24 H locs hw_25 hP hD hS => ?_)
          have hw_26 : YN r_23 (gapOK pf z) := hw_25
          have hgp := hw_26
          have hP : va_P D vwCl [kX3 pg pc (nI z), kI cI pc 16 pf] H := hP
          have hD : va_D A [kX3 pg pc (nI z), kI cI pc 16 pf] := hD
          refine lv_if_eq (tgt := 47) hx hb dX3_isRule_40 (by decide) (fun c_27 => ?_) (fun c_27 => ?_)
          · skip
            refine lv_iconst (v := 0) hx hb dX3_isRule_47 (by decide) ?_
            exact hret _ _ _ _ _ _ 0 () dX3_isRule_48 rfl hS (Nat.le_of_ble_eq_true rfl) (Nat.le_of_ble_eq_true rfl) (YN_n (fun h => hgp.no c_27 h.2.2.2.2)) (hP.sub [0, 1] rfl) (hD.sub [0, 1] rfl rfl)
          · skip
            refine lv_iconst (v := 1) hx hb dX3_isRule_43 (by decide) ?_
            refine lv_goto (tgt := 48) hx hb dX3_isRule_44 (by decide) ?_
            exact hret _ _ _ _ _ _ 1 () dX3_isRule_48 rfl hS (Nat.le_of_ble_eq_true rfl) (Nat.le_of_ble_eq_true rfl) (YN_y ⟨c_5, by have := (nI_eq (by have := hff.1; omega) (by omega)).mp c_12; rw [this] at hff; exact hff, c_17, c_22, hgp.of c_27⟩) (hP.sub [0, 1] rfl) (hD.sub [0, 1] rfl rfl)
set_option maxHeartbeats 4000000 in
set_option maxRecDepth 100000 in
theorem c_X3_isGraph (sz : Nat) (pg : Nat) (pc : Nat) (z : Nat) (pf : Nat → Int32) (hz : z ≤ 16) : CTi l D cI cJ cZ cR yX3_isGraph cX3_isGraph 1 (some .boolean) 3 70 0 0 sz [.ref pg] [kX3 pg pc (nI z), kI cI pc 16 pf] (fun (r : Int32) (u : Unit) => (YN r (GraphOK pf z))) (fun (u : Unit) => [kX3 pg pc (nI z), kI cI pc 16 pf]) := by
  refine CTi.of (ty := .boolean) (by decide) (Nat.le_of_ble_eq_true rfl) rfl ?_
  intro p e s m below meth c A Q ls hd hin hK hsz hP hD hA hS hl hret
  obtain ⟨hx, hb, hml, hown, hts⟩ := id hd
  have hK1 := hK.1
  have hown : s.vm.findClass RX3 = some m.cls := hown
  have hl : lv_has ls 1 [(0, .ref pg)] := hl
  refine lv_aload_n hx hb dX3_isGraph_0 rfl (lv_at hl 0 rfl) ?_
  refine lv_iconst (v := 0) hx hb dX3_isGraph_1 (by decide) ?_
  refine xc_i (wc := [kX3 pg pc (nI z)]) (wr := [kI cI pc 16 pf]) (xrV (n := 1) (As := [.int 0]) (rest := []) (ci := 3) (q0 := 0) hd hK hP hD (g_isWhole_1 l D cI cJ cZ cR _ pg pc z hz) (gV t_231 mV_X3_isWhole) hV_X3_isWhole ⟨(Nat.le_of_ble_eq_true rfl), (Nat.le_of_ble_eq_true rfl)⟩ rfl rfl [0] rfl rfl rfl hl.1 rfl (Nat.le_of_ble_eq_true rfl) dX3_isGraph_2 ⟨(Nat.le_of_ble_eq_true rfl), (Nat.le_of_ble_eq_true rfl)⟩) hP hD hS hA [0] [1] rfl rfl rfl (by decide) (fun r_1 u_2 H locs hw_3 hP hD hS => ?_)
  have hw_4 : r_1 = (iW 0 z) := hw_3
  subst hw_4
  have hP : va_P D vwCl [kI cI pc 16 pf, kX3 pg pc (nI z)] H := hP
  have hD : va_D A [kI cI pc 16 pf, kX3 pg pc (nI z)] := hD
  refine lv_if_eq (tgt := 31) hx hb dX3_isGraph_5 (by decide) (fun c_5 => ?_) (fun c_5 => ?_)
  · skip
    refine lv_iconst (v := 0) hx hb dX3_isGraph_31 (by decide) ?_
    exact hret _ _ _ _ _ _ 0 () dX3_isGraph_32 rfl hS (Nat.le_of_ble_eq_true rfl) (Nat.le_of_ble_eq_true rfl) (YN_n (fun h => h.1 c_5)) (hP.sub [1, 0] rfl) (hD.sub [1, 0] rfl rfl)
  · skip
    refine lv_aload_n hx hb dX3_isGraph_8 rfl (lv_at hl 0 rfl) ?_
    refine lv_iconst (v := 1) hx hb dX3_isGraph_9 (by decide) ?_
    refine xc_i (wc := [kX3 pg pc (nI z), kI cI pc 16 pf]) (wr := []) (xrV (n := 1) (As := [.int 1]) (rest := []) (ci := 3) (q0 := 1) hd hK hP hD (g_firstFault_1 l D cI cJ cZ cR _ pg pc z pf hz) (gV t_235 mV_X3_firstFault) hV_X3_firstFault ⟨(Nat.le_of_ble_eq_true rfl), (Nat.le_of_ble_eq_true rfl)⟩ rfl rfl [1, 0] rfl rfl rfl hl.1 rfl (Nat.le_of_ble_eq_true rfl) dX3_isGraph_10 ⟨(Nat.le_of_ble_eq_true rfl), (Nat.le_of_ble_eq_true rfl)⟩) hP hD hS hA [1, 0] [] rfl rfl rfl (by decide) (fun r_6 u_7 H locs hw_8 hP hD hS => ?_)
    obtain ⟨k_9, rfl⟩ : ∃ z9, z9 = u_7 := ⟨_, rfl⟩
    obtain ⟨hw_10, hw_11⟩ : (r_6 = (nI k_9)) ∧ (FF (okF1 pf) z k_9) := hw_8
    subst hw_10
    have hff := hw_11
    have hP : va_P D vwCl [kX3 pg pc (nI z), kI cI pc 16 pf] H := hP
    have hD : va_D A [kX3 pg pc (nI z), kI cI pc 16 pf] := hD
    refine lv_aload_n hx hb dX3_isGraph_13 rfl (lv_at hl 0 rfl) ?_
    refine va_get (D := D) (ci := 3) (v := .int (nI z)) (C := RX3) (T := TX3) (N := 2) hx hb hts iT_X3 hown hK1 hP 0 rfl rfl 1 (by decide) (hts _ t_28) (fun _ h9 => h9) rfl dX3_isGraph_14 ?_
    refine lv_icmp_ne (tgt := 31) hx hb dX3_isGraph_17 (by decide) (fun c_12 => ?_) (fun c_12 => ?_)
    · skip
      refine lv_iconst (v := 0) hx hb dX3_isGraph_31 (by decide) ?_
      exact hret _ _ _ _ _ _ 0 () dX3_isGraph_32 rfl hS (Nat.le_of_ble_eq_true rfl) (Nat.le_of_ble_eq_true rfl) (YN_n (fun h => c_12 (by rw [FF_one hff h.2.1]))) (hP.sub [0, 1] rfl) (hD.sub [0, 1] rfl rfl)
    · skip
      refine lv_aload_n hx hb dX3_isGraph_20 rfl (lv_at hl 0 rfl) ?_
      refine xc_i (wc := [kX3 pg pc (nI z), kI cI pc 16 pf]) (wr := []) (xrV (n := 0) (As := []) (rest := []) (ci := 3) (q0 := 0) hd hK hP hD (c_X3_namesNoGap l D cI cJ cZ cR _ pg pc z pf hz) (gV t_240 mV_X3_namesNoGap) hV_X3_namesNoGap ⟨(Nat.le_of_ble_eq_true rfl), (Nat.le_of_ble_eq_true rfl)⟩ rfl rfl [0, 1] rfl rfl rfl hl.1 rfl (Nat.le_of_ble_eq_true rfl) dX3_isGraph_21 ⟨(Nat.le_of_ble_eq_true rfl), (Nat.le_of_ble_eq_true rfl)⟩) hP hD hS hA [0, 1] [] rfl rfl rfl (by decide) (fun r_13 u_14 H locs hw_15 hP hD hS => ?_)
      have hw_16 : YN r_13 (gapOK pf z) := hw_15
      have hgp := hw_16
      have hP : va_P D vwCl [kX3 pg pc (nI z), kI cI pc 16 pf] H := hP
      have hD : va_D A [kX3 pg pc (nI z), kI cI pc 16 pf] := hD
      refine lv_if_eq (tgt := 31) hx hb dX3_isGraph_24 (by decide) (fun c_17 => ?_) (fun c_17 => ?_)
      · skip
        refine lv_iconst (v := 0) hx hb dX3_isGraph_31 (by decide) ?_
        exact hret _ _ _ _ _ _ 0 () dX3_isGraph_32 rfl hS (Nat.le_of_ble_eq_true rfl) (Nat.le_of_ble_eq_true rfl) (YN_n (fun h => hgp.no c_17 h.2.2)) (hP.sub [0, 1] rfl) (hD.sub [0, 1] rfl rfl)
      · skip
        refine lv_iconst (v := 1) hx hb dX3_isGraph_27 (by decide) ?_
        refine lv_goto (tgt := 32) hx hb dX3_isGraph_28 (by decide) ?_
        exact hret _ _ _ _ _ _ 1 () dX3_isGraph_32 rfl hS (Nat.le_of_ble_eq_true rfl) (Nat.le_of_ble_eq_true rfl) (YN_y ⟨c_5, by have := (nI_eq (by have := hff.1; omega) (by omega)).mp c_12; rw [this] at hff; exact hff, hgp.of c_17⟩) (hP.sub [0, 1] rfl) (hD.sub [0, 1] rfl rfl)
set_option maxHeartbeats 4000000 in
set_option maxRecDepth 100000 in
theorem c_X3_openLetter (sz : Nat) (pg : Nat) (pc : Nat) (z : Nat) (pf : Nat → Int32) (hl0 : ¬ cL (pf 0) < 0) : CTi l D cI cJ cZ cR yX3_openLetter cX3_openLetter 1 (some .int) 1 32 0 0 sz [.ref pg] [kX3 pg pc (nI z), kI cI pc 16 pf] (fun (r : Int32) (u : Unit) => (r = (cL (pf 0)))) (fun (u : Unit) => [kX3 pg pc (nI z), kI cI pc 16 pf]) := by
  refine CTi.of (ty := .int) (by decide) (Nat.le_of_ble_eq_true rfl) rfl ?_
  intro p e s m below meth c A Q ls hd hin hK hsz hP hD hA hS hl hret
  obtain ⟨hx, hb, hml, hown, hts⟩ := id hd
  have hK1 := hK.1
  have hown : s.vm.findClass RX3 = some m.cls := hown
  have hl : lv_has ls 1 [(0, .ref pg)] := hl
  refine lv_iconst (v := 0) hx hb dX3_openLetter_0 (by decide) ?_
  refine lv_aload_n hx hb dX3_openLetter_1 rfl (lv_at hl 0 rfl) ?_
  refine va_get (D := D) (ci := 3) (v := .ref pc) (C := RX3) (T := TX3) (N := 2) hx hb hts iT_X3 hown hK1 hP 0 rfl rfl 0 (by decide) (hts _ t_26) (fun _ h9 => h9) rfl dX3_openLetter_2 ?_
  refine lv_iconst (v := 0) hx hb dX3_openLetter_5 (by decide) ?_
  refine va_iald hx hb hK1 hP 1 0 rfl rfl (vin (by decide)) dX3_openLetter_6 ?_
  refine lv_nmi (show _ = pf 0 from rfl) ?_
  refine xc_i (wc := []) (wr := [kX3 pg pc (nI z), kI cI pc 16 pf]) (xrS (n := 1) (As := [.int (pf 0)]) (rest := [.int 0]) hd hK hP hD (c_X3_letterOf l D cI cJ cZ cR _ (pf 0) ) (gS t_213 mS_X3_letterOf) hS_X3_letterOf ⟨(Nat.le_of_ble_eq_true rfl), (Nat.le_of_ble_eq_true rfl)⟩ [] rfl rfl rfl hl.1 rfl (Nat.le_of_ble_eq_true rfl) dX3_openLetter_7 ⟨(Nat.le_of_ble_eq_true rfl), (Nat.le_of_ble_eq_true rfl)⟩) hP hD hS hA [] [0, 1] rfl rfl rfl (by decide) (fun r_1 u_2 H locs hw_3 hP hD hS => ?_)
  have hw_4 : r_1 = (cL (pf 0)) := hw_3
  subst hw_4
  have hP : va_P D vwCl [kX3 pg pc (nI z), kI cI pc 16 pf] H := hP
  have hD : va_D A [kX3 pg pc (nI z), kI cI pc 16 pf] := hD
  refine va_mmax hx hb (hml.trans hl.1.symm) hown (hts _ t_256) (hts _ t_257) (hts _ t_9) (hts _ t_258) (Nat.le_of_ble_eq_true rfl) (Nat.le_of_ble_eq_true rfl) (Nat.le_of_ble_eq_true rfl) (Nat.le_of_ble_eq_true rfl) dX3_openLetter_10 ?_
  refine lv_nmi (show _ = (cL (pf 0) : Int32) from max0 hl0) ?_
  exact hret _ _ _ _ _ _ (cL (pf 0)) () dX3_openLetter_13 rfl hS (Nat.le_of_ble_eq_true rfl) (Nat.le_of_ble_eq_true rfl) rfl (hP.sub [0, 1] rfl) (hD.sub [0, 1] rfl rfl)
set_option maxHeartbeats 4000000 in
set_option maxRecDepth 100000 in
theorem c_X3_clear (sz : Nat) (pg : Nat) (pc : Nat) (z : Nat)  : CTv l D cI cJ cZ cR yX3_clear cX3_clear 1 none 0 0 0 0 sz [.ref pg] [kX3 pg pc (nI z)] (fun (u : Unit) => True) (fun (u : Unit) => [kX3 pg pc 0]) := by
  refine CTv.of (by decide) (Nat.le_of_ble_eq_true rfl) rfl ?_
  intro p e s m below meth c A Q ls hd hin hK hsz hP hD hA hS hl hret
  obtain ⟨hx, hb, hml, hown, hts⟩ := id hd
  have hK1 := hK.1
  have hown : s.vm.findClass RX3 = some m.cls := hown
  have hl : lv_has ls 1 [(0, .ref pg)] := hl
  refine lv_aload_n hx hb dX3_clear_0 rfl (lv_at hl 0 rfl) ?_
  refine lv_iconst (v := 0) hx hb dX3_clear_1 (by decide) ?_
  refine va_put (D := D) (ci := 3) (v := .int 0) (ty := .int) (C := RX3) (T := TX3) (N := 2) hx hb hts iT_X3 tyX3 tyX3_ok nmX3 hown hK1 hP hD hS 0 rfl rfl 1 (by decide) (hts _ t_28) (fun _ h9 => h9) rfl (by decide +kernel) rfl rfl (Nat.le_of_ble_eq_true rfl) dX3_clear_2 (fun H locs hP hD hS => ?_)
  have hP : va_P D vwCl [kX3 pg pc 0] H := hP
  have hD : va_D A [kX3 pg pc 0] := hD
  exact hret _ _ _ _ _ _ () dX3_clear_5 hS (Nat.le_of_ble_eq_true rfl) (Nat.le_of_ble_eq_true rfl) trivial (hP.sub [0] rfl) (hD.sub [0] rfl rfl)
set_option maxHeartbeats 4000000 in
set_option maxRecDepth 100000 in
theorem c_X3_write (sz : Nat) (pg : Nat) (pc : Nat) (z : Nat) (pf : Nat → Int32) (p0 : Int32) (hz : z < 16) : CTv l D cI cJ cZ cR yX3_write cX3_write 2 none 0 0 0 0 sz [.ref pg, .int p0] [kX3 pg pc (nI z), kI cI pc 16 pf] (fun (u : Unit) => True) (fun (u : Unit) => [kX3 pg pc (nI (z + 1)), kI cI pc 16 (upd pf z p0)]) := by
  refine CTv.of (by decide) (Nat.le_of_ble_eq_true rfl) rfl ?_
  intro p e s m below meth c A Q ls hd hin hK hsz hP hD hA hS hl hret
  obtain ⟨hx, hb, hml, hown, hts⟩ := id hd
  have hK1 := hK.1
  have hown : s.vm.findClass RX3 = some m.cls := hown
  have hl : lv_has ls 2 [(0, .ref pg), (1, .int p0)] := hl
  refine lv_aload_n hx hb dX3_write_0 rfl (lv_at hl 0 rfl) ?_
  refine va_get (D := D) (ci := 3) (v := .int (nI z)) (C := RX3) (T := TX3) (N := 2) hx hb hts iT_X3 hown hK1 hP 0 rfl rfl 1 (by decide) (hts _ t_28) (fun _ h9 => h9) rfl dX3_write_1 ?_
  refine lv_aload_n hx hb dX3_write_4 rfl (lv_at hl 0 rfl) ?_
  refine va_get (D := D) (ci := 3) (v := .ref pc) (C := RX3) (T := TX3) (N := 2) hx hb hts iT_X3 hown hK1 hP 0 rfl rfl 0 (by decide) (hts _ t_26) (fun _ h9 => h9) rfl dX3_write_5 ?_
  refine va_alen hx hb hK1 hP 1 0 rfl rfl (v := 16) rfl dX3_write_8 ?_
  refine lv_icmp_ge (tgt := 32) hx hb dX3_write_9 (by decide) (fun c_1 => ?_) (fun c_1 => ?_)
  · exact absurd c_1 (nI_ge (a := z) (b := 16) (by omega) (by omega))
  refine lv_aload_n hx hb dX3_write_12 rfl (lv_at hl 0 rfl) ?_
  refine va_get (D := D) (ci := 3) (v := .ref pc) (C := RX3) (T := TX3) (N := 2) hx hb hts iT_X3 hown hK1 hP 0 rfl rfl 0 (by decide) (hts _ t_26) (fun _ h9 => h9) rfl dX3_write_13 ?_
  refine lv_aload_n hx hb dX3_write_16 rfl (lv_at hl 0 rfl) ?_
  refine va_get (D := D) (ci := 3) (v := .int (nI z)) (C := RX3) (T := TX3) (N := 2) hx hb hts iT_X3 hown hK1 hP 0 rfl rfl 1 (by decide) (hts _ t_28) (fun _ h9 => h9) rfl dX3_write_17 ?_
  refine lv_iload_n hx hb dX3_write_20 rfl (lv_at hl 1 rfl) ?_
  refine va_iast hx hb hK1 hP hD hS 1 0 rfl rfl (vp_in_nI (by omega) (by omega)) dX3_write_21 (fun H locs hP hD hS => ?_)
  rw [nI_clamp (n := z) (by omega)] at hP hD
  have hP : va_P D vwCl [kX3 pg pc (nI z), kI cI pc 16 (upd pf z p0)] H := hP
  have hD : va_D A [kX3 pg pc (nI z), kI cI pc 16 (upd pf z p0)] := hD
  refine lv_aload_n hx hb dX3_write_22 rfl (lv_at hl 0 rfl) ?_
  refine lv_dup hx hb dX3_write_23 rfl ?_
  refine va_get (D := D) (ci := 3) (v := .int (nI z)) (C := RX3) (T := TX3) (N := 2) hx hb hts iT_X3 hown hK1 hP 0 rfl rfl 1 (by decide) (hts _ t_28) (fun _ h9 => h9) rfl dX3_write_24 ?_
  refine lv_iconst (v := 1) hx hb dX3_write_27 (by decide) ?_
  refine lv_iadd hx hb dX3_write_28 ?_
  refine lv_nmi (show _ = (nI (z + 1)) from nI_add (z) (1)) ?_
  refine va_put (D := D) (ci := 3) (v := .int (nI (z + 1))) (ty := .int) (C := RX3) (T := TX3) (N := 2) hx hb hts iT_X3 tyX3 tyX3_ok nmX3 hown hK1 hP hD hS 0 rfl rfl 1 (by decide) (hts _ t_28) (fun _ h9 => h9) rfl (by decide +kernel) rfl rfl (Nat.le_of_ble_eq_true rfl) dX3_write_29 (fun H locs hP hD hS => ?_)
  have hP : va_P D vwCl [kX3 pg pc (nI (z + 1)), kI cI pc 16 (upd pf z p0)] H := hP
  have hD : va_D A [kX3 pg pc (nI (z + 1)), kI cI pc 16 (upd pf z p0)] := hD
  exact hret _ _ _ _ _ _ () dX3_write_32 hS (Nat.le_of_ble_eq_true rfl) (Nat.le_of_ble_eq_true rfl) trivial (hP.sub [0, 1] rfl) (hD.sub [0, 1] rfl rfl)
set_option maxHeartbeats 4000000 in
set_option maxRecDepth 100000 in
theorem c_X0_has (sz : Nat) (h0 : Nat) (a1 : Nat) (a2 : Nat) (a3 : Nat) (n9 : Nat) (v : Nat) (p0 : Int32)  : CTi l D cI cJ cZ cR yX0_has cX0_has 2 (some .boolean) 0 0 0 0 sz [.ref h0, .int p0] [kX0 h0 a1 a2 a3 (nI n9) (nI v)] (fun (r : Int32) (u : Unit) => (r = (hs p0 n9))) (fun (u : Unit) => [kX0 h0 a1 a2 a3 (nI n9) (nI v)]) := by
  refine CTi.of (ty := .boolean) (by decide) (Nat.le_of_ble_eq_true rfl) rfl ?_
  intro p e s m below meth c A Q ls hd hin hK hsz hP hD hA hS hl hret
  obtain ⟨hx, hb, hml, hown, hts⟩ := id hd
  have hK1 := hK.1
  have hown : s.vm.findClass RX0 = some m.cls := hown
  have hl : lv_has ls 2 [(0, .ref h0), (1, .int p0)] := hl
  refine lv_iload_n hx hb dX0_has_0 rfl (lv_at hl 1 rfl) ?_
  refine lv_if_lt (tgt := 16) hx hb dX0_has_1 (by decide) (fun c_1 => ?_) (fun c_1 => ?_)
  · skip
    refine lv_iconst (v := 0) hx hb dX0_has_16 (by decide) ?_
    exact hret _ _ _ _ _ _ 0 () dX0_has_17 rfl hS (Nat.le_of_ble_eq_true rfl) (Nat.le_of_ble_eq_true rfl) (by simp [hs, c_1]) (hP.sub [0] rfl) (hD.sub [0] rfl rfl)
  · skip
    refine lv_iload_n hx hb dX0_has_4 rfl (lv_at hl 1 rfl) ?_
    refine lv_aload_n hx hb dX0_has_5 rfl (lv_at hl 0 rfl) ?_
    refine va_get (D := D) (ci := 0) (v := .int (nI n9)) (C := RX0) (T := TX0) (N := 5) hx hb hts iT_X0 hown hK1 hP 0 rfl rfl 3 (by decide) (hts _ t_62) (fun _ h9 => h9) rfl dX0_has_6 ?_
    refine lv_icmp_ge (tgt := 16) hx hb dX0_has_9 (by decide) (fun c_2 => ?_) (fun c_2 => ?_)
    · skip
      refine lv_iconst (v := 0) hx hb dX0_has_16 (by decide) ?_
      exact hret _ _ _ _ _ _ 0 () dX0_has_17 rfl hS (Nat.le_of_ble_eq_true rfl) (Nat.le_of_ble_eq_true rfl) (by simp [hs, c_1, c_2]) (hP.sub [0] rfl) (hD.sub [0] rfl rfl)
    · skip
      refine lv_iconst (v := 1) hx hb dX0_has_12 (by decide) ?_
      refine lv_goto (tgt := 17) hx hb dX0_has_13 (by decide) ?_
      exact hret _ _ _ _ _ _ 1 () dX0_has_17 rfl hS (Nat.le_of_ble_eq_true rfl) (Nat.le_of_ble_eq_true rfl) (by simp [hs, c_1, c_2]) (hP.sub [0] rfl) (hD.sub [0] rfl rfl)
set_option maxHeartbeats 4000000 in
set_option maxRecDepth 100000 in
theorem c_X0_clear (sz : Nat) (h0 : Nat) (a1 : Nat) (a2 : Nat) (a3 : Nat) (n9 : Nat) (v : Nat) (w : Nat)  : CTv l D cI cJ cZ cR yX0_clear cX0_clear 2 none 0 0 0 0 sz [.ref h0, .int (nI w)] [kX0 h0 a1 a2 a3 (nI n9) (nI v)] (fun (u : Unit) => True) (fun (u : Unit) => [kX0 h0 a1 a2 a3 0 (nI w)]) := by
  refine CTv.of (by decide) (Nat.le_of_ble_eq_true rfl) rfl ?_
  intro p e s m below meth c A Q ls hd hin hK hsz hP hD hA hS hl hret
  obtain ⟨hx, hb, hml, hown, hts⟩ := id hd
  have hK1 := hK.1
  have hown : s.vm.findClass RX0 = some m.cls := hown
  have hl : lv_has ls 2 [(0, .ref h0), (1, .int (nI w))] := hl
  refine lv_aload_n hx hb dX0_clear_0 rfl (lv_at hl 0 rfl) ?_
  refine lv_iconst (v := 0) hx hb dX0_clear_1 (by decide) ?_
  refine va_put (D := D) (ci := 0) (v := .int 0) (ty := .int) (C := RX0) (T := TX0) (N := 5) hx hb hts iT_X0 tyX0 tyX0_ok nmX0 hown hK1 hP hD hS 0 rfl rfl 3 (by decide) (hts _ t_62) (fun _ h9 => h9) rfl (by decide +kernel) rfl rfl (Nat.le_of_ble_eq_true rfl) dX0_clear_2 (fun H locs hP hD hS => ?_)
  have hP : va_P D vwCl [kX0 h0 a1 a2 a3 0 (nI v)] H := hP
  have hD : va_D A [kX0 h0 a1 a2 a3 0 (nI v)] := hD
  refine lv_aload_n hx hb dX0_clear_5 rfl (lv_at hl 0 rfl) ?_
  refine lv_iload_n hx hb dX0_clear_6 rfl (lv_at hl 1 rfl) ?_
  refine va_put (D := D) (ci := 0) (v := .int (nI w)) (ty := .int) (C := RX0) (T := TX0) (N := 5) hx hb hts iT_X0 tyX0 tyX0_ok nmX0 hown hK1 hP hD hS 0 rfl rfl 4 (by decide) (hts _ t_65) (fun _ h9 => h9) rfl (by decide +kernel) rfl rfl (Nat.le_of_ble_eq_true rfl) dX0_clear_7 (fun H locs hP hD hS => ?_)
  have hP : va_P D vwCl [kX0 h0 a1 a2 a3 0 (nI w)] H := hP
  have hD : va_D A [kX0 h0 a1 a2 a3 0 (nI w)] := hD
  exact hret _ _ _ _ _ _ () dX0_clear_10 hS (Nat.le_of_ble_eq_true rfl) (Nat.le_of_ble_eq_true rfl) trivial (hP.sub [0] rfl) (hD.sub [0] rfl rfl)
set_option maxHeartbeats 4000000 in
set_option maxRecDepth 100000 in
theorem c_X0_put (sz : Nat) (h0 : Nat) (a1 : Nat) (a2 : Nat) (a3 : Nat) (M : Nat) (n9 : Nat) (v : Nat) (k : Nat) (p1 : Int32) (p2 : Int32) (p3 : Int32) (x1 : Nat → Int32) (x2 : Nat → Int32) (x3 : Nat → Int32) (hM : M ≤ 12) (hk : k < M) : CTv l D cI cJ cZ cR yX0_put cX0_put 5 none 0 0 0 0 sz [.ref h0, .int (nI k), .int p1, .int p2, .int p3] [kX0 h0 a1 a2 a3 (nI n9) (nI v), kI cI a1 M x1, kI cI a2 M x2, kI cI a3 M x3] (fun (u : Unit) => True) (fun (u : Unit) => [kX0 h0 a1 a2 a3 (nI n9) (nI v), kI cI a1 M (upd x1 k p1), kI cI a2 M (upd x2 k p2), kI cI a3 M (upd x3 k p3)]) := by
  refine CTv.of (by decide) (Nat.le_of_ble_eq_true rfl) rfl ?_
  intro p e s m below meth c A Q ls hd hin hK hsz hP hD hA hS hl hret
  obtain ⟨hx, hb, hml, hown, hts⟩ := id hd
  have hK1 := hK.1
  have hown : s.vm.findClass RX0 = some m.cls := hown
  have hl : lv_has ls 5 [(0, .ref h0), (1, .int (nI k)), (2, .int p1), (3, .int p2), (4, .int p3)] := hl
  refine lv_aload_n hx hb dX0_put_0 rfl (lv_at hl 0 rfl) ?_
  refine va_get (D := D) (ci := 0) (v := .ref a1) (C := RX0) (T := TX0) (N := 5) hx hb hts iT_X0 hown hK1 hP 0 rfl rfl 0 (by decide) (hts _ t_55) (fun _ h9 => h9) rfl dX0_put_1 ?_
  refine lv_iload_n hx hb dX0_put_4 rfl (lv_at hl 1 rfl) ?_
  refine lv_iload_n hx hb dX0_put_5 rfl (lv_at hl 2 rfl) ?_
  refine va_iast hx hb hK1 hP hD hS 1 0 rfl rfl (vp_in_nI (by omega) (by omega)) dX0_put_6 (fun H locs hP hD hS => ?_)
  rw [nI_clamp (n := k) (by omega)] at hP hD
  have hP : va_P D vwCl [kX0 h0 a1 a2 a3 (nI n9) (nI v), kI cI a1 M (upd x1 k p1), kI cI a2 M x2, kI cI a3 M x3] H := hP
  have hD : va_D A [kX0 h0 a1 a2 a3 (nI n9) (nI v), kI cI a1 M (upd x1 k p1), kI cI a2 M x2, kI cI a3 M x3] := hD
  refine lv_aload_n hx hb dX0_put_7 rfl (lv_at hl 0 rfl) ?_
  refine va_get (D := D) (ci := 0) (v := .ref a2) (C := RX0) (T := TX0) (N := 5) hx hb hts iT_X0 hown hK1 hP 0 rfl rfl 1 (by decide) (hts _ t_58) (fun _ h9 => h9) rfl dX0_put_8 ?_
  refine lv_iload_n hx hb dX0_put_11 rfl (lv_at hl 1 rfl) ?_
  refine lv_iload_n hx hb dX0_put_12 rfl (lv_at hl 3 rfl) ?_
  refine va_iast hx hb hK1 hP hD hS 2 0 rfl rfl (vp_in_nI (by omega) (by omega)) dX0_put_13 (fun H locs hP hD hS => ?_)
  rw [nI_clamp (n := k) (by omega)] at hP hD
  have hP : va_P D vwCl [kX0 h0 a1 a2 a3 (nI n9) (nI v), kI cI a1 M (upd x1 k p1), kI cI a2 M (upd x2 k p2), kI cI a3 M x3] H := hP
  have hD : va_D A [kX0 h0 a1 a2 a3 (nI n9) (nI v), kI cI a1 M (upd x1 k p1), kI cI a2 M (upd x2 k p2), kI cI a3 M x3] := hD
  refine lv_aload_n hx hb dX0_put_14 rfl (lv_at hl 0 rfl) ?_
  refine va_get (D := D) (ci := 0) (v := .ref a3) (C := RX0) (T := TX0) (N := 5) hx hb hts iT_X0 hown hK1 hP 0 rfl rfl 2 (by decide) (hts _ t_60) (fun _ h9 => h9) rfl dX0_put_15 ?_
  refine lv_iload_n hx hb dX0_put_18 rfl (lv_at hl 1 rfl) ?_
  refine lv_iload hx hb dX0_put_19 (lv_at hl 4 rfl) ?_
  refine va_iast hx hb hK1 hP hD hS 3 0 rfl rfl (vp_in_nI (by omega) (by omega)) dX0_put_21 (fun H locs hP hD hS => ?_)
  rw [nI_clamp (n := k) (by omega)] at hP hD
  have hP : va_P D vwCl [kX0 h0 a1 a2 a3 (nI n9) (nI v), kI cI a1 M (upd x1 k p1), kI cI a2 M (upd x2 k p2), kI cI a3 M (upd x3 k p3)] H := hP
  have hD : va_D A [kX0 h0 a1 a2 a3 (nI n9) (nI v), kI cI a1 M (upd x1 k p1), kI cI a2 M (upd x2 k p2), kI cI a3 M (upd x3 k p3)] := hD
  exact hret _ _ _ _ _ _ () dX0_put_22 hS (Nat.le_of_ble_eq_true rfl) (Nat.le_of_ble_eq_true rfl) trivial (hP.sub [0, 1, 2, 3] rfl) (hD.sub [0, 1, 2, 3] rfl rfl)
set_option maxHeartbeats 4000000 in
set_option maxRecDepth 100000 in
theorem c_X0_append (sz : Nat) (h0 : Nat) (a1 : Nat) (a2 : Nat) (a3 : Nat) (M : Nat) (n9 : Nat) (v : Nat) (p1 : Int32) (p2 : Int32) (p3 : Int32) (x1 : Nat → Int32) (x2 : Nat → Int32) (x3 : Nat → Int32) (hM : M ≤ 12) (hk : n9 < M) : CTv l D cI cJ cZ cR yX0_append cX0_append 4 none 1 24 0 0 sz [.ref h0, .int p1, .int p2, .int p3] [kX0 h0 a1 a2 a3 (nI n9) (nI v), kI cI a1 M x1, kI cI a2 M x2, kI cI a3 M x3] (fun (u : Unit) => True) (fun (u : Unit) => [kX0 h0 a1 a2 a3 (nI (n9 + 1)) (nI v), kI cI a1 M (upd x1 n9 p1), kI cI a2 M (upd x2 n9 p2), kI cI a3 M (upd x3 n9 p3)]) := by
  refine CTv.of (by decide) (Nat.le_of_ble_eq_true rfl) rfl ?_
  intro p e s m below meth c A Q ls hd hin hK hsz hP hD hA hS hl hret
  obtain ⟨hx, hb, hml, hown, hts⟩ := id hd
  have hK1 := hK.1
  have hown : s.vm.findClass RX0 = some m.cls := hown
  have hl : lv_has ls 4 [(0, .ref h0), (1, .int p1), (2, .int p2), (3, .int p3)] := hl
  refine lv_aload_n hx hb dX0_append_0 rfl (lv_at hl 0 rfl) ?_
  refine va_get (D := D) (ci := 0) (v := .int (nI n9)) (C := RX0) (T := TX0) (N := 5) hx hb hts iT_X0 hown hK1 hP 0 rfl rfl 3 (by decide) (hts _ t_62) (fun _ h9 => h9) rfl dX0_append_1 ?_
  refine lv_aload_n hx hb dX0_append_4 rfl (lv_at hl 0 rfl) ?_
  refine va_get (D := D) (ci := 0) (v := .ref a1) (C := RX0) (T := TX0) (N := 5) hx hb hts iT_X0 hown hK1 hP 0 rfl rfl 0 (by decide) (hts _ t_55) (fun _ h9 => h9) rfl dX0_append_5 ?_
  refine va_alen hx hb hK1 hP 1 0 rfl rfl (v := (nI M)) rfl dX0_append_8 ?_
  refine lv_icmp_ge (tgt := 33) hx hb dX0_append_9 (by decide) (fun c_1 => ?_) (fun c_1 => ?_)
  · exact absurd c_1 (nI_ge (a := n9) (b := M) (by omega) (by omega))
  refine lv_aload_n hx hb dX0_append_12 rfl (lv_at hl 0 rfl) ?_
  refine lv_aload_n hx hb dX0_append_13 rfl (lv_at hl 0 rfl) ?_
  refine va_get (D := D) (ci := 0) (v := .int (nI n9)) (C := RX0) (T := TX0) (N := 5) hx hb hts iT_X0 hown hK1 hP 0 rfl rfl 3 (by decide) (hts _ t_62) (fun _ h9 => h9) rfl dX0_append_14 ?_
  refine lv_iload_n hx hb dX0_append_17 rfl (lv_at hl 1 rfl) ?_
  refine lv_iload_n hx hb dX0_append_18 rfl (lv_at hl 2 rfl) ?_
  refine lv_iload_n hx hb dX0_append_19 rfl (lv_at hl 3 rfl) ?_
  refine xc_v (wc := [kX0 h0 a1 a2 a3 (nI n9) (nI v), kI cI a1 M x1, kI cI a2 M x2, kI cI a3 M x3]) (wr := []) (xrV (n := 4) (As := [.int (nI n9), .int p1, .int p2, .int p3]) (rest := []) (ci := 0) (q0 := 0) hd hK hP hD (c_X0_put l D cI cJ cZ cR _ h0 a1 a2 a3 M n9 v n9 p1 p2 p3 x1 x2 x3 hM hk) (gV t_275 mV_X0_put) hV_X0_put ⟨(Nat.le_of_ble_eq_true rfl), (Nat.le_of_ble_eq_true rfl)⟩ rfl rfl [0, 1, 2, 3] rfl rfl rfl hl.1 rfl (Nat.le_of_ble_eq_true rfl) dX0_append_20 ⟨(Nat.le_of_ble_eq_true rfl), (Nat.le_of_ble_eq_true rfl)⟩) hP hD hS hA [0, 1, 2, 3] [] rfl rfl rfl (by decide) (fun u_3 H locs hw_4 hP hD hS => ?_)
  have hP : va_P D vwCl [kX0 h0 a1 a2 a3 (nI n9) (nI v), kI cI a1 M (upd x1 n9 p1), kI cI a2 M (upd x2 n9 p2), kI cI a3 M (upd x3 n9 p3)] H := hP
  have hD : va_D A [kX0 h0 a1 a2 a3 (nI n9) (nI v), kI cI a1 M (upd x1 n9 p1), kI cI a2 M (upd x2 n9 p2), kI cI a3 M (upd x3 n9 p3)] := hD
  refine lv_aload_n hx hb dX0_append_23 rfl (lv_at hl 0 rfl) ?_
  refine lv_dup hx hb dX0_append_24 rfl ?_
  refine va_get (D := D) (ci := 0) (v := .int (nI n9)) (C := RX0) (T := TX0) (N := 5) hx hb hts iT_X0 hown hK1 hP 0 rfl rfl 3 (by decide) (hts _ t_62) (fun _ h9 => h9) rfl dX0_append_25 ?_
  refine lv_iconst (v := 1) hx hb dX0_append_28 (by decide) ?_
  refine lv_iadd hx hb dX0_append_29 ?_
  refine lv_nmi (show _ = (nI (n9 + 1)) from nI_add (n9) (1)) ?_
  refine va_put (D := D) (ci := 0) (v := .int (nI (n9 + 1))) (ty := .int) (C := RX0) (T := TX0) (N := 5) hx hb hts iT_X0 tyX0 tyX0_ok nmX0 hown hK1 hP hD hS 0 rfl rfl 3 (by decide) (hts _ t_62) (fun _ h9 => h9) rfl (by decide +kernel) rfl rfl (Nat.le_of_ble_eq_true rfl) dX0_append_30 (fun H locs hP hD hS => ?_)
  have hP : va_P D vwCl [kX0 h0 a1 a2 a3 (nI (n9 + 1)) (nI v), kI cI a1 M (upd x1 n9 p1), kI cI a2 M (upd x2 n9 p2), kI cI a3 M (upd x3 n9 p3)] H := hP
  have hD : va_D A [kX0 h0 a1 a2 a3 (nI (n9 + 1)) (nI v), kI cI a1 M (upd x1 n9 p1), kI cI a2 M (upd x2 n9 p2), kI cI a3 M (upd x3 n9 p3)] := hD
  exact hret _ _ _ _ _ _ () dX0_append_33 hS (Nat.le_of_ble_eq_true rfl) (Nat.le_of_ble_eq_true rfl) trivial (hP.sub [0, 1, 2, 3] rfl) (hD.sub [0, 1, 2, 3] rfl rfl)
set_option maxHeartbeats 4000000 in
set_option maxRecDepth 100000 in
theorem c_X0_told (sz : Nat) (h0 : Nat) (a1 : Nat) (a2 : Nat) (a3 : Nat) (M : Nat) (n9 : Nat) (v : Nat) (k : Nat) (x1 : Nat → Int32) (x2 : Nat → Int32) (x3 : Nat → Int32) (hM : M ≤ 12) (hk : k < M) : CTi l D cI cJ cZ cR yX0_told cX0_told 2 (some .int) 0 0 0 0 sz [.ref h0, .int (nI k)] [kX0 h0 a1 a2 a3 (nI n9) (nI v), kI cI a1 M x1, kI cI a2 M x2, kI cI a3 M x3] (fun (r : Int32) (u : Unit) => (r = (((100 * (x1 k)) + (10 * (x2 k))) + (x3 k)))) (fun (u : Unit) => [kX0 h0 a1 a2 a3 (nI n9) (nI v), kI cI a1 M x1, kI cI a2 M x2, kI cI a3 M x3]) := by
  refine CTi.of (ty := .int) (by decide) (Nat.le_of_ble_eq_true rfl) rfl ?_
  intro p e s m below meth c A Q ls hd hin hK hsz hP hD hA hS hl hret
  obtain ⟨hx, hb, hml, hown, hts⟩ := id hd
  have hK1 := hK.1
  have hown : s.vm.findClass RX0 = some m.cls := hown
  have hl : lv_has ls 2 [(0, .ref h0), (1, .int (nI k))] := hl
  refine lv_bipush (v := 100) hx hb dX0_told_0 (by decide) ?_
  refine lv_aload_n hx hb dX0_told_2 rfl (lv_at hl 0 rfl) ?_
  refine va_get (D := D) (ci := 0) (v := .ref a1) (C := RX0) (T := TX0) (N := 5) hx hb hts iT_X0 hown hK1 hP 0 rfl rfl 0 (by decide) (hts _ t_55) (fun _ h9 => h9) rfl dX0_told_3 ?_
  refine lv_iload_n hx hb dX0_told_6 rfl (lv_at hl 1 rfl) ?_
  refine va_iald hx hb hK1 hP 1 0 rfl rfl (vp_in_nI (by omega) (by omega)) dX0_told_7 ?_
  refine lv_nmi (show _ = x1 k from by rw [nI_clamp (n := k) (by omega)]) ?_
  refine lv_imul hx hb dX0_told_8 ?_
  refine lv_bipush (v := 10) hx hb dX0_told_9 (by decide) ?_
  refine lv_aload_n hx hb dX0_told_11 rfl (lv_at hl 0 rfl) ?_
  refine va_get (D := D) (ci := 0) (v := .ref a2) (C := RX0) (T := TX0) (N := 5) hx hb hts iT_X0 hown hK1 hP 0 rfl rfl 1 (by decide) (hts _ t_58) (fun _ h9 => h9) rfl dX0_told_12 ?_
  refine lv_iload_n hx hb dX0_told_15 rfl (lv_at hl 1 rfl) ?_
  refine va_iald hx hb hK1 hP 2 0 rfl rfl (vp_in_nI (by omega) (by omega)) dX0_told_16 ?_
  refine lv_nmi (show _ = x2 k from by rw [nI_clamp (n := k) (by omega)]) ?_
  refine lv_imul hx hb dX0_told_17 ?_
  refine lv_iadd hx hb dX0_told_18 ?_
  refine lv_aload_n hx hb dX0_told_19 rfl (lv_at hl 0 rfl) ?_
  refine va_get (D := D) (ci := 0) (v := .ref a3) (C := RX0) (T := TX0) (N := 5) hx hb hts iT_X0 hown hK1 hP 0 rfl rfl 2 (by decide) (hts _ t_60) (fun _ h9 => h9) rfl dX0_told_20 ?_
  refine lv_iload_n hx hb dX0_told_23 rfl (lv_at hl 1 rfl) ?_
  refine va_iald hx hb hK1 hP 3 0 rfl rfl (vp_in_nI (by omega) (by omega)) dX0_told_24 ?_
  refine lv_nmi (show _ = x3 k from by rw [nI_clamp (n := k) (by omega)]) ?_
  refine lv_iadd hx hb dX0_told_25 ?_
  exact hret _ _ _ _ _ _ (((100 * (x1 k)) + (10 * (x2 k))) + (x3 k)) () dX0_told_26 rfl hS (Nat.le_of_ble_eq_true rfl) (Nat.le_of_ble_eq_true rfl) rfl (hP.sub [0, 1, 2, 3] rfl) (hD.sub [0, 1, 2, 3] rfl rfl)
set_option maxHeartbeats 4000000 in
set_option maxRecDepth 100000 in
theorem c_X0_openEdges (sz : Nat) (h0 : Nat) (a1 : Nat) (a2 : Nat) (a3 : Nat) (M : Nat) (n9 : Nat) (v : Nat) (x1 : Nat → Int32) (x2 : Nat → Int32) (x3 : Nat → Int32) (hM : M ≤ 12) (hn : n9 ≤ M) : CTi l D cI cJ cZ cR yX0_openEdges cX0_openEdges 3 (some .int) 1 20 0 0 sz [.ref h0] [kX0 h0 a1 a2 a3 (nI n9) (nI v), kI cI a1 M x1, kI cI a2 M x2, kI cI a3 M x3] (fun (r : Int32) (u : Unit) => (r = (opE x1 n9))) (fun (u : Unit) => [kX0 h0 a1 a2 a3 (nI n9) (nI v), kI cI a1 M x1, kI cI a2 M x2, kI cI a3 M x3]) := by
  refine CTi.of (ty := .int) (by decide) (Nat.le_of_ble_eq_true rfl) rfl ?_
  intro p e s m below meth c A Q ls hd hin hK hsz hP hD hA hS hl hret
  obtain ⟨hx, hb, hml, hown, hts⟩ := id hd
  have hK1 := hK.1
  have hown : s.vm.findClass RX0 = some m.cls := hown
  have hl : lv_has ls 3 [(0, .ref h0)] := hl
  refine lv_iconst (v := 0) hx hb dX0_openEdges_0 (by decide) ?_
  refine lv_istore_n (lv' := [(1, .int 0), (0, .ref h0)]) hx hb dX0_openEdges_1 rfl hl (by decide) rfl (fun ls hl => ?_)
  refine lv_iconst (v := 0) hx hb dX0_openEdges_2 (by decide) ?_
  refine lv_istore_n (lv' := [(2, .int 0), (1, .int 0), (0, .ref h0)]) hx hb dX0_openEdges_3 rfl hl (by decide) rfl (fun ls hl => ?_)
  have LOOP_4 : ∀ (n : Nat) (i : Nat), (i + n = n9) → ∀ (H : Heap) (locs : List Loc) (ls : Array Slot), va_P D vwCl [kX0 h0 a1 a2 a3 (nI n9) (nI v), kI cI a1 M x1, kI cI a2 M x2, kI cI a3 M x3] H → va_D A [kX0 h0 a1 a2 a3 (nI n9) (nI v), kI cI a1 M x1, kI cI a2 M x2, kI cI a3 M x3] → va_S A s.heap H locs → lv_has ls 3 [(0, .ref h0), (1, .int (opE x1 i)), (2, .int (nI i))] → W p l e (rM 1 0 0 20) s m ([.ref h0] : List Value).toArray below meth c H locs 0 0 Q (F0 m 4 ls []) := by
    intro n
    induction n with
    | zero =>
      intro i hi H locs ls hP hD hS hl
      refine lv_iload_n hx hb dX0_openEdges_4 rfl (lv_at hl 2 rfl) ?_
      refine lv_aload_n hx hb dX0_openEdges_5 rfl (lv_at hl 0 rfl) ?_
      refine va_get (D := D) (ci := 0) (v := .int (nI n9)) (C := RX0) (T := TX0) (N := 5) hx hb hts iT_X0 hown hK1 hP 0 rfl rfl 3 (by decide) (hts _ t_62) (fun _ h9 => h9) rfl dX0_openEdges_6 ?_
      refine lv_icmp_ge (tgt := 38) hx hb dX0_openEdges_9 (by decide) (fun c_1 => ?_) (fun c_1 => ?_)
      rotate_left
      · exact absurd (nI_le (a := n9) (b := i) (by omega) (by omega)) c_1
      refine lv_iload_n hx hb dX0_openEdges_38 rfl (lv_at hl 1 rfl) ?_
      exact hret _ _ _ _ _ _ (opE x1 i) () dX0_openEdges_39 rfl hS (Nat.le_of_ble_eq_true rfl) (Nat.le_of_ble_eq_true rfl) (by rw [show i = n9 by omega]) (hP.sub [0, 1, 2, 3] rfl) (hD.sub [0, 1, 2, 3] rfl rfl)
    | succ n ih_4 =>
      intro i hi H locs ls hP hD hS hl
      refine lv_iload_n hx hb dX0_openEdges_4 rfl (lv_at hl 2 rfl) ?_
      refine lv_aload_n hx hb dX0_openEdges_5 rfl (lv_at hl 0 rfl) ?_
      refine va_get (D := D) (ci := 0) (v := .int (nI n9)) (C := RX0) (T := TX0) (N := 5) hx hb hts iT_X0 hown hK1 hP 0 rfl rfl 3 (by decide) (hts _ t_62) (fun _ h9 => h9) rfl dX0_openEdges_6 ?_
      refine lv_icmp_ge (tgt := 38) hx hb dX0_openEdges_9 (by decide) (fun c_2 => ?_) (fun c_2 => ?_)
      · exact absurd c_2 (nI_ge (a := i) (b := n9) (by omega) (by omega))
      refine lv_iload_n hx hb dX0_openEdges_12 rfl (lv_at hl 1 rfl) ?_
      refine lv_aload_n hx hb dX0_openEdges_13 rfl (lv_at hl 0 rfl) ?_
      refine va_get (D := D) (ci := 0) (v := .ref a1) (C := RX0) (T := TX0) (N := 5) hx hb hts iT_X0 hown hK1 hP 0 rfl rfl 0 (by decide) (hts _ t_55) (fun _ h9 => h9) rfl dX0_openEdges_14 ?_
      refine lv_iload_n hx hb dX0_openEdges_17 rfl (lv_at hl 2 rfl) ?_
      refine va_iald hx hb hK1 hP 1 0 rfl rfl (vp_in_nI (by omega) (by omega)) dX0_openEdges_18 ?_
      refine lv_nmi (show _ = x1 i from by rw [nI_clamp (n := i) (by omega)]) ?_
      refine xc_i (wc := []) (wr := [kX0 h0 a1 a2 a3 (nI n9) (nI v), kI cI a1 M x1, kI cI a2 M x2, kI cI a3 M x3]) (xrSN (n := 1) (As := [.int (x1 i)]) (rest := [.int (opE x1 i)]) hd hK hP hD (c_X6_isOpen l D cI cJ cZ cR _ (x1 i) ) mS_X6_isOpen.2.2 mS_X6_isOpen.1 mS_X6_isOpen.2.1 hK.2.2.2.2.2.2.1 hS_X6_isOpen ⟨(Nat.le_of_ble_eq_true rfl), (Nat.le_of_ble_eq_true rfl)⟩ [] rfl rfl rfl hl.1 rfl (Nat.le_of_ble_eq_true rfl) dX0_openEdges_19 ⟨(Nat.le_of_ble_eq_true rfl), (Nat.le_of_ble_eq_true rfl)⟩) hP hD hS hA [] [0, 1, 2, 3] rfl rfl rfl (by decide) (fun r_3 u_4 H locs hw_5 hP hD hS => ?_)
      have hw_6 : r_3 = (opn (x1 i)) := hw_5
      subst hw_6
      have hP : va_P D vwCl [kX0 h0 a1 a2 a3 (nI n9) (nI v), kI cI a1 M x1, kI cI a2 M x2, kI cI a3 M x3] H := hP
      have hD : va_D A [kX0 h0 a1 a2 a3 (nI n9) (nI v), kI cI a1 M x1, kI cI a2 M x2, kI cI a3 M x3] := hD
      refine lv_if_eq (tgt := 29) hx hb dX0_openEdges_22 (by decide) (fun c_7 => ?_) (fun c_7 => ?_)
      · skip
        refine lv_iconst (v := 0) hx hb dX0_openEdges_29 (by decide) ?_
        refine lv_iadd hx hb dX0_openEdges_30 ?_
        refine lv_istore_n (lv' := [(1, .int ((opE x1 i) + 0)), (0, .ref h0), (2, .int (nI i))]) hx hb dX0_openEdges_31 rfl hl (by decide) rfl (fun ls hl => ?_)
        refine lv_iinc (v := nI (i + 1)) (lv' := [(2, .int (nI (i + 1))), (1, .int ((opE x1 i) + 0)), (0, .ref h0)]) hx hb dX0_openEdges_32 hl (k := 2) rfl (nI_1 i) (by decide) rfl (fun ls hl => ?_)
        refine lv_goto (tgt := 4) hx hb dX0_openEdges_35 (by decide) ?_
        exact ih_4 (i + 1) (by omega) _ _ _ (hP.sub [0, 1, 2, 3] rfl) (hD.sub [0, 1, 2, 3] rfl rfl) hS (lv_sub hl [2, 1, 0] (by rw [opE_a c_7]; rfl))
      · skip
        refine lv_iconst (v := 1) hx hb dX0_openEdges_25 (by decide) ?_
        refine lv_goto (tgt := 30) hx hb dX0_openEdges_26 (by decide) ?_
        refine lv_iadd hx hb dX0_openEdges_30 ?_
        refine lv_istore_n (lv' := [(1, .int ((opE x1 i) + 1)), (0, .ref h0), (2, .int (nI i))]) hx hb dX0_openEdges_31 rfl hl (by decide) rfl (fun ls hl => ?_)
        refine lv_iinc (v := nI (i + 1)) (lv' := [(2, .int (nI (i + 1))), (1, .int ((opE x1 i) + 1)), (0, .ref h0)]) hx hb dX0_openEdges_32 hl (k := 2) rfl (nI_1 i) (by decide) rfl (fun ls hl => ?_)
        refine lv_goto (tgt := 4) hx hb dX0_openEdges_35 (by decide) ?_
        exact ih_4 (i + 1) (by omega) _ _ _ (hP.sub [0, 1, 2, 3] rfl) (hD.sub [0, 1, 2, 3] rfl rfl) hS (lv_sub hl [2, 1, 0] (by rw [opE_b c_7]; rfl))
  exact LOOP_4 n9 0 (by omega) _ _ _ (hP.sub [0, 1, 2, 3] rfl) (hD.sub [0, 1, 2, 3] rfl rfl) hS (lv_sub hl [2, 1, 0] rfl)
set_option maxHeartbeats 4000000 in
set_option maxRecDepth 100000 in
theorem c_X0_isDone (sz : Nat) (h0 : Nat) (a1 : Nat) (a2 : Nat) (a3 : Nat) (M : Nat) (n9 : Nat) (v : Nat) (x1 : Nat → Int32) (x2 : Nat → Int32) (x3 : Nat → Int32) (hM : M ≤ 12) (hn : n9 ≤ M) : CTi l D cI cJ cZ cR yX0_isDone cX0_isDone 1 (some .boolean) 2 42 0 0 sz [.ref h0] [kX0 h0 a1 a2 a3 (nI n9) (nI v), kI cI a1 M x1, kI cI a2 M x2, kI cI a3 M x3] (fun (r : Int32) (u : Unit) => (r = (isD x1 n9))) (fun (u : Unit) => [kX0 h0 a1 a2 a3 (nI n9) (nI v), kI cI a1 M x1, kI cI a2 M x2, kI cI a3 M x3]) := by
  refine CTi.of (ty := .boolean) (by decide) (Nat.le_of_ble_eq_true rfl) rfl ?_
  intro p e s m below meth c A Q ls hd hin hK hsz hP hD hA hS hl hret
  obtain ⟨hx, hb, hml, hown, hts⟩ := id hd
  have hK1 := hK.1
  have hown : s.vm.findClass RX0 = some m.cls := hown
  have hl : lv_has ls 1 [(0, .ref h0)] := hl
  refine lv_aload_n hx hb dX0_isDone_0 rfl (lv_at hl 0 rfl) ?_
  refine va_get (D := D) (ci := 0) (v := .int (nI n9)) (C := RX0) (T := TX0) (N := 5) hx hb hts iT_X0 hown hK1 hP 0 rfl rfl 3 (by decide) (hts _ t_62) (fun _ h9 => h9) rfl dX0_isDone_1 ?_
  refine lv_if_le (tgt := 18) hx hb dX0_isDone_4 (by decide) (fun c_1 => ?_) (fun c_1 => ?_)
  · skip
    refine lv_iconst (v := 0) hx hb dX0_isDone_18 (by decide) ?_
    exact hret _ _ _ _ _ _ 0 () dX0_isDone_19 rfl hS (Nat.le_of_ble_eq_true rfl) (Nat.le_of_ble_eq_true rfl) (by simp [isD, c_1]) (hP.sub [0, 1, 2, 3] rfl) (hD.sub [0, 1, 2, 3] rfl rfl)
  · skip
    refine lv_aload_n hx hb dX0_isDone_7 rfl (lv_at hl 0 rfl) ?_
    refine xc_i (wc := [kX0 h0 a1 a2 a3 (nI n9) (nI v), kI cI a1 M x1, kI cI a2 M x2, kI cI a3 M x3]) (wr := []) (xrV (n := 0) (As := []) (rest := []) (ci := 0) (q0 := 0) hd hK hP hD (c_X0_openEdges l D cI cJ cZ cR _ h0 a1 a2 a3 M n9 v x1 x2 x3 hM hn) (gV t_369 mV_X0_openEdges) hV_X0_openEdges ⟨(Nat.le_of_ble_eq_true rfl), (Nat.le_of_ble_eq_true rfl)⟩ rfl rfl [0, 1, 2, 3] rfl rfl rfl hl.1 rfl (Nat.le_of_ble_eq_true rfl) dX0_isDone_8 ⟨(Nat.le_of_ble_eq_true rfl), (Nat.le_of_ble_eq_true rfl)⟩) hP hD hS hA [0, 1, 2, 3] [] rfl rfl rfl (by decide) (fun r_2 u_3 H locs hw_4 hP hD hS => ?_)
    have hw_5 : r_2 = (opE x1 n9) := hw_4
    subst hw_5
    have hP : va_P D vwCl [kX0 h0 a1 a2 a3 (nI n9) (nI v), kI cI a1 M x1, kI cI a2 M x2, kI cI a3 M x3] H := hP
    have hD : va_D A [kX0 h0 a1 a2 a3 (nI n9) (nI v), kI cI a1 M x1, kI cI a2 M x2, kI cI a3 M x3] := hD
    refine lv_if_ne (tgt := 18) hx hb dX0_isDone_11 (by decide) (fun c_6 => ?_) (fun c_6 => ?_)
    · skip
      refine lv_iconst (v := 0) hx hb dX0_isDone_18 (by decide) ?_
      exact hret _ _ _ _ _ _ 0 () dX0_isDone_19 rfl hS (Nat.le_of_ble_eq_true rfl) (Nat.le_of_ble_eq_true rfl) (by simp [isD, c_1, c_6]) (hP.sub [0, 1, 2, 3] rfl) (hD.sub [0, 1, 2, 3] rfl rfl)
    · skip
      refine lv_iconst (v := 1) hx hb dX0_isDone_14 (by decide) ?_
      refine lv_goto (tgt := 19) hx hb dX0_isDone_15 (by decide) ?_
      exact hret _ _ _ _ _ _ 1 () dX0_isDone_19 rfl hS (Nat.le_of_ble_eq_true rfl) (Nat.le_of_ble_eq_true rfl) (by simp [isD, c_1, c_6]) (hP.sub [0, 1, 2, 3] rfl) (hD.sub [0, 1, 2, 3] rfl rfl)
set_option maxHeartbeats 4000000 in
set_option maxRecDepth 100000 in
theorem c_X0_comes (sz : Nat) (h0 : Nat) (a1 : Nat) (a2 : Nat) (a3 : Nat) (M : Nat) (n9 : Nat) (v : Nat) (p1 : Int32) (p2 : Int32) (p3 : Int32) (x1 : Nat → Int32) (x2 : Nat → Int32) (x3 : Nat → Int32) (hM : M ≤ 12) (hn : n9 ≤ M) (hv1 : 1 ≤ v) (hv9 : v ≤ 9) : CTi l D cI cJ cZ cR yX0_comes cX0_comes 8 (some .boolean) 0 0 0 0 sz [.ref h0, .int p1, .int p2, .int p3] [kX0 h0 a1 a2 a3 (nI n9) (nI v), kI cI a1 M x1, kI cI a2 M x2, kI cI a3 M x3] (fun (r : Int32) (u : Unit) => (r = (cmF p1 p2 p3 x2 x3 n9 v))) (fun (u : Unit) => [kX0 h0 a1 a2 a3 (nI n9) (nI v), kI cI a1 M x1, kI cI a2 M x2, kI cI a3 M x3]) := by
  refine CTi.of (ty := .boolean) (by decide) (Nat.le_of_ble_eq_true rfl) rfl ?_
  intro p e s m below meth c A Q ls hd hin hK hsz hP hD hA hS hl hret
  obtain ⟨hx, hb, hml, hown, hts⟩ := id hd
  have hK1 := hK.1
  have hown : s.vm.findClass RX0 = some m.cls := hown
  have hl : lv_has ls 8 [(0, .ref h0), (1, .int p1), (2, .int p2), (3, .int p3)] := hl
  refine lv_iconst (v := 1) hx hb dX0_comes_0 (by decide) ?_
  refine lv_iload_n hx hb dX0_comes_1 rfl (lv_at hl 1 rfl) ?_
  refine lv_ishl hx hb dX0_comes_2 ?_
  refine lv_istore (lv' := [(4, .int ((1 : Int32) <<< (p1 &&& 31))), (0, .ref h0), (1, .int p1), (2, .int p2), (3, .int p3)]) hx hb dX0_comes_3 hl (by decide) rfl (fun ls hl => ?_)
  refine lv_iconst (v := 1) hx hb dX0_comes_5 (by decide) ?_
  refine lv_istore (lv' := [(5, .int 1), (4, .int ((1 : Int32) <<< (p1 &&& 31))), (0, .ref h0), (1, .int p1), (2, .int p2), (3, .int p3)]) hx hb dX0_comes_6 hl (by decide) rfl (fun ls hl => ?_)
  have LOOP_8 : ∀ (n : Nat) (q : Nat) (se : Int32), (q + n = v) → (1 ≤ q) → (se = cwR p3 x2 x3 n9 (q - 1) ((1 : Int32) <<< (p1 &&& 31))) → ∀ (H : Heap) (locs : List Loc) (ls : Array Slot), va_P D vwCl [kX0 h0 a1 a2 a3 (nI n9) (nI v), kI cI a1 M x1, kI cI a2 M x2, kI cI a3 M x3] H → va_D A [kX0 h0 a1 a2 a3 (nI n9) (nI v), kI cI a1 M x1, kI cI a2 M x2, kI cI a3 M x3] → va_S A s.heap H locs → lv_has ls 8 [(0, .ref h0), (1, .int p1), (2, .int p2), (3, .int p3), (4, .int se), (5, .int (nI q))] → W p l e (rM 0 0 0 0) s m ([.ref h0, .int p1, .int p2, .int p3] : List Value).toArray below meth c H locs 0 0 Q (F0 m 8 ls []) := by
    intro n
    induction n with
    | zero =>
      intro q se hq hq1 hse H locs ls hP hD hS hl
      refine lv_iload hx hb dX0_comes_8 (lv_at hl 5 rfl) ?_
      refine lv_aload_n hx hb dX0_comes_10 rfl (lv_at hl 0 rfl) ?_
      refine va_get (D := D) (ci := 0) (v := .int (nI v)) (C := RX0) (T := TX0) (N := 5) hx hb hts iT_X0 hown hK1 hP 0 rfl rfl 4 (by decide) (hts _ t_65) (fun _ h9 => h9) rfl dX0_comes_11 ?_
      refine lv_icmp_ge (tgt := 121) hx hb dX0_comes_14 (by decide) (fun c_1 => ?_) (fun c_1 => ?_)
      rotate_left
      · exact absurd (nI_le (a := v) (b := q) (by omega) (by omega)) c_1
      refine lv_iload hx hb dX0_comes_121 (lv_at hl 4 rfl) ?_
      refine lv_iload_n hx hb dX0_comes_123 rfl (lv_at hl 2 rfl) ?_
      refine lv_ishr hx hb dX0_comes_124 ?_
      refine lv_iconst (v := 1) hx hb dX0_comes_125 (by decide) ?_
      refine lv_iand hx hb dX0_comes_126 ?_
      refine lv_if_eq (tgt := 134) hx hb dX0_comes_127 (by decide) (fun c_2 => ?_) (fun c_2 => ?_)
      · skip
        refine lv_iconst (v := 0) hx hb dX0_comes_134 (by decide) ?_
        exact hret _ _ _ _ _ _ 0 () dX0_comes_135 rfl hS (Nat.le_of_ble_eq_true rfl) (Nat.le_of_ble_eq_true rfl) (by rw [show v = q by omega, cmF, ← hse, if_pos c_2]) (hP.sub [0, 1, 2, 3] rfl) (hD.sub [0, 1, 2, 3] rfl rfl)
      · skip
        refine lv_iconst (v := 1) hx hb dX0_comes_130 (by decide) ?_
        refine lv_goto (tgt := 135) hx hb dX0_comes_131 (by decide) ?_
        exact hret _ _ _ _ _ _ 1 () dX0_comes_135 rfl hS (Nat.le_of_ble_eq_true rfl) (Nat.le_of_ble_eq_true rfl) (by rw [show v = q by omega, cmF, ← hse, if_neg c_2]) (hP.sub [0, 1, 2, 3] rfl) (hD.sub [0, 1, 2, 3] rfl rfl)
    | succ n ih_8 =>
      intro q se hq hq1 hse H locs ls hP hD hS hl
      refine lv_iload hx hb dX0_comes_8 (lv_at hl 5 rfl) ?_
      refine lv_aload_n hx hb dX0_comes_10 rfl (lv_at hl 0 rfl) ?_
      refine va_get (D := D) (ci := 0) (v := .int (nI v)) (C := RX0) (T := TX0) (N := 5) hx hb hts iT_X0 hown hK1 hP 0 rfl rfl 4 (by decide) (hts _ t_65) (fun _ h9 => h9) rfl dX0_comes_11 ?_
      refine lv_icmp_ge (tgt := 121) hx hb dX0_comes_14 (by decide) (fun c_3 => ?_) (fun c_3 => ?_)
      · exact absurd c_3 (nI_ge (a := q) (b := v) (by omega) (by omega))
      refine lv_iconst (v := 0) hx hb dX0_comes_17 (by decide) ?_
      refine lv_istore (lv' := [(6, .int 0), (0, .ref h0), (1, .int p1), (2, .int p2), (3, .int p3), (4, .int se), (5, .int (nI q))]) hx hb dX0_comes_18 hl (by decide) rfl (fun ls hl => ?_)
      have LOOP_20 : ∀ (n : Nat) (i : Nat) (s6 : Int32), (i + n = n9) → (s6 = cwN p3 x2 x3 i se) → ∀ (H : Heap) (locs : List Loc) (ls : Array Slot), va_P D vwCl [kX0 h0 a1 a2 a3 (nI n9) (nI v), kI cI a1 M x1, kI cI a2 M x2, kI cI a3 M x3] H → va_D A [kX0 h0 a1 a2 a3 (nI n9) (nI v), kI cI a1 M x1, kI cI a2 M x2, kI cI a3 M x3] → va_S A s.heap H locs → lv_has ls 8 [(0, .ref h0), (1, .int p1), (2, .int p2), (3, .int p3), (4, .int s6), (5, .int (nI q)), (6, .int (nI i))] → W p l e (rM 0 0 0 0) s m ([.ref h0, .int p1, .int p2, .int p3] : List Value).toArray below meth c H locs 0 0 Q (F0 m 20 ls []) := by
        intro n
        induction n with
        | zero =>
          intro i s6 hi hs6 H locs ls hP hD hS hl
          refine lv_iload hx hb dX0_comes_20 (lv_at hl 6 rfl) ?_
          refine lv_aload_n hx hb dX0_comes_22 rfl (lv_at hl 0 rfl) ?_
          refine va_get (D := D) (ci := 0) (v := .int (nI n9)) (C := RX0) (T := TX0) (N := 5) hx hb hts iT_X0 hown hK1 hP 0 rfl rfl 3 (by decide) (hts _ t_62) (fun _ h9 => h9) rfl dX0_comes_23 ?_
          refine lv_icmp_ge (tgt := 115) hx hb dX0_comes_26 (by decide) (fun c_4 => ?_) (fun c_4 => ?_)
          rotate_left
          · exact absurd (nI_le (a := n9) (b := i) (by omega) (by omega)) c_4
          refine lv_iinc (v := nI (q + 1)) (lv' := [(5, .int (nI (q + 1))), (0, .ref h0), (1, .int p1), (2, .int p2), (3, .int p3), (4, .int s6), (6, .int (nI i))]) hx hb dX0_comes_115 hl (k := 5) rfl (nI_1 q) (by decide) rfl (fun ls hl => ?_)
          refine lv_goto (tgt := 8) hx hb dX0_comes_118 (by decide) ?_
          exact ih_8 (q + 1) s6 (by omega) (by omega) (cwR_b hs6 (by omega) hse hq1) _ _ _ (hP.sub [0, 1, 2, 3] rfl) (hD.sub [0, 1, 2, 3] rfl rfl) hS (lv_sub hl [1, 2, 3, 4, 5, 0] rfl)
        | succ n ih_20 =>
          intro i s6 hi hs6 H locs ls hP hD hS hl
          refine lv_iload hx hb dX0_comes_20 (lv_at hl 6 rfl) ?_
          refine lv_aload_n hx hb dX0_comes_22 rfl (lv_at hl 0 rfl) ?_
          refine va_get (D := D) (ci := 0) (v := .int (nI n9)) (C := RX0) (T := TX0) (N := 5) hx hb hts iT_X0 hown hK1 hP 0 rfl rfl 3 (by decide) (hts _ t_62) (fun _ h9 => h9) rfl dX0_comes_23 ?_
          refine lv_icmp_ge (tgt := 115) hx hb dX0_comes_26 (by decide) (fun c_5 => ?_) (fun c_5 => ?_)
          · exact absurd c_5 (nI_ge (a := i) (b := n9) (by omega) (by omega))
          refine lv_iload_n hx hb dX0_comes_29 rfl (lv_at hl 3 rfl) ?_
          refine lv_iconst (v := 2) hx hb dX0_comes_30 (by decide) ?_
          refine lv_iload hx hb dX0_comes_31 (lv_at hl 6 rfl) ?_
          refine lv_imul hx hb dX0_comes_33 ?_
          refine lv_nmi (show _ = (nI (2 * i)) from pk_mul (2) (i)) ?_
          refine lv_ishr hx hb dX0_comes_34 ?_
          refine lv_istore (lv' := [(7, .int (p3 >>> ((nI (2 * i)) &&& 31))), (0, .ref h0), (1, .int p1), (2, .int p2), (3, .int p3), (4, .int s6), (5, .int (nI q)), (6, .int (nI i))]) hx hb dX0_comes_35 hl (by decide) rfl (fun ls hl => ?_)
          refine lv_iload hx hb dX0_comes_37 (lv_at hl 0 rfl) ?_
          refine lv_iconst (v := 1) hx hb dX0_comes_39 (by decide) ?_
          refine lv_iand hx hb dX0_comes_40 ?_
          refine lv_if_eq (tgt := 73) hx hb dX0_comes_41 (by decide) (fun c_6 => ?_) (fun c_6 => ?_)
          · skip
            refine lv_iload hx hb dX0_comes_73 (lv_at hl 0 rfl) ?_
            refine lv_iconst (v := 2) hx hb dX0_comes_75 (by decide) ?_
            refine lv_iand hx hb dX0_comes_76 ?_
            refine lv_if_eq (tgt := 109) hx hb dX0_comes_77 (by decide) (fun c_7 => ?_) (fun c_7 => ?_)
            · skip
              refine lv_iinc (v := nI (i + 1)) (lv' := [(6, .int (nI (i + 1))), (7, .int (p3 >>> ((nI (2 * i)) &&& 31))), (0, .ref h0), (1, .int p1), (2, .int p2), (3, .int p3), (4, .int s6), (5, .int (nI q))]) hx hb dX0_comes_109 hl (k := 7) rfl (nI_1 i) (by decide) rfl (fun ls hl => ?_)
              refine lv_goto (tgt := 20) hx hb dX0_comes_112 (by decide) ?_
              exact ih_20 (i + 1) s6 (by omega) (by rw [cwN, ← hs6, cw, cw1_a c_6, cw2_a c_7]) _ _ _ (hP.sub [0, 1, 2, 3] rfl) (hD.sub [0, 1, 2, 3] rfl rfl) hS (lv_sub hl [2, 3, 4, 5, 6, 7, 0] rfl)
            · skip
              refine lv_iload hx hb dX0_comes_80 (lv_at hl 5 rfl) ?_
              refine lv_aload_n hx hb dX0_comes_82 rfl (lv_at hl 1 rfl) ?_
              refine va_get (D := D) (ci := 0) (v := .ref a3) (C := RX0) (T := TX0) (N := 5) hx hb hts iT_X0 hown hK1 hP 0 rfl rfl 2 (by decide) (hts _ t_60) (fun _ h9 => h9) rfl dX0_comes_83 ?_
              refine lv_iload hx hb dX0_comes_86 (lv_at hl 7 rfl) ?_
              refine va_iald hx hb hK1 hP 3 0 rfl rfl (vp_in_nI (by omega) (by omega)) dX0_comes_88 ?_
              refine lv_nmi (show _ = x3 i from by rw [nI_clamp (n := i) (by omega)]) ?_
              refine lv_ishr hx hb dX0_comes_89 ?_
              refine lv_iconst (v := 1) hx hb dX0_comes_90 (by decide) ?_
              refine lv_iand hx hb dX0_comes_91 ?_
              refine lv_if_eq (tgt := 109) hx hb dX0_comes_92 (by decide) (fun c_8 => ?_) (fun c_8 => ?_)
              · skip
                refine lv_iinc (v := nI (i + 1)) (lv' := [(6, .int (nI (i + 1))), (7, .int (p3 >>> ((nI (2 * i)) &&& 31))), (0, .ref h0), (1, .int p1), (2, .int p2), (3, .int p3), (4, .int s6), (5, .int (nI q))]) hx hb dX0_comes_109 hl (k := 7) rfl (nI_1 i) (by decide) rfl (fun ls hl => ?_)
                refine lv_goto (tgt := 20) hx hb dX0_comes_112 (by decide) ?_
                exact ih_20 (i + 1) s6 (by omega) (by rw [cwN, ← hs6, cw, cw1_a c_6, cw2_b c_7 c_8]) _ _ _ (hP.sub [0, 1, 2, 3] rfl) (hD.sub [0, 1, 2, 3] rfl rfl) hS (lv_sub hl [2, 3, 4, 5, 6, 7, 0] rfl)
              · skip
                refine lv_iload hx hb dX0_comes_95 (lv_at hl 5 rfl) ?_
                refine lv_iconst (v := 1) hx hb dX0_comes_97 (by decide) ?_
                refine lv_aload_n hx hb dX0_comes_98 rfl (lv_at hl 1 rfl) ?_
                refine va_get (D := D) (ci := 0) (v := .ref a2) (C := RX0) (T := TX0) (N := 5) hx hb hts iT_X0 hown hK1 hP 0 rfl rfl 1 (by decide) (hts _ t_58) (fun _ h9 => h9) rfl dX0_comes_99 ?_
                refine lv_iload hx hb dX0_comes_102 (lv_at hl 7 rfl) ?_
                refine va_iald hx hb hK1 hP 2 0 rfl rfl (vp_in_nI (by omega) (by omega)) dX0_comes_104 ?_
                refine lv_nmi (show _ = x2 i from by rw [nI_clamp (n := i) (by omega)]) ?_
                refine lv_ishl hx hb dX0_comes_105 ?_
                refine lv_ior hx hb dX0_comes_106 ?_
                refine lv_istore (lv' := [(4, .int (s6 ||| ((1 : Int32) <<< ((x2 i) &&& 31)))), (7, .int (p3 >>> ((nI (2 * i)) &&& 31))), (0, .ref h0), (1, .int p1), (2, .int p2), (3, .int p3), (5, .int (nI q)), (6, .int (nI i))]) hx hb dX0_comes_107 hl (by decide) rfl (fun ls hl => ?_)
                refine lv_iinc (v := nI (i + 1)) (lv' := [(6, .int (nI (i + 1))), (4, .int (s6 ||| ((1 : Int32) <<< ((x2 i) &&& 31)))), (7, .int (p3 >>> ((nI (2 * i)) &&& 31))), (0, .ref h0), (1, .int p1), (2, .int p2), (3, .int p3), (5, .int (nI q))]) hx hb dX0_comes_109 hl (k := 7) rfl (nI_1 i) (by decide) rfl (fun ls hl => ?_)
                refine lv_goto (tgt := 20) hx hb dX0_comes_112 (by decide) ?_
                exact ih_20 (i + 1) (s6 ||| ((1 : Int32) <<< ((x2 i) &&& 31))) (by omega) (by rw [cwN, ← hs6, cw, cw1_a c_6, cw2_c c_7 c_8]) _ _ _ (hP.sub [0, 1, 2, 3] rfl) (hD.sub [0, 1, 2, 3] rfl rfl) hS (lv_sub hl [3, 4, 5, 6, 1, 7, 0] rfl)
          · skip
            refine lv_iload hx hb dX0_comes_44 (lv_at hl 5 rfl) ?_
            refine lv_aload_n hx hb dX0_comes_46 rfl (lv_at hl 1 rfl) ?_
            refine va_get (D := D) (ci := 0) (v := .ref a2) (C := RX0) (T := TX0) (N := 5) hx hb hts iT_X0 hown hK1 hP 0 rfl rfl 1 (by decide) (hts _ t_58) (fun _ h9 => h9) rfl dX0_comes_47 ?_
            refine lv_iload hx hb dX0_comes_50 (lv_at hl 7 rfl) ?_
            refine va_iald hx hb hK1 hP 2 0 rfl rfl (vp_in_nI (by omega) (by omega)) dX0_comes_52 ?_
            refine lv_nmi (show _ = x2 i from by rw [nI_clamp (n := i) (by omega)]) ?_
            refine lv_ishr hx hb dX0_comes_53 ?_
            refine lv_iconst (v := 1) hx hb dX0_comes_54 (by decide) ?_
            refine lv_iand hx hb dX0_comes_55 ?_
            refine lv_if_eq (tgt := 73) hx hb dX0_comes_56 (by decide) (fun c_9 => ?_) (fun c_9 => ?_)
            · skip
              refine lv_iload hx hb dX0_comes_73 (lv_at hl 0 rfl) ?_
              refine lv_iconst (v := 2) hx hb dX0_comes_75 (by decide) ?_
              refine lv_iand hx hb dX0_comes_76 ?_
              refine lv_if_eq (tgt := 109) hx hb dX0_comes_77 (by decide) (fun c_10 => ?_) (fun c_10 => ?_)
              · skip
                refine lv_iinc (v := nI (i + 1)) (lv' := [(6, .int (nI (i + 1))), (7, .int (p3 >>> ((nI (2 * i)) &&& 31))), (0, .ref h0), (1, .int p1), (2, .int p2), (3, .int p3), (4, .int s6), (5, .int (nI q))]) hx hb dX0_comes_109 hl (k := 7) rfl (nI_1 i) (by decide) rfl (fun ls hl => ?_)
                refine lv_goto (tgt := 20) hx hb dX0_comes_112 (by decide) ?_
                exact ih_20 (i + 1) s6 (by omega) (by rw [cwN, ← hs6, cw, cw1_b c_6 c_9, cw2_a c_10]) _ _ _ (hP.sub [0, 1, 2, 3] rfl) (hD.sub [0, 1, 2, 3] rfl rfl) hS (lv_sub hl [2, 3, 4, 5, 6, 7, 0] rfl)
              · skip
                refine lv_iload hx hb dX0_comes_80 (lv_at hl 5 rfl) ?_
                refine lv_aload_n hx hb dX0_comes_82 rfl (lv_at hl 1 rfl) ?_
                refine va_get (D := D) (ci := 0) (v := .ref a3) (C := RX0) (T := TX0) (N := 5) hx hb hts iT_X0 hown hK1 hP 0 rfl rfl 2 (by decide) (hts _ t_60) (fun _ h9 => h9) rfl dX0_comes_83 ?_
                refine lv_iload hx hb dX0_comes_86 (lv_at hl 7 rfl) ?_
                refine va_iald hx hb hK1 hP 3 0 rfl rfl (vp_in_nI (by omega) (by omega)) dX0_comes_88 ?_
                refine lv_nmi (show _ = x3 i from by rw [nI_clamp (n := i) (by omega)]) ?_
                refine lv_ishr hx hb dX0_comes_89 ?_
                refine lv_iconst (v := 1) hx hb dX0_comes_90 (by decide) ?_
                refine lv_iand hx hb dX0_comes_91 ?_
                refine lv_if_eq (tgt := 109) hx hb dX0_comes_92 (by decide) (fun c_11 => ?_) (fun c_11 => ?_)
                · skip
                  refine lv_iinc (v := nI (i + 1)) (lv' := [(6, .int (nI (i + 1))), (7, .int (p3 >>> ((nI (2 * i)) &&& 31))), (0, .ref h0), (1, .int p1), (2, .int p2), (3, .int p3), (4, .int s6), (5, .int (nI q))]) hx hb dX0_comes_109 hl (k := 7) rfl (nI_1 i) (by decide) rfl (fun ls hl => ?_)
                  refine lv_goto (tgt := 20) hx hb dX0_comes_112 (by decide) ?_
                  exact ih_20 (i + 1) s6 (by omega) (by rw [cwN, ← hs6, cw, cw1_b c_6 c_9, cw2_b c_10 c_11]) _ _ _ (hP.sub [0, 1, 2, 3] rfl) (hD.sub [0, 1, 2, 3] rfl rfl) hS (lv_sub hl [2, 3, 4, 5, 6, 7, 0] rfl)
                · skip
                  refine lv_iload hx hb dX0_comes_95 (lv_at hl 5 rfl) ?_
                  refine lv_iconst (v := 1) hx hb dX0_comes_97 (by decide) ?_
                  refine lv_aload_n hx hb dX0_comes_98 rfl (lv_at hl 1 rfl) ?_
                  refine va_get (D := D) (ci := 0) (v := .ref a2) (C := RX0) (T := TX0) (N := 5) hx hb hts iT_X0 hown hK1 hP 0 rfl rfl 1 (by decide) (hts _ t_58) (fun _ h9 => h9) rfl dX0_comes_99 ?_
                  refine lv_iload hx hb dX0_comes_102 (lv_at hl 7 rfl) ?_
                  refine va_iald hx hb hK1 hP 2 0 rfl rfl (vp_in_nI (by omega) (by omega)) dX0_comes_104 ?_
                  refine lv_nmi (show _ = x2 i from by rw [nI_clamp (n := i) (by omega)]) ?_
                  refine lv_ishl hx hb dX0_comes_105 ?_
                  refine lv_ior hx hb dX0_comes_106 ?_
                  refine lv_istore (lv' := [(4, .int (s6 ||| ((1 : Int32) <<< ((x2 i) &&& 31)))), (7, .int (p3 >>> ((nI (2 * i)) &&& 31))), (0, .ref h0), (1, .int p1), (2, .int p2), (3, .int p3), (5, .int (nI q)), (6, .int (nI i))]) hx hb dX0_comes_107 hl (by decide) rfl (fun ls hl => ?_)
                  refine lv_iinc (v := nI (i + 1)) (lv' := [(6, .int (nI (i + 1))), (4, .int (s6 ||| ((1 : Int32) <<< ((x2 i) &&& 31)))), (7, .int (p3 >>> ((nI (2 * i)) &&& 31))), (0, .ref h0), (1, .int p1), (2, .int p2), (3, .int p3), (5, .int (nI q))]) hx hb dX0_comes_109 hl (k := 7) rfl (nI_1 i) (by decide) rfl (fun ls hl => ?_)
                  refine lv_goto (tgt := 20) hx hb dX0_comes_112 (by decide) ?_
                  exact ih_20 (i + 1) (s6 ||| ((1 : Int32) <<< ((x2 i) &&& 31))) (by omega) (by rw [cwN, ← hs6, cw, cw1_b c_6 c_9, cw2_c c_10 c_11]) _ _ _ (hP.sub [0, 1, 2, 3] rfl) (hD.sub [0, 1, 2, 3] rfl rfl) hS (lv_sub hl [3, 4, 5, 6, 1, 7, 0] rfl)
            · skip
              refine lv_iload hx hb dX0_comes_59 (lv_at hl 5 rfl) ?_
              refine lv_iconst (v := 1) hx hb dX0_comes_61 (by decide) ?_
              refine lv_aload_n hx hb dX0_comes_62 rfl (lv_at hl 1 rfl) ?_
              refine va_get (D := D) (ci := 0) (v := .ref a3) (C := RX0) (T := TX0) (N := 5) hx hb hts iT_X0 hown hK1 hP 0 rfl rfl 2 (by decide) (hts _ t_60) (fun _ h9 => h9) rfl dX0_comes_63 ?_
              refine lv_iload hx hb dX0_comes_66 (lv_at hl 7 rfl) ?_
              refine va_iald hx hb hK1 hP 3 0 rfl rfl (vp_in_nI (by omega) (by omega)) dX0_comes_68 ?_
              refine lv_nmi (show _ = x3 i from by rw [nI_clamp (n := i) (by omega)]) ?_
              refine lv_ishl hx hb dX0_comes_69 ?_
              refine lv_ior hx hb dX0_comes_70 ?_
              refine lv_istore (lv' := [(4, .int (s6 ||| ((1 : Int32) <<< ((x3 i) &&& 31)))), (7, .int (p3 >>> ((nI (2 * i)) &&& 31))), (0, .ref h0), (1, .int p1), (2, .int p2), (3, .int p3), (5, .int (nI q)), (6, .int (nI i))]) hx hb dX0_comes_71 hl (by decide) rfl (fun ls hl => ?_)
              refine lv_iload hx hb dX0_comes_73 (lv_at hl 1 rfl) ?_
              refine lv_iconst (v := 2) hx hb dX0_comes_75 (by decide) ?_
              refine lv_iand hx hb dX0_comes_76 ?_
              refine lv_if_eq (tgt := 109) hx hb dX0_comes_77 (by decide) (fun c_12 => ?_) (fun c_12 => ?_)
              · skip
                refine lv_iinc (v := nI (i + 1)) (lv' := [(6, .int (nI (i + 1))), (4, .int (s6 ||| ((1 : Int32) <<< ((x3 i) &&& 31)))), (7, .int (p3 >>> ((nI (2 * i)) &&& 31))), (0, .ref h0), (1, .int p1), (2, .int p2), (3, .int p3), (5, .int (nI q))]) hx hb dX0_comes_109 hl (k := 7) rfl (nI_1 i) (by decide) rfl (fun ls hl => ?_)
                refine lv_goto (tgt := 20) hx hb dX0_comes_112 (by decide) ?_
                exact ih_20 (i + 1) (s6 ||| ((1 : Int32) <<< ((x3 i) &&& 31))) (by omega) (by rw [cwN, ← hs6, cw, cw1_c c_6 c_9, cw2_a c_12]) _ _ _ (hP.sub [0, 1, 2, 3] rfl) (hD.sub [0, 1, 2, 3] rfl rfl) hS (lv_sub hl [3, 4, 5, 6, 1, 7, 0] rfl)
              · skip
                refine lv_iload hx hb dX0_comes_80 (lv_at hl 0 rfl) ?_
                refine lv_aload_n hx hb dX0_comes_82 rfl (lv_at hl 2 rfl) ?_
                refine va_get (D := D) (ci := 0) (v := .ref a3) (C := RX0) (T := TX0) (N := 5) hx hb hts iT_X0 hown hK1 hP 0 rfl rfl 2 (by decide) (hts _ t_60) (fun _ h9 => h9) rfl dX0_comes_83 ?_
                refine lv_iload hx hb dX0_comes_86 (lv_at hl 7 rfl) ?_
                refine va_iald hx hb hK1 hP 3 0 rfl rfl (vp_in_nI (by omega) (by omega)) dX0_comes_88 ?_
                refine lv_nmi (show _ = x3 i from by rw [nI_clamp (n := i) (by omega)]) ?_
                refine lv_ishr hx hb dX0_comes_89 ?_
                refine lv_iconst (v := 1) hx hb dX0_comes_90 (by decide) ?_
                refine lv_iand hx hb dX0_comes_91 ?_
                refine lv_if_eq (tgt := 109) hx hb dX0_comes_92 (by decide) (fun c_13 => ?_) (fun c_13 => ?_)
                · skip
                  refine lv_iinc (v := nI (i + 1)) (lv' := [(6, .int (nI (i + 1))), (4, .int (s6 ||| ((1 : Int32) <<< ((x3 i) &&& 31)))), (7, .int (p3 >>> ((nI (2 * i)) &&& 31))), (0, .ref h0), (1, .int p1), (2, .int p2), (3, .int p3), (5, .int (nI q))]) hx hb dX0_comes_109 hl (k := 7) rfl (nI_1 i) (by decide) rfl (fun ls hl => ?_)
                  refine lv_goto (tgt := 20) hx hb dX0_comes_112 (by decide) ?_
                  exact ih_20 (i + 1) (s6 ||| ((1 : Int32) <<< ((x3 i) &&& 31))) (by omega) (by rw [cwN, ← hs6, cw, cw1_c c_6 c_9, cw2_b c_12 c_13]) _ _ _ (hP.sub [0, 1, 2, 3] rfl) (hD.sub [0, 1, 2, 3] rfl rfl) hS (lv_sub hl [3, 4, 5, 6, 1, 7, 0] rfl)
                · skip
                  refine lv_iload hx hb dX0_comes_95 (lv_at hl 0 rfl) ?_
                  refine lv_iconst (v := 1) hx hb dX0_comes_97 (by decide) ?_
                  refine lv_aload_n hx hb dX0_comes_98 rfl (lv_at hl 2 rfl) ?_
                  refine va_get (D := D) (ci := 0) (v := .ref a2) (C := RX0) (T := TX0) (N := 5) hx hb hts iT_X0 hown hK1 hP 0 rfl rfl 1 (by decide) (hts _ t_58) (fun _ h9 => h9) rfl dX0_comes_99 ?_
                  refine lv_iload hx hb dX0_comes_102 (lv_at hl 7 rfl) ?_
                  refine va_iald hx hb hK1 hP 2 0 rfl rfl (vp_in_nI (by omega) (by omega)) dX0_comes_104 ?_
                  refine lv_nmi (show _ = x2 i from by rw [nI_clamp (n := i) (by omega)]) ?_
                  refine lv_ishl hx hb dX0_comes_105 ?_
                  refine lv_ior hx hb dX0_comes_106 ?_
                  refine lv_istore (lv' := [(4, .int ((s6 ||| ((1 : Int32) <<< ((x3 i) &&& 31))) ||| ((1 : Int32) <<< ((x2 i) &&& 31)))), (7, .int (p3 >>> ((nI (2 * i)) &&& 31))), (0, .ref h0), (1, .int p1), (2, .int p2), (3, .int p3), (5, .int (nI q)), (6, .int (nI i))]) hx hb dX0_comes_107 hl (by decide) rfl (fun ls hl => ?_)
                  refine lv_iinc (v := nI (i + 1)) (lv' := [(6, .int (nI (i + 1))), (4, .int ((s6 ||| ((1 : Int32) <<< ((x3 i) &&& 31))) ||| ((1 : Int32) <<< ((x2 i) &&& 31)))), (7, .int (p3 >>> ((nI (2 * i)) &&& 31))), (0, .ref h0), (1, .int p1), (2, .int p2), (3, .int p3), (5, .int (nI q))]) hx hb dX0_comes_109 hl (k := 7) rfl (nI_1 i) (by decide) rfl (fun ls hl => ?_)
                  refine lv_goto (tgt := 20) hx hb dX0_comes_112 (by decide) ?_
                  exact ih_20 (i + 1) ((s6 ||| ((1 : Int32) <<< ((x3 i) &&& 31))) ||| ((1 : Int32) <<< ((x2 i) &&& 31))) (by omega) (by rw [cwN, ← hs6, cw, cw1_c c_6 c_9, cw2_c c_12 c_13]) _ _ _ (hP.sub [0, 1, 2, 3] rfl) (hD.sub [0, 1, 2, 3] rfl rfl) hS (lv_sub hl [3, 4, 5, 6, 1, 7, 0] rfl)
      exact LOOP_20 n9 0 se (by omega) rfl _ _ _ (hP.sub [0, 1, 2, 3] rfl) (hD.sub [0, 1, 2, 3] rfl rfl) hS (lv_sub hl [1, 2, 3, 4, 5, 6, 0] rfl)
  exact LOOP_8 (v - 1) 1 ((1 : Int32) <<< (p1 &&& 31)) (by omega) (by omega) rfl _ _ _ (hP.sub [0, 1, 2, 3] rfl) (hD.sub [0, 1, 2, 3] rfl rfl) hS (lv_sub hl [2, 3, 4, 5, 1, 0] rfl)
set_option maxHeartbeats 4000000 in
set_option maxRecDepth 100000 in
theorem c_X0_waysOf (sz : Nat) (h0 : Nat) (a1 : Nat) (a2 : Nat) (a3 : Nat) (M : Nat) (n9 : Nat) (v : Nat) (p1 : Int32) (x1 : Nat → Int32) (x2 : Nat → Int32) (x3 : Nat → Int32) (hM : M ≤ 12) (hn : n9 ≤ M) (hv1 : 1 ≤ v) (hv9 : v ≤ 9) : CTi l D cI cJ cZ cR yX0_waysOf cX0_waysOf 2 (some .int) 1 27 0 0 sz [.ref h0, .int p1] [kX0 h0 a1 a2 a3 (nI n9) (nI v), kI cI a1 M x1, kI cI a2 M x2, kI cI a3 M x3] (fun (r : Int32) (u : Unit) => (r = (wyF p1 x2 x3 n9 v)) ∧ (lt4 (wyF p1 x2 x3 n9 v))) (fun (u : Unit) => [kX0 h0 a1 a2 a3 (nI n9) (nI v), kI cI a1 M x1, kI cI a2 M x2, kI cI a3 M x3]) := by
  refine CTi.of (ty := .int) (by decide) (Nat.le_of_ble_eq_true rfl) rfl ?_
  intro p e s m below meth c A Q ls hd hin hK hsz hP hD hA hS hl hret
  obtain ⟨hx, hb, hml, hown, hts⟩ := id hd
  have hK1 := hK.1
  have hown : s.vm.findClass RX0 = some m.cls := hown
  have hl : lv_has ls 2 [(0, .ref h0), (1, .int p1)] := hl
  refine lv_aload_n hx hb dX0_waysOf_0 rfl (lv_at hl 0 rfl) ?_
  refine lv_iconst (v := 0) hx hb dX0_waysOf_1 (by decide) ?_
  refine lv_iconst (v := 1) hx hb dX0_waysOf_2 (by decide) ?_
  refine lv_iload_n hx hb dX0_waysOf_3 rfl (lv_at hl 1 rfl) ?_
  refine xc_i (wc := [kX0 h0 a1 a2 a3 (nI n9) (nI v), kI cI a1 M x1, kI cI a2 M x2, kI cI a3 M x3]) (wr := []) (xrV (n := 3) (As := [.int 0, .int 1, .int p1]) (rest := []) (ci := 0) (q0 := 0) hd hK hP hD (c_X0_comes l D cI cJ cZ cR _ h0 a1 a2 a3 M n9 v 0 1 p1 x1 x2 x3 hM hn hv1 hv9) (gV t_287 mV_X0_comes) hV_X0_comes ⟨(Nat.le_of_ble_eq_true rfl), (Nat.le_of_ble_eq_true rfl)⟩ rfl rfl [0, 1, 2, 3] rfl rfl rfl hl.1 rfl (Nat.le_of_ble_eq_true rfl) dX0_waysOf_4 ⟨(Nat.le_of_ble_eq_true rfl), (Nat.le_of_ble_eq_true rfl)⟩) hP hD hS hA [0, 1, 2, 3] [] rfl rfl rfl (by decide) (fun r_1 u_2 H locs hw_3 hP hD hS => ?_)
  have hw_4 : r_1 = (cmF 0 1 p1 x2 x3 n9 v) := hw_3
  subst hw_4
  have hP : va_P D vwCl [kX0 h0 a1 a2 a3 (nI n9) (nI v), kI cI a1 M x1, kI cI a2 M x2, kI cI a3 M x3] H := hP
  have hD : va_D A [kX0 h0 a1 a2 a3 (nI n9) (nI v), kI cI a1 M x1, kI cI a2 M x2, kI cI a3 M x3] := hD
  refine lv_if_eq (tgt := 14) hx hb dX0_waysOf_7 (by decide) (fun c_5 => ?_) (fun c_5 => ?_)
  · skip
    refine lv_iconst (v := 0) hx hb dX0_waysOf_14 (by decide) ?_
    refine lv_aload_n hx hb dX0_waysOf_15 rfl (lv_at hl 0 rfl) ?_
    refine lv_iconst (v := 1) hx hb dX0_waysOf_16 (by decide) ?_
    refine lv_iconst (v := 0) hx hb dX0_waysOf_17 (by decide) ?_
    refine lv_iload_n hx hb dX0_waysOf_18 rfl (lv_at hl 1 rfl) ?_
    refine xc_i (wc := [kX0 h0 a1 a2 a3 (nI n9) (nI v), kI cI a1 M x1, kI cI a2 M x2, kI cI a3 M x3]) (wr := []) (xrV (n := 3) (As := [.int 1, .int 0, .int p1]) (rest := [.int 0]) (ci := 0) (q0 := 0) hd hK hP hD (c_X0_comes l D cI cJ cZ cR _ h0 a1 a2 a3 M n9 v 1 0 p1 x1 x2 x3 hM hn hv1 hv9) (gV t_287 mV_X0_comes) hV_X0_comes ⟨(Nat.le_of_ble_eq_true rfl), (Nat.le_of_ble_eq_true rfl)⟩ rfl rfl [0, 1, 2, 3] rfl rfl rfl hl.1 rfl (Nat.le_of_ble_eq_true rfl) dX0_waysOf_19 ⟨(Nat.le_of_ble_eq_true rfl), (Nat.le_of_ble_eq_true rfl)⟩) hP hD hS hA [0, 1, 2, 3] [] rfl rfl rfl (by decide) (fun r_6 u_7 H locs hw_8 hP hD hS => ?_)
    have hw_9 : r_6 = (cmF 1 0 p1 x2 x3 n9 v) := hw_8
    subst hw_9
    have hP : va_P D vwCl [kX0 h0 a1 a2 a3 (nI n9) (nI v), kI cI a1 M x1, kI cI a2 M x2, kI cI a3 M x3] H := hP
    have hD : va_D A [kX0 h0 a1 a2 a3 (nI n9) (nI v), kI cI a1 M x1, kI cI a2 M x2, kI cI a3 M x3] := hD
    refine lv_if_eq (tgt := 29) hx hb dX0_waysOf_22 (by decide) (fun c_10 => ?_) (fun c_10 => ?_)
    · skip
      refine lv_iconst (v := 0) hx hb dX0_waysOf_29 (by decide) ?_
      refine lv_ior hx hb dX0_waysOf_30 ?_
      refine lv_nmi (show _ = (0 : Int32) from by decide +kernel) ?_
      exact hret _ _ _ _ _ _ 0 () dX0_waysOf_31 rfl hS (Nat.le_of_ble_eq_true rfl) (Nat.le_of_ble_eq_true rfl) (wy_0 c_5 c_10) (hP.sub [0, 1, 2, 3] rfl) (hD.sub [0, 1, 2, 3] rfl rfl)
    · skip
      refine lv_iconst (v := 2) hx hb dX0_waysOf_25 (by decide) ?_
      refine lv_goto (tgt := 30) hx hb dX0_waysOf_26 (by decide) ?_
      refine lv_ior hx hb dX0_waysOf_30 ?_
      refine lv_nmi (show _ = (2 : Int32) from by decide +kernel) ?_
      exact hret _ _ _ _ _ _ 2 () dX0_waysOf_31 rfl hS (Nat.le_of_ble_eq_true rfl) (Nat.le_of_ble_eq_true rfl) (wy_2 c_5 c_10) (hP.sub [0, 1, 2, 3] rfl) (hD.sub [0, 1, 2, 3] rfl rfl)
  · skip
    refine lv_iconst (v := 1) hx hb dX0_waysOf_10 (by decide) ?_
    refine lv_goto (tgt := 15) hx hb dX0_waysOf_11 (by decide) ?_
    refine lv_aload_n hx hb dX0_waysOf_15 rfl (lv_at hl 0 rfl) ?_
    refine lv_iconst (v := 1) hx hb dX0_waysOf_16 (by decide) ?_
    refine lv_iconst (v := 0) hx hb dX0_waysOf_17 (by decide) ?_
    refine lv_iload_n hx hb dX0_waysOf_18 rfl (lv_at hl 1 rfl) ?_
    refine xc_i (wc := [kX0 h0 a1 a2 a3 (nI n9) (nI v), kI cI a1 M x1, kI cI a2 M x2, kI cI a3 M x3]) (wr := []) (xrV (n := 3) (As := [.int 1, .int 0, .int p1]) (rest := [.int 1]) (ci := 0) (q0 := 0) hd hK hP hD (c_X0_comes l D cI cJ cZ cR _ h0 a1 a2 a3 M n9 v 1 0 p1 x1 x2 x3 hM hn hv1 hv9) (gV t_287 mV_X0_comes) hV_X0_comes ⟨(Nat.le_of_ble_eq_true rfl), (Nat.le_of_ble_eq_true rfl)⟩ rfl rfl [0, 1, 2, 3] rfl rfl rfl hl.1 rfl (Nat.le_of_ble_eq_true rfl) dX0_waysOf_19 ⟨(Nat.le_of_ble_eq_true rfl), (Nat.le_of_ble_eq_true rfl)⟩) hP hD hS hA [0, 1, 2, 3] [] rfl rfl rfl (by decide) (fun r_11 u_12 H locs hw_13 hP hD hS => ?_)
    have hw_14 : r_11 = (cmF 1 0 p1 x2 x3 n9 v) := hw_13
    subst hw_14
    have hP : va_P D vwCl [kX0 h0 a1 a2 a3 (nI n9) (nI v), kI cI a1 M x1, kI cI a2 M x2, kI cI a3 M x3] H := hP
    have hD : va_D A [kX0 h0 a1 a2 a3 (nI n9) (nI v), kI cI a1 M x1, kI cI a2 M x2, kI cI a3 M x3] := hD
    refine lv_if_eq (tgt := 29) hx hb dX0_waysOf_22 (by decide) (fun c_15 => ?_) (fun c_15 => ?_)
    · skip
      refine lv_iconst (v := 0) hx hb dX0_waysOf_29 (by decide) ?_
      refine lv_ior hx hb dX0_waysOf_30 ?_
      refine lv_nmi (show _ = (1 : Int32) from by decide +kernel) ?_
      exact hret _ _ _ _ _ _ 1 () dX0_waysOf_31 rfl hS (Nat.le_of_ble_eq_true rfl) (Nat.le_of_ble_eq_true rfl) (wy_1 c_5 c_15) (hP.sub [0, 1, 2, 3] rfl) (hD.sub [0, 1, 2, 3] rfl rfl)
    · skip
      refine lv_iconst (v := 2) hx hb dX0_waysOf_25 (by decide) ?_
      refine lv_goto (tgt := 30) hx hb dX0_waysOf_26 (by decide) ?_
      refine lv_ior hx hb dX0_waysOf_30 ?_
      refine lv_nmi (show _ = (3 : Int32) from by decide +kernel) ?_
      exact hret _ _ _ _ _ _ 3 () dX0_waysOf_31 rfl hS (Nat.le_of_ble_eq_true rfl) (Nat.le_of_ble_eq_true rfl) (wy_3 c_5 c_15) (hP.sub [0, 1, 2, 3] rfl) (hD.sub [0, 1, 2, 3] rfl rfl)
set_option maxHeartbeats 4000000 in
set_option maxRecDepth 100000 in
theorem c_X0_allows (sz : Nat) (h0 : Nat) (a1 : Nat) (a2 : Nat) (a3 : Nat) (M : Nat) (n9 : Nat) (v : Nat) (p1 : Int32) (p2 : Int32) (x1 : Nat → Int32) (x2 : Nat → Int32) (x3 : Nat → Int32) (hM : M ≤ 12) (hn : n9 ≤ M) : CTi l D cI cJ cZ cR yX0_allows cX0_allows 5 (some .boolean) 0 0 0 0 sz [.ref h0, .int p1, .int p2] [kX0 h0 a1 a2 a3 (nI n9) (nI v), kI cI a1 M x1, kI cI a2 M x2, kI cI a3 M x3] (fun (r : Int32) (u : Unit) => (YN r (alP p1 p2 x2 x3 n9))) (fun (u : Unit) => [kX0 h0 a1 a2 a3 (nI n9) (nI v), kI cI a1 M x1, kI cI a2 M x2, kI cI a3 M x3]) := by
  refine CTi.of (ty := .boolean) (by decide) (Nat.le_of_ble_eq_true rfl) rfl ?_
  intro p e s m below meth c A Q ls hd hin hK hsz hP hD hA hS hl hret
  obtain ⟨hx, hb, hml, hown, hts⟩ := id hd
  have hK1 := hK.1
  have hown : s.vm.findClass RX0 = some m.cls := hown
  have hl : lv_has ls 5 [(0, .ref h0), (1, .int p1), (2, .int p2)] := hl
  refine lv_iconst (v := 0) hx hb dX0_allows_0 (by decide) ?_
  refine lv_istore_n (lv' := [(3, .int 0), (0, .ref h0), (1, .int p1), (2, .int p2)]) hx hb dX0_allows_1 rfl hl (by decide) rfl (fun ls hl => ?_)
  have LOOP_2 : ∀ (n : Nat) (i : Nat), (i + n = n9) → (alP p1 p2 x2 x3 i) → ∀ (H : Heap) (locs : List Loc) (ls : Array Slot), va_P D vwCl [kX0 h0 a1 a2 a3 (nI n9) (nI v), kI cI a1 M x1, kI cI a2 M x2, kI cI a3 M x3] H → va_D A [kX0 h0 a1 a2 a3 (nI n9) (nI v), kI cI a1 M x1, kI cI a2 M x2, kI cI a3 M x3] → va_S A s.heap H locs → lv_has ls 5 [(0, .ref h0), (1, .int p1), (2, .int p2), (3, .int (nI i))] → W p l e (rM 0 0 0 0) s m ([.ref h0, .int p1, .int p2] : List Value).toArray below meth c H locs 0 0 Q (F0 m 2 ls []) := by
    intro n
    induction n with
    | zero =>
      intro i hi hal H locs ls hP hD hS hl
      refine lv_iload_n hx hb dX0_allows_2 rfl (lv_at hl 3 rfl) ?_
      refine lv_aload_n hx hb dX0_allows_3 rfl (lv_at hl 0 rfl) ?_
      refine va_get (D := D) (ci := 0) (v := .int (nI n9)) (C := RX0) (T := TX0) (N := 5) hx hb hts iT_X0 hown hK1 hP 0 rfl rfl 3 (by decide) (hts _ t_62) (fun _ h9 => h9) rfl dX0_allows_4 ?_
      refine lv_icmp_ge (tgt := 52) hx hb dX0_allows_7 (by decide) (fun c_1 => ?_) (fun c_1 => ?_)
      rotate_left
      · exact absurd (nI_le (a := n9) (b := i) (by omega) (by omega)) c_1
      refine lv_iconst (v := 1) hx hb dX0_allows_52 (by decide) ?_
      exact hret _ _ _ _ _ _ 1 () dX0_allows_53 rfl hS (Nat.le_of_ble_eq_true rfl) (Nat.le_of_ble_eq_true rfl) (YN_y (fun j hj => hal j (by omega))) (hP.sub [0, 1, 2, 3] rfl) (hD.sub [0, 1, 2, 3] rfl rfl)
    | succ n ih_2 =>
      intro i hi hal H locs ls hP hD hS hl
      refine lv_iload_n hx hb dX0_allows_2 rfl (lv_at hl 3 rfl) ?_
      refine lv_aload_n hx hb dX0_allows_3 rfl (lv_at hl 0 rfl) ?_
      refine va_get (D := D) (ci := 0) (v := .int (nI n9)) (C := RX0) (T := TX0) (N := 5) hx hb hts iT_X0 hown hK1 hP 0 rfl rfl 3 (by decide) (hts _ t_62) (fun _ h9 => h9) rfl dX0_allows_4 ?_
      refine lv_icmp_ge (tgt := 52) hx hb dX0_allows_7 (by decide) (fun c_2 => ?_) (fun c_2 => ?_)
      · exact absurd c_2 (nI_ge (a := i) (b := n9) (by omega) (by omega))
      refine lv_iload_n hx hb dX0_allows_10 rfl (lv_at hl 1 rfl) ?_
      refine lv_aload_n hx hb dX0_allows_11 rfl (lv_at hl 0 rfl) ?_
      refine va_get (D := D) (ci := 0) (v := .ref a2) (C := RX0) (T := TX0) (N := 5) hx hb hts iT_X0 hown hK1 hP 0 rfl rfl 1 (by decide) (hts _ t_58) (fun _ h9 => h9) rfl dX0_allows_12 ?_
      refine lv_iload_n hx hb dX0_allows_15 rfl (lv_at hl 3 rfl) ?_
      refine va_iald hx hb hK1 hP 2 0 rfl rfl (vp_in_nI (by omega) (by omega)) dX0_allows_16 ?_
      refine lv_nmi (show _ = x2 i from by rw [nI_clamp (n := i) (by omega)]) ?_
      refine lv_ishr hx hb dX0_allows_17 ?_
      refine lv_iload_n hx hb dX0_allows_18 rfl (lv_at hl 1 rfl) ?_
      refine lv_aload_n hx hb dX0_allows_19 rfl (lv_at hl 0 rfl) ?_
      refine va_get (D := D) (ci := 0) (v := .ref a3) (C := RX0) (T := TX0) (N := 5) hx hb hts iT_X0 hown hK1 hP 0 rfl rfl 2 (by decide) (hts _ t_60) (fun _ h9 => h9) rfl dX0_allows_20 ?_
      refine lv_iload_n hx hb dX0_allows_23 rfl (lv_at hl 3 rfl) ?_
      refine va_iald hx hb hK1 hP 3 0 rfl rfl (vp_in_nI (by omega) (by omega)) dX0_allows_24 ?_
      refine lv_nmi (show _ = x3 i from by rw [nI_clamp (n := i) (by omega)]) ?_
      refine lv_ishr hx hb dX0_allows_25 ?_
      refine lv_ixor hx hb dX0_allows_26 ?_
      refine lv_iconst (v := 1) hx hb dX0_allows_27 (by decide) ?_
      refine lv_iand hx hb dX0_allows_28 ?_
      refine lv_istore (lv' := [(4, .int (((p1 >>> ((x2 i) &&& 31)) ^^^ (p1 >>> ((x3 i) &&& 31))) &&& 1)), (0, .ref h0), (1, .int p1), (2, .int p2), (3, .int (nI i))]) hx hb dX0_allows_29 hl (by decide) rfl (fun ls hl => ?_)
      refine lv_iload_n hx hb dX0_allows_31 rfl (lv_at hl 3 rfl) ?_
      refine lv_iconst (v := 2) hx hb dX0_allows_32 (by decide) ?_
      refine lv_iload_n hx hb dX0_allows_33 rfl (lv_at hl 4 rfl) ?_
      refine lv_imul hx hb dX0_allows_34 ?_
      refine lv_nmi (show _ = (nI (2 * i)) from pk_mul (2) (i)) ?_
      refine lv_iload hx hb dX0_allows_35 (lv_at hl 0 rfl) ?_
      refine lv_iadd hx hb dX0_allows_37 ?_
      refine lv_ishr hx hb dX0_allows_38 ?_
      refine lv_iconst (v := 1) hx hb dX0_allows_39 (by decide) ?_
      refine lv_iand hx hb dX0_allows_40 ?_
      refine lv_if_ne (tgt := 46) hx hb dX0_allows_41 (by decide) (fun c_3 => ?_) (fun c_3 => ?_)
      · skip
        refine lv_iinc (v := nI (i + 1)) (lv' := [(3, .int (nI (i + 1))), (4, .int (((p1 >>> ((x2 i) &&& 31)) ^^^ (p1 >>> ((x3 i) &&& 31))) &&& 1)), (0, .ref h0), (1, .int p1), (2, .int p2)]) hx hb dX0_allows_46 hl (k := 4) rfl (nI_1 i) (by decide) rfl (fun ls hl => ?_)
        refine lv_goto (tgt := 2) hx hb dX0_allows_49 (by decide) ?_
        exact ih_2 (i + 1) (by omega) (alP_s hal c_3) _ _ _ (hP.sub [0, 1, 2, 3] rfl) (hD.sub [0, 1, 2, 3] rfl rfl) hS (lv_sub hl [2, 3, 4, 0] rfl)
      · skip
        refine lv_iconst (v := 0) hx hb dX0_allows_44 (by decide) ?_
        exact hret _ _ _ _ _ _ 0 () dX0_allows_45 rfl hS (Nat.le_of_ble_eq_true rfl) (Nat.le_of_ble_eq_true rfl) (YN_n (fun q => q i (by omega) c_3)) (hP.sub [0, 1, 2, 3] rfl) (hD.sub [0, 1, 2, 3] rfl rfl)
  exact LOOP_2 n9 0 (by omega) (fun j hj => absurd hj (by omega)) _ _ _ (hP.sub [0, 1, 2, 3] rfl) (hD.sub [0, 1, 2, 3] rfl rfl) hS (lv_sub hl [1, 2, 3, 0] rfl)
set_option maxHeartbeats 4000000 in
set_option maxRecDepth 100000 in
theorem c_X0_huesOf (sz : Nat) (h0 : Nat) (a1 : Nat) (a2 : Nat) (a3 : Nat) (M : Nat) (n9 : Nat) (v : Nat) (p1 : Int32) (x1 : Nat → Int32) (x2 : Nat → Int32) (x3 : Nat → Int32) (hM : M ≤ 12) (hn : n9 ≤ M) (hv1 : 1 ≤ v) (hv9 : v ≤ 9) : CTi l D cI cJ cZ cR yX0_huesOf cX0_huesOf 4 (some .int) 1 24 0 0 sz [.ref h0, .int p1] [kX0 h0 a1 a2 a3 (nI n9) (nI v), kI cI a1 M x1, kI cI a2 M x2, kI cI a3 M x3] (fun (r : Int32) (u : Unit) => (lt4 r) ∧ (HUq p1 x2 x3 n9 (2 ^ (v - 1)) r)) (fun (u : Unit) => [kX0 h0 a1 a2 a3 (nI n9) (nI v), kI cI a1 M x1, kI cI a2 M x2, kI cI a3 M x3]) := by
  refine CTi.of (ty := .int) (by decide) (Nat.le_of_ble_eq_true rfl) rfl ?_
  intro p e s m below meth c A Q ls hd hin hK hsz hP hD hA hS hl hret
  obtain ⟨hx, hb, hml, hown, hts⟩ := id hd
  have hK1 := hK.1
  have hown : s.vm.findClass RX0 = some m.cls := hown
  have hl : lv_has ls 4 [(0, .ref h0), (1, .int p1)] := hl
  have h2v := pow_half hv1
  have h5v := pow_le9 hv9
  refine lv_iconst (v := 0) hx hb dX0_huesOf_0 (by decide) ?_
  refine lv_istore_n (lv' := [(2, .int 0), (0, .ref h0), (1, .int p1)]) hx hb dX0_huesOf_1 rfl hl (by decide) rfl (fun ls hl => ?_)
  refine lv_iconst (v := 0) hx hb dX0_huesOf_2 (by decide) ?_
  refine lv_istore_n (lv' := [(3, .int 0), (2, .int 0), (0, .ref h0), (1, .int p1)]) hx hb dX0_huesOf_3 rfl hl (by decide) rfl (fun ls hl => ?_)
  have LOOP_4 : ∀ (n : Nat) (q : Nat) (fo : Int32), (q + n = 2 ^ (v - 1)) → (HUq p1 x2 x3 n9 q fo) → ∀ (H : Heap) (locs : List Loc) (ls : Array Slot), va_P D vwCl [kX0 h0 a1 a2 a3 (nI n9) (nI v), kI cI a1 M x1, kI cI a2 M x2, kI cI a3 M x3] H → va_D A [kX0 h0 a1 a2 a3 (nI n9) (nI v), kI cI a1 M x1, kI cI a2 M x2, kI cI a3 M x3] → va_S A s.heap H locs → lv_has ls 4 [(0, .ref h0), (1, .int p1), (2, .int fo), (3, .int (nI (2 * q)))] → W p l e (rM 1 0 0 24) s m ([.ref h0, .int p1] : List Value).toArray below meth c H locs 0 0 Q (F0 m 4 ls []) := by
    intro n
    induction n with
    | zero =>
      intro q fo hq hf4 H locs ls hP hD hS hl
      refine lv_iload_n hx hb dX0_huesOf_4 rfl (lv_at hl 3 rfl) ?_
      refine lv_iconst (v := 1) hx hb dX0_huesOf_5 (by decide) ?_
      refine lv_aload_n hx hb dX0_huesOf_6 rfl (lv_at hl 0 rfl) ?_
      refine va_get (D := D) (ci := 0) (v := .int (nI v)) (C := RX0) (T := TX0) (N := 5) hx hb hts iT_X0 hown hK1 hP 0 rfl rfl 4 (by decide) (hts _ t_65) (fun _ h9 => h9) rfl dX0_huesOf_7 ?_
      refine lv_ishl hx hb dX0_huesOf_10 ?_
      refine lv_nmi (show _ = (nI (2 ^ v) : Int32) from shl1 hv9) ?_
      refine lv_icmp_ge (tgt := 43) hx hb dX0_huesOf_11 (by decide) (fun c_1 => ?_) (fun c_1 => ?_)
      rotate_left
      · exact absurd (nI_le (a := (2 ^ v)) (b := (2 * q)) (by omega) (by omega)) c_1
      refine lv_iload_n hx hb dX0_huesOf_43 rfl (lv_at hl 2 rfl) ?_
      exact hret _ _ _ _ _ _ fo () dX0_huesOf_44 rfl hS (Nat.le_of_ble_eq_true rfl) (Nat.le_of_ble_eq_true rfl) (by rw [show 2 ^ (v - 1) = q by omega]; exact ⟨hf4.lt, hf4⟩) (hP.sub [0, 1, 2, 3] rfl) (hD.sub [0, 1, 2, 3] rfl rfl)
    | succ n ih_4 =>
      intro q fo hq hf4 H locs ls hP hD hS hl
      refine lv_iload_n hx hb dX0_huesOf_4 rfl (lv_at hl 3 rfl) ?_
      refine lv_iconst (v := 1) hx hb dX0_huesOf_5 (by decide) ?_
      refine lv_aload_n hx hb dX0_huesOf_6 rfl (lv_at hl 0 rfl) ?_
      refine va_get (D := D) (ci := 0) (v := .int (nI v)) (C := RX0) (T := TX0) (N := 5) hx hb hts iT_X0 hown hK1 hP 0 rfl rfl 4 (by decide) (hts _ t_65) (fun _ h9 => h9) rfl dX0_huesOf_7 ?_
      refine lv_ishl hx hb dX0_huesOf_10 ?_
      refine lv_nmi (show _ = (nI (2 ^ v) : Int32) from shl1 hv9) ?_
      refine lv_icmp_ge (tgt := 43) hx hb dX0_huesOf_11 (by decide) (fun c_2 => ?_) (fun c_2 => ?_)
      · exact absurd c_2 (nI_ge (a := (2 * q)) (b := (2 ^ v)) (by omega) (by omega))
      refine lv_aload_n hx hb dX0_huesOf_14 rfl (lv_at hl 0 rfl) ?_
      refine lv_iload_n hx hb dX0_huesOf_15 rfl (lv_at hl 3 rfl) ?_
      refine lv_iload_n hx hb dX0_huesOf_16 rfl (lv_at hl 1 rfl) ?_
      refine xc_i (wc := [kX0 h0 a1 a2 a3 (nI n9) (nI v), kI cI a1 M x1, kI cI a2 M x2, kI cI a3 M x3]) (wr := []) (xrV (n := 2) (As := [.int (nI (2 * q)), .int p1]) (rest := []) (ci := 0) (q0 := 0) hd hK hP hD (c_X0_allows l D cI cJ cZ cR _ h0 a1 a2 a3 M n9 v (nI (2 * q)) p1 x1 x2 x3 hM hn) (gV t_295 mV_X0_allows) hV_X0_allows ⟨(Nat.le_of_ble_eq_true rfl), (Nat.le_of_ble_eq_true rfl)⟩ rfl rfl [0, 1, 2, 3] rfl rfl rfl hl.1 rfl (Nat.le_of_ble_eq_true rfl) dX0_huesOf_17 ⟨(Nat.le_of_ble_eq_true rfl), (Nat.le_of_ble_eq_true rfl)⟩) hP hD hS hA [0, 1, 2, 3] [] rfl rfl rfl (by decide) (fun r_3 u_4 H locs hw_5 hP hD hS => ?_)
      have hw_6 : YN r_3 (alP (nI (2 * q)) p1 x2 x3 n9) := hw_5
      have hA9 := hw_6
      have hP : va_P D vwCl [kX0 h0 a1 a2 a3 (nI n9) (nI v), kI cI a1 M x1, kI cI a2 M x2, kI cI a3 M x3] H := hP
      have hD : va_D A [kX0 h0 a1 a2 a3 (nI n9) (nI v), kI cI a1 M x1, kI cI a2 M x2, kI cI a3 M x3] := hD
      refine lv_if_eq (tgt := 37) hx hb dX0_huesOf_20 (by decide) (fun c_7 => ?_) (fun c_7 => ?_)
      · skip
        refine lv_iinc (v := nI (2 * (q + 1))) (lv' := [(3, .int (nI (2 * (q + 1)))), (0, .ref h0), (1, .int p1), (2, .int fo)]) hx hb dX0_huesOf_37 hl (k := 3) rfl (inc2 q) (by decide) rfl (fun ls hl => ?_)
        refine lv_goto (tgt := 4) hx hb dX0_huesOf_40 (by decide) ?_
        exact ih_4 (q + 1) fo (by omega) (HU_n hf4 (hA9.no c_7)) _ _ _ (hP.sub [0, 1, 2, 3] rfl) (hD.sub [0, 1, 2, 3] rfl rfl) hS (lv_sub hl [1, 2, 3, 0] rfl)
      · skip
        refine lv_iload_n hx hb dX0_huesOf_23 rfl (lv_at hl 2 rfl) ?_
        refine lv_iload_n hx hb dX0_huesOf_24 rfl (lv_at hl 3 rfl) ?_
        refine lv_iconst (v := 2) hx hb dX0_huesOf_25 (by decide) ?_
        refine lv_iand hx hb dX0_huesOf_26 ?_
        refine lv_if_ne (tgt := 34) hx hb dX0_huesOf_27 (by decide) (fun c_8 => ?_) (fun c_8 => ?_)
        · skip
          refine lv_iconst (v := 2) hx hb dX0_huesOf_34 (by decide) ?_
          refine lv_ior hx hb dX0_huesOf_35 ?_
          refine lv_istore_n (lv' := [(2, .int (fo ||| 2)), (0, .ref h0), (1, .int p1), (3, .int (nI (2 * q)))]) hx hb dX0_huesOf_36 rfl hl (by decide) rfl (fun ls hl => ?_)
          refine lv_iinc (v := nI (2 * (q + 1))) (lv' := [(3, .int (nI (2 * (q + 1)))), (2, .int (fo ||| 2)), (0, .ref h0), (1, .int p1)]) hx hb dX0_huesOf_37 hl (k := 3) rfl (inc2 q) (by decide) rfl (fun ls hl => ?_)
          refine lv_goto (tgt := 4) hx hb dX0_huesOf_40 (by decide) ?_
          exact ih_4 (q + 1) (fo ||| 2) (by omega) (HU_2 hf4 (hA9.of c_7) c_8) _ _ _ (hP.sub [0, 1, 2, 3] rfl) (hD.sub [0, 1, 2, 3] rfl rfl) hS (lv_sub hl [2, 3, 1, 0] rfl)
        · skip
          refine lv_iconst (v := 1) hx hb dX0_huesOf_30 (by decide) ?_
          refine lv_goto (tgt := 35) hx hb dX0_huesOf_31 (by decide) ?_
          refine lv_ior hx hb dX0_huesOf_35 ?_
          refine lv_istore_n (lv' := [(2, .int (fo ||| 1)), (0, .ref h0), (1, .int p1), (3, .int (nI (2 * q)))]) hx hb dX0_huesOf_36 rfl hl (by decide) rfl (fun ls hl => ?_)
          refine lv_iinc (v := nI (2 * (q + 1))) (lv' := [(3, .int (nI (2 * (q + 1)))), (2, .int (fo ||| 1)), (0, .ref h0), (1, .int p1)]) hx hb dX0_huesOf_37 hl (k := 3) rfl (inc2 q) (by decide) rfl (fun ls hl => ?_)
          refine lv_goto (tgt := 4) hx hb dX0_huesOf_40 (by decide) ?_
          exact ih_4 (q + 1) (fo ||| 1) (by omega) (HU_1 hf4 (hA9.of c_7) c_8) _ _ _ (hP.sub [0, 1, 2, 3] rfl) (hD.sub [0, 1, 2, 3] rfl rfl) hS (lv_sub hl [2, 3, 1, 0] rfl)
  exact LOOP_4 (2 ^ (v - 1)) 0 0 (by omega) HU_0 _ _ _ (hP.sub [0, 1, 2, 3] rfl) (hD.sub [0, 1, 2, 3] rfl rfl) hS (lv_sub hl [2, 3, 1, 0] rfl)
set_option maxHeartbeats 4000000 in
set_option maxRecDepth 100000 in
theorem c_X0_ownKind (sz : Nat) (h0 : Nat) (a1 : Nat) (a2 : Nat) (a3 : Nat) (M : Nat) (n9 : Nat) (v : Nat) (x1 : Nat → Int32) (x2 : Nat → Int32) (x3 : Nat → Int32) (hM : M ≤ 12) (hn : n9 ≤ M) (hv1 : 1 ≤ v) (hv9 : v ≤ 9) : CTi l D cI cJ cZ cR yX0_ownKind cX0_ownKind 5 (some .int) 2 48 0 0 sz [.ref h0] [kX0 h0 a1 a2 a3 (nI n9) (nI v), kI cI a1 M x1, kI cI a2 M x2, kI cI a3 M x3] (fun (r : Int32) (u : Unit) => (OwK x1 x2 x3 n9 v r)) (fun (u : Unit) => [kX0 h0 a1 a2 a3 (nI n9) (nI v), kI cI a1 M x1, kI cI a2 M x2, kI cI a3 M x3]) := by
  refine CTi.of (ty := .int) (by decide) (Nat.le_of_ble_eq_true rfl) rfl ?_
  intro p e s m below meth c A Q ls hd hin hK hsz hP hD hA hS hl hret
  obtain ⟨hx, hb, hml, hown, hts⟩ := id hd
  have hK1 := hK.1
  have hown : s.vm.findClass RX0 = some m.cls := hown
  have hl : lv_has ls 5 [(0, .ref h0)] := hl
  refine lv_iconst (v := 0) hx hb dX0_ownKind_0 (by decide) ?_
  refine lv_istore_n (lv' := [(1, .int 0), (0, .ref h0)]) hx hb dX0_ownKind_1 rfl hl (by decide) rfl (fun ls hl => ?_)
  refine lv_iconst (v := 0) hx hb dX0_ownKind_2 (by decide) ?_
  refine lv_istore_n (lv' := [(2, .int 0), (1, .int 0), (0, .ref h0)]) hx hb dX0_ownKind_3 rfl hl (by decide) rfl (fun ls hl => ?_)
  refine lv_iconst (v := 0) hx hb dX0_ownKind_4 (by decide) ?_
  refine lv_istore_n (lv' := [(3, .int 0), (2, .int 0), (1, .int 0), (0, .ref h0)]) hx hb dX0_ownKind_5 rfl hl (by decide) rfl (fun ls hl => ?_)
  have LOOP_6 : ∀ (n : Nat) (i : Nat) (w1 : Int32) (w2 : Int32), (i + n = n9) → (w1 = owW x1 i) → (w2 = owH x1 i) → ∀ (H : Heap) (locs : List Loc) (ls : Array Slot), va_P D vwCl [kX0 h0 a1 a2 a3 (nI n9) (nI v), kI cI a1 M x1, kI cI a2 M x2, kI cI a3 M x3] H → va_D A [kX0 h0 a1 a2 a3 (nI n9) (nI v), kI cI a1 M x1, kI cI a2 M x2, kI cI a3 M x3] → va_S A s.heap H locs → lv_has ls 5 [(0, .ref h0), (1, .int w1), (2, .int w2), (3, .int (nI i))] → W p l e (rM 2 0 0 48) s m ([.ref h0] : List Value).toArray below meth c H locs 0 0 Q (F0 m 6 ls []) := by
    intro n
    induction n with
    | zero =>
      intro i w1 w2 hi hw1 hw2 H locs ls hP hD hS hl
      refine lv_iload_n hx hb dX0_ownKind_6 rfl (lv_at hl 3 rfl) ?_
      refine lv_aload_n hx hb dX0_ownKind_7 rfl (lv_at hl 0 rfl) ?_
      refine va_get (D := D) (ci := 0) (v := .int (nI n9)) (C := RX0) (T := TX0) (N := 5) hx hb hts iT_X0 hown hK1 hP 0 rfl rfl 3 (by decide) (hts _ t_62) (fun _ h9 => h9) rfl dX0_ownKind_8 ?_
      refine lv_icmp_ge (tgt := 61) hx hb dX0_ownKind_11 (by decide) (fun c_1 => ?_) (fun c_1 => ?_)
      rotate_left
      · exact absurd (nI_le (a := n9) (b := i) (by omega) (by omega)) c_1
      refine lv_aload_n hx hb dX0_ownKind_61 rfl (lv_at hl 0 rfl) ?_
      refine lv_iload_n hx hb dX0_ownKind_62 rfl (lv_at hl 1 rfl) ?_
      refine xc_i (wc := [kX0 h0 a1 a2 a3 (nI n9) (nI v), kI cI a1 M x1, kI cI a2 M x2, kI cI a3 M x3]) (wr := []) (xrV (n := 1) (As := [.int w1]) (rest := []) (ci := 0) (q0 := 0) hd hK hP hD (c_X0_waysOf l D cI cJ cZ cR _ h0 a1 a2 a3 M n9 v w1 x1 x2 x3 hM hn hv1 hv9) (gV t_378 mV_X0_waysOf) hV_X0_waysOf ⟨(Nat.le_of_ble_eq_true rfl), (Nat.le_of_ble_eq_true rfl)⟩ rfl rfl [0, 1, 2, 3] rfl rfl rfl hl.1 rfl (Nat.le_of_ble_eq_true rfl) dX0_ownKind_63 ⟨(Nat.le_of_ble_eq_true rfl), (Nat.le_of_ble_eq_true rfl)⟩) hP hD hS hA [0, 1, 2, 3] [] rfl rfl rfl (by decide) (fun r_2 u_3 H locs hw_4 hP hD hS => ?_)
      obtain ⟨hw_5, hw_6⟩ : (r_2 = (wyF w1 x2 x3 n9 v)) ∧ (lt4 (wyF w1 x2 x3 n9 v)) := hw_4
      subst hw_5
      have hP : va_P D vwCl [kX0 h0 a1 a2 a3 (nI n9) (nI v), kI cI a1 M x1, kI cI a2 M x2, kI cI a3 M x3] H := hP
      have hD : va_D A [kX0 h0 a1 a2 a3 (nI n9) (nI v), kI cI a1 M x1, kI cI a2 M x2, kI cI a3 M x3] := hD
      refine lv_aload_n hx hb dX0_ownKind_66 rfl (lv_at hl 0 rfl) ?_
      refine lv_iload_n hx hb dX0_ownKind_67 rfl (lv_at hl 2 rfl) ?_
      refine xc_i (wc := [kX0 h0 a1 a2 a3 (nI n9) (nI v), kI cI a1 M x1, kI cI a2 M x2, kI cI a3 M x3]) (wr := []) (xrV (n := 1) (As := [.int w2]) (rest := [.int (wyF w1 x2 x3 n9 v)]) (ci := 0) (q0 := 0) hd hK hP hD (c_X0_huesOf l D cI cJ cZ cR _ h0 a1 a2 a3 M n9 v w2 x1 x2 x3 hM hn hv1 hv9) (gV t_379 mV_X0_huesOf) hV_X0_huesOf ⟨(Nat.le_of_ble_eq_true rfl), (Nat.le_of_ble_eq_true rfl)⟩ rfl rfl [0, 1, 2, 3] rfl rfl rfl hl.1 rfl (Nat.le_of_ble_eq_true rfl) dX0_ownKind_68 ⟨(Nat.le_of_ble_eq_true rfl), (Nat.le_of_ble_eq_true rfl)⟩) hP hD hS hA [0, 1, 2, 3] [] rfl rfl rfl (by decide) (fun r_7 u_8 H locs hw_9 hP hD hS => ?_)
      obtain ⟨hw_10, hw_11⟩ : (lt4 r_7) ∧ (HUq w2 x2 x3 n9 (2 ^ (v - 1)) r_7) := hw_9
      have hHU := hw_11
      have hP : va_P D vwCl [kX0 h0 a1 a2 a3 (nI n9) (nI v), kI cI a1 M x1, kI cI a2 M x2, kI cI a3 M x3] H := hP
      have hD : va_D A [kX0 h0 a1 a2 a3 (nI n9) (nI v), kI cI a1 M x1, kI cI a2 M x2, kI cI a3 M x3] := hD
      refine lv_iconst (v := 2) hx hb dX0_ownKind_71 (by decide) ?_
      refine lv_ishl hx hb dX0_ownKind_72 ?_
      refine lv_ior hx hb dX0_ownKind_73 ?_
      exact hret _ _ _ _ _ _ ((wyF w1 x2 x3 n9 v) ||| (r_7 <<< (2 &&& 31))) () dX0_ownKind_74 rfl hS (Nat.le_of_ble_eq_true rfl) (Nat.le_of_ble_eq_true rfl) (by rw [show i = n9 by omega] at hw1 hw2; exact ⟨_, hw2 ▸ hHU, by rw [hw1]⟩) (hP.sub [0, 1, 2, 3] rfl) (hD.sub [0, 1, 2, 3] rfl rfl)
    | succ n ih_6 =>
      intro i w1 w2 hi hw1 hw2 H locs ls hP hD hS hl
      refine lv_iload_n hx hb dX0_ownKind_6 rfl (lv_at hl 3 rfl) ?_
      refine lv_aload_n hx hb dX0_ownKind_7 rfl (lv_at hl 0 rfl) ?_
      refine va_get (D := D) (ci := 0) (v := .int (nI n9)) (C := RX0) (T := TX0) (N := 5) hx hb hts iT_X0 hown hK1 hP 0 rfl rfl 3 (by decide) (hts _ t_62) (fun _ h9 => h9) rfl dX0_ownKind_8 ?_
      refine lv_icmp_ge (tgt := 61) hx hb dX0_ownKind_11 (by decide) (fun c_12 => ?_) (fun c_12 => ?_)
      · exact absurd c_12 (nI_ge (a := i) (b := n9) (by omega) (by omega))
      refine lv_aload_n hx hb dX0_ownKind_14 rfl (lv_at hl 0 rfl) ?_
      refine va_get (D := D) (ci := 0) (v := .ref a1) (C := RX0) (T := TX0) (N := 5) hx hb hts iT_X0 hown hK1 hP 0 rfl rfl 0 (by decide) (hts _ t_55) (fun _ h9 => h9) rfl dX0_ownKind_15 ?_
      refine lv_iload_n hx hb dX0_ownKind_18 rfl (lv_at hl 3 rfl) ?_
      refine va_iald hx hb hK1 hP 1 0 rfl rfl (vp_in_nI (by omega) (by omega)) dX0_ownKind_19 ?_
      refine lv_nmi (show _ = x1 i from by rw [nI_clamp (n := i) (by omega)]) ?_
      refine lv_iconst (v := 3) hx hb dX0_ownKind_20 (by decide) ?_
      refine lv_icmp_ne (tgt := 29) hx hb dX0_ownKind_21 (by decide) (fun c_13 => ?_) (fun c_13 => ?_)
      · skip
        refine lv_bipush (v := 15) hx hb dX0_ownKind_29 (by decide) ?_
        refine lv_istore (lv' := [(4, .int 15), (0, .ref h0), (1, .int w1), (2, .int w2), (3, .int (nI i))]) hx hb dX0_ownKind_31 hl (by decide) rfl (fun ls hl => ?_)
        refine lv_iload_n hx hb dX0_ownKind_33 rfl (lv_at hl 2 rfl) ?_
        refine lv_iload hx hb dX0_ownKind_34 (lv_at hl 0 rfl) ?_
        refine lv_iconst (v := 3) hx hb dX0_ownKind_36 (by decide) ?_
        refine lv_iand hx hb dX0_ownKind_37 ?_
        refine lv_nmi (show _ = (3 : Int32) from by decide +kernel) ?_
        refine lv_iconst (v := 2) hx hb dX0_ownKind_38 (by decide) ?_
        refine lv_iload_n hx hb dX0_ownKind_39 rfl (lv_at hl 4 rfl) ?_
        refine lv_imul hx hb dX0_ownKind_40 ?_
        refine lv_nmi (show _ = (nI (2 * i)) from pk_mul (2) (i)) ?_
        refine lv_ishl hx hb dX0_ownKind_41 ?_
        refine lv_ior hx hb dX0_ownKind_42 ?_
        refine lv_istore_n (lv' := [(1, .int (w1 ||| ((3 : Int32) <<< ((nI (2 * i)) &&& 31)))), (4, .int 15), (0, .ref h0), (2, .int w2), (3, .int (nI i))]) hx hb dX0_ownKind_43 rfl hl (by decide) rfl (fun ls hl => ?_)
        refine lv_iload_n hx hb dX0_ownKind_44 rfl (lv_at hl 3 rfl) ?_
        refine lv_iload hx hb dX0_ownKind_45 (lv_at hl 1 rfl) ?_
        refine lv_iconst (v := 2) hx hb dX0_ownKind_47 (by decide) ?_
        refine lv_ishr hx hb dX0_ownKind_48 ?_
        refine lv_nmi (show _ = (3 : Int32) from by decide +kernel) ?_
        refine lv_iconst (v := 2) hx hb dX0_ownKind_49 (by decide) ?_
        refine lv_iload_n hx hb dX0_ownKind_50 rfl (lv_at hl 4 rfl) ?_
        refine lv_imul hx hb dX0_ownKind_51 ?_
        refine lv_nmi (show _ = (nI (2 * i)) from pk_mul (2) (i)) ?_
        refine lv_ishl hx hb dX0_ownKind_52 ?_
        refine lv_ior hx hb dX0_ownKind_53 ?_
        refine lv_istore_n (lv' := [(2, .int (w2 ||| ((3 : Int32) <<< ((nI (2 * i)) &&& 31)))), (1, .int (w1 ||| ((3 : Int32) <<< ((nI (2 * i)) &&& 31)))), (4, .int 15), (0, .ref h0), (3, .int (nI i))]) hx hb dX0_ownKind_54 rfl hl (by decide) rfl (fun ls hl => ?_)
        refine lv_iinc (v := nI (i + 1)) (lv' := [(3, .int (nI (i + 1))), (2, .int (w2 ||| ((3 : Int32) <<< ((nI (2 * i)) &&& 31)))), (1, .int (w1 ||| ((3 : Int32) <<< ((nI (2 * i)) &&& 31)))), (4, .int 15), (0, .ref h0)]) hx hb dX0_ownKind_55 hl (k := 4) rfl (nI_1 i) (by decide) rfl (fun ls hl => ?_)
        refine lv_goto (tgt := 6) hx hb dX0_ownKind_58 (by decide) ?_
        exact ih_6 (i + 1) (w1 ||| ((3 : Int32) <<< ((nI (2 * i)) &&& 31))) (w2 ||| ((3 : Int32) <<< ((nI (2 * i)) &&& 31))) (by omega) (by rw [owW, ← hw1, if_neg c_13]) (by rw [owH, ← hw2, if_neg c_13]) _ _ _ (hP.sub [0, 1, 2, 3] rfl) (hD.sub [0, 1, 2, 3] rfl rfl) hS (lv_sub hl [4, 2, 1, 0] rfl)
      · skip
        refine lv_bipush (v := 9) hx hb dX0_ownKind_24 (by decide) ?_
        refine lv_goto (tgt := 31) hx hb dX0_ownKind_26 (by decide) ?_
        refine lv_istore (lv' := [(4, .int 9), (0, .ref h0), (1, .int w1), (2, .int w2), (3, .int (nI i))]) hx hb dX0_ownKind_31 hl (by decide) rfl (fun ls hl => ?_)
        refine lv_iload_n hx hb dX0_ownKind_33 rfl (lv_at hl 2 rfl) ?_
        refine lv_iload hx hb dX0_ownKind_34 (lv_at hl 0 rfl) ?_
        refine lv_iconst (v := 3) hx hb dX0_ownKind_36 (by decide) ?_
        refine lv_iand hx hb dX0_ownKind_37 ?_
        refine lv_nmi (show _ = (1 : Int32) from by decide +kernel) ?_
        refine lv_iconst (v := 2) hx hb dX0_ownKind_38 (by decide) ?_
        refine lv_iload_n hx hb dX0_ownKind_39 rfl (lv_at hl 4 rfl) ?_
        refine lv_imul hx hb dX0_ownKind_40 ?_
        refine lv_nmi (show _ = (nI (2 * i)) from pk_mul (2) (i)) ?_
        refine lv_ishl hx hb dX0_ownKind_41 ?_
        refine lv_ior hx hb dX0_ownKind_42 ?_
        refine lv_istore_n (lv' := [(1, .int (w1 ||| ((1 : Int32) <<< ((nI (2 * i)) &&& 31)))), (4, .int 9), (0, .ref h0), (2, .int w2), (3, .int (nI i))]) hx hb dX0_ownKind_43 rfl hl (by decide) rfl (fun ls hl => ?_)
        refine lv_iload_n hx hb dX0_ownKind_44 rfl (lv_at hl 3 rfl) ?_
        refine lv_iload hx hb dX0_ownKind_45 (lv_at hl 1 rfl) ?_
        refine lv_iconst (v := 2) hx hb dX0_ownKind_47 (by decide) ?_
        refine lv_ishr hx hb dX0_ownKind_48 ?_
        refine lv_nmi (show _ = (2 : Int32) from by decide +kernel) ?_
        refine lv_iconst (v := 2) hx hb dX0_ownKind_49 (by decide) ?_
        refine lv_iload_n hx hb dX0_ownKind_50 rfl (lv_at hl 4 rfl) ?_
        refine lv_imul hx hb dX0_ownKind_51 ?_
        refine lv_nmi (show _ = (nI (2 * i)) from pk_mul (2) (i)) ?_
        refine lv_ishl hx hb dX0_ownKind_52 ?_
        refine lv_ior hx hb dX0_ownKind_53 ?_
        refine lv_istore_n (lv' := [(2, .int (w2 ||| ((2 : Int32) <<< ((nI (2 * i)) &&& 31)))), (1, .int (w1 ||| ((1 : Int32) <<< ((nI (2 * i)) &&& 31)))), (4, .int 9), (0, .ref h0), (3, .int (nI i))]) hx hb dX0_ownKind_54 rfl hl (by decide) rfl (fun ls hl => ?_)
        refine lv_iinc (v := nI (i + 1)) (lv' := [(3, .int (nI (i + 1))), (2, .int (w2 ||| ((2 : Int32) <<< ((nI (2 * i)) &&& 31)))), (1, .int (w1 ||| ((1 : Int32) <<< ((nI (2 * i)) &&& 31)))), (4, .int 9), (0, .ref h0)]) hx hb dX0_ownKind_55 hl (k := 4) rfl (nI_1 i) (by decide) rfl (fun ls hl => ?_)
        refine lv_goto (tgt := 6) hx hb dX0_ownKind_58 (by decide) ?_
        exact ih_6 (i + 1) (w1 ||| ((1 : Int32) <<< ((nI (2 * i)) &&& 31))) (w2 ||| ((2 : Int32) <<< ((nI (2 * i)) &&& 31))) (by omega) (by rw [owW, ← hw1, if_pos c_13]) (by rw [owH, ← hw2, if_pos c_13]) _ _ _ (hP.sub [0, 1, 2, 3] rfl) (hD.sub [0, 1, 2, 3] rfl rfl) hS (lv_sub hl [4, 2, 1, 0] rfl)
  exact LOOP_6 n9 0 0 0 (by omega) rfl rfl _ _ _ (hP.sub [0, 1, 2, 3] rfl) (hD.sub [0, 1, 2, 3] rfl rfl) hS (lv_sub hl [3, 2, 1, 0] rfl)
end
