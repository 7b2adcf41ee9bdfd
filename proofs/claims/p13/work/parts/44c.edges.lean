theorem mV_X0_nodeFor : Cond.instanceMethod yX0_nodeFor ∈ gT ∧ Cond.selects RX0 yX0_nodeFor yX0_nodeFor ∈ gT ∧ Cond.initialized RX0 ∈ gT ∧ Cond.code yX0_nodeFor cX0_nodeFor 4 (some .int) ∈ gT := ⟨t_355, ts_10, t_5, t_356⟩
theorem hV_X0_nodeFor : yX0_nodeFor.cls = RX0 ∧ yX0_nodeFor.cls ≠ "java/lang/invoke/MethodHandle" ∧ yX0_nodeFor.cls ≠ "java/lang/invoke/VarHandle" ∧ (parseMethodDescriptor yX0_nodeFor.desc).map (fun d => d.parameters.length) = some 3 := by decide +kernel
theorem mV_X0_nodesOf : Cond.instanceMethod yX0_nodesOf ∈ gT ∧ Cond.selects RX0 yX0_nodesOf yX0_nodesOf ∈ gT ∧ Cond.initialized RX0 ∈ gT ∧ Cond.code yX0_nodesOf cX0_nodesOf 4 (some .int) ∈ gT := ⟨t_408, ts_12, t_5, t_409⟩
theorem hV_X0_nodesOf : yX0_nodesOf.cls = RX0 ∧ yX0_nodesOf.cls ≠ "java/lang/invoke/MethodHandle" ∧ yX0_nodesOf.cls ≠ "java/lang/invoke/VarHandle" ∧ (parseMethodDescriptor yX0_nodesOf.desc).map (fun d => d.parameters.length) = some 1 := by decide +kernel
theorem mV_X0_isPart : Cond.instanceMethod yX0_isPart ∈ gT ∧ Cond.selects RX0 yX0_isPart yX0_isPart ∈ gT ∧ Cond.initialized RX0 ∈ gT ∧ Cond.code yX0_isPart cX0_isPart 7 (some .boolean) ∈ gT := ⟨t_403, t_404, t_5, t_405⟩
theorem hV_X0_isPart : yX0_isPart.cls = RX0 ∧ yX0_isPart.cls ≠ "java/lang/invoke/MethodHandle" ∧ yX0_isPart.cls ≠ "java/lang/invoke/VarHandle" ∧ (parseMethodDescriptor yX0_isPart.desc).map (fun d => d.parameters.length) = some 3 := by decide +kernel
theorem mV_X0_isEdge : Cond.instanceMethod yX0_isEdge ∈ gT ∧ Cond.selects RX0 yX0_isEdge yX0_isEdge ∈ gT ∧ Cond.initialized RX0 ∈ gT ∧ Cond.code yX0_isEdge cX0_isEdge 6 (some .boolean) ∈ gT := ⟨t_431, t_432, t_5, t_433⟩
theorem hV_X0_isEdge : yX0_isEdge.cls = RX0 ∧ yX0_isEdge.cls ≠ "java/lang/invoke/MethodHandle" ∧ yX0_isEdge.cls ≠ "java/lang/invoke/VarHandle" ∧ (parseMethodDescriptor yX0_isEdge.desc).map (fun d => d.parameters.length) = some 4 := by decide +kernel
theorem mV_X0_replace : Cond.instanceMethod yX0_replace ∈ gT ∧ Cond.selects RX0 yX0_replace yX0_replace ∈ gT ∧ Cond.initialized RX0 ∈ gT ∧ Cond.code yX0_replace cX0_replace 7 none ∈ gT := ⟨t_349, t_350, t_5, t_351⟩
theorem hV_X0_replace : yX0_replace.cls = RX0 ∧ yX0_replace.cls ≠ "java/lang/invoke/MethodHandle" ∧ yX0_replace.cls ≠ "java/lang/invoke/VarHandle" ∧ (parseMethodDescriptor yX0_replace.desc).map (fun d => d.parameters.length) = some 2 := by decide +kernel
theorem mV_X3_copyEdges : Cond.instanceMethod yX3_copyEdges ∈ gT ∧ Cond.selects RX3 yX3_copyEdges yX3_copyEdges ∈ gT ∧ Cond.initialized RX3 ∈ gT ∧ Cond.code yX3_copyEdges cX3_copyEdges 5 none ∈ gT := ⟨t_265, ts_5, t_2, t_266⟩
theorem hV_X3_copyEdges : yX3_copyEdges.cls = RX3 ∧ yX3_copyEdges.cls ≠ "java/lang/invoke/MethodHandle" ∧ yX3_copyEdges.cls ≠ "java/lang/invoke/VarHandle" ∧ (parseMethodDescriptor yX3_copyEdges.desc).map (fun d => d.parameters.length) = some 2 := by decide +kernel
theorem mV_X3_copyRule : Cond.instanceMethod yX3_copyRule ∈ gT ∧ Cond.selects RX3 yX3_copyRule yX3_copyRule ∈ gT ∧ Cond.initialized RX3 ∈ gT ∧ Cond.code yX3_copyRule cX3_copyRule 2 none ∈ gT := ⟨t_260, t_261, t_2, t_262⟩
theorem hV_X3_copyRule : yX3_copyRule.cls = RX3 ∧ yX3_copyRule.cls ≠ "java/lang/invoke/MethodHandle" ∧ yX3_copyRule.cls ≠ "java/lang/invoke/VarHandle" ∧ (parseMethodDescriptor yX3_copyRule.desc).map (fun d => d.parameters.length) = some 1 := by decide +kernel
theorem mV_X3_copyGraph : Cond.instanceMethod yX3_copyGraph ∈ gT ∧ Cond.selects RX3 yX3_copyGraph yX3_copyGraph ∈ gT ∧ Cond.initialized RX3 ∈ gT ∧ Cond.code yX3_copyGraph cX3_copyGraph 2 none ∈ gT := ⟨t_321, t_322, t_2, t_323⟩
theorem hV_X3_copyGraph : yX3_copyGraph.cls = RX3 ∧ yX3_copyGraph.cls ≠ "java/lang/invoke/MethodHandle" ∧ yX3_copyGraph.cls ≠ "java/lang/invoke/VarHandle" ∧ (parseMethodDescriptor yX3_copyGraph.desc).map (fun d => d.parameters.length) = some 1 := by decide +kernel
theorem mV_X4_kindFrom : Cond.instanceMethod yX4_kindFrom ∈ gT ∧ Cond.selects RX4 yX4_kindFrom yX4_kindFrom ∈ gT ∧ Cond.initialized RX4 ∈ gT ∧ Cond.code yX4_kindFrom cX4_kindFrom 6 (some .int) ∈ gT := ⟨t_500, t_501, t_4, t_502⟩
theorem hV_X4_kindFrom : yX4_kindFrom.cls = RX4 ∧ yX4_kindFrom.cls ≠ "java/lang/invoke/MethodHandle" ∧ yX4_kindFrom.cls ≠ "java/lang/invoke/VarHandle" ∧ (parseMethodDescriptor yX4_kindFrom.desc).map (fun d => d.parameters.length) = some 3 := by decide +kernel
theorem dX0_isEdge_0 : decode cX0_isEdge 0 = .ok (.iconst 0, 1) := by decide +kernel
theorem dX0_isEdge_1 : decode cX0_isEdge 1 = .ok (.istore 5, 2) := by decide +kernel
theorem dX0_isEdge_3 : decode cX0_isEdge 3 = .ok (.iload 5, 2) := by decide +kernel
theorem dX0_isEdge_5 : decode cX0_isEdge 5 = .ok (.aload_n 0, 1) := by decide +kernel
theorem dX0_isEdge_6 : decode cX0_isEdge 6 = .ok (.getfield 9, 3) := by decide +kernel
theorem dX0_isEdge_9 : decode cX0_isEdge 9 = .ok (.if_icmp .ge 57, 3) := by decide +kernel
theorem dX0_isEdge_12 : decode cX0_isEdge 12 = .ok (.iload_n 1, 1) := by decide +kernel
theorem dX0_isEdge_13 : decode cX0_isEdge 13 = .ok (.iconst 1, 1) := by decide +kernel
theorem dX0_isEdge_14 : decode cX0_isEdge 14 = .ok (.iload 5, 2) := by decide +kernel
theorem dX0_isEdge_16 : decode cX0_isEdge 16 = .ok (.ishl, 1) := by decide +kernel
theorem dX0_isEdge_17 : decode cX0_isEdge 17 = .ok (.if_icmp .ne 43, 3) := by decide +kernel
theorem dX0_isEdge_20 : decode cX0_isEdge 20 = .ok (.aload_n 0, 1) := by decide +kernel
theorem dX0_isEdge_21 : decode cX0_isEdge 21 = .ok (.getfield 18, 3) := by decide +kernel
theorem dX0_isEdge_24 : decode cX0_isEdge 24 = .ok (.iload 5, 2) := by decide +kernel
theorem dX0_isEdge_26 : decode cX0_isEdge 26 = .ok (.iaload, 1) := by decide +kernel
theorem dX0_isEdge_27 : decode cX0_isEdge 27 = .ok (.iload_n 2, 1) := by decide +kernel
theorem dX0_isEdge_28 : decode cX0_isEdge 28 = .ok (.if_icmp .ne 30, 3) := by decide +kernel
theorem dX0_isEdge_31 : decode cX0_isEdge 31 = .ok (.aload_n 0, 1) := by decide +kernel
theorem dX0_isEdge_32 : decode cX0_isEdge 32 = .ok (.getfield 22, 3) := by decide +kernel
theorem dX0_isEdge_35 : decode cX0_isEdge 35 = .ok (.iload 5, 2) := by decide +kernel
theorem dX0_isEdge_37 : decode cX0_isEdge 37 = .ok (.iaload, 1) := by decide +kernel
theorem dX0_isEdge_38 : decode cX0_isEdge 38 = .ok (.iload_n 3, 1) := by decide +kernel
theorem dX0_isEdge_39 : decode cX0_isEdge 39 = .ok (.if_icmp .ne 19, 3) := by decide +kernel
theorem dX0_isEdge_42 : decode cX0_isEdge 42 = .ok (.aload_n 0, 1) := by decide +kernel
theorem dX0_isEdge_43 : decode cX0_isEdge 43 = .ok (.getfield 25, 3) := by decide +kernel
theorem dX0_isEdge_46 : decode cX0_isEdge 46 = .ok (.iload 5, 2) := by decide +kernel
theorem dX0_isEdge_48 : decode cX0_isEdge 48 = .ok (.iaload, 1) := by decide +kernel
theorem dX0_isEdge_49 : decode cX0_isEdge 49 = .ok (.iload 4, 2) := by decide +kernel
theorem dX0_isEdge_51 : decode cX0_isEdge 51 = .ok (.if_icmp .ne 7, 3) := by decide +kernel
theorem dX0_isEdge_54 : decode cX0_isEdge 54 = .ok (.iconst 1, 1) := by decide +kernel
theorem dX0_isEdge_55 : decode cX0_isEdge 55 = .ok (.goto 4, 3) := by decide +kernel
theorem dX0_isEdge_58 : decode cX0_isEdge 58 = .ok (.iconst 0, 1) := by decide +kernel
theorem dX0_isEdge_59 : decode cX0_isEdge 59 = .ok (.ireturn, 1) := by decide +kernel
theorem dX0_isEdge_60 : decode cX0_isEdge 60 = .ok (.iinc 5 1, 3) := by decide +kernel
theorem dX0_isEdge_63 : decode cX0_isEdge 63 = .ok (.goto (-60), 3) := by decide +kernel
theorem dX0_isEdge_66 : decode cX0_isEdge 66 = .ok (.iconst 0, 1) := by decide +kernel
theorem dX0_isEdge_67 : decode cX0_isEdge 67 = .ok (.ireturn, 1) := by decide +kernel
theorem dX0_isPart_0 : decode cX0_isPart 0 = .ok (.iconst 1, 1) := by decide +kernel
theorem dX0_isPart_1 : decode cX0_isPart 1 = .ok (.iload_n 2, 1) := by decide +kernel
theorem dX0_isPart_2 : decode cX0_isPart 2 = .ok (.ishl, 1) := by decide +kernel
theorem dX0_isPart_3 : decode cX0_isPart 3 = .ok (.iconst 1, 1) := by decide +kernel
theorem dX0_isPart_4 : decode cX0_isPart 4 = .ok (.iload_n 3, 1) := by decide +kernel
theorem dX0_isPart_5 : decode cX0_isPart 5 = .ok (.ishl, 1) := by decide +kernel
theorem dX0_isPart_6 : decode cX0_isPart 6 = .ok (.ior, 1) := by decide +kernel
theorem dX0_isPart_7 : decode cX0_isPart 7 = .ok (.istore 4, 2) := by decide +kernel
theorem dX0_isPart_9 : decode cX0_isPart 9 = .ok (.aload_n 0, 1) := by decide +kernel
theorem dX0_isPart_10 : decode cX0_isPart 10 = .ok (.iload_n 1, 1) := by decide +kernel
theorem dX0_isPart_11 : decode cX0_isPart 11 = .ok (.invokevirtual 47, 3) := by decide +kernel
theorem dX0_isPart_14 : decode cX0_isPart 14 = .ok (.istore 5, 2) := by decide +kernel
theorem dX0_isPart_16 : decode cX0_isPart 16 = .ok (.aload_n 0, 1) := by decide +kernel
theorem dX0_isPart_17 : decode cX0_isPart 17 = .ok (.iload_n 1, 1) := by decide +kernel
theorem dX0_isPart_18 : decode cX0_isPart 18 = .ok (.iconst (-1), 1) := by decide +kernel
theorem dX0_isPart_19 : decode cX0_isPart 19 = .ok (.ixor, 1) := by decide +kernel
theorem dX0_isPart_20 : decode cX0_isPart 20 = .ok (.invokevirtual 47, 3) := by decide +kernel
theorem dX0_isPart_23 : decode cX0_isPart 23 = .ok (.iconst 3, 1) := by decide +kernel
theorem dX0_isPart_24 : decode cX0_isPart 24 = .ok (.ior, 1) := by decide +kernel
theorem dX0_isPart_25 : decode cX0_isPart 25 = .ok (.istore 6, 2) := by decide +kernel
theorem dX0_isPart_27 : decode cX0_isPart 27 = .ok (.iload_n 2, 1) := by decide +kernel
theorem dX0_isPart_28 : decode cX0_isPart 28 = .ok (.iload_n 3, 1) := by decide +kernel
theorem dX0_isPart_29 : decode cX0_isPart 29 = .ok (.if_icmp .eq 30, 3) := by decide +kernel
theorem dX0_isPart_32 : decode cX0_isPart 32 = .ok (.iload 5, 2) := by decide +kernel
theorem dX0_isPart_34 : decode cX0_isPart 34 = .ok (.iload 4, 2) := by decide +kernel
theorem dX0_isPart_36 : decode cX0_isPart 36 = .ok (.iand, 1) := by decide +kernel
theorem dX0_isPart_37 : decode cX0_isPart 37 = .ok (.iload 4, 2) := by decide +kernel
theorem dX0_isPart_39 : decode cX0_isPart 39 = .ok (.if_icmp .ne 20, 3) := by decide +kernel
theorem dX0_isPart_42 : decode cX0_isPart 42 = .ok (.iload 5, 2) := by decide +kernel
theorem dX0_isPart_44 : decode cX0_isPart 44 = .ok (.iload 6, 2) := by decide +kernel
theorem dX0_isPart_46 : decode cX0_isPart 46 = .ok (.iand, 1) := by decide +kernel
theorem dX0_isPart_47 : decode cX0_isPart 47 = .ok (.iload 4, 2) := by decide +kernel
theorem dX0_isPart_49 : decode cX0_isPart 49 = .ok (.iconst (-1), 1) := by decide +kernel
theorem dX0_isPart_50 : decode cX0_isPart 50 = .ok (.ixor, 1) := by decide +kernel
theorem dX0_isPart_51 : decode cX0_isPart 51 = .ok (.iand, 1) := by decide +kernel
theorem dX0_isPart_52 : decode cX0_isPart 52 = .ok (.ifCond .ne 7, 3) := by decide +kernel
theorem dX0_isPart_55 : decode cX0_isPart 55 = .ok (.iconst 1, 1) := by decide +kernel
theorem dX0_isPart_56 : decode cX0_isPart 56 = .ok (.goto 4, 3) := by decide +kernel
theorem dX0_isPart_59 : decode cX0_isPart 59 = .ok (.iconst 0, 1) := by decide +kernel
theorem dX0_isPart_60 : decode cX0_isPart 60 = .ok (.ireturn, 1) := by decide +kernel
theorem dX0_nodeFor_0 : decode cX0_nodeFor 0 = .ok (.iload_n 1, 1) := by decide +kernel
theorem dX0_nodeFor_1 : decode cX0_nodeFor 1 = .ok (.ifCond .ne 5, 3) := by decide +kernel
theorem dX0_nodeFor_4 : decode cX0_nodeFor 4 = .ok (.iload_n 2, 1) := by decide +kernel
theorem dX0_nodeFor_5 : decode cX0_nodeFor 5 = .ok (.ireturn, 1) := by decide +kernel
theorem dX0_nodeFor_6 : decode cX0_nodeFor 6 = .ok (.iload_n 1, 1) := by decide +kernel
theorem dX0_nodeFor_7 : decode cX0_nodeFor 7 = .ok (.iconst 1, 1) := by decide +kernel
theorem dX0_nodeFor_8 : decode cX0_nodeFor 8 = .ok (.if_icmp .ne 7, 3) := by decide +kernel
theorem dX0_nodeFor_11 : decode cX0_nodeFor 11 = .ok (.iload_n 3, 1) := by decide +kernel
theorem dX0_nodeFor_12 : decode cX0_nodeFor 12 = .ok (.goto 11, 3) := by decide +kernel
theorem dX0_nodeFor_15 : decode cX0_nodeFor 15 = .ok (.aload_n 0, 1) := by decide +kernel
theorem dX0_nodeFor_16 : decode cX0_nodeFor 16 = .ok (.getfield 15, 3) := by decide +kernel
theorem dX0_nodeFor_19 : decode cX0_nodeFor 19 = .ok (.iload_n 1, 1) := by decide +kernel
theorem dX0_nodeFor_20 : decode cX0_nodeFor 20 = .ok (.iadd, 1) := by decide +kernel
theorem dX0_nodeFor_21 : decode cX0_nodeFor 21 = .ok (.iconst 2, 1) := by decide +kernel
theorem dX0_nodeFor_22 : decode cX0_nodeFor 22 = .ok (.isub, 1) := by decide +kernel
theorem dX0_nodeFor_23 : decode cX0_nodeFor 23 = .ok (.ireturn, 1) := by decide +kernel
theorem dX0_nodesOf_0 : decode cX0_nodesOf 0 = .ok (.iconst 0, 1) := by decide +kernel
theorem dX0_nodesOf_1 : decode cX0_nodesOf 1 = .ok (.istore_n 2, 1) := by decide +kernel
theorem dX0_nodesOf_2 : decode cX0_nodesOf 2 = .ok (.iconst 0, 1) := by decide +kernel
theorem dX0_nodesOf_3 : decode cX0_nodesOf 3 = .ok (.istore_n 3, 1) := by decide +kernel
theorem dX0_nodesOf_4 : decode cX0_nodesOf 4 = .ok (.iload_n 3, 1) := by decide +kernel
theorem dX0_nodesOf_5 : decode cX0_nodesOf 5 = .ok (.aload_n 0, 1) := by decide +kernel
theorem dX0_nodesOf_6 : decode cX0_nodesOf 6 = .ok (.getfield 9, 3) := by decide +kernel
theorem dX0_nodesOf_9 : decode cX0_nodesOf 9 = .ok (.if_icmp .ge 37, 3) := by decide +kernel
theorem dX0_nodesOf_12 : decode cX0_nodesOf 12 = .ok (.iload_n 1, 1) := by decide +kernel
theorem dX0_nodesOf_13 : decode cX0_nodesOf 13 = .ok (.iload_n 3, 1) := by decide +kernel
theorem dX0_nodesOf_14 : decode cX0_nodesOf 14 = .ok (.ishr, 1) := by decide +kernel
theorem dX0_nodesOf_15 : decode cX0_nodesOf 15 = .ok (.iconst 1, 1) := by decide +kernel
theorem dX0_nodesOf_16 : decode cX0_nodesOf 16 = .ok (.iand, 1) := by decide +kernel
theorem dX0_nodesOf_17 : decode cX0_nodesOf 17 = .ok (.ifCond .eq 23, 3) := by decide +kernel
theorem dX0_nodesOf_20 : decode cX0_nodesOf 20 = .ok (.iload_n 2, 1) := by decide +kernel
theorem dX0_nodesOf_21 : decode cX0_nodesOf 21 = .ok (.iconst 1, 1) := by decide +kernel
theorem dX0_nodesOf_22 : decode cX0_nodesOf 22 = .ok (.aload_n 0, 1) := by decide +kernel
theorem dX0_nodesOf_23 : decode cX0_nodesOf 23 = .ok (.getfield 22, 3) := by decide +kernel
theorem dX0_nodesOf_26 : decode cX0_nodesOf 26 = .ok (.iload_n 3, 1) := by decide +kernel
theorem dX0_nodesOf_27 : decode cX0_nodesOf 27 = .ok (.iaload, 1) := by decide +kernel
theorem dX0_nodesOf_28 : decode cX0_nodesOf 28 = .ok (.ishl, 1) := by decide +kernel
theorem dX0_nodesOf_29 : decode cX0_nodesOf 29 = .ok (.iconst 1, 1) := by decide +kernel
theorem dX0_nodesOf_30 : decode cX0_nodesOf 30 = .ok (.aload_n 0, 1) := by decide +kernel
theorem dX0_nodesOf_31 : decode cX0_nodesOf 31 = .ok (.getfield 25, 3) := by decide +kernel
theorem dX0_nodesOf_34 : decode cX0_nodesOf 34 = .ok (.iload_n 3, 1) := by decide +kernel
theorem dX0_nodesOf_35 : decode cX0_nodesOf 35 = .ok (.iaload, 1) := by decide +kernel
theorem dX0_nodesOf_36 : decode cX0_nodesOf 36 = .ok (.ishl, 1) := by decide +kernel
theorem dX0_nodesOf_37 : decode cX0_nodesOf 37 = .ok (.ior, 1) := by decide +kernel
theorem dX0_nodesOf_38 : decode cX0_nodesOf 38 = .ok (.ior, 1) := by decide +kernel
theorem dX0_nodesOf_39 : decode cX0_nodesOf 39 = .ok (.istore_n 2, 1) := by decide +kernel
theorem dX0_nodesOf_40 : decode cX0_nodesOf 40 = .ok (.iinc 3 1, 3) := by decide +kernel
theorem dX0_nodesOf_43 : decode cX0_nodesOf 43 = .ok (.goto (-39), 3) := by decide +kernel
theorem dX0_nodesOf_46 : decode cX0_nodesOf 46 = .ok (.iload_n 2, 1) := by decide +kernel
theorem dX0_nodesOf_47 : decode cX0_nodesOf 47 = .ok (.ireturn, 1) := by decide +kernel
theorem dX0_replace_0 : decode cX0_replace 0 = .ok (.aload_n 2, 1) := by decide +kernel
theorem dX0_replace_1 : decode cX0_replace 1 = .ok (.getfield 9, 3) := by decide +kernel
theorem dX0_replace_4 : decode cX0_replace 4 = .ok (.iconst 1, 1) := by decide +kernel
theorem dX0_replace_5 : decode cX0_replace 5 = .ok (.isub, 1) := by decide +kernel
theorem dX0_replace_6 : decode cX0_replace 6 = .ok (.istore_n 3, 1) := by decide +kernel
theorem dX0_replace_7 : decode cX0_replace 7 = .ok (.aload_n 0, 1) := by decide +kernel
theorem dX0_replace_8 : decode cX0_replace 8 = .ok (.iload_n 1, 1) := by decide +kernel
theorem dX0_replace_9 : decode cX0_replace 9 = .ok (.invokevirtual 40, 3) := by decide +kernel
theorem dX0_replace_12 : decode cX0_replace 12 = .ok (.ifCond .eq 17, 3) := by decide +kernel
theorem dX0_replace_15 : decode cX0_replace 15 = .ok (.aload_n 0, 1) := by decide +kernel
theorem dX0_replace_16 : decode cX0_replace 16 = .ok (.getfield 9, 3) := by decide +kernel
theorem dX0_replace_19 : decode cX0_replace 19 = .ok (.iload_n 3, 1) := by decide +kernel
theorem dX0_replace_20 : decode cX0_replace 20 = .ok (.iadd, 1) := by decide +kernel
theorem dX0_replace_21 : decode cX0_replace 21 = .ok (.aload_n 0, 1) := by decide +kernel
theorem dX0_replace_22 : decode cX0_replace 22 = .ok (.getfield 18, 3) := by decide +kernel
theorem dX0_replace_25 : decode cX0_replace 25 = .ok (.arraylength, 1) := by decide +kernel
theorem dX0_replace_26 : decode cX0_replace 26 = .ok (.if_icmp .le 4, 3) := by decide +kernel
theorem dX0_replace_30 : decode cX0_replace 30 = .ok (.aload_n 0, 1) := by decide +kernel
theorem dX0_replace_31 : decode cX0_replace 31 = .ok (.getfield 22, 3) := by decide +kernel
theorem dX0_replace_34 : decode cX0_replace 34 = .ok (.iload_n 1, 1) := by decide +kernel
theorem dX0_replace_35 : decode cX0_replace 35 = .ok (.iaload, 1) := by decide +kernel
theorem dX0_replace_36 : decode cX0_replace 36 = .ok (.istore 4, 2) := by decide +kernel
theorem dX0_replace_38 : decode cX0_replace 38 = .ok (.aload_n 0, 1) := by decide +kernel
theorem dX0_replace_39 : decode cX0_replace 39 = .ok (.getfield 25, 3) := by decide +kernel
theorem dX0_replace_42 : decode cX0_replace 42 = .ok (.iload_n 1, 1) := by decide +kernel
theorem dX0_replace_43 : decode cX0_replace 43 = .ok (.iaload, 1) := by decide +kernel
theorem dX0_replace_44 : decode cX0_replace 44 = .ok (.istore 5, 2) := by decide +kernel
theorem dX0_replace_46 : decode cX0_replace 46 = .ok (.aload_n 0, 1) := by decide +kernel
theorem dX0_replace_47 : decode cX0_replace 47 = .ok (.getfield 9, 3) := by decide +kernel
theorem dX0_replace_50 : decode cX0_replace 50 = .ok (.iconst 1, 1) := by decide +kernel
theorem dX0_replace_51 : decode cX0_replace 51 = .ok (.isub, 1) := by decide +kernel
theorem dX0_replace_52 : decode cX0_replace 52 = .ok (.istore 6, 2) := by decide +kernel
theorem dX0_replace_54 : decode cX0_replace 54 = .ok (.iload 6, 2) := by decide +kernel
theorem dX0_replace_56 : decode cX0_replace 56 = .ok (.iload_n 1, 1) := by decide +kernel
theorem dX0_replace_57 : decode cX0_replace 57 = .ok (.if_icmp .le 38, 3) := by decide +kernel
theorem dX0_replace_60 : decode cX0_replace 60 = .ok (.aload_n 0, 1) := by decide +kernel
theorem dX0_replace_61 : decode cX0_replace 61 = .ok (.iload 6, 2) := by decide +kernel
theorem dX0_replace_63 : decode cX0_replace 63 = .ok (.iload_n 3, 1) := by decide +kernel
theorem dX0_replace_64 : decode cX0_replace 64 = .ok (.iadd, 1) := by decide +kernel
theorem dX0_replace_65 : decode cX0_replace 65 = .ok (.aload_n 0, 1) := by decide +kernel
theorem dX0_replace_66 : decode cX0_replace 66 = .ok (.getfield 18, 3) := by decide +kernel
theorem dX0_replace_69 : decode cX0_replace 69 = .ok (.iload 6, 2) := by decide +kernel
theorem dX0_replace_71 : decode cX0_replace 71 = .ok (.iaload, 1) := by decide +kernel
theorem dX0_replace_72 : decode cX0_replace 72 = .ok (.aload_n 0, 1) := by decide +kernel
theorem dX0_replace_73 : decode cX0_replace 73 = .ok (.getfield 22, 3) := by decide +kernel
theorem dX0_replace_76 : decode cX0_replace 76 = .ok (.iload 6, 2) := by decide +kernel
theorem dX0_replace_78 : decode cX0_replace 78 = .ok (.iaload, 1) := by decide +kernel
theorem dX0_replace_79 : decode cX0_replace 79 = .ok (.aload_n 0, 1) := by decide +kernel
theorem dX0_replace_80 : decode cX0_replace 80 = .ok (.getfield 25, 3) := by decide +kernel
theorem dX0_replace_83 : decode cX0_replace 83 = .ok (.iload 6, 2) := by decide +kernel
theorem dX0_replace_85 : decode cX0_replace 85 = .ok (.iaload, 1) := by decide +kernel
theorem dX0_replace_86 : decode cX0_replace 86 = .ok (.invokevirtual 28, 3) := by decide +kernel
theorem dX0_replace_89 : decode cX0_replace 89 = .ok (.iinc 6 (-1), 3) := by decide +kernel
theorem dX0_replace_92 : decode cX0_replace 92 = .ok (.goto (-38), 3) := by decide +kernel
theorem dX0_replace_95 : decode cX0_replace 95 = .ok (.iconst 0, 1) := by decide +kernel
theorem dX0_replace_96 : decode cX0_replace 96 = .ok (.istore 6, 2) := by decide +kernel
theorem dX0_replace_98 : decode cX0_replace 98 = .ok (.iload 6, 2) := by decide +kernel
theorem dX0_replace_100 : decode cX0_replace 100 = .ok (.aload_n 2, 1) := by decide +kernel
theorem dX0_replace_101 : decode cX0_replace 101 = .ok (.getfield 9, 3) := by decide +kernel
theorem dX0_replace_104 : decode cX0_replace 104 = .ok (.if_icmp .ge 54, 3) := by decide +kernel
theorem dX0_replace_107 : decode cX0_replace 107 = .ok (.aload_n 0, 1) := by decide +kernel
theorem dX0_replace_108 : decode cX0_replace 108 = .ok (.iload_n 1, 1) := by decide +kernel
theorem dX0_replace_109 : decode cX0_replace 109 = .ok (.iload 6, 2) := by decide +kernel
theorem dX0_replace_111 : decode cX0_replace 111 = .ok (.iadd, 1) := by decide +kernel
theorem dX0_replace_112 : decode cX0_replace 112 = .ok (.aload_n 2, 1) := by decide +kernel
theorem dX0_replace_113 : decode cX0_replace 113 = .ok (.getfield 18, 3) := by decide +kernel
theorem dX0_replace_116 : decode cX0_replace 116 = .ok (.iload 6, 2) := by decide +kernel
theorem dX0_replace_118 : decode cX0_replace 118 = .ok (.iaload, 1) := by decide +kernel
theorem dX0_replace_119 : decode cX0_replace 119 = .ok (.aload_n 0, 1) := by decide +kernel
theorem dX0_replace_120 : decode cX0_replace 120 = .ok (.aload_n 2, 1) := by decide +kernel
theorem dX0_replace_121 : decode cX0_replace 121 = .ok (.getfield 22, 3) := by decide +kernel
theorem dX0_replace_124 : decode cX0_replace 124 = .ok (.iload 6, 2) := by decide +kernel
theorem dX0_replace_126 : decode cX0_replace 126 = .ok (.iaload, 1) := by decide +kernel
theorem dX0_replace_127 : decode cX0_replace 127 = .ok (.iload 4, 2) := by decide +kernel
theorem dX0_replace_129 : decode cX0_replace 129 = .ok (.iload 5, 2) := by decide +kernel
theorem dX0_replace_131 : decode cX0_replace 131 = .ok (.invokevirtual 43, 3) := by decide +kernel
theorem dX0_replace_134 : decode cX0_replace 134 = .ok (.aload_n 0, 1) := by decide +kernel
theorem dX0_replace_135 : decode cX0_replace 135 = .ok (.aload_n 2, 1) := by decide +kernel
theorem dX0_replace_136 : decode cX0_replace 136 = .ok (.getfield 25, 3) := by decide +kernel
theorem dX0_replace_139 : decode cX0_replace 139 = .ok (.iload 6, 2) := by decide +kernel
theorem dX0_replace_141 : decode cX0_replace 141 = .ok (.iaload, 1) := by decide +kernel
theorem dX0_replace_142 : decode cX0_replace 142 = .ok (.iload 4, 2) := by decide +kernel
theorem dX0_replace_144 : decode cX0_replace 144 = .ok (.iload 5, 2) := by decide +kernel
theorem dX0_replace_146 : decode cX0_replace 146 = .ok (.invokevirtual 43, 3) := by decide +kernel
theorem dX0_replace_149 : decode cX0_replace 149 = .ok (.invokevirtual 28, 3) := by decide +kernel
theorem dX0_replace_152 : decode cX0_replace 152 = .ok (.iinc 6 1, 3) := by decide +kernel
theorem dX0_replace_155 : decode cX0_replace 155 = .ok (.goto (-57), 3) := by decide +kernel
theorem dX0_replace_158 : decode cX0_replace 158 = .ok (.aload_n 0, 1) := by decide +kernel
theorem dX0_replace_159 : decode cX0_replace 159 = .ok (.dup, 1) := by decide +kernel
theorem dX0_replace_160 : decode cX0_replace 160 = .ok (.getfield 9, 3) := by decide +kernel
theorem dX0_replace_163 : decode cX0_replace 163 = .ok (.iload_n 3, 1) := by decide +kernel
theorem dX0_replace_164 : decode cX0_replace 164 = .ok (.iadd, 1) := by decide +kernel
theorem dX0_replace_165 : decode cX0_replace 165 = .ok (.putfield 9, 3) := by decide +kernel
theorem dX0_replace_168 : decode cX0_replace 168 = .ok (.aload_n 0, 1) := by decide +kernel
theorem dX0_replace_169 : decode cX0_replace 169 = .ok (.dup, 1) := by decide +kernel
theorem dX0_replace_170 : decode cX0_replace 170 = .ok (.getfield 15, 3) := by decide +kernel
theorem dX0_replace_173 : decode cX0_replace 173 = .ok (.aload_n 2, 1) := by decide +kernel
theorem dX0_replace_174 : decode cX0_replace 174 = .ok (.getfield 15, 3) := by decide +kernel
theorem dX0_replace_177 : decode cX0_replace 177 = .ok (.iconst 2, 1) := by decide +kernel
theorem dX0_replace_178 : decode cX0_replace 178 = .ok (.isub, 1) := by decide +kernel
theorem dX0_replace_179 : decode cX0_replace 179 = .ok (.iadd, 1) := by decide +kernel
theorem dX0_replace_180 : decode cX0_replace 180 = .ok (.putfield 15, 3) := by decide +kernel
theorem dX0_replace_183 : decode cX0_replace 183 = .ok (.return_, 1) := by decide +kernel
theorem dX3_copyEdges_0 : decode cX3_copyEdges 0 = .ok (.iconst 2, 1) := by decide +kernel
theorem dX3_copyEdges_1 : decode cX3_copyEdges 1 = .ok (.istore_n 3, 1) := by decide +kernel
theorem dX3_copyEdges_2 : decode cX3_copyEdges 2 = .ok (.iconst 2, 1) := by decide +kernel
theorem dX3_copyEdges_3 : decode cX3_copyEdges 3 = .ok (.istore 4, 2) := by decide +kernel
theorem dX3_copyEdges_5 : decode cX3_copyEdges 5 = .ok (.iload 4, 2) := by decide +kernel
theorem dX3_copyEdges_7 : decode cX3_copyEdges 7 = .ok (.iconst 5, 1) := by decide +kernel
theorem dX3_copyEdges_8 : decode cX3_copyEdges 8 = .ok (.if_icmp .ge 26, 3) := by decide +kernel
theorem dX3_copyEdges_11 : decode cX3_copyEdges 11 = .ok (.iload_n 3, 1) := by decide +kernel
theorem dX3_copyEdges_12 : decode cX3_copyEdges 12 = .ok (.aload_n 0, 1) := by decide +kernel
theorem dX3_copyEdges_13 : decode cX3_copyEdges 13 = .ok (.iload 4, 2) := by decide +kernel
theorem dX3_copyEdges_15 : decode cX3_copyEdges 15 = .ok (.invokevirtual 41, 3) := by decide +kernel
theorem dX3_copyEdges_18 : decode cX3_copyEdges 18 = .ok (.ifCond .eq 7, 3) := by decide +kernel
theorem dX3_copyEdges_21 : decode cX3_copyEdges 21 = .ok (.iconst 1, 1) := by decide +kernel
theorem dX3_copyEdges_22 : decode cX3_copyEdges 22 = .ok (.goto 4, 3) := by decide +kernel
theorem dX3_copyEdges_25 : decode cX3_copyEdges 25 = .ok (.iconst 0, 1) := by decide +kernel
theorem dX3_copyEdges_26 : decode cX3_copyEdges 26 = .ok (.iadd, 1) := by decide +kernel
theorem dX3_copyEdges_27 : decode cX3_copyEdges 27 = .ok (.istore_n 3, 1) := by decide +kernel
theorem dX3_copyEdges_28 : decode cX3_copyEdges 28 = .ok (.iinc 4 1, 3) := by decide +kernel
theorem dX3_copyEdges_31 : decode cX3_copyEdges 31 = .ok (.goto (-26), 3) := by decide +kernel
theorem dX3_copyEdges_34 : decode cX3_copyEdges 34 = .ok (.aload_n 1, 1) := by decide +kernel
theorem dX3_copyEdges_35 : decode cX3_copyEdges 35 = .ok (.iload_n 3, 1) := by decide +kernel
theorem dX3_copyEdges_36 : decode cX3_copyEdges 36 = .ok (.invokevirtual 58, 3) := by decide +kernel
theorem dX3_copyEdges_39 : decode cX3_copyEdges 39 = .ok (.iload_n 2, 1) := by decide +kernel
theorem dX3_copyEdges_40 : decode cX3_copyEdges 40 = .ok (.istore 4, 2) := by decide +kernel
theorem dX3_copyEdges_42 : decode cX3_copyEdges 42 = .ok (.iload 4, 2) := by decide +kernel
theorem dX3_copyEdges_44 : decode cX3_copyEdges 44 = .ok (.iconst 2, 1) := by decide +kernel
theorem dX3_copyEdges_45 : decode cX3_copyEdges 45 = .ok (.iadd, 1) := by decide +kernel
theorem dX3_copyEdges_46 : decode cX3_copyEdges 46 = .ok (.aload_n 0, 1) := by decide +kernel
theorem dX3_copyEdges_47 : decode cX3_copyEdges 47 = .ok (.getfield 15, 3) := by decide +kernel
theorem dX3_copyEdges_50 : decode cX3_copyEdges 50 = .ok (.if_icmp .ge 47, 3) := by decide +kernel
theorem dX3_copyEdges_53 : decode cX3_copyEdges 53 = .ok (.aload_n 1, 1) := by decide +kernel
theorem dX3_copyEdges_54 : decode cX3_copyEdges 54 = .ok (.aload_n 0, 1) := by decide +kernel
theorem dX3_copyEdges_55 : decode cX3_copyEdges 55 = .ok (.getfield 9, 3) := by decide +kernel
theorem dX3_copyEdges_58 : decode cX3_copyEdges 58 = .ok (.iload 4, 2) := by decide +kernel
theorem dX3_copyEdges_60 : decode cX3_copyEdges 60 = .ok (.iaload, 1) := by decide +kernel
theorem dX3_copyEdges_61 : decode cX3_copyEdges 61 = .ok (.invokestatic 27, 3) := by decide +kernel
theorem dX3_copyEdges_64 : decode cX3_copyEdges 64 = .ok (.aload_n 0, 1) := by decide +kernel
theorem dX3_copyEdges_65 : decode cX3_copyEdges 65 = .ok (.getfield 9, 3) := by decide +kernel
theorem dX3_copyEdges_68 : decode cX3_copyEdges 68 = .ok (.iload 4, 2) := by decide +kernel
theorem dX3_copyEdges_70 : decode cX3_copyEdges 70 = .ok (.iconst 1, 1) := by decide +kernel
theorem dX3_copyEdges_71 : decode cX3_copyEdges 71 = .ok (.iadd, 1) := by decide +kernel
theorem dX3_copyEdges_72 : decode cX3_copyEdges 72 = .ok (.iaload, 1) := by decide +kernel
theorem dX3_copyEdges_73 : decode cX3_copyEdges 73 = .ok (.bipush 48, 2) := by decide +kernel
theorem dX3_copyEdges_75 : decode cX3_copyEdges 75 = .ok (.isub, 1) := by decide +kernel
theorem dX3_copyEdges_76 : decode cX3_copyEdges 76 = .ok (.aload_n 0, 1) := by decide +kernel
theorem dX3_copyEdges_77 : decode cX3_copyEdges 77 = .ok (.getfield 9, 3) := by decide +kernel
theorem dX3_copyEdges_80 : decode cX3_copyEdges 80 = .ok (.iload 4, 2) := by decide +kernel
theorem dX3_copyEdges_82 : decode cX3_copyEdges 82 = .ok (.iconst 2, 1) := by decide +kernel
theorem dX3_copyEdges_83 : decode cX3_copyEdges 83 = .ok (.iadd, 1) := by decide +kernel
theorem dX3_copyEdges_84 : decode cX3_copyEdges 84 = .ok (.iaload, 1) := by decide +kernel
theorem dX3_copyEdges_85 : decode cX3_copyEdges 85 = .ok (.bipush 48, 2) := by decide +kernel
theorem dX3_copyEdges_87 : decode cX3_copyEdges 87 = .ok (.isub, 1) := by decide +kernel
theorem dX3_copyEdges_88 : decode cX3_copyEdges 88 = .ok (.invokevirtual 64, 3) := by decide +kernel
theorem dX3_copyEdges_91 : decode cX3_copyEdges 91 = .ok (.iinc 4 3, 3) := by decide +kernel
theorem dX3_copyEdges_94 : decode cX3_copyEdges 94 = .ok (.goto (-52), 3) := by decide +kernel
theorem dX3_copyEdges_97 : decode cX3_copyEdges 97 = .ok (.return_, 1) := by decide +kernel
theorem dX3_copyGraph_0 : decode cX3_copyGraph 0 = .ok (.aload_n 0, 1) := by decide +kernel
theorem dX3_copyGraph_1 : decode cX3_copyGraph 1 = .ok (.aload_n 1, 1) := by decide +kernel
theorem dX3_copyGraph_2 : decode cX3_copyGraph 2 = .ok (.iconst 0, 1) := by decide +kernel
theorem dX3_copyGraph_3 : decode cX3_copyGraph 3 = .ok (.invokevirtual 54, 3) := by decide +kernel
theorem dX3_copyGraph_6 : decode cX3_copyGraph 6 = .ok (.return_, 1) := by decide +kernel
theorem dX3_copyRule_0 : decode cX3_copyRule 0 = .ok (.aload_n 0, 1) := by decide +kernel
theorem dX3_copyRule_1 : decode cX3_copyRule 1 = .ok (.aload_n 1, 1) := by decide +kernel
theorem dX3_copyRule_2 : decode cX3_copyRule 2 = .ok (.iconst 2, 1) := by decide +kernel
theorem dX3_copyRule_3 : decode cX3_copyRule 3 = .ok (.invokevirtual 54, 3) := by decide +kernel
theorem dX3_copyRule_6 : decode cX3_copyRule 6 = .ok (.return_, 1) := by decide +kernel
theorem dX4_kindFrom_0 : decode cX4_kindFrom 0 = .ok (.iload_n 1, 1) := by decide +kernel
theorem dX4_kindFrom_1 : decode cX4_kindFrom 1 = .ok (.iconst 3, 1) := by decide +kernel
theorem dX4_kindFrom_2 : decode cX4_kindFrom 2 = .ok (.iand, 1) := by decide +kernel
theorem dX4_kindFrom_3 : decode cX4_kindFrom 3 = .ok (.iload_n 2, 1) := by decide +kernel
theorem dX4_kindFrom_4 : decode cX4_kindFrom 4 = .ok (.iconst 3, 1) := by decide +kernel
theorem dX4_kindFrom_5 : decode cX4_kindFrom 5 = .ok (.iand, 1) := by decide +kernel
theorem dX4_kindFrom_6 : decode cX4_kindFrom 6 = .ok (.iconst 2, 1) := by decide +kernel
theorem dX4_kindFrom_7 : decode cX4_kindFrom 7 = .ok (.ishl, 1) := by decide +kernel
theorem dX4_kindFrom_8 : decode cX4_kindFrom 8 = .ok (.ior, 1) := by decide +kernel
theorem dX4_kindFrom_9 : decode cX4_kindFrom 9 = .ok (.iload_n 3, 1) := by decide +kernel
theorem dX4_kindFrom_10 : decode cX4_kindFrom 10 = .ok (.iconst 3, 1) := by decide +kernel
theorem dX4_kindFrom_11 : decode cX4_kindFrom 11 = .ok (.iand, 1) := by decide +kernel
theorem dX4_kindFrom_12 : decode cX4_kindFrom 12 = .ok (.iconst 4, 1) := by decide +kernel
theorem dX4_kindFrom_13 : decode cX4_kindFrom 13 = .ok (.ishl, 1) := by decide +kernel
theorem dX4_kindFrom_14 : decode cX4_kindFrom 14 = .ok (.ior, 1) := by decide +kernel
theorem dX4_kindFrom_15 : decode cX4_kindFrom 15 = .ok (.istore 4, 2) := by decide +kernel
theorem dX4_kindFrom_17 : decode cX4_kindFrom 17 = .ok (.iload_n 1, 1) := by decide +kernel
theorem dX4_kindFrom_18 : decode cX4_kindFrom 18 = .ok (.iconst 2, 1) := by decide +kernel
theorem dX4_kindFrom_19 : decode cX4_kindFrom 19 = .ok (.ishr, 1) := by decide +kernel
theorem dX4_kindFrom_20 : decode cX4_kindFrom 20 = .ok (.iconst 3, 1) := by decide +kernel
theorem dX4_kindFrom_21 : decode cX4_kindFrom 21 = .ok (.iand, 1) := by decide +kernel
theorem dX4_kindFrom_22 : decode cX4_kindFrom 22 = .ok (.iload_n 2, 1) := by decide +kernel
theorem dX4_kindFrom_23 : decode cX4_kindFrom 23 = .ok (.iconst 2, 1) := by decide +kernel
theorem dX4_kindFrom_24 : decode cX4_kindFrom 24 = .ok (.ishr, 1) := by decide +kernel
theorem dX4_kindFrom_25 : decode cX4_kindFrom 25 = .ok (.iconst 3, 1) := by decide +kernel
theorem dX4_kindFrom_26 : decode cX4_kindFrom 26 = .ok (.iand, 1) := by decide +kernel
theorem dX4_kindFrom_27 : decode cX4_kindFrom 27 = .ok (.iconst 2, 1) := by decide +kernel
theorem dX4_kindFrom_28 : decode cX4_kindFrom 28 = .ok (.ishl, 1) := by decide +kernel
theorem dX4_kindFrom_29 : decode cX4_kindFrom 29 = .ok (.ior, 1) := by decide +kernel
theorem dX4_kindFrom_30 : decode cX4_kindFrom 30 = .ok (.iload_n 3, 1) := by decide +kernel
theorem dX4_kindFrom_31 : decode cX4_kindFrom 31 = .ok (.iconst 2, 1) := by decide +kernel
theorem dX4_kindFrom_32 : decode cX4_kindFrom 32 = .ok (.ishr, 1) := by decide +kernel
theorem dX4_kindFrom_33 : decode cX4_kindFrom 33 = .ok (.iconst 3, 1) := by decide +kernel
theorem dX4_kindFrom_34 : decode cX4_kindFrom 34 = .ok (.iand, 1) := by decide +kernel
theorem dX4_kindFrom_35 : decode cX4_kindFrom 35 = .ok (.iconst 4, 1) := by decide +kernel
theorem dX4_kindFrom_36 : decode cX4_kindFrom 36 = .ok (.ishl, 1) := by decide +kernel
theorem dX4_kindFrom_37 : decode cX4_kindFrom 37 = .ok (.ior, 1) := by decide +kernel
theorem dX4_kindFrom_38 : decode cX4_kindFrom 38 = .ok (.istore 5, 2) := by decide +kernel
theorem dX4_kindFrom_40 : decode cX4_kindFrom 40 = .ok (.aload_n 0, 1) := by decide +kernel
theorem dX4_kindFrom_41 : decode cX4_kindFrom 41 = .ok (.getfield 28, 3) := by decide +kernel
theorem dX4_kindFrom_44 : decode cX4_kindFrom 44 = .ok (.iload 4, 2) := by decide +kernel
theorem dX4_kindFrom_46 : decode cX4_kindFrom 46 = .ok (.iaload, 1) := by decide +kernel
theorem dX4_kindFrom_47 : decode cX4_kindFrom 47 = .ok (.aload_n 0, 1) := by decide +kernel
theorem dX4_kindFrom_48 : decode cX4_kindFrom 48 = .ok (.getfield 31, 3) := by decide +kernel
theorem dX4_kindFrom_51 : decode cX4_kindFrom 51 = .ok (.iload 5, 2) := by decide +kernel
theorem dX4_kindFrom_53 : decode cX4_kindFrom 53 = .ok (.iaload, 1) := by decide +kernel
theorem dX4_kindFrom_54 : decode cX4_kindFrom 54 = .ok (.iconst 2, 1) := by decide +kernel
theorem dX4_kindFrom_55 : decode cX4_kindFrom 55 = .ok (.ishl, 1) := by decide +kernel
theorem dX4_kindFrom_56 : decode cX4_kindFrom 56 = .ok (.ior, 1) := by decide +kernel
theorem dX4_kindFrom_57 : decode cX4_kindFrom 57 = .ok (.ireturn, 1) := by decide +kernel
section
variable (l : Launch) (D : va_G) (cI cJ cZ cR : ClassId)
set_option maxHeartbeats 4000000 in
set_option maxRecDepth 100000 in
theorem c_X0_nodeFor (sz : Nat) (h0 : Nat) (a1 : Nat) (a2 : Nat) (a3 : Nat) (n9 : Nat) (v : Nat) (p1 : Int32) (p2 : Int32) (p3 : Int32)  : CTi l D cI cJ cZ cR yX0_nodeFor cX0_nodeFor 4 (some .int) 0 0 0 0 sz [.ref h0, .int p1, .int p2, .int p3] [kX0 h0 a1 a2 a3 (nI n9) (nI v)] (fun (r : Int32) (u : Unit) => (r = (nC v p1 p2 p3))) (fun (u : Unit) => [kX0 h0 a1 a2 a3 (nI n9) (nI v)]) := by
  refine CTi.of (ty := .int) (by decide) (Nat.le_of_ble_eq_true rfl) rfl ?_
  intro p e s m below meth c A Q ls hd hin hK hsz hP hD hA hS hl hret
  obtain ⟨hx, hb, hml, hown, hts⟩ := id hd
  have hK1 := hK.1
  have hown : s.vm.findClass RX0 = some m.cls := hown
  have hl : lv_has ls 4 [(0, .ref h0), (1, .int p1), (2, .int p2), (3, .int p3)] := hl
  refine lv_iload_n hx hb dX0_nodeFor_0 rfl (lv_at hl 1 rfl) ?_
  refine lv_if_ne (tgt := 6) hx hb dX0_nodeFor_1 (by decide) (fun c_1 => ?_) (fun c_1 => ?_)
  · skip
    refine lv_iload_n hx hb dX0_nodeFor_6 rfl (lv_at hl 1 rfl) ?_
    refine lv_iconst (v := 1) hx hb dX0_nodeFor_7 (by decide) ?_
    refine lv_icmp_ne (tgt := 15) hx hb dX0_nodeFor_8 (by decide) (fun c_2 => ?_) (fun c_2 => ?_)
    · skip
      refine lv_aload_n hx hb dX0_nodeFor_15 rfl (lv_at hl 0 rfl) ?_
      refine va_get (D := D) (ci := 0) (v := .int (nI v)) (C := RX0) (T := TX0) (N := 5) hx hb hts iT_X0 hown hK1 hP 0 rfl rfl 4 (by decide) (hts _ t_65) (fun _ h9 => h9) rfl dX0_nodeFor_16 ?_
      refine lv_iload_n hx hb dX0_nodeFor_19 rfl (lv_at hl 1 rfl) ?_
      refine lv_iadd hx hb dX0_nodeFor_20 ?_
      refine lv_iconst (v := 2) hx hb dX0_nodeFor_21 (by decide) ?_
      refine lv_isub hx hb dX0_nodeFor_22 ?_
      exact hret _ _ _ _ _ _ (((nI v) + p1) - 2) () dX0_nodeFor_23 rfl hS (Nat.le_of_ble_eq_true rfl) (Nat.le_of_ble_eq_true rfl) (by simp [nC, c_1, c_2]) (hP.sub [0] rfl) (hD.sub [0] rfl rfl)
    · skip
      refine lv_iload_n hx hb dX0_nodeFor_11 rfl (lv_at hl 3 rfl) ?_
      refine lv_goto (tgt := 23) hx hb dX0_nodeFor_12 (by decide) ?_
      exact hret _ _ _ _ _ _ p3 () dX0_nodeFor_23 rfl hS (Nat.le_of_ble_eq_true rfl) (Nat.le_of_ble_eq_true rfl) (by simp [nC, c_1, c_2]) (hP.sub [0] rfl) (hD.sub [0] rfl rfl)
  · skip
    refine lv_iload_n hx hb dX0_nodeFor_4 rfl (lv_at hl 2 rfl) ?_
    exact hret _ _ _ _ _ _ p2 () dX0_nodeFor_5 rfl hS (Nat.le_of_ble_eq_true rfl) (Nat.le_of_ble_eq_true rfl) (by simp [nC, c_1]) (hP.sub [0] rfl) (hD.sub [0] rfl rfl)
set_option maxHeartbeats 4000000 in
set_option maxRecDepth 100000 in
theorem c_X0_nodesOf (sz : Nat) (h0 : Nat) (a1 : Nat) (a2 : Nat) (a3 : Nat) (M : Nat) (n9 : Nat) (v : Nat) (p1 : Int32) (x1 : Nat → Int32) (x2 : Nat → Int32) (x3 : Nat → Int32) (bb : Nat → Bool) (hM : M ≤ 12) (hn : n9 ≤ M) (hn5 : n9 ≤ 5) (hv5 : v ≤ 5) (hG : GI n9 v x1 x2 x3) (hbb : ∀ i, i < 5 → ((p1 >>> (nI i &&& 31)) &&& 1 = 0 ↔ bb i = false)) : CTi l D cI cJ cZ cR yX0_nodesOf cX0_nodesOf 4 (some .int) 0 0 0 0 sz [.ref h0, .int p1] [kX0 h0 a1 a2 a3 (nI n9) (nI v), kI cI a1 M x1, kI cI a2 M x2, kI cI a3 M x3] (fun (r : Int32) (u : Unit) => (r = (nI (NDm x2 x3 bb n9)))) (fun (u : Unit) => [kX0 h0 a1 a2 a3 (nI n9) (nI v), kI cI a1 M x1, kI cI a2 M x2, kI cI a3 M x3]) := by
  refine CTi.of (ty := .int) (by decide) (Nat.le_of_ble_eq_true rfl) rfl ?_
  intro p e s m below meth c A Q ls hd hin hK hsz hP hD hA hS hl hret
  obtain ⟨hx, hb, hml, hown, hts⟩ := id hd
  have hK1 := hK.1
  have hown : s.vm.findClass RX0 = some m.cls := hown
  have hl : lv_has ls 4 [(0, .ref h0), (1, .int p1)] := hl
  refine lv_iconst (v := 0) hx hb dX0_nodesOf_0 (by decide) ?_
  refine lv_istore_n (lv' := [(2, .int 0), (0, .ref h0), (1, .int p1)]) hx hb dX0_nodesOf_1 rfl hl (by decide) rfl (fun ls hl => ?_)
  refine lv_iconst (v := 0) hx hb dX0_nodesOf_2 (by decide) ?_
  refine lv_istore_n (lv' := [(3, .int 0), (2, .int 0), (0, .ref h0), (1, .int p1)]) hx hb dX0_nodesOf_3 rfl hl (by decide) rfl (fun ls hl => ?_)
  have LOOP_4 : ∀ (n : Nat) (i : Nat) (fo : Int32), (i + n = n9) → (fo = nI (NDm x2 x3 bb i)) → ∀ (H : Heap) (locs : List Loc) (ls : Array Slot), va_P D vwCl [kX0 h0 a1 a2 a3 (nI n9) (nI v), kI cI a1 M x1, kI cI a2 M x2, kI cI a3 M x3] H → va_D A [kX0 h0 a1 a2 a3 (nI n9) (nI v), kI cI a1 M x1, kI cI a2 M x2, kI cI a3 M x3] → va_S A s.heap H locs → lv_has ls 4 [(0, .ref h0), (1, .int p1), (2, .int fo), (3, .int (nI i))] → W p l e (rM 0 0 0 0) s m ([.ref h0, .int p1] : List Value).toArray below meth c H locs 0 0 Q (F0 m 4 ls []) := by
    intro n
    induction n with
    | zero =>
      intro i fo hi hfo H locs ls hP hD hS hl
      refine lv_iload_n hx hb dX0_nodesOf_4 rfl (lv_at hl 3 rfl) ?_
      refine lv_aload_n hx hb dX0_nodesOf_5 rfl (lv_at hl 0 rfl) ?_
      refine va_get (D := D) (ci := 0) (v := .int (nI n9)) (C := RX0) (T := TX0) (N := 5) hx hb hts iT_X0 hown hK1 hP 0 rfl rfl 3 (by decide) (hts _ t_62) (fun _ h9 => h9) rfl dX0_nodesOf_6 ?_
      refine lv_icmp_ge (tgt := 46) hx hb dX0_nodesOf_9 (by decide) (fun c_1 => ?_) (fun c_1 => ?_)
      rotate_left
      · exact absurd (nI_le (a := n9) (b := i) (by omega) (by omega)) c_1
      refine lv_iload_n hx hb dX0_nodesOf_46 rfl (lv_at hl 2 rfl) ?_
      exact hret _ _ _ _ _ _ fo () dX0_nodesOf_47 rfl hS (Nat.le_of_ble_eq_true rfl) (Nat.le_of_ble_eq_true rfl) (by rw [show n9 = i by omega]; exact hfo) (hP.sub [0, 1, 2, 3] rfl) (hD.sub [0, 1, 2, 3] rfl rfl)
    | succ n ih_4 =>
      intro i fo hi hfo H locs ls hP hD hS hl
      refine lv_iload_n hx hb dX0_nodesOf_4 rfl (lv_at hl 3 rfl) ?_
      refine lv_aload_n hx hb dX0_nodesOf_5 rfl (lv_at hl 0 rfl) ?_
      refine va_get (D := D) (ci := 0) (v := .int (nI n9)) (C := RX0) (T := TX0) (N := 5) hx hb hts iT_X0 hown hK1 hP 0 rfl rfl 3 (by decide) (hts _ t_62) (fun _ h9 => h9) rfl dX0_nodesOf_6 ?_
      refine lv_icmp_ge (tgt := 46) hx hb dX0_nodesOf_9 (by decide) (fun c_2 => ?_) (fun c_2 => ?_)
      · exact absurd c_2 (nI_ge (a := i) (b := n9) (by omega) (by omega))
      refine lv_iload_n hx hb dX0_nodesOf_12 rfl (lv_at hl 1 rfl) ?_
      refine lv_iload_n hx hb dX0_nodesOf_13 rfl (lv_at hl 3 rfl) ?_
      refine lv_ishr hx hb dX0_nodesOf_14 ?_
      refine lv_iconst (v := 1) hx hb dX0_nodesOf_15 (by decide) ?_
      refine lv_iand hx hb dX0_nodesOf_16 ?_
      refine lv_if_eq (tgt := 40) hx hb dX0_nodesOf_17 (by decide) (fun c_3 => ?_) (fun c_3 => ?_)
      · skip
        refine lv_iinc (v := nI (i + 1)) (lv' := [(3, .int (nI (i + 1))), (0, .ref h0), (1, .int p1), (2, .int fo)]) hx hb dX0_nodesOf_40 hl (k := 3) rfl (nI_1 i) (by decide) rfl (fun ls hl => ?_)
        refine lv_goto (tgt := 4) hx hb dX0_nodesOf_43 (by decide) ?_
        exact ih_4 (i + 1) fo (by omega) (nd_nn (hbb i (by omega)) c_3 hfo) _ _ _ (hP.sub [0, 1, 2, 3] rfl) (hD.sub [0, 1, 2, 3] rfl rfl) hS (lv_sub hl [1, 2, 3, 0] rfl)
      · skip
        refine lv_iload_n hx hb dX0_nodesOf_20 rfl (lv_at hl 2 rfl) ?_
        refine lv_iconst (v := 1) hx hb dX0_nodesOf_21 (by decide) ?_
        refine lv_aload_n hx hb dX0_nodesOf_22 rfl (lv_at hl 0 rfl) ?_
        refine va_get (D := D) (ci := 0) (v := .ref a2) (C := RX0) (T := TX0) (N := 5) hx hb hts iT_X0 hown hK1 hP 0 rfl rfl 1 (by decide) (hts _ t_58) (fun _ h9 => h9) rfl dX0_nodesOf_23 ?_
        refine lv_iload_n hx hb dX0_nodesOf_26 rfl (lv_at hl 3 rfl) ?_
        refine va_iald hx hb hK1 hP 2 0 rfl rfl (vp_in_nI (by omega) (by omega)) dX0_nodesOf_27 ?_
        refine lv_nmi (show _ = x2 i from by rw [nI_clamp (n := i) (by omega)]) ?_
        refine lv_ishl hx hb dX0_nodesOf_28 ?_
        refine lv_iconst (v := 1) hx hb dX0_nodesOf_29 (by decide) ?_
        refine lv_aload_n hx hb dX0_nodesOf_30 rfl (lv_at hl 0 rfl) ?_
        refine va_get (D := D) (ci := 0) (v := .ref a3) (C := RX0) (T := TX0) (N := 5) hx hb hts iT_X0 hown hK1 hP 0 rfl rfl 2 (by decide) (hts _ t_60) (fun _ h9 => h9) rfl dX0_nodesOf_31 ?_
        refine lv_iload_n hx hb dX0_nodesOf_34 rfl (lv_at hl 3 rfl) ?_
        refine va_iald hx hb hK1 hP 3 0 rfl rfl (vp_in_nI (by omega) (by omega)) dX0_nodesOf_35 ?_
        refine lv_nmi (show _ = x3 i from by rw [nI_clamp (n := i) (by omega)]) ?_
        refine lv_ishl hx hb dX0_nodesOf_36 ?_
        refine lv_ior hx hb dX0_nodesOf_37 ?_
        refine lv_ior hx hb dX0_nodesOf_38 ?_
        refine lv_istore_n (lv' := [(2, .int (fo ||| (((1 : Int32) <<< ((x2 i) &&& 31)) ||| ((1 : Int32) <<< ((x3 i) &&& 31))))), (0, .ref h0), (1, .int p1), (3, .int (nI i))]) hx hb dX0_nodesOf_39 rfl hl (by decide) rfl (fun ls hl => ?_)
        refine lv_iinc (v := nI (i + 1)) (lv' := [(3, .int (nI (i + 1))), (2, .int (fo ||| (((1 : Int32) <<< ((x2 i) &&& 31)) ||| ((1 : Int32) <<< ((x3 i) &&& 31))))), (0, .ref h0), (1, .int p1)]) hx hb dX0_nodesOf_40 hl (k := 3) rfl (nI_1 i) (by decide) rfl (fun ls hl => ?_)
        refine lv_goto (tgt := 4) hx hb dX0_nodesOf_43 (by decide) ?_
        exact ih_4 (i + 1) (fo ||| (((1 : Int32) <<< ((x2 i) &&& 31)) ||| ((1 : Int32) <<< ((x3 i) &&& 31)))) (by omega) (nd_yy hG hv5 (by omega) (hbb i (by omega)) c_3 hfo) _ _ _ (hP.sub [0, 1, 2, 3] rfl) (hD.sub [0, 1, 2, 3] rfl rfl) hS (lv_sub hl [2, 3, 1, 0] rfl)
  exact LOOP_4 n9 0 0 (by omega) rfl _ _ _ (hP.sub [0, 1, 2, 3] rfl) (hD.sub [0, 1, 2, 3] rfl rfl) hS (lv_sub hl [2, 3, 1, 0] rfl)
set_option maxHeartbeats 4000000 in
set_option maxRecDepth 100000 in
theorem c_X0_isPart (sz : Nat) (h0 : Nat) (a1 : Nat) (a2 : Nat) (a3 : Nat) (M : Nat) (n9 : Nat) (v : Nat) (b : Nat) (sx : Nat) (tx : Nat) (x1 : Nat → Int32) (x2 : Nat → Int32) (x3 : Nat → Int32) (hM : M ≤ 12) (hn : n9 ≤ M) (hn5 : n9 ≤ 5) (hv5 : v ≤ 5) (hG : GI n9 v x1 x2 x3) (hb32 : b < 32) (hs5 : sx < 5) (ht5 : tx < 5) : CTi l D cI cJ cZ cR yX0_isPart cX0_isPart 7 (some .boolean) 1 23 0 0 sz [.ref h0, .int (nI b), .int (nI sx), .int (nI tx)] [kX0 h0 a1 a2 a3 (nI n9) (nI v), kI cI a1 M x1, kI cI a2 M x2, kI cI a3 M x3] (fun (r : Int32) (u : Unit) => (YN r (zP (gC n9 v x1 x2 x3) b sx tx))) (fun (u : Unit) => [kX0 h0 a1 a2 a3 (nI n9) (nI v), kI cI a1 M x1, kI cI a2 M x2, kI cI a3 M x3]) := by
  refine CTi.of (ty := .boolean) (by decide) (Nat.le_of_ble_eq_true rfl) rfl ?_
  intro p e s m below meth c A Q ls hd hin hK hsz hP hD hA hS hl hret
  obtain ⟨hx, hb, hml, hown, hts⟩ := id hd
  have hK1 := hK.1
  have hown : s.vm.findClass RX0 = some m.cls := hown
  have hl : lv_has ls 7 [(0, .ref h0), (1, .int (nI b)), (2, .int (nI sx)), (3, .int (nI tx))] := hl
  refine lv_iconst (v := 1) hx hb dX0_isPart_0 (by decide) ?_
  refine lv_iload_n hx hb dX0_isPart_1 rfl (lv_at hl 2 rfl) ?_
  refine lv_ishl hx hb dX0_isPart_2 ?_
  refine lv_iconst (v := 1) hx hb dX0_isPart_3 (by decide) ?_
  refine lv_iload_n hx hb dX0_isPart_4 rfl (lv_at hl 3 rfl) ?_
  refine lv_ishl hx hb dX0_isPart_5 ?_
  refine lv_ior hx hb dX0_isPart_6 ?_
  refine lv_nmi (show _ = (nI (2 ^ sx ||| 2 ^ tx) : Int32) from (np_pair hs5 ht5).1) ?_
  refine lv_istore (lv' := [(4, .int (nI (2 ^ sx ||| 2 ^ tx))), (0, .ref h0), (1, .int (nI b)), (2, .int (nI sx)), (3, .int (nI tx))]) hx hb dX0_isPart_7 hl (by decide) rfl (fun ls hl => ?_)
  refine lv_aload_n hx hb dX0_isPart_9 rfl (lv_at hl 1 rfl) ?_
  refine lv_iload_n hx hb dX0_isPart_10 rfl (lv_at hl 2 rfl) ?_
  refine xc_i (wc := [kX0 h0 a1 a2 a3 (nI n9) (nI v), kI cI a1 M x1, kI cI a2 M x2, kI cI a3 M x3]) (wr := []) (xrV (n := 1) (As := [.int (nI b)]) (rest := []) (ci := 0) (q0 := 0) hd hK hP hD (c_X0_nodesOf l D cI cJ cZ cR _ h0 a1 a2 a3 M n9 v (nI b) x1 x2 x3 (bY b) hM hn hn5 hv5 hG (bY_ok hb32)) (gV t_406 mV_X0_nodesOf) hV_X0_nodesOf ⟨(Nat.le_of_ble_eq_true rfl), (Nat.le_of_ble_eq_true rfl)⟩ rfl rfl [0, 1, 2, 3] rfl rfl rfl hl.1 rfl (Nat.le_of_ble_eq_true rfl) dX0_isPart_11 ⟨(Nat.le_of_ble_eq_true rfl), (Nat.le_of_ble_eq_true rfl)⟩) hP hD hS hA [0, 1, 2, 3] [] rfl rfl rfl (by decide) (fun r_1 u_2 H locs hw_3 hP hD hS => ?_)
  have hw_4 : r_1 = (nI (NDm x2 x3 (bY b) n9)) := hw_3
  subst hw_4
  have hP : va_P D vwCl [kX0 h0 a1 a2 a3 (nI n9) (nI v), kI cI a1 M x1, kI cI a2 M x2, kI cI a3 M x3] H := hP
  have hD : va_D A [kX0 h0 a1 a2 a3 (nI n9) (nI v), kI cI a1 M x1, kI cI a2 M x2, kI cI a3 M x3] := hD
  refine lv_istore (lv' := [(5, .int (nI (NDm x2 x3 (bY b) n9))), (4, .int (nI (2 ^ sx ||| 2 ^ tx))), (0, .ref h0), (1, .int (nI b)), (2, .int (nI sx)), (3, .int (nI tx))]) hx hb dX0_isPart_14 hl (by decide) rfl (fun ls hl => ?_)
  refine lv_aload_n hx hb dX0_isPart_16 rfl (lv_at hl 2 rfl) ?_
  refine lv_iload_n hx hb dX0_isPart_17 rfl (lv_at hl 3 rfl) ?_
  refine lv_iconst (v := -1) hx hb dX0_isPart_18 (by decide) ?_
  refine lv_ixor hx hb dX0_isPart_19 ?_
  refine xc_i (wc := [kX0 h0 a1 a2 a3 (nI n9) (nI v), kI cI a1 M x1, kI cI a2 M x2, kI cI a3 M x3]) (wr := []) (xrV (n := 1) (As := [.int ((nI b) ^^^ (-1))]) (rest := []) (ci := 0) (q0 := 0) hd hK hP hD (c_X0_nodesOf l D cI cJ cZ cR _ h0 a1 a2 a3 M n9 v ((nI b) ^^^ (-1)) x1 x2 x3 (bN b) hM hn hn5 hv5 hG (bN_ok hb32)) (gV t_406 mV_X0_nodesOf) hV_X0_nodesOf ⟨(Nat.le_of_ble_eq_true rfl), (Nat.le_of_ble_eq_true rfl)⟩ rfl rfl [0, 1, 2, 3] rfl rfl rfl hl.1 rfl (Nat.le_of_ble_eq_true rfl) dX0_isPart_20 ⟨(Nat.le_of_ble_eq_true rfl), (Nat.le_of_ble_eq_true rfl)⟩) hP hD hS hA [0, 1, 2, 3] [] rfl rfl rfl (by decide) (fun r_5 u_6 H locs hw_7 hP hD hS => ?_)
  have hw_8 : r_5 = (nI (NDm x2 x3 (bN b) n9)) := hw_7
  subst hw_8
  have hP : va_P D vwCl [kX0 h0 a1 a2 a3 (nI n9) (nI v), kI cI a1 M x1, kI cI a2 M x2, kI cI a3 M x3] H := hP
  have hD : va_D A [kX0 h0 a1 a2 a3 (nI n9) (nI v), kI cI a1 M x1, kI cI a2 M x2, kI cI a3 M x3] := hD
  refine lv_iconst (v := 3) hx hb dX0_isPart_23 (by decide) ?_
  refine lv_ior hx hb dX0_isPart_24 ?_
  refine lv_istore (lv' := [(6, .int ((nI (NDm x2 x3 (bN b) n9)) ||| 3)), (5, .int (nI (NDm x2 x3 (bY b) n9))), (4, .int (nI (2 ^ sx ||| 2 ^ tx))), (0, .ref h0), (1, .int (nI b)), (2, .int (nI sx)), (3, .int (nI tx))]) hx hb dX0_isPart_25 hl (by decide) rfl (fun ls hl => ?_)
  refine lv_iload_n hx hb dX0_isPart_27 rfl (lv_at hl 5 rfl) ?_
  refine lv_iload_n hx hb dX0_isPart_28 rfl (lv_at hl 6 rfl) ?_
  refine lv_icmp_eq (tgt := 59) hx hb dX0_isPart_29 (by decide) (fun c_9 => ?_) (fun c_9 => ?_)
  · skip
    refine lv_iconst (v := 0) hx hb dX0_isPart_59 (by decide) ?_
    exact hret _ _ _ _ _ _ 0 () dX0_isPart_60 rfl hS (Nat.le_of_ble_eq_true rfl) (Nat.le_of_ble_eq_true rfl) (YN_n (fun q => ((ip_iff hG hv5 hs5 ht5).mp q).1 c_9)) (hP.sub [0, 1, 2, 3] rfl) (hD.sub [0, 1, 2, 3] rfl rfl)
  · skip
    refine lv_iload hx hb dX0_isPart_32 (lv_at hl 1 rfl) ?_
    refine lv_iload hx hb dX0_isPart_34 (lv_at hl 2 rfl) ?_
    refine lv_iand hx hb dX0_isPart_36 ?_
    refine lv_iload hx hb dX0_isPart_37 (lv_at hl 2 rfl) ?_
    refine lv_icmp_ne (tgt := 59) hx hb dX0_isPart_39 (by decide) (fun c_10 => ?_) (fun c_10 => ?_)
    · skip
      refine lv_iconst (v := 0) hx hb dX0_isPart_59 (by decide) ?_
      exact hret _ _ _ _ _ _ 0 () dX0_isPart_60 rfl hS (Nat.le_of_ble_eq_true rfl) (Nat.le_of_ble_eq_true rfl) (YN_n (fun q => c_10 ((ip_iff hG hv5 hs5 ht5).mp q).2.1)) (hP.sub [0, 1, 2, 3] rfl) (hD.sub [0, 1, 2, 3] rfl rfl)
    · skip
      refine lv_iload hx hb dX0_isPart_42 (lv_at hl 1 rfl) ?_
      refine lv_iload hx hb dX0_isPart_44 (lv_at hl 0 rfl) ?_
      refine lv_iand hx hb dX0_isPart_46 ?_
      refine lv_iload hx hb dX0_isPart_47 (lv_at hl 2 rfl) ?_
      refine lv_iconst (v := -1) hx hb dX0_isPart_49 (by decide) ?_
      refine lv_ixor hx hb dX0_isPart_50 ?_
      refine lv_iand hx hb dX0_isPart_51 ?_
      refine lv_if_ne (tgt := 59) hx hb dX0_isPart_52 (by decide) (fun c_11 => ?_) (fun c_11 => ?_)
      · skip
        refine lv_iconst (v := 0) hx hb dX0_isPart_59 (by decide) ?_
        exact hret _ _ _ _ _ _ 0 () dX0_isPart_60 rfl hS (Nat.le_of_ble_eq_true rfl) (Nat.le_of_ble_eq_true rfl) (YN_n (fun q => c_11 ((ip_iff hG hv5 hs5 ht5).mp q).2.2)) (hP.sub [0, 1, 2, 3] rfl) (hD.sub [0, 1, 2, 3] rfl rfl)
      · skip
        refine lv_iconst (v := 1) hx hb dX0_isPart_55 (by decide) ?_
        refine lv_goto (tgt := 60) hx hb dX0_isPart_56 (by decide) ?_
        exact hret _ _ _ _ _ _ 1 () dX0_isPart_60 rfl hS (Nat.le_of_ble_eq_true rfl) (Nat.le_of_ble_eq_true rfl) (YN_y ((ip_iff hG hv5 hs5 ht5).mpr ⟨c_9, c_10, c_11⟩)) (hP.sub [0, 1, 2, 3] rfl) (hD.sub [0, 1, 2, 3] rfl rfl)
set_option maxHeartbeats 4000000 in
set_option maxRecDepth 100000 in
theorem c_X0_isEdge (sz : Nat) (h0 : Nat) (a1 : Nat) (a2 : Nat) (a3 : Nat) (M : Nat) (n9 : Nat) (v : Nat) (b : Nat) (aa : Nat) (sx : Nat) (tx : Nat) (x1 : Nat → Int32) (x2 : Nat → Int32) (x3 : Nat → Int32) (hM : M ≤ 12) (hn : n9 ≤ M) (hn5 : n9 ≤ 5) (hv5 : v ≤ 5) (hG : GI n9 v x1 x2 x3) (hb32 : b < 32) (ha5 : aa < 5) (hs5 : sx < 5) (ht5 : tx < 5) : CTi l D cI cJ cZ cR yX0_isEdge cX0_isEdge 6 (some .boolean) 0 0 0 0 sz [.ref h0, .int (nI b), .int (nI aa), .int (nI sx), .int (nI tx)] [kX0 h0 a1 a2 a3 (nI n9) (nI v), kI cI a1 M x1, kI cI a2 M x2, kI cI a3 M x3] (fun (r : Int32) (u : Unit) => (YN r (zEd (gC n9 v x1 x2 x3) b aa sx tx))) (fun (u : Unit) => [kX0 h0 a1 a2 a3 (nI n9) (nI v), kI cI a1 M x1, kI cI a2 M x2, kI cI a3 M x3]) := by
  refine CTi.of (ty := .boolean) (by decide) (Nat.le_of_ble_eq_true rfl) rfl ?_
  intro p e s m below meth c A Q ls hd hin hK hsz hP hD hA hS hl hret
  obtain ⟨hx, hb, hml, hown, hts⟩ := id hd
  have hK1 := hK.1
  have hown : s.vm.findClass RX0 = some m.cls := hown
  have hl : lv_has ls 6 [(0, .ref h0), (1, .int (nI b)), (2, .int (nI aa)), (3, .int (nI sx)), (4, .int (nI tx))] := hl
  refine lv_iconst (v := 0) hx hb dX0_isEdge_0 (by decide) ?_
  refine lv_istore (lv' := [(5, .int 0), (0, .ref h0), (1, .int (nI b)), (2, .int (nI aa)), (3, .int (nI sx)), (4, .int (nI tx))]) hx hb dX0_isEdge_1 hl (by decide) rfl (fun ls hl => ?_)
  have LOOP_3 : ∀ (n : Nat) (i : Nat), (i + n = n9) → (∀ j, j < i → ¬ b = 2 ^ j) → ∀ (H : Heap) (locs : List Loc) (ls : Array Slot), va_P D vwCl [kX0 h0 a1 a2 a3 (nI n9) (nI v), kI cI a1 M x1, kI cI a2 M x2, kI cI a3 M x3] H → va_D A [kX0 h0 a1 a2 a3 (nI n9) (nI v), kI cI a1 M x1, kI cI a2 M x2, kI cI a3 M x3] → va_S A s.heap H locs → lv_has ls 6 [(0, .ref h0), (1, .int (nI b)), (2, .int (nI aa)), (3, .int (nI sx)), (4, .int (nI tx)), (5, .int (nI i))] → W p l e (rM 0 0 0 0) s m ([.ref h0, .int (nI b), .int (nI aa), .int (nI sx), .int (nI tx)] : List Value).toArray below meth c H locs 0 0 Q (F0 m 3 ls []) := by
    intro n
    induction n with
    | zero =>
      intro i hi hno H locs ls hP hD hS hl
      refine lv_iload hx hb dX0_isEdge_3 (lv_at hl 5 rfl) ?_
      refine lv_aload_n hx hb dX0_isEdge_5 rfl (lv_at hl 0 rfl) ?_
      refine va_get (D := D) (ci := 0) (v := .int (nI n9)) (C := RX0) (T := TX0) (N := 5) hx hb hts iT_X0 hown hK1 hP 0 rfl rfl 3 (by decide) (hts _ t_62) (fun _ h9 => h9) rfl dX0_isEdge_6 ?_
      refine lv_icmp_ge (tgt := 66) hx hb dX0_isEdge_9 (by decide) (fun c_1 => ?_) (fun c_1 => ?_)
      rotate_left
      · exact absurd (nI_le (a := n9) (b := i) (by omega) (by omega)) c_1
      refine lv_iconst (v := 0) hx hb dX0_isEdge_66 (by decide) ?_
      exact hret _ _ _ _ _ _ 0 () dX0_isEdge_67 rfl hS (Nat.le_of_ble_eq_true rfl) (Nat.le_of_ble_eq_true rfl) (YN_n (ie_no (fun j hj => hno j (by omega)))) (hP.sub [0, 1, 2, 3] rfl) (hD.sub [0, 1, 2, 3] rfl rfl)
    | succ n ih_3 =>
      intro i hi hno H locs ls hP hD hS hl
      refine lv_iload hx hb dX0_isEdge_3 (lv_at hl 5 rfl) ?_
      refine lv_aload_n hx hb dX0_isEdge_5 rfl (lv_at hl 0 rfl) ?_
      refine va_get (D := D) (ci := 0) (v := .int (nI n9)) (C := RX0) (T := TX0) (N := 5) hx hb hts iT_X0 hown hK1 hP 0 rfl rfl 3 (by decide) (hts _ t_62) (fun _ h9 => h9) rfl dX0_isEdge_6 ?_
      refine lv_icmp_ge (tgt := 66) hx hb dX0_isEdge_9 (by decide) (fun c_2 => ?_) (fun c_2 => ?_)
      · exact absurd c_2 (nI_ge (a := i) (b := n9) (by omega) (by omega))
      refine lv_iload_n hx hb dX0_isEdge_12 rfl (lv_at hl 1 rfl) ?_
      refine lv_iconst (v := 1) hx hb dX0_isEdge_13 (by decide) ?_
      refine lv_iload hx hb dX0_isEdge_14 (lv_at hl 5 rfl) ?_
      refine lv_ishl hx hb dX0_isEdge_16 ?_
      refine lv_icmp_ne (tgt := 60) hx hb dX0_isEdge_17 (by decide) (fun c_3 => ?_) (fun c_3 => ?_)
      · skip
        refine lv_iinc (v := nI (i + 1)) (lv' := [(5, .int (nI (i + 1))), (0, .ref h0), (1, .int (nI b)), (2, .int (nI aa)), (3, .int (nI sx)), (4, .int (nI tx))]) hx hb dX0_isEdge_60 hl (k := 5) rfl (nI_1 i) (by decide) rfl (fun ls hl => ?_)
        refine lv_goto (tgt := 3) hx hb dX0_isEdge_63 (by decide) ?_
        exact ih_3 (i + 1) (by omega) (FF_step (ok := fun j => ¬ b = 2 ^ j) hno (fun q => c_3 ((ie_sh hb32 (by omega)).mpr q))) _ _ _ (hP.sub [0, 1, 2, 3] rfl) (hD.sub [0, 1, 2, 3] rfl rfl) hS (lv_sub hl [1, 2, 3, 4, 5, 0] rfl)
      · skip
        refine lv_aload_n hx hb dX0_isEdge_20 rfl (lv_at hl 0 rfl) ?_
        refine va_get (D := D) (ci := 0) (v := .ref a1) (C := RX0) (T := TX0) (N := 5) hx hb hts iT_X0 hown hK1 hP 0 rfl rfl 0 (by decide) (hts _ t_55) (fun _ h9 => h9) rfl dX0_isEdge_21 ?_
        refine lv_iload hx hb dX0_isEdge_24 (lv_at hl 5 rfl) ?_
        refine va_iald hx hb hK1 hP 1 0 rfl rfl (vp_in_nI (by omega) (by omega)) dX0_isEdge_26 ?_
        refine lv_nmi (show _ = x1 i from by rw [nI_clamp (n := i) (by omega)]) ?_
        refine lv_iload_n hx hb dX0_isEdge_27 rfl (lv_at hl 2 rfl) ?_
        refine lv_icmp_ne (tgt := 58) hx hb dX0_isEdge_28 (by decide) (fun c_4 => ?_) (fun c_4 => ?_)
        · skip
          refine lv_iconst (v := 0) hx hb dX0_isEdge_58 (by decide) ?_
          exact hret _ _ _ _ _ _ 0 () dX0_isEdge_59 rfl hS (Nat.le_of_ble_eq_true rfl) (Nat.le_of_ble_eq_true rfl) (YN_n (fun q => c_4 ((ie_iff hG hv5 (by omega) (by omega) (by omega) (by omega) ((ie_sh hb32 (by omega)).mp c_3)).mp q).1)) (hP.sub [0, 1, 2, 3] rfl) (hD.sub [0, 1, 2, 3] rfl rfl)
        · skip
          refine lv_aload_n hx hb dX0_isEdge_31 rfl (lv_at hl 0 rfl) ?_
          refine va_get (D := D) (ci := 0) (v := .ref a2) (C := RX0) (T := TX0) (N := 5) hx hb hts iT_X0 hown hK1 hP 0 rfl rfl 1 (by decide) (hts _ t_58) (fun _ h9 => h9) rfl dX0_isEdge_32 ?_
          refine lv_iload hx hb dX0_isEdge_35 (lv_at hl 5 rfl) ?_
          refine va_iald hx hb hK1 hP 2 0 rfl rfl (vp_in_nI (by omega) (by omega)) dX0_isEdge_37 ?_
          refine lv_nmi (show _ = x2 i from by rw [nI_clamp (n := i) (by omega)]) ?_
          refine lv_iload_n hx hb dX0_isEdge_38 rfl (lv_at hl 3 rfl) ?_
          refine lv_icmp_ne (tgt := 58) hx hb dX0_isEdge_39 (by decide) (fun c_5 => ?_) (fun c_5 => ?_)
          · skip
            refine lv_iconst (v := 0) hx hb dX0_isEdge_58 (by decide) ?_
            exact hret _ _ _ _ _ _ 0 () dX0_isEdge_59 rfl hS (Nat.le_of_ble_eq_true rfl) (Nat.le_of_ble_eq_true rfl) (YN_n (fun q => c_5 ((ie_iff hG hv5 (by omega) (by omega) (by omega) (by omega) ((ie_sh hb32 (by omega)).mp c_3)).mp q).2.1)) (hP.sub [0, 1, 2, 3] rfl) (hD.sub [0, 1, 2, 3] rfl rfl)
          · skip
            refine lv_aload_n hx hb dX0_isEdge_42 rfl (lv_at hl 0 rfl) ?_
            refine va_get (D := D) (ci := 0) (v := .ref a3) (C := RX0) (T := TX0) (N := 5) hx hb hts iT_X0 hown hK1 hP 0 rfl rfl 2 (by decide) (hts _ t_60) (fun _ h9 => h9) rfl dX0_isEdge_43 ?_
            refine lv_iload hx hb dX0_isEdge_46 (lv_at hl 5 rfl) ?_
            refine va_iald hx hb hK1 hP 3 0 rfl rfl (vp_in_nI (by omega) (by omega)) dX0_isEdge_48 ?_
            refine lv_nmi (show _ = x3 i from by rw [nI_clamp (n := i) (by omega)]) ?_
            refine lv_iload hx hb dX0_isEdge_49 (lv_at hl 4 rfl) ?_
            refine lv_icmp_ne (tgt := 58) hx hb dX0_isEdge_51 (by decide) (fun c_6 => ?_) (fun c_6 => ?_)
            · skip
              refine lv_iconst (v := 0) hx hb dX0_isEdge_58 (by decide) ?_
              exact hret _ _ _ _ _ _ 0 () dX0_isEdge_59 rfl hS (Nat.le_of_ble_eq_true rfl) (Nat.le_of_ble_eq_true rfl) (YN_n (fun q => c_6 ((ie_iff hG hv5 (by omega) (by omega) (by omega) (by omega) ((ie_sh hb32 (by omega)).mp c_3)).mp q).2.2)) (hP.sub [0, 1, 2, 3] rfl) (hD.sub [0, 1, 2, 3] rfl rfl)
            · skip
              refine lv_iconst (v := 1) hx hb dX0_isEdge_54 (by decide) ?_
              refine lv_goto (tgt := 59) hx hb dX0_isEdge_55 (by decide) ?_
              exact hret _ _ _ _ _ _ 1 () dX0_isEdge_59 rfl hS (Nat.le_of_ble_eq_true rfl) (Nat.le_of_ble_eq_true rfl) (YN_y ((ie_iff hG hv5 (by omega) (by omega) (by omega) (by omega) ((ie_sh hb32 (by omega)).mp c_3)).mpr ⟨c_4, c_5, c_6⟩)) (hP.sub [0, 1, 2, 3] rfl) (hD.sub [0, 1, 2, 3] rfl rfl)
  exact LOOP_3 n9 0 (by omega) (fun j hj => absurd hj (by omega)) _ _ _ (hP.sub [0, 1, 2, 3] rfl) (hD.sub [0, 1, 2, 3] rfl rfl) hS (lv_sub hl [1, 2, 3, 4, 5, 0] rfl)
set_option maxHeartbeats 4000000 in
set_option maxRecDepth 100000 in
theorem c_X0_replace (sz : Nat) (h0 : Nat) (a1 : Nat) (a2 : Nat) (a3 : Nat) (n9 : Nat) (v : Nat) (k : Nat) (x1 : Nat → Int32) (x2 : Nat → Int32) (x3 : Nat → Int32) (b0 : Nat) (b1 : Nat) (b2 : Nat) (b3 : Nat) (ee : Nat) (bv : Nat) (w1 : Nat → Int32) (w2 : Nat → Int32) (w3 : Nat → Int32) (hk : k < n9) (he1 : 1 ≤ ee) (he3 : ee ≤ 3) (hfit : n9 + (ee - 1) ≤ 12) (hb2 : 2 ≤ bv) : CTv l D cI cJ cZ cR yX0_replace cX0_replace 7 none 1 24 0 0 sz [.ref h0, .int (nI k), .ref b0] [kX0 h0 a1 a2 a3 (nI n9) (nI v), kI cI a1 12 x1, kI cI a2 12 x2, kI cI a3 12 x3, kX0 b0 b1 b2 b3 (nI ee) (nI bv), kI cI b1 3 w1, kI cI b2 3 w2, kI cI b3 3 w3] (fun (u : (Nat → Int32) × (Nat → Int32) × (Nat → Int32)) => (RPL x1 w1 u.1 k ee n9) ∧ (RPL x2 (fun t => nC v (w2 t) (x2 k) (x3 k)) u.2.1 k ee n9) ∧ (RPL x3 (fun t => nC v (w3 t) (x2 k) (x3 k)) u.2.2 k ee n9)) (fun (u : (Nat → Int32) × (Nat → Int32) × (Nat → Int32)) => [kX0 h0 a1 a2 a3 (nI (n9 + (ee - 1))) (nI (v + (bv - 2))), kI cI a1 12 u.1, kI cI a2 12 u.2.1, kI cI a3 12 u.2.2, kX0 b0 b1 b2 b3 (nI ee) (nI bv), kI cI b1 3 w1, kI cI b2 3 w2, kI cI b3 3 w3]) := by
  refine CTv.of (by decide) (Nat.le_of_ble_eq_true rfl) rfl ?_
  intro p e s m below meth c A Q ls hd hin hK hsz hP hD hA hS hl hret
  obtain ⟨hx, hb, hml, hown, hts⟩ := id hd
  have hK1 := hK.1
  have hown : s.vm.findClass RX0 = some m.cls := hown
  have hl : lv_has ls 7 [(0, .ref h0), (1, .int (nI k)), (2, .ref b0)] := hl
  refine lv_aload_n hx hb dX0_replace_0 rfl (lv_at hl 2 rfl) ?_
  refine va_get (D := D) (ci := 0) (v := .int (nI ee)) (C := RX0) (T := TX0) (N := 5) hx hb hts iT_X0 hown hK1 hP 4 rfl rfl 3 (by decide) (hts _ t_62) (fun _ h9 => h9) rfl dX0_replace_1 ?_
  refine lv_iconst (v := 1) hx hb dX0_replace_4 (by decide) ?_
  refine lv_isub hx hb dX0_replace_5 ?_
  refine lv_nmi (show _ = (nI (ee - 1) : Int32) from pk_sub (a := ee) (b := 1) (by omega)) ?_
  refine lv_istore_n (lv' := [(3, .int (nI (ee - 1))), (0, .ref h0), (1, .int (nI k)), (2, .ref b0)]) hx hb dX0_replace_6 rfl hl (by decide) rfl (fun ls hl => ?_)
  refine lv_aload_n hx hb dX0_replace_7 rfl (lv_at hl 1 rfl) ?_
  refine lv_iload_n hx hb dX0_replace_8 rfl (lv_at hl 2 rfl) ?_
  refine xc_i (wc := [kX0 h0 a1 a2 a3 (nI n9) (nI v)]) (wr := [kI cI a1 12 x1, kI cI a2 12 x2, kI cI a3 12 x3, kX0 b0 b1 b2 b3 (nI ee) (nI bv), kI cI b1 3 w1, kI cI b2 3 w2, kI cI b3 3 w3]) (xrV (n := 1) (As := [.int (nI k)]) (rest := []) (ci := 0) (q0 := 0) hd hK hP hD (c_X0_has l D cI cJ cZ cR _ h0 a1 a2 a3 n9 v (nI k) ) (gV t_352 mV_X0_has) hV_X0_has ⟨(Nat.le_of_ble_eq_true rfl), (Nat.le_of_ble_eq_true rfl)⟩ rfl rfl [0] rfl rfl rfl hl.1 rfl (Nat.le_of_ble_eq_true rfl) dX0_replace_9 ⟨(Nat.le_of_ble_eq_true rfl), (Nat.le_of_ble_eq_true rfl)⟩) hP hD hS hA [0] [1, 2, 3, 4, 5, 6, 7] rfl rfl rfl (by decide) (fun r_1 u_2 H locs hw_3 hP hD hS => ?_)
  have hw_4 : r_1 = (hs (nI k) n9) := hw_3
  subst hw_4
  have hP : va_P D vwCl [kI cI a1 12 x1, kI cI a2 12 x2, kI cI a3 12 x3, kX0 b0 b1 b2 b3 (nI ee) (nI bv), kI cI b1 3 w1, kI cI b2 3 w2, kI cI b3 3 w3, kX0 h0 a1 a2 a3 (nI n9) (nI v)] H := hP
  have hD : va_D A [kI cI a1 12 x1, kI cI a2 12 x2, kI cI a3 12 x3, kX0 b0 b1 b2 b3 (nI ee) (nI bv), kI cI b1 3 w1, kI cI b2 3 w2, kI cI b3 3 w3, kX0 h0 a1 a2 a3 (nI n9) (nI v)] := hD
  refine lv_nmi (show _ = (1 : Int32) from hs_ok (by omega) (by omega)) ?_
  refine lv_if_eq (tgt := 29) hx hb dX0_replace_12 (by decide) (fun c_5 => ?_) (fun c_5 => ?_)
  · exact absurd c_5 (by decide)
  refine lv_aload_n hx hb dX0_replace_15 rfl (lv_at hl 1 rfl) ?_
  refine va_get (D := D) (ci := 0) (v := .int (nI n9)) (C := RX0) (T := TX0) (N := 5) hx hb hts iT_X0 hown hK1 hP 7 rfl rfl 3 (by decide) (hts _ t_62) (fun _ h9 => h9) rfl dX0_replace_16 ?_
  refine lv_iload_n hx hb dX0_replace_19 rfl (lv_at hl 0 rfl) ?_
  refine lv_iadd hx hb dX0_replace_20 ?_
  refine lv_nmi (show _ = (nI (n9 + (ee - 1))) from nI_add (n9) ((ee - 1))) ?_
  refine lv_aload_n hx hb dX0_replace_21 rfl (lv_at hl 1 rfl) ?_
  refine va_get (D := D) (ci := 0) (v := .ref a1) (C := RX0) (T := TX0) (N := 5) hx hb hts iT_X0 hown hK1 hP 7 rfl rfl 0 (by decide) (hts _ t_55) (fun _ h9 => h9) rfl dX0_replace_22 ?_
  refine va_alen hx hb hK1 hP 0 0 rfl rfl (v := 12) rfl dX0_replace_25 ?_
  refine lv_icmp_le (tgt := 30) hx hb dX0_replace_26 (by decide) (fun c_6 => ?_) (fun c_6 => ?_)
  rotate_left
  · exact absurd (nI_le (a := (n9 + (ee - 1))) (b := 12) (by omega) (by omega)) c_6
  refine lv_aload_n hx hb dX0_replace_30 rfl (lv_at hl 1 rfl) ?_
  refine va_get (D := D) (ci := 0) (v := .ref a2) (C := RX0) (T := TX0) (N := 5) hx hb hts iT_X0 hown hK1 hP 7 rfl rfl 1 (by decide) (hts _ t_58) (fun _ h9 => h9) rfl dX0_replace_31 ?_
  refine lv_iload_n hx hb dX0_replace_34 rfl (lv_at hl 2 rfl) ?_
  refine va_iald hx hb hK1 hP 1 0 rfl rfl (vp_in_nI (by omega) (by omega)) dX0_replace_35 ?_
  refine lv_nmi (show _ = x2 k from by rw [nI_clamp (n := k) (by omega)]) ?_
  refine lv_istore (lv' := [(4, .int (x2 k)), (3, .int (nI (ee - 1))), (0, .ref h0), (1, .int (nI k)), (2, .ref b0)]) hx hb dX0_replace_36 hl (by decide) rfl (fun ls hl => ?_)
  refine lv_aload_n hx hb dX0_replace_38 rfl (lv_at hl 2 rfl) ?_
  refine va_get (D := D) (ci := 0) (v := .ref a3) (C := RX0) (T := TX0) (N := 5) hx hb hts iT_X0 hown hK1 hP 7 rfl rfl 2 (by decide) (hts _ t_60) (fun _ h9 => h9) rfl dX0_replace_39 ?_
  refine lv_iload_n hx hb dX0_replace_42 rfl (lv_at hl 3 rfl) ?_
  refine va_iald hx hb hK1 hP 2 0 rfl rfl (vp_in_nI (by omega) (by omega)) dX0_replace_43 ?_
  refine lv_nmi (show _ = x3 k from by rw [nI_clamp (n := k) (by omega)]) ?_
  refine lv_istore (lv' := [(5, .int (x3 k)), (4, .int (x2 k)), (3, .int (nI (ee - 1))), (0, .ref h0), (1, .int (nI k)), (2, .ref b0)]) hx hb dX0_replace_44 hl (by decide) rfl (fun ls hl => ?_)
  refine lv_aload_n hx hb dX0_replace_46 rfl (lv_at hl 3 rfl) ?_
  refine va_get (D := D) (ci := 0) (v := .int (nI n9)) (C := RX0) (T := TX0) (N := 5) hx hb hts iT_X0 hown hK1 hP 7 rfl rfl 3 (by decide) (hts _ t_62) (fun _ h9 => h9) rfl dX0_replace_47 ?_
  refine lv_iconst (v := 1) hx hb dX0_replace_50 (by decide) ?_
  refine lv_isub hx hb dX0_replace_51 ?_
  refine lv_nmi (show _ = (nI (n9 - 1) : Int32) from pk_sub (a := n9) (b := 1) (by omega)) ?_
  refine lv_istore (lv' := [(6, .int (nI (n9 - 1))), (5, .int (x3 k)), (4, .int (x2 k)), (3, .int (nI (ee - 1))), (0, .ref h0), (1, .int (nI k)), (2, .ref b0)]) hx hb dX0_replace_52 hl (by decide) rfl (fun ls hl => ?_)
  have LOOP_54 : ∀ (n : Nat) (i : Nat) (y1 : Nat → Int32) (y2 : Nat → Int32) (y3 : Nat → Int32), (k + n = i) → (i < n9) → (SHR x1 y1 (ee - 1) n9 i) → (SHR x2 y2 (ee - 1) n9 i) → (SHR x3 y3 (ee - 1) n9 i) → ∀ (H : Heap) (locs : List Loc) (ls : Array Slot), va_P D vwCl [kX0 h0 a1 a2 a3 (nI n9) (nI v), kI cI a1 12 y1, kI cI a2 12 y2, kI cI a3 12 y3, kX0 b0 b1 b2 b3 (nI ee) (nI bv), kI cI b1 3 w1, kI cI b2 3 w2, kI cI b3 3 w3] H → va_D A [kX0 h0 a1 a2 a3 (nI n9) (nI v), kI cI a1 12 y1, kI cI a2 12 y2, kI cI a3 12 y3, kX0 b0 b1 b2 b3 (nI ee) (nI bv), kI cI b1 3 w1, kI cI b2 3 w2, kI cI b3 3 w3] → va_S A s.heap H locs → lv_has ls 7 [(0, .ref h0), (1, .int (nI k)), (2, .ref b0), (3, .int (nI (ee - 1))), (4, .int (x2 k)), (5, .int (x3 k)), (6, .int (nI i))] → W p l e (rM 1 0 0 24) s m ([.ref h0, .int (nI k), .ref b0] : List Value).toArray below meth c H locs 0 0 Q (F0 m 54 ls []) := by
    intro n
    induction n with
    | zero =>
      intro i y1 y2 y3 hi hi9 hy1 hy2 hy3 H locs ls hP hD hS hl
      refine lv_iload hx hb dX0_replace_54 (lv_at hl 6 rfl) ?_
      refine lv_iload_n hx hb dX0_replace_56 rfl (lv_at hl 1 rfl) ?_
      refine lv_icmp_le (tgt := 95) hx hb dX0_replace_57 (by decide) (fun c_7 => ?_) (fun c_7 => ?_)
      rotate_left
      · exact absurd (nI_le (a := i) (b := k) (by omega) (by omega)) c_7
      refine lv_iconst (v := 0) hx hb dX0_replace_95 (by decide) ?_
      refine lv_istore (lv' := [(6, .int 0), (0, .ref h0), (1, .int (nI k)), (2, .ref b0), (3, .int (nI (ee - 1))), (4, .int (x2 k)), (5, .int (x3 k))]) hx hb dX0_replace_96 hl (by decide) rfl (fun ls hl => ?_)
      have LOOP_98 : ∀ (n : Nat) (t : Nat) (z1 : Nat → Int32) (z2 : Nat → Int32) (z3 : Nat → Int32), (t + n = ee) → (RPT x1 w1 z1 k ee n9 t) → (RPT x2 (fun t => nC v (w2 t) (x2 k) (x3 k)) z2 k ee n9 t) → (RPT x3 (fun t => nC v (w3 t) (x2 k) (x3 k)) z3 k ee n9 t) → ∀ (H : Heap) (locs : List Loc) (ls : Array Slot), va_P D vwCl [kX0 h0 a1 a2 a3 (nI n9) (nI v), kI cI a1 12 z1, kI cI a2 12 z2, kI cI a3 12 z3, kX0 b0 b1 b2 b3 (nI ee) (nI bv), kI cI b1 3 w1, kI cI b2 3 w2, kI cI b3 3 w3] H → va_D A [kX0 h0 a1 a2 a3 (nI n9) (nI v), kI cI a1 12 z1, kI cI a2 12 z2, kI cI a3 12 z3, kX0 b0 b1 b2 b3 (nI ee) (nI bv), kI cI b1 3 w1, kI cI b2 3 w2, kI cI b3 3 w3] → va_S A s.heap H locs → lv_has ls 7 [(0, .ref h0), (1, .int (nI k)), (2, .ref b0), (3, .int (nI (ee - 1))), (4, .int (x2 k)), (5, .int (x3 k)), (6, .int (nI t))] → W p l e (rM 1 0 0 24) s m ([.ref h0, .int (nI k), .ref b0] : List Value).toArray below meth c H locs 0 0 Q (F0 m 98 ls []) := by
        intro n
        induction n with
        | zero =>
          intro t z1 z2 z3 ht hz1 hz2 hz3 H locs ls hP hD hS hl
          refine lv_iload hx hb dX0_replace_98 (lv_at hl 6 rfl) ?_
          refine lv_aload_n hx hb dX0_replace_100 rfl (lv_at hl 2 rfl) ?_
          refine va_get (D := D) (ci := 0) (v := .int (nI ee)) (C := RX0) (T := TX0) (N := 5) hx hb hts iT_X0 hown hK1 hP 4 rfl rfl 3 (by decide) (hts _ t_62) (fun _ h9 => h9) rfl dX0_replace_101 ?_
          refine lv_icmp_ge (tgt := 158) hx hb dX0_replace_104 (by decide) (fun c_8 => ?_) (fun c_8 => ?_)
          rotate_left
          · exact absurd (nI_le (a := ee) (b := t) (by omega) (by omega)) c_8
          refine lv_aload_n hx hb dX0_replace_158 rfl (lv_at hl 0 rfl) ?_
          refine lv_dup hx hb dX0_replace_159 rfl ?_
          refine va_get (D := D) (ci := 0) (v := .int (nI n9)) (C := RX0) (T := TX0) (N := 5) hx hb hts iT_X0 hown hK1 hP 0 rfl rfl 3 (by decide) (hts _ t_62) (fun _ h9 => h9) rfl dX0_replace_160 ?_
          refine lv_iload_n hx hb dX0_replace_163 rfl (lv_at hl 3 rfl) ?_
          refine lv_iadd hx hb dX0_replace_164 ?_
          refine lv_nmi (show _ = (nI (n9 + (ee - 1))) from nI_add (n9) ((ee - 1))) ?_
          refine va_put (D := D) (ci := 0) (v := .int (nI (n9 + (ee - 1)))) (ty := .int) (C := RX0) (T := TX0) (N := 5) hx hb hts iT_X0 tyX0 tyX0_ok nmX0 hown hK1 hP hD hS 0 rfl rfl 3 (by decide) (hts _ t_62) (fun _ h9 => h9) rfl (by decide +kernel) rfl rfl (Nat.le_of_ble_eq_true rfl) dX0_replace_165 (fun H locs hP hD hS => ?_)
          have hP : va_P D vwCl [kX0 h0 a1 a2 a3 (nI (n9 + (ee - 1))) (nI v), kI cI a1 12 z1, kI cI a2 12 z2, kI cI a3 12 z3, kX0 b0 b1 b2 b3 (nI ee) (nI bv), kI cI b1 3 w1, kI cI b2 3 w2, kI cI b3 3 w3] H := hP
          have hD : va_D A [kX0 h0 a1 a2 a3 (nI (n9 + (ee - 1))) (nI v), kI cI a1 12 z1, kI cI a2 12 z2, kI cI a3 12 z3, kX0 b0 b1 b2 b3 (nI ee) (nI bv), kI cI b1 3 w1, kI cI b2 3 w2, kI cI b3 3 w3] := hD
          refine lv_aload_n hx hb dX0_replace_168 rfl (lv_at hl 0 rfl) ?_
          refine lv_dup hx hb dX0_replace_169 rfl ?_
          refine va_get (D := D) (ci := 0) (v := .int (nI v)) (C := RX0) (T := TX0) (N := 5) hx hb hts iT_X0 hown hK1 hP 0 rfl rfl 4 (by decide) (hts _ t_65) (fun _ h9 => h9) rfl dX0_replace_170 ?_
          refine lv_aload_n hx hb dX0_replace_173 rfl (lv_at hl 2 rfl) ?_
          refine va_get (D := D) (ci := 0) (v := .int (nI bv)) (C := RX0) (T := TX0) (N := 5) hx hb hts iT_X0 hown hK1 hP 4 rfl rfl 4 (by decide) (hts _ t_65) (fun _ h9 => h9) rfl dX0_replace_174 ?_
          refine lv_iconst (v := 2) hx hb dX0_replace_177 (by decide) ?_
          refine lv_isub hx hb dX0_replace_178 ?_
          refine lv_nmi (show _ = (nI (bv - 2) : Int32) from pk_sub (a := bv) (b := 2) (by omega)) ?_
          refine lv_iadd hx hb dX0_replace_179 ?_
          refine lv_nmi (show _ = (nI (v + (bv - 2))) from nI_add (v) ((bv - 2))) ?_
          refine va_put (D := D) (ci := 0) (v := .int (nI (v + (bv - 2)))) (ty := .int) (C := RX0) (T := TX0) (N := 5) hx hb hts iT_X0 tyX0 tyX0_ok nmX0 hown hK1 hP hD hS 0 rfl rfl 4 (by decide) (hts _ t_65) (fun _ h9 => h9) rfl (by decide +kernel) rfl rfl (Nat.le_of_ble_eq_true rfl) dX0_replace_180 (fun H locs hP hD hS => ?_)
          have hP : va_P D vwCl [kX0 h0 a1 a2 a3 (nI (n9 + (ee - 1))) (nI (v + (bv - 2))), kI cI a1 12 z1, kI cI a2 12 z2, kI cI a3 12 z3, kX0 b0 b1 b2 b3 (nI ee) (nI bv), kI cI b1 3 w1, kI cI b2 3 w2, kI cI b3 3 w3] H := hP
          have hD : va_D A [kX0 h0 a1 a2 a3 (nI (n9 + (ee - 1))) (nI (v + (bv - 2))), kI cI a1 12 z1, kI cI a2 12 z2, kI cI a3 12 z3, kX0 b0 b1 b2 b3 (nI ee) (nI bv), kI cI b1 3 w1, kI cI b2 3 w2, kI cI b3 3 w3] := hD
          exact hret _ _ _ _ _ _ (z1, z2, z3) dX0_replace_183 hS (Nat.le_of_ble_eq_true rfl) (Nat.le_of_ble_eq_true rfl) ⟨RPL_end (by omega) (by omega) hz1, RPL_end (by omega) (by omega) hz2, RPL_end (by omega) (by omega) hz3⟩ (hP.sub [0, 1, 2, 3, 4, 5, 6, 7] rfl) (hD.sub [0, 1, 2, 3, 4, 5, 6, 7] rfl rfl)
        | succ n ih_98 =>
          intro t z1 z2 z3 ht hz1 hz2 hz3 H locs ls hP hD hS hl
          refine lv_iload hx hb dX0_replace_98 (lv_at hl 6 rfl) ?_
          refine lv_aload_n hx hb dX0_replace_100 rfl (lv_at hl 2 rfl) ?_
          refine va_get (D := D) (ci := 0) (v := .int (nI ee)) (C := RX0) (T := TX0) (N := 5) hx hb hts iT_X0 hown hK1 hP 4 rfl rfl 3 (by decide) (hts _ t_62) (fun _ h9 => h9) rfl dX0_replace_101 ?_
          refine lv_icmp_ge (tgt := 158) hx hb dX0_replace_104 (by decide) (fun c_9 => ?_) (fun c_9 => ?_)
          · exact absurd c_9 (nI_ge (a := t) (b := ee) (by omega) (by omega))
          refine lv_aload_n hx hb dX0_replace_107 rfl (lv_at hl 0 rfl) ?_
          refine lv_iload_n hx hb dX0_replace_108 rfl (lv_at hl 1 rfl) ?_
          refine lv_iload hx hb dX0_replace_109 (lv_at hl 6 rfl) ?_
          refine lv_iadd hx hb dX0_replace_111 ?_
          refine lv_nmi (show _ = (nI (k + t)) from nI_add (k) (t)) ?_
          refine lv_aload_n hx hb dX0_replace_112 rfl (lv_at hl 2 rfl) ?_
          refine va_get (D := D) (ci := 0) (v := .ref b1) (C := RX0) (T := TX0) (N := 5) hx hb hts iT_X0 hown hK1 hP 4 rfl rfl 0 (by decide) (hts _ t_55) (fun _ h9 => h9) rfl dX0_replace_113 ?_
          refine lv_iload hx hb dX0_replace_116 (lv_at hl 6 rfl) ?_
          refine va_iald hx hb hK1 hP 5 0 rfl rfl (vp_in_nI (by omega) (by omega)) dX0_replace_118 ?_
          refine lv_nmi (show _ = w1 t from by rw [nI_clamp (n := t) (by omega)]) ?_
          refine lv_aload_n hx hb dX0_replace_119 rfl (lv_at hl 0 rfl) ?_
          refine lv_aload_n hx hb dX0_replace_120 rfl (lv_at hl 2 rfl) ?_
          refine va_get (D := D) (ci := 0) (v := .ref b2) (C := RX0) (T := TX0) (N := 5) hx hb hts iT_X0 hown hK1 hP 4 rfl rfl 1 (by decide) (hts _ t_58) (fun _ h9 => h9) rfl dX0_replace_121 ?_
          refine lv_iload hx hb dX0_replace_124 (lv_at hl 6 rfl) ?_
          refine va_iald hx hb hK1 hP 6 0 rfl rfl (vp_in_nI (by omega) (by omega)) dX0_replace_126 ?_
          refine lv_nmi (show _ = w2 t from by rw [nI_clamp (n := t) (by omega)]) ?_
          refine lv_iload hx hb dX0_replace_127 (lv_at hl 4 rfl) ?_
          refine lv_iload hx hb dX0_replace_129 (lv_at hl 5 rfl) ?_
          refine xc_i (wc := [kX0 h0 a1 a2 a3 (nI n9) (nI v)]) (wr := [kI cI a1 12 z1, kI cI a2 12 z2, kI cI a3 12 z3, kX0 b0 b1 b2 b3 (nI ee) (nI bv), kI cI b1 3 w1, kI cI b2 3 w2, kI cI b3 3 w3]) (xrV (n := 3) (As := [.int (w2 t), .int (x2 k), .int (x3 k)]) (rest := [.int (w1 t), .int (nI (k + t)), .ref h0]) (ci := 0) (q0 := 0) hd hK hP hD (c_X0_nodeFor l D cI cJ cZ cR _ h0 a1 a2 a3 n9 v (w2 t) (x2 k) (x3 k) ) (gV t_353 mV_X0_nodeFor) hV_X0_nodeFor ⟨(Nat.le_of_ble_eq_true rfl), (Nat.le_of_ble_eq_true rfl)⟩ rfl rfl [0] rfl rfl rfl hl.1 rfl (Nat.le_of_ble_eq_true rfl) dX0_replace_131 ⟨(Nat.le_of_ble_eq_true rfl), (Nat.le_of_ble_eq_true rfl)⟩) hP hD hS hA [0] [1, 2, 3, 4, 5, 6, 7] rfl rfl rfl (by decide) (fun r_10 u_11 H locs hw_12 hP hD hS => ?_)
          have hw_13 : r_10 = (nC v (w2 t) (x2 k) (x3 k)) := hw_12
          subst hw_13
          have hP : va_P D vwCl [kI cI a1 12 z1, kI cI a2 12 z2, kI cI a3 12 z3, kX0 b0 b1 b2 b3 (nI ee) (nI bv), kI cI b1 3 w1, kI cI b2 3 w2, kI cI b3 3 w3, kX0 h0 a1 a2 a3 (nI n9) (nI v)] H := hP
          have hD : va_D A [kI cI a1 12 z1, kI cI a2 12 z2, kI cI a3 12 z3, kX0 b0 b1 b2 b3 (nI ee) (nI bv), kI cI b1 3 w1, kI cI b2 3 w2, kI cI b3 3 w3, kX0 h0 a1 a2 a3 (nI n9) (nI v)] := hD
          refine lv_aload_n hx hb dX0_replace_134 rfl (lv_at hl 0 rfl) ?_
          refine lv_aload_n hx hb dX0_replace_135 rfl (lv_at hl 2 rfl) ?_
          refine va_get (D := D) (ci := 0) (v := .ref b3) (C := RX0) (T := TX0) (N := 5) hx hb hts iT_X0 hown hK1 hP 3 rfl rfl 2 (by decide) (hts _ t_60) (fun _ h9 => h9) rfl dX0_replace_136 ?_
          refine lv_iload hx hb dX0_replace_139 (lv_at hl 6 rfl) ?_
          refine va_iald hx hb hK1 hP 6 0 rfl rfl (vp_in_nI (by omega) (by omega)) dX0_replace_141 ?_
          refine lv_nmi (show _ = w3 t from by rw [nI_clamp (n := t) (by omega)]) ?_
          refine lv_iload hx hb dX0_replace_142 (lv_at hl 4 rfl) ?_
          refine lv_iload hx hb dX0_replace_144 (lv_at hl 5 rfl) ?_
          refine xc_i (wc := [kX0 h0 a1 a2 a3 (nI n9) (nI v)]) (wr := [kI cI a1 12 z1, kI cI a2 12 z2, kI cI a3 12 z3, kX0 b0 b1 b2 b3 (nI ee) (nI bv), kI cI b1 3 w1, kI cI b2 3 w2, kI cI b3 3 w3]) (xrV (n := 3) (As := [.int (w3 t), .int (x2 k), .int (x3 k)]) (rest := [.int (nC v (w2 t) (x2 k) (x3 k)), .int (w1 t), .int (nI (k + t)), .ref h0]) (ci := 0) (q0 := 7) hd hK hP hD (c_X0_nodeFor l D cI cJ cZ cR _ h0 a1 a2 a3 n9 v (w3 t) (x2 k) (x3 k) ) (gV t_353 mV_X0_nodeFor) hV_X0_nodeFor ⟨(Nat.le_of_ble_eq_true rfl), (Nat.le_of_ble_eq_true rfl)⟩ rfl rfl [7] rfl rfl rfl hl.1 rfl (Nat.le_of_ble_eq_true rfl) dX0_replace_146 ⟨(Nat.le_of_ble_eq_true rfl), (Nat.le_of_ble_eq_true rfl)⟩) hP hD hS hA [7] [0, 1, 2, 3, 4, 5, 6] rfl rfl rfl (by decide) (fun r_14 u_15 H locs hw_16 hP hD hS => ?_)
          have hw_17 : r_14 = (nC v (w3 t) (x2 k) (x3 k)) := hw_16
          subst hw_17
          have hP : va_P D vwCl [kI cI a1 12 z1, kI cI a2 12 z2, kI cI a3 12 z3, kX0 b0 b1 b2 b3 (nI ee) (nI bv), kI cI b1 3 w1, kI cI b2 3 w2, kI cI b3 3 w3, kX0 h0 a1 a2 a3 (nI n9) (nI v)] H := hP
          have hD : va_D A [kI cI a1 12 z1, kI cI a2 12 z2, kI cI a3 12 z3, kX0 b0 b1 b2 b3 (nI ee) (nI bv), kI cI b1 3 w1, kI cI b2 3 w2, kI cI b3 3 w3, kX0 h0 a1 a2 a3 (nI n9) (nI v)] := hD
          refine xc_v (wc := [kX0 h0 a1 a2 a3 (nI n9) (nI v), kI cI a1 12 z1, kI cI a2 12 z2, kI cI a3 12 z3]) (wr := [kX0 b0 b1 b2 b3 (nI ee) (nI bv), kI cI b1 3 w1, kI cI b2 3 w2, kI cI b3 3 w3]) (xrV (n := 4) (As := [.int (nI (k + t)), .int (w1 t), .int (nC v (w2 t) (x2 k) (x3 k)), .int (nC v (w3 t) (x2 k) (x3 k))]) (rest := []) (ci := 0) (q0 := 7) hd hK hP hD (c_X0_put l D cI cJ cZ cR _ h0 a1 a2 a3 12 n9 v (k + t) (w1 t) (nC v (w2 t) (x2 k) (x3 k)) (nC v (w3 t) (x2 k) (x3 k)) z1 z2 z3 (by omega) (by omega)) (gV t_275 mV_X0_put) hV_X0_put ⟨(Nat.le_of_ble_eq_true rfl), (Nat.le_of_ble_eq_true rfl)⟩ rfl rfl [7, 0, 1, 2] rfl rfl rfl hl.1 rfl (Nat.le_of_ble_eq_true rfl) dX0_replace_149 ⟨(Nat.le_of_ble_eq_true rfl), (Nat.le_of_ble_eq_true rfl)⟩) hP hD hS hA [7, 0, 1, 2] [3, 4, 5, 6] rfl rfl rfl (by decide) (fun u_19 H locs hw_20 hP hD hS => ?_)
          have hP : va_P D vwCl [kX0 b0 b1 b2 b3 (nI ee) (nI bv), kI cI b1 3 w1, kI cI b2 3 w2, kI cI b3 3 w3, kX0 h0 a1 a2 a3 (nI n9) (nI v), kI cI a1 12 (upd z1 (k + t) (w1 t)), kI cI a2 12 (upd z2 (k + t) (nC v (w2 t) (x2 k) (x3 k))), kI cI a3 12 (upd z3 (k + t) (nC v (w3 t) (x2 k) (x3 k)))] H := hP
          have hD : va_D A [kX0 b0 b1 b2 b3 (nI ee) (nI bv), kI cI b1 3 w1, kI cI b2 3 w2, kI cI b3 3 w3, kX0 h0 a1 a2 a3 (nI n9) (nI v), kI cI a1 12 (upd z1 (k + t) (w1 t)), kI cI a2 12 (upd z2 (k + t) (nC v (w2 t) (x2 k) (x3 k))), kI cI a3 12 (upd z3 (k + t) (nC v (w3 t) (x2 k) (x3 k)))] := hD
          refine lv_iinc (v := nI (t + 1)) (lv' := [(6, .int (nI (t + 1))), (0, .ref h0), (1, .int (nI k)), (2, .ref b0), (3, .int (nI (ee - 1))), (4, .int (x2 k)), (5, .int (x3 k))]) hx hb dX0_replace_152 hl (k := 6) rfl (nI_1 t) (by decide) rfl (fun ls hl => ?_)
          refine lv_goto (tgt := 98) hx hb dX0_replace_155 (by decide) ?_
          exact ih_98 (t + 1) (upd z1 (k + t) (w1 t)) (upd z2 (k + t) (nC v (w2 t) (x2 k) (x3 k))) (upd z3 (k + t) (nC v (w3 t) (x2 k) (x3 k))) (by omega) (RPT_s hz1) (RPT_s hz2) (RPT_s hz3) _ _ _ (hP.sub [4, 5, 6, 7, 0, 1, 2, 3] rfl) (hD.sub [4, 5, 6, 7, 0, 1, 2, 3] rfl rfl) hS (lv_sub hl [1, 2, 3, 4, 5, 6, 0] rfl)
      exact LOOP_98 ee 0 y1 y2 y3 (by omega) (RPT_0 (by rw [show k = i by omega]; exact hy1)) (RPT_0 (by rw [show k = i by omega]; exact hy2)) (RPT_0 (by rw [show k = i by omega]; exact hy3)) _ _ _ (hP.sub [0, 1, 2, 3, 4, 5, 6, 7] rfl) (hD.sub [0, 1, 2, 3, 4, 5, 6, 7] rfl rfl) hS (lv_sub hl [1, 2, 3, 4, 5, 6, 0] rfl)
    | succ n ih_54 =>
      intro i y1 y2 y3 hi hi9 hy1 hy2 hy3 H locs ls hP hD hS hl
      refine lv_iload hx hb dX0_replace_54 (lv_at hl 6 rfl) ?_
      refine lv_iload_n hx hb dX0_replace_56 rfl (lv_at hl 1 rfl) ?_
      refine lv_icmp_le (tgt := 95) hx hb dX0_replace_57 (by decide) (fun c_21 => ?_) (fun c_21 => ?_)
      · exact absurd c_21 (nI_ge (a := k) (b := i) (by omega) (by omega))
      refine lv_aload_n hx hb dX0_replace_60 rfl (lv_at hl 0 rfl) ?_
      refine lv_iload hx hb dX0_replace_61 (lv_at hl 6 rfl) ?_
      refine lv_iload_n hx hb dX0_replace_63 rfl (lv_at hl 3 rfl) ?_
      refine lv_iadd hx hb dX0_replace_64 ?_
      refine lv_nmi (show _ = (nI (i + (ee - 1))) from nI_add (i) ((ee - 1))) ?_
      refine lv_aload_n hx hb dX0_replace_65 rfl (lv_at hl 0 rfl) ?_
      refine va_get (D := D) (ci := 0) (v := .ref a1) (C := RX0) (T := TX0) (N := 5) hx hb hts iT_X0 hown hK1 hP 0 rfl rfl 0 (by decide) (hts _ t_55) (fun _ h9 => h9) rfl dX0_replace_66 ?_
      refine lv_iload hx hb dX0_replace_69 (lv_at hl 6 rfl) ?_
      refine va_iald hx hb hK1 hP 1 0 rfl rfl (vp_in_nI (by omega) (by omega)) dX0_replace_71 ?_
      refine lv_nmi (show _ = y1 i from by rw [nI_clamp (n := i) (by omega)]) ?_
      refine lv_aload_n hx hb dX0_replace_72 rfl (lv_at hl 0 rfl) ?_
      refine va_get (D := D) (ci := 0) (v := .ref a2) (C := RX0) (T := TX0) (N := 5) hx hb hts iT_X0 hown hK1 hP 0 rfl rfl 1 (by decide) (hts _ t_58) (fun _ h9 => h9) rfl dX0_replace_73 ?_
      refine lv_iload hx hb dX0_replace_76 (lv_at hl 6 rfl) ?_
      refine va_iald hx hb hK1 hP 2 0 rfl rfl (vp_in_nI (by omega) (by omega)) dX0_replace_78 ?_
      refine lv_nmi (show _ = y2 i from by rw [nI_clamp (n := i) (by omega)]) ?_
      refine lv_aload_n hx hb dX0_replace_79 rfl (lv_at hl 0 rfl) ?_
      refine va_get (D := D) (ci := 0) (v := .ref a3) (C := RX0) (T := TX0) (N := 5) hx hb hts iT_X0 hown hK1 hP 0 rfl rfl 2 (by decide) (hts _ t_60) (fun _ h9 => h9) rfl dX0_replace_80 ?_
      refine lv_iload hx hb dX0_replace_83 (lv_at hl 6 rfl) ?_
      refine va_iald hx hb hK1 hP 3 0 rfl rfl (vp_in_nI (by omega) (by omega)) dX0_replace_85 ?_
      refine lv_nmi (show _ = y3 i from by rw [nI_clamp (n := i) (by omega)]) ?_
      refine xc_v (wc := [kX0 h0 a1 a2 a3 (nI n9) (nI v), kI cI a1 12 y1, kI cI a2 12 y2, kI cI a3 12 y3]) (wr := [kX0 b0 b1 b2 b3 (nI ee) (nI bv), kI cI b1 3 w1, kI cI b2 3 w2, kI cI b3 3 w3]) (xrV (n := 4) (As := [.int (nI (i + (ee - 1))), .int (y1 i), .int (y2 i), .int (y3 i)]) (rest := []) (ci := 0) (q0 := 0) hd hK hP hD (c_X0_put l D cI cJ cZ cR _ h0 a1 a2 a3 12 n9 v (i + (ee - 1)) (y1 i) (y2 i) (y3 i) y1 y2 y3 (by omega) (by omega)) (gV t_275 mV_X0_put) hV_X0_put ⟨(Nat.le_of_ble_eq_true rfl), (Nat.le_of_ble_eq_true rfl)⟩ rfl rfl [0, 1, 2, 3] rfl rfl rfl hl.1 rfl (Nat.le_of_ble_eq_true rfl) dX0_replace_86 ⟨(Nat.le_of_ble_eq_true rfl), (Nat.le_of_ble_eq_true rfl)⟩) hP hD hS hA [0, 1, 2, 3] [4, 5, 6, 7] rfl rfl rfl (by decide) (fun u_23 H locs hw_24 hP hD hS => ?_)
      have hP : va_P D vwCl [kX0 b0 b1 b2 b3 (nI ee) (nI bv), kI cI b1 3 w1, kI cI b2 3 w2, kI cI b3 3 w3, kX0 h0 a1 a2 a3 (nI n9) (nI v), kI cI a1 12 (upd y1 (i + (ee - 1)) (y1 i)), kI cI a2 12 (upd y2 (i + (ee - 1)) (y2 i)), kI cI a3 12 (upd y3 (i + (ee - 1)) (y3 i))] H := hP
      have hD : va_D A [kX0 b0 b1 b2 b3 (nI ee) (nI bv), kI cI b1 3 w1, kI cI b2 3 w2, kI cI b3 3 w3, kX0 h0 a1 a2 a3 (nI n9) (nI v), kI cI a1 12 (upd y1 (i + (ee - 1)) (y1 i)), kI cI a2 12 (upd y2 (i + (ee - 1)) (y2 i)), kI cI a3 12 (upd y3 (i + (ee - 1)) (y3 i))] := hD
      refine lv_iinc (v := nI (i - 1)) (lv' := [(6, .int (nI (i - 1))), (0, .ref h0), (1, .int (nI k)), (2, .ref b0), (3, .int (nI (ee - 1))), (4, .int (x2 k)), (5, .int (x3 k))]) hx hb dX0_replace_89 hl (k := 6) rfl (dec1 (by omega)) (by decide) rfl (fun ls hl => ?_)
      refine lv_goto (tgt := 54) hx hb dX0_replace_92 (by decide) ?_
      exact ih_54 (i - 1) (upd y1 (i + (ee - 1)) (y1 i)) (upd y2 (i + (ee - 1)) (y2 i)) (upd y3 (i + (ee - 1)) (y3 i)) (by omega) (by omega) (SHR_s hy1 (by omega) (by omega)) (SHR_s hy2 (by omega) (by omega)) (SHR_s hy3 (by omega) (by omega)) _ _ _ (hP.sub [4, 5, 6, 7, 0, 1, 2, 3] rfl) (hD.sub [4, 5, 6, 7, 0, 1, 2, 3] rfl rfl) hS (lv_sub hl [1, 2, 3, 4, 5, 6, 0] rfl)
  exact LOOP_54 (n9 - 1 - k) (n9 - 1) x1 x2 x3 (by omega) (by omega) SHR_0 SHR_0 SHR_0 _ _ _ (hP.sub [7, 0, 1, 2, 3, 4, 5, 6] rfl) (hD.sub [7, 0, 1, 2, 3, 4, 5, 6] rfl rfl) hS (lv_sub hl [4, 5, 6, 3, 2, 1, 0] rfl)
set_option maxHeartbeats 4000000 in
set_option maxRecDepth 100000 in
theorem g_clear_x (sz : Nat) (h0 : Nat) (a1 : Nat) (a2 : Nat) (a3 : Nat) (w : Nat) (en : Int32) (ev : Int32)  : CTv l D cI cJ cZ cR yX0_clear cX0_clear 2 none 0 0 0 0 sz [.ref h0, .int (nI w)] [kX0 h0 a1 a2 a3 en ev] (fun (u : Unit) => True) (fun (u : Unit) => [kX0 h0 a1 a2 a3 0 (nI w)]) := by
  refine CTv.of (by decide) (Nat.le_of_ble_eq_true rfl) rfl ?_
  intro p e s m below meth c A Q ls hd hin hK hsz hP hD hA hS hl hret
  obtain ⟨hx, hb, hml, hown, hts⟩ := id hd
  have hK1 := hK.1
  have hown : s.vm.findClass RX0 = some m.cls := hown
  have hl : lv_has ls 2 [(0, .ref h0), (1, .int (nI w))] := hl
  refine lv_aload_n hx hb dX0_clear_0 rfl (lv_at hl 0 rfl) ?_
  refine lv_iconst (v := 0) hx hb dX0_clear_1 (by decide) ?_
  refine va_put (D := D) (ci := 0) (v := .int 0) (ty := .int) (C := RX0) (T := TX0) (N := 5) hx hb hts iT_X0 tyX0 tyX0_ok nmX0 hown hK1 hP hD hS 0 rfl rfl 3 (by decide) (hts _ t_62) (fun _ h9 => h9) rfl (by decide +kernel) rfl rfl (Nat.le_of_ble_eq_true rfl) dX0_clear_2 (fun H locs hP hD hS => ?_)
  have hP : va_P D vwCl [kX0 h0 a1 a2 a3 0 ev] H := hP
  have hD : va_D A [kX0 h0 a1 a2 a3 0 ev] := hD
  refine lv_aload_n hx hb dX0_clear_5 rfl (lv_at hl 0 rfl) ?_
  refine lv_iload_n hx hb dX0_clear_6 rfl (lv_at hl 1 rfl) ?_
  refine va_put (D := D) (ci := 0) (v := .int (nI w)) (ty := .int) (C := RX0) (T := TX0) (N := 5) hx hb hts iT_X0 tyX0 tyX0_ok nmX0 hown hK1 hP hD hS 0 rfl rfl 4 (by decide) (hts _ t_65) (fun _ h9 => h9) rfl (by decide +kernel) rfl rfl (Nat.le_of_ble_eq_true rfl) dX0_clear_7 (fun H locs hP hD hS => ?_)
  have hP : va_P D vwCl [kX0 h0 a1 a2 a3 0 (nI w)] H := hP
  have hD : va_D A [kX0 h0 a1 a2 a3 0 (nI w)] := hD
  exact hret _ _ _ _ _ _ () dX0_clear_10 hS (Nat.le_of_ble_eq_true rfl) (Nat.le_of_ble_eq_true rfl) trivial (hP.sub [0] rfl) (hD.sub [0] rfl rfl)
set_option maxHeartbeats 4000000 in
set_option maxRecDepth 100000 in
theorem g_copyEdges_0 (sz : Nat) (pg : Nat) (pc : Nat) (z : Nat) (pf : Nat → Int32) (h0 : Nat) (a1 : Nat) (a2 : Nat) (a3 : Nat) (E : Nat) (en : Int32) (ev : Int32) (x1 : Nat → Int32) (x2 : Nat → Int32) (x3 : Nat → Int32) (hz : z ≤ 16) (hE : z = 2 + 3 * E) (hE3 : E ≤ 3) : CTv l D cI cJ cZ cR yX3_copyEdges cX3_copyEdges 5 none 2 47 0 0 sz [.ref pg, .ref h0, .int 2] [kX3 pg pc (nI z), kI cI pc 16 pf, kX0 h0 a1 a2 a3 en ev, kI cI a1 3 x1, kI cI a2 3 x2, kI cI a3 3 x3] (fun (u : (Nat → Int32) × (Nat → Int32) × (Nat → Int32)) => (edT pf 2 E u.1 u.2.1 u.2.2)) (fun (u : (Nat → Int32) × (Nat → Int32) × (Nat → Int32)) => [kX3 pg pc (nI z), kI cI pc 16 pf, kX0 h0 a1 a2 a3 (nI E) (nI (ndN pf z)), kI cI a1 3 u.1, kI cI a2 3 u.2.1, kI cI a3 3 u.2.2]) := by
  refine CTv.of (by decide) (Nat.le_of_ble_eq_true rfl) rfl ?_
  intro p e s m below meth c A Q ls hd hin hK hsz hP hD hA hS hl hret
  obtain ⟨hx, hb, hml, hown, hts⟩ := id hd
  have hK1 := hK.1
  have hown : s.vm.findClass RX3 = some m.cls := hown
  have hl : lv_has ls 5 [(0, .ref pg), (1, .ref h0), (2, .int 2)] := hl
  have CUT_34 : ∀ (vv : Nat), (vv = ndN pf z) → ∀ (H : Heap) (locs : List Loc) (ls : Array Slot), va_P D vwCl [kX3 pg pc (nI z), kI cI pc 16 pf, kX0 h0 a1 a2 a3 en ev, kI cI a1 3 x1, kI cI a2 3 x2, kI cI a3 3 x3] H → va_D A [kX3 pg pc (nI z), kI cI pc 16 pf, kX0 h0 a1 a2 a3 en ev, kI cI a1 3 x1, kI cI a2 3 x2, kI cI a3 3 x3] → va_S A s.heap H locs → lv_has ls 5 [(0, .ref pg), (1, .ref h0), (2, .int 2), (3, .int (nI vv))] → W p l e (rM 2 0 0 47) s m ([.ref pg, .ref h0, .int 2] : List Value).toArray below meth c H locs 0 0 Q (F0 m 34 ls []) := by
    intro vv hvv H locs ls hP hD hS hl
    refine lv_aload_n hx hb dX3_copyEdges_34 rfl (lv_at hl 1 rfl) ?_
    refine lv_iload_n hx hb dX3_copyEdges_35 rfl (lv_at hl 3 rfl) ?_
    refine xc_v (wc := [kX0 h0 a1 a2 a3 en ev]) (wr := [kX3 pg pc (nI z), kI cI pc 16 pf, kI cI a1 3 x1, kI cI a2 3 x2, kI cI a3 3 x3]) (xrV (n := 1) (As := [.int (nI vv)]) (rest := []) (ci := 0) (q0 := 2) hd hK hP hD (g_clear_x l D cI cJ cZ cR _ h0 a1 a2 a3 vv en ev ) (gV t_267 mV_X0_clear) hV_X0_clear ⟨(Nat.le_of_ble_eq_true rfl), (Nat.le_of_ble_eq_true rfl)⟩ rfl rfl [2] rfl rfl rfl hl.1 rfl (Nat.le_of_ble_eq_true rfl) dX3_copyEdges_36 ⟨(Nat.le_of_ble_eq_true rfl), (Nat.le_of_ble_eq_true rfl)⟩) hP hD hS hA [2] [0, 1, 3, 4, 5] rfl rfl rfl (by decide) (fun u_2 H locs hw_3 hP hD hS => ?_)
    have hP : va_P D vwCl [kX3 pg pc (nI z), kI cI pc 16 pf, kI cI a1 3 x1, kI cI a2 3 x2, kI cI a3 3 x3, kX0 h0 a1 a2 a3 0 (nI vv)] H := hP
    have hD : va_D A [kX3 pg pc (nI z), kI cI pc 16 pf, kI cI a1 3 x1, kI cI a2 3 x2, kI cI a3 3 x3, kX0 h0 a1 a2 a3 0 (nI vv)] := hD
    refine lv_iload_n hx hb dX3_copyEdges_39 rfl (lv_at hl 2 rfl) ?_
    refine lv_istore (lv' := [(4, .int 2), (0, .ref pg), (1, .ref h0), (2, .int 2), (3, .int (nI vv))]) hx hb dX3_copyEdges_40 hl (by decide) rfl (fun ls hl => ?_)
    have LOOP_42 : ∀ (n : Nat) (k : Nat) (y1 : Nat → Int32) (y2 : Nat → Int32) (y3 : Nat → Int32), (k + n = E) → (edT pf 2 k y1 y2 y3) → ∀ (H : Heap) (locs : List Loc) (ls : Array Slot), va_P D vwCl [kX3 pg pc (nI z), kI cI pc 16 pf, kX0 h0 a1 a2 a3 (nI k) (nI vv), kI cI a1 3 y1, kI cI a2 3 y2, kI cI a3 3 y3] H → va_D A [kX3 pg pc (nI z), kI cI pc 16 pf, kX0 h0 a1 a2 a3 (nI k) (nI vv), kI cI a1 3 y1, kI cI a2 3 y2, kI cI a3 3 y3] → va_S A s.heap H locs → lv_has ls 5 [(0, .ref pg), (1, .ref h0), (2, .int 2), (4, .int (nI (2 + 3 * k)))] → W p l e (rM 2 0 0 47) s m ([.ref pg, .ref h0, .int 2] : List Value).toArray below meth c H locs 0 0 Q (F0 m 42 ls []) := by
      intro n
      induction n with
      | zero =>
        intro k y1 y2 y3 hk hed H locs ls hP hD hS hl
        have hz_k : k = E := by omega
        try rw [hz_k] at hP
        try rw [hz_k] at hD
        try rw [hz_k] at hl
        try rw [hz_k] at hed
        have hz_vv : vv = ndN pf z := by omega
        try rw [hz_vv] at hP
        try rw [hz_vv] at hD
        try rw [hz_vv] at hl
        try rw [hz_vv] at hed
        refine lv_iload hx hb dX3_copyEdges_42 (lv_at hl 3 rfl) ?_
        refine lv_iconst (v := 2) hx hb dX3_copyEdges_44 (by decide) ?_
        refine lv_iadd hx hb dX3_copyEdges_45 ?_
        refine lv_nmi (show _ = (nI ((2 + 3 * E) + 2)) from nI_add ((2 + 3 * E)) (2)) ?_
        refine lv_aload_n hx hb dX3_copyEdges_46 rfl (lv_at hl 0 rfl) ?_
        refine va_get (D := D) (ci := 3) (v := .int (nI z)) (C := RX3) (T := TX3) (N := 2) hx hb hts iT_X3 hown hK1 hP 0 rfl rfl 1 (by decide) (hts _ t_28) (fun _ h9 => h9) rfl dX3_copyEdges_47 ?_
        refine lv_icmp_ge (tgt := 97) hx hb dX3_copyEdges_50 (by decide) (fun c_4 => ?_) (fun c_4 => ?_)
        rotate_left
        · exact absurd (nI_le (a := z) (b := ((2 + 3 * E) + 2)) (by omega) (by omega)) c_4
        exact hret _ _ _ _ _ _ (y1, y2, y3) dX3_copyEdges_97 hS (Nat.le_of_ble_eq_true rfl) (Nat.le_of_ble_eq_true rfl) hed (hP.sub [0, 1, 2, 3, 4, 5] rfl) (hD.sub [0, 1, 2, 3, 4, 5] rfl rfl)
      | succ n ih_42 =>
        intro k y1 y2 y3 hk hed H locs ls hP hD hS hl
        refine lv_iload hx hb dX3_copyEdges_42 (lv_at hl 3 rfl) ?_
        refine lv_iconst (v := 2) hx hb dX3_copyEdges_44 (by decide) ?_
        refine lv_iadd hx hb dX3_copyEdges_45 ?_
        refine lv_nmi (show _ = (nI ((2 + 3 * k) + 2)) from nI_add ((2 + 3 * k)) (2)) ?_
        refine lv_aload_n hx hb dX3_copyEdges_46 rfl (lv_at hl 0 rfl) ?_
        refine va_get (D := D) (ci := 3) (v := .int (nI z)) (C := RX3) (T := TX3) (N := 2) hx hb hts iT_X3 hown hK1 hP 0 rfl rfl 1 (by decide) (hts _ t_28) (fun _ h9 => h9) rfl dX3_copyEdges_47 ?_
        refine lv_icmp_ge (tgt := 97) hx hb dX3_copyEdges_50 (by decide) (fun c_5 => ?_) (fun c_5 => ?_)
        · exact absurd c_5 (nI_ge (a := ((2 + 3 * k) + 2)) (b := z) (by omega) (by omega))
        refine lv_aload_n hx hb dX3_copyEdges_53 rfl (lv_at hl 1 rfl) ?_
        refine lv_aload_n hx hb dX3_copyEdges_54 rfl (lv_at hl 0 rfl) ?_
        refine va_get (D := D) (ci := 3) (v := .ref pc) (C := RX3) (T := TX3) (N := 2) hx hb hts iT_X3 hown hK1 hP 0 rfl rfl 0 (by decide) (hts _ t_26) (fun _ h9 => h9) rfl dX3_copyEdges_55 ?_
        refine lv_iload hx hb dX3_copyEdges_58 (lv_at hl 3 rfl) ?_
        refine va_iald hx hb hK1 hP 1 0 rfl rfl (vp_in_nI (by omega) (by omega)) dX3_copyEdges_60 ?_
        refine lv_nmi (show _ = pf (2 + 3 * k) from by rw [nI_clamp (n := (2 + 3 * k)) (by omega)]) ?_
        refine xc_i (wc := []) (wr := [kX3 pg pc (nI z), kI cI pc 16 pf, kX0 h0 a1 a2 a3 (nI k) (nI vv), kI cI a1 3 y1, kI cI a2 3 y2, kI cI a3 3 y3]) (xrS (n := 1) (As := [.int (pf (2 + 3 * k))]) (rest := [.ref h0]) hd hK hP hD (c_X3_letterOf l D cI cJ cZ cR _ (pf (2 + 3 * k)) ) (gS t_213 mS_X3_letterOf) hS_X3_letterOf ⟨(Nat.le_of_ble_eq_true rfl), (Nat.le_of_ble_eq_true rfl)⟩ [] rfl rfl rfl hl.1 rfl (Nat.le_of_ble_eq_true rfl) dX3_copyEdges_61 ⟨(Nat.le_of_ble_eq_true rfl), (Nat.le_of_ble_eq_true rfl)⟩) hP hD hS hA [] [0, 1, 2, 3, 4, 5] rfl rfl rfl (by decide) (fun r_6 u_7 H locs hw_8 hP hD hS => ?_)
        have hw_9 : r_6 = (cL (pf (2 + 3 * k))) := hw_8
        subst hw_9
        have hP : va_P D vwCl [kX3 pg pc (nI z), kI cI pc 16 pf, kX0 h0 a1 a2 a3 (nI k) (nI vv), kI cI a1 3 y1, kI cI a2 3 y2, kI cI a3 3 y3] H := hP
        have hD : va_D A [kX3 pg pc (nI z), kI cI pc 16 pf, kX0 h0 a1 a2 a3 (nI k) (nI vv), kI cI a1 3 y1, kI cI a2 3 y2, kI cI a3 3 y3] := hD
        refine lv_aload_n hx hb dX3_copyEdges_64 rfl (lv_at hl 0 rfl) ?_
        refine va_get (D := D) (ci := 3) (v := .ref pc) (C := RX3) (T := TX3) (N := 2) hx hb hts iT_X3 hown hK1 hP 0 rfl rfl 0 (by decide) (hts _ t_26) (fun _ h9 => h9) rfl dX3_copyEdges_65 ?_
        refine lv_iload hx hb dX3_copyEdges_68 (lv_at hl 3 rfl) ?_
        refine lv_iconst (v := 1) hx hb dX3_copyEdges_70 (by decide) ?_
        refine lv_iadd hx hb dX3_copyEdges_71 ?_
        refine lv_nmi (show _ = (nI ((2 + 3 * k) + 1)) from nI_add ((2 + 3 * k)) (1)) ?_
        refine va_iald hx hb hK1 hP 1 0 rfl rfl (vp_in_nI (by omega) (by omega)) dX3_copyEdges_72 ?_
        refine lv_nmi (show _ = pf ((2 + 3 * k) + 1) from by rw [nI_clamp (n := ((2 + 3 * k) + 1)) (by omega)]) ?_
        refine lv_bipush (v := 48) hx hb dX3_copyEdges_73 (by decide) ?_
        refine lv_isub hx hb dX3_copyEdges_75 ?_
        refine lv_aload_n hx hb dX3_copyEdges_76 rfl (lv_at hl 0 rfl) ?_
        refine va_get (D := D) (ci := 3) (v := .ref pc) (C := RX3) (T := TX3) (N := 2) hx hb hts iT_X3 hown hK1 hP 0 rfl rfl 0 (by decide) (hts _ t_26) (fun _ h9 => h9) rfl dX3_copyEdges_77 ?_
        refine lv_iload hx hb dX3_copyEdges_80 (lv_at hl 3 rfl) ?_
        refine lv_iconst (v := 2) hx hb dX3_copyEdges_82 (by decide) ?_
        refine lv_iadd hx hb dX3_copyEdges_83 ?_
        refine lv_nmi (show _ = (nI ((2 + 3 * k) + 2)) from nI_add ((2 + 3 * k)) (2)) ?_
        refine va_iald hx hb hK1 hP 1 0 rfl rfl (vp_in_nI (by omega) (by omega)) dX3_copyEdges_84 ?_
        refine lv_nmi (show _ = pf ((2 + 3 * k) + 2) from by rw [nI_clamp (n := ((2 + 3 * k) + 2)) (by omega)]) ?_
        refine lv_bipush (v := 48) hx hb dX3_copyEdges_85 (by decide) ?_
        refine lv_isub hx hb dX3_copyEdges_87 ?_
        refine xc_v (wc := [kX0 h0 a1 a2 a3 (nI k) (nI vv), kI cI a1 3 y1, kI cI a2 3 y2, kI cI a3 3 y3]) (wr := [kX3 pg pc (nI z), kI cI pc 16 pf]) (xrV (n := 3) (As := [.int (cL (pf (2 + 3 * k))), .int ((pf ((2 + 3 * k) + 1)) - 48), .int ((pf ((2 + 3 * k) + 2)) - 48)]) (rest := []) (ci := 0) (q0 := 2) hd hK hP hD (c_X0_append l D cI cJ cZ cR _ h0 a1 a2 a3 3 k vv (cL (pf (2 + 3 * k))) ((pf ((2 + 3 * k) + 1)) - 48) ((pf ((2 + 3 * k) + 2)) - 48) y1 y2 y3 (by omega) (by omega)) (gV t_271 mV_X0_append) hV_X0_append ⟨(Nat.le_of_ble_eq_true rfl), (Nat.le_of_ble_eq_true rfl)⟩ rfl rfl [2, 3, 4, 5] rfl rfl rfl hl.1 rfl (Nat.le_of_ble_eq_true rfl) dX3_copyEdges_88 ⟨(Nat.le_of_ble_eq_true rfl), (Nat.le_of_ble_eq_true rfl)⟩) hP hD hS hA [2, 3, 4, 5] [0, 1] rfl rfl rfl (by decide) (fun u_11 H locs hw_12 hP hD hS => ?_)
        have hP : va_P D vwCl [kX3 pg pc (nI z), kI cI pc 16 pf, kX0 h0 a1 a2 a3 (nI (k + 1)) (nI vv), kI cI a1 3 (upd y1 k (cL (pf (2 + 3 * k)))), kI cI a2 3 (upd y2 k ((pf ((2 + 3 * k) + 1)) - 48)), kI cI a3 3 (upd y3 k ((pf ((2 + 3 * k) + 2)) - 48))] H := hP
        have hD : va_D A [kX3 pg pc (nI z), kI cI pc 16 pf, kX0 h0 a1 a2 a3 (nI (k + 1)) (nI vv), kI cI a1 3 (upd y1 k (cL (pf (2 + 3 * k)))), kI cI a2 3 (upd y2 k ((pf ((2 + 3 * k) + 1)) - 48)), kI cI a3 3 (upd y3 k ((pf ((2 + 3 * k) + 2)) - 48))] := hD
        refine lv_iinc (v := nI (2 + 3 * (k + 1))) (lv' := [(4, .int (nI (2 + 3 * (k + 1)))), (0, .ref pg), (1, .ref h0), (2, .int 2)]) hx hb dX3_copyEdges_91 hl (k := 3) rfl (inc3 2 k) (by decide) rfl (fun ls hl => ?_)
        refine lv_goto (tgt := 42) hx hb dX3_copyEdges_94 (by decide) ?_
        exact ih_42 (k + 1) (upd y1 k (cL (pf (2 + 3 * k)))) (upd y2 k ((pf ((2 + 3 * k) + 1)) - 48)) (upd y3 k ((pf ((2 + 3 * k) + 2)) - 48)) (by omega) (edT_s hed) _ _ _ (hP.sub [0, 1, 2, 3, 4, 5] rfl) (hD.sub [0, 1, 2, 3, 4, 5] rfl rfl) hS (lv_sub hl [1, 2, 3, 0] rfl)
    exact LOOP_42 E 0 x1 x2 x3 (by omega) edT_0 _ _ _ (hP.sub [0, 1, 5, 2, 3, 4] rfl) (hD.sub [0, 1, 5, 2, 3, 4] rfl rfl) hS (lv_sub hl [1, 2, 3, 0] rfl)
  refine lv_iconst (v := 2) hx hb dX3_copyEdges_0 (by decide) ?_
  refine lv_istore_n (lv' := [(3, .int 2), (0, .ref pg), (1, .ref h0), (2, .int 2)]) hx hb dX3_copyEdges_1 rfl hl (by decide) rfl (fun ls hl => ?_)
  refine lv_iconst (v := 2) hx hb dX3_copyEdges_2 (by decide) ?_
  refine lv_istore (lv' := [(4, .int 2), (3, .int 2), (0, .ref pg), (1, .ref h0), (2, .int 2)]) hx hb dX3_copyEdges_3 hl (by decide) rfl (fun ls hl => ?_)
  refine lv_iload hx hb dX3_copyEdges_5 (lv_at hl 0 rfl) ?_
  refine lv_iconst (v := 5) hx hb dX3_copyEdges_7 (by decide) ?_
  refine lv_icmp_ge (tgt := 34) hx hb dX3_copyEdges_8 (by decide) (fun c_13 => ?_) (fun c_13 => ?_)
  · exact absurd c_13 (by decide)
  refine lv_iload_n hx hb dX3_copyEdges_11 rfl (lv_at hl 1 rfl) ?_
  refine lv_aload_n hx hb dX3_copyEdges_12 rfl (lv_at hl 2 rfl) ?_
  refine lv_iload hx hb dX3_copyEdges_13 (lv_at hl 0 rfl) ?_
  refine xc_i (wc := [kX3 pg pc (nI z), kI cI pc 16 pf]) (wr := [kX0 h0 a1 a2 a3 en ev, kI cI a1 3 x1, kI cI a2 3 x2, kI cI a3 3 x3]) (xrV (n := 1) (As := [.int 2]) (rest := [.int 2]) (ci := 3) (q0 := 0) hd hK hP hD (c_X3_names l D cI cJ cZ cR _ pg pc z pf 2 hz) (gV t_236 mV_X3_names) hV_X3_names ⟨(Nat.le_of_ble_eq_true rfl), (Nat.le_of_ble_eq_true rfl)⟩ rfl rfl [0, 1] rfl rfl rfl hl.1 rfl (Nat.le_of_ble_eq_true rfl) dX3_copyEdges_15 ⟨(Nat.le_of_ble_eq_true rfl), (Nat.le_of_ble_eq_true rfl)⟩) hP hD hS hA [0, 1] [2, 3, 4, 5] rfl rfl rfl (by decide) (fun r_14 u_15 H locs hw_16 hP hD hS => ?_)
  have hw_17 : r_14 = (nmB pf (nI (48 + 2)) z) := hw_16
  subst hw_17
  have hP : va_P D vwCl [kX0 h0 a1 a2 a3 en ev, kI cI a1 3 x1, kI cI a2 3 x2, kI cI a3 3 x3, kX3 pg pc (nI z), kI cI pc 16 pf] H := hP
  have hD : va_D A [kX0 h0 a1 a2 a3 en ev, kI cI a1 3 x1, kI cI a2 3 x2, kI cI a3 3 x3, kX3 pg pc (nI z), kI cI pc 16 pf] := hD
  refine lv_nmi (show _ = (nmB pf 50 z : Int32) from rfl) ?_
  refine lv_if_eq (tgt := 25) hx hb dX3_copyEdges_18 (by decide) (fun c_18 => ?_) (fun c_18 => ?_)
  · skip
    refine lv_iconst (v := 0) hx hb dX3_copyEdges_25 (by decide) ?_
    refine lv_iadd hx hb dX3_copyEdges_26 ?_
    refine lv_nmi (show _ = (2 : Int32) from by decide +kernel) ?_
    refine lv_istore_n (lv' := [(3, .int 2), (4, .int 2), (0, .ref pg), (1, .ref h0), (2, .int 2)]) hx hb dX3_copyEdges_27 rfl hl (by decide) rfl (fun ls hl => ?_)
    refine lv_iinc (v := 3) (lv' := [(4, .int 3), (3, .int 2), (0, .ref pg), (1, .ref h0), (2, .int 2)]) hx hb dX3_copyEdges_28 hl (k := 1) rfl (by decide) (by decide) rfl (fun ls hl => ?_)
    refine lv_goto (tgt := 5) hx hb dX3_copyEdges_31 (by decide) ?_
    refine lv_iload hx hb dX3_copyEdges_5 (lv_at hl 0 rfl) ?_
    refine lv_iconst (v := 5) hx hb dX3_copyEdges_7 (by decide) ?_
    refine lv_icmp_ge (tgt := 34) hx hb dX3_copyEdges_8 (by decide) (fun c_19 => ?_) (fun c_19 => ?_)
    · exact absurd c_19 (by decide)
    refine lv_iload_n hx hb dX3_copyEdges_11 rfl (lv_at hl 1 rfl) ?_
    refine lv_aload_n hx hb dX3_copyEdges_12 rfl (lv_at hl 2 rfl) ?_
    refine lv_iload hx hb dX3_copyEdges_13 (lv_at hl 0 rfl) ?_
    refine xc_i (wc := [kX3 pg pc (nI z), kI cI pc 16 pf]) (wr := [kX0 h0 a1 a2 a3 en ev, kI cI a1 3 x1, kI cI a2 3 x2, kI cI a3 3 x3]) (xrV (n := 1) (As := [.int 3]) (rest := [.int 2]) (ci := 3) (q0 := 4) hd hK hP hD (c_X3_names l D cI cJ cZ cR _ pg pc z pf 3 hz) (gV t_236 mV_X3_names) hV_X3_names ⟨(Nat.le_of_ble_eq_true rfl), (Nat.le_of_ble_eq_true rfl)⟩ rfl rfl [4, 5] rfl rfl rfl hl.1 rfl (Nat.le_of_ble_eq_true rfl) dX3_copyEdges_15 ⟨(Nat.le_of_ble_eq_true rfl), (Nat.le_of_ble_eq_true rfl)⟩) hP hD hS hA [4, 5] [0, 1, 2, 3] rfl rfl rfl (by decide) (fun r_20 u_21 H locs hw_22 hP hD hS => ?_)
    have hw_23 : r_20 = (nmB pf (nI (48 + 3)) z) := hw_22
    subst hw_23
    have hP : va_P D vwCl [kX0 h0 a1 a2 a3 en ev, kI cI a1 3 x1, kI cI a2 3 x2, kI cI a3 3 x3, kX3 pg pc (nI z), kI cI pc 16 pf] H := hP
    have hD : va_D A [kX0 h0 a1 a2 a3 en ev, kI cI a1 3 x1, kI cI a2 3 x2, kI cI a3 3 x3, kX3 pg pc (nI z), kI cI pc 16 pf] := hD
    refine lv_nmi (show _ = (nmB pf 51 z : Int32) from rfl) ?_
    refine lv_if_eq (tgt := 25) hx hb dX3_copyEdges_18 (by decide) (fun c_24 => ?_) (fun c_24 => ?_)
    · skip
      refine lv_iconst (v := 0) hx hb dX3_copyEdges_25 (by decide) ?_
      refine lv_iadd hx hb dX3_copyEdges_26 ?_
      refine lv_nmi (show _ = (2 : Int32) from by decide +kernel) ?_
      refine lv_istore_n (lv' := [(3, .int 2), (4, .int 3), (0, .ref pg), (1, .ref h0), (2, .int 2)]) hx hb dX3_copyEdges_27 rfl hl (by decide) rfl (fun ls hl => ?_)
      refine lv_iinc (v := 4) (lv' := [(4, .int 4), (3, .int 2), (0, .ref pg), (1, .ref h0), (2, .int 2)]) hx hb dX3_copyEdges_28 hl (k := 1) rfl (by decide) (by decide) rfl (fun ls hl => ?_)
      refine lv_goto (tgt := 5) hx hb dX3_copyEdges_31 (by decide) ?_
      refine lv_iload hx hb dX3_copyEdges_5 (lv_at hl 0 rfl) ?_
      refine lv_iconst (v := 5) hx hb dX3_copyEdges_7 (by decide) ?_
      refine lv_icmp_ge (tgt := 34) hx hb dX3_copyEdges_8 (by decide) (fun c_25 => ?_) (fun c_25 => ?_)
      · exact absurd c_25 (by decide)
      refine lv_iload_n hx hb dX3_copyEdges_11 rfl (lv_at hl 1 rfl) ?_
      refine lv_aload_n hx hb dX3_copyEdges_12 rfl (lv_at hl 2 rfl) ?_
      refine lv_iload hx hb dX3_copyEdges_13 (lv_at hl 0 rfl) ?_
      refine xc_i (wc := [kX3 pg pc (nI z), kI cI pc 16 pf]) (wr := [kX0 h0 a1 a2 a3 en ev, kI cI a1 3 x1, kI cI a2 3 x2, kI cI a3 3 x3]) (xrV (n := 1) (As := [.int 4]) (rest := [.int 2]) (ci := 3) (q0 := 4) hd hK hP hD (c_X3_names l D cI cJ cZ cR _ pg pc z pf 4 hz) (gV t_236 mV_X3_names) hV_X3_names ⟨(Nat.le_of_ble_eq_true rfl), (Nat.le_of_ble_eq_true rfl)⟩ rfl rfl [4, 5] rfl rfl rfl hl.1 rfl (Nat.le_of_ble_eq_true rfl) dX3_copyEdges_15 ⟨(Nat.le_of_ble_eq_true rfl), (Nat.le_of_ble_eq_true rfl)⟩) hP hD hS hA [4, 5] [0, 1, 2, 3] rfl rfl rfl (by decide) (fun r_26 u_27 H locs hw_28 hP hD hS => ?_)
      have hw_29 : r_26 = (nmB pf (nI (48 + 4)) z) := hw_28
      subst hw_29
      have hP : va_P D vwCl [kX0 h0 a1 a2 a3 en ev, kI cI a1 3 x1, kI cI a2 3 x2, kI cI a3 3 x3, kX3 pg pc (nI z), kI cI pc 16 pf] H := hP
      have hD : va_D A [kX0 h0 a1 a2 a3 en ev, kI cI a1 3 x1, kI cI a2 3 x2, kI cI a3 3 x3, kX3 pg pc (nI z), kI cI pc 16 pf] := hD
      refine lv_nmi (show _ = (nmB pf 52 z : Int32) from rfl) ?_
      refine lv_if_eq (tgt := 25) hx hb dX3_copyEdges_18 (by decide) (fun c_30 => ?_) (fun c_30 => ?_)
      · skip
        refine lv_iconst (v := 0) hx hb dX3_copyEdges_25 (by decide) ?_
        refine lv_iadd hx hb dX3_copyEdges_26 ?_
        refine lv_nmi (show _ = (2 : Int32) from by decide +kernel) ?_
        refine lv_istore_n (lv' := [(3, .int 2), (4, .int 4), (0, .ref pg), (1, .ref h0), (2, .int 2)]) hx hb dX3_copyEdges_27 rfl hl (by decide) rfl (fun ls hl => ?_)
        refine lv_iinc (v := 5) (lv' := [(4, .int 5), (3, .int 2), (0, .ref pg), (1, .ref h0), (2, .int 2)]) hx hb dX3_copyEdges_28 hl (k := 1) rfl (by decide) (by decide) rfl (fun ls hl => ?_)
        refine lv_goto (tgt := 5) hx hb dX3_copyEdges_31 (by decide) ?_
        refine lv_iload hx hb dX3_copyEdges_5 (lv_at hl 0 rfl) ?_
        refine lv_iconst (v := 5) hx hb dX3_copyEdges_7 (by decide) ?_
        refine lv_icmp_ge (tgt := 34) hx hb dX3_copyEdges_8 (by decide) (fun c_31 => ?_) (fun c_31 => ?_)
        rotate_left
        · exact absurd c_31 (by decide)
        exact CUT_34 2 (by simp [ndN, c_18, c_24, c_30]) _ _ _ (hP.sub [4, 5, 0, 1, 2, 3] rfl) (hD.sub [4, 5, 0, 1, 2, 3] rfl rfl) hS (lv_sub hl [2, 3, 4, 1] rfl)
      · skip
        refine lv_iconst (v := 1) hx hb dX3_copyEdges_21 (by decide) ?_
        refine lv_goto (tgt := 26) hx hb dX3_copyEdges_22 (by decide) ?_
        refine lv_iadd hx hb dX3_copyEdges_26 ?_
        refine lv_nmi (show _ = (3 : Int32) from by decide +kernel) ?_
        refine lv_istore_n (lv' := [(3, .int 3), (4, .int 4), (0, .ref pg), (1, .ref h0), (2, .int 2)]) hx hb dX3_copyEdges_27 rfl hl (by decide) rfl (fun ls hl => ?_)
        refine lv_iinc (v := 5) (lv' := [(4, .int 5), (3, .int 3), (0, .ref pg), (1, .ref h0), (2, .int 2)]) hx hb dX3_copyEdges_28 hl (k := 1) rfl (by decide) (by decide) rfl (fun ls hl => ?_)
        refine lv_goto (tgt := 5) hx hb dX3_copyEdges_31 (by decide) ?_
        refine lv_iload hx hb dX3_copyEdges_5 (lv_at hl 0 rfl) ?_
        refine lv_iconst (v := 5) hx hb dX3_copyEdges_7 (by decide) ?_
        refine lv_icmp_ge (tgt := 34) hx hb dX3_copyEdges_8 (by decide) (fun c_32 => ?_) (fun c_32 => ?_)
        rotate_left
        · exact absurd c_32 (by decide)
        exact CUT_34 3 (by simp [ndN, c_18, c_24, c_30]) _ _ _ (hP.sub [4, 5, 0, 1, 2, 3] rfl) (hD.sub [4, 5, 0, 1, 2, 3] rfl rfl) hS (lv_sub hl [2, 3, 4, 1] rfl)
    · skip
      refine lv_iconst (v := 1) hx hb dX3_copyEdges_21 (by decide) ?_
      refine lv_goto (tgt := 26) hx hb dX3_copyEdges_22 (by decide) ?_
      refine lv_iadd hx hb dX3_copyEdges_26 ?_
      refine lv_nmi (show _ = (3 : Int32) from by decide +kernel) ?_
      refine lv_istore_n (lv' := [(3, .int 3), (4, .int 3), (0, .ref pg), (1, .ref h0), (2, .int 2)]) hx hb dX3_copyEdges_27 rfl hl (by decide) rfl (fun ls hl => ?_)
      refine lv_iinc (v := 4) (lv' := [(4, .int 4), (3, .int 3), (0, .ref pg), (1, .ref h0), (2, .int 2)]) hx hb dX3_copyEdges_28 hl (k := 1) rfl (by decide) (by decide) rfl (fun ls hl => ?_)
      refine lv_goto (tgt := 5) hx hb dX3_copyEdges_31 (by decide) ?_
      refine lv_iload hx hb dX3_copyEdges_5 (lv_at hl 0 rfl) ?_
      refine lv_iconst (v := 5) hx hb dX3_copyEdges_7 (by decide) ?_
      refine lv_icmp_ge (tgt := 34) hx hb dX3_copyEdges_8 (by decide) (fun c_33 => ?_) (fun c_33 => ?_)
      · exact absurd c_33 (by decide)
      refine lv_iload_n hx hb dX3_copyEdges_11 rfl (lv_at hl 1 rfl) ?_
      refine lv_aload_n hx hb dX3_copyEdges_12 rfl (lv_at hl 2 rfl) ?_
      refine lv_iload hx hb dX3_copyEdges_13 (lv_at hl 0 rfl) ?_
      refine xc_i (wc := [kX3 pg pc (nI z), kI cI pc 16 pf]) (wr := [kX0 h0 a1 a2 a3 en ev, kI cI a1 3 x1, kI cI a2 3 x2, kI cI a3 3 x3]) (xrV (n := 1) (As := [.int 4]) (rest := [.int 3]) (ci := 3) (q0 := 4) hd hK hP hD (c_X3_names l D cI cJ cZ cR _ pg pc z pf 4 hz) (gV t_236 mV_X3_names) hV_X3_names ⟨(Nat.le_of_ble_eq_true rfl), (Nat.le_of_ble_eq_true rfl)⟩ rfl rfl [4, 5] rfl rfl rfl hl.1 rfl (Nat.le_of_ble_eq_true rfl) dX3_copyEdges_15 ⟨(Nat.le_of_ble_eq_true rfl), (Nat.le_of_ble_eq_true rfl)⟩) hP hD hS hA [4, 5] [0, 1, 2, 3] rfl rfl rfl (by decide) (fun r_34 u_35 H locs hw_36 hP hD hS => ?_)
      have hw_37 : r_34 = (nmB pf (nI (48 + 4)) z) := hw_36
      subst hw_37
      have hP : va_P D vwCl [kX0 h0 a1 a2 a3 en ev, kI cI a1 3 x1, kI cI a2 3 x2, kI cI a3 3 x3, kX3 pg pc (nI z), kI cI pc 16 pf] H := hP
      have hD : va_D A [kX0 h0 a1 a2 a3 en ev, kI cI a1 3 x1, kI cI a2 3 x2, kI cI a3 3 x3, kX3 pg pc (nI z), kI cI pc 16 pf] := hD
      refine lv_nmi (show _ = (nmB pf 52 z : Int32) from rfl) ?_
      refine lv_if_eq (tgt := 25) hx hb dX3_copyEdges_18 (by decide) (fun c_38 => ?_) (fun c_38 => ?_)
      · skip
        refine lv_iconst (v := 0) hx hb dX3_copyEdges_25 (by decide) ?_
        refine lv_iadd hx hb dX3_copyEdges_26 ?_
        refine lv_nmi (show _ = (3 : Int32) from by decide +kernel) ?_
        refine lv_istore_n (lv' := [(3, .int 3), (4, .int 4), (0, .ref pg), (1, .ref h0), (2, .int 2)]) hx hb dX3_copyEdges_27 rfl hl (by decide) rfl (fun ls hl => ?_)
        refine lv_iinc (v := 5) (lv' := [(4, .int 5), (3, .int 3), (0, .ref pg), (1, .ref h0), (2, .int 2)]) hx hb dX3_copyEdges_28 hl (k := 1) rfl (by decide) (by decide) rfl (fun ls hl => ?_)
        refine lv_goto (tgt := 5) hx hb dX3_copyEdges_31 (by decide) ?_
        refine lv_iload hx hb dX3_copyEdges_5 (lv_at hl 0 rfl) ?_
        refine lv_iconst (v := 5) hx hb dX3_copyEdges_7 (by decide) ?_
        refine lv_icmp_ge (tgt := 34) hx hb dX3_copyEdges_8 (by decide) (fun c_39 => ?_) (fun c_39 => ?_)
        rotate_left
        · exact absurd c_39 (by decide)
        exact CUT_34 3 (by simp [ndN, c_18, c_24, c_38]) _ _ _ (hP.sub [4, 5, 0, 1, 2, 3] rfl) (hD.sub [4, 5, 0, 1, 2, 3] rfl rfl) hS (lv_sub hl [2, 3, 4, 1] rfl)
      · skip
        refine lv_iconst (v := 1) hx hb dX3_copyEdges_21 (by decide) ?_
        refine lv_goto (tgt := 26) hx hb dX3_copyEdges_22 (by decide) ?_
        refine lv_iadd hx hb dX3_copyEdges_26 ?_
        refine lv_nmi (show _ = (4 : Int32) from by decide +kernel) ?_
        refine lv_istore_n (lv' := [(3, .int 4), (4, .int 4), (0, .ref pg), (1, .ref h0), (2, .int 2)]) hx hb dX3_copyEdges_27 rfl hl (by decide) rfl (fun ls hl => ?_)
        refine lv_iinc (v := 5) (lv' := [(4, .int 5), (3, .int 4), (0, .ref pg), (1, .ref h0), (2, .int 2)]) hx hb dX3_copyEdges_28 hl (k := 1) rfl (by decide) (by decide) rfl (fun ls hl => ?_)
        refine lv_goto (tgt := 5) hx hb dX3_copyEdges_31 (by decide) ?_
        refine lv_iload hx hb dX3_copyEdges_5 (lv_at hl 0 rfl) ?_
        refine lv_iconst (v := 5) hx hb dX3_copyEdges_7 (by decide) ?_
        refine lv_icmp_ge (tgt := 34) hx hb dX3_copyEdges_8 (by decide) (fun c_40 => ?_) (fun c_40 => ?_)
        rotate_left
        · exact absurd c_40 (by decide)
        exact CUT_34 4 (by simp [ndN, c_18, c_24, c_38]) _ _ _ (hP.sub [4, 5, 0, 1, 2, 3] rfl) (hD.sub [4, 5, 0, 1, 2, 3] rfl rfl) hS (lv_sub hl [2, 3, 4, 1] rfl)
  · skip
    refine lv_iconst (v := 1) hx hb dX3_copyEdges_21 (by decide) ?_
    refine lv_goto (tgt := 26) hx hb dX3_copyEdges_22 (by decide) ?_
    refine lv_iadd hx hb dX3_copyEdges_26 ?_
    refine lv_nmi (show _ = (3 : Int32) from by decide +kernel) ?_
    refine lv_istore_n (lv' := [(3, .int 3), (4, .int 2), (0, .ref pg), (1, .ref h0), (2, .int 2)]) hx hb dX3_copyEdges_27 rfl hl (by decide) rfl (fun ls hl => ?_)
    refine lv_iinc (v := 3) (lv' := [(4, .int 3), (3, .int 3), (0, .ref pg), (1, .ref h0), (2, .int 2)]) hx hb dX3_copyEdges_28 hl (k := 1) rfl (by decide) (by decide) rfl (fun ls hl => ?_)
    refine lv_goto (tgt := 5) hx hb dX3_copyEdges_31 (by decide) ?_
    refine lv_iload hx hb dX3_copyEdges_5 (lv_at hl 0 rfl) ?_
    refine lv_iconst (v := 5) hx hb dX3_copyEdges_7 (by decide) ?_
    refine lv_icmp_ge (tgt := 34) hx hb dX3_copyEdges_8 (by decide) (fun c_41 => ?_) (fun c_41 => ?_)
    · exact absurd c_41 (by decide)
    refine lv_iload_n hx hb dX3_copyEdges_11 rfl (lv_at hl 1 rfl) ?_
    refine lv_aload_n hx hb dX3_copyEdges_12 rfl (lv_at hl 2 rfl) ?_
    refine lv_iload hx hb dX3_copyEdges_13 (lv_at hl 0 rfl) ?_
    refine xc_i (wc := [kX3 pg pc (nI z), kI cI pc 16 pf]) (wr := [kX0 h0 a1 a2 a3 en ev, kI cI a1 3 x1, kI cI a2 3 x2, kI cI a3 3 x3]) (xrV (n := 1) (As := [.int 3]) (rest := [.int 3]) (ci := 3) (q0 := 4) hd hK hP hD (c_X3_names l D cI cJ cZ cR _ pg pc z pf 3 hz) (gV t_236 mV_X3_names) hV_X3_names ⟨(Nat.le_of_ble_eq_true rfl), (Nat.le_of_ble_eq_true rfl)⟩ rfl rfl [4, 5] rfl rfl rfl hl.1 rfl (Nat.le_of_ble_eq_true rfl) dX3_copyEdges_15 ⟨(Nat.le_of_ble_eq_true rfl), (Nat.le_of_ble_eq_true rfl)⟩) hP hD hS hA [4, 5] [0, 1, 2, 3] rfl rfl rfl (by decide) (fun r_42 u_43 H locs hw_44 hP hD hS => ?_)
    have hw_45 : r_42 = (nmB pf (nI (48 + 3)) z) := hw_44
    subst hw_45
    have hP : va_P D vwCl [kX0 h0 a1 a2 a3 en ev, kI cI a1 3 x1, kI cI a2 3 x2, kI cI a3 3 x3, kX3 pg pc (nI z), kI cI pc 16 pf] H := hP
    have hD : va_D A [kX0 h0 a1 a2 a3 en ev, kI cI a1 3 x1, kI cI a2 3 x2, kI cI a3 3 x3, kX3 pg pc (nI z), kI cI pc 16 pf] := hD
    refine lv_nmi (show _ = (nmB pf 51 z : Int32) from rfl) ?_
    refine lv_if_eq (tgt := 25) hx hb dX3_copyEdges_18 (by decide) (fun c_46 => ?_) (fun c_46 => ?_)
    · skip
      refine lv_iconst (v := 0) hx hb dX3_copyEdges_25 (by decide) ?_
      refine lv_iadd hx hb dX3_copyEdges_26 ?_
      refine lv_nmi (show _ = (3 : Int32) from by decide +kernel) ?_
      refine lv_istore_n (lv' := [(3, .int 3), (4, .int 3), (0, .ref pg), (1, .ref h0), (2, .int 2)]) hx hb dX3_copyEdges_27 rfl hl (by decide) rfl (fun ls hl => ?_)
      refine lv_iinc (v := 4) (lv' := [(4, .int 4), (3, .int 3), (0, .ref pg), (1, .ref h0), (2, .int 2)]) hx hb dX3_copyEdges_28 hl (k := 1) rfl (by decide) (by decide) rfl (fun ls hl => ?_)
      refine lv_goto (tgt := 5) hx hb dX3_copyEdges_31 (by decide) ?_
      refine lv_iload hx hb dX3_copyEdges_5 (lv_at hl 0 rfl) ?_
      refine lv_iconst (v := 5) hx hb dX3_copyEdges_7 (by decide) ?_
      refine lv_icmp_ge (tgt := 34) hx hb dX3_copyEdges_8 (by decide) (fun c_47 => ?_) (fun c_47 => ?_)
      · exact absurd c_47 (by decide)
      refine lv_iload_n hx hb dX3_copyEdges_11 rfl (lv_at hl 1 rfl) ?_
      refine lv_aload_n hx hb dX3_copyEdges_12 rfl (lv_at hl 2 rfl) ?_
      refine lv_iload hx hb dX3_copyEdges_13 (lv_at hl 0 rfl) ?_
      refine xc_i (wc := [kX3 pg pc (nI z), kI cI pc 16 pf]) (wr := [kX0 h0 a1 a2 a3 en ev, kI cI a1 3 x1, kI cI a2 3 x2, kI cI a3 3 x3]) (xrV (n := 1) (As := [.int 4]) (rest := [.int 3]) (ci := 3) (q0 := 4) hd hK hP hD (c_X3_names l D cI cJ cZ cR _ pg pc z pf 4 hz) (gV t_236 mV_X3_names) hV_X3_names ⟨(Nat.le_of_ble_eq_true rfl), (Nat.le_of_ble_eq_true rfl)⟩ rfl rfl [4, 5] rfl rfl rfl hl.1 rfl (Nat.le_of_ble_eq_true rfl) dX3_copyEdges_15 ⟨(Nat.le_of_ble_eq_true rfl), (Nat.le_of_ble_eq_true rfl)⟩) hP hD hS hA [4, 5] [0, 1, 2, 3] rfl rfl rfl (by decide) (fun r_48 u_49 H locs hw_50 hP hD hS => ?_)
      have hw_51 : r_48 = (nmB pf (nI (48 + 4)) z) := hw_50
      subst hw_51
      have hP : va_P D vwCl [kX0 h0 a1 a2 a3 en ev, kI cI a1 3 x1, kI cI a2 3 x2, kI cI a3 3 x3, kX3 pg pc (nI z), kI cI pc 16 pf] H := hP
      have hD : va_D A [kX0 h0 a1 a2 a3 en ev, kI cI a1 3 x1, kI cI a2 3 x2, kI cI a3 3 x3, kX3 pg pc (nI z), kI cI pc 16 pf] := hD
      refine lv_nmi (show _ = (nmB pf 52 z : Int32) from rfl) ?_
      refine lv_if_eq (tgt := 25) hx hb dX3_copyEdges_18 (by decide) (fun c_52 => ?_) (fun c_52 => ?_)
      · skip
        refine lv_iconst (v := 0) hx hb dX3_copyEdges_25 (by decide) ?_
        refine lv_iadd hx hb dX3_copyEdges_26 ?_
        refine lv_nmi (show _ = (3 : Int32) from by decide +kernel) ?_
        refine lv_istore_n (lv' := [(3, .int 3), (4, .int 4), (0, .ref pg), (1, .ref h0), (2, .int 2)]) hx hb dX3_copyEdges_27 rfl hl (by decide) rfl (fun ls hl => ?_)
        refine lv_iinc (v := 5) (lv' := [(4, .int 5), (3, .int 3), (0, .ref pg), (1, .ref h0), (2, .int 2)]) hx hb dX3_copyEdges_28 hl (k := 1) rfl (by decide) (by decide) rfl (fun ls hl => ?_)
        refine lv_goto (tgt := 5) hx hb dX3_copyEdges_31 (by decide) ?_
        refine lv_iload hx hb dX3_copyEdges_5 (lv_at hl 0 rfl) ?_
        refine lv_iconst (v := 5) hx hb dX3_copyEdges_7 (by decide) ?_
        refine lv_icmp_ge (tgt := 34) hx hb dX3_copyEdges_8 (by decide) (fun c_53 => ?_) (fun c_53 => ?_)
        rotate_left
        · exact absurd c_53 (by decide)
        exact CUT_34 3 (by simp [ndN, c_18, c_46, c_52]) _ _ _ (hP.sub [4, 5, 0, 1, 2, 3] rfl) (hD.sub [4, 5, 0, 1, 2, 3] rfl rfl) hS (lv_sub hl [2, 3, 4, 1] rfl)
      · skip
        refine lv_iconst (v := 1) hx hb dX3_copyEdges_21 (by decide) ?_
        refine lv_goto (tgt := 26) hx hb dX3_copyEdges_22 (by decide) ?_
        refine lv_iadd hx hb dX3_copyEdges_26 ?_
        refine lv_nmi (show _ = (4 : Int32) from by decide +kernel) ?_
        refine lv_istore_n (lv' := [(3, .int 4), (4, .int 4), (0, .ref pg), (1, .ref h0), (2, .int 2)]) hx hb dX3_copyEdges_27 rfl hl (by decide) rfl (fun ls hl => ?_)
        refine lv_iinc (v := 5) (lv' := [(4, .int 5), (3, .int 4), (0, .ref pg), (1, .ref h0), (2, .int 2)]) hx hb dX3_copyEdges_28 hl (k := 1) rfl (by decide) (by decide) rfl (fun ls hl => ?_)
        refine lv_goto (tgt := 5) hx hb dX3_copyEdges_31 (by decide) ?_
        refine lv_iload hx hb dX3_copyEdges_5 (lv_at hl 0 rfl) ?_
        refine lv_iconst (v := 5) hx hb dX3_copyEdges_7 (by decide) ?_
        refine lv_icmp_ge (tgt := 34) hx hb dX3_copyEdges_8 (by decide) (fun c_54 => ?_) (fun c_54 => ?_)
        rotate_left
        · exact absurd c_54 (by decide)
        exact CUT_34 4 (by simp [ndN, c_18, c_46, c_52]) _ _ _ (hP.sub [4, 5, 0, 1, 2, 3] rfl) (hD.sub [4, 5, 0, 1, 2, 3] rfl rfl) hS (lv_sub hl [2, 3, 4, 1] rfl)
    · skip
      refine lv_iconst (v := 1) hx hb dX3_copyEdges_21 (by decide) ?_
      refine lv_goto (tgt := 26) hx hb dX3_copyEdges_22 (by decide) ?_
      refine lv_iadd hx hb dX3_copyEdges_26 ?_
      refine lv_nmi (show _ = (4 : Int32) from by decide +kernel) ?_
      refine lv_istore_n (lv' := [(3, .int 4), (4, .int 3), (0, .ref pg), (1, .ref h0), (2, .int 2)]) hx hb dX3_copyEdges_27 rfl hl (by decide) rfl (fun ls hl => ?_)
      refine lv_iinc (v := 4) (lv' := [(4, .int 4), (3, .int 4), (0, .ref pg), (1, .ref h0), (2, .int 2)]) hx hb dX3_copyEdges_28 hl (k := 1) rfl (by decide) (by decide) rfl (fun ls hl => ?_)
      refine lv_goto (tgt := 5) hx hb dX3_copyEdges_31 (by decide) ?_
      refine lv_iload hx hb dX3_copyEdges_5 (lv_at hl 0 rfl) ?_
      refine lv_iconst (v := 5) hx hb dX3_copyEdges_7 (by decide) ?_
      refine lv_icmp_ge (tgt := 34) hx hb dX3_copyEdges_8 (by decide) (fun c_55 => ?_) (fun c_55 => ?_)
      · exact absurd c_55 (by decide)
      refine lv_iload_n hx hb dX3_copyEdges_11 rfl (lv_at hl 1 rfl) ?_
      refine lv_aload_n hx hb dX3_copyEdges_12 rfl (lv_at hl 2 rfl) ?_
      refine lv_iload hx hb dX3_copyEdges_13 (lv_at hl 0 rfl) ?_
      refine xc_i (wc := [kX3 pg pc (nI z), kI cI pc 16 pf]) (wr := [kX0 h0 a1 a2 a3 en ev, kI cI a1 3 x1, kI cI a2 3 x2, kI cI a3 3 x3]) (xrV (n := 1) (As := [.int 4]) (rest := [.int 4]) (ci := 3) (q0 := 4) hd hK hP hD (c_X3_names l D cI cJ cZ cR _ pg pc z pf 4 hz) (gV t_236 mV_X3_names) hV_X3_names ⟨(Nat.le_of_ble_eq_true rfl), (Nat.le_of_ble_eq_true rfl)⟩ rfl rfl [4, 5] rfl rfl rfl hl.1 rfl (Nat.le_of_ble_eq_true rfl) dX3_copyEdges_15 ⟨(Nat.le_of_ble_eq_true rfl), (Nat.le_of_ble_eq_true rfl)⟩) hP hD hS hA [4, 5] [0, 1, 2, 3] rfl rfl rfl (by decide) (fun r_56 u_57 H locs hw_58 hP hD hS => ?_)
      have hw_59 : r_56 = (nmB pf (nI (48 + 4)) z) := hw_58
      subst hw_59
      have hP : va_P D vwCl [kX0 h0 a1 a2 a3 en ev, kI cI a1 3 x1, kI cI a2 3 x2, kI cI a3 3 x3, kX3 pg pc (nI z), kI cI pc 16 pf] H := hP
      have hD : va_D A [kX0 h0 a1 a2 a3 en ev, kI cI a1 3 x1, kI cI a2 3 x2, kI cI a3 3 x3, kX3 pg pc (nI z), kI cI pc 16 pf] := hD
      refine lv_nmi (show _ = (nmB pf 52 z : Int32) from rfl) ?_
      refine lv_if_eq (tgt := 25) hx hb dX3_copyEdges_18 (by decide) (fun c_60 => ?_) (fun c_60 => ?_)
      · skip
        refine lv_iconst (v := 0) hx hb dX3_copyEdges_25 (by decide) ?_
        refine lv_iadd hx hb dX3_copyEdges_26 ?_
        refine lv_nmi (show _ = (4 : Int32) from by decide +kernel) ?_
        refine lv_istore_n (lv' := [(3, .int 4), (4, .int 4), (0, .ref pg), (1, .ref h0), (2, .int 2)]) hx hb dX3_copyEdges_27 rfl hl (by decide) rfl (fun ls hl => ?_)
        refine lv_iinc (v := 5) (lv' := [(4, .int 5), (3, .int 4), (0, .ref pg), (1, .ref h0), (2, .int 2)]) hx hb dX3_copyEdges_28 hl (k := 1) rfl (by decide) (by decide) rfl (fun ls hl => ?_)
        refine lv_goto (tgt := 5) hx hb dX3_copyEdges_31 (by decide) ?_
        refine lv_iload hx hb dX3_copyEdges_5 (lv_at hl 0 rfl) ?_
        refine lv_iconst (v := 5) hx hb dX3_copyEdges_7 (by decide) ?_
        refine lv_icmp_ge (tgt := 34) hx hb dX3_copyEdges_8 (by decide) (fun c_61 => ?_) (fun c_61 => ?_)
        rotate_left
        · exact absurd c_61 (by decide)
        exact CUT_34 4 (by simp [ndN, c_18, c_46, c_60]) _ _ _ (hP.sub [4, 5, 0, 1, 2, 3] rfl) (hD.sub [4, 5, 0, 1, 2, 3] rfl rfl) hS (lv_sub hl [2, 3, 4, 1] rfl)
      · skip
        refine lv_iconst (v := 1) hx hb dX3_copyEdges_21 (by decide) ?_
        refine lv_goto (tgt := 26) hx hb dX3_copyEdges_22 (by decide) ?_
        refine lv_iadd hx hb dX3_copyEdges_26 ?_
        refine lv_nmi (show _ = (5 : Int32) from by decide +kernel) ?_
        refine lv_istore_n (lv' := [(3, .int 5), (4, .int 4), (0, .ref pg), (1, .ref h0), (2, .int 2)]) hx hb dX3_copyEdges_27 rfl hl (by decide) rfl (fun ls hl => ?_)
        refine lv_iinc (v := 5) (lv' := [(4, .int 5), (3, .int 5), (0, .ref pg), (1, .ref h0), (2, .int 2)]) hx hb dX3_copyEdges_28 hl (k := 1) rfl (by decide) (by decide) rfl (fun ls hl => ?_)
        refine lv_goto (tgt := 5) hx hb dX3_copyEdges_31 (by decide) ?_
        refine lv_iload hx hb dX3_copyEdges_5 (lv_at hl 0 rfl) ?_
        refine lv_iconst (v := 5) hx hb dX3_copyEdges_7 (by decide) ?_
        refine lv_icmp_ge (tgt := 34) hx hb dX3_copyEdges_8 (by decide) (fun c_62 => ?_) (fun c_62 => ?_)
        rotate_left
        · exact absurd c_62 (by decide)
        exact CUT_34 5 (by simp [ndN, c_18, c_46, c_60]) _ _ _ (hP.sub [4, 5, 0, 1, 2, 3] rfl) (hD.sub [4, 5, 0, 1, 2, 3] rfl rfl) hS (lv_sub hl [2, 3, 4, 1] rfl)
set_option maxHeartbeats 4000000 in
set_option maxRecDepth 100000 in
theorem c_X3_copyRule (sz : Nat) (pg : Nat) (pc : Nat) (z : Nat) (pf : Nat → Int32) (h0 : Nat) (a1 : Nat) (a2 : Nat) (a3 : Nat) (E : Nat) (en : Int32) (ev : Int32) (x1 : Nat → Int32) (x2 : Nat → Int32) (x3 : Nat → Int32) (hz : z ≤ 16) (hE : z = 2 + 3 * E) (hE3 : E ≤ 3) : CTv l D cI cJ cZ cR yX3_copyRule cX3_copyRule 2 none 3 71 0 0 sz [.ref pg, .ref h0] [kX3 pg pc (nI z), kI cI pc 16 pf, kX0 h0 a1 a2 a3 en ev, kI cI a1 3 x1, kI cI a2 3 x2, kI cI a3 3 x3] (fun (u : (Nat → Int32) × (Nat → Int32) × (Nat → Int32)) => (edT pf 2 E u.1 u.2.1 u.2.2)) (fun (u : (Nat → Int32) × (Nat → Int32) × (Nat → Int32)) => [kX3 pg pc (nI z), kI cI pc 16 pf, kX0 h0 a1 a2 a3 (nI E) (nI (ndN pf z)), kI cI a1 3 u.1, kI cI a2 3 u.2.1, kI cI a3 3 u.2.2]) := by
  refine CTv.of (by decide) (Nat.le_of_ble_eq_true rfl) rfl ?_
  intro p e s m below meth c A Q ls hd hin hK hsz hP hD hA hS hl hret
  obtain ⟨hx, hb, hml, hown, hts⟩ := id hd
  have hK1 := hK.1
  have hown : s.vm.findClass RX3 = some m.cls := hown
  have hl : lv_has ls 2 [(0, .ref pg), (1, .ref h0)] := hl
  refine lv_aload_n hx hb dX3_copyRule_0 rfl (lv_at hl 0 rfl) ?_
  refine lv_aload_n hx hb dX3_copyRule_1 rfl (lv_at hl 1 rfl) ?_
  refine lv_iconst (v := 2) hx hb dX3_copyRule_2 (by decide) ?_
  refine xc_v (wc := [kX3 pg pc (nI z), kI cI pc 16 pf, kX0 h0 a1 a2 a3 en ev, kI cI a1 3 x1, kI cI a2 3 x2, kI cI a3 3 x3]) (wr := []) (xrV (n := 2) (As := [.ref h0, .int 2]) (rest := []) (ci := 3) (q0 := 0) hd hK hP hD (g_copyEdges_0 l D cI cJ cZ cR _ pg pc z pf h0 a1 a2 a3 E en ev x1 x2 x3 hz hE hE3) (gV t_263 mV_X3_copyEdges) hV_X3_copyEdges ⟨(Nat.le_of_ble_eq_true rfl), (Nat.le_of_ble_eq_true rfl)⟩ rfl rfl [0, 1, 2, 3, 4, 5] rfl rfl rfl hl.1 rfl (Nat.le_of_ble_eq_true rfl) dX3_copyRule_3 ⟨(Nat.le_of_ble_eq_true rfl), (Nat.le_of_ble_eq_true rfl)⟩) hP hD hS hA [0, 1, 2, 3, 4, 5] [] rfl rfl rfl (by decide) (fun u_2 H locs hw_3 hP hD hS => ?_)
  obtain ⟨y1_4, y2_5, y3_6⟩ := u_2
  have hw_7 : edT pf 2 E y1_4 y2_5 y3_6 := hw_3
  have hP : va_P D vwCl [kX3 pg pc (nI z), kI cI pc 16 pf, kX0 h0 a1 a2 a3 (nI E) (nI (ndN pf z)), kI cI a1 3 y1_4, kI cI a2 3 y2_5, kI cI a3 3 y3_6] H := hP
  have hD : va_D A [kX3 pg pc (nI z), kI cI pc 16 pf, kX0 h0 a1 a2 a3 (nI E) (nI (ndN pf z)), kI cI a1 3 y1_4, kI cI a2 3 y2_5, kI cI a3 3 y3_6] := hD
  exact hret _ _ _ _ _ _ (y1_4, y2_5, y3_6) dX3_copyRule_6 hS (Nat.le_of_ble_eq_true rfl) (Nat.le_of_ble_eq_true rfl) hw_7 (hP.sub [0, 1, 2, 3, 4, 5] rfl) (hD.sub [0, 1, 2, 3, 4, 5] rfl rfl)
set_option maxHeartbeats 4000000 in
set_option maxRecDepth 100000 in
theorem g_copyEdges_1 (sz : Nat) (pg : Nat) (pc : Nat) (z : Nat) (pf : Nat → Int32) (h0 : Nat) (a1 : Nat) (a2 : Nat) (a3 : Nat) (E : Nat) (en : Int32) (ev : Int32) (x1 : Nat → Int32) (x2 : Nat → Int32) (x3 : Nat → Int32) (hz : z ≤ 16) (hE : z = 0 + 3 * E) (hE3 : E ≤ 12) : CTv l D cI cJ cZ cR yX3_copyEdges cX3_copyEdges 5 none 2 47 0 0 sz [.ref pg, .ref h0, .int 0] [kX3 pg pc (nI z), kI cI pc 16 pf, kX0 h0 a1 a2 a3 en ev, kI cI a1 12 x1, kI cI a2 12 x2, kI cI a3 12 x3] (fun (u : (Nat → Int32) × (Nat → Int32) × (Nat → Int32)) => (edT pf 0 E u.1 u.2.1 u.2.2)) (fun (u : (Nat → Int32) × (Nat → Int32) × (Nat → Int32)) => [kX3 pg pc (nI z), kI cI pc 16 pf, kX0 h0 a1 a2 a3 (nI E) (nI (ndN pf z)), kI cI a1 12 u.1, kI cI a2 12 u.2.1, kI cI a3 12 u.2.2]) := by
  refine CTv.of (by decide) (Nat.le_of_ble_eq_true rfl) rfl ?_
  intro p e s m below meth c A Q ls hd hin hK hsz hP hD hA hS hl hret
  obtain ⟨hx, hb, hml, hown, hts⟩ := id hd
  have hK1 := hK.1
  have hown : s.vm.findClass RX3 = some m.cls := hown
  have hl : lv_has ls 5 [(0, .ref pg), (1, .ref h0), (2, .int 0)] := hl
  have CUT_34 : ∀ (vv : Nat), (vv = ndN pf z) → ∀ (H : Heap) (locs : List Loc) (ls : Array Slot), va_P D vwCl [kX3 pg pc (nI z), kI cI pc 16 pf, kX0 h0 a1 a2 a3 en ev, kI cI a1 12 x1, kI cI a2 12 x2, kI cI a3 12 x3] H → va_D A [kX3 pg pc (nI z), kI cI pc 16 pf, kX0 h0 a1 a2 a3 en ev, kI cI a1 12 x1, kI cI a2 12 x2, kI cI a3 12 x3] → va_S A s.heap H locs → lv_has ls 5 [(0, .ref pg), (1, .ref h0), (2, .int 0), (3, .int (nI vv))] → W p l e (rM 2 0 0 47) s m ([.ref pg, .ref h0, .int 0] : List Value).toArray below meth c H locs 0 0 Q (F0 m 34 ls []) := by
    intro vv hvv H locs ls hP hD hS hl
    refine lv_aload_n hx hb dX3_copyEdges_34 rfl (lv_at hl 1 rfl) ?_
    refine lv_iload_n hx hb dX3_copyEdges_35 rfl (lv_at hl 3 rfl) ?_
    refine xc_v (wc := [kX0 h0 a1 a2 a3 en ev]) (wr := [kX3 pg pc (nI z), kI cI pc 16 pf, kI cI a1 12 x1, kI cI a2 12 x2, kI cI a3 12 x3]) (xrV (n := 1) (As := [.int (nI vv)]) (rest := []) (ci := 0) (q0 := 2) hd hK hP hD (g_clear_x l D cI cJ cZ cR _ h0 a1 a2 a3 vv en ev ) (gV t_267 mV_X0_clear) hV_X0_clear ⟨(Nat.le_of_ble_eq_true rfl), (Nat.le_of_ble_eq_true rfl)⟩ rfl rfl [2] rfl rfl rfl hl.1 rfl (Nat.le_of_ble_eq_true rfl) dX3_copyEdges_36 ⟨(Nat.le_of_ble_eq_true rfl), (Nat.le_of_ble_eq_true rfl)⟩) hP hD hS hA [2] [0, 1, 3, 4, 5] rfl rfl rfl (by decide) (fun u_2 H locs hw_3 hP hD hS => ?_)
    have hP : va_P D vwCl [kX3 pg pc (nI z), kI cI pc 16 pf, kI cI a1 12 x1, kI cI a2 12 x2, kI cI a3 12 x3, kX0 h0 a1 a2 a3 0 (nI vv)] H := hP
    have hD : va_D A [kX3 pg pc (nI z), kI cI pc 16 pf, kI cI a1 12 x1, kI cI a2 12 x2, kI cI a3 12 x3, kX0 h0 a1 a2 a3 0 (nI vv)] := hD
    refine lv_iload_n hx hb dX3_copyEdges_39 rfl (lv_at hl 2 rfl) ?_
    refine lv_istore (lv' := [(4, .int 0), (0, .ref pg), (1, .ref h0), (2, .int 0), (3, .int (nI vv))]) hx hb dX3_copyEdges_40 hl (by decide) rfl (fun ls hl => ?_)
    have LOOP_42 : ∀ (n : Nat) (k : Nat) (y1 : Nat → Int32) (y2 : Nat → Int32) (y3 : Nat → Int32), (k + n = E) → (edT pf 0 k y1 y2 y3) → ∀ (H : Heap) (locs : List Loc) (ls : Array Slot), va_P D vwCl [kX3 pg pc (nI z), kI cI pc 16 pf, kX0 h0 a1 a2 a3 (nI k) (nI vv), kI cI a1 12 y1, kI cI a2 12 y2, kI cI a3 12 y3] H → va_D A [kX3 pg pc (nI z), kI cI pc 16 pf, kX0 h0 a1 a2 a3 (nI k) (nI vv), kI cI a1 12 y1, kI cI a2 12 y2, kI cI a3 12 y3] → va_S A s.heap H locs → lv_has ls 5 [(0, .ref pg), (1, .ref h0), (2, .int 0), (4, .int (nI (0 + 3 * k)))] → W p l e (rM 2 0 0 47) s m ([.ref pg, .ref h0, .int 0] : List Value).toArray below meth c H locs 0 0 Q (F0 m 42 ls []) := by
      intro n
      induction n with
      | zero =>
        intro k y1 y2 y3 hk hed H locs ls hP hD hS hl
        have hz_k : k = E := by omega
        try rw [hz_k] at hP
        try rw [hz_k] at hD
        try rw [hz_k] at hl
        try rw [hz_k] at hed
        have hz_vv : vv = ndN pf z := by omega
        try rw [hz_vv] at hP
        try rw [hz_vv] at hD
        try rw [hz_vv] at hl
        try rw [hz_vv] at hed
        refine lv_iload hx hb dX3_copyEdges_42 (lv_at hl 3 rfl) ?_
        refine lv_iconst (v := 2) hx hb dX3_copyEdges_44 (by decide) ?_
        refine lv_iadd hx hb dX3_copyEdges_45 ?_
        refine lv_nmi (show _ = (nI ((0 + 3 * E) + 2)) from nI_add ((0 + 3 * E)) (2)) ?_
        refine lv_aload_n hx hb dX3_copyEdges_46 rfl (lv_at hl 0 rfl) ?_
        refine va_get (D := D) (ci := 3) (v := .int (nI z)) (C := RX3) (T := TX3) (N := 2) hx hb hts iT_X3 hown hK1 hP 0 rfl rfl 1 (by decide) (hts _ t_28) (fun _ h9 => h9) rfl dX3_copyEdges_47 ?_
        refine lv_icmp_ge (tgt := 97) hx hb dX3_copyEdges_50 (by decide) (fun c_4 => ?_) (fun c_4 => ?_)
        rotate_left
        · exact absurd (nI_le (a := z) (b := ((0 + 3 * E) + 2)) (by omega) (by omega)) c_4
        exact hret _ _ _ _ _ _ (y1, y2, y3) dX3_copyEdges_97 hS (Nat.le_of_ble_eq_true rfl) (Nat.le_of_ble_eq_true rfl) hed (hP.sub [0, 1, 2, 3, 4, 5] rfl) (hD.sub [0, 1, 2, 3, 4, 5] rfl rfl)
      | succ n ih_42 =>
        intro k y1 y2 y3 hk hed H locs ls hP hD hS hl
        refine lv_iload hx hb dX3_copyEdges_42 (lv_at hl 3 rfl) ?_
        refine lv_iconst (v := 2) hx hb dX3_copyEdges_44 (by decide) ?_
        refine lv_iadd hx hb dX3_copyEdges_45 ?_
        refine lv_nmi (show _ = (nI ((0 + 3 * k) + 2)) from nI_add ((0 + 3 * k)) (2)) ?_
        refine lv_aload_n hx hb dX3_copyEdges_46 rfl (lv_at hl 0 rfl) ?_
        refine va_get (D := D) (ci := 3) (v := .int (nI z)) (C := RX3) (T := TX3) (N := 2) hx hb hts iT_X3 hown hK1 hP 0 rfl rfl 1 (by decide) (hts _ t_28) (fun _ h9 => h9) rfl dX3_copyEdges_47 ?_
        refine lv_icmp_ge (tgt := 97) hx hb dX3_copyEdges_50 (by decide) (fun c_5 => ?_) (fun c_5 => ?_)
        · exact absurd c_5 (nI_ge (a := ((0 + 3 * k) + 2)) (b := z) (by omega) (by omega))
        refine lv_aload_n hx hb dX3_copyEdges_53 rfl (lv_at hl 1 rfl) ?_
        refine lv_aload_n hx hb dX3_copyEdges_54 rfl (lv_at hl 0 rfl) ?_
        refine va_get (D := D) (ci := 3) (v := .ref pc) (C := RX3) (T := TX3) (N := 2) hx hb hts iT_X3 hown hK1 hP 0 rfl rfl 0 (by decide) (hts _ t_26) (fun _ h9 => h9) rfl dX3_copyEdges_55 ?_
        refine lv_iload hx hb dX3_copyEdges_58 (lv_at hl 3 rfl) ?_
        refine va_iald hx hb hK1 hP 1 0 rfl rfl (vp_in_nI (by omega) (by omega)) dX3_copyEdges_60 ?_
        refine lv_nmi (show _ = pf (0 + 3 * k) from by rw [nI_clamp (n := (0 + 3 * k)) (by omega)]) ?_
        refine xc_i (wc := []) (wr := [kX3 pg pc (nI z), kI cI pc 16 pf, kX0 h0 a1 a2 a3 (nI k) (nI vv), kI cI a1 12 y1, kI cI a2 12 y2, kI cI a3 12 y3]) (xrS (n := 1) (As := [.int (pf (0 + 3 * k))]) (rest := [.ref h0]) hd hK hP hD (c_X3_letterOf l D cI cJ cZ cR _ (pf (0 + 3 * k)) ) (gS t_213 mS_X3_letterOf) hS_X3_letterOf ⟨(Nat.le_of_ble_eq_true rfl), (Nat.le_of_ble_eq_true rfl)⟩ [] rfl rfl rfl hl.1 rfl (Nat.le_of_ble_eq_true rfl) dX3_copyEdges_61 ⟨(Nat.le_of_ble_eq_true rfl), (Nat.le_of_ble_eq_true rfl)⟩) hP hD hS hA [] [0, 1, 2, 3, 4, 5] rfl rfl rfl (by decide) (fun r_6 u_7 H locs hw_8 hP hD hS => ?_)
        have hw_9 : r_6 = (cL (pf (0 + 3 * k))) := hw_8
        subst hw_9
        have hP : va_P D vwCl [kX3 pg pc (nI z), kI cI pc 16 pf, kX0 h0 a1 a2 a3 (nI k) (nI vv), kI cI a1 12 y1, kI cI a2 12 y2, kI cI a3 12 y3] H := hP
        have hD : va_D A [kX3 pg pc (nI z), kI cI pc 16 pf, kX0 h0 a1 a2 a3 (nI k) (nI vv), kI cI a1 12 y1, kI cI a2 12 y2, kI cI a3 12 y3] := hD
        refine lv_aload_n hx hb dX3_copyEdges_64 rfl (lv_at hl 0 rfl) ?_
        refine va_get (D := D) (ci := 3) (v := .ref pc) (C := RX3) (T := TX3) (N := 2) hx hb hts iT_X3 hown hK1 hP 0 rfl rfl 0 (by decide) (hts _ t_26) (fun _ h9 => h9) rfl dX3_copyEdges_65 ?_
        refine lv_iload hx hb dX3_copyEdges_68 (lv_at hl 3 rfl) ?_
        refine lv_iconst (v := 1) hx hb dX3_copyEdges_70 (by decide) ?_
        refine lv_iadd hx hb dX3_copyEdges_71 ?_
        refine lv_nmi (show _ = (nI ((0 + 3 * k) + 1)) from nI_add ((0 + 3 * k)) (1)) ?_
        refine va_iald hx hb hK1 hP 1 0 rfl rfl (vp_in_nI (by omega) (by omega)) dX3_copyEdges_72 ?_
        refine lv_nmi (show _ = pf ((0 + 3 * k) + 1) from by rw [nI_clamp (n := ((0 + 3 * k) + 1)) (by omega)]) ?_
        refine lv_bipush (v := 48) hx hb dX3_copyEdges_73 (by decide) ?_
        refine lv_isub hx hb dX3_copyEdges_75 ?_
        refine lv_aload_n hx hb dX3_copyEdges_76 rfl (lv_at hl 0 rfl) ?_
        refine va_get (D := D) (ci := 3) (v := .ref pc) (C := RX3) (T := TX3) (N := 2) hx hb hts iT_X3 hown hK1 hP 0 rfl rfl 0 (by decide) (hts _ t_26) (fun _ h9 => h9) rfl dX3_copyEdges_77 ?_
        refine lv_iload hx hb dX3_copyEdges_80 (lv_at hl 3 rfl) ?_
        refine lv_iconst (v := 2) hx hb dX3_copyEdges_82 (by decide) ?_
        refine lv_iadd hx hb dX3_copyEdges_83 ?_
        refine lv_nmi (show _ = (nI ((0 + 3 * k) + 2)) from nI_add ((0 + 3 * k)) (2)) ?_
        refine va_iald hx hb hK1 hP 1 0 rfl rfl (vp_in_nI (by omega) (by omega)) dX3_copyEdges_84 ?_
        refine lv_nmi (show _ = pf ((0 + 3 * k) + 2) from by rw [nI_clamp (n := ((0 + 3 * k) + 2)) (by omega)]) ?_
        refine lv_bipush (v := 48) hx hb dX3_copyEdges_85 (by decide) ?_
        refine lv_isub hx hb dX3_copyEdges_87 ?_
        refine xc_v (wc := [kX0 h0 a1 a2 a3 (nI k) (nI vv), kI cI a1 12 y1, kI cI a2 12 y2, kI cI a3 12 y3]) (wr := [kX3 pg pc (nI z), kI cI pc 16 pf]) (xrV (n := 3) (As := [.int (cL (pf (0 + 3 * k))), .int ((pf ((0 + 3 * k) + 1)) - 48), .int ((pf ((0 + 3 * k) + 2)) - 48)]) (rest := []) (ci := 0) (q0 := 2) hd hK hP hD (c_X0_append l D cI cJ cZ cR _ h0 a1 a2 a3 12 k vv (cL (pf (0 + 3 * k))) ((pf ((0 + 3 * k) + 1)) - 48) ((pf ((0 + 3 * k) + 2)) - 48) y1 y2 y3 (by omega) (by omega)) (gV t_271 mV_X0_append) hV_X0_append ⟨(Nat.le_of_ble_eq_true rfl), (Nat.le_of_ble_eq_true rfl)⟩ rfl rfl [2, 3, 4, 5] rfl rfl rfl hl.1 rfl (Nat.le_of_ble_eq_true rfl) dX3_copyEdges_88 ⟨(Nat.le_of_ble_eq_true rfl), (Nat.le_of_ble_eq_true rfl)⟩) hP hD hS hA [2, 3, 4, 5] [0, 1] rfl rfl rfl (by decide) (fun u_11 H locs hw_12 hP hD hS => ?_)
        have hP : va_P D vwCl [kX3 pg pc (nI z), kI cI pc 16 pf, kX0 h0 a1 a2 a3 (nI (k + 1)) (nI vv), kI cI a1 12 (upd y1 k (cL (pf (0 + 3 * k)))), kI cI a2 12 (upd y2 k ((pf ((0 + 3 * k) + 1)) - 48)), kI cI a3 12 (upd y3 k ((pf ((0 + 3 * k) + 2)) - 48))] H := hP
        have hD : va_D A [kX3 pg pc (nI z), kI cI pc 16 pf, kX0 h0 a1 a2 a3 (nI (k + 1)) (nI vv), kI cI a1 12 (upd y1 k (cL (pf (0 + 3 * k)))), kI cI a2 12 (upd y2 k ((pf ((0 + 3 * k) + 1)) - 48)), kI cI a3 12 (upd y3 k ((pf ((0 + 3 * k) + 2)) - 48))] := hD
        refine lv_iinc (v := nI (0 + 3 * (k + 1))) (lv' := [(4, .int (nI (0 + 3 * (k + 1)))), (0, .ref pg), (1, .ref h0), (2, .int 0)]) hx hb dX3_copyEdges_91 hl (k := 3) rfl (inc3 0 k) (by decide) rfl (fun ls hl => ?_)
        refine lv_goto (tgt := 42) hx hb dX3_copyEdges_94 (by decide) ?_
        exact ih_42 (k + 1) (upd y1 k (cL (pf (0 + 3 * k)))) (upd y2 k ((pf ((0 + 3 * k) + 1)) - 48)) (upd y3 k ((pf ((0 + 3 * k) + 2)) - 48)) (by omega) (edT_s hed) _ _ _ (hP.sub [0, 1, 2, 3, 4, 5] rfl) (hD.sub [0, 1, 2, 3, 4, 5] rfl rfl) hS (lv_sub hl [1, 2, 3, 0] rfl)
    exact LOOP_42 E 0 x1 x2 x3 (by omega) edT_0 _ _ _ (hP.sub [0, 1, 5, 2, 3, 4] rfl) (hD.sub [0, 1, 5, 2, 3, 4] rfl rfl) hS (lv_sub hl [1, 2, 3, 0] rfl)
  refine lv_iconst (v := 2) hx hb dX3_copyEdges_0 (by decide) ?_
  refine lv_istore_n (lv' := [(3, .int 2), (0, .ref pg), (1, .ref h0), (2, .int 0)]) hx hb dX3_copyEdges_1 rfl hl (by decide) rfl (fun ls hl => ?_)
  refine lv_iconst (v := 2) hx hb dX3_copyEdges_2 (by decide) ?_
  refine lv_istore (lv' := [(4, .int 2), (3, .int 2), (0, .ref pg), (1, .ref h0), (2, .int 0)]) hx hb dX3_copyEdges_3 hl (by decide) rfl (fun ls hl => ?_)
  refine lv_iload hx hb dX3_copyEdges_5 (lv_at hl 0 rfl) ?_
  refine lv_iconst (v := 5) hx hb dX3_copyEdges_7 (by decide) ?_
  refine lv_icmp_ge (tgt := 34) hx hb dX3_copyEdges_8 (by decide) (fun c_13 => ?_) (fun c_13 => ?_)
  · exact absurd c_13 (by decide)
  refine lv_iload_n hx hb dX3_copyEdges_11 rfl (lv_at hl 1 rfl) ?_
  refine lv_aload_n hx hb dX3_copyEdges_12 rfl (lv_at hl 2 rfl) ?_
  refine lv_iload hx hb dX3_copyEdges_13 (lv_at hl 0 rfl) ?_
  refine xc_i (wc := [kX3 pg pc (nI z), kI cI pc 16 pf]) (wr := [kX0 h0 a1 a2 a3 en ev, kI cI a1 12 x1, kI cI a2 12 x2, kI cI a3 12 x3]) (xrV (n := 1) (As := [.int 2]) (rest := [.int 2]) (ci := 3) (q0 := 0) hd hK hP hD (c_X3_names l D cI cJ cZ cR _ pg pc z pf 2 hz) (gV t_236 mV_X3_names) hV_X3_names ⟨(Nat.le_of_ble_eq_true rfl), (Nat.le_of_ble_eq_true rfl)⟩ rfl rfl [0, 1] rfl rfl rfl hl.1 rfl (Nat.le_of_ble_eq_true rfl) dX3_copyEdges_15 ⟨(Nat.le_of_ble_eq_true rfl), (Nat.le_of_ble_eq_true rfl)⟩) hP hD hS hA [0, 1] [2, 3, 4, 5] rfl rfl rfl (by decide) (fun r_14 u_15 H locs hw_16 hP hD hS => ?_)
  have hw_17 : r_14 = (nmB pf (nI (48 + 2)) z) := hw_16
  subst hw_17
  have hP : va_P D vwCl [kX0 h0 a1 a2 a3 en ev, kI cI a1 12 x1, kI cI a2 12 x2, kI cI a3 12 x3, kX3 pg pc (nI z), kI cI pc 16 pf] H := hP
  have hD : va_D A [kX0 h0 a1 a2 a3 en ev, kI cI a1 12 x1, kI cI a2 12 x2, kI cI a3 12 x3, kX3 pg pc (nI z), kI cI pc 16 pf] := hD
  refine lv_nmi (show _ = (nmB pf 50 z : Int32) from rfl) ?_
  refine lv_if_eq (tgt := 25) hx hb dX3_copyEdges_18 (by decide) (fun c_18 => ?_) (fun c_18 => ?_)
  · skip
    refine lv_iconst (v := 0) hx hb dX3_copyEdges_25 (by decide) ?_
    refine lv_iadd hx hb dX3_copyEdges_26 ?_
    refine lv_nmi (show _ = (2 : Int32) from by decide +kernel) ?_
    refine lv_istore_n (lv' := [(3, .int 2), (4, .int 2), (0, .ref pg), (1, .ref h0), (2, .int 0)]) hx hb dX3_copyEdges_27 rfl hl (by decide) rfl (fun ls hl => ?_)
    refine lv_iinc (v := 3) (lv' := [(4, .int 3), (3, .int 2), (0, .ref pg), (1, .ref h0), (2, .int 0)]) hx hb dX3_copyEdges_28 hl (k := 1) rfl (by decide) (by decide) rfl (fun ls hl => ?_)
    refine lv_goto (tgt := 5) hx hb dX3_copyEdges_31 (by decide) ?_
    refine lv_iload hx hb dX3_copyEdges_5 (lv_at hl 0 rfl) ?_
    refine lv_iconst (v := 5) hx hb dX3_copyEdges_7 (by decide) ?_
    refine lv_icmp_ge (tgt := 34) hx hb dX3_copyEdges_8 (by decide) (fun c_19 => ?_) (fun c_19 => ?_)
    · exact absurd c_19 (by decide)
    refine lv_iload_n hx hb dX3_copyEdges_11 rfl (lv_at hl 1 rfl) ?_
    refine lv_aload_n hx hb dX3_copyEdges_12 rfl (lv_at hl 2 rfl) ?_
    refine lv_iload hx hb dX3_copyEdges_13 (lv_at hl 0 rfl) ?_
    refine xc_i (wc := [kX3 pg pc (nI z), kI cI pc 16 pf]) (wr := [kX0 h0 a1 a2 a3 en ev, kI cI a1 12 x1, kI cI a2 12 x2, kI cI a3 12 x3]) (xrV (n := 1) (As := [.int 3]) (rest := [.int 2]) (ci := 3) (q0 := 4) hd hK hP hD (c_X3_names l D cI cJ cZ cR _ pg pc z pf 3 hz) (gV t_236 mV_X3_names) hV_X3_names ⟨(Nat.le_of_ble_eq_true rfl), (Nat.le_of_ble_eq_true rfl)⟩ rfl rfl [4, 5] rfl rfl rfl hl.1 rfl (Nat.le_of_ble_eq_true rfl) dX3_copyEdges_15 ⟨(Nat.le_of_ble_eq_true rfl), (Nat.le_of_ble_eq_true rfl)⟩) hP hD hS hA [4, 5] [0, 1, 2, 3] rfl rfl rfl (by decide) (fun r_20 u_21 H locs hw_22 hP hD hS => ?_)
    have hw_23 : r_20 = (nmB pf (nI (48 + 3)) z) := hw_22
    subst hw_23
    have hP : va_P D vwCl [kX0 h0 a1 a2 a3 en ev, kI cI a1 12 x1, kI cI a2 12 x2, kI cI a3 12 x3, kX3 pg pc (nI z), kI cI pc 16 pf] H := hP
    have hD : va_D A [kX0 h0 a1 a2 a3 en ev, kI cI a1 12 x1, kI cI a2 12 x2, kI cI a3 12 x3, kX3 pg pc (nI z), kI cI pc 16 pf] := hD
    refine lv_nmi (show _ = (nmB pf 51 z : Int32) from rfl) ?_
    refine lv_if_eq (tgt := 25) hx hb dX3_copyEdges_18 (by decide) (fun c_24 => ?_) (fun c_24 => ?_)
    · skip
      refine lv_iconst (v := 0) hx hb dX3_copyEdges_25 (by decide) ?_
      refine lv_iadd hx hb dX3_copyEdges_26 ?_
      refine lv_nmi (show _ = (2 : Int32) from by decide +kernel) ?_
      refine lv_istore_n (lv' := [(3, .int 2), (4, .int 3), (0, .ref pg), (1, .ref h0), (2, .int 0)]) hx hb dX3_copyEdges_27 rfl hl (by decide) rfl (fun ls hl => ?_)
      refine lv_iinc (v := 4) (lv' := [(4, .int 4), (3, .int 2), (0, .ref pg), (1, .ref h0), (2, .int 0)]) hx hb dX3_copyEdges_28 hl (k := 1) rfl (by decide) (by decide) rfl (fun ls hl => ?_)
      refine lv_goto (tgt := 5) hx hb dX3_copyEdges_31 (by decide) ?_
      refine lv_iload hx hb dX3_copyEdges_5 (lv_at hl 0 rfl) ?_
      refine lv_iconst (v := 5) hx hb dX3_copyEdges_7 (by decide) ?_
      refine lv_icmp_ge (tgt := 34) hx hb dX3_copyEdges_8 (by decide) (fun c_25 => ?_) (fun c_25 => ?_)
      · exact absurd c_25 (by decide)
      refine lv_iload_n hx hb dX3_copyEdges_11 rfl (lv_at hl 1 rfl) ?_
      refine lv_aload_n hx hb dX3_copyEdges_12 rfl (lv_at hl 2 rfl) ?_
      refine lv_iload hx hb dX3_copyEdges_13 (lv_at hl 0 rfl) ?_
      refine xc_i (wc := [kX3 pg pc (nI z), kI cI pc 16 pf]) (wr := [kX0 h0 a1 a2 a3 en ev, kI cI a1 12 x1, kI cI a2 12 x2, kI cI a3 12 x3]) (xrV (n := 1) (As := [.int 4]) (rest := [.int 2]) (ci := 3) (q0 := 4) hd hK hP hD (c_X3_names l D cI cJ cZ cR _ pg pc z pf 4 hz) (gV t_236 mV_X3_names) hV_X3_names ⟨(Nat.le_of_ble_eq_true rfl), (Nat.le_of_ble_eq_true rfl)⟩ rfl rfl [4, 5] rfl rfl rfl hl.1 rfl (Nat.le_of_ble_eq_true rfl) dX3_copyEdges_15 ⟨(Nat.le_of_ble_eq_true rfl), (Nat.le_of_ble_eq_true rfl)⟩) hP hD hS hA [4, 5] [0, 1, 2, 3] rfl rfl rfl (by decide) (fun r_26 u_27 H locs hw_28 hP hD hS => ?_)
      have hw_29 : r_26 = (nmB pf (nI (48 + 4)) z) := hw_28
      subst hw_29
      have hP : va_P D vwCl [kX0 h0 a1 a2 a3 en ev, kI cI a1 12 x1, kI cI a2 12 x2, kI cI a3 12 x3, kX3 pg pc (nI z), kI cI pc 16 pf] H := hP
      have hD : va_D A [kX0 h0 a1 a2 a3 en ev, kI cI a1 12 x1, kI cI a2 12 x2, kI cI a3 12 x3, kX3 pg pc (nI z), kI cI pc 16 pf] := hD
      refine lv_nmi (show _ = (nmB pf 52 z : Int32) from rfl) ?_
      refine lv_if_eq (tgt := 25) hx hb dX3_copyEdges_18 (by decide) (fun c_30 => ?_) (fun c_30 => ?_)
      · skip
        refine lv_iconst (v := 0) hx hb dX3_copyEdges_25 (by decide) ?_
        refine lv_iadd hx hb dX3_copyEdges_26 ?_
        refine lv_nmi (show _ = (2 : Int32) from by decide +kernel) ?_
        refine lv_istore_n (lv' := [(3, .int 2), (4, .int 4), (0, .ref pg), (1, .ref h0), (2, .int 0)]) hx hb dX3_copyEdges_27 rfl hl (by decide) rfl (fun ls hl => ?_)
        refine lv_iinc (v := 5) (lv' := [(4, .int 5), (3, .int 2), (0, .ref pg), (1, .ref h0), (2, .int 0)]) hx hb dX3_copyEdges_28 hl (k := 1) rfl (by decide) (by decide) rfl (fun ls hl => ?_)
        refine lv_goto (tgt := 5) hx hb dX3_copyEdges_31 (by decide) ?_
        refine lv_iload hx hb dX3_copyEdges_5 (lv_at hl 0 rfl) ?_
        refine lv_iconst (v := 5) hx hb dX3_copyEdges_7 (by decide) ?_
        refine lv_icmp_ge (tgt := 34) hx hb dX3_copyEdges_8 (by decide) (fun c_31 => ?_) (fun c_31 => ?_)
        rotate_left
        · exact absurd c_31 (by decide)
        exact CUT_34 2 (by simp [ndN, c_18, c_24, c_30]) _ _ _ (hP.sub [4, 5, 0, 1, 2, 3] rfl) (hD.sub [4, 5, 0, 1, 2, 3] rfl rfl) hS (lv_sub hl [2, 3, 4, 1] rfl)
      · skip
        refine lv_iconst (v := 1) hx hb dX3_copyEdges_21 (by decide) ?_
        refine lv_goto (tgt := 26) hx hb dX3_copyEdges_22 (by decide) ?_
        refine lv_iadd hx hb dX3_copyEdges_26 ?_
        refine lv_nmi (show _ = (3 : Int32) from by decide +kernel) ?_
        refine lv_istore_n (lv' := [(3, .int 3), (4, .int 4), (0, .ref pg), (1, .ref h0), (2, .int 0)]) hx hb dX3_copyEdges_27 rfl hl (by decide) rfl (fun ls hl => ?_)
        refine lv_iinc (v := 5) (lv' := [(4, .int 5), (3, .int 3), (0, .ref pg), (1, .ref h0), (2, .int 0)]) hx hb dX3_copyEdges_28 hl (k := 1) rfl (by decide) (by decide) rfl (fun ls hl => ?_)
        refine lv_goto (tgt := 5) hx hb dX3_copyEdges_31 (by decide) ?_
        refine lv_iload hx hb dX3_copyEdges_5 (lv_at hl 0 rfl) ?_
        refine lv_iconst (v := 5) hx hb dX3_copyEdges_7 (by decide) ?_
        refine lv_icmp_ge (tgt := 34) hx hb dX3_copyEdges_8 (by decide) (fun c_32 => ?_) (fun c_32 => ?_)
        rotate_left
        · exact absurd c_32 (by decide)
        exact CUT_34 3 (by simp [ndN, c_18, c_24, c_30]) _ _ _ (hP.sub [4, 5, 0, 1, 2, 3] rfl) (hD.sub [4, 5, 0, 1, 2, 3] rfl rfl) hS (lv_sub hl [2, 3, 4, 1] rfl)
    · skip
      refine lv_iconst (v := 1) hx hb dX3_copyEdges_21 (by decide) ?_
      refine lv_goto (tgt := 26) hx hb dX3_copyEdges_22 (by decide) ?_
      refine lv_iadd hx hb dX3_copyEdges_26 ?_
      refine lv_nmi (show _ = (3 : Int32) from by decide +kernel) ?_
      refine lv_istore_n (lv' := [(3, .int 3), (4, .int 3), (0, .ref pg), (1, .ref h0), (2, .int 0)]) hx hb dX3_copyEdges_27 rfl hl (by decide) rfl (fun ls hl => ?_)
      refine lv_iinc (v := 4) (lv' := [(4, .int 4), (3, .int 3), (0, .ref pg), (1, .ref h0), (2, .int 0)]) hx hb dX3_copyEdges_28 hl (k := 1) rfl (by decide) (by decide) rfl (fun ls hl => ?_)
      refine lv_goto (tgt := 5) hx hb dX3_copyEdges_31 (by decide) ?_
      refine lv_iload hx hb dX3_copyEdges_5 (lv_at hl 0 rfl) ?_
      refine lv_iconst (v := 5) hx hb dX3_copyEdges_7 (by decide) ?_
      refine lv_icmp_ge (tgt := 34) hx hb dX3_copyEdges_8 (by decide) (fun c_33 => ?_) (fun c_33 => ?_)
      · exact absurd c_33 (by decide)
      refine lv_iload_n hx hb dX3_copyEdges_11 rfl (lv_at hl 1 rfl) ?_
      refine lv_aload_n hx hb dX3_copyEdges_12 rfl (lv_at hl 2 rfl) ?_
      refine lv_iload hx hb dX3_copyEdges_13 (lv_at hl 0 rfl) ?_
      refine xc_i (wc := [kX3 pg pc (nI z), kI cI pc 16 pf]) (wr := [kX0 h0 a1 a2 a3 en ev, kI cI a1 12 x1, kI cI a2 12 x2, kI cI a3 12 x3]) (xrV (n := 1) (As := [.int 4]) (rest := [.int 3]) (ci := 3) (q0 := 4) hd hK hP hD (c_X3_names l D cI cJ cZ cR _ pg pc z pf 4 hz) (gV t_236 mV_X3_names) hV_X3_names ⟨(Nat.le_of_ble_eq_true rfl), (Nat.le_of_ble_eq_true rfl)⟩ rfl rfl [4, 5] rfl rfl rfl hl.1 rfl (Nat.le_of_ble_eq_true rfl) dX3_copyEdges_15 ⟨(Nat.le_of_ble_eq_true rfl), (Nat.le_of_ble_eq_true rfl)⟩) hP hD hS hA [4, 5] [0, 1, 2, 3] rfl rfl rfl (by decide) (fun r_34 u_35 H locs hw_36 hP hD hS => ?_)
      have hw_37 : r_34 = (nmB pf (nI (48 + 4)) z) := hw_36
      subst hw_37
      have hP : va_P D vwCl [kX0 h0 a1 a2 a3 en ev, kI cI a1 12 x1, kI cI a2 12 x2, kI cI a3 12 x3, kX3 pg pc (nI z), kI cI pc 16 pf] H := hP
      have hD : va_D A [kX0 h0 a1 a2 a3 en ev, kI cI a1 12 x1, kI cI a2 12 x2, kI cI a3 12 x3, kX3 pg pc (nI z), kI cI pc 16 pf] := hD
      refine lv_nmi (show _ = (nmB pf 52 z : Int32) from rfl) ?_
      refine lv_if_eq (tgt := 25) hx hb dX3_copyEdges_18 (by decide) (fun c_38 => ?_) (fun c_38 => ?_)
      · skip
        refine lv_iconst (v := 0) hx hb dX3_copyEdges_25 (by decide) ?_
        refine lv_iadd hx hb dX3_copyEdges_26 ?_
        refine lv_nmi (show _ = (3 : Int32) from by decide +kernel) ?_
        refine lv_istore_n (lv' := [(3, .int 3), (4, .int 4), (0, .ref pg), (1, .ref h0), (2, .int 0)]) hx hb dX3_copyEdges_27 rfl hl (by decide) rfl (fun ls hl => ?_)
        refine lv_iinc (v := 5) (lv' := [(4, .int 5), (3, .int 3), (0, .ref pg), (1, .ref h0), (2, .int 0)]) hx hb dX3_copyEdges_28 hl (k := 1) rfl (by decide) (by decide) rfl (fun ls hl => ?_)
        refine lv_goto (tgt := 5) hx hb dX3_copyEdges_31 (by decide) ?_
        refine lv_iload hx hb dX3_copyEdges_5 (lv_at hl 0 rfl) ?_
        refine lv_iconst (v := 5) hx hb dX3_copyEdges_7 (by decide) ?_
        refine lv_icmp_ge (tgt := 34) hx hb dX3_copyEdges_8 (by decide) (fun c_39 => ?_) (fun c_39 => ?_)
        rotate_left
        · exact absurd c_39 (by decide)
        exact CUT_34 3 (by simp [ndN, c_18, c_24, c_38]) _ _ _ (hP.sub [4, 5, 0, 1, 2, 3] rfl) (hD.sub [4, 5, 0, 1, 2, 3] rfl rfl) hS (lv_sub hl [2, 3, 4, 1] rfl)
      · skip
        refine lv_iconst (v := 1) hx hb dX3_copyEdges_21 (by decide) ?_
        refine lv_goto (tgt := 26) hx hb dX3_copyEdges_22 (by decide) ?_
        refine lv_iadd hx hb dX3_copyEdges_26 ?_
        refine lv_nmi (show _ = (4 : Int32) from by decide +kernel) ?_
        refine lv_istore_n (lv' := [(3, .int 4), (4, .int 4), (0, .ref pg), (1, .ref h0), (2, .int 0)]) hx hb dX3_copyEdges_27 rfl hl (by decide) rfl (fun ls hl => ?_)
        refine lv_iinc (v := 5) (lv' := [(4, .int 5), (3, .int 4), (0, .ref pg), (1, .ref h0), (2, .int 0)]) hx hb dX3_copyEdges_28 hl (k := 1) rfl (by decide) (by decide) rfl (fun ls hl => ?_)
        refine lv_goto (tgt := 5) hx hb dX3_copyEdges_31 (by decide) ?_
        refine lv_iload hx hb dX3_copyEdges_5 (lv_at hl 0 rfl) ?_
        refine lv_iconst (v := 5) hx hb dX3_copyEdges_7 (by decide) ?_
        refine lv_icmp_ge (tgt := 34) hx hb dX3_copyEdges_8 (by decide) (fun c_40 => ?_) (fun c_40 => ?_)
        rotate_left
        · exact absurd c_40 (by decide)
        exact CUT_34 4 (by simp [ndN, c_18, c_24, c_38]) _ _ _ (hP.sub [4, 5, 0, 1, 2, 3] rfl) (hD.sub [4, 5, 0, 1, 2, 3] rfl rfl) hS (lv_sub hl [2, 3, 4, 1] rfl)
  · skip
    refine lv_iconst (v := 1) hx hb dX3_copyEdges_21 (by decide) ?_
    refine lv_goto (tgt := 26) hx hb dX3_copyEdges_22 (by decide) ?_
    refine lv_iadd hx hb dX3_copyEdges_26 ?_
    refine lv_nmi (show _ = (3 : Int32) from by decide +kernel) ?_
    refine lv_istore_n (lv' := [(3, .int 3), (4, .int 2), (0, .ref pg), (1, .ref h0), (2, .int 0)]) hx hb dX3_copyEdges_27 rfl hl (by decide) rfl (fun ls hl => ?_)
    refine lv_iinc (v := 3) (lv' := [(4, .int 3), (3, .int 3), (0, .ref pg), (1, .ref h0), (2, .int 0)]) hx hb dX3_copyEdges_28 hl (k := 1) rfl (by decide) (by decide) rfl (fun ls hl => ?_)
    refine lv_goto (tgt := 5) hx hb dX3_copyEdges_31 (by decide) ?_
    refine lv_iload hx hb dX3_copyEdges_5 (lv_at hl 0 rfl) ?_
    refine lv_iconst (v := 5) hx hb dX3_copyEdges_7 (by decide) ?_
    refine lv_icmp_ge (tgt := 34) hx hb dX3_copyEdges_8 (by decide) (fun c_41 => ?_) (fun c_41 => ?_)
    · exact absurd c_41 (by decide)
    refine lv_iload_n hx hb dX3_copyEdges_11 rfl (lv_at hl 1 rfl) ?_
    refine lv_aload_n hx hb dX3_copyEdges_12 rfl (lv_at hl 2 rfl) ?_
    refine lv_iload hx hb dX3_copyEdges_13 (lv_at hl 0 rfl) ?_
    refine xc_i (wc := [kX3 pg pc (nI z), kI cI pc 16 pf]) (wr := [kX0 h0 a1 a2 a3 en ev, kI cI a1 12 x1, kI cI a2 12 x2, kI cI a3 12 x3]) (xrV (n := 1) (As := [.int 3]) (rest := [.int 3]) (ci := 3) (q0 := 4) hd hK hP hD (c_X3_names l D cI cJ cZ cR _ pg pc z pf 3 hz) (gV t_236 mV_X3_names) hV_X3_names ⟨(Nat.le_of_ble_eq_true rfl), (Nat.le_of_ble_eq_true rfl)⟩ rfl rfl [4, 5] rfl rfl rfl hl.1 rfl (Nat.le_of_ble_eq_true rfl) dX3_copyEdges_15 ⟨(Nat.le_of_ble_eq_true rfl), (Nat.le_of_ble_eq_true rfl)⟩) hP hD hS hA [4, 5] [0, 1, 2, 3] rfl rfl rfl (by decide) (fun r_42 u_43 H locs hw_44 hP hD hS => ?_)
    have hw_45 : r_42 = (nmB pf (nI (48 + 3)) z) := hw_44
    subst hw_45
    have hP : va_P D vwCl [kX0 h0 a1 a2 a3 en ev, kI cI a1 12 x1, kI cI a2 12 x2, kI cI a3 12 x3, kX3 pg pc (nI z), kI cI pc 16 pf] H := hP
    have hD : va_D A [kX0 h0 a1 a2 a3 en ev, kI cI a1 12 x1, kI cI a2 12 x2, kI cI a3 12 x3, kX3 pg pc (nI z), kI cI pc 16 pf] := hD
    refine lv_nmi (show _ = (nmB pf 51 z : Int32) from rfl) ?_
    refine lv_if_eq (tgt := 25) hx hb dX3_copyEdges_18 (by decide) (fun c_46 => ?_) (fun c_46 => ?_)
    · skip
      refine lv_iconst (v := 0) hx hb dX3_copyEdges_25 (by decide) ?_
      refine lv_iadd hx hb dX3_copyEdges_26 ?_
      refine lv_nmi (show _ = (3 : Int32) from by decide +kernel) ?_
      refine lv_istore_n (lv' := [(3, .int 3), (4, .int 3), (0, .ref pg), (1, .ref h0), (2, .int 0)]) hx hb dX3_copyEdges_27 rfl hl (by decide) rfl (fun ls hl => ?_)
      refine lv_iinc (v := 4) (lv' := [(4, .int 4), (3, .int 3), (0, .ref pg), (1, .ref h0), (2, .int 0)]) hx hb dX3_copyEdges_28 hl (k := 1) rfl (by decide) (by decide) rfl (fun ls hl => ?_)
      refine lv_goto (tgt := 5) hx hb dX3_copyEdges_31 (by decide) ?_
      refine lv_iload hx hb dX3_copyEdges_5 (lv_at hl 0 rfl) ?_
      refine lv_iconst (v := 5) hx hb dX3_copyEdges_7 (by decide) ?_
      refine lv_icmp_ge (tgt := 34) hx hb dX3_copyEdges_8 (by decide) (fun c_47 => ?_) (fun c_47 => ?_)
      · exact absurd c_47 (by decide)
      refine lv_iload_n hx hb dX3_copyEdges_11 rfl (lv_at hl 1 rfl) ?_
      refine lv_aload_n hx hb dX3_copyEdges_12 rfl (lv_at hl 2 rfl) ?_
      refine lv_iload hx hb dX3_copyEdges_13 (lv_at hl 0 rfl) ?_
      refine xc_i (wc := [kX3 pg pc (nI z), kI cI pc 16 pf]) (wr := [kX0 h0 a1 a2 a3 en ev, kI cI a1 12 x1, kI cI a2 12 x2, kI cI a3 12 x3]) (xrV (n := 1) (As := [.int 4]) (rest := [.int 3]) (ci := 3) (q0 := 4) hd hK hP hD (c_X3_names l D cI cJ cZ cR _ pg pc z pf 4 hz) (gV t_236 mV_X3_names) hV_X3_names ⟨(Nat.le_of_ble_eq_true rfl), (Nat.le_of_ble_eq_true rfl)⟩ rfl rfl [4, 5] rfl rfl rfl hl.1 rfl (Nat.le_of_ble_eq_true rfl) dX3_copyEdges_15 ⟨(Nat.le_of_ble_eq_true rfl), (Nat.le_of_ble_eq_true rfl)⟩) hP hD hS hA [4, 5] [0, 1, 2, 3] rfl rfl rfl (by decide) (fun r_48 u_49 H locs hw_50 hP hD hS => ?_)
      have hw_51 : r_48 = (nmB pf (nI (48 + 4)) z) := hw_50
      subst hw_51
      have hP : va_P D vwCl [kX0 h0 a1 a2 a3 en ev, kI cI a1 12 x1, kI cI a2 12 x2, kI cI a3 12 x3, kX3 pg pc (nI z), kI cI pc 16 pf] H := hP
      have hD : va_D A [kX0 h0 a1 a2 a3 en ev, kI cI a1 12 x1, kI cI a2 12 x2, kI cI a3 12 x3, kX3 pg pc (nI z), kI cI pc 16 pf] := hD
      refine lv_nmi (show _ = (nmB pf 52 z : Int32) from rfl) ?_
      refine lv_if_eq (tgt := 25) hx hb dX3_copyEdges_18 (by decide) (fun c_52 => ?_) (fun c_52 => ?_)
      · skip
        refine lv_iconst (v := 0) hx hb dX3_copyEdges_25 (by decide) ?_
        refine lv_iadd hx hb dX3_copyEdges_26 ?_
        refine lv_nmi (show _ = (3 : Int32) from by decide +kernel) ?_
        refine lv_istore_n (lv' := [(3, .int 3), (4, .int 4), (0, .ref pg), (1, .ref h0), (2, .int 0)]) hx hb dX3_copyEdges_27 rfl hl (by decide) rfl (fun ls hl => ?_)
        refine lv_iinc (v := 5) (lv' := [(4, .int 5), (3, .int 3), (0, .ref pg), (1, .ref h0), (2, .int 0)]) hx hb dX3_copyEdges_28 hl (k := 1) rfl (by decide) (by decide) rfl (fun ls hl => ?_)
        refine lv_goto (tgt := 5) hx hb dX3_copyEdges_31 (by decide) ?_
        refine lv_iload hx hb dX3_copyEdges_5 (lv_at hl 0 rfl) ?_
        refine lv_iconst (v := 5) hx hb dX3_copyEdges_7 (by decide) ?_
        refine lv_icmp_ge (tgt := 34) hx hb dX3_copyEdges_8 (by decide) (fun c_53 => ?_) (fun c_53 => ?_)
        rotate_left
        · exact absurd c_53 (by decide)
        exact CUT_34 3 (by simp [ndN, c_18, c_46, c_52]) _ _ _ (hP.sub [4, 5, 0, 1, 2, 3] rfl) (hD.sub [4, 5, 0, 1, 2, 3] rfl rfl) hS (lv_sub hl [2, 3, 4, 1] rfl)
      · skip
        refine lv_iconst (v := 1) hx hb dX3_copyEdges_21 (by decide) ?_
        refine lv_goto (tgt := 26) hx hb dX3_copyEdges_22 (by decide) ?_
        refine lv_iadd hx hb dX3_copyEdges_26 ?_
        refine lv_nmi (show _ = (4 : Int32) from by decide +kernel) ?_
        refine lv_istore_n (lv' := [(3, .int 4), (4, .int 4), (0, .ref pg), (1, .ref h0), (2, .int 0)]) hx hb dX3_copyEdges_27 rfl hl (by decide) rfl (fun ls hl => ?_)
        refine lv_iinc (v := 5) (lv' := [(4, .int 5), (3, .int 4), (0, .ref pg), (1, .ref h0), (2, .int 0)]) hx hb dX3_copyEdges_28 hl (k := 1) rfl (by decide) (by decide) rfl (fun ls hl => ?_)
        refine lv_goto (tgt := 5) hx hb dX3_copyEdges_31 (by decide) ?_
        refine lv_iload hx hb dX3_copyEdges_5 (lv_at hl 0 rfl) ?_
        refine lv_iconst (v := 5) hx hb dX3_copyEdges_7 (by decide) ?_
        refine lv_icmp_ge (tgt := 34) hx hb dX3_copyEdges_8 (by decide) (fun c_54 => ?_) (fun c_54 => ?_)
        rotate_left
        · exact absurd c_54 (by decide)
        exact CUT_34 4 (by simp [ndN, c_18, c_46, c_52]) _ _ _ (hP.sub [4, 5, 0, 1, 2, 3] rfl) (hD.sub [4, 5, 0, 1, 2, 3] rfl rfl) hS (lv_sub hl [2, 3, 4, 1] rfl)
    · skip
      refine lv_iconst (v := 1) hx hb dX3_copyEdges_21 (by decide) ?_
      refine lv_goto (tgt := 26) hx hb dX3_copyEdges_22 (by decide) ?_
      refine lv_iadd hx hb dX3_copyEdges_26 ?_
      refine lv_nmi (show _ = (4 : Int32) from by decide +kernel) ?_
      refine lv_istore_n (lv' := [(3, .int 4), (4, .int 3), (0, .ref pg), (1, .ref h0), (2, .int 0)]) hx hb dX3_copyEdges_27 rfl hl (by decide) rfl (fun ls hl => ?_)
      refine lv_iinc (v := 4) (lv' := [(4, .int 4), (3, .int 4), (0, .ref pg), (1, .ref h0), (2, .int 0)]) hx hb dX3_copyEdges_28 hl (k := 1) rfl (by decide) (by decide) rfl (fun ls hl => ?_)
      refine lv_goto (tgt := 5) hx hb dX3_copyEdges_31 (by decide) ?_
      refine lv_iload hx hb dX3_copyEdges_5 (lv_at hl 0 rfl) ?_
      refine lv_iconst (v := 5) hx hb dX3_copyEdges_7 (by decide) ?_
      refine lv_icmp_ge (tgt := 34) hx hb dX3_copyEdges_8 (by decide) (fun c_55 => ?_) (fun c_55 => ?_)
      · exact absurd c_55 (by decide)
      refine lv_iload_n hx hb dX3_copyEdges_11 rfl (lv_at hl 1 rfl) ?_
      refine lv_aload_n hx hb dX3_copyEdges_12 rfl (lv_at hl 2 rfl) ?_
      refine lv_iload hx hb dX3_copyEdges_13 (lv_at hl 0 rfl) ?_
      refine xc_i (wc := [kX3 pg pc (nI z), kI cI pc 16 pf]) (wr := [kX0 h0 a1 a2 a3 en ev, kI cI a1 12 x1, kI cI a2 12 x2, kI cI a3 12 x3]) (xrV (n := 1) (As := [.int 4]) (rest := [.int 4]) (ci := 3) (q0 := 4) hd hK hP hD (c_X3_names l D cI cJ cZ cR _ pg pc z pf 4 hz) (gV t_236 mV_X3_names) hV_X3_names ⟨(Nat.le_of_ble_eq_true rfl), (Nat.le_of_ble_eq_true rfl)⟩ rfl rfl [4, 5] rfl rfl rfl hl.1 rfl (Nat.le_of_ble_eq_true rfl) dX3_copyEdges_15 ⟨(Nat.le_of_ble_eq_true rfl), (Nat.le_of_ble_eq_true rfl)⟩) hP hD hS hA [4, 5] [0, 1, 2, 3] rfl rfl rfl (by decide) (fun r_56 u_57 H locs hw_58 hP hD hS => ?_)
      have hw_59 : r_56 = (nmB pf (nI (48 + 4)) z) := hw_58
      subst hw_59
      have hP : va_P D vwCl [kX0 h0 a1 a2 a3 en ev, kI cI a1 12 x1, kI cI a2 12 x2, kI cI a3 12 x3, kX3 pg pc (nI z), kI cI pc 16 pf] H := hP
      have hD : va_D A [kX0 h0 a1 a2 a3 en ev, kI cI a1 12 x1, kI cI a2 12 x2, kI cI a3 12 x3, kX3 pg pc (nI z), kI cI pc 16 pf] := hD
      refine lv_nmi (show _ = (nmB pf 52 z : Int32) from rfl) ?_
      refine lv_if_eq (tgt := 25) hx hb dX3_copyEdges_18 (by decide) (fun c_60 => ?_) (fun c_60 => ?_)
      · skip
        refine lv_iconst (v := 0) hx hb dX3_copyEdges_25 (by decide) ?_
        refine lv_iadd hx hb dX3_copyEdges_26 ?_
        refine lv_nmi (show _ = (4 : Int32) from by decide +kernel) ?_
        refine lv_istore_n (lv' := [(3, .int 4), (4, .int 4), (0, .ref pg), (1, .ref h0), (2, .int 0)]) hx hb dX3_copyEdges_27 rfl hl (by decide) rfl (fun ls hl => ?_)
        refine lv_iinc (v := 5) (lv' := [(4, .int 5), (3, .int 4), (0, .ref pg), (1, .ref h0), (2, .int 0)]) hx hb dX3_copyEdges_28 hl (k := 1) rfl (by decide) (by decide) rfl (fun ls hl => ?_)
        refine lv_goto (tgt := 5) hx hb dX3_copyEdges_31 (by decide) ?_
        refine lv_iload hx hb dX3_copyEdges_5 (lv_at hl 0 rfl) ?_
        refine lv_iconst (v := 5) hx hb dX3_copyEdges_7 (by decide) ?_
        refine lv_icmp_ge (tgt := 34) hx hb dX3_copyEdges_8 (by decide) (fun c_61 => ?_) (fun c_61 => ?_)
        rotate_left
        · exact absurd c_61 (by decide)
        exact CUT_34 4 (by simp [ndN, c_18, c_46, c_60]) _ _ _ (hP.sub [4, 5, 0, 1, 2, 3] rfl) (hD.sub [4, 5, 0, 1, 2, 3] rfl rfl) hS (lv_sub hl [2, 3, 4, 1] rfl)
      · skip
        refine lv_iconst (v := 1) hx hb dX3_copyEdges_21 (by decide) ?_
        refine lv_goto (tgt := 26) hx hb dX3_copyEdges_22 (by decide) ?_
        refine lv_iadd hx hb dX3_copyEdges_26 ?_
        refine lv_nmi (show _ = (5 : Int32) from by decide +kernel) ?_
        refine lv_istore_n (lv' := [(3, .int 5), (4, .int 4), (0, .ref pg), (1, .ref h0), (2, .int 0)]) hx hb dX3_copyEdges_27 rfl hl (by decide) rfl (fun ls hl => ?_)
        refine lv_iinc (v := 5) (lv' := [(4, .int 5), (3, .int 5), (0, .ref pg), (1, .ref h0), (2, .int 0)]) hx hb dX3_copyEdges_28 hl (k := 1) rfl (by decide) (by decide) rfl (fun ls hl => ?_)
        refine lv_goto (tgt := 5) hx hb dX3_copyEdges_31 (by decide) ?_
        refine lv_iload hx hb dX3_copyEdges_5 (lv_at hl 0 rfl) ?_
        refine lv_iconst (v := 5) hx hb dX3_copyEdges_7 (by decide) ?_
        refine lv_icmp_ge (tgt := 34) hx hb dX3_copyEdges_8 (by decide) (fun c_62 => ?_) (fun c_62 => ?_)
        rotate_left
        · exact absurd c_62 (by decide)
        exact CUT_34 5 (by simp [ndN, c_18, c_46, c_60]) _ _ _ (hP.sub [4, 5, 0, 1, 2, 3] rfl) (hD.sub [4, 5, 0, 1, 2, 3] rfl rfl) hS (lv_sub hl [2, 3, 4, 1] rfl)
set_option maxHeartbeats 4000000 in
set_option maxRecDepth 100000 in
theorem c_X3_copyGraph (sz : Nat) (pg : Nat) (pc : Nat) (z : Nat) (pf : Nat → Int32) (h0 : Nat) (a1 : Nat) (a2 : Nat) (a3 : Nat) (E : Nat) (en : Int32) (ev : Int32) (x1 : Nat → Int32) (x2 : Nat → Int32) (x3 : Nat → Int32) (hz : z ≤ 16) (hE : z = 0 + 3 * E) (hE3 : E ≤ 12) : CTv l D cI cJ cZ cR yX3_copyGraph cX3_copyGraph 2 none 3 71 0 0 sz [.ref pg, .ref h0] [kX3 pg pc (nI z), kI cI pc 16 pf, kX0 h0 a1 a2 a3 en ev, kI cI a1 12 x1, kI cI a2 12 x2, kI cI a3 12 x3] (fun (u : (Nat → Int32) × (Nat → Int32) × (Nat → Int32)) => (edT pf 0 E u.1 u.2.1 u.2.2)) (fun (u : (Nat → Int32) × (Nat → Int32) × (Nat → Int32)) => [kX3 pg pc (nI z), kI cI pc 16 pf, kX0 h0 a1 a2 a3 (nI E) (nI (ndN pf z)), kI cI a1 12 u.1, kI cI a2 12 u.2.1, kI cI a3 12 u.2.2]) := by
  refine CTv.of (by decide) (Nat.le_of_ble_eq_true rfl) rfl ?_
  intro p e s m below meth c A Q ls hd hin hK hsz hP hD hA hS hl hret
  obtain ⟨hx, hb, hml, hown, hts⟩ := id hd
  have hK1 := hK.1
  have hown : s.vm.findClass RX3 = some m.cls := hown
  have hl : lv_has ls 2 [(0, .ref pg), (1, .ref h0)] := hl
  refine lv_aload_n hx hb dX3_copyGraph_0 rfl (lv_at hl 0 rfl) ?_
  refine lv_aload_n hx hb dX3_copyGraph_1 rfl (lv_at hl 1 rfl) ?_
  refine lv_iconst (v := 0) hx hb dX3_copyGraph_2 (by decide) ?_
  refine xc_v (wc := [kX3 pg pc (nI z), kI cI pc 16 pf, kX0 h0 a1 a2 a3 en ev, kI cI a1 12 x1, kI cI a2 12 x2, kI cI a3 12 x3]) (wr := []) (xrV (n := 2) (As := [.ref h0, .int 0]) (rest := []) (ci := 3) (q0 := 0) hd hK hP hD (g_copyEdges_1 l D cI cJ cZ cR _ pg pc z pf h0 a1 a2 a3 E en ev x1 x2 x3 hz hE hE3) (gV t_263 mV_X3_copyEdges) hV_X3_copyEdges ⟨(Nat.le_of_ble_eq_true rfl), (Nat.le_of_ble_eq_true rfl)⟩ rfl rfl [0, 1, 2, 3, 4, 5] rfl rfl rfl hl.1 rfl (Nat.le_of_ble_eq_true rfl) dX3_copyGraph_3 ⟨(Nat.le_of_ble_eq_true rfl), (Nat.le_of_ble_eq_true rfl)⟩) hP hD hS hA [0, 1, 2, 3, 4, 5] [] rfl rfl rfl (by decide) (fun u_2 H locs hw_3 hP hD hS => ?_)
  obtain ⟨y1_4, y2_5, y3_6⟩ := u_2
  have hw_7 : edT pf 0 E y1_4 y2_5 y3_6 := hw_3
  have hP : va_P D vwCl [kX3 pg pc (nI z), kI cI pc 16 pf, kX0 h0 a1 a2 a3 (nI E) (nI (ndN pf z)), kI cI a1 12 y1_4, kI cI a2 12 y2_5, kI cI a3 12 y3_6] H := hP
  have hD : va_D A [kX3 pg pc (nI z), kI cI pc 16 pf, kX0 h0 a1 a2 a3 (nI E) (nI (ndN pf z)), kI cI a1 12 y1_4, kI cI a2 12 y2_5, kI cI a3 12 y3_6] := hD
  exact hret _ _ _ _ _ _ (y1_4, y2_5, y3_6) dX3_copyGraph_6 hS (Nat.le_of_ble_eq_true rfl) (Nat.le_of_ble_eq_true rfl) hw_7 (hP.sub [0, 1, 2, 3, 4, 5] rfl) (hD.sub [0, 1, 2, 3, 4, 5] rfl rfl)
set_option maxHeartbeats 4000000 in
set_option maxRecDepth 100000 in
theorem c_X4_kindFrom (sz : Nat) (h0 : Nat) (b0 : Nat) (a1 : Nat) (a2 : Nat) (a3 : Nat) (s0 : Nat) (w0 : Nat) (u0 : Nat) (op : Int32) (en : Int32) (ev : Int32) (x1 : Nat → Int32) (x2 : Nat → Int32) (x3 : Nat → Int32) (x4 : Nat → Int32) (x5 : Nat → Int32) (x6 : Nat → Int32) (p1 : Int32) (p2 : Int32) (p3 : Int32) (hw4 : ∀ j, j < 64 → lt4 (x5 j)) (hu4 : ∀ j, j < 64 → lt4 (x6 j)) : CTi l D cI cJ cZ cR yX4_kindFrom cX4_kindFrom 6 (some .int) 0 0 0 0 sz [.ref h0, .int p1, .int p2, .int p3] [kX4 h0 op b0 s0 w0 u0, kX0 b0 a1 a2 a3 en ev, kI cI a1 3 x1, kI cI a2 3 x2, kI cI a3 3 x3, kI cI s0 3 x4, kI cI w0 64 x5, kI cI u0 64 x6] (fun (r : Int32) (u : Nat) => (r = (nI u)) ∧ (u < 16)) (fun (u : Nat) => [kX4 h0 op b0 s0 w0 u0, kX0 b0 a1 a2 a3 en ev, kI cI a1 3 x1, kI cI a2 3 x2, kI cI a3 3 x3, kI cI s0 3 x4, kI cI w0 64 x5, kI cI u0 64 x6]) := by
  refine CTi.of (ty := .int) (by decide) (Nat.le_of_ble_eq_true rfl) rfl ?_
  intro p e s m below meth c A Q ls hd hin hK hsz hP hD hA hS hl hret
  obtain ⟨hx, hb, hml, hown, hts⟩ := id hd
  have hK1 := hK.1
  have hown : s.vm.findClass RX4 = some m.cls := hown
  have hl : lv_has ls 6 [(0, .ref h0), (1, .int p1), (2, .int p2), (3, .int p3)] := hl
  obtain ⟨k1, hk1, ek1⟩ := k3 (and3 p1) (and3 p2) (and3 p3)
  obtain ⟨k2, hk2, ek2⟩ := k3 (and3 (p1 >>> (2 &&& 31))) (and3 (p2 >>> (2 &&& 31))) (and3 (p3 >>> (2 &&& 31)))
  obtain ⟨kk, hkk, ekk⟩ := k2r (hw4 k1 hk1) (hu4 k2 hk2)
  refine lv_iload_n hx hb dX4_kindFrom_0 rfl (lv_at hl 1 rfl) ?_
  refine lv_iconst (v := 3) hx hb dX4_kindFrom_1 (by decide) ?_
  refine lv_iand hx hb dX4_kindFrom_2 ?_
  refine lv_iload_n hx hb dX4_kindFrom_3 rfl (lv_at hl 2 rfl) ?_
  refine lv_iconst (v := 3) hx hb dX4_kindFrom_4 (by decide) ?_
  refine lv_iand hx hb dX4_kindFrom_5 ?_
  refine lv_iconst (v := 2) hx hb dX4_kindFrom_6 (by decide) ?_
  refine lv_ishl hx hb dX4_kindFrom_7 ?_
  refine lv_ior hx hb dX4_kindFrom_8 ?_
  refine lv_iload_n hx hb dX4_kindFrom_9 rfl (lv_at hl 3 rfl) ?_
  refine lv_iconst (v := 3) hx hb dX4_kindFrom_10 (by decide) ?_
  refine lv_iand hx hb dX4_kindFrom_11 ?_
  refine lv_iconst (v := 4) hx hb dX4_kindFrom_12 (by decide) ?_
  refine lv_ishl hx hb dX4_kindFrom_13 ?_
  refine lv_ior hx hb dX4_kindFrom_14 ?_
  refine lv_nmi (show _ = (nI k1 : Int32) from ek1) ?_
  refine lv_istore (lv' := [(4, .int (nI k1)), (0, .ref h0), (1, .int p1), (2, .int p2), (3, .int p3)]) hx hb dX4_kindFrom_15 hl (by decide) rfl (fun ls hl => ?_)
  refine lv_iload_n hx hb dX4_kindFrom_17 rfl (lv_at hl 2 rfl) ?_
  refine lv_iconst (v := 2) hx hb dX4_kindFrom_18 (by decide) ?_
  refine lv_ishr hx hb dX4_kindFrom_19 ?_
  refine lv_iconst (v := 3) hx hb dX4_kindFrom_20 (by decide) ?_
  refine lv_iand hx hb dX4_kindFrom_21 ?_
  refine lv_iload_n hx hb dX4_kindFrom_22 rfl (lv_at hl 3 rfl) ?_
  refine lv_iconst (v := 2) hx hb dX4_kindFrom_23 (by decide) ?_
  refine lv_ishr hx hb dX4_kindFrom_24 ?_
  refine lv_iconst (v := 3) hx hb dX4_kindFrom_25 (by decide) ?_
  refine lv_iand hx hb dX4_kindFrom_26 ?_
  refine lv_iconst (v := 2) hx hb dX4_kindFrom_27 (by decide) ?_
  refine lv_ishl hx hb dX4_kindFrom_28 ?_
  refine lv_ior hx hb dX4_kindFrom_29 ?_
  refine lv_iload_n hx hb dX4_kindFrom_30 rfl (lv_at hl 4 rfl) ?_
  refine lv_iconst (v := 2) hx hb dX4_kindFrom_31 (by decide) ?_
  refine lv_ishr hx hb dX4_kindFrom_32 ?_
  refine lv_iconst (v := 3) hx hb dX4_kindFrom_33 (by decide) ?_
  refine lv_iand hx hb dX4_kindFrom_34 ?_
  refine lv_iconst (v := 4) hx hb dX4_kindFrom_35 (by decide) ?_
  refine lv_ishl hx hb dX4_kindFrom_36 ?_
  refine lv_ior hx hb dX4_kindFrom_37 ?_
  refine lv_nmi (show _ = (nI k2 : Int32) from ek2) ?_
  refine lv_istore (lv' := [(5, .int (nI k2)), (4, .int (nI k1)), (0, .ref h0), (1, .int p1), (2, .int p2), (3, .int p3)]) hx hb dX4_kindFrom_38 hl (by decide) rfl (fun ls hl => ?_)
  refine lv_aload_n hx hb dX4_kindFrom_40 rfl (lv_at hl 2 rfl) ?_
  refine va_get (D := D) (ci := 4) (v := .ref w0) (C := RX4) (T := TX4) (N := 5) hx hb hts iT_X4 hown hK1 hP 0 rfl rfl 3 (by decide) (hts _ t_89) (fun _ h9 => h9) rfl dX4_kindFrom_41 ?_
  refine lv_iload hx hb dX4_kindFrom_44 (lv_at hl 1 rfl) ?_
  refine va_iald hx hb hK1 hP 6 0 rfl rfl (vp_in_nI (by omega) (by omega)) dX4_kindFrom_46 ?_
  refine lv_nmi (show _ = x5 k1 from by rw [nI_clamp (n := k1) (by omega)]) ?_
  refine lv_aload_n hx hb dX4_kindFrom_47 rfl (lv_at hl 2 rfl) ?_
  refine va_get (D := D) (ci := 4) (v := .ref u0) (C := RX4) (T := TX4) (N := 5) hx hb hts iT_X4 hown hK1 hP 0 rfl rfl 4 (by decide) (hts _ t_90) (fun _ h9 => h9) rfl dX4_kindFrom_48 ?_
  refine lv_iload hx hb dX4_kindFrom_51 (lv_at hl 0 rfl) ?_
  refine va_iald hx hb hK1 hP 7 0 rfl rfl (vp_in_nI (by omega) (by omega)) dX4_kindFrom_53 ?_
  refine lv_nmi (show _ = x6 k2 from by rw [nI_clamp (n := k2) (by omega)]) ?_
  refine lv_iconst (v := 2) hx hb dX4_kindFrom_54 (by decide) ?_
  refine lv_ishl hx hb dX4_kindFrom_55 ?_
  refine lv_ior hx hb dX4_kindFrom_56 ?_
  refine lv_nmi (show _ = (nI kk : Int32) from ekk) ?_
  exact hret _ _ _ _ _ _ (nI kk) kk dX4_kindFrom_57 rfl hS (Nat.le_of_ble_eq_true rfl) (Nat.le_of_ble_eq_true rfl) ⟨rfl, hkk⟩ (hP.sub [0, 1, 2, 3, 4, 5, 6, 7] rfl) (hD.sub [0, 1, 2, 3, 4, 5, 6, 7] rfl rfl)
end
