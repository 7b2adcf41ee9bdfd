theorem mV_X3_write : Cond.instanceMethod yX3_write ∈ gT ∧ Cond.selects RX3 yX3_write yX3_write ∈ gT ∧ Cond.initialized RX3 ∈ gT ∧ Cond.code yX3_write cX3_write 2 none ∈ gT := ⟨t_190, t_191, t_2, t_192⟩
theorem hV_X3_write : yX3_write.cls = RX3 ∧ yX3_write.cls ≠ "java/lang/invoke/MethodHandle" ∧ yX3_write.cls ≠ "java/lang/invoke/VarHandle" ∧ (parseMethodDescriptor yX3_write.desc).map (fun d => d.parameters.length) = some 1 := by decide +kernel
theorem mV_X6_letter : Cond.instanceMethod yX6_letter ∈ gT ∧ Cond.selects RX6 yX6_letter yX6_letter ∈ gT ∧ Cond.initialized RX6 ∈ gT ∧ Cond.code yX6_letter cX6_letter 2 (some .int) ∈ gT := ⟨t_186, t_187, t_1, t_188⟩
theorem hV_X6_letter : yX6_letter.cls = RX6 ∧ yX6_letter.cls ≠ "java/lang/invoke/MethodHandle" ∧ yX6_letter.cls ≠ "java/lang/invoke/VarHandle" ∧ (parseMethodDescriptor yX6_letter.desc).map (fun d => d.parameters.length) = some 1 := by decide +kernel
theorem mV_X6_blank : Cond.instanceMethod yX6_blank ∈ gT ∧ Cond.selects RX6 yX6_blank yX6_blank ∈ gT ∧ Cond.initialized RX6 ∈ gT ∧ Cond.code yX6_blank cX6_blank 2 (some .int) ∈ gT := ⟨t_194, t_195, t_1, t_196⟩
theorem hV_X6_blank : yX6_blank.cls = RX6 ∧ yX6_blank.cls ≠ "java/lang/invoke/MethodHandle" ∧ yX6_blank.cls ≠ "java/lang/invoke/VarHandle" ∧ (parseMethodDescriptor yX6_blank.desc).map (fun d => d.parameters.length) = some 0 := by decide +kernel
theorem mV_X3_firstFault : Cond.instanceMethod yX3_firstFault ∈ gT ∧ Cond.selects RX3 yX3_firstFault yX3_firstFault ∈ gT ∧ Cond.initialized RX3 ∈ gT ∧ Cond.code yX3_firstFault cX3_firstFault 6 (some .int) ∈ gT := ⟨t_206, t_207, t_2, t_208⟩
theorem hV_X3_firstFault : yX3_firstFault.cls = RX3 ∧ yX3_firstFault.cls ≠ "java/lang/invoke/MethodHandle" ∧ yX3_firstFault.cls ≠ "java/lang/invoke/VarHandle" ∧ (parseMethodDescriptor yX3_firstFault.desc).map (fun d => d.parameters.length) = some 1 := by decide +kernel
theorem mV_X6_fault : Cond.instanceMethod yX6_fault ∈ gT ∧ Cond.selects RX6 yX6_fault yX6_fault ∈ gT ∧ Cond.initialized RX6 ∈ gT ∧ Cond.code yX6_fault cX6_fault 2 (some .int) ∈ gT := ⟨t_202, t_203, t_1, t_204⟩
theorem hV_X6_fault : yX6_fault.cls = RX6 ∧ yX6_fault.cls ≠ "java/lang/invoke/MethodHandle" ∧ yX6_fault.cls ≠ "java/lang/invoke/VarHandle" ∧ (parseMethodDescriptor yX6_fault.desc).map (fun d => d.parameters.length) = some 1 := by decide +kernel
theorem mV_X3_isWhole : Cond.instanceMethod yX3_isWhole ∈ gT ∧ Cond.selects RX3 yX3_isWhole yX3_isWhole ∈ gT ∧ Cond.initialized RX3 ∈ gT ∧ Cond.code yX3_isWhole cX3_isWhole 2 (some .boolean) ∈ gT := ⟨t_233, ts_2, t_2, t_234⟩
theorem hV_X3_isWhole : yX3_isWhole.cls = RX3 ∧ yX3_isWhole.cls ≠ "java/lang/invoke/MethodHandle" ∧ yX3_isWhole.cls ≠ "java/lang/invoke/VarHandle" ∧ (parseMethodDescriptor yX3_isWhole.desc).map (fun d => d.parameters.length) = some 1 := by decide +kernel
theorem mV_X3_isRule : Cond.instanceMethod yX3_isRule ∈ gT ∧ Cond.selects RX3 yX3_isRule yX3_isRule ∈ gT ∧ Cond.initialized RX3 ∈ gT ∧ Cond.code yX3_isRule cX3_isRule 1 (some .boolean) ∈ gT := ⟨t_228, t_229, t_2, t_230⟩
theorem hV_X3_isRule : yX3_isRule.cls = RX3 ∧ yX3_isRule.cls ≠ "java/lang/invoke/MethodHandle" ∧ yX3_isRule.cls ≠ "java/lang/invoke/VarHandle" ∧ (parseMethodDescriptor yX3_isRule.desc).map (fun d => d.parameters.length) = some 0 := by decide +kernel
theorem mV_X3_isGraph : Cond.instanceMethod yX3_isGraph ∈ gT ∧ Cond.selects RX3 yX3_isGraph yX3_isGraph ∈ gT ∧ Cond.initialized RX3 ∈ gT ∧ Cond.code yX3_isGraph cX3_isGraph 1 (some .boolean) ∈ gT := ⟨t_317, t_318, t_2, t_319⟩
theorem hV_X3_isGraph : yX3_isGraph.cls = RX3 ∧ yX3_isGraph.cls ≠ "java/lang/invoke/MethodHandle" ∧ yX3_isGraph.cls ≠ "java/lang/invoke/VarHandle" ∧ (parseMethodDescriptor yX3_isGraph.desc).map (fun d => d.parameters.length) = some 0 := by decide +kernel
theorem mV_X6_rule : Cond.instanceMethod yX6_rule ∈ gT ∧ Cond.selects RX6 yX6_rule yX6_rule ∈ gT ∧ Cond.initialized RX6 ∈ gT ∧ Cond.code yX6_rule cX6_rule 1 (some .int) ∈ gT := ⟨t_224, t_225, t_1, t_226⟩
theorem hV_X6_rule : yX6_rule.cls = RX6 ∧ yX6_rule.cls ≠ "java/lang/invoke/MethodHandle" ∧ yX6_rule.cls ≠ "java/lang/invoke/VarHandle" ∧ (parseMethodDescriptor yX6_rule.desc).map (fun d => d.parameters.length) = some 0 := by decide +kernel
theorem mV_X6_graph : Cond.instanceMethod yX6_graph ∈ gT ∧ Cond.selects RX6 yX6_graph yX6_graph ∈ gT ∧ Cond.initialized RX6 ∈ gT ∧ Cond.code yX6_graph cX6_graph 1 (some .int) ∈ gT := ⟨t_313, t_314, t_1, t_315⟩
theorem hV_X6_graph : yX6_graph.cls = RX6 ∧ yX6_graph.cls ≠ "java/lang/invoke/MethodHandle" ∧ yX6_graph.cls ≠ "java/lang/invoke/VarHandle" ∧ (parseMethodDescriptor yX6_graph.desc).map (fun d => d.parameters.length) = some 0 := by decide +kernel
theorem mV_X6_drop : Cond.instanceMethod yX6_drop ∈ gT ∧ Cond.selects RX6 yX6_drop yX6_drop ∈ gT ∧ Cond.initialized RX6 ∈ gT ∧ Cond.code yX6_drop cX6_drop 2 (some .int) ∈ gT := ⟨t_300, t_301, t_1, t_302⟩
theorem hV_X6_drop : yX6_drop.cls = RX6 ∧ yX6_drop.cls ≠ "java/lang/invoke/MethodHandle" ∧ yX6_drop.cls ≠ "java/lang/invoke/VarHandle" ∧ (parseMethodDescriptor yX6_drop.desc).map (fun d => d.parameters.length) = some 1 := by decide +kernel
theorem mV_X6_of : Cond.instanceMethod yX6_of ∈ gT ∧ Cond.selects RX6 yX6_of yX6_of ∈ gT ∧ Cond.initialized RX6 ∈ gT ∧ Cond.code yX6_of cX6_of 4 (some .int) ∈ gT := ⟨t_329, t_330, t_1, t_331⟩
theorem hV_X6_of : yX6_of.cls = RX6 ∧ yX6_of.cls ≠ "java/lang/invoke/MethodHandle" ∧ yX6_of.cls ≠ "java/lang/invoke/VarHandle" ∧ (parseMethodDescriptor yX6_of.desc).map (fun d => d.parameters.length) = some 2 := by decide +kernel
theorem mV_X6_step : Cond.instanceMethod yX6_step ∈ gT ∧ Cond.selects RX6 yX6_step yX6_step ∈ gT ∧ Cond.initialized RX6 ∈ gT ∧ Cond.code yX6_step cX6_step 4 (some .int) ∈ gT := ⟨t_345, t_346, t_1, t_347⟩
theorem hV_X6_step : yX6_step.cls = RX6 ∧ yX6_step.cls ≠ "java/lang/invoke/MethodHandle" ∧ yX6_step.cls ≠ "java/lang/invoke/VarHandle" ∧ (parseMethodDescriptor yX6_step.desc).map (fun d => d.parameters.length) = some 2 := by decide +kernel
theorem mV_X6_edge : Cond.instanceMethod yX6_edge ∈ gT ∧ Cond.selects RX6 yX6_edge yX6_edge ∈ gT ∧ Cond.initialized RX6 ∈ gT ∧ Cond.code yX6_edge cX6_edge 2 (some .int) ∈ gT := ⟨t_358, t_359, t_1, t_360⟩
theorem hV_X6_edge : yX6_edge.cls = RX6 ∧ yX6_edge.cls ≠ "java/lang/invoke/MethodHandle" ∧ yX6_edge.cls ≠ "java/lang/invoke/VarHandle" ∧ (parseMethodDescriptor yX6_edge.desc).map (fun d => d.parameters.length) = some 1 := by decide +kernel
theorem mV_X0_put : Cond.instanceMethod yX0_put ∈ gT ∧ Cond.selects RX0 yX0_put yX0_put ∈ gT ∧ Cond.initialized RX0 ∈ gT ∧ Cond.code yX0_put cX0_put 5 none ∈ gT := ⟨t_277, ts_6, t_5, t_278⟩
theorem hV_X0_put : yX0_put.cls = RX0 ∧ yX0_put.cls ≠ "java/lang/invoke/MethodHandle" ∧ yX0_put.cls ≠ "java/lang/invoke/VarHandle" ∧ (parseMethodDescriptor yX0_put.desc).map (fun d => d.parameters.length) = some 4 := by decide +kernel
theorem mV_X0_append : Cond.instanceMethod yX0_append ∈ gT ∧ Cond.selects RX0 yX0_append yX0_append ∈ gT ∧ Cond.initialized RX0 ∈ gT ∧ Cond.code yX0_append cX0_append 4 none ∈ gT := ⟨t_272, t_273, t_5, t_274⟩
theorem hV_X0_append : yX0_append.cls = RX0 ∧ yX0_append.cls ≠ "java/lang/invoke/MethodHandle" ∧ yX0_append.cls ≠ "java/lang/invoke/VarHandle" ∧ (parseMethodDescriptor yX0_append.desc).map (fun d => d.parameters.length) = some 3 := by decide +kernel
theorem mV_X6_noteNewGraph : Cond.instanceMethod yX6_noteNewGraph ∈ gT ∧ Cond.selects RX6 yX6_noteNewGraph yX6_noteNewGraph ∈ gT ∧ Cond.initialized RX6 ∈ gT ∧ Cond.code yX6_noteNewGraph cX6_noteNewGraph 1 none ∈ gT := ⟨t_326, ts_9, t_1, t_327⟩
theorem hV_X6_noteNewGraph : yX6_noteNewGraph.cls = RX6 ∧ yX6_noteNewGraph.cls ≠ "java/lang/invoke/MethodHandle" ∧ yX6_noteNewGraph.cls ≠ "java/lang/invoke/VarHandle" ∧ (parseMethodDescriptor yX6_noteNewGraph.desc).map (fun d => d.parameters.length) = some 0 := by decide +kernel
theorem mV_X6_begin : Cond.instanceMethod yX6_begin ∈ gT ∧ Cond.selects RX6 yX6_begin yX6_begin ∈ gT ∧ Cond.initialized RX6 ∈ gT ∧ Cond.code yX6_begin cX6_begin 2 (some .int) ∈ gT := ⟨t_338, t_339, t_1, t_340⟩
theorem hV_X6_begin : yX6_begin.cls = RX6 ∧ yX6_begin.cls ≠ "java/lang/invoke/MethodHandle" ∧ yX6_begin.cls ≠ "java/lang/invoke/VarHandle" ∧ (parseMethodDescriptor yX6_begin.desc).map (fun d => d.parameters.length) = some 1 := by decide +kernel
theorem dX0_append_0 : decode cX0_append 0 = .ok (.aload_n 0, 1) := by decide +kernel
theorem dX0_append_1 : decode cX0_append 1 = .ok (.getfield 9, 3) := by decide +kernel
theorem dX0_append_4 : decode cX0_append 4 = .ok (.aload_n 0, 1) := by decide +kernel
theorem dX0_append_5 : decode cX0_append 5 = .ok (.getfield 18, 3) := by decide +kernel
theorem dX0_append_8 : decode cX0_append 8 = .ok (.arraylength, 1) := by decide +kernel
theorem dX0_append_9 : decode cX0_append 9 = .ok (.if_icmp .ge 24, 3) := by decide +kernel
theorem dX0_append_12 : decode cX0_append 12 = .ok (.aload_n 0, 1) := by decide +kernel
theorem dX0_append_13 : decode cX0_append 13 = .ok (.aload_n 0, 1) := by decide +kernel
theorem dX0_append_14 : decode cX0_append 14 = .ok (.getfield 9, 3) := by decide +kernel
theorem dX0_append_17 : decode cX0_append 17 = .ok (.iload_n 1, 1) := by decide +kernel
theorem dX0_append_18 : decode cX0_append 18 = .ok (.iload_n 2, 1) := by decide +kernel
theorem dX0_append_19 : decode cX0_append 19 = .ok (.iload_n 3, 1) := by decide +kernel
theorem dX0_append_20 : decode cX0_append 20 = .ok (.invokevirtual 28, 3) := by decide +kernel
theorem dX0_append_23 : decode cX0_append 23 = .ok (.aload_n 0, 1) := by decide +kernel
theorem dX0_append_24 : decode cX0_append 24 = .ok (.dup, 1) := by decide +kernel
theorem dX0_append_25 : decode cX0_append 25 = .ok (.getfield 9, 3) := by decide +kernel
theorem dX0_append_28 : decode cX0_append 28 = .ok (.iconst 1, 1) := by decide +kernel
theorem dX0_append_29 : decode cX0_append 29 = .ok (.iadd, 1) := by decide +kernel
theorem dX0_append_30 : decode cX0_append 30 = .ok (.putfield 9, 3) := by decide +kernel
theorem dX0_append_33 : decode cX0_append 33 = .ok (.return_, 1) := by decide +kernel
theorem dX0_put_0 : decode cX0_put 0 = .ok (.aload_n 0, 1) := by decide +kernel
theorem dX0_put_1 : decode cX0_put 1 = .ok (.getfield 18, 3) := by decide +kernel
theorem dX0_put_4 : decode cX0_put 4 = .ok (.iload_n 1, 1) := by decide +kernel
theorem dX0_put_5 : decode cX0_put 5 = .ok (.iload_n 2, 1) := by decide +kernel
theorem dX0_put_6 : decode cX0_put 6 = .ok (.iastore, 1) := by decide +kernel
theorem dX0_put_7 : decode cX0_put 7 = .ok (.aload_n 0, 1) := by decide +kernel
theorem dX0_put_8 : decode cX0_put 8 = .ok (.getfield 22, 3) := by decide +kernel
theorem dX0_put_11 : decode cX0_put 11 = .ok (.iload_n 1, 1) := by decide +kernel
theorem dX0_put_12 : decode cX0_put 12 = .ok (.iload_n 3, 1) := by decide +kernel
theorem dX0_put_13 : decode cX0_put 13 = .ok (.iastore, 1) := by decide +kernel
theorem dX0_put_14 : decode cX0_put 14 = .ok (.aload_n 0, 1) := by decide +kernel
theorem dX0_put_15 : decode cX0_put 15 = .ok (.getfield 25, 3) := by decide +kernel
theorem dX0_put_18 : decode cX0_put 18 = .ok (.iload_n 1, 1) := by decide +kernel
theorem dX0_put_19 : decode cX0_put 19 = .ok (.iload 4, 2) := by decide +kernel
theorem dX0_put_21 : decode cX0_put 21 = .ok (.iastore, 1) := by decide +kernel
theorem dX0_put_22 : decode cX0_put 22 = .ok (.return_, 1) := by decide +kernel
theorem dX3_firstFault_0 : decode cX3_firstFault 0 = .ok (.iload_n 1, 1) := by decide +kernel
theorem dX3_firstFault_1 : decode cX3_firstFault 1 = .ok (.ifCond .eq 7, 3) := by decide +kernel
theorem dX3_firstFault_4 : decode cX3_firstFault 4 = .ok (.iconst 0, 1) := by decide +kernel
theorem dX3_firstFault_5 : decode cX3_firstFault 5 = .ok (.goto 4, 3) := by decide +kernel
theorem dX3_firstFault_8 : decode cX3_firstFault 8 = .ok (.iconst 2, 1) := by decide +kernel
theorem dX3_firstFault_9 : decode cX3_firstFault 9 = .ok (.istore_n 2, 1) := by decide +kernel
theorem dX3_firstFault_10 : decode cX3_firstFault 10 = .ok (.iload_n 2, 1) := by decide +kernel
theorem dX3_firstFault_11 : decode cX3_firstFault 11 = .ok (.iconst 3, 1) := by decide +kernel
theorem dX3_firstFault_12 : decode cX3_firstFault 12 = .ok (.iload_n 1, 1) := by decide +kernel
theorem dX3_firstFault_13 : decode cX3_firstFault 13 = .ok (.ifCond .eq 7, 3) := by decide +kernel
theorem dX3_firstFault_16 : decode cX3_firstFault 16 = .ok (.iconst 5, 1) := by decide +kernel
theorem dX3_firstFault_17 : decode cX3_firstFault 17 = .ok (.goto 4, 3) := by decide +kernel
theorem dX3_firstFault_20 : decode cX3_firstFault 20 = .ok (.iconst 3, 1) := by decide +kernel
theorem dX3_firstFault_21 : decode cX3_firstFault 21 = .ok (.imul, 1) := by decide +kernel
theorem dX3_firstFault_22 : decode cX3_firstFault 22 = .ok (.iadd, 1) := by decide +kernel
theorem dX3_firstFault_23 : decode cX3_firstFault 23 = .ok (.istore_n 3, 1) := by decide +kernel
theorem dX3_firstFault_24 : decode cX3_firstFault 24 = .ok (.iconst 0, 1) := by decide +kernel
theorem dX3_firstFault_25 : decode cX3_firstFault 25 = .ok (.istore 4, 2) := by decide +kernel
theorem dX3_firstFault_27 : decode cX3_firstFault 27 = .ok (.iload 4, 2) := by decide +kernel
theorem dX3_firstFault_29 : decode cX3_firstFault 29 = .ok (.aload_n 0, 1) := by decide +kernel
theorem dX3_firstFault_30 : decode cX3_firstFault 30 = .ok (.getfield 15, 3) := by decide +kernel
theorem dX3_firstFault_33 : decode cX3_firstFault 33 = .ok (.if_icmp .ge 53, 3) := by decide +kernel
theorem dX3_firstFault_86 : decode cX3_firstFault 86 = .ok (.aload_n 0, 1) := by decide +kernel
theorem dX3_firstFault_87 : decode cX3_firstFault 87 = .ok (.getfield 15, 3) := by decide +kernel
theorem dX3_firstFault_90 : decode cX3_firstFault 90 = .ok (.ireturn, 1) := by decide +kernel
theorem dX3_isGraph_0 : decode cX3_isGraph 0 = .ok (.aload_n 0, 1) := by decide +kernel
theorem dX3_isGraph_1 : decode cX3_isGraph 1 = .ok (.iconst 0, 1) := by decide +kernel
theorem dX3_isGraph_2 : decode cX3_isGraph 2 = .ok (.invokevirtual 34, 3) := by decide +kernel
theorem dX3_isGraph_5 : decode cX3_isGraph 5 = .ok (.ifCond .eq 26, 3) := by decide +kernel
theorem dX3_isGraph_31 : decode cX3_isGraph 31 = .ok (.iconst 0, 1) := by decide +kernel
theorem dX3_isGraph_32 : decode cX3_isGraph 32 = .ok (.ireturn, 1) := by decide +kernel
theorem dX3_isRule_0 : decode cX3_isRule 0 = .ok (.aload_n 0, 1) := by decide +kernel
theorem dX3_isRule_1 : decode cX3_isRule 1 = .ok (.iconst 2, 1) := by decide +kernel
theorem dX3_isRule_2 : decode cX3_isRule 2 = .ok (.invokevirtual 34, 3) := by decide +kernel
theorem dX3_isRule_5 : decode cX3_isRule 5 = .ok (.ifCond .eq 42, 3) := by decide +kernel
theorem dX3_isRule_47 : decode cX3_isRule 47 = .ok (.iconst 0, 1) := by decide +kernel
theorem dX3_isRule_48 : decode cX3_isRule 48 = .ok (.ireturn, 1) := by decide +kernel
theorem dX3_isWhole_0 : decode cX3_isWhole 0 = .ok (.aload_n 0, 1) := by decide +kernel
theorem dX3_isWhole_1 : decode cX3_isWhole 1 = .ok (.getfield 15, 3) := by decide +kernel
theorem dX3_isWhole_4 : decode cX3_isWhole 4 = .ok (.iload_n 1, 1) := by decide +kernel
theorem dX3_isWhole_5 : decode cX3_isWhole 5 = .ok (.if_icmp .le 18, 3) := by decide +kernel
theorem dX3_isWhole_23 : decode cX3_isWhole 23 = .ok (.iconst 0, 1) := by decide +kernel
theorem dX3_isWhole_24 : decode cX3_isWhole 24 = .ok (.ireturn, 1) := by decide +kernel
theorem dX3_write_0 : decode cX3_write 0 = .ok (.aload_n 0, 1) := by decide +kernel
theorem dX3_write_1 : decode cX3_write 1 = .ok (.getfield 15, 3) := by decide +kernel
theorem dX3_write_4 : decode cX3_write 4 = .ok (.aload_n 0, 1) := by decide +kernel
theorem dX3_write_5 : decode cX3_write 5 = .ok (.getfield 9, 3) := by decide +kernel
theorem dX3_write_8 : decode cX3_write 8 = .ok (.arraylength, 1) := by decide +kernel
theorem dX3_write_9 : decode cX3_write 9 = .ok (.if_icmp .ge 23, 3) := by decide +kernel
theorem dX3_write_12 : decode cX3_write 12 = .ok (.aload_n 0, 1) := by decide +kernel
theorem dX3_write_13 : decode cX3_write 13 = .ok (.getfield 9, 3) := by decide +kernel
theorem dX3_write_16 : decode cX3_write 16 = .ok (.aload_n 0, 1) := by decide +kernel
theorem dX3_write_17 : decode cX3_write 17 = .ok (.getfield 15, 3) := by decide +kernel
theorem dX3_write_20 : decode cX3_write 20 = .ok (.iload_n 1, 1) := by decide +kernel
theorem dX3_write_21 : decode cX3_write 21 = .ok (.iastore, 1) := by decide +kernel
theorem dX3_write_22 : decode cX3_write 22 = .ok (.aload_n 0, 1) := by decide +kernel
theorem dX3_write_23 : decode cX3_write 23 = .ok (.dup, 1) := by decide +kernel
theorem dX3_write_24 : decode cX3_write 24 = .ok (.getfield 15, 3) := by decide +kernel
theorem dX3_write_27 : decode cX3_write 27 = .ok (.iconst 1, 1) := by decide +kernel
theorem dX3_write_28 : decode cX3_write 28 = .ok (.iadd, 1) := by decide +kernel
theorem dX3_write_29 : decode cX3_write 29 = .ok (.putfield 15, 3) := by decide +kernel
theorem dX3_write_32 : decode cX3_write 32 = .ok (.return_, 1) := by decide +kernel
theorem dX6_begin_0 : decode cX6_begin 0 = .ok (.iload_n 1, 1) := by decide +kernel
theorem dX6_begin_1 : decode cX6_begin 1 = .ok (.invokestatic 123, 3) := by decide +kernel
theorem dX6_begin_4 : decode cX6_begin 4 = .ok (.ifCond .ne 7, 3) := by decide +kernel
theorem dX6_begin_7 : decode cX6_begin 7 = .ok (.sipush (-1001), 3) := by decide +kernel
theorem dX6_begin_10 : decode cX6_begin 10 = .ok (.ireturn, 1) := by decide +kernel
theorem dX6_begin_11 : decode cX6_begin 11 = .ok (.aload_n 0, 1) := by decide +kernel
theorem dX6_begin_12 : decode cX6_begin 12 = .ok (.getfield 28, 3) := by decide +kernel
theorem dX6_begin_15 : decode cX6_begin 15 = .ok (.iconst 2, 1) := by decide +kernel
theorem dX6_begin_16 : decode cX6_begin 16 = .ok (.invokevirtual 126, 3) := by decide +kernel
theorem dX6_begin_19 : decode cX6_begin 19 = .ok (.aload_n 0, 1) := by decide +kernel
theorem dX6_begin_20 : decode cX6_begin 20 = .ok (.getfield 28, 3) := by decide +kernel
theorem dX6_begin_23 : decode cX6_begin 23 = .ok (.iload_n 1, 1) := by decide +kernel
theorem dX6_begin_24 : decode cX6_begin 24 = .ok (.iconst 0, 1) := by decide +kernel
theorem dX6_begin_25 : decode cX6_begin 25 = .ok (.iconst 1, 1) := by decide +kernel
theorem dX6_begin_26 : decode cX6_begin 26 = .ok (.invokevirtual 128, 3) := by decide +kernel
theorem dX6_begin_29 : decode cX6_begin 29 = .ok (.aload_n 0, 1) := by decide +kernel
theorem dX6_begin_30 : decode cX6_begin 30 = .ok (.invokevirtual 99, 3) := by decide +kernel
theorem dX6_begin_33 : decode cX6_begin 33 = .ok (.aload_n 0, 1) := by decide +kernel
theorem dX6_begin_34 : decode cX6_begin 34 = .ok (.getfield 28, 3) := by decide +kernel
theorem dX6_begin_37 : decode cX6_begin 37 = .ok (.getfield 102, 3) := by decide +kernel
theorem dX6_begin_40 : decode cX6_begin 40 = .ok (.ireturn, 1) := by decide +kernel
theorem dX6_blank_0 : decode cX6_blank 0 = .ok (.aload_n 0, 1) := by decide +kernel
theorem dX6_blank_1 : decode cX6_blank 1 = .ok (.getfield 10, 3) := by decide +kernel
theorem dX6_blank_4 : decode cX6_blank 4 = .ok (.getfield 63, 3) := by decide +kernel
theorem dX6_blank_7 : decode cX6_blank 7 = .ok (.istore_n 1, 1) := by decide +kernel
theorem dX6_blank_8 : decode cX6_blank 8 = .ok (.aload_n 0, 1) := by decide +kernel
theorem dX6_blank_9 : decode cX6_blank 9 = .ok (.getfield 10, 3) := by decide +kernel
theorem dX6_blank_12 : decode cX6_blank 12 = .ok (.invokevirtual 69, 3) := by decide +kernel
theorem dX6_blank_15 : decode cX6_blank 15 = .ok (.iload_n 1, 1) := by decide +kernel
theorem dX6_blank_16 : decode cX6_blank 16 = .ok (.ireturn, 1) := by decide +kernel
theorem dX6_drop_0 : decode cX6_drop 0 = .ok (.aload_n 0, 1) := by decide +kernel
theorem dX6_drop_1 : decode cX6_drop 1 = .ok (.getfield 19, 3) := by decide +kernel
theorem dX6_drop_4 : decode cX6_drop 4 = .ok (.iload_n 1, 1) := by decide +kernel
theorem dX6_drop_5 : decode cX6_drop 5 = .ok (.invokevirtual 85, 3) := by decide +kernel
theorem dX6_drop_8 : decode cX6_drop 8 = .ok (.ifCond .ne 7, 3) := by decide +kernel
theorem dX6_drop_11 : decode cX6_drop 11 = .ok (.sipush (-1001), 3) := by decide +kernel
theorem dX6_drop_14 : decode cX6_drop 14 = .ok (.ireturn, 1) := by decide +kernel
theorem dX6_edge_0 : decode cX6_edge 0 = .ok (.aload_n 0, 1) := by decide +kernel
theorem dX6_edge_1 : decode cX6_edge 1 = .ok (.getfield 28, 3) := by decide +kernel
theorem dX6_edge_4 : decode cX6_edge 4 = .ok (.iload_n 1, 1) := by decide +kernel
theorem dX6_edge_5 : decode cX6_edge 5 = .ok (.invokevirtual 118, 3) := by decide +kernel
theorem dX6_edge_8 : decode cX6_edge 8 = .ok (.ifCond .eq 14, 3) := by decide +kernel
theorem dX6_edge_22 : decode cX6_edge 22 = .ok (.sipush (-1001), 3) := by decide +kernel
theorem dX6_edge_25 : decode cX6_edge 25 = .ok (.ireturn, 1) := by decide +kernel
theorem dX6_fault_0 : decode cX6_fault 0 = .ok (.aload_n 0, 1) := by decide +kernel
theorem dX6_fault_1 : decode cX6_fault 1 = .ok (.getfield 10, 3) := by decide +kernel
theorem dX6_fault_4 : decode cX6_fault 4 = .ok (.iload_n 1, 1) := by decide +kernel
theorem dX6_fault_5 : decode cX6_fault 5 = .ok (.invokevirtual 72, 3) := by decide +kernel
theorem dX6_fault_8 : decode cX6_fault 8 = .ok (.ireturn, 1) := by decide +kernel
theorem dX6_graph_0 : decode cX6_graph 0 = .ok (.aload_n 0, 1) := by decide +kernel
theorem dX6_graph_1 : decode cX6_graph 1 = .ok (.getfield 10, 3) := by decide +kernel
theorem dX6_graph_4 : decode cX6_graph 4 = .ok (.invokevirtual 92, 3) := by decide +kernel
theorem dX6_graph_7 : decode cX6_graph 7 = .ok (.ifCond .ne 7, 3) := by decide +kernel
theorem dX6_graph_10 : decode cX6_graph 10 = .ok (.sipush (-1003), 3) := by decide +kernel
theorem dX6_graph_13 : decode cX6_graph 13 = .ok (.ireturn, 1) := by decide +kernel
theorem dX6_letter_0 : decode cX6_letter 0 = .ok (.iload_n 1, 1) := by decide +kernel
theorem dX6_letter_1 : decode cX6_letter 1 = .ok (.bipush 32, 2) := by decide +kernel
theorem dX6_letter_3 : decode cX6_letter 3 = .ok (.if_icmp .lt 9, 3) := by decide +kernel
theorem dX6_letter_6 : decode cX6_letter 6 = .ok (.iload_n 1, 1) := by decide +kernel
theorem dX6_letter_7 : decode cX6_letter 7 = .ok (.bipush 126, 2) := by decide +kernel
theorem dX6_letter_9 : decode cX6_letter 9 = .ok (.if_icmp .le 7, 3) := by decide +kernel
theorem dX6_letter_12 : decode cX6_letter 12 = .ok (.sipush (-1002), 3) := by decide +kernel
theorem dX6_letter_15 : decode cX6_letter 15 = .ok (.ireturn, 1) := by decide +kernel
theorem dX6_letter_16 : decode cX6_letter 16 = .ok (.aload_n 0, 1) := by decide +kernel
theorem dX6_letter_17 : decode cX6_letter 17 = .ok (.getfield 10, 3) := by decide +kernel
theorem dX6_letter_20 : decode cX6_letter 20 = .ok (.getfield 63, 3) := by decide +kernel
theorem dX6_letter_23 : decode cX6_letter 23 = .ok (.bipush 16, 2) := by decide +kernel
theorem dX6_letter_25 : decode cX6_letter 25 = .ok (.if_icmp .lt 7, 3) := by decide +kernel
theorem dX6_letter_32 : decode cX6_letter 32 = .ok (.aload_n 0, 1) := by decide +kernel
theorem dX6_letter_33 : decode cX6_letter 33 = .ok (.getfield 10, 3) := by decide +kernel
theorem dX6_letter_36 : decode cX6_letter 36 = .ok (.iload_n 1, 1) := by decide +kernel
theorem dX6_letter_37 : decode cX6_letter 37 = .ok (.invokevirtual 66, 3) := by decide +kernel
theorem dX6_letter_40 : decode cX6_letter 40 = .ok (.aload_n 0, 1) := by decide +kernel
theorem dX6_letter_41 : decode cX6_letter 41 = .ok (.getfield 10, 3) := by decide +kernel
theorem dX6_letter_44 : decode cX6_letter 44 = .ok (.getfield 63, 3) := by decide +kernel
theorem dX6_letter_47 : decode cX6_letter 47 = .ok (.ireturn, 1) := by decide +kernel
theorem dX6_noteNewGraph_0 : decode cX6_noteNewGraph 0 = .ok (.aload_n 0, 1) := by decide +kernel
theorem dX6_noteNewGraph_1 : decode cX6_noteNewGraph 1 = .ok (.iconst 0, 1) := by decide +kernel
theorem dX6_noteNewGraph_2 : decode cX6_noteNewGraph 2 = .ok (.putfield 46, 3) := by decide +kernel
theorem dX6_noteNewGraph_5 : decode cX6_noteNewGraph 5 = .ok (.aload_n 0, 1) := by decide +kernel
theorem dX6_noteNewGraph_6 : decode cX6_noteNewGraph 6 = .ok (.iconst 0, 1) := by decide +kernel
theorem dX6_noteNewGraph_7 : decode cX6_noteNewGraph 7 = .ok (.putfield 53, 3) := by decide +kernel
theorem dX6_noteNewGraph_10 : decode cX6_noteNewGraph 10 = .ok (.aload_n 0, 1) := by decide +kernel
theorem dX6_noteNewGraph_11 : decode cX6_noteNewGraph 11 = .ok (.dup, 1) := by decide +kernel
theorem dX6_noteNewGraph_12 : decode cX6_noteNewGraph 12 = .ok (.getfield 60, 3) := by decide +kernel
theorem dX6_noteNewGraph_15 : decode cX6_noteNewGraph 15 = .ok (.iconst 1, 1) := by decide +kernel
theorem dX6_noteNewGraph_16 : decode cX6_noteNewGraph 16 = .ok (.iadd, 1) := by decide +kernel
theorem dX6_noteNewGraph_17 : decode cX6_noteNewGraph 17 = .ok (.putfield 60, 3) := by decide +kernel
theorem dX6_noteNewGraph_20 : decode cX6_noteNewGraph 20 = .ok (.return_, 1) := by decide +kernel
theorem dX6_of_0 : decode cX6_of 0 = .ok (.aload_n 0, 1) := by decide +kernel
theorem dX6_of_1 : decode cX6_of 1 = .ok (.getfield 19, 3) := by decide +kernel
theorem dX6_of_4 : decode cX6_of 4 = .ok (.iload_n 1, 1) := by decide +kernel
theorem dX6_of_5 : decode cX6_of 5 = .ok (.invokevirtual 85, 3) := by decide +kernel
theorem dX6_of_8 : decode cX6_of 8 = .ok (.ifCond .ne 7, 3) := by decide +kernel
theorem dX6_of_11 : decode cX6_of 11 = .ok (.sipush (-1001), 3) := by decide +kernel
theorem dX6_of_14 : decode cX6_of 14 = .ok (.ireturn, 1) := by decide +kernel
theorem dX6_rule_0 : decode cX6_rule 0 = .ok (.aload_n 0, 1) := by decide +kernel
theorem dX6_rule_1 : decode cX6_rule 1 = .ok (.getfield 10, 3) := by decide +kernel
theorem dX6_rule_4 : decode cX6_rule 4 = .ok (.invokevirtual 76, 3) := by decide +kernel
theorem dX6_rule_7 : decode cX6_rule 7 = .ok (.ifCond .ne 7, 3) := by decide +kernel
theorem dX6_rule_10 : decode cX6_rule 10 = .ok (.sipush (-1003), 3) := by decide +kernel
theorem dX6_rule_13 : decode cX6_rule 13 = .ok (.ireturn, 1) := by decide +kernel
theorem dX6_step_0 : decode cX6_step 0 = .ok (.aload_n 0, 1) := by decide +kernel
theorem dX6_step_1 : decode cX6_step 1 = .ok (.getfield 28, 3) := by decide +kernel
theorem dX6_step_4 : decode cX6_step 4 = .ok (.iload_n 1, 1) := by decide +kernel
theorem dX6_step_5 : decode cX6_step 5 = .ok (.invokevirtual 118, 3) := by decide +kernel
theorem dX6_step_8 : decode cX6_step 8 = .ok (.ifCond .eq 14, 3) := by decide +kernel
theorem dX6_step_22 : decode cX6_step 22 = .ok (.sipush (-1001), 3) := by decide +kernel
theorem dX6_step_25 : decode cX6_step 25 = .ok (.ireturn, 1) := by decide +kernel
section
variable (l : Launch) (D : va_G) (cI cJ cZ cR : ClassId)
set_option maxHeartbeats 4000000 in
set_option maxRecDepth 100000 in
theorem c_X3_write (sz : Nat) (pg : Nat) (pc : Nat) (p0 : Int32) (fp : Nat → Int32)  : CTv l D cI cJ cZ cR yX3_write cX3_write 2 none 0 0 0 0 sz [.ref pg, .int p0] [(pg, .inr (3, [.ref pc, .int 0])), (pc, .inl (cI, 16, .inl fp))] (fun (u : Unit) => True) (fun (u : Unit) => [(pg, .inr (3, [.ref pc, .int 1])), (pc, .inl (cI, 16, .inl (upd fp 0 p0)))]) := by
  refine CTv.of (by decide) (Nat.le_of_ble_eq_true rfl) rfl ?_
  intro p e s m below meth c A Q ls hd hin hK hsz hP hD hA hS hl hret
  obtain ⟨hx, hb, hml, hown, hts⟩ := id hd
  have hK1 := hK.1
  have hown : s.vm.findClass RX3 = some m.cls := hown
  have hl : lv_has ls 2 [(0, .ref pg), (1, .int p0)] := hl
  refine lv_aload_n hx hb dX3_write_0 rfl (lv_at hl 0 rfl) ?_
  refine va_get (D := D) (ci := 3) (v := .int 0) (C := RX3) (T := TX3) (N := 2) hx hb hts iT_X3 hown hK1 hP 0 rfl rfl 1 (by decide) (hts _ t_28) (fun _ h9 => h9) rfl dX3_write_1 ?_
  refine lv_aload_n hx hb dX3_write_4 rfl (lv_at hl 0 rfl) ?_
  refine va_get (D := D) (ci := 3) (v := .ref pc) (C := RX3) (T := TX3) (N := 2) hx hb hts iT_X3 hown hK1 hP 0 rfl rfl 0 (by decide) (hts _ t_26) (fun _ h9 => h9) rfl dX3_write_5 ?_
  refine va_alen hx hb hK1 hP 1 0 rfl rfl (v := 16) rfl dX3_write_8 ?_
  refine lv_icmp_ge (tgt := 32) hx hb dX3_write_9 (by decide) (fun c_1 => ?_) (fun c_1 => ?_)
  · exact absurd c_1 (by decide)
  refine lv_aload_n hx hb dX3_write_12 rfl (lv_at hl 0 rfl) ?_
  refine va_get (D := D) (ci := 3) (v := .ref pc) (C := RX3) (T := TX3) (N := 2) hx hb hts iT_X3 hown hK1 hP 0 rfl rfl 0 (by decide) (hts _ t_26) (fun _ h9 => h9) rfl dX3_write_13 ?_
  refine lv_aload_n hx hb dX3_write_16 rfl (lv_at hl 0 rfl) ?_
  refine va_get (D := D) (ci := 3) (v := .int 0) (C := RX3) (T := TX3) (N := 2) hx hb hts iT_X3 hown hK1 hP 0 rfl rfl 1 (by decide) (hts _ t_28) (fun _ h9 => h9) rfl dX3_write_17 ?_
  refine lv_iload_n hx hb dX3_write_20 rfl (lv_at hl 1 rfl) ?_
  refine va_iast hx hb hK1 hP hD hS 1 0 rfl rfl (vin (by decide)) dX3_write_21 (fun H locs hP hD hS => ?_)
  have hP : va_P D vwCl [(pg, .inr (3, [.ref pc, .int 0])), (pc, .inl (cI, 16, .inl (upd fp 0 p0)))] H := hP
  have hD : va_D A [(pg, .inr (3, [.ref pc, .int 0])), (pc, .inl (cI, 16, .inl (upd fp 0 p0)))] := hD
  refine lv_aload_n hx hb dX3_write_22 rfl (lv_at hl 0 rfl) ?_
  refine lv_dup hx hb dX3_write_23 rfl ?_
  refine va_get (D := D) (ci := 3) (v := .int 0) (C := RX3) (T := TX3) (N := 2) hx hb hts iT_X3 hown hK1 hP 0 rfl rfl 1 (by decide) (hts _ t_28) (fun _ h9 => h9) rfl dX3_write_24 ?_
  refine lv_iconst (v := 1) hx hb dX3_write_27 (by decide) ?_
  refine lv_iadd hx hb dX3_write_28 ?_
  refine lv_nmi (show _ = (1 : Int32) from by decide +kernel) ?_
  refine va_put (D := D) (ci := 3) (v := .int 1) (ty := .int) (C := RX3) (T := TX3) (N := 2) hx hb hts iT_X3 tyX3 tyX3_ok nmX3 hown hK1 hP hD hS 0 rfl rfl 1 (by decide) (hts _ t_28) (fun _ h9 => h9) rfl (by decide +kernel) rfl rfl (Nat.le_of_ble_eq_true rfl) dX3_write_29 (fun H locs hP hD hS => ?_)
  have hP : va_P D vwCl [(pg, .inr (3, [.ref pc, .int 1])), (pc, .inl (cI, 16, .inl (upd fp 0 p0)))] H := hP
  have hD : va_D A [(pg, .inr (3, [.ref pc, .int 1])), (pc, .inl (cI, 16, .inl (upd fp 0 p0)))] := hD
  exact hret _ _ _ _ _ _ () dX3_write_32 hS (Nat.le_of_ble_eq_true rfl) (Nat.le_of_ble_eq_true rfl) trivial (hP.sub [0, 1] rfl) (hD.sub [0, 1] rfl rfl)
set_option maxHeartbeats 4000000 in
set_option maxRecDepth 100000 in
theorem c_X6_letter (sz : Nat) (h0 : Nat) (pg : Nat) (bk : Nat) (fg : Nat) (og : Nat) (lg : Nat) (pc : Nat) (p0 : Int32)  : CTi l D cI cJ cZ cR yX6_letter cX6_letter 2 (some .int) 1 21 0 0 sz [.ref h0, .int p0] [(h0, .inr (6, [.ref pg, .ref bk, .ref fg, .ref og, .ref lg, .int 0, .int 0, .int 0, .int 0, .int 0])), (pg, .inr (3, [.ref pc, .int 0])), (pc, .inl (cI, 16, .inl (fun _ => 0)))] (fun (r : Int32) (u : Unit) => (r = (if p0 < 32 then -1002 else if p0 ≤ 126 then 1 else -1002))) (fun (u : Unit) => []) := by
  refine CTi.of (ty := .int) (by decide) (Nat.le_of_ble_eq_true rfl) rfl ?_
  intro p e s m below meth c A Q ls hd hin hK hsz hP hD hA hS hl hret
  obtain ⟨hx, hb, hml, hown, hts⟩ := id hd
  have hK1 := hK.1
  have hown : s.vm.findClass RX6 = some m.cls := hown
  have hl : lv_has ls 2 [(0, .ref h0), (1, .int p0)] := hl
  refine lv_iload_n hx hb dX6_letter_0 rfl (lv_at hl 1 rfl) ?_
  refine lv_bipush (v := 32) hx hb dX6_letter_1 (by decide) ?_
  refine lv_icmp_lt (tgt := 12) hx hb dX6_letter_3 (by decide) (fun c_1 => ?_) (fun c_1 => ?_)
  · skip
    refine lv_sipush (v := -1002) hx hb dX6_letter_12 (by decide) ?_
    exact hret _ _ _ _ _ _ (-1002) () dX6_letter_15 rfl hS (Nat.le_of_ble_eq_true rfl) (Nat.le_of_ble_eq_true rfl) (by simp [c_1]) (hP.sub [] rfl) (hD.sub [] rfl rfl)
  · skip
    refine lv_iload_n hx hb dX6_letter_6 rfl (lv_at hl 1 rfl) ?_
    refine lv_bipush (v := 126) hx hb dX6_letter_7 (by decide) ?_
    refine lv_icmp_le (tgt := 16) hx hb dX6_letter_9 (by decide) (fun c_2 => ?_) (fun c_2 => ?_)
    · skip
      refine lv_aload_n hx hb dX6_letter_16 rfl (lv_at hl 0 rfl) ?_
      refine va_get (D := D) (ci := 6) (v := .ref pg) (C := RX6) (T := TX6) (N := 10) hx hb hts iT_X6 hown hK1 hP 0 rfl rfl 0 (by decide) (hts _ t_154) (fun _ h9 => h9) rfl dX6_letter_17 ?_
      refine va_get (D := D) (ci := 3) (v := .int 0) (C := RX3) (T := TX3) (N := 2) hx hb hts iT_X3 hown hK1 hP 1 rfl rfl 1 (by decide) (hts _ t_29) (fun _ h9 => h9) rfl dX6_letter_20 ?_
      refine lv_bipush (v := 16) hx hb dX6_letter_23 (by decide) ?_
      refine lv_icmp_lt (tgt := 32) hx hb dX6_letter_25 (by decide) (fun c_3 => ?_) (fun c_3 => ?_)
      rotate_left
      · exact absurd c_3 (by decide)
      refine lv_aload_n hx hb dX6_letter_32 rfl (lv_at hl 0 rfl) ?_
      refine va_get (D := D) (ci := 6) (v := .ref pg) (C := RX6) (T := TX6) (N := 10) hx hb hts iT_X6 hown hK1 hP 0 rfl rfl 0 (by decide) (hts _ t_154) (fun _ h9 => h9) rfl dX6_letter_33 ?_
      refine lv_iload_n hx hb dX6_letter_36 rfl (lv_at hl 1 rfl) ?_
      refine xc_v (wc := [(pg, .inr (3, [.ref pc, .int 0])), (pc, .inl (cI, 16, .inl (fun _ => 0)))]) (wr := [(h0, .inr (6, [.ref pg, .ref bk, .ref fg, .ref og, .ref lg, .int 0, .int 0, .int 0, .int 0, .int 0]))]) (xrV (n := 1) (As := [.int p0]) (rest := []) (ci := 3) (q0 := 1) hd hK hP hD (c_X3_write l D cI cJ cZ cR _ pg pc p0 (fun _ => 0) ) (gV t_189 mV_X3_write) hV_X3_write ⟨(Nat.le_of_ble_eq_true rfl), (Nat.le_of_ble_eq_true rfl)⟩ rfl rfl [1, 2] rfl rfl rfl hl.1 rfl (Nat.le_of_ble_eq_true rfl) dX6_letter_37 ⟨(Nat.le_of_ble_eq_true rfl), (Nat.le_of_ble_eq_true rfl)⟩) hP hD hS hA [1, 2] [0] rfl rfl rfl (by decide) (fun u_5 H locs hw_6 hP hD hS => ?_)
      have hP : va_P D vwCl [(h0, .inr (6, [.ref pg, .ref bk, .ref fg, .ref og, .ref lg, .int 0, .int 0, .int 0, .int 0, .int 0])), (pg, .inr (3, [.ref pc, .int 1])), (pc, .inl (cI, 16, .inl (upd (fun _ => 0) 0 p0)))] H := hP
      have hD : va_D A [(h0, .inr (6, [.ref pg, .ref bk, .ref fg, .ref og, .ref lg, .int 0, .int 0, .int 0, .int 0, .int 0])), (pg, .inr (3, [.ref pc, .int 1])), (pc, .inl (cI, 16, .inl (upd (fun _ => 0) 0 p0)))] := hD
      refine lv_aload_n hx hb dX6_letter_40 rfl (lv_at hl 0 rfl) ?_
      refine va_get (D := D) (ci := 6) (v := .ref pg) (C := RX6) (T := TX6) (N := 10) hx hb hts iT_X6 hown hK1 hP 0 rfl rfl 0 (by decide) (hts _ t_154) (fun _ h9 => h9) rfl dX6_letter_41 ?_
      refine va_get (D := D) (ci := 3) (v := .int 1) (C := RX3) (T := TX3) (N := 2) hx hb hts iT_X3 hown hK1 hP 1 rfl rfl 1 (by decide) (hts _ t_29) (fun _ h9 => h9) rfl dX6_letter_44 ?_
      exact hret _ _ _ _ _ _ 1 () dX6_letter_47 rfl hS (Nat.le_of_ble_eq_true rfl) (Nat.le_of_ble_eq_true rfl) (by simp [c_1, c_2]) (hP.sub [] rfl) (hD.sub [] rfl rfl)
    · skip
      refine lv_sipush (v := -1002) hx hb dX6_letter_12 (by decide) ?_
      exact hret _ _ _ _ _ _ (-1002) () dX6_letter_15 rfl hS (Nat.le_of_ble_eq_true rfl) (Nat.le_of_ble_eq_true rfl) (by simp [c_1, c_2]) (hP.sub [] rfl) (hD.sub [] rfl rfl)
set_option maxHeartbeats 4000000 in
set_option maxRecDepth 100000 in
theorem c_X6_blank (sz : Nat) (h0 : Nat) (pg : Nat) (bk : Nat) (fg : Nat) (og : Nat) (lg : Nat) (pc : Nat)  : CTi l D cI cJ cZ cR yX6_blank cX6_blank 2 (some .int) 1 20 0 0 sz [.ref h0] [(h0, .inr (6, [.ref pg, .ref bk, .ref fg, .ref og, .ref lg, .int 0, .int 0, .int 0, .int 0, .int 0])), (pg, .inr (3, [.ref pc, .int 0]))] (fun (r : Int32) (u : Unit) => (r = 0)) (fun (u : Unit) => []) := by
  refine CTi.of (ty := .int) (by decide) (Nat.le_of_ble_eq_true rfl) rfl ?_
  intro p e s m below meth c A Q ls hd hin hK hsz hP hD hA hS hl hret
  obtain ⟨hx, hb, hml, hown, hts⟩ := id hd
  have hK1 := hK.1
  have hown : s.vm.findClass RX6 = some m.cls := hown
  have hl : lv_has ls 2 [(0, .ref h0)] := hl
  refine lv_aload_n hx hb dX6_blank_0 rfl (lv_at hl 0 rfl) ?_
  refine va_get (D := D) (ci := 6) (v := .ref pg) (C := RX6) (T := TX6) (N := 10) hx hb hts iT_X6 hown hK1 hP 0 rfl rfl 0 (by decide) (hts _ t_154) (fun _ h9 => h9) rfl dX6_blank_1 ?_
  refine va_get (D := D) (ci := 3) (v := .int 0) (C := RX3) (T := TX3) (N := 2) hx hb hts iT_X3 hown hK1 hP 1 rfl rfl 1 (by decide) (hts _ t_29) (fun _ h9 => h9) rfl dX6_blank_4 ?_
  refine lv_istore_n (lv' := [(1, .int 0), (0, .ref h0)]) hx hb dX6_blank_7 rfl hl (by decide) rfl (fun ls hl => ?_)
  refine lv_aload_n hx hb dX6_blank_8 rfl (lv_at hl 1 rfl) ?_
  refine va_get (D := D) (ci := 6) (v := .ref pg) (C := RX6) (T := TX6) (N := 10) hx hb hts iT_X6 hown hK1 hP 0 rfl rfl 0 (by decide) (hts _ t_154) (fun _ h9 => h9) rfl dX6_blank_9 ?_
  refine xc_v (wc := [(pg, .inr (3, [.ref pc, .int 0]))]) (wr := [(h0, .inr (6, [.ref pg, .ref bk, .ref fg, .ref og, .ref lg, .int 0, .int 0, .int 0, .int 0, .int 0]))]) (xrV (n := 0) (As := []) (rest := []) (ci := 3) (q0 := 1) hd hK hP hD (c_X3_clear l D cI cJ cZ cR _ pg pc 0 ) (gV t_197 mV_X3_clear) hV_X3_clear ⟨(Nat.le_of_ble_eq_true rfl), (Nat.le_of_ble_eq_true rfl)⟩ rfl rfl [1] rfl rfl rfl hl.1 rfl (Nat.le_of_ble_eq_true rfl) dX6_blank_12 ⟨(Nat.le_of_ble_eq_true rfl), (Nat.le_of_ble_eq_true rfl)⟩) hP hD hS hA [1] [0] rfl rfl rfl (by decide) (fun u_2 H locs hw_3 hP hD hS => ?_)
  have hP : va_P D vwCl [(h0, .inr (6, [.ref pg, .ref bk, .ref fg, .ref og, .ref lg, .int 0, .int 0, .int 0, .int 0, .int 0])), (pg, .inr (3, [.ref pc, .int 0]))] H := hP
  have hD : va_D A [(h0, .inr (6, [.ref pg, .ref bk, .ref fg, .ref og, .ref lg, .int 0, .int 0, .int 0, .int 0, .int 0])), (pg, .inr (3, [.ref pc, .int 0]))] := hD
  refine lv_iload_n hx hb dX6_blank_15 rfl (lv_at hl 0 rfl) ?_
  exact hret _ _ _ _ _ _ 0 () dX6_blank_16 rfl hS (Nat.le_of_ble_eq_true rfl) (Nat.le_of_ble_eq_true rfl) rfl (hP.sub [] rfl) (hD.sub [] rfl rfl)
set_option maxHeartbeats 4000000 in
set_option maxRecDepth 100000 in
theorem c_X3_firstFault (sz : Nat) (pg : Nat) (pc : Nat) (p1 : Int32)  : CTi l D cI cJ cZ cR yX3_firstFault cX3_firstFault 6 (some .int) 0 0 0 0 sz [.ref pg, .int p1] [(pg, .inr (3, [.ref pc, .int 0]))] (fun (r : Int32) (u : Unit) => (r = 0)) (fun (u : Unit) => [(pg, .inr (3, [.ref pc, .int 0]))]) := by
  refine CTi.of (ty := .int) (by decide) (Nat.le_of_ble_eq_true rfl) rfl ?_
  intro p e s m below meth c A Q ls hd hin hK hsz hP hD hA hS hl hret
  obtain ⟨hx, hb, hml, hown, hts⟩ := id hd
  have hK1 := hK.1
  have hown : s.vm.findClass RX3 = some m.cls := hown
  have hl : lv_has ls 6 [(0, .ref pg), (1, .int p1)] := hl
  refine lv_iload_n hx hb dX3_firstFault_0 rfl (lv_at hl 1 rfl) ?_
  refine lv_if_eq (tgt := 8) hx hb dX3_firstFault_1 (by decide) (fun c_1 => ?_) (fun c_1 => ?_)
  · skip
    refine lv_iconst (v := 2) hx hb dX3_firstFault_8 (by decide) ?_
    refine lv_istore_n (lv' := [(2, .int 2), (0, .ref pg), (1, .int p1)]) hx hb dX3_firstFault_9 rfl hl (by decide) rfl (fun ls hl => ?_)
    refine lv_iload_n hx hb dX3_firstFault_10 rfl (lv_at hl 0 rfl) ?_
    refine lv_iconst (v := 3) hx hb dX3_firstFault_11 (by decide) ?_
    refine lv_iload_n hx hb dX3_firstFault_12 rfl (lv_at hl 2 rfl) ?_
    refine lv_if_eq (tgt := 20) hx hb dX3_firstFault_13 (by decide) (fun c_2 => ?_) (fun c_2 => ?_)
    · skip
      refine lv_iconst (v := 3) hx hb dX3_firstFault_20 (by decide) ?_
      refine lv_imul hx hb dX3_firstFault_21 ?_
      refine lv_nmi (show _ = (9 : Int32) from by decide +kernel) ?_
      refine lv_iadd hx hb dX3_firstFault_22 ?_
      refine lv_nmi (show _ = (11 : Int32) from by decide +kernel) ?_
      refine lv_istore_n (lv' := [(3, .int 11), (2, .int 2), (0, .ref pg), (1, .int p1)]) hx hb dX3_firstFault_23 rfl hl (by decide) rfl (fun ls hl => ?_)
      refine lv_iconst (v := 0) hx hb dX3_firstFault_24 (by decide) ?_
      refine lv_istore (lv' := [(4, .int 0), (3, .int 11), (2, .int 2), (0, .ref pg), (1, .int p1)]) hx hb dX3_firstFault_25 hl (by decide) rfl (fun ls hl => ?_)
      refine lv_iload hx hb dX3_firstFault_27 (lv_at hl 0 rfl) ?_
      refine lv_aload_n hx hb dX3_firstFault_29 rfl (lv_at hl 3 rfl) ?_
      refine va_get (D := D) (ci := 3) (v := .int 0) (C := RX3) (T := TX3) (N := 2) hx hb hts iT_X3 hown hK1 hP 0 rfl rfl 1 (by decide) (hts _ t_28) (fun _ h9 => h9) rfl dX3_firstFault_30 ?_
      refine lv_icmp_ge (tgt := 86) hx hb dX3_firstFault_33 (by decide) (fun c_3 => ?_) (fun c_3 => ?_)
      rotate_left
      · exact absurd c_3 (by decide)
      refine lv_aload_n hx hb dX3_firstFault_86 rfl (lv_at hl 3 rfl) ?_
      refine va_get (D := D) (ci := 3) (v := .int 0) (C := RX3) (T := TX3) (N := 2) hx hb hts iT_X3 hown hK1 hP 0 rfl rfl 1 (by decide) (hts _ t_28) (fun _ h9 => h9) rfl dX3_firstFault_87 ?_
      exact hret _ _ _ _ _ _ 0 () dX3_firstFault_90 rfl hS (Nat.le_of_ble_eq_true rfl) (Nat.le_of_ble_eq_true rfl) rfl (hP.sub [0] rfl) (hD.sub [0] rfl rfl)
    · skip
      refine lv_iconst (v := 5) hx hb dX3_firstFault_16 (by decide) ?_
      refine lv_goto (tgt := 21) hx hb dX3_firstFault_17 (by decide) ?_
      refine lv_imul hx hb dX3_firstFault_21 ?_
      refine lv_nmi (show _ = (15 : Int32) from by decide +kernel) ?_
      refine lv_iadd hx hb dX3_firstFault_22 ?_
      refine lv_nmi (show _ = (17 : Int32) from by decide +kernel) ?_
      refine lv_istore_n (lv' := [(3, .int 17), (2, .int 2), (0, .ref pg), (1, .int p1)]) hx hb dX3_firstFault_23 rfl hl (by decide) rfl (fun ls hl => ?_)
      refine lv_iconst (v := 0) hx hb dX3_firstFault_24 (by decide) ?_
      refine lv_istore (lv' := [(4, .int 0), (3, .int 17), (2, .int 2), (0, .ref pg), (1, .int p1)]) hx hb dX3_firstFault_25 hl (by decide) rfl (fun ls hl => ?_)
      refine lv_iload hx hb dX3_firstFault_27 (lv_at hl 0 rfl) ?_
      refine lv_aload_n hx hb dX3_firstFault_29 rfl (lv_at hl 3 rfl) ?_
      refine va_get (D := D) (ci := 3) (v := .int 0) (C := RX3) (T := TX3) (N := 2) hx hb hts iT_X3 hown hK1 hP 0 rfl rfl 1 (by decide) (hts _ t_28) (fun _ h9 => h9) rfl dX3_firstFault_30 ?_
      refine lv_icmp_ge (tgt := 86) hx hb dX3_firstFault_33 (by decide) (fun c_4 => ?_) (fun c_4 => ?_)
      rotate_left
      · exact absurd c_4 (by decide)
      refine lv_aload_n hx hb dX3_firstFault_86 rfl (lv_at hl 3 rfl) ?_
      refine va_get (D := D) (ci := 3) (v := .int 0) (C := RX3) (T := TX3) (N := 2) hx hb hts iT_X3 hown hK1 hP 0 rfl rfl 1 (by decide) (hts _ t_28) (fun _ h9 => h9) rfl dX3_firstFault_87 ?_
      exact hret _ _ _ _ _ _ 0 () dX3_firstFault_90 rfl hS (Nat.le_of_ble_eq_true rfl) (Nat.le_of_ble_eq_true rfl) rfl (hP.sub [0] rfl) (hD.sub [0] rfl rfl)
  · skip
    refine lv_iconst (v := 0) hx hb dX3_firstFault_4 (by decide) ?_
    refine lv_goto (tgt := 9) hx hb dX3_firstFault_5 (by decide) ?_
    refine lv_istore_n (lv' := [(2, .int 0), (0, .ref pg), (1, .int p1)]) hx hb dX3_firstFault_9 rfl hl (by decide) rfl (fun ls hl => ?_)
    refine lv_iload_n hx hb dX3_firstFault_10 rfl (lv_at hl 0 rfl) ?_
    refine lv_iconst (v := 3) hx hb dX3_firstFault_11 (by decide) ?_
    refine lv_iload_n hx hb dX3_firstFault_12 rfl (lv_at hl 2 rfl) ?_
    refine lv_if_eq (tgt := 20) hx hb dX3_firstFault_13 (by decide) (fun c_5 => ?_) (fun c_5 => ?_)
    · skip
      refine lv_iconst (v := 3) hx hb dX3_firstFault_20 (by decide) ?_
      refine lv_imul hx hb dX3_firstFault_21 ?_
      refine lv_nmi (show _ = (9 : Int32) from by decide +kernel) ?_
      refine lv_iadd hx hb dX3_firstFault_22 ?_
      refine lv_nmi (show _ = (9 : Int32) from by decide +kernel) ?_
      refine lv_istore_n (lv' := [(3, .int 9), (2, .int 0), (0, .ref pg), (1, .int p1)]) hx hb dX3_firstFault_23 rfl hl (by decide) rfl (fun ls hl => ?_)
      refine lv_iconst (v := 0) hx hb dX3_firstFault_24 (by decide) ?_
      refine lv_istore (lv' := [(4, .int 0), (3, .int 9), (2, .int 0), (0, .ref pg), (1, .int p1)]) hx hb dX3_firstFault_25 hl (by decide) rfl (fun ls hl => ?_)
      refine lv_iload hx hb dX3_firstFault_27 (lv_at hl 0 rfl) ?_
      refine lv_aload_n hx hb dX3_firstFault_29 rfl (lv_at hl 3 rfl) ?_
      refine va_get (D := D) (ci := 3) (v := .int 0) (C := RX3) (T := TX3) (N := 2) hx hb hts iT_X3 hown hK1 hP 0 rfl rfl 1 (by decide) (hts _ t_28) (fun _ h9 => h9) rfl dX3_firstFault_30 ?_
      refine lv_icmp_ge (tgt := 86) hx hb dX3_firstFault_33 (by decide) (fun c_6 => ?_) (fun c_6 => ?_)
      rotate_left
      · exact absurd c_6 (by decide)
      refine lv_aload_n hx hb dX3_firstFault_86 rfl (lv_at hl 3 rfl) ?_
      refine va_get (D := D) (ci := 3) (v := .int 0) (C := RX3) (T := TX3) (N := 2) hx hb hts iT_X3 hown hK1 hP 0 rfl rfl 1 (by decide) (hts _ t_28) (fun _ h9 => h9) rfl dX3_firstFault_87 ?_
      exact hret _ _ _ _ _ _ 0 () dX3_firstFault_90 rfl hS (Nat.le_of_ble_eq_true rfl) (Nat.le_of_ble_eq_true rfl) rfl (hP.sub [0] rfl) (hD.sub [0] rfl rfl)
    · skip
      refine lv_iconst (v := 5) hx hb dX3_firstFault_16 (by decide) ?_
      refine lv_goto (tgt := 21) hx hb dX3_firstFault_17 (by decide) ?_
      refine lv_imul hx hb dX3_firstFault_21 ?_
      refine lv_nmi (show _ = (15 : Int32) from by decide +kernel) ?_
      refine lv_iadd hx hb dX3_firstFault_22 ?_
      refine lv_nmi (show _ = (15 : Int32) from by decide +kernel) ?_
      refine lv_istore_n (lv' := [(3, .int 15), (2, .int 0), (0, .ref pg), (1, .int p1)]) hx hb dX3_firstFault_23 rfl hl (by decide) rfl (fun ls hl => ?_)
      refine lv_iconst (v := 0) hx hb dX3_firstFault_24 (by decide) ?_
      refine lv_istore (lv' := [(4, .int 0), (3, .int 15), (2, .int 0), (0, .ref pg), (1, .int p1)]) hx hb dX3_firstFault_25 hl (by decide) rfl (fun ls hl => ?_)
      refine lv_iload hx hb dX3_firstFault_27 (lv_at hl 0 rfl) ?_
      refine lv_aload_n hx hb dX3_firstFault_29 rfl (lv_at hl 3 rfl) ?_
      refine va_get (D := D) (ci := 3) (v := .int 0) (C := RX3) (T := TX3) (N := 2) hx hb hts iT_X3 hown hK1 hP 0 rfl rfl 1 (by decide) (hts _ t_28) (fun _ h9 => h9) rfl dX3_firstFault_30 ?_
      refine lv_icmp_ge (tgt := 86) hx hb dX3_firstFault_33 (by decide) (fun c_7 => ?_) (fun c_7 => ?_)
      rotate_left
      · exact absurd c_7 (by decide)
      refine lv_aload_n hx hb dX3_firstFault_86 rfl (lv_at hl 3 rfl) ?_
      refine va_get (D := D) (ci := 3) (v := .int 0) (C := RX3) (T := TX3) (N := 2) hx hb hts iT_X3 hown hK1 hP 0 rfl rfl 1 (by decide) (hts _ t_28) (fun _ h9 => h9) rfl dX3_firstFault_87 ?_
      exact hret _ _ _ _ _ _ 0 () dX3_firstFault_90 rfl hS (Nat.le_of_ble_eq_true rfl) (Nat.le_of_ble_eq_true rfl) rfl (hP.sub [0] rfl) (hD.sub [0] rfl rfl)
set_option maxHeartbeats 4000000 in
set_option maxRecDepth 100000 in
theorem c_X6_fault (sz : Nat) (h0 : Nat) (pg : Nat) (bk : Nat) (fg : Nat) (og : Nat) (lg : Nat) (pc : Nat) (p1 : Int32)  : CTi l D cI cJ cZ cR yX6_fault cX6_fault 2 (some .int) 1 25 0 0 sz [.ref h0, .int p1] [(h0, .inr (6, [.ref pg, .ref bk, .ref fg, .ref og, .ref lg, .int 0, .int 0, .int 0, .int 0, .int 0])), (pg, .inr (3, [.ref pc, .int 0]))] (fun (r : Int32) (u : Unit) => (r = 0)) (fun (u : Unit) => [(h0, .inr (6, [.ref pg, .ref bk, .ref fg, .ref og, .ref lg, .int 0, .int 0, .int 0, .int 0, .int 0])), (pg, .inr (3, [.ref pc, .int 0]))]) := by
  refine CTi.of (ty := .int) (by decide) (Nat.le_of_ble_eq_true rfl) rfl ?_
  intro p e s m below meth c A Q ls hd hin hK hsz hP hD hA hS hl hret
  obtain ⟨hx, hb, hml, hown, hts⟩ := id hd
  have hK1 := hK.1
  have hown : s.vm.findClass RX6 = some m.cls := hown
  have hl : lv_has ls 2 [(0, .ref h0), (1, .int p1)] := hl
  refine lv_aload_n hx hb dX6_fault_0 rfl (lv_at hl 0 rfl) ?_
  refine va_get (D := D) (ci := 6) (v := .ref pg) (C := RX6) (T := TX6) (N := 10) hx hb hts iT_X6 hown hK1 hP 0 rfl rfl 0 (by decide) (hts _ t_154) (fun _ h9 => h9) rfl dX6_fault_1 ?_
  refine lv_iload_n hx hb dX6_fault_4 rfl (lv_at hl 1 rfl) ?_
  refine xc_i (wc := [(pg, .inr (3, [.ref pc, .int 0]))]) (wr := [(h0, .inr (6, [.ref pg, .ref bk, .ref fg, .ref og, .ref lg, .int 0, .int 0, .int 0, .int 0, .int 0]))]) (xrV (n := 1) (As := [.int p1]) (rest := []) (ci := 3) (q0 := 1) hd hK hP hD (c_X3_firstFault l D cI cJ cZ cR _ pg pc p1 ) (gV t_205 mV_X3_firstFault) hV_X3_firstFault ⟨(Nat.le_of_ble_eq_true rfl), (Nat.le_of_ble_eq_true rfl)⟩ rfl rfl [1] rfl rfl rfl hl.1 rfl (Nat.le_of_ble_eq_true rfl) dX6_fault_5 ⟨(Nat.le_of_ble_eq_true rfl), (Nat.le_of_ble_eq_true rfl)⟩) hP hD hS hA [1] [0] rfl rfl rfl (by decide) (fun r_1 u_2 H locs hw_3 hP hD hS => ?_)
  have hw_4 : r_1 = 0 := hw_3
  subst hw_4
  have hP : va_P D vwCl [(h0, .inr (6, [.ref pg, .ref bk, .ref fg, .ref og, .ref lg, .int 0, .int 0, .int 0, .int 0, .int 0])), (pg, .inr (3, [.ref pc, .int 0]))] H := hP
  have hD : va_D A [(h0, .inr (6, [.ref pg, .ref bk, .ref fg, .ref og, .ref lg, .int 0, .int 0, .int 0, .int 0, .int 0])), (pg, .inr (3, [.ref pc, .int 0]))] := hD
  exact hret _ _ _ _ _ _ 0 () dX6_fault_8 rfl hS (Nat.le_of_ble_eq_true rfl) (Nat.le_of_ble_eq_true rfl) rfl (hP.sub [0, 1] rfl) (hD.sub [0, 1] rfl rfl)
set_option maxHeartbeats 4000000 in
set_option maxRecDepth 100000 in
theorem c_isWhole_0 (sz : Nat) (pg : Nat) (pc : Nat)  : CTi l D cI cJ cZ cR yX3_isWhole cX3_isWhole 2 (some .boolean) 0 0 0 0 sz [.ref pg, .int 0] [(pg, .inr (3, [.ref pc, .int 0]))] (fun (r : Int32) (u : Unit) => (r = 0)) (fun (u : Unit) => [(pg, .inr (3, [.ref pc, .int 0]))]) := by
  refine CTi.of (ty := .boolean) (by decide) (Nat.le_of_ble_eq_true rfl) rfl ?_
  intro p e s m below meth c A Q ls hd hin hK hsz hP hD hA hS hl hret
  obtain ⟨hx, hb, hml, hown, hts⟩ := id hd
  have hK1 := hK.1
  have hown : s.vm.findClass RX3 = some m.cls := hown
  have hl : lv_has ls 2 [(0, .ref pg), (1, .int 0)] := hl
  refine lv_aload_n hx hb dX3_isWhole_0 rfl (lv_at hl 0 rfl) ?_
  refine va_get (D := D) (ci := 3) (v := .int 0) (C := RX3) (T := TX3) (N := 2) hx hb hts iT_X3 hown hK1 hP 0 rfl rfl 1 (by decide) (hts _ t_28) (fun _ h9 => h9) rfl dX3_isWhole_1 ?_
  refine lv_iload_n hx hb dX3_isWhole_4 rfl (lv_at hl 1 rfl) ?_
  refine lv_icmp_le (tgt := 23) hx hb dX3_isWhole_5 (by decide) (fun c_1 => ?_) (fun c_1 => ?_)
  rotate_left
  · exact absurd c_1 (by decide)
  refine lv_iconst (v := 0) hx hb dX3_isWhole_23 (by decide) ?_
  exact hret _ _ _ _ _ _ 0 () dX3_isWhole_24 rfl hS (Nat.le_of_ble_eq_true rfl) (Nat.le_of_ble_eq_true rfl) rfl (hP.sub [0] rfl) (hD.sub [0] rfl rfl)
set_option maxHeartbeats 4000000 in
set_option maxRecDepth 100000 in
theorem c_isWhole_2 (sz : Nat) (pg : Nat) (pc : Nat)  : CTi l D cI cJ cZ cR yX3_isWhole cX3_isWhole 2 (some .boolean) 0 0 0 0 sz [.ref pg, .int 2] [(pg, .inr (3, [.ref pc, .int 0]))] (fun (r : Int32) (u : Unit) => (r = 0)) (fun (u : Unit) => [(pg, .inr (3, [.ref pc, .int 0]))]) := by
  refine CTi.of (ty := .boolean) (by decide) (Nat.le_of_ble_eq_true rfl) rfl ?_
  intro p e s m below meth c A Q ls hd hin hK hsz hP hD hA hS hl hret
  obtain ⟨hx, hb, hml, hown, hts⟩ := id hd
  have hK1 := hK.1
  have hown : s.vm.findClass RX3 = some m.cls := hown
  have hl : lv_has ls 2 [(0, .ref pg), (1, .int 2)] := hl
  refine lv_aload_n hx hb dX3_isWhole_0 rfl (lv_at hl 0 rfl) ?_
  refine va_get (D := D) (ci := 3) (v := .int 0) (C := RX3) (T := TX3) (N := 2) hx hb hts iT_X3 hown hK1 hP 0 rfl rfl 1 (by decide) (hts _ t_28) (fun _ h9 => h9) rfl dX3_isWhole_1 ?_
  refine lv_iload_n hx hb dX3_isWhole_4 rfl (lv_at hl 1 rfl) ?_
  refine lv_icmp_le (tgt := 23) hx hb dX3_isWhole_5 (by decide) (fun c_1 => ?_) (fun c_1 => ?_)
  rotate_left
  · exact absurd c_1 (by decide)
  refine lv_iconst (v := 0) hx hb dX3_isWhole_23 (by decide) ?_
  exact hret _ _ _ _ _ _ 0 () dX3_isWhole_24 rfl hS (Nat.le_of_ble_eq_true rfl) (Nat.le_of_ble_eq_true rfl) rfl (hP.sub [0] rfl) (hD.sub [0] rfl rfl)
set_option maxHeartbeats 4000000 in
set_option maxRecDepth 100000 in
theorem c_X3_isRule (sz : Nat) (pg : Nat) (pc : Nat)  : CTi l D cI cJ cZ cR yX3_isRule cX3_isRule 1 (some .boolean) 1 21 0 0 sz [.ref pg] [(pg, .inr (3, [.ref pc, .int 0]))] (fun (r : Int32) (u : Unit) => (r = 0)) (fun (u : Unit) => [(pg, .inr (3, [.ref pc, .int 0]))]) := by
  refine CTi.of (ty := .boolean) (by decide) (Nat.le_of_ble_eq_true rfl) rfl ?_
  intro p e s m below meth c A Q ls hd hin hK hsz hP hD hA hS hl hret
  obtain ⟨hx, hb, hml, hown, hts⟩ := id hd
  have hK1 := hK.1
  have hown : s.vm.findClass RX3 = some m.cls := hown
  have hl : lv_has ls 1 [(0, .ref pg)] := hl
  refine lv_aload_n hx hb dX3_isRule_0 rfl (lv_at hl 0 rfl) ?_
  refine lv_iconst (v := 2) hx hb dX3_isRule_1 (by decide) ?_
  refine xc_i (wc := [(pg, .inr (3, [.ref pc, .int 0]))]) (wr := []) (xrV (n := 1) (As := [.int 2]) (rest := []) (ci := 3) (q0 := 0) hd hK hP hD (c_isWhole_2 l D cI cJ cZ cR _ pg pc ) (gV t_231 mV_X3_isWhole) hV_X3_isWhole ⟨(Nat.le_of_ble_eq_true rfl), (Nat.le_of_ble_eq_true rfl)⟩ rfl rfl [0] rfl rfl rfl hl.1 rfl (Nat.le_of_ble_eq_true rfl) dX3_isRule_2 ⟨(Nat.le_of_ble_eq_true rfl), (Nat.le_of_ble_eq_true rfl)⟩) hP hD hS hA [0] [] rfl rfl rfl (by decide) (fun r_1 u_2 H locs hw_3 hP hD hS => ?_)
  have hw_4 : r_1 = 0 := hw_3
  subst hw_4
  have hP : va_P D vwCl [(pg, .inr (3, [.ref pc, .int 0]))] H := hP
  have hD : va_D A [(pg, .inr (3, [.ref pc, .int 0]))] := hD
  refine lv_if_eq (tgt := 47) hx hb dX3_isRule_5 (by decide) (fun c_5 => ?_) (fun c_5 => ?_)
  rotate_left
  · exact absurd c_5 (by decide)
  refine lv_iconst (v := 0) hx hb dX3_isRule_47 (by decide) ?_
  exact hret _ _ _ _ _ _ 0 () dX3_isRule_48 rfl hS (Nat.le_of_ble_eq_true rfl) (Nat.le_of_ble_eq_true rfl) rfl (hP.sub [0] rfl) (hD.sub [0] rfl rfl)
set_option maxHeartbeats 4000000 in
set_option maxRecDepth 100000 in
theorem c_X3_isGraph (sz : Nat) (pg : Nat) (pc : Nat)  : CTi l D cI cJ cZ cR yX3_isGraph cX3_isGraph 1 (some .boolean) 1 21 0 0 sz [.ref pg] [(pg, .inr (3, [.ref pc, .int 0]))] (fun (r : Int32) (u : Unit) => (r = 0)) (fun (u : Unit) => [(pg, .inr (3, [.ref pc, .int 0]))]) := by
  refine CTi.of (ty := .boolean) (by decide) (Nat.le_of_ble_eq_true rfl) rfl ?_
  intro p e s m below meth c A Q ls hd hin hK hsz hP hD hA hS hl hret
  obtain ⟨hx, hb, hml, hown, hts⟩ := id hd
  have hK1 := hK.1
  have hown : s.vm.findClass RX3 = some m.cls := hown
  have hl : lv_has ls 1 [(0, .ref pg)] := hl
  refine lv_aload_n hx hb dX3_isGraph_0 rfl (lv_at hl 0 rfl) ?_
  refine lv_iconst (v := 0) hx hb dX3_isGraph_1 (by decide) ?_
  refine xc_i (wc := [(pg, .inr (3, [.ref pc, .int 0]))]) (wr := []) (xrV (n := 1) (As := [.int 0]) (rest := []) (ci := 3) (q0 := 0) hd hK hP hD (c_isWhole_0 l D cI cJ cZ cR _ pg pc ) (gV t_231 mV_X3_isWhole) hV_X3_isWhole ⟨(Nat.le_of_ble_eq_true rfl), (Nat.le_of_ble_eq_true rfl)⟩ rfl rfl [0] rfl rfl rfl hl.1 rfl (Nat.le_of_ble_eq_true rfl) dX3_isGraph_2 ⟨(Nat.le_of_ble_eq_true rfl), (Nat.le_of_ble_eq_true rfl)⟩) hP hD hS hA [0] [] rfl rfl rfl (by decide) (fun r_1 u_2 H locs hw_3 hP hD hS => ?_)
  have hw_4 : r_1 = 0 := hw_3
  subst hw_4
  have hP : va_P D vwCl [(pg, .inr (3, [.ref pc, .int 0]))] H := hP
  have hD : va_D A [(pg, .inr (3, [.ref pc, .int 0]))] := hD
  refine lv_if_eq (tgt := 31) hx hb dX3_isGraph_5 (by decide) (fun c_5 => ?_) (fun c_5 => ?_)
  rotate_left
  · exact absurd c_5 (by decide)
  refine lv_iconst (v := 0) hx hb dX3_isGraph_31 (by decide) ?_
  exact hret _ _ _ _ _ _ 0 () dX3_isGraph_32 rfl hS (Nat.le_of_ble_eq_true rfl) (Nat.le_of_ble_eq_true rfl) rfl (hP.sub [0] rfl) (hD.sub [0] rfl rfl)
set_option maxHeartbeats 4000000 in
set_option maxRecDepth 100000 in
theorem c_X6_rule (sz : Nat) (h0 : Nat) (pg : Nat) (bk : Nat) (fg : Nat) (og : Nat) (lg : Nat) (pc : Nat)  : CTi l D cI cJ cZ cR yX6_rule cX6_rule 1 (some .int) 2 41 0 0 sz [.ref h0] [(h0, .inr (6, [.ref pg, .ref bk, .ref fg, .ref og, .ref lg, .int 0, .int 0, .int 0, .int 0, .int 0])), (pg, .inr (3, [.ref pc, .int 0]))] (fun (r : Int32) (u : Unit) => (r = (-1003))) (fun (u : Unit) => [(h0, .inr (6, [.ref pg, .ref bk, .ref fg, .ref og, .ref lg, .int 0, .int 0, .int 0, .int 0, .int 0])), (pg, .inr (3, [.ref pc, .int 0]))]) := by
  refine CTi.of (ty := .int) (by decide) (Nat.le_of_ble_eq_true rfl) rfl ?_
  intro p e s m below meth c A Q ls hd hin hK hsz hP hD hA hS hl hret
  obtain ⟨hx, hb, hml, hown, hts⟩ := id hd
  have hK1 := hK.1
  have hown : s.vm.findClass RX6 = some m.cls := hown
  have hl : lv_has ls 1 [(0, .ref h0)] := hl
  refine lv_aload_n hx hb dX6_rule_0 rfl (lv_at hl 0 rfl) ?_
  refine va_get (D := D) (ci := 6) (v := .ref pg) (C := RX6) (T := TX6) (N := 10) hx hb hts iT_X6 hown hK1 hP 0 rfl rfl 0 (by decide) (hts _ t_154) (fun _ h9 => h9) rfl dX6_rule_1 ?_
  refine xc_i (wc := [(pg, .inr (3, [.ref pc, .int 0]))]) (wr := [(h0, .inr (6, [.ref pg, .ref bk, .ref fg, .ref og, .ref lg, .int 0, .int 0, .int 0, .int 0, .int 0]))]) (xrV (n := 0) (As := []) (rest := []) (ci := 3) (q0 := 1) hd hK hP hD (c_X3_isRule l D cI cJ cZ cR _ pg pc ) (gV t_227 mV_X3_isRule) hV_X3_isRule ⟨(Nat.le_of_ble_eq_true rfl), (Nat.le_of_ble_eq_true rfl)⟩ rfl rfl [1] rfl rfl rfl hl.1 rfl (Nat.le_of_ble_eq_true rfl) dX6_rule_4 ⟨(Nat.le_of_ble_eq_true rfl), (Nat.le_of_ble_eq_true rfl)⟩) hP hD hS hA [1] [0] rfl rfl rfl (by decide) (fun r_1 u_2 H locs hw_3 hP hD hS => ?_)
  have hw_4 : r_1 = 0 := hw_3
  subst hw_4
  have hP : va_P D vwCl [(h0, .inr (6, [.ref pg, .ref bk, .ref fg, .ref og, .ref lg, .int 0, .int 0, .int 0, .int 0, .int 0])), (pg, .inr (3, [.ref pc, .int 0]))] H := hP
  have hD : va_D A [(h0, .inr (6, [.ref pg, .ref bk, .ref fg, .ref og, .ref lg, .int 0, .int 0, .int 0, .int 0, .int 0])), (pg, .inr (3, [.ref pc, .int 0]))] := hD
  refine lv_if_ne (tgt := 14) hx hb dX6_rule_7 (by decide) (fun c_5 => ?_) (fun c_5 => ?_)
  · exact absurd c_5 (by decide)
  refine lv_sipush (v := -1003) hx hb dX6_rule_10 (by decide) ?_
  exact hret _ _ _ _ _ _ (-1003) () dX6_rule_13 rfl hS (Nat.le_of_ble_eq_true rfl) (Nat.le_of_ble_eq_true rfl) rfl (hP.sub [0, 1] rfl) (hD.sub [0, 1] rfl rfl)
set_option maxHeartbeats 4000000 in
set_option maxRecDepth 100000 in
theorem c_X6_graph (sz : Nat) (h0 : Nat) (pg : Nat) (bk : Nat) (fg : Nat) (og : Nat) (lg : Nat) (pc : Nat)  : CTi l D cI cJ cZ cR yX6_graph cX6_graph 1 (some .int) 2 41 0 0 sz [.ref h0] [(h0, .inr (6, [.ref pg, .ref bk, .ref fg, .ref og, .ref lg, .int 0, .int 0, .int 0, .int 0, .int 0])), (pg, .inr (3, [.ref pc, .int 0]))] (fun (r : Int32) (u : Unit) => (r = (-1003))) (fun (u : Unit) => [(h0, .inr (6, [.ref pg, .ref bk, .ref fg, .ref og, .ref lg, .int 0, .int 0, .int 0, .int 0, .int 0])), (pg, .inr (3, [.ref pc, .int 0]))]) := by
  refine CTi.of (ty := .int) (by decide) (Nat.le_of_ble_eq_true rfl) rfl ?_
  intro p e s m below meth c A Q ls hd hin hK hsz hP hD hA hS hl hret
  obtain ⟨hx, hb, hml, hown, hts⟩ := id hd
  have hK1 := hK.1
  have hown : s.vm.findClass RX6 = some m.cls := hown
  have hl : lv_has ls 1 [(0, .ref h0)] := hl
  refine lv_aload_n hx hb dX6_graph_0 rfl (lv_at hl 0 rfl) ?_
  refine va_get (D := D) (ci := 6) (v := .ref pg) (C := RX6) (T := TX6) (N := 10) hx hb hts iT_X6 hown hK1 hP 0 rfl rfl 0 (by decide) (hts _ t_154) (fun _ h9 => h9) rfl dX6_graph_1 ?_
  refine xc_i (wc := [(pg, .inr (3, [.ref pc, .int 0]))]) (wr := [(h0, .inr (6, [.ref pg, .ref bk, .ref fg, .ref og, .ref lg, .int 0, .int 0, .int 0, .int 0, .int 0]))]) (xrV (n := 0) (As := []) (rest := []) (ci := 3) (q0 := 1) hd hK hP hD (c_X3_isGraph l D cI cJ cZ cR _ pg pc ) (gV t_316 mV_X3_isGraph) hV_X3_isGraph ⟨(Nat.le_of_ble_eq_true rfl), (Nat.le_of_ble_eq_true rfl)⟩ rfl rfl [1] rfl rfl rfl hl.1 rfl (Nat.le_of_ble_eq_true rfl) dX6_graph_4 ⟨(Nat.le_of_ble_eq_true rfl), (Nat.le_of_ble_eq_true rfl)⟩) hP hD hS hA [1] [0] rfl rfl rfl (by decide) (fun r_1 u_2 H locs hw_3 hP hD hS => ?_)
  have hw_4 : r_1 = 0 := hw_3
  subst hw_4
  have hP : va_P D vwCl [(h0, .inr (6, [.ref pg, .ref bk, .ref fg, .ref og, .ref lg, .int 0, .int 0, .int 0, .int 0, .int 0])), (pg, .inr (3, [.ref pc, .int 0]))] H := hP
  have hD : va_D A [(h0, .inr (6, [.ref pg, .ref bk, .ref fg, .ref og, .ref lg, .int 0, .int 0, .int 0, .int 0, .int 0])), (pg, .inr (3, [.ref pc, .int 0]))] := hD
  refine lv_if_ne (tgt := 14) hx hb dX6_graph_7 (by decide) (fun c_5 => ?_) (fun c_5 => ?_)
  · exact absurd c_5 (by decide)
  refine lv_sipush (v := -1003) hx hb dX6_graph_10 (by decide) ?_
  exact hret _ _ _ _ _ _ (-1003) () dX6_graph_13 rfl hS (Nat.le_of_ble_eq_true rfl) (Nat.le_of_ble_eq_true rfl) rfl (hP.sub [0, 1] rfl) (hD.sub [0, 1] rfl rfl)
set_option maxHeartbeats 4000000 in
set_option maxRecDepth 100000 in
theorem c_X6_drop (sz : Nat) (h0 : Nat) (pg : Nat) (bk : Nat) (fg : Nat) (og : Nat) (lg : Nat) (br : Nat) (p0 : Int32)  : CTi l D cI cJ cZ cR yX6_drop cX6_drop 2 (some .int) 1 21 0 0 sz [.ref h0, .int p0] [(h0, .inr (6, [.ref pg, .ref bk, .ref fg, .ref og, .ref lg, .int 0, .int 0, .int 0, .int 0, .int 0])), (bk, .inr (5, [.ref br, .int 0]))] (fun (r : Int32) (u : Unit) => (r = (-1001))) (fun (u : Unit) => [(h0, .inr (6, [.ref pg, .ref bk, .ref fg, .ref og, .ref lg, .int 0, .int 0, .int 0, .int 0, .int 0])), (bk, .inr (5, [.ref br, .int 0]))]) := by
  refine CTi.of (ty := .int) (by decide) (Nat.le_of_ble_eq_true rfl) rfl ?_
  intro p e s m below meth c A Q ls hd hin hK hsz hP hD hA hS hl hret
  obtain ⟨hx, hb, hml, hown, hts⟩ := id hd
  have hK1 := hK.1
  have hown : s.vm.findClass RX6 = some m.cls := hown
  have hl : lv_has ls 2 [(0, .ref h0), (1, .int p0)] := hl
  refine lv_aload_n hx hb dX6_drop_0 rfl (lv_at hl 0 rfl) ?_
  refine va_get (D := D) (ci := 6) (v := .ref bk) (C := RX6) (T := TX6) (N := 10) hx hb hts iT_X6 hown hK1 hP 0 rfl rfl 1 (by decide) (hts _ t_155) (fun _ h9 => h9) rfl dX6_drop_1 ?_
  refine lv_iload_n hx hb dX6_drop_4 rfl (lv_at hl 1 rfl) ?_
  refine xc_i (wc := [(bk, .inr (5, [.ref br, .int 0]))]) (wr := [(h0, .inr (6, [.ref pg, .ref bk, .ref fg, .ref og, .ref lg, .int 0, .int 0, .int 0, .int 0, .int 0]))]) (xrV (n := 1) (As := [.int p0]) (rest := []) (ci := 5) (q0 := 1) hd hK hP hD (c_X5_has l D cI cJ cZ cR _ bk br 0 p0 ) (gV t_303 mV_X5_has) hV_X5_has ⟨(Nat.le_of_ble_eq_true rfl), (Nat.le_of_ble_eq_true rfl)⟩ rfl rfl [1] rfl rfl rfl hl.1 rfl (Nat.le_of_ble_eq_true rfl) dX6_drop_5 ⟨(Nat.le_of_ble_eq_true rfl), (Nat.le_of_ble_eq_true rfl)⟩) hP hD hS hA [1] [0] rfl rfl rfl (by decide) (fun r_1 u_2 H locs hw_3 hP hD hS => ?_)
  have hw_4 : r_1 = (if p0 < 0 then 0 else if 0 ≤ p0 then 0 else 1) := hw_3
  subst hw_4
  have hP : va_P D vwCl [(h0, .inr (6, [.ref pg, .ref bk, .ref fg, .ref og, .ref lg, .int 0, .int 0, .int 0, .int 0, .int 0])), (bk, .inr (5, [.ref br, .int 0]))] H := hP
  have hD : va_D A [(h0, .inr (6, [.ref pg, .ref bk, .ref fg, .ref og, .ref lg, .int 0, .int 0, .int 0, .int 0, .int 0])), (bk, .inr (5, [.ref br, .int 0]))] := hD
  refine lv_nmi (show _ = (0 : Int32) from has0 _) ?_
  refine lv_if_ne (tgt := 15) hx hb dX6_drop_8 (by decide) (fun c_5 => ?_) (fun c_5 => ?_)
  · exact absurd c_5 (by decide)
  refine lv_sipush (v := -1001) hx hb dX6_drop_11 (by decide) ?_
  exact hret _ _ _ _ _ _ (-1001) () dX6_drop_14 rfl hS (Nat.le_of_ble_eq_true rfl) (Nat.le_of_ble_eq_true rfl) rfl (hP.sub [0, 1] rfl) (hD.sub [0, 1] rfl rfl)
set_option maxHeartbeats 4000000 in
set_option maxRecDepth 100000 in
theorem c_X6_of (sz : Nat) (h0 : Nat) (pg : Nat) (bk : Nat) (fg : Nat) (og : Nat) (lg : Nat) (br : Nat) (p0 : Int32) (p1 : Int32)  : CTi l D cI cJ cZ cR yX6_of cX6_of 4 (some .int) 1 21 0 0 sz [.ref h0, .int p0, .int p1] [(h0, .inr (6, [.ref pg, .ref bk, .ref fg, .ref og, .ref lg, .int 0, .int 0, .int 0, .int 0, .int 0])), (bk, .inr (5, [.ref br, .int 0]))] (fun (r : Int32) (u : Unit) => (r = (-1001))) (fun (u : Unit) => [(h0, .inr (6, [.ref pg, .ref bk, .ref fg, .ref og, .ref lg, .int 0, .int 0, .int 0, .int 0, .int 0])), (bk, .inr (5, [.ref br, .int 0]))]) := by
  refine CTi.of (ty := .int) (by decide) (Nat.le_of_ble_eq_true rfl) rfl ?_
  intro p e s m below meth c A Q ls hd hin hK hsz hP hD hA hS hl hret
  obtain ⟨hx, hb, hml, hown, hts⟩ := id hd
  have hK1 := hK.1
  have hown : s.vm.findClass RX6 = some m.cls := hown
  have hl : lv_has ls 4 [(0, .ref h0), (1, .int p0), (2, .int p1)] := hl
  refine lv_aload_n hx hb dX6_of_0 rfl (lv_at hl 0 rfl) ?_
  refine va_get (D := D) (ci := 6) (v := .ref bk) (C := RX6) (T := TX6) (N := 10) hx hb hts iT_X6 hown hK1 hP 0 rfl rfl 1 (by decide) (hts _ t_155) (fun _ h9 => h9) rfl dX6_of_1 ?_
  refine lv_iload_n hx hb dX6_of_4 rfl (lv_at hl 1 rfl) ?_
  refine xc_i (wc := [(bk, .inr (5, [.ref br, .int 0]))]) (wr := [(h0, .inr (6, [.ref pg, .ref bk, .ref fg, .ref og, .ref lg, .int 0, .int 0, .int 0, .int 0, .int 0]))]) (xrV (n := 1) (As := [.int p0]) (rest := []) (ci := 5) (q0 := 1) hd hK hP hD (c_X5_has l D cI cJ cZ cR _ bk br 0 p0 ) (gV t_303 mV_X5_has) hV_X5_has ⟨(Nat.le_of_ble_eq_true rfl), (Nat.le_of_ble_eq_true rfl)⟩ rfl rfl [1] rfl rfl rfl hl.1 rfl (Nat.le_of_ble_eq_true rfl) dX6_of_5 ⟨(Nat.le_of_ble_eq_true rfl), (Nat.le_of_ble_eq_true rfl)⟩) hP hD hS hA [1] [0] rfl rfl rfl (by decide) (fun r_1 u_2 H locs hw_3 hP hD hS => ?_)
  have hw_4 : r_1 = (if p0 < 0 then 0 else if 0 ≤ p0 then 0 else 1) := hw_3
  subst hw_4
  have hP : va_P D vwCl [(h0, .inr (6, [.ref pg, .ref bk, .ref fg, .ref og, .ref lg, .int 0, .int 0, .int 0, .int 0, .int 0])), (bk, .inr (5, [.ref br, .int 0]))] H := hP
  have hD : va_D A [(h0, .inr (6, [.ref pg, .ref bk, .ref fg, .ref og, .ref lg, .int 0, .int 0, .int 0, .int 0, .int 0])), (bk, .inr (5, [.ref br, .int 0]))] := hD
  refine lv_nmi (show _ = (0 : Int32) from has0 _) ?_
  refine lv_if_ne (tgt := 15) hx hb dX6_of_8 (by decide) (fun c_5 => ?_) (fun c_5 => ?_)
  · exact absurd c_5 (by decide)
  refine lv_sipush (v := -1001) hx hb dX6_of_11 (by decide) ?_
  exact hret _ _ _ _ _ _ (-1001) () dX6_of_14 rfl hS (Nat.le_of_ble_eq_true rfl) (Nat.le_of_ble_eq_true rfl) rfl (hP.sub [0, 1] rfl) (hD.sub [0, 1] rfl rfl)
set_option maxHeartbeats 4000000 in
set_option maxRecDepth 100000 in
theorem c_X6_step (sz : Nat) (h0 : Nat) (pg : Nat) (bk : Nat) (fg : Nat) (og : Nat) (lg : Nat) (f1 : Nat) (f2 : Nat) (f3 : Nat) (p0 : Int32) (p1 : Int32)  : CTi l D cI cJ cZ cR yX6_step cX6_step 4 (some .int) 1 21 0 0 sz [.ref h0, .int p0, .int p1] [(h0, .inr (6, [.ref pg, .ref bk, .ref fg, .ref og, .ref lg, .int 0, .int 0, .int 0, .int 0, .int 0])), (fg, .inr (0, [.ref f1, .ref f2, .ref f3, .int 0, .int 0]))] (fun (r : Int32) (u : Unit) => (r = (-1001))) (fun (u : Unit) => [(h0, .inr (6, [.ref pg, .ref bk, .ref fg, .ref og, .ref lg, .int 0, .int 0, .int 0, .int 0, .int 0])), (fg, .inr (0, [.ref f1, .ref f2, .ref f3, .int 0, .int 0]))]) := by
  refine CTi.of (ty := .int) (by decide) (Nat.le_of_ble_eq_true rfl) rfl ?_
  intro p e s m below meth c A Q ls hd hin hK hsz hP hD hA hS hl hret
  obtain ⟨hx, hb, hml, hown, hts⟩ := id hd
  have hK1 := hK.1
  have hown : s.vm.findClass RX6 = some m.cls := hown
  have hl : lv_has ls 4 [(0, .ref h0), (1, .int p0), (2, .int p1)] := hl
  refine lv_aload_n hx hb dX6_step_0 rfl (lv_at hl 0 rfl) ?_
  refine va_get (D := D) (ci := 6) (v := .ref fg) (C := RX6) (T := TX6) (N := 10) hx hb hts iT_X6 hown hK1 hP 0 rfl rfl 2 (by decide) (hts _ t_156) (fun _ h9 => h9) rfl dX6_step_1 ?_
  refine lv_iload_n hx hb dX6_step_4 rfl (lv_at hl 1 rfl) ?_
  refine xc_i (wc := [(fg, .inr (0, [.ref f1, .ref f2, .ref f3, .int 0, .int 0]))]) (wr := [(h0, .inr (6, [.ref pg, .ref bk, .ref fg, .ref og, .ref lg, .int 0, .int 0, .int 0, .int 0, .int 0]))]) (xrV (n := 1) (As := [.int p0]) (rest := []) (ci := 0) (q0 := 1) hd hK hP hD (c_X0_has l D cI cJ cZ cR _ fg f1 f2 f3 0 0 p0 ) (gV t_332 mV_X0_has) hV_X0_has ⟨(Nat.le_of_ble_eq_true rfl), (Nat.le_of_ble_eq_true rfl)⟩ rfl rfl [1] rfl rfl rfl hl.1 rfl (Nat.le_of_ble_eq_true rfl) dX6_step_5 ⟨(Nat.le_of_ble_eq_true rfl), (Nat.le_of_ble_eq_true rfl)⟩) hP hD hS hA [1] [0] rfl rfl rfl (by decide) (fun r_1 u_2 H locs hw_3 hP hD hS => ?_)
  have hw_4 : r_1 = (if p0 < 0 then 0 else if 0 ≤ p0 then 0 else 1) := hw_3
  subst hw_4
  have hP : va_P D vwCl [(h0, .inr (6, [.ref pg, .ref bk, .ref fg, .ref og, .ref lg, .int 0, .int 0, .int 0, .int 0, .int 0])), (fg, .inr (0, [.ref f1, .ref f2, .ref f3, .int 0, .int 0]))] H := hP
  have hD : va_D A [(h0, .inr (6, [.ref pg, .ref bk, .ref fg, .ref og, .ref lg, .int 0, .int 0, .int 0, .int 0, .int 0])), (fg, .inr (0, [.ref f1, .ref f2, .ref f3, .int 0, .int 0]))] := hD
  refine lv_nmi (show _ = (0 : Int32) from has0 _) ?_
  refine lv_if_eq (tgt := 22) hx hb dX6_step_8 (by decide) (fun c_5 => ?_) (fun c_5 => ?_)
  rotate_left
  · exact absurd c_5 (by decide)
  refine lv_sipush (v := -1001) hx hb dX6_step_22 (by decide) ?_
  exact hret _ _ _ _ _ _ (-1001) () dX6_step_25 rfl hS (Nat.le_of_ble_eq_true rfl) (Nat.le_of_ble_eq_true rfl) rfl (hP.sub [0, 1] rfl) (hD.sub [0, 1] rfl rfl)
set_option maxHeartbeats 4000000 in
set_option maxRecDepth 100000 in
theorem c_X6_edge (sz : Nat) (h0 : Nat) (pg : Nat) (bk : Nat) (fg : Nat) (og : Nat) (lg : Nat) (f1 : Nat) (f2 : Nat) (f3 : Nat) (p0 : Int32)  : CTi l D cI cJ cZ cR yX6_edge cX6_edge 2 (some .int) 1 21 0 0 sz [.ref h0, .int p0] [(h0, .inr (6, [.ref pg, .ref bk, .ref fg, .ref og, .ref lg, .int 0, .int 0, .int 0, .int 0, .int 0])), (fg, .inr (0, [.ref f1, .ref f2, .ref f3, .int 0, .int 0]))] (fun (r : Int32) (u : Unit) => (r = (-1001))) (fun (u : Unit) => [(h0, .inr (6, [.ref pg, .ref bk, .ref fg, .ref og, .ref lg, .int 0, .int 0, .int 0, .int 0, .int 0])), (fg, .inr (0, [.ref f1, .ref f2, .ref f3, .int 0, .int 0]))]) := by
  refine CTi.of (ty := .int) (by decide) (Nat.le_of_ble_eq_true rfl) rfl ?_
  intro p e s m below meth c A Q ls hd hin hK hsz hP hD hA hS hl hret
  obtain ⟨hx, hb, hml, hown, hts⟩ := id hd
  have hK1 := hK.1
  have hown : s.vm.findClass RX6 = some m.cls := hown
  have hl : lv_has ls 2 [(0, .ref h0), (1, .int p0)] := hl
  refine lv_aload_n hx hb dX6_edge_0 rfl (lv_at hl 0 rfl) ?_
  refine va_get (D := D) (ci := 6) (v := .ref fg) (C := RX6) (T := TX6) (N := 10) hx hb hts iT_X6 hown hK1 hP 0 rfl rfl 2 (by decide) (hts _ t_156) (fun _ h9 => h9) rfl dX6_edge_1 ?_
  refine lv_iload_n hx hb dX6_edge_4 rfl (lv_at hl 1 rfl) ?_
  refine xc_i (wc := [(fg, .inr (0, [.ref f1, .ref f2, .ref f3, .int 0, .int 0]))]) (wr := [(h0, .inr (6, [.ref pg, .ref bk, .ref fg, .ref og, .ref lg, .int 0, .int 0, .int 0, .int 0, .int 0]))]) (xrV (n := 1) (As := [.int p0]) (rest := []) (ci := 0) (q0 := 1) hd hK hP hD (c_X0_has l D cI cJ cZ cR _ fg f1 f2 f3 0 0 p0 ) (gV t_332 mV_X0_has) hV_X0_has ⟨(Nat.le_of_ble_eq_true rfl), (Nat.le_of_ble_eq_true rfl)⟩ rfl rfl [1] rfl rfl rfl hl.1 rfl (Nat.le_of_ble_eq_true rfl) dX6_edge_5 ⟨(Nat.le_of_ble_eq_true rfl), (Nat.le_of_ble_eq_true rfl)⟩) hP hD hS hA [1] [0] rfl rfl rfl (by decide) (fun r_1 u_2 H locs hw_3 hP hD hS => ?_)
  have hw_4 : r_1 = (if p0 < 0 then 0 else if 0 ≤ p0 then 0 else 1) := hw_3
  subst hw_4
  have hP : va_P D vwCl [(h0, .inr (6, [.ref pg, .ref bk, .ref fg, .ref og, .ref lg, .int 0, .int 0, .int 0, .int 0, .int 0])), (fg, .inr (0, [.ref f1, .ref f2, .ref f3, .int 0, .int 0]))] H := hP
  have hD : va_D A [(h0, .inr (6, [.ref pg, .ref bk, .ref fg, .ref og, .ref lg, .int 0, .int 0, .int 0, .int 0, .int 0])), (fg, .inr (0, [.ref f1, .ref f2, .ref f3, .int 0, .int 0]))] := hD
  refine lv_nmi (show _ = (0 : Int32) from has0 _) ?_
  refine lv_if_eq (tgt := 22) hx hb dX6_edge_8 (by decide) (fun c_5 => ?_) (fun c_5 => ?_)
  rotate_left
  · exact absurd c_5 (by decide)
  refine lv_sipush (v := -1001) hx hb dX6_edge_22 (by decide) ?_
  exact hret _ _ _ _ _ _ (-1001) () dX6_edge_25 rfl hS (Nat.le_of_ble_eq_true rfl) (Nat.le_of_ble_eq_true rfl) rfl (hP.sub [0, 1] rfl) (hD.sub [0, 1] rfl rfl)
set_option maxHeartbeats 4000000 in
set_option maxRecDepth 100000 in
theorem c_X0_put (sz : Nat) (fg : Nat) (f1 : Nat) (f2 : Nat) (f3 : Nat) (nd : Int32) (p1 : Int32) (p2 : Int32) (p3 : Int32) (g1 : Nat → Int32) (g2 : Nat → Int32) (g3 : Nat → Int32)  : CTv l D cI cJ cZ cR yX0_put cX0_put 5 none 0 0 0 0 sz [.ref fg, .int 0, .int p1, .int p2, .int p3] [(fg, .inr (0, [.ref f1, .ref f2, .ref f3, .int 0, .int nd])), (f1, .inl (cI, 12, .inl g1)), (f2, .inl (cI, 12, .inl g2)), (f3, .inl (cI, 12, .inl g3))] (fun (u : Unit) => True) (fun (u : Unit) => [(fg, .inr (0, [.ref f1, .ref f2, .ref f3, .int 0, .int nd])), (f1, .inl (cI, 12, .inl (upd g1 0 p1))), (f2, .inl (cI, 12, .inl (upd g2 0 p2))), (f3, .inl (cI, 12, .inl (upd g3 0 p3)))]) := by
  refine CTv.of (by decide) (Nat.le_of_ble_eq_true rfl) rfl ?_
  intro p e s m below meth c A Q ls hd hin hK hsz hP hD hA hS hl hret
  obtain ⟨hx, hb, hml, hown, hts⟩ := id hd
  have hK1 := hK.1
  have hown : s.vm.findClass RX0 = some m.cls := hown
  have hl : lv_has ls 5 [(0, .ref fg), (1, .int 0), (2, .int p1), (3, .int p2), (4, .int p3)] := hl
  refine lv_aload_n hx hb dX0_put_0 rfl (lv_at hl 0 rfl) ?_
  refine va_get (D := D) (ci := 0) (v := .ref f1) (C := RX0) (T := TX0) (N := 5) hx hb hts iT_X0 hown hK1 hP 0 rfl rfl 0 (by decide) (hts _ t_55) (fun _ h9 => h9) rfl dX0_put_1 ?_
  refine lv_iload_n hx hb dX0_put_4 rfl (lv_at hl 1 rfl) ?_
  refine lv_iload_n hx hb dX0_put_5 rfl (lv_at hl 2 rfl) ?_
  refine va_iast hx hb hK1 hP hD hS 1 0 rfl rfl (vin (by decide)) dX0_put_6 (fun H locs hP hD hS => ?_)
  have hP : va_P D vwCl [(fg, .inr (0, [.ref f1, .ref f2, .ref f3, .int 0, .int nd])), (f1, .inl (cI, 12, .inl (upd g1 0 p1))), (f2, .inl (cI, 12, .inl g2)), (f3, .inl (cI, 12, .inl g3))] H := hP
  have hD : va_D A [(fg, .inr (0, [.ref f1, .ref f2, .ref f3, .int 0, .int nd])), (f1, .inl (cI, 12, .inl (upd g1 0 p1))), (f2, .inl (cI, 12, .inl g2)), (f3, .inl (cI, 12, .inl g3))] := hD
  refine lv_aload_n hx hb dX0_put_7 rfl (lv_at hl 0 rfl) ?_
  refine va_get (D := D) (ci := 0) (v := .ref f2) (C := RX0) (T := TX0) (N := 5) hx hb hts iT_X0 hown hK1 hP 0 rfl rfl 1 (by decide) (hts _ t_58) (fun _ h9 => h9) rfl dX0_put_8 ?_
  refine lv_iload_n hx hb dX0_put_11 rfl (lv_at hl 1 rfl) ?_
  refine lv_iload_n hx hb dX0_put_12 rfl (lv_at hl 3 rfl) ?_
  refine va_iast hx hb hK1 hP hD hS 2 0 rfl rfl (vin (by decide)) dX0_put_13 (fun H locs hP hD hS => ?_)
  have hP : va_P D vwCl [(fg, .inr (0, [.ref f1, .ref f2, .ref f3, .int 0, .int nd])), (f1, .inl (cI, 12, .inl (upd g1 0 p1))), (f2, .inl (cI, 12, .inl (upd g2 0 p2))), (f3, .inl (cI, 12, .inl g3))] H := hP
  have hD : va_D A [(fg, .inr (0, [.ref f1, .ref f2, .ref f3, .int 0, .int nd])), (f1, .inl (cI, 12, .inl (upd g1 0 p1))), (f2, .inl (cI, 12, .inl (upd g2 0 p2))), (f3, .inl (cI, 12, .inl g3))] := hD
  refine lv_aload_n hx hb dX0_put_14 rfl (lv_at hl 0 rfl) ?_
  refine va_get (D := D) (ci := 0) (v := .ref f3) (C := RX0) (T := TX0) (N := 5) hx hb hts iT_X0 hown hK1 hP 0 rfl rfl 2 (by decide) (hts _ t_60) (fun _ h9 => h9) rfl dX0_put_15 ?_
  refine lv_iload_n hx hb dX0_put_18 rfl (lv_at hl 1 rfl) ?_
  refine lv_iload hx hb dX0_put_19 (lv_at hl 4 rfl) ?_
  refine va_iast hx hb hK1 hP hD hS 3 0 rfl rfl (vin (by decide)) dX0_put_21 (fun H locs hP hD hS => ?_)
  have hP : va_P D vwCl [(fg, .inr (0, [.ref f1, .ref f2, .ref f3, .int 0, .int nd])), (f1, .inl (cI, 12, .inl (upd g1 0 p1))), (f2, .inl (cI, 12, .inl (upd g2 0 p2))), (f3, .inl (cI, 12, .inl (upd g3 0 p3)))] H := hP
  have hD : va_D A [(fg, .inr (0, [.ref f1, .ref f2, .ref f3, .int 0, .int nd])), (f1, .inl (cI, 12, .inl (upd g1 0 p1))), (f2, .inl (cI, 12, .inl (upd g2 0 p2))), (f3, .inl (cI, 12, .inl (upd g3 0 p3)))] := hD
  exact hret _ _ _ _ _ _ () dX0_put_22 hS (Nat.le_of_ble_eq_true rfl) (Nat.le_of_ble_eq_true rfl) trivial (hP.sub [0, 1, 2, 3] rfl) (hD.sub [0, 1, 2, 3] rfl rfl)
set_option maxHeartbeats 4000000 in
set_option maxRecDepth 100000 in
theorem c_X0_append (sz : Nat) (fg : Nat) (f1 : Nat) (f2 : Nat) (f3 : Nat) (nd : Int32) (p1 : Int32) (p2 : Int32) (p3 : Int32) (g1 : Nat → Int32) (g2 : Nat → Int32) (g3 : Nat → Int32)  : CTv l D cI cJ cZ cR yX0_append cX0_append 4 none 1 24 0 0 sz [.ref fg, .int p1, .int p2, .int p3] [(fg, .inr (0, [.ref f1, .ref f2, .ref f3, .int 0, .int nd])), (f1, .inl (cI, 12, .inl g1)), (f2, .inl (cI, 12, .inl g2)), (f3, .inl (cI, 12, .inl g3))] (fun (u : Unit) => True) (fun (u : Unit) => [(fg, .inr (0, [.ref f1, .ref f2, .ref f3, .int 1, .int nd])), (f1, .inl (cI, 12, .inl (upd g1 0 p1))), (f2, .inl (cI, 12, .inl (upd g2 0 p2))), (f3, .inl (cI, 12, .inl (upd g3 0 p3)))]) := by
  refine CTv.of (by decide) (Nat.le_of_ble_eq_true rfl) rfl ?_
  intro p e s m below meth c A Q ls hd hin hK hsz hP hD hA hS hl hret
  obtain ⟨hx, hb, hml, hown, hts⟩ := id hd
  have hK1 := hK.1
  have hown : s.vm.findClass RX0 = some m.cls := hown
  have hl : lv_has ls 4 [(0, .ref fg), (1, .int p1), (2, .int p2), (3, .int p3)] := hl
  refine lv_aload_n hx hb dX0_append_0 rfl (lv_at hl 0 rfl) ?_
  refine va_get (D := D) (ci := 0) (v := .int 0) (C := RX0) (T := TX0) (N := 5) hx hb hts iT_X0 hown hK1 hP 0 rfl rfl 3 (by decide) (hts _ t_62) (fun _ h9 => h9) rfl dX0_append_1 ?_
  refine lv_aload_n hx hb dX0_append_4 rfl (lv_at hl 0 rfl) ?_
  refine va_get (D := D) (ci := 0) (v := .ref f1) (C := RX0) (T := TX0) (N := 5) hx hb hts iT_X0 hown hK1 hP 0 rfl rfl 0 (by decide) (hts _ t_55) (fun _ h9 => h9) rfl dX0_append_5 ?_
  refine va_alen hx hb hK1 hP 1 0 rfl rfl (v := 12) rfl dX0_append_8 ?_
  refine lv_icmp_ge (tgt := 33) hx hb dX0_append_9 (by decide) (fun c_1 => ?_) (fun c_1 => ?_)
  · exact absurd c_1 (by decide)
  refine lv_aload_n hx hb dX0_append_12 rfl (lv_at hl 0 rfl) ?_
  refine lv_aload_n hx hb dX0_append_13 rfl (lv_at hl 0 rfl) ?_
  refine va_get (D := D) (ci := 0) (v := .int 0) (C := RX0) (T := TX0) (N := 5) hx hb hts iT_X0 hown hK1 hP 0 rfl rfl 3 (by decide) (hts _ t_62) (fun _ h9 => h9) rfl dX0_append_14 ?_
  refine lv_iload_n hx hb dX0_append_17 rfl (lv_at hl 1 rfl) ?_
  refine lv_iload_n hx hb dX0_append_18 rfl (lv_at hl 2 rfl) ?_
  refine lv_iload_n hx hb dX0_append_19 rfl (lv_at hl 3 rfl) ?_
  refine xc_v (wc := [(fg, .inr (0, [.ref f1, .ref f2, .ref f3, .int 0, .int nd])), (f1, .inl (cI, 12, .inl g1)), (f2, .inl (cI, 12, .inl g2)), (f3, .inl (cI, 12, .inl g3))]) (wr := []) (xrV (n := 4) (As := [.int 0, .int p1, .int p2, .int p3]) (rest := []) (ci := 0) (q0 := 0) hd hK hP hD (c_X0_put l D cI cJ cZ cR _ fg f1 f2 f3 nd p1 p2 p3 g1 g2 g3 ) (gV t_275 mV_X0_put) hV_X0_put ⟨(Nat.le_of_ble_eq_true rfl), (Nat.le_of_ble_eq_true rfl)⟩ rfl rfl [0, 1, 2, 3] rfl rfl rfl hl.1 rfl (Nat.le_of_ble_eq_true rfl) dX0_append_20 ⟨(Nat.le_of_ble_eq_true rfl), (Nat.le_of_ble_eq_true rfl)⟩) hP hD hS hA [0, 1, 2, 3] [] rfl rfl rfl (by decide) (fun u_3 H locs hw_4 hP hD hS => ?_)
  have hP : va_P D vwCl [(fg, .inr (0, [.ref f1, .ref f2, .ref f3, .int 0, .int nd])), (f1, .inl (cI, 12, .inl (upd g1 0 p1))), (f2, .inl (cI, 12, .inl (upd g2 0 p2))), (f3, .inl (cI, 12, .inl (upd g3 0 p3)))] H := hP
  have hD : va_D A [(fg, .inr (0, [.ref f1, .ref f2, .ref f3, .int 0, .int nd])), (f1, .inl (cI, 12, .inl (upd g1 0 p1))), (f2, .inl (cI, 12, .inl (upd g2 0 p2))), (f3, .inl (cI, 12, .inl (upd g3 0 p3)))] := hD
  refine lv_aload_n hx hb dX0_append_23 rfl (lv_at hl 0 rfl) ?_
  refine lv_dup hx hb dX0_append_24 rfl ?_
  refine va_get (D := D) (ci := 0) (v := .int 0) (C := RX0) (T := TX0) (N := 5) hx hb hts iT_X0 hown hK1 hP 0 rfl rfl 3 (by decide) (hts _ t_62) (fun _ h9 => h9) rfl dX0_append_25 ?_
  refine lv_iconst (v := 1) hx hb dX0_append_28 (by decide) ?_
  refine lv_iadd hx hb dX0_append_29 ?_
  refine lv_nmi (show _ = (1 : Int32) from by decide +kernel) ?_
  refine va_put (D := D) (ci := 0) (v := .int 1) (ty := .int) (C := RX0) (T := TX0) (N := 5) hx hb hts iT_X0 tyX0 tyX0_ok nmX0 hown hK1 hP hD hS 0 rfl rfl 3 (by decide) (hts _ t_62) (fun _ h9 => h9) rfl (by decide +kernel) rfl rfl (Nat.le_of_ble_eq_true rfl) dX0_append_30 (fun H locs hP hD hS => ?_)
  have hP : va_P D vwCl [(fg, .inr (0, [.ref f1, .ref f2, .ref f3, .int 1, .int nd])), (f1, .inl (cI, 12, .inl (upd g1 0 p1))), (f2, .inl (cI, 12, .inl (upd g2 0 p2))), (f3, .inl (cI, 12, .inl (upd g3 0 p3)))] H := hP
  have hD : va_D A [(fg, .inr (0, [.ref f1, .ref f2, .ref f3, .int 1, .int nd])), (f1, .inl (cI, 12, .inl (upd g1 0 p1))), (f2, .inl (cI, 12, .inl (upd g2 0 p2))), (f3, .inl (cI, 12, .inl (upd g3 0 p3)))] := hD
  exact hret _ _ _ _ _ _ () dX0_append_33 hS (Nat.le_of_ble_eq_true rfl) (Nat.le_of_ble_eq_true rfl) trivial (hP.sub [0, 1, 2, 3] rfl) (hD.sub [0, 1, 2, 3] rfl rfl)
set_option maxHeartbeats 4000000 in
set_option maxRecDepth 100000 in
theorem c_X6_noteNewGraph (sz : Nat) (h0 : Nat) (pg : Nat) (bk : Nat) (fg : Nat) (og : Nat) (lg : Nat) (o1 : Int32) (o2 : Int32) (o3 : Int32) (o4 : Int32) (o5 : Int32)  : CTv l D cI cJ cZ cR yX6_noteNewGraph cX6_noteNewGraph 1 none 0 0 0 0 sz [.ref h0] [(h0, .inr (6, [.ref pg, .ref bk, .ref fg, .ref og, .ref lg, .int o1, .int o2, .int o3, .int o4, .int o5]))] (fun (u : Unit) => True) (fun (u : Unit) => [(h0, .inr (6, [.ref pg, .ref bk, .ref fg, .ref og, .ref lg, .int 0, .int o2, .int 0, .int o4, .int (o5 + 1)]))]) := by
  refine CTv.of (by decide) (Nat.le_of_ble_eq_true rfl) rfl ?_
  intro p e s m below meth c A Q ls hd hin hK hsz hP hD hA hS hl hret
  obtain ⟨hx, hb, hml, hown, hts⟩ := id hd
  have hK1 := hK.1
  have hown : s.vm.findClass RX6 = some m.cls := hown
  have hl : lv_has ls 1 [(0, .ref h0)] := hl
  refine lv_aload_n hx hb dX6_noteNewGraph_0 rfl (lv_at hl 0 rfl) ?_
  refine lv_iconst (v := 0) hx hb dX6_noteNewGraph_1 (by decide) ?_
  refine va_put (D := D) (ci := 6) (v := .int 0) (ty := .boolean) (C := RX6) (T := TX6) (N := 10) hx hb hts iT_X6 tyX6 tyX6_ok nmX6 hown hK1 hP hD hS 0 rfl rfl 5 (by decide) (hts _ t_159) (fun _ h9 => h9) rfl (by decide +kernel) rfl rfl (Nat.le_of_ble_eq_true rfl) dX6_noteNewGraph_2 (fun H locs hP hD hS => ?_)
  have hP : va_P D vwCl [(h0, .inr (6, [.ref pg, .ref bk, .ref fg, .ref og, .ref lg, .int 0, .int o2, .int o3, .int o4, .int o5]))] H := hP
  have hD : va_D A [(h0, .inr (6, [.ref pg, .ref bk, .ref fg, .ref og, .ref lg, .int 0, .int o2, .int o3, .int o4, .int o5]))] := hD
  refine lv_aload_n hx hb dX6_noteNewGraph_5 rfl (lv_at hl 0 rfl) ?_
  refine lv_iconst (v := 0) hx hb dX6_noteNewGraph_6 (by decide) ?_
  refine va_put (D := D) (ci := 6) (v := .int 0) (ty := .int) (C := RX6) (T := TX6) (N := 10) hx hb hts iT_X6 tyX6 tyX6_ok nmX6 hown hK1 hP hD hS 0 rfl rfl 7 (by decide) (hts _ t_161) (fun _ h9 => h9) rfl (by decide +kernel) rfl rfl (Nat.le_of_ble_eq_true rfl) dX6_noteNewGraph_7 (fun H locs hP hD hS => ?_)
  have hP : va_P D vwCl [(h0, .inr (6, [.ref pg, .ref bk, .ref fg, .ref og, .ref lg, .int 0, .int o2, .int 0, .int o4, .int o5]))] H := hP
  have hD : va_D A [(h0, .inr (6, [.ref pg, .ref bk, .ref fg, .ref og, .ref lg, .int 0, .int o2, .int 0, .int o4, .int o5]))] := hD
  refine lv_aload_n hx hb dX6_noteNewGraph_10 rfl (lv_at hl 0 rfl) ?_
  refine lv_dup hx hb dX6_noteNewGraph_11 rfl ?_
  refine va_get (D := D) (ci := 6) (v := .int o5) (C := RX6) (T := TX6) (N := 10) hx hb hts iT_X6 hown hK1 hP 0 rfl rfl 9 (by decide) (hts _ t_163) (fun _ h9 => h9) rfl dX6_noteNewGraph_12 ?_
  refine lv_iconst (v := 1) hx hb dX6_noteNewGraph_15 (by decide) ?_
  refine lv_iadd hx hb dX6_noteNewGraph_16 ?_
  refine va_put (D := D) (ci := 6) (v := .int (o5 + 1)) (ty := .int) (C := RX6) (T := TX6) (N := 10) hx hb hts iT_X6 tyX6 tyX6_ok nmX6 hown hK1 hP hD hS 0 rfl rfl 9 (by decide) (hts _ t_163) (fun _ h9 => h9) rfl (by decide +kernel) rfl rfl (Nat.le_of_ble_eq_true rfl) dX6_noteNewGraph_17 (fun H locs hP hD hS => ?_)
  have hP : va_P D vwCl [(h0, .inr (6, [.ref pg, .ref bk, .ref fg, .ref og, .ref lg, .int 0, .int o2, .int 0, .int o4, .int (o5 + 1)]))] H := hP
  have hD : va_D A [(h0, .inr (6, [.ref pg, .ref bk, .ref fg, .ref og, .ref lg, .int 0, .int o2, .int 0, .int o4, .int (o5 + 1)]))] := hD
  exact hret _ _ _ _ _ _ () dX6_noteNewGraph_20 hS (Nat.le_of_ble_eq_true rfl) (Nat.le_of_ble_eq_true rfl) trivial (hP.sub [0] rfl) (hD.sub [0] rfl rfl)
set_option maxHeartbeats 4000000 in
set_option maxRecDepth 100000 in
theorem c_X6_begin (sz : Nat) (h0 : Nat) (pg : Nat) (bk : Nat) (fg : Nat) (og : Nat) (lg : Nat) (f1 : Nat) (f2 : Nat) (f3 : Nat) (p0 : Int32)  : CTi l D cI cJ cZ cR yX6_begin cX6_begin 2 (some .int) 2 47 0 0 sz [.ref h0, .int p0] [(h0, .inr (6, [.ref pg, .ref bk, .ref fg, .ref og, .ref lg, .int 0, .int 0, .int 0, .int 0, .int 0])), (fg, .inr (0, [.ref f1, .ref f2, .ref f3, .int 0, .int 0])), (f1, .inl (cI, 12, .inl (fun _ => 0))), (f2, .inl (cI, 12, .inl (fun _ => 0))), (f3, .inl (cI, 12, .inl (fun _ => 0)))] (fun (r : Int32) (u : Unit) => (r = (if p0 < 0 then -1001 else if 3 ≤ p0 then -1001 else 1))) (fun (u : Unit) => []) := by
  refine CTi.of (ty := .int) (by decide) (Nat.le_of_ble_eq_true rfl) rfl ?_
  intro p e s m below meth c A Q ls hd hin hK hsz hP hD hA hS hl hret
  obtain ⟨hx, hb, hml, hown, hts⟩ := id hd
  have hK1 := hK.1
  have hown : s.vm.findClass RX6 = some m.cls := hown
  have hl : lv_has ls 2 [(0, .ref h0), (1, .int p0)] := hl
  refine lv_iload_n hx hb dX6_begin_0 rfl (lv_at hl 1 rfl) ?_
  refine xc_i (wc := []) (wr := [(h0, .inr (6, [.ref pg, .ref bk, .ref fg, .ref og, .ref lg, .int 0, .int 0, .int 0, .int 0, .int 0])), (fg, .inr (0, [.ref f1, .ref f2, .ref f3, .int 0, .int 0])), (f1, .inl (cI, 12, .inl (fun _ => 0))), (f2, .inl (cI, 12, .inl (fun _ => 0))), (f3, .inl (cI, 12, .inl (fun _ => 0)))]) (xrS (n := 1) (As := [.int p0]) (rest := []) hd hK hP hD (c_X6_isOpen l D cI cJ cZ cR _ p0 ) (gS t_341 mS_X6_isOpen) hS_X6_isOpen ⟨(Nat.le_of_ble_eq_true rfl), (Nat.le_of_ble_eq_true rfl)⟩ [] rfl rfl rfl hl.1 rfl (Nat.le_of_ble_eq_true rfl) dX6_begin_1 ⟨(Nat.le_of_ble_eq_true rfl), (Nat.le_of_ble_eq_true rfl)⟩) hP hD hS hA [] [0, 1, 2, 3, 4] rfl rfl rfl (by decide) (fun r_1 u_2 H locs hw_3 hP hD hS => ?_)
  have hw_4 : r_1 = (if p0 < 0 then 0 else if 3 ≤ p0 then 0 else 1) := hw_3
  subst hw_4
  have hP : va_P D vwCl [(h0, .inr (6, [.ref pg, .ref bk, .ref fg, .ref og, .ref lg, .int 0, .int 0, .int 0, .int 0, .int 0])), (fg, .inr (0, [.ref f1, .ref f2, .ref f3, .int 0, .int 0])), (f1, .inl (cI, 12, .inl (fun _ => 0))), (f2, .inl (cI, 12, .inl (fun _ => 0))), (f3, .inl (cI, 12, .inl (fun _ => 0)))] H := hP
  have hD : va_D A [(h0, .inr (6, [.ref pg, .ref bk, .ref fg, .ref og, .ref lg, .int 0, .int 0, .int 0, .int 0, .int 0])), (fg, .inr (0, [.ref f1, .ref f2, .ref f3, .int 0, .int 0])), (f1, .inl (cI, 12, .inl (fun _ => 0))), (f2, .inl (cI, 12, .inl (fun _ => 0))), (f3, .inl (cI, 12, .inl (fun _ => 0)))] := hD
  refine lv_if_ne (tgt := 11) hx hb dX6_begin_4 (by decide) (fun c_5 => ?_) (fun c_5 => ?_)
  · skip
    refine lv_aload_n hx hb dX6_begin_11 rfl (lv_at hl 0 rfl) ?_
    refine va_get (D := D) (ci := 6) (v := .ref fg) (C := RX6) (T := TX6) (N := 10) hx hb hts iT_X6 hown hK1 hP 0 rfl rfl 2 (by decide) (hts _ t_156) (fun _ h9 => h9) rfl dX6_begin_12 ?_
    refine lv_iconst (v := 2) hx hb dX6_begin_15 (by decide) ?_
    refine xc_v (wc := [(fg, .inr (0, [.ref f1, .ref f2, .ref f3, .int 0, .int 0]))]) (wr := [(h0, .inr (6, [.ref pg, .ref bk, .ref fg, .ref og, .ref lg, .int 0, .int 0, .int 0, .int 0, .int 0])), (f1, .inl (cI, 12, .inl (fun _ => 0))), (f2, .inl (cI, 12, .inl (fun _ => 0))), (f3, .inl (cI, 12, .inl (fun _ => 0)))]) (xrV (n := 1) (As := [.int 2]) (rest := []) (ci := 0) (q0 := 1) hd hK hP hD (c_X0_clear l D cI cJ cZ cR _ fg f1 f2 f3 0 0 2 ) (gV t_342 mV_X0_clear) hV_X0_clear ⟨(Nat.le_of_ble_eq_true rfl), (Nat.le_of_ble_eq_true rfl)⟩ rfl rfl [1] rfl rfl rfl hl.1 rfl (Nat.le_of_ble_eq_true rfl) dX6_begin_16 ⟨(Nat.le_of_ble_eq_true rfl), (Nat.le_of_ble_eq_true rfl)⟩) hP hD hS hA [1] [0, 2, 3, 4] rfl rfl rfl (by decide) (fun u_7 H locs hw_8 hP hD hS => ?_)
    have hP : va_P D vwCl [(h0, .inr (6, [.ref pg, .ref bk, .ref fg, .ref og, .ref lg, .int 0, .int 0, .int 0, .int 0, .int 0])), (f1, .inl (cI, 12, .inl (fun _ => 0))), (f2, .inl (cI, 12, .inl (fun _ => 0))), (f3, .inl (cI, 12, .inl (fun _ => 0))), (fg, .inr (0, [.ref f1, .ref f2, .ref f3, .int 0, .int 2]))] H := hP
    have hD : va_D A [(h0, .inr (6, [.ref pg, .ref bk, .ref fg, .ref og, .ref lg, .int 0, .int 0, .int 0, .int 0, .int 0])), (f1, .inl (cI, 12, .inl (fun _ => 0))), (f2, .inl (cI, 12, .inl (fun _ => 0))), (f3, .inl (cI, 12, .inl (fun _ => 0))), (fg, .inr (0, [.ref f1, .ref f2, .ref f3, .int 0, .int 2]))] := hD
    refine lv_aload_n hx hb dX6_begin_19 rfl (lv_at hl 0 rfl) ?_
    refine va_get (D := D) (ci := 6) (v := .ref fg) (C := RX6) (T := TX6) (N := 10) hx hb hts iT_X6 hown hK1 hP 0 rfl rfl 2 (by decide) (hts _ t_156) (fun _ h9 => h9) rfl dX6_begin_20 ?_
    refine lv_iload_n hx hb dX6_begin_23 rfl (lv_at hl 1 rfl) ?_
    refine lv_iconst (v := 0) hx hb dX6_begin_24 (by decide) ?_
    refine lv_iconst (v := 1) hx hb dX6_begin_25 (by decide) ?_
    refine xc_v (wc := [(fg, .inr (0, [.ref f1, .ref f2, .ref f3, .int 0, .int 2])), (f1, .inl (cI, 12, .inl (fun _ => 0))), (f2, .inl (cI, 12, .inl (fun _ => 0))), (f3, .inl (cI, 12, .inl (fun _ => 0)))]) (wr := [(h0, .inr (6, [.ref pg, .ref bk, .ref fg, .ref og, .ref lg, .int 0, .int 0, .int 0, .int 0, .int 0]))]) (xrV (n := 3) (As := [.int p0, .int 0, .int 1]) (rest := []) (ci := 0) (q0 := 4) hd hK hP hD (c_X0_append l D cI cJ cZ cR _ fg f1 f2 f3 2 p0 0 1 (fun _ => 0) (fun _ => 0) (fun _ => 0) ) (gV t_343 mV_X0_append) hV_X0_append ⟨(Nat.le_of_ble_eq_true rfl), (Nat.le_of_ble_eq_true rfl)⟩ rfl rfl [4, 1, 2, 3] rfl rfl rfl hl.1 rfl (Nat.le_of_ble_eq_true rfl) dX6_begin_26 ⟨(Nat.le_of_ble_eq_true rfl), (Nat.le_of_ble_eq_true rfl)⟩) hP hD hS hA [4, 1, 2, 3] [0] rfl rfl rfl (by decide) (fun u_10 H locs hw_11 hP hD hS => ?_)
    have hP : va_P D vwCl [(h0, .inr (6, [.ref pg, .ref bk, .ref fg, .ref og, .ref lg, .int 0, .int 0, .int 0, .int 0, .int 0])), (fg, .inr (0, [.ref f1, .ref f2, .ref f3, .int 1, .int 2])), (f1, .inl (cI, 12, .inl (upd (fun _ => 0) 0 p0))), (f2, .inl (cI, 12, .inl (upd (fun _ => 0) 0 0))), (f3, .inl (cI, 12, .inl (upd (fun _ => 0) 0 1)))] H := hP
    have hD : va_D A [(h0, .inr (6, [.ref pg, .ref bk, .ref fg, .ref og, .ref lg, .int 0, .int 0, .int 0, .int 0, .int 0])), (fg, .inr (0, [.ref f1, .ref f2, .ref f3, .int 1, .int 2])), (f1, .inl (cI, 12, .inl (upd (fun _ => 0) 0 p0))), (f2, .inl (cI, 12, .inl (upd (fun _ => 0) 0 0))), (f3, .inl (cI, 12, .inl (upd (fun _ => 0) 0 1)))] := hD
    refine lv_aload_n hx hb dX6_begin_29 rfl (lv_at hl 0 rfl) ?_
    refine xc_v (wc := [(h0, .inr (6, [.ref pg, .ref bk, .ref fg, .ref og, .ref lg, .int 0, .int 0, .int 0, .int 0, .int 0]))]) (wr := [(fg, .inr (0, [.ref f1, .ref f2, .ref f3, .int 1, .int 2])), (f1, .inl (cI, 12, .inl (upd (fun _ => 0) 0 p0))), (f2, .inl (cI, 12, .inl (upd (fun _ => 0) 0 0))), (f3, .inl (cI, 12, .inl (upd (fun _ => 0) 0 1)))]) (xrV (n := 0) (As := []) (rest := []) (ci := 6) (q0 := 0) hd hK hP hD (c_X6_noteNewGraph l D cI cJ cZ cR _ h0 pg bk fg og lg 0 0 0 0 0 ) (gV t_324 mV_X6_noteNewGraph) hV_X6_noteNewGraph ⟨(Nat.le_of_ble_eq_true rfl), (Nat.le_of_ble_eq_true rfl)⟩ rfl rfl [0] rfl rfl rfl hl.1 rfl (Nat.le_of_ble_eq_true rfl) dX6_begin_30 ⟨(Nat.le_of_ble_eq_true rfl), (Nat.le_of_ble_eq_true rfl)⟩) hP hD hS hA [0] [1, 2, 3, 4] rfl rfl rfl (by decide) (fun u_13 H locs hw_14 hP hD hS => ?_)
    have hP : va_P D vwCl [(fg, .inr (0, [.ref f1, .ref f2, .ref f3, .int 1, .int 2])), (f1, .inl (cI, 12, .inl (upd (fun _ => 0) 0 p0))), (f2, .inl (cI, 12, .inl (upd (fun _ => 0) 0 0))), (f3, .inl (cI, 12, .inl (upd (fun _ => 0) 0 1))), (h0, .inr (6, [.ref pg, .ref bk, .ref fg, .ref og, .ref lg, .int 0, .int 0, .int 0, .int 0, .int (0 + 1)]))] H := hP
    have hD : va_D A [(fg, .inr (0, [.ref f1, .ref f2, .ref f3, .int 1, .int 2])), (f1, .inl (cI, 12, .inl (upd (fun _ => 0) 0 p0))), (f2, .inl (cI, 12, .inl (upd (fun _ => 0) 0 0))), (f3, .inl (cI, 12, .inl (upd (fun _ => 0) 0 1))), (h0, .inr (6, [.ref pg, .ref bk, .ref fg, .ref og, .ref lg, .int 0, .int 0, .int 0, .int 0, .int (0 + 1)]))] := hD
    refine lv_aload_n hx hb dX6_begin_33 rfl (lv_at hl 0 rfl) ?_
    refine va_get (D := D) (ci := 6) (v := .ref fg) (C := RX6) (T := TX6) (N := 10) hx hb hts iT_X6 hown hK1 hP 4 rfl rfl 2 (by decide) (hts _ t_156) (fun _ h9 => h9) rfl dX6_begin_34 ?_
    refine va_get (D := D) (ci := 0) (v := .int 1) (C := RX0) (T := TX0) (N := 5) hx hb hts iT_X0 hown hK1 hP 0 rfl rfl 3 (by decide) (hts _ t_64) (fun _ h9 => h9) rfl dX6_begin_37 ?_
    exact hret _ _ _ _ _ _ 1 () dX6_begin_40 rfl hS (Nat.le_of_ble_eq_true rfl) (Nat.le_of_ble_eq_true rfl) (opn_few2 c_5) (hP.sub [] rfl) (hD.sub [] rfl rfl)
  · skip
    refine lv_sipush (v := -1001) hx hb dX6_begin_7 (by decide) ?_
    exact hret _ _ _ _ _ _ (-1001) () dX6_begin_10 rfl hS (Nat.le_of_ble_eq_true rfl) (Nat.le_of_ble_eq_true rfl) (opn_few c_5) (hP.sub [] rfl) (hD.sub [] rfl rfl)
end
