theorem mS_X7_within : Cond.static yX7_within ∈ gT ∧ Cond.initialized yX7_within.cls ∈ gT ∧ Cond.code yX7_within cX7_within 3 (some .boolean) ∈ gT := ⟨t_638, t_8, t_639⟩
theorem hS_X7_within : yX7_within.cls ≠ "java/lang/invoke/MethodHandle" ∧ yX7_within.cls ≠ "java/lang/invoke/VarHandle" ∧ (parseMethodDescriptor yX7_within.desc).map (fun d => d.parameters.length) = some 3 := by decide +kernel
theorem mV_X7_letter : Cond.instanceMethod yX7_letter ∈ gT ∧ Cond.selects RX7 yX7_letter yX7_letter ∈ gT ∧ Cond.initialized RX7 ∈ gT ∧ Cond.code yX7_letter cX7_letter 2 (some .int) ∈ gT := ⟨t_634, t_635, t_8, t_636⟩
theorem hV_X7_letter : yX7_letter.cls = RX7 ∧ yX7_letter.cls ≠ "java/lang/invoke/MethodHandle" ∧ yX7_letter.cls ≠ "java/lang/invoke/VarHandle" ∧ (parseMethodDescriptor yX7_letter.desc).map (fun d => d.parameters.length) = some 1 := by decide +kernel
theorem mV_X7_blank : Cond.instanceMethod yX7_blank ∈ gT ∧ Cond.selects RX7 yX7_blank yX7_blank ∈ gT ∧ Cond.initialized RX7 ∈ gT ∧ Cond.code yX7_blank cX7_blank 2 (some .int) ∈ gT := ⟨t_641, t_642, t_8, t_643⟩
theorem hV_X7_blank : yX7_blank.cls = RX7 ∧ yX7_blank.cls ≠ "java/lang/invoke/MethodHandle" ∧ yX7_blank.cls ≠ "java/lang/invoke/VarHandle" ∧ (parseMethodDescriptor yX7_blank.desc).map (fun d => d.parameters.length) = some 0 := by decide +kernel
theorem mV_X7_read : Cond.instanceMethod yX7_read ∈ gT ∧ Cond.selects RX7 yX7_read yX7_read ∈ gT ∧ Cond.initialized RX7 ∈ gT ∧ Cond.code yX7_read cX7_read 3 (some .int) ∈ gT := ⟨t_650, ts_28, t_8, t_651⟩
theorem hV_X7_read : yX7_read.cls = RX7 ∧ yX7_read.cls ≠ "java/lang/invoke/MethodHandle" ∧ yX7_read.cls ≠ "java/lang/invoke/VarHandle" ∧ (parseMethodDescriptor yX7_read.desc).map (fun d => d.parameters.length) = some 1 := by decide +kernel
theorem mV_X7_fault : Cond.instanceMethod yX7_fault ∈ gT ∧ Cond.selects RX7 yX7_fault yX7_fault ∈ gT ∧ Cond.initialized RX7 ∈ gT ∧ Cond.code yX7_fault cX7_fault 2 (some .int) ∈ gT := ⟨t_645, t_646, t_8, t_647⟩
theorem hV_X7_fault : yX7_fault.cls = RX7 ∧ yX7_fault.cls ≠ "java/lang/invoke/MethodHandle" ∧ yX7_fault.cls ≠ "java/lang/invoke/VarHandle" ∧ (parseMethodDescriptor yX7_fault.desc).map (fun d => d.parameters.length) = some 1 := by decide +kernel
theorem mV_X7_isWhole : Cond.instanceMethod yX7_isWhole ∈ gT ∧ Cond.selects RX7 yX7_isWhole yX7_isWhole ∈ gT ∧ Cond.initialized RX7 ∈ gT ∧ Cond.code yX7_isWhole cX7_isWhole 2 (some .boolean) ∈ gT := ⟨t_669, ts_31, t_8, t_670⟩
theorem hV_X7_isWhole : yX7_isWhole.cls = RX7 ∧ yX7_isWhole.cls ≠ "java/lang/invoke/MethodHandle" ∧ yX7_isWhole.cls ≠ "java/lang/invoke/VarHandle" ∧ (parseMethodDescriptor yX7_isWhole.desc).map (fun d => d.parameters.length) = some 1 := by decide +kernel
theorem mV_X7_rule : Cond.instanceMethod yX7_rule ∈ gT ∧ Cond.selects RX7 yX7_rule yX7_rule ∈ gT ∧ Cond.initialized RX7 ∈ gT ∧ Cond.code yX7_rule cX7_rule 3 (some .int) ∈ gT := ⟨t_664, t_665, t_8, t_666⟩
theorem hV_X7_rule : yX7_rule.cls = RX7 ∧ yX7_rule.cls ≠ "java/lang/invoke/MethodHandle" ∧ yX7_rule.cls ≠ "java/lang/invoke/VarHandle" ∧ (parseMethodDescriptor yX7_rule.desc).map (fun d => d.parameters.length) = some 0 := by decide +kernel
theorem mV_X7_graph : Cond.instanceMethod yX7_graph ∈ gT ∧ Cond.selects RX7 yX7_graph yX7_graph ∈ gT ∧ Cond.initialized RX7 ∈ gT ∧ Cond.code yX7_graph cX7_graph 3 (some .int) ∈ gT := ⟨t_690, t_691, t_8, t_692⟩
theorem hV_X7_graph : yX7_graph.cls = RX7 ∧ yX7_graph.cls ≠ "java/lang/invoke/MethodHandle" ∧ yX7_graph.cls ≠ "java/lang/invoke/VarHandle" ∧ (parseMethodDescriptor yX7_graph.desc).map (fun d => d.parameters.length) = some 0 := by decide +kernel
theorem mV_X7_isRule : Cond.instanceMethod yX7_isRule ∈ gT ∧ Cond.selects RX7 yX7_isRule yX7_isRule ∈ gT ∧ Cond.initialized RX7 ∈ gT ∧ Cond.code yX7_isRule cX7_isRule 2 (some .boolean) ∈ gT := ⟨t_687, ts_33, t_8, t_688⟩
theorem hV_X7_isRule : yX7_isRule.cls = RX7 ∧ yX7_isRule.cls ≠ "java/lang/invoke/MethodHandle" ∧ yX7_isRule.cls ≠ "java/lang/invoke/VarHandle" ∧ (parseMethodDescriptor yX7_isRule.desc).map (fun d => d.parameters.length) = some 1 := by decide +kernel
theorem mV_X7_isEdge : Cond.instanceMethod yX7_isEdge ∈ gT ∧ Cond.selects RX7 yX7_isEdge yX7_isEdge ∈ gT ∧ Cond.initialized RX7 ∈ gT ∧ Cond.code yX7_isEdge cX7_isEdge 2 (some .boolean) ∈ gT := ⟨t_711, ts_35, t_8, t_712⟩
theorem hV_X7_isEdge : yX7_isEdge.cls = RX7 ∧ yX7_isEdge.cls ≠ "java/lang/invoke/MethodHandle" ∧ yX7_isEdge.cls ≠ "java/lang/invoke/VarHandle" ∧ (parseMethodDescriptor yX7_isEdge.desc).map (fun d => d.parameters.length) = some 1 := by decide +kernel
theorem mV_X7_drop : Cond.instanceMethod yX7_drop ∈ gT ∧ Cond.selects RX7 yX7_drop yX7_drop ∈ gT ∧ Cond.initialized RX7 ∈ gT ∧ Cond.code yX7_drop cX7_drop 4 (some .int) ∈ gT := ⟨t_682, t_683, t_8, t_684⟩
theorem hV_X7_drop : yX7_drop.cls = RX7 ∧ yX7_drop.cls ≠ "java/lang/invoke/MethodHandle" ∧ yX7_drop.cls ≠ "java/lang/invoke/VarHandle" ∧ (parseMethodDescriptor yX7_drop.desc).map (fun d => d.parameters.length) = some 1 := by decide +kernel
theorem mV_X7_of : Cond.instanceMethod yX7_of ∈ gT ∧ Cond.selects RX7 yX7_of yX7_of ∈ gT ∧ Cond.initialized RX7 ∈ gT ∧ Cond.code yX7_of cX7_of 3 (some .int) ∈ gT := ⟨t_694, t_695, t_8, t_696⟩
theorem hV_X7_of : yX7_of.cls = RX7 ∧ yX7_of.cls ≠ "java/lang/invoke/MethodHandle" ∧ yX7_of.cls ≠ "java/lang/invoke/VarHandle" ∧ (parseMethodDescriptor yX7_of.desc).map (fun d => d.parameters.length) = some 2 := by decide +kernel
theorem mV_X7_step : Cond.instanceMethod yX7_step ∈ gT ∧ Cond.selects RX7 yX7_step yX7_step ∈ gT ∧ Cond.initialized RX7 ∈ gT ∧ Cond.code yX7_step cX7_step 7 (some .int) ∈ gT := ⟨t_706, t_707, t_8, t_708⟩
theorem hV_X7_step : yX7_step.cls = RX7 ∧ yX7_step.cls ≠ "java/lang/invoke/MethodHandle" ∧ yX7_step.cls ≠ "java/lang/invoke/VarHandle" ∧ (parseMethodDescriptor yX7_step.desc).map (fun d => d.parameters.length) = some 2 := by decide +kernel
theorem mV_X7_edge : Cond.instanceMethod yX7_edge ∈ gT ∧ Cond.selects RX7 yX7_edge yX7_edge ∈ gT ∧ Cond.initialized RX7 ∈ gT ∧ Cond.code yX7_edge cX7_edge 2 (some .int) ∈ gT := ⟨t_727, t_728, t_8, t_729⟩
theorem hV_X7_edge : yX7_edge.cls = RX7 ∧ yX7_edge.cls ≠ "java/lang/invoke/MethodHandle" ∧ yX7_edge.cls ≠ "java/lang/invoke/VarHandle" ∧ (parseMethodDescriptor yX7_edge.desc).map (fun d => d.parameters.length) = some 1 := by decide +kernel
theorem mV_X7_altered : Cond.instanceMethod yX7_altered ∈ gT ∧ Cond.selects RX7 yX7_altered yX7_altered ∈ gT ∧ Cond.initialized RX7 ∈ gT ∧ Cond.code yX7_altered cX7_altered 1 none ∈ gT := ⟨t_679, ts_32, t_8, t_680⟩
theorem hV_X7_altered : yX7_altered.cls = RX7 ∧ yX7_altered.cls ≠ "java/lang/invoke/MethodHandle" ∧ yX7_altered.cls ≠ "java/lang/invoke/VarHandle" ∧ (parseMethodDescriptor yX7_altered.desc).map (fun d => d.parameters.length) = some 0 := by decide +kernel
theorem mV_X7_begin : Cond.instanceMethod yX7_begin ∈ gT ∧ Cond.selects RX7 yX7_begin yX7_begin ∈ gT ∧ Cond.initialized RX7 ∈ gT ∧ Cond.code yX7_begin cX7_begin 2 (some .int) ∈ gT := ⟨t_702, t_703, t_8, t_704⟩
theorem hV_X7_begin : yX7_begin.cls = RX7 ∧ yX7_begin.cls ≠ "java/lang/invoke/MethodHandle" ∧ yX7_begin.cls ≠ "java/lang/invoke/VarHandle" ∧ (parseMethodDescriptor yX7_begin.desc).map (fun d => d.parameters.length) = some 1 := by decide +kernel
theorem mV_X7_opens : Cond.instanceMethod yX7_opens ∈ gT ∧ Cond.selects RX7 yX7_opens yX7_opens ∈ gT ∧ Cond.initialized RX7 ∈ gT ∧ Cond.code yX7_opens cX7_opens 3 (some .int) ∈ gT := ⟨t_740, ts_38, t_8, t_741⟩
theorem hV_X7_opens : yX7_opens.cls = RX7 ∧ yX7_opens.cls ≠ "java/lang/invoke/MethodHandle" ∧ yX7_opens.cls ≠ "java/lang/invoke/VarHandle" ∧ (parseMethodDescriptor yX7_opens.desc).map (fun d => d.parameters.length) = some 0 := by decide +kernel
theorem mV_X7_isDone : Cond.instanceMethod yX7_isDone ∈ gT ∧ Cond.selects RX7 yX7_isDone yX7_isDone ∈ gT ∧ Cond.initialized RX7 ∈ gT ∧ Cond.code yX7_isDone cX7_isDone 1 (some .boolean) ∈ gT := ⟨t_736, ts_37, t_8, t_737⟩
theorem hV_X7_isDone : yX7_isDone.cls = RX7 ∧ yX7_isDone.cls ≠ "java/lang/invoke/MethodHandle" ∧ yX7_isDone.cls ≠ "java/lang/invoke/VarHandle" ∧ (parseMethodDescriptor yX7_isDone.desc).map (fun d => d.parameters.length) = some 0 := by decide +kernel
theorem mV_X7_kind : Cond.instanceMethod yX7_kind ∈ gT ∧ Cond.selects RX7 yX7_kind yX7_kind ∈ gT ∧ Cond.initialized RX7 ∈ gT ∧ Cond.code yX7_kind cX7_kind 1 (some .int) ∈ gT := ⟨t_731, t_732, t_8, t_733⟩
theorem hV_X7_kind : yX7_kind.cls = RX7 ∧ yX7_kind.cls ≠ "java/lang/invoke/MethodHandle" ∧ yX7_kind.cls ≠ "java/lang/invoke/VarHandle" ∧ (parseMethodDescriptor yX7_kind.desc).map (fun d => d.parameters.length) = some 0 := by decide +kernel
theorem mV_X7_fewestNow : Cond.instanceMethod yX7_fewestNow ∈ gT ∧ Cond.selects RX7 yX7_fewestNow yX7_fewestNow ∈ gT ∧ Cond.initialized RX7 ∈ gT ∧ Cond.code yX7_fewestNow cX7_fewestNow 3 (some .int) ∈ gT := ⟨t_760, ts_42, t_8, t_761⟩
theorem hV_X7_fewestNow : yX7_fewestNow.cls = RX7 ∧ yX7_fewestNow.cls ≠ "java/lang/invoke/MethodHandle" ∧ yX7_fewestNow.cls ≠ "java/lang/invoke/VarHandle" ∧ (parseMethodDescriptor yX7_fewestNow.desc).map (fun d => d.parameters.length) = some 1 := by decide +kernel
theorem mV_X7_fewest : Cond.instanceMethod yX7_fewest ∈ gT ∧ Cond.selects RX7 yX7_fewest yX7_fewest ∈ gT ∧ Cond.initialized RX7 ∈ gT ∧ Cond.code yX7_fewest cX7_fewest 2 (some .int) ∈ gT := ⟨t_755, t_756, t_8, t_757⟩
theorem hV_X7_fewest : yX7_fewest.cls = RX7 ∧ yX7_fewest.cls ≠ "java/lang/invoke/MethodHandle" ∧ yX7_fewest.cls ≠ "java/lang/invoke/VarHandle" ∧ (parseMethodDescriptor yX7_fewest.desc).map (fun d => d.parameters.length) = some 1 := by decide +kernel
theorem mS_X7_classOf : Cond.static yX7_classOf ∈ gT ∧ Cond.initialized yX7_classOf.cls ∈ gT ∧ Cond.code yX7_classOf cX7_classOf 1 (some .int) ∈ gT := ⟨t_823, t_8, t_824⟩
theorem hS_X7_classOf : yX7_classOf.cls ≠ "java/lang/invoke/MethodHandle" ∧ yX7_classOf.cls ≠ "java/lang/invoke/VarHandle" ∧ (parseMethodDescriptor yX7_classOf.desc).map (fun d => d.parameters.length) = some 1 := by decide +kernel
theorem mV_X7_layLights : Cond.instanceMethod yX7_layLights ∈ gT ∧ Cond.selects RX7 yX7_layLights yX7_layLights ∈ gT ∧ Cond.initialized RX7 ∈ gT ∧ Cond.code yX7_layLights cX7_layLights 3 none ∈ gT := ⟨t_820, ts_55, t_8, t_821⟩
theorem hV_X7_layLights : yX7_layLights.cls = RX7 ∧ yX7_layLights.cls ≠ "java/lang/invoke/MethodHandle" ∧ yX7_layLights.cls ≠ "java/lang/invoke/VarHandle" ∧ (parseMethodDescriptor yX7_layLights.desc).map (fun d => d.parameters.length) = some 0 := by decide +kernel
theorem mV_X7_kindsNow : Cond.instanceMethod yX7_kindsNow ∈ gT ∧ Cond.selects RX7 yX7_kindsNow yX7_kindsNow ∈ gT ∧ Cond.initialized RX7 ∈ gT ∧ Cond.code yX7_kindsNow cX7_kindsNow 4 (some .int) ∈ gT := ⟨t_816, ts_54, t_8, t_817⟩
theorem hV_X7_kindsNow : yX7_kindsNow.cls = RX7 ∧ yX7_kindsNow.cls ≠ "java/lang/invoke/MethodHandle" ∧ yX7_kindsNow.cls ≠ "java/lang/invoke/VarHandle" ∧ (parseMethodDescriptor yX7_kindsNow.desc).map (fun d => d.parameters.length) = some 1 := by decide +kernel
theorem mV_X7_lightNow : Cond.instanceMethod yX7_lightNow ∈ gT ∧ Cond.selects RX7 yX7_lightNow yX7_lightNow ∈ gT ∧ Cond.initialized RX7 ∈ gT ∧ Cond.code yX7_lightNow cX7_lightNow 5 (some .int) ∈ gT := ⟨t_848, ts_60, t_8, t_849⟩
theorem hV_X7_lightNow : yX7_lightNow.cls = RX7 ∧ yX7_lightNow.cls ≠ "java/lang/invoke/MethodHandle" ∧ yX7_lightNow.cls ≠ "java/lang/invoke/VarHandle" ∧ (parseMethodDescriptor yX7_lightNow.desc).map (fun d => d.parameters.length) = some 3 := by decide +kernel
theorem mV_X7_kinds : Cond.instanceMethod yX7_kinds ∈ gT ∧ Cond.selects RX7 yX7_kinds yX7_kinds ∈ gT ∧ Cond.initialized RX7 ∈ gT ∧ Cond.code yX7_kinds cX7_kinds 2 (some .int) ∈ gT := ⟨t_811, t_812, t_8, t_813⟩
theorem hV_X7_kinds : yX7_kinds.cls = RX7 ∧ yX7_kinds.cls ≠ "java/lang/invoke/MethodHandle" ∧ yX7_kinds.cls ≠ "java/lang/invoke/VarHandle" ∧ (parseMethodDescriptor yX7_kinds.desc).map (fun d => d.parameters.length) = some 1 := by decide +kernel
theorem mV_X7_light : Cond.instanceMethod yX7_light ∈ gT ∧ Cond.selects RX7 yX7_light yX7_light ∈ gT ∧ Cond.initialized RX7 ∈ gT ∧ Cond.code yX7_light cX7_light 4 (some .int) ∈ gT := ⟨t_843, t_844, t_8, t_845⟩
theorem hV_X7_light : yX7_light.cls = RX7 ∧ yX7_light.cls ≠ "java/lang/invoke/MethodHandle" ∧ yX7_light.cls ≠ "java/lang/invoke/VarHandle" ∧ (parseMethodDescriptor yX7_light.desc).map (fun d => d.parameters.length) = some 3 := by decide +kernel
theorem mV_X7_howMany : Cond.instanceMethod yX7_howMany ∈ gT ∧ Cond.selects RX7 yX7_howMany yX7_howMany ∈ gT ∧ Cond.initialized RX7 ∈ gT ∧ Cond.code yX7_howMany cX7_howMany 2 (some .int) ∈ gT := ⟨t_856, ts_61, t_8, t_857⟩
theorem hV_X7_howMany : yX7_howMany.cls = RX7 ∧ yX7_howMany.cls ≠ "java/lang/invoke/MethodHandle" ∧ yX7_howMany.cls ≠ "java/lang/invoke/VarHandle" ∧ (parseMethodDescriptor yX7_howMany.desc).map (fun d => d.parameters.length) = some 1 := by decide +kernel
theorem mV_X7_count : Cond.instanceMethod yX7_count ∈ gT ∧ Cond.selects RX7 yX7_count yX7_count ∈ gT ∧ Cond.initialized RX7 ∈ gT ∧ Cond.code yX7_count cX7_count 2 (some .int) ∈ gT := ⟨t_851, t_852, t_8, t_853⟩
theorem hV_X7_count : yX7_count.cls = RX7 ∧ yX7_count.cls ≠ "java/lang/invoke/MethodHandle" ∧ yX7_count.cls ≠ "java/lang/invoke/VarHandle" ∧ (parseMethodDescriptor yX7_count.desc).map (fun d => d.parameters.length) = some 1 := by decide +kernel
theorem mV_X7_mix : Cond.instanceMethod yX7_mix ∈ gT ∧ Cond.selects RX7 yX7_mix yX7_mix ∈ gT ∧ Cond.initialized RX7 ∈ gT ∧ Cond.code yX7_mix cX7_mix 3 none ∈ gT := ⟨t_865, ts_62, t_8, t_866⟩
theorem hV_X7_mix : yX7_mix.cls = RX7 ∧ yX7_mix.cls ≠ "java/lang/invoke/MethodHandle" ∧ yX7_mix.cls ≠ "java/lang/invoke/VarHandle" ∧ (parseMethodDescriptor yX7_mix.desc).map (fun d => d.parameters.length) = some 1 := by decide +kernel
theorem mV_X7_mixOpen : Cond.instanceMethod yX7_mixOpen ∈ gT ∧ Cond.selects RX7 yX7_mixOpen yX7_mixOpen ∈ gT ∧ Cond.initialized RX7 ∈ gT ∧ Cond.code yX7_mixOpen cX7_mixOpen 3 none ∈ gT := ⟨t_871, ts_63, t_8, t_872⟩
theorem hV_X7_mixOpen : yX7_mixOpen.cls = RX7 ∧ yX7_mixOpen.cls ≠ "java/lang/invoke/MethodHandle" ∧ yX7_mixOpen.cls ≠ "java/lang/invoke/VarHandle" ∧ (parseMethodDescriptor yX7_mixOpen.desc).map (fun d => d.parameters.length) = some 1 := by decide +kernel
theorem dX7_altered_0 : decode cX7_altered 0 = .ok (.aload_n 0, 1) := by decide +kernel
theorem dX7_altered_1 : decode cX7_altered 1 = .ok (.iconst 0, 1) := by decide +kernel
theorem dX7_altered_2 : decode cX7_altered 2 = .ok (.putfield 159, 3) := by decide +kernel
theorem dX7_altered_5 : decode cX7_altered 5 = .ok (.aload_n 0, 1) := by decide +kernel
theorem dX7_altered_6 : decode cX7_altered 6 = .ok (.iconst 0, 1) := by decide +kernel
theorem dX7_altered_7 : decode cX7_altered 7 = .ok (.putfield 163, 3) := by decide +kernel
theorem dX7_altered_10 : decode cX7_altered 10 = .ok (.return_, 1) := by decide +kernel
theorem dX7_begin_0 : decode cX7_begin 0 = .ok (.iload_n 1, 1) := by decide +kernel
theorem dX7_begin_1 : decode cX7_begin 1 = .ok (.iconst 0, 1) := by decide +kernel
theorem dX7_begin_2 : decode cX7_begin 2 = .ok (.iconst 2, 1) := by decide +kernel
theorem dX7_begin_3 : decode cX7_begin 3 = .ok (.invokestatic 50, 3) := by decide +kernel
theorem dX7_begin_6 : decode cX7_begin 6 = .ok (.ifCond .ne 7, 3) := by decide +kernel
theorem dX7_begin_9 : decode cX7_begin 9 = .ok (.sipush (-1001), 3) := by decide +kernel
theorem dX7_begin_12 : decode cX7_begin 12 = .ok (.ireturn, 1) := by decide +kernel
theorem dX7_begin_13 : decode cX7_begin 13 = .ok (.aload_n 0, 1) := by decide +kernel
theorem dX7_begin_14 : decode cX7_begin 14 = .ok (.iconst 1, 1) := by decide +kernel
theorem dX7_begin_15 : decode cX7_begin 15 = .ok (.putfield 108, 3) := by decide +kernel
theorem dX7_begin_18 : decode cX7_begin 18 = .ok (.aload_n 0, 1) := by decide +kernel
theorem dX7_begin_19 : decode cX7_begin 19 = .ok (.iconst 2, 1) := by decide +kernel
theorem dX7_begin_20 : decode cX7_begin 20 = .ok (.putfield 111, 3) := by decide +kernel
theorem dX7_begin_23 : decode cX7_begin 23 = .ok (.aload_n 0, 1) := by decide +kernel
theorem dX7_begin_24 : decode cX7_begin 24 = .ok (.getfield 25, 3) := by decide +kernel
theorem dX7_begin_27 : decode cX7_begin 27 = .ok (.iconst 0, 1) := by decide +kernel
theorem dX7_begin_28 : decode cX7_begin 28 = .ok (.bipush 100, 2) := by decide +kernel
theorem dX7_begin_30 : decode cX7_begin 30 = .ok (.iload_n 1, 1) := by decide +kernel
theorem dX7_begin_31 : decode cX7_begin 31 = .ok (.imul, 1) := by decide +kernel
theorem dX7_begin_32 : decode cX7_begin 32 = .ok (.iconst 1, 1) := by decide +kernel
theorem dX7_begin_33 : decode cX7_begin 33 = .ok (.iadd, 1) := by decide +kernel
theorem dX7_begin_34 : decode cX7_begin 34 = .ok (.iastore, 1) := by decide +kernel
theorem dX7_begin_35 : decode cX7_begin 35 = .ok (.aload_n 0, 1) := by decide +kernel
theorem dX7_begin_36 : decode cX7_begin 36 = .ok (.iconst 0, 1) := by decide +kernel
theorem dX7_begin_37 : decode cX7_begin 37 = .ok (.putfield 114, 3) := by decide +kernel
theorem dX7_begin_40 : decode cX7_begin 40 = .ok (.aload_n 0, 1) := by decide +kernel
theorem dX7_begin_41 : decode cX7_begin 41 = .ok (.dup, 1) := by decide +kernel
theorem dX7_begin_42 : decode cX7_begin 42 = .ok (.getfield 117, 3) := by decide +kernel
theorem dX7_begin_45 : decode cX7_begin 45 = .ok (.iconst 1, 1) := by decide +kernel
theorem dX7_begin_46 : decode cX7_begin 46 = .ok (.iadd, 1) := by decide +kernel
theorem dX7_begin_47 : decode cX7_begin 47 = .ok (.putfield 117, 3) := by decide +kernel
theorem dX7_begin_50 : decode cX7_begin 50 = .ok (.aload_n 0, 1) := by decide +kernel
theorem dX7_begin_51 : decode cX7_begin 51 = .ok (.invokevirtual 101, 3) := by decide +kernel
theorem dX7_begin_54 : decode cX7_begin 54 = .ok (.iconst 1, 1) := by decide +kernel
theorem dX7_begin_55 : decode cX7_begin 55 = .ok (.ireturn, 1) := by decide +kernel
theorem dX7_blank_0 : decode cX7_blank 0 = .ok (.aload_n 0, 1) := by decide +kernel
theorem dX7_blank_1 : decode cX7_blank 1 = .ok (.getfield 54, 3) := by decide +kernel
theorem dX7_blank_4 : decode cX7_blank 4 = .ok (.istore_n 1, 1) := by decide +kernel
theorem dX7_blank_5 : decode cX7_blank 5 = .ok (.aload_n 0, 1) := by decide +kernel
theorem dX7_blank_6 : decode cX7_blank 6 = .ok (.iconst 0, 1) := by decide +kernel
theorem dX7_blank_7 : decode cX7_blank 7 = .ok (.putfield 54, 3) := by decide +kernel
theorem dX7_blank_10 : decode cX7_blank 10 = .ok (.iload_n 1, 1) := by decide +kernel
theorem dX7_blank_11 : decode cX7_blank 11 = .ok (.ireturn, 1) := by decide +kernel
theorem dX7_classOf_0 : decode cX7_classOf 0 = .ok (.iload_n 0, 1) := by decide +kernel
theorem dX7_classOf_1 : decode cX7_classOf 1 = .ok (.iconst 3, 1) := by decide +kernel
theorem dX7_classOf_2 : decode cX7_classOf 2 = .ok (.if_icmp .ne 8, 3) := by decide +kernel
theorem dX7_classOf_5 : decode cX7_classOf 5 = .ok (.bipush 9, 2) := by decide +kernel
theorem dX7_classOf_7 : decode cX7_classOf 7 = .ok (.goto 5, 3) := by decide +kernel
theorem dX7_classOf_10 : decode cX7_classOf 10 = .ok (.bipush 15, 2) := by decide +kernel
theorem dX7_classOf_12 : decode cX7_classOf 12 = .ok (.ireturn, 1) := by decide +kernel
theorem dX7_count_0 : decode cX7_count 0 = .ok (.aload_n 0, 1) := by decide +kernel
theorem dX7_count_1 : decode cX7_count 1 = .ok (.iload_n 1, 1) := by decide +kernel
theorem dX7_count_2 : decode cX7_count 2 = .ok (.invokevirtual 238, 3) := by decide +kernel
theorem dX7_count_5 : decode cX7_count 5 = .ok (.ireturn, 1) := by decide +kernel
theorem dX7_drop_0 : decode cX7_drop 0 = .ok (.aload_n 0, 1) := by decide +kernel
theorem dX7_drop_1 : decode cX7_drop 1 = .ok (.iload_n 1, 1) := by decide +kernel
theorem dX7_drop_2 : decode cX7_drop 2 = .ok (.invokevirtual 104, 3) := by decide +kernel
theorem dX7_drop_5 : decode cX7_drop 5 = .ok (.ifCond .ne 7, 3) := by decide +kernel
theorem dX7_drop_8 : decode cX7_drop 8 = .ok (.sipush (-1001), 3) := by decide +kernel
theorem dX7_drop_11 : decode cX7_drop 11 = .ok (.ireturn, 1) := by decide +kernel
theorem dX7_edge_0 : decode cX7_edge 0 = .ok (.aload_n 0, 1) := by decide +kernel
theorem dX7_edge_1 : decode cX7_edge 1 = .ok (.iload_n 1, 1) := by decide +kernel
theorem dX7_edge_2 : decode cX7_edge 2 = .ok (.invokevirtual 124, 3) := by decide +kernel
theorem dX7_edge_5 : decode cX7_edge 5 = .ok (.ifCond .eq 12, 3) := by decide +kernel
theorem dX7_edge_17 : decode cX7_edge 17 = .ok (.sipush (-1001), 3) := by decide +kernel
theorem dX7_edge_20 : decode cX7_edge 20 = .ok (.ireturn, 1) := by decide +kernel
theorem dX7_fault_0 : decode cX7_fault 0 = .ok (.aload_n 0, 1) := by decide +kernel
theorem dX7_fault_1 : decode cX7_fault 1 = .ok (.iload_n 1, 1) := by decide +kernel
theorem dX7_fault_2 : decode cX7_fault 2 = .ok (.invokevirtual 82, 3) := by decide +kernel
theorem dX7_fault_5 : decode cX7_fault 5 = .ok (.ireturn, 1) := by decide +kernel
theorem dX7_fewest_0 : decode cX7_fewest 0 = .ok (.iload_n 1, 1) := by decide +kernel
theorem dX7_fewest_1 : decode cX7_fewest 1 = .ok (.iconst 0, 1) := by decide +kernel
theorem dX7_fewest_2 : decode cX7_fewest 2 = .ok (.iconst 2, 1) := by decide +kernel
theorem dX7_fewest_3 : decode cX7_fewest 3 = .ok (.invokestatic 50, 3) := by decide +kernel
theorem dX7_fewest_6 : decode cX7_fewest 6 = .ok (.ifCond .eq 11, 3) := by decide +kernel
theorem dX7_fewest_9 : decode cX7_fewest 9 = .ok (.aload_n 0, 1) := by decide +kernel
theorem dX7_fewest_10 : decode cX7_fewest 10 = .ok (.iload_n 1, 1) := by decide +kernel
theorem dX7_fewest_11 : decode cX7_fewest 11 = .ok (.invokevirtual 207, 3) := by decide +kernel
theorem dX7_fewest_14 : decode cX7_fewest 14 = .ok (.goto 6, 3) := by decide +kernel
theorem dX7_fewest_17 : decode cX7_fewest 17 = .ok (.sipush (-1001), 3) := by decide +kernel
theorem dX7_fewest_20 : decode cX7_fewest 20 = .ok (.ireturn, 1) := by decide +kernel
theorem dX7_fewestNow_0 : decode cX7_fewestNow 0 = .ok (.aload_n 0, 1) := by decide +kernel
theorem dX7_fewestNow_1 : decode cX7_fewestNow 1 = .ok (.invokevirtual 152, 3) := by decide +kernel
theorem dX7_fewestNow_4 : decode cX7_fewestNow 4 = .ok (.ifCond .eq 19, 3) := by decide +kernel
theorem dX7_fewestNow_23 : decode cX7_fewestNow 23 = .ok (.sipush (-1003), 3) := by decide +kernel
theorem dX7_fewestNow_26 : decode cX7_fewestNow 26 = .ok (.ireturn, 1) := by decide +kernel
theorem dX7_graph_0 : decode cX7_graph 0 = .ok (.aload_n 0, 1) := by decide +kernel
theorem dX7_graph_1 : decode cX7_graph 1 = .ok (.iconst 1, 1) := by decide +kernel
theorem dX7_graph_2 : decode cX7_graph 2 = .ok (.invokevirtual 86, 3) := by decide +kernel
theorem dX7_graph_5 : decode cX7_graph 5 = .ok (.ifCond .eq 15, 3) := by decide +kernel
theorem dX7_graph_20 : decode cX7_graph 20 = .ok (.iconst 0, 1) := by decide +kernel
theorem dX7_graph_21 : decode cX7_graph 21 = .ok (.istore_n 1, 1) := by decide +kernel
theorem dX7_graph_22 : decode cX7_graph 22 = .ok (.iload_n 1, 1) := by decide +kernel
theorem dX7_graph_23 : decode cX7_graph 23 = .ok (.ifCond .eq 17, 3) := by decide +kernel
theorem dX7_graph_40 : decode cX7_graph 40 = .ok (.sipush (-1003), 3) := by decide +kernel
theorem dX7_graph_43 : decode cX7_graph 43 = .ok (.ireturn, 1) := by decide +kernel
theorem dX7_howMany_0 : decode cX7_howMany 0 = .ok (.iload_n 1, 1) := by decide +kernel
theorem dX7_howMany_1 : decode cX7_howMany 1 = .ok (.tableswitch 87 0 7 #[47, 52, 57, 62, 67, 72, 77, 82], 47) := by decide +kernel
theorem dX7_howMany_48 : decode cX7_howMany 48 = .ok (.aload_n 0, 1) := by decide +kernel
theorem dX7_howMany_49 : decode cX7_howMany 49 = .ok (.getfield 54, 3) := by decide +kernel
theorem dX7_howMany_52 : decode cX7_howMany 52 = .ok (.ireturn, 1) := by decide +kernel
theorem dX7_howMany_53 : decode cX7_howMany 53 = .ok (.aload_n 0, 1) := by decide +kernel
theorem dX7_howMany_54 : decode cX7_howMany 54 = .ok (.getfield 94, 3) := by decide +kernel
theorem dX7_howMany_57 : decode cX7_howMany 57 = .ok (.ireturn, 1) := by decide +kernel
theorem dX7_howMany_58 : decode cX7_howMany 58 = .ok (.aload_n 0, 1) := by decide +kernel
theorem dX7_howMany_59 : decode cX7_howMany 59 = .ok (.getfield 108, 3) := by decide +kernel
theorem dX7_howMany_62 : decode cX7_howMany 62 = .ok (.ireturn, 1) := by decide +kernel
theorem dX7_howMany_63 : decode cX7_howMany 63 = .ok (.aload_n 0, 1) := by decide +kernel
theorem dX7_howMany_64 : decode cX7_howMany 64 = .ok (.getfield 111, 3) := by decide +kernel
theorem dX7_howMany_67 : decode cX7_howMany 67 = .ok (.ireturn, 1) := by decide +kernel
theorem dX7_howMany_68 : decode cX7_howMany 68 = .ok (.aload_n 0, 1) := by decide +kernel
theorem dX7_howMany_69 : decode cX7_howMany 69 = .ok (.invokevirtual 149, 3) := by decide +kernel
theorem dX7_howMany_72 : decode cX7_howMany 72 = .ok (.ireturn, 1) := by decide +kernel
theorem dX7_howMany_73 : decode cX7_howMany 73 = .ok (.aload_n 0, 1) := by decide +kernel
theorem dX7_howMany_74 : decode cX7_howMany 74 = .ok (.getfield 114, 3) := by decide +kernel
theorem dX7_howMany_77 : decode cX7_howMany 77 = .ok (.ireturn, 1) := by decide +kernel
theorem dX7_howMany_78 : decode cX7_howMany 78 = .ok (.aload_n 0, 1) := by decide +kernel
theorem dX7_howMany_79 : decode cX7_howMany 79 = .ok (.getfield 139, 3) := by decide +kernel
theorem dX7_howMany_82 : decode cX7_howMany 82 = .ok (.ireturn, 1) := by decide +kernel
theorem dX7_howMany_83 : decode cX7_howMany 83 = .ok (.aload_n 0, 1) := by decide +kernel
theorem dX7_howMany_84 : decode cX7_howMany 84 = .ok (.getfield 117, 3) := by decide +kernel
theorem dX7_howMany_87 : decode cX7_howMany 87 = .ok (.ireturn, 1) := by decide +kernel
theorem dX7_howMany_88 : decode cX7_howMany 88 = .ok (.sipush (-1002), 3) := by decide +kernel
theorem dX7_howMany_91 : decode cX7_howMany 91 = .ok (.ireturn, 1) := by decide +kernel
theorem dX7_isDone_0 : decode cX7_isDone 0 = .ok (.aload_n 0, 1) := by decide +kernel
theorem dX7_isDone_1 : decode cX7_isDone 1 = .ok (.getfield 108, 3) := by decide +kernel
theorem dX7_isDone_4 : decode cX7_isDone 4 = .ok (.ifCond .le 14, 3) := by decide +kernel
theorem dX7_isDone_18 : decode cX7_isDone 18 = .ok (.iconst 0, 1) := by decide +kernel
theorem dX7_isDone_19 : decode cX7_isDone 19 = .ok (.ireturn, 1) := by decide +kernel
theorem dX7_isEdge_0 : decode cX7_isEdge 0 = .ok (.iload_n 1, 1) := by decide +kernel
theorem dX7_isEdge_1 : decode cX7_isEdge 1 = .ok (.iconst 0, 1) := by decide +kernel
theorem dX7_isEdge_2 : decode cX7_isEdge 2 = .ok (.aload_n 0, 1) := by decide +kernel
theorem dX7_isEdge_3 : decode cX7_isEdge 3 = .ok (.getfield 108, 3) := by decide +kernel
theorem dX7_isEdge_6 : decode cX7_isEdge 6 = .ok (.iconst 1, 1) := by decide +kernel
theorem dX7_isEdge_7 : decode cX7_isEdge 7 = .ok (.isub, 1) := by decide +kernel
theorem dX7_isEdge_8 : decode cX7_isEdge 8 = .ok (.invokestatic 50, 3) := by decide +kernel
theorem dX7_isEdge_11 : decode cX7_isEdge 11 = .ok (.ireturn, 1) := by decide +kernel
theorem dX7_isRule_0 : decode cX7_isRule 0 = .ok (.iload_n 1, 1) := by decide +kernel
theorem dX7_isRule_1 : decode cX7_isRule 1 = .ok (.iconst 0, 1) := by decide +kernel
theorem dX7_isRule_2 : decode cX7_isRule 2 = .ok (.aload_n 0, 1) := by decide +kernel
theorem dX7_isRule_3 : decode cX7_isRule 3 = .ok (.getfield 94, 3) := by decide +kernel
theorem dX7_isRule_6 : decode cX7_isRule 6 = .ok (.iconst 1, 1) := by decide +kernel
theorem dX7_isRule_7 : decode cX7_isRule 7 = .ok (.isub, 1) := by decide +kernel
theorem dX7_isRule_8 : decode cX7_isRule 8 = .ok (.invokestatic 50, 3) := by decide +kernel
theorem dX7_isRule_11 : decode cX7_isRule 11 = .ok (.ireturn, 1) := by decide +kernel
theorem dX7_isWhole_0 : decode cX7_isWhole 0 = .ok (.aload_n 0, 1) := by decide +kernel
theorem dX7_isWhole_1 : decode cX7_isWhole 1 = .ok (.iload_n 1, 1) := by decide +kernel
theorem dX7_isWhole_2 : decode cX7_isWhole 2 = .ok (.invokevirtual 82, 3) := by decide +kernel
theorem dX7_isWhole_5 : decode cX7_isWhole 5 = .ok (.aload_n 0, 1) := by decide +kernel
theorem dX7_isWhole_6 : decode cX7_isWhole 6 = .ok (.getfield 54, 3) := by decide +kernel
theorem dX7_isWhole_9 : decode cX7_isWhole 9 = .ok (.if_icmp .ne 21, 3) := by decide +kernel
theorem dX7_isWhole_12 : decode cX7_isWhole 12 = .ok (.aload_n 0, 1) := by decide +kernel
theorem dX7_isWhole_13 : decode cX7_isWhole 13 = .ok (.getfield 68, 3) := by decide +kernel
theorem dX7_isWhole_16 : decode cX7_isWhole 16 = .ok (.ifCond .le 14, 3) := by decide +kernel
theorem dX7_isWhole_30 : decode cX7_isWhole 30 = .ok (.iconst 0, 1) := by decide +kernel
theorem dX7_isWhole_31 : decode cX7_isWhole 31 = .ok (.ireturn, 1) := by decide +kernel
theorem dX7_kind_0 : decode cX7_kind 0 = .ok (.aload_n 0, 1) := by decide +kernel
theorem dX7_kind_1 : decode cX7_kind 1 = .ok (.invokevirtual 152, 3) := by decide +kernel
theorem dX7_kind_4 : decode cX7_kind 4 = .ok (.ifCond .eq 10, 3) := by decide +kernel
theorem dX7_kind_14 : decode cX7_kind 14 = .ok (.sipush (-1003), 3) := by decide +kernel
theorem dX7_kind_17 : decode cX7_kind 17 = .ok (.ireturn, 1) := by decide +kernel
theorem dX7_kinds_0 : decode cX7_kinds 0 = .ok (.iload_n 1, 1) := by decide +kernel
theorem dX7_kinds_1 : decode cX7_kinds 1 = .ok (.iconst 0, 1) := by decide +kernel
theorem dX7_kinds_2 : decode cX7_kinds 2 = .ok (.iconst 2, 1) := by decide +kernel
theorem dX7_kinds_3 : decode cX7_kinds 3 = .ok (.invokestatic 50, 3) := by decide +kernel
theorem dX7_kinds_6 : decode cX7_kinds 6 = .ok (.ifCond .eq 11, 3) := by decide +kernel
theorem dX7_kinds_9 : decode cX7_kinds 9 = .ok (.aload_n 0, 1) := by decide +kernel
theorem dX7_kinds_10 : decode cX7_kinds 10 = .ok (.iload_n 1, 1) := by decide +kernel
theorem dX7_kinds_11 : decode cX7_kinds 11 = .ok (.invokevirtual 231, 3) := by decide +kernel
theorem dX7_kinds_14 : decode cX7_kinds 14 = .ok (.goto 6, 3) := by decide +kernel
theorem dX7_kinds_17 : decode cX7_kinds 17 = .ok (.sipush (-1001), 3) := by decide +kernel
theorem dX7_kinds_20 : decode cX7_kinds 20 = .ok (.ireturn, 1) := by decide +kernel
theorem dX7_kindsNow_0 : decode cX7_kindsNow 0 = .ok (.aload_n 0, 1) := by decide +kernel
theorem dX7_kindsNow_1 : decode cX7_kindsNow 1 = .ok (.invokevirtual 228, 3) := by decide +kernel
theorem dX7_kindsNow_4 : decode cX7_kindsNow 4 = .ok (.iconst 0, 1) := by decide +kernel
theorem dX7_kindsNow_5 : decode cX7_kindsNow 5 = .ok (.istore_n 2, 1) := by decide +kernel
theorem dX7_kindsNow_6 : decode cX7_kindsNow 6 = .ok (.iconst 0, 1) := by decide +kernel
theorem dX7_kindsNow_7 : decode cX7_kindsNow 7 = .ok (.istore_n 3, 1) := by decide +kernel
theorem dX7_kindsNow_8 : decode cX7_kindsNow 8 = .ok (.iload_n 3, 1) := by decide +kernel
theorem dX7_kindsNow_9 : decode cX7_kindsNow 9 = .ok (.bipush 16, 2) := by decide +kernel
theorem dX7_kindsNow_11 : decode cX7_kindsNow 11 = .ok (.if_icmp .ge 37, 3) := by decide +kernel
theorem dX7_kindsNow_14 : decode cX7_kindsNow 14 = .ok (.iload_n 2, 1) := by decide +kernel
theorem dX7_kindsNow_15 : decode cX7_kindsNow 15 = .ok (.aload_n 0, 1) := by decide +kernel
theorem dX7_kindsNow_16 : decode cX7_kindsNow 16 = .ok (.getfield 40, 3) := by decide +kernel
theorem dX7_kindsNow_19 : decode cX7_kindsNow 19 = .ok (.bipush 16, 2) := by decide +kernel
theorem dX7_kindsNow_21 : decode cX7_kindsNow 21 = .ok (.iload_n 1, 1) := by decide +kernel
theorem dX7_kindsNow_22 : decode cX7_kindsNow 22 = .ok (.imul, 1) := by decide +kernel
theorem dX7_kindsNow_23 : decode cX7_kindsNow 23 = .ok (.iload_n 3, 1) := by decide +kernel
theorem dX7_kindsNow_24 : decode cX7_kindsNow 24 = .ok (.iadd, 1) := by decide +kernel
theorem dX7_kindsNow_25 : decode cX7_kindsNow 25 = .ok (.laload, 1) := by decide +kernel
theorem dX7_kindsNow_26 : decode cX7_kindsNow 26 = .ok (.ldc2_w 210, 3) := by decide +kernel
theorem dX7_kindsNow_29 : decode cX7_kindsNow 29 = .ok (.lcmp, 1) := by decide +kernel
theorem dX7_kindsNow_30 : decode cX7_kindsNow 30 = .ok (.ifCond .ge 9, 3) := by decide +kernel
theorem dX7_kindsNow_39 : decode cX7_kindsNow 39 = .ok (.iconst 0, 1) := by decide +kernel
theorem dX7_kindsNow_40 : decode cX7_kindsNow 40 = .ok (.ior, 1) := by decide +kernel
theorem dX7_kindsNow_41 : decode cX7_kindsNow 41 = .ok (.istore_n 2, 1) := by decide +kernel
theorem dX7_kindsNow_42 : decode cX7_kindsNow 42 = .ok (.iinc 3 1, 3) := by decide +kernel
theorem dX7_kindsNow_45 : decode cX7_kindsNow 45 = .ok (.goto (-37), 3) := by decide +kernel
theorem dX7_kindsNow_48 : decode cX7_kindsNow 48 = .ok (.iload_n 2, 1) := by decide +kernel
theorem dX7_kindsNow_49 : decode cX7_kindsNow 49 = .ok (.ireturn, 1) := by decide +kernel
theorem dX7_layLights_0 : decode cX7_layLights 0 = .ok (.aload_n 0, 1) := by decide +kernel
theorem dX7_layLights_1 : decode cX7_layLights 1 = .ok (.getfield 163, 3) := by decide +kernel
theorem dX7_layLights_4 : decode cX7_layLights 4 = .ok (.ifCond .eq 4, 3) := by decide +kernel
theorem dX7_layLights_7 : decode cX7_layLights 7 = .ok (.return_, 1) := by decide +kernel
theorem dX7_layLights_8 : decode cX7_layLights 8 = .ok (.aload_n 0, 1) := by decide +kernel
theorem dX7_layLights_9 : decode cX7_layLights 9 = .ok (.iconst 1, 1) := by decide +kernel
theorem dX7_layLights_10 : decode cX7_layLights 10 = .ok (.putfield 163, 3) := by decide +kernel
theorem dX7_layLights_13 : decode cX7_layLights 13 = .ok (.iconst 0, 1) := by decide +kernel
theorem dX7_layLights_14 : decode cX7_layLights 14 = .ok (.istore_n 1, 1) := by decide +kernel
theorem dX7_layLights_15 : decode cX7_layLights 15 = .ok (.iload_n 1, 1) := by decide +kernel
theorem dX7_layLights_16 : decode cX7_layLights 16 = .ok (.bipush 80, 2) := by decide +kernel
theorem dX7_layLights_18 : decode cX7_layLights 18 = .ok (.if_icmp .ge 42, 3) := by decide +kernel
theorem dX7_layLights_21 : decode cX7_layLights 21 = .ok (.aload_n 0, 1) := by decide +kernel
theorem dX7_layLights_22 : decode cX7_layLights 22 = .ok (.getfield 40, 3) := by decide +kernel
theorem dX7_layLights_25 : decode cX7_layLights 25 = .ok (.iload_n 1, 1) := by decide +kernel
theorem dX7_layLights_26 : decode cX7_layLights 26 = .ok (.iload_n 1, 1) := by decide +kernel
theorem dX7_layLights_27 : decode cX7_layLights 27 = .ok (.bipush 48, 2) := by decide +kernel
theorem dX7_layLights_29 : decode cX7_layLights 29 = .ok (.if_icmp .lt 21, 3) := by decide +kernel
theorem dX7_layLights_32 : decode cX7_layLights 32 = .ok (.iload_n 1, 1) := by decide +kernel
theorem dX7_layLights_33 : decode cX7_layLights 33 = .ok (.bipush 16, 2) := by decide +kernel
theorem dX7_layLights_35 : decode cX7_layLights 35 = .ok (.irem, 1) := by decide +kernel
theorem dX7_layLights_36 : decode cX7_layLights 36 = .ok (.iload_n 1, 1) := by decide +kernel
theorem dX7_layLights_37 : decode cX7_layLights 37 = .ok (.bipush 16, 2) := by decide +kernel
theorem dX7_layLights_39 : decode cX7_layLights 39 = .ok (.idiv, 1) := by decide +kernel
theorem dX7_layLights_40 : decode cX7_layLights 40 = .ok (.invokestatic 222, 3) := by decide +kernel
theorem dX7_layLights_43 : decode cX7_layLights 43 = .ok (.if_icmp .ne 7, 3) := by decide +kernel
theorem dX7_layLights_46 : decode cX7_layLights 46 = .ok (.lconst 0, 1) := by decide +kernel
theorem dX7_layLights_47 : decode cX7_layLights 47 = .ok (.goto 6, 3) := by decide +kernel
theorem dX7_layLights_50 : decode cX7_layLights 50 = .ok (.ldc2_w 210, 3) := by decide +kernel
theorem dX7_layLights_53 : decode cX7_layLights 53 = .ok (.lastore, 1) := by decide +kernel
theorem dX7_layLights_54 : decode cX7_layLights 54 = .ok (.iinc 1 1, 3) := by decide +kernel
theorem dX7_layLights_57 : decode cX7_layLights 57 = .ok (.goto (-42), 3) := by decide +kernel
theorem dX7_layLights_60 : decode cX7_layLights 60 = .ok (.iconst 1, 1) := by decide +kernel
theorem dX7_layLights_61 : decode cX7_layLights 61 = .ok (.istore_n 1, 1) := by decide +kernel
theorem dX7_layLights_62 : decode cX7_layLights 62 = .ok (.iload_n 1, 1) := by decide +kernel
theorem dX7_layLights_63 : decode cX7_layLights 63 = .ok (.ifCond .eq 43, 3) := by decide +kernel
theorem dX7_layLights_66 : decode cX7_layLights 66 = .ok (.iconst 0, 1) := by decide +kernel
theorem dX7_layLights_67 : decode cX7_layLights 67 = .ok (.istore_n 1, 1) := by decide +kernel
theorem dX7_layLights_68 : decode cX7_layLights 68 = .ok (.iconst 0, 1) := by decide +kernel
theorem dX7_layLights_69 : decode cX7_layLights 69 = .ok (.istore_n 2, 1) := by decide +kernel
theorem dX7_layLights_70 : decode cX7_layLights 70 = .ok (.iload_n 2, 1) := by decide +kernel
theorem dX7_layLights_71 : decode cX7_layLights 71 = .ok (.aload_n 0, 1) := by decide +kernel
theorem dX7_layLights_72 : decode cX7_layLights 72 = .ok (.getfield 94, 3) := by decide +kernel
theorem dX7_layLights_75 : decode cX7_layLights 75 = .ok (.if_icmp .ge 28, 3) := by decide +kernel
theorem dX7_layLights_103 : decode cX7_layLights 103 = .ok (.goto (-41), 3) := by decide +kernel
theorem dX7_layLights_106 : decode cX7_layLights 106 = .ok (.iconst 0, 1) := by decide +kernel
theorem dX7_layLights_107 : decode cX7_layLights 107 = .ok (.istore_n 2, 1) := by decide +kernel
theorem dX7_layLights_108 : decode cX7_layLights 108 = .ok (.iload_n 2, 1) := by decide +kernel
theorem dX7_layLights_109 : decode cX7_layLights 109 = .ok (.bipush 48, 2) := by decide +kernel
theorem dX7_layLights_111 : decode cX7_layLights 111 = .ok (.if_icmp .ge 16, 3) := by decide +kernel
theorem dX7_layLights_114 : decode cX7_layLights 114 = .ok (.aload_n 0, 1) := by decide +kernel
theorem dX7_layLights_115 : decode cX7_layLights 115 = .ok (.getfield 44, 3) := by decide +kernel
theorem dX7_layLights_118 : decode cX7_layLights 118 = .ok (.iload_n 2, 1) := by decide +kernel
theorem dX7_layLights_119 : decode cX7_layLights 119 = .ok (.iconst (-1), 1) := by decide +kernel
theorem dX7_layLights_120 : decode cX7_layLights 120 = .ok (.iastore, 1) := by decide +kernel
theorem dX7_layLights_121 : decode cX7_layLights 121 = .ok (.iinc 2 1, 3) := by decide +kernel
theorem dX7_layLights_124 : decode cX7_layLights 124 = .ok (.goto (-16), 3) := by decide +kernel
theorem dX7_layLights_127 : decode cX7_layLights 127 = .ok (.iconst 0, 1) := by decide +kernel
theorem dX7_layLights_128 : decode cX7_layLights 128 = .ok (.istore_n 2, 1) := by decide +kernel
theorem dX7_layLights_129 : decode cX7_layLights 129 = .ok (.iload_n 2, 1) := by decide +kernel
theorem dX7_layLights_130 : decode cX7_layLights 130 = .ok (.aload_n 0, 1) := by decide +kernel
theorem dX7_layLights_131 : decode cX7_layLights 131 = .ok (.getfield 94, 3) := by decide +kernel
theorem dX7_layLights_134 : decode cX7_layLights 134 = .ok (.if_icmp .ge 16, 3) := by decide +kernel
theorem dX7_layLights_150 : decode cX7_layLights 150 = .ok (.return_, 1) := by decide +kernel
theorem dX7_letter_0 : decode cX7_letter 0 = .ok (.iload_n 1, 1) := by decide +kernel
theorem dX7_letter_1 : decode cX7_letter 1 = .ok (.bipush 32, 2) := by decide +kernel
theorem dX7_letter_3 : decode cX7_letter 3 = .ok (.bipush 126, 2) := by decide +kernel
theorem dX7_letter_5 : decode cX7_letter 5 = .ok (.invokestatic 50, 3) := by decide +kernel
theorem dX7_letter_8 : decode cX7_letter 8 = .ok (.ifCond .ne 7, 3) := by decide +kernel
theorem dX7_letter_11 : decode cX7_letter 11 = .ok (.sipush (-1002), 3) := by decide +kernel
theorem dX7_letter_14 : decode cX7_letter 14 = .ok (.ireturn, 1) := by decide +kernel
theorem dX7_letter_15 : decode cX7_letter 15 = .ok (.aload_n 0, 1) := by decide +kernel
theorem dX7_letter_16 : decode cX7_letter 16 = .ok (.getfield 54, 3) := by decide +kernel
theorem dX7_letter_19 : decode cX7_letter 19 = .ok (.bipush 16, 2) := by decide +kernel
theorem dX7_letter_21 : decode cX7_letter 21 = .ok (.if_icmp .ne 7, 3) := by decide +kernel
theorem dX7_letter_28 : decode cX7_letter 28 = .ok (.aload_n 0, 1) := by decide +kernel
theorem dX7_letter_29 : decode cX7_letter 29 = .ok (.getfield 7, 3) := by decide +kernel
theorem dX7_letter_32 : decode cX7_letter 32 = .ok (.aload_n 0, 1) := by decide +kernel
theorem dX7_letter_33 : decode cX7_letter 33 = .ok (.getfield 54, 3) := by decide +kernel
theorem dX7_letter_36 : decode cX7_letter 36 = .ok (.iload_n 1, 1) := by decide +kernel
theorem dX7_letter_37 : decode cX7_letter 37 = .ok (.iastore, 1) := by decide +kernel
theorem dX7_letter_38 : decode cX7_letter 38 = .ok (.aload_n 0, 1) := by decide +kernel
theorem dX7_letter_39 : decode cX7_letter 39 = .ok (.dup, 1) := by decide +kernel
theorem dX7_letter_40 : decode cX7_letter 40 = .ok (.getfield 54, 3) := by decide +kernel
theorem dX7_letter_43 : decode cX7_letter 43 = .ok (.iconst 1, 1) := by decide +kernel
theorem dX7_letter_44 : decode cX7_letter 44 = .ok (.iadd, 1) := by decide +kernel
theorem dX7_letter_45 : decode cX7_letter 45 = .ok (.putfield 54, 3) := by decide +kernel
theorem dX7_letter_48 : decode cX7_letter 48 = .ok (.aload_n 0, 1) := by decide +kernel
theorem dX7_letter_49 : decode cX7_letter 49 = .ok (.getfield 54, 3) := by decide +kernel
theorem dX7_letter_52 : decode cX7_letter 52 = .ok (.ireturn, 1) := by decide +kernel
theorem dX7_light_0 : decode cX7_light 0 = .ok (.iload_n 1, 1) := by decide +kernel
theorem dX7_light_1 : decode cX7_light 1 = .ok (.iconst 0, 1) := by decide +kernel
theorem dX7_light_2 : decode cX7_light 2 = .ok (.iconst 2, 1) := by decide +kernel
theorem dX7_light_3 : decode cX7_light 3 = .ok (.invokestatic 50, 3) := by decide +kernel
theorem dX7_light_6 : decode cX7_light 6 = .ok (.ifCond .ne 7, 3) := by decide +kernel
theorem dX7_light_9 : decode cX7_light 9 = .ok (.sipush (-1001), 3) := by decide +kernel
theorem dX7_light_12 : decode cX7_light 12 = .ok (.ireturn, 1) := by decide +kernel
theorem dX7_light_13 : decode cX7_light 13 = .ok (.iload_n 2, 1) := by decide +kernel
theorem dX7_light_14 : decode cX7_light 14 = .ok (.iconst 0, 1) := by decide +kernel
theorem dX7_light_15 : decode cX7_light 15 = .ok (.bipush 15, 2) := by decide +kernel
theorem dX7_light_17 : decode cX7_light 17 = .ok (.invokestatic 50, 3) := by decide +kernel
theorem dX7_light_20 : decode cX7_light 20 = .ok (.ifCond .eq 22, 3) := by decide +kernel
theorem dX7_light_23 : decode cX7_light 23 = .ok (.iload_n 3, 1) := by decide +kernel
theorem dX7_light_24 : decode cX7_light 24 = .ok (.iconst 0, 1) := by decide +kernel
theorem dX7_light_25 : decode cX7_light 25 = .ok (.iconst 1, 1) := by decide +kernel
theorem dX7_light_26 : decode cX7_light 26 = .ok (.invokestatic 50, 3) := by decide +kernel
theorem dX7_light_29 : decode cX7_light 29 = .ok (.ifCond .eq 13, 3) := by decide +kernel
theorem dX7_light_32 : decode cX7_light 32 = .ok (.aload_n 0, 1) := by decide +kernel
theorem dX7_light_33 : decode cX7_light 33 = .ok (.iload_n 1, 1) := by decide +kernel
theorem dX7_light_34 : decode cX7_light 34 = .ok (.iload_n 2, 1) := by decide +kernel
theorem dX7_light_35 : decode cX7_light 35 = .ok (.iload_n 3, 1) := by decide +kernel
theorem dX7_light_36 : decode cX7_light 36 = .ok (.invokevirtual 234, 3) := by decide +kernel
theorem dX7_light_39 : decode cX7_light 39 = .ok (.goto 6, 3) := by decide +kernel
theorem dX7_light_42 : decode cX7_light 42 = .ok (.sipush (-1002), 3) := by decide +kernel
theorem dX7_light_45 : decode cX7_light 45 = .ok (.ireturn, 1) := by decide +kernel
theorem dX7_lightNow_0 : decode cX7_lightNow 0 = .ok (.aload_n 0, 1) := by decide +kernel
theorem dX7_lightNow_1 : decode cX7_lightNow 1 = .ok (.invokevirtual 228, 3) := by decide +kernel
theorem dX7_lightNow_4 : decode cX7_lightNow 4 = .ok (.bipush 16, 2) := by decide +kernel
theorem dX7_lightNow_6 : decode cX7_lightNow 6 = .ok (.iload_n 1, 1) := by decide +kernel
theorem dX7_lightNow_7 : decode cX7_lightNow 7 = .ok (.imul, 1) := by decide +kernel
theorem dX7_lightNow_8 : decode cX7_lightNow 8 = .ok (.iload_n 2, 1) := by decide +kernel
theorem dX7_lightNow_9 : decode cX7_lightNow 9 = .ok (.iadd, 1) := by decide +kernel
theorem dX7_lightNow_10 : decode cX7_lightNow 10 = .ok (.istore 4, 2) := by decide +kernel
theorem dX7_lightNow_12 : decode cX7_lightNow 12 = .ok (.iload_n 3, 1) := by decide +kernel
theorem dX7_lightNow_13 : decode cX7_lightNow 13 = .ok (.iconst 1, 1) := by decide +kernel
theorem dX7_lightNow_14 : decode cX7_lightNow 14 = .ok (.if_icmp .ne 13, 3) := by decide +kernel
theorem dX7_lightNow_17 : decode cX7_lightNow 17 = .ok (.aload_n 0, 1) := by decide +kernel
theorem dX7_lightNow_18 : decode cX7_lightNow 18 = .ok (.getfield 44, 3) := by decide +kernel
theorem dX7_lightNow_21 : decode cX7_lightNow 21 = .ok (.iload 4, 2) := by decide +kernel
theorem dX7_lightNow_23 : decode cX7_lightNow 23 = .ok (.iaload, 1) := by decide +kernel
theorem dX7_lightNow_24 : decode cX7_lightNow 24 = .ok (.goto 29, 3) := by decide +kernel
theorem dX7_lightNow_27 : decode cX7_lightNow 27 = .ok (.aload_n 0, 1) := by decide +kernel
theorem dX7_lightNow_28 : decode cX7_lightNow 28 = .ok (.getfield 40, 3) := by decide +kernel
theorem dX7_lightNow_31 : decode cX7_lightNow 31 = .ok (.iload 4, 2) := by decide +kernel
theorem dX7_lightNow_33 : decode cX7_lightNow 33 = .ok (.laload, 1) := by decide +kernel
theorem dX7_lightNow_34 : decode cX7_lightNow 34 = .ok (.ldc2_w 210, 3) := by decide +kernel
theorem dX7_lightNow_37 : decode cX7_lightNow 37 = .ok (.lcmp, 1) := by decide +kernel
theorem dX7_lightNow_38 : decode cX7_lightNow 38 = .ok (.ifCond .ge 14, 3) := by decide +kernel
theorem dX7_lightNow_52 : decode cX7_lightNow 52 = .ok (.iconst (-1), 1) := by decide +kernel
theorem dX7_lightNow_53 : decode cX7_lightNow 53 = .ok (.ireturn, 1) := by decide +kernel
theorem dX7_mix_0 : decode cX7_mix 0 = .ok (.aload_n 0, 1) := by decide +kernel
theorem dX7_mix_1 : decode cX7_mix 1 = .ok (.ldc2_w 241, 3) := by decide +kernel
theorem dX7_mix_4 : decode cX7_mix 4 = .ok (.aload_n 0, 1) := by decide +kernel
theorem dX7_mix_5 : decode cX7_mix 5 = .ok (.getfield 243, 3) := by decide +kernel
theorem dX7_mix_8 : decode cX7_mix 8 = .ok (.lmul, 1) := by decide +kernel
theorem dX7_mix_9 : decode cX7_mix 9 = .ok (.lload_n 1, 1) := by decide +kernel
theorem dX7_mix_10 : decode cX7_mix 10 = .ok (.ladd, 1) := by decide +kernel
theorem dX7_mix_11 : decode cX7_mix 11 = .ok (.putfield 243, 3) := by decide +kernel
theorem dX7_mix_14 : decode cX7_mix 14 = .ok (.return_, 1) := by decide +kernel
theorem dX7_mixOpen_0 : decode cX7_mixOpen 0 = .ok (.aload_n 0, 1) := by decide +kernel
theorem dX7_mixOpen_1 : decode cX7_mixOpen 1 = .ok (.aload_n 0, 1) := by decide +kernel
theorem dX7_mixOpen_2 : decode cX7_mixOpen 2 = .ok (.iload_n 1, 1) := by decide +kernel
theorem dX7_mixOpen_3 : decode cX7_mixOpen 3 = .ok (.invokevirtual 207, 3) := by decide +kernel
theorem dX7_mixOpen_6 : decode cX7_mixOpen 6 = .ok (.i2l, 1) := by decide +kernel
theorem dX7_mixOpen_7 : decode cX7_mixOpen 7 = .ok (.invokevirtual 247, 3) := by decide +kernel
theorem dX7_mixOpen_10 : decode cX7_mixOpen 10 = .ok (.aload_n 0, 1) := by decide +kernel
theorem dX7_mixOpen_11 : decode cX7_mixOpen 11 = .ok (.aload_n 0, 1) := by decide +kernel
theorem dX7_mixOpen_12 : decode cX7_mixOpen 12 = .ok (.iload_n 1, 1) := by decide +kernel
theorem dX7_mixOpen_13 : decode cX7_mixOpen 13 = .ok (.invokevirtual 231, 3) := by decide +kernel
theorem dX7_mixOpen_16 : decode cX7_mixOpen 16 = .ok (.i2l, 1) := by decide +kernel
theorem dX7_mixOpen_17 : decode cX7_mixOpen 17 = .ok (.invokevirtual 247, 3) := by decide +kernel
theorem dX7_mixOpen_20 : decode cX7_mixOpen 20 = .ok (.iconst 0, 1) := by decide +kernel
theorem dX7_mixOpen_21 : decode cX7_mixOpen 21 = .ok (.istore_n 2, 1) := by decide +kernel
theorem dX7_mixOpen_22 : decode cX7_mixOpen 22 = .ok (.iload_n 2, 1) := by decide +kernel
theorem dX7_mixOpen_23 : decode cX7_mixOpen 23 = .ok (.bipush 16, 2) := by decide +kernel
theorem dX7_mixOpen_25 : decode cX7_mixOpen 25 = .ok (.if_icmp .ge 33, 3) := by decide +kernel
theorem dX7_mixOpen_28 : decode cX7_mixOpen 28 = .ok (.aload_n 0, 1) := by decide +kernel
theorem dX7_mixOpen_29 : decode cX7_mixOpen 29 = .ok (.aload_n 0, 1) := by decide +kernel
theorem dX7_mixOpen_30 : decode cX7_mixOpen 30 = .ok (.iload_n 1, 1) := by decide +kernel
theorem dX7_mixOpen_31 : decode cX7_mixOpen 31 = .ok (.iload_n 2, 1) := by decide +kernel
theorem dX7_mixOpen_32 : decode cX7_mixOpen 32 = .ok (.iconst 0, 1) := by decide +kernel
theorem dX7_mixOpen_33 : decode cX7_mixOpen 33 = .ok (.invokevirtual 234, 3) := by decide +kernel
theorem dX7_mixOpen_36 : decode cX7_mixOpen 36 = .ok (.i2l, 1) := by decide +kernel
theorem dX7_mixOpen_37 : decode cX7_mixOpen 37 = .ok (.invokevirtual 247, 3) := by decide +kernel
theorem dX7_mixOpen_40 : decode cX7_mixOpen 40 = .ok (.aload_n 0, 1) := by decide +kernel
theorem dX7_mixOpen_41 : decode cX7_mixOpen 41 = .ok (.aload_n 0, 1) := by decide +kernel
theorem dX7_mixOpen_42 : decode cX7_mixOpen 42 = .ok (.iload_n 1, 1) := by decide +kernel
theorem dX7_mixOpen_43 : decode cX7_mixOpen 43 = .ok (.iload_n 2, 1) := by decide +kernel
theorem dX7_mixOpen_44 : decode cX7_mixOpen 44 = .ok (.iconst 1, 1) := by decide +kernel
theorem dX7_mixOpen_45 : decode cX7_mixOpen 45 = .ok (.invokevirtual 234, 3) := by decide +kernel
theorem dX7_mixOpen_48 : decode cX7_mixOpen 48 = .ok (.i2l, 1) := by decide +kernel
theorem dX7_mixOpen_49 : decode cX7_mixOpen 49 = .ok (.invokevirtual 247, 3) := by decide +kernel
theorem dX7_mixOpen_52 : decode cX7_mixOpen 52 = .ok (.iinc 2 1, 3) := by decide +kernel
theorem dX7_mixOpen_55 : decode cX7_mixOpen 55 = .ok (.goto (-33), 3) := by decide +kernel
theorem dX7_mixOpen_58 : decode cX7_mixOpen 58 = .ok (.return_, 1) := by decide +kernel
theorem dX7_of_0 : decode cX7_of 0 = .ok (.aload_n 0, 1) := by decide +kernel
theorem dX7_of_1 : decode cX7_of 1 = .ok (.iload_n 1, 1) := by decide +kernel
theorem dX7_of_2 : decode cX7_of 2 = .ok (.invokevirtual 104, 3) := by decide +kernel
theorem dX7_of_5 : decode cX7_of 5 = .ok (.ifCond .ne 7, 3) := by decide +kernel
theorem dX7_of_8 : decode cX7_of 8 = .ok (.sipush (-1001), 3) := by decide +kernel
theorem dX7_of_11 : decode cX7_of 11 = .ok (.ireturn, 1) := by decide +kernel
theorem dX7_opens_0 : decode cX7_opens 0 = .ok (.iconst 0, 1) := by decide +kernel
theorem dX7_opens_1 : decode cX7_opens 1 = .ok (.istore_n 1, 1) := by decide +kernel
theorem dX7_opens_2 : decode cX7_opens 2 = .ok (.iconst 0, 1) := by decide +kernel
theorem dX7_opens_3 : decode cX7_opens 3 = .ok (.istore_n 2, 1) := by decide +kernel
theorem dX7_opens_4 : decode cX7_opens 4 = .ok (.iload_n 2, 1) := by decide +kernel
theorem dX7_opens_5 : decode cX7_opens 5 = .ok (.aload_n 0, 1) := by decide +kernel
theorem dX7_opens_6 : decode cX7_opens 6 = .ok (.getfield 108, 3) := by decide +kernel
theorem dX7_opens_9 : decode cX7_opens 9 = .ok (.if_icmp .ge 30, 3) := by decide +kernel
theorem dX7_opens_39 : decode cX7_opens 39 = .ok (.iload_n 1, 1) := by decide +kernel
theorem dX7_opens_40 : decode cX7_opens 40 = .ok (.ireturn, 1) := by decide +kernel
theorem dX7_read_0 : decode cX7_read 0 = .ok (.aload_n 0, 1) := by decide +kernel
theorem dX7_read_1 : decode cX7_read 1 = .ok (.iconst 0, 1) := by decide +kernel
theorem dX7_read_2 : decode cX7_read 2 = .ok (.putfield 68, 3) := by decide +kernel
theorem dX7_read_5 : decode cX7_read 5 = .ok (.aload_n 0, 1) := by decide +kernel
theorem dX7_read_6 : decode cX7_read 6 = .ok (.iconst 0, 1) := by decide +kernel
theorem dX7_read_7 : decode cX7_read 7 = .ok (.putfield 71, 3) := by decide +kernel
theorem dX7_read_10 : decode cX7_read 10 = .ok (.aload_n 0, 1) := by decide +kernel
theorem dX7_read_11 : decode cX7_read 11 = .ok (.iconst 0, 1) := by decide +kernel
theorem dX7_read_12 : decode cX7_read 12 = .ok (.putfield 58, 3) := by decide +kernel
theorem dX7_read_15 : decode cX7_read 15 = .ok (.iconst 0, 1) := by decide +kernel
theorem dX7_read_16 : decode cX7_read 16 = .ok (.istore_n 2, 1) := by decide +kernel
theorem dX7_read_17 : decode cX7_read 17 = .ok (.iload_n 2, 1) := by decide +kernel
theorem dX7_read_18 : decode cX7_read 18 = .ok (.aload_n 0, 1) := by decide +kernel
theorem dX7_read_19 : decode cX7_read 19 = .ok (.getfield 54, 3) := by decide +kernel
theorem dX7_read_22 : decode cX7_read 22 = .ok (.if_icmp .ge 24, 3) := by decide +kernel
theorem dX7_read_46 : decode cX7_read 46 = .ok (.iload_n 2, 1) := by decide +kernel
theorem dX7_read_47 : decode cX7_read 47 = .ok (.ireturn, 1) := by decide +kernel
theorem dX7_rule_0 : decode cX7_rule 0 = .ok (.aload_n 0, 1) := by decide +kernel
theorem dX7_rule_1 : decode cX7_rule 1 = .ok (.iconst 0, 1) := by decide +kernel
theorem dX7_rule_2 : decode cX7_rule 2 = .ok (.invokevirtual 86, 3) := by decide +kernel
theorem dX7_rule_5 : decode cX7_rule 5 = .ok (.ifCond .eq 39, 3) := by decide +kernel
theorem dX7_rule_44 : decode cX7_rule 44 = .ok (.iconst 0, 1) := by decide +kernel
theorem dX7_rule_45 : decode cX7_rule 45 = .ok (.istore_n 1, 1) := by decide +kernel
theorem dX7_rule_46 : decode cX7_rule 46 = .ok (.iload_n 1, 1) := by decide +kernel
theorem dX7_rule_47 : decode cX7_rule 47 = .ok (.ifCond .ne 7, 3) := by decide +kernel
theorem dX7_rule_50 : decode cX7_rule 50 = .ok (.sipush (-1003), 3) := by decide +kernel
theorem dX7_rule_53 : decode cX7_rule 53 = .ok (.ireturn, 1) := by decide +kernel
theorem dX7_step_0 : decode cX7_step 0 = .ok (.aload_n 0, 1) := by decide +kernel
theorem dX7_step_1 : decode cX7_step 1 = .ok (.iload_n 1, 1) := by decide +kernel
theorem dX7_step_2 : decode cX7_step 2 = .ok (.invokevirtual 124, 3) := by decide +kernel
theorem dX7_step_5 : decode cX7_step 5 = .ok (.ifCond .eq 11, 3) := by decide +kernel
theorem dX7_step_16 : decode cX7_step 16 = .ok (.sipush (-1001), 3) := by decide +kernel
theorem dX7_step_19 : decode cX7_step 19 = .ok (.ireturn, 1) := by decide +kernel
theorem dX7_within_0 : decode cX7_within 0 = .ok (.iload_n 0, 1) := by decide +kernel
theorem dX7_within_1 : decode cX7_within 1 = .ok (.iload_n 1, 1) := by decide +kernel
theorem dX7_within_2 : decode cX7_within 2 = .ok (.if_icmp .lt 12, 3) := by decide +kernel
theorem dX7_within_5 : decode cX7_within 5 = .ok (.iload_n 0, 1) := by decide +kernel
theorem dX7_within_6 : decode cX7_within 6 = .ok (.iload_n 2, 1) := by decide +kernel
theorem dX7_within_7 : decode cX7_within 7 = .ok (.if_icmp .gt 7, 3) := by decide +kernel
theorem dX7_within_10 : decode cX7_within 10 = .ok (.iconst 1, 1) := by decide +kernel
theorem dX7_within_11 : decode cX7_within 11 = .ok (.goto 4, 3) := by decide +kernel
theorem dX7_within_14 : decode cX7_within 14 = .ok (.iconst 0, 1) := by decide +kernel
theorem dX7_within_15 : decode cX7_within 15 = .ok (.ireturn, 1) := by decide +kernel
section
variable (l : Launch) (D : va_G) (cI cJ cZ cR : ClassId)
set_option maxHeartbeats 4000000 in
set_option maxRecDepth 100000 in
theorem c_X7_within (sz : Nat) (p0 : Int32) (p1 : Int32) (p2 : Int32)  : CTi l D cI cJ cZ cR yX7_within cX7_within 3 (some .boolean) 0 0 0 0 sz [.int p0, .int p1, .int p2] [] (fun (r : Int32) (u : Unit) => (r = (if p0 < p1 then 0 else if p2 < p0 then 0 else 1))) (fun (u : Unit) => []) := by
  refine CTi.of (ty := .boolean) (by decide) (Nat.le_of_ble_eq_true rfl) rfl ?_
  intro p e s m below meth c A Q ls hd hin hK hsz hP hD hA hS hl hret
  obtain ⟨hx, hb, hml, hown, hts⟩ := id hd
  have hK1 := hK.1
  have hown : s.vm.findClass RX7 = some m.cls := hown
  have hl : lv_has ls 3 [(0, .int p0), (1, .int p1), (2, .int p2)] := hl
  refine lv_iload_n hx hb dX7_within_0 rfl (lv_at hl 0 rfl) ?_
  refine lv_iload_n hx hb dX7_within_1 rfl (lv_at hl 1 rfl) ?_
  refine lv_icmp_lt (tgt := 14) hx hb dX7_within_2 (by decide) (fun c_1 => ?_) (fun c_1 => ?_)
  · skip
    refine lv_iconst (v := 0) hx hb dX7_within_14 (by decide) ?_
    exact hret _ _ _ _ _ _ 0 () dX7_within_15 rfl hS (Nat.le_of_ble_eq_true rfl) (Nat.le_of_ble_eq_true rfl) (by simp [c_1]) (hP.sub [] rfl) (hD.sub [] rfl rfl)
  · skip
    refine lv_iload_n hx hb dX7_within_5 rfl (lv_at hl 0 rfl) ?_
    refine lv_iload_n hx hb dX7_within_6 rfl (lv_at hl 2 rfl) ?_
    refine lv_icmp_gt (tgt := 14) hx hb dX7_within_7 (by decide) (fun c_2 => ?_) (fun c_2 => ?_)
    · skip
      refine lv_iconst (v := 0) hx hb dX7_within_14 (by decide) ?_
      exact hret _ _ _ _ _ _ 0 () dX7_within_15 rfl hS (Nat.le_of_ble_eq_true rfl) (Nat.le_of_ble_eq_true rfl) (by simp [c_1, c_2]) (hP.sub [] rfl) (hD.sub [] rfl rfl)
    · skip
      refine lv_iconst (v := 1) hx hb dX7_within_10 (by decide) ?_
      refine lv_goto (tgt := 15) hx hb dX7_within_11 (by decide) ?_
      exact hret _ _ _ _ _ _ 1 () dX7_within_15 rfl hS (Nat.le_of_ble_eq_true rfl) (Nat.le_of_ble_eq_true rfl) (by simp [c_1, c_2]) (hP.sub [] rfl) (hD.sub [] rfl rfl)
set_option maxHeartbeats 4000000 in
set_option maxRecDepth 100000 in
theorem c_X7_letter (sz : Nat) (h0 : Nat) (m1 : Nat) (m2 : Nat) (m3 : Nat) (m4 : Nat) (m5 : Nat) (m6 : Nat) (m7 : Nat) (m8 : Nat) (m9 : Nat) (m10 : Nat) (m11 : Nat) (m12 : Nat) (m13 : Nat) (p0 : Int32)  : CTi l D cI cJ cZ cR yX7_letter cX7_letter 2 (some .int) 1 22 0 0 sz [.ref h0, .int p0] [(h0, .inr (7, [.int 0, .ref m1, .int 0, .ref m2, .ref m3, .ref m4, .ref m5, .int 0, .int 0, .ref m6, .int 0, .int 0, .int 0, .int 0, .ref m7, .int 0, .int 0, .int 0, .int 0, .ref m8, .ref m9, .ref m10, .int 0, .ref m11, .ref m12, .ref m13, .long 0])), (m1, .inl (cI, 16, .inl (fun _ => 0)))] (fun (r : Int32) (u : Unit) => (r = (if p0 < 32 then -1002 else if 126 < p0 then -1002 else 1))) (fun (u : Unit) => []) := by
  refine CTi.of (ty := .int) (by decide) (Nat.le_of_ble_eq_true rfl) rfl ?_
  intro p e s m below meth c A Q ls hd hin hK hsz hP hD hA hS hl hret
  obtain ⟨hx, hb, hml, hown, hts⟩ := id hd
  have hK1 := hK.1
  have hown : s.vm.findClass RX7 = some m.cls := hown
  have hl : lv_has ls 2 [(0, .ref h0), (1, .int p0)] := hl
  refine lv_iload_n hx hb dX7_letter_0 rfl (lv_at hl 1 rfl) ?_
  refine lv_bipush (v := 32) hx hb dX7_letter_1 (by decide) ?_
  refine lv_bipush (v := 126) hx hb dX7_letter_3 (by decide) ?_
  refine xc_i (wc := []) (wr := [(h0, .inr (7, [.int 0, .ref m1, .int 0, .ref m2, .ref m3, .ref m4, .ref m5, .int 0, .int 0, .ref m6, .int 0, .int 0, .int 0, .int 0, .ref m7, .int 0, .int 0, .int 0, .int 0, .ref m8, .ref m9, .ref m10, .int 0, .ref m11, .ref m12, .ref m13, .long 0])), (m1, .inl (cI, 16, .inl (fun _ => 0)))]) (xrS (n := 3) (As := [.int p0, .int 32, .int 126]) (rest := []) hd hK hP hD (c_X7_within l D cI cJ cZ cR _ p0 32 126 ) (gS t_637 mS_X7_within) hS_X7_within ⟨(Nat.le_of_ble_eq_true rfl), (Nat.le_of_ble_eq_true rfl)⟩ [] rfl rfl rfl hl.1 rfl (Nat.le_of_ble_eq_true rfl) dX7_letter_5 ⟨(Nat.le_of_ble_eq_true rfl), (Nat.le_of_ble_eq_true rfl)⟩) hP hD hS hA [] [0, 1] rfl rfl rfl (by decide) (fun r_1 u_2 H locs hw_3 hP hD hS => ?_)
  have hw_4 : r_1 = (if p0 < 32 then 0 else if 126 < p0 then 0 else 1) := hw_3
  subst hw_4
  have hP : va_P D vwCl [(h0, .inr (7, [.int 0, .ref m1, .int 0, .ref m2, .ref m3, .ref m4, .ref m5, .int 0, .int 0, .ref m6, .int 0, .int 0, .int 0, .int 0, .ref m7, .int 0, .int 0, .int 0, .int 0, .ref m8, .ref m9, .ref m10, .int 0, .ref m11, .ref m12, .ref m13, .long 0])), (m1, .inl (cI, 16, .inl (fun _ => 0)))] H := hP
  have hD : va_D A [(h0, .inr (7, [.int 0, .ref m1, .int 0, .ref m2, .ref m3, .ref m4, .ref m5, .int 0, .int 0, .ref m6, .int 0, .int 0, .int 0, .int 0, .ref m7, .int 0, .int 0, .int 0, .int 0, .ref m8, .ref m9, .ref m10, .int 0, .ref m11, .ref m12, .ref m13, .long 0])), (m1, .inl (cI, 16, .inl (fun _ => 0)))] := hD
  refine lv_if_ne (tgt := 15) hx hb dX7_letter_8 (by decide) (fun c_5 => ?_) (fun c_5 => ?_)
  · skip
    refine lv_aload_n hx hb dX7_letter_15 rfl (lv_at hl 0 rfl) ?_
    refine va_get (D := D) (ci := 7) (v := .int 0) (C := RX7) (T := TX7) (N := 27) hx hb hts iT_X7 hown hK1 hP 0 rfl rfl 0 (by decide) (hts _ t_551) (fun _ h9 => h9) rfl dX7_letter_16 ?_
    refine lv_bipush (v := 16) hx hb dX7_letter_19 (by decide) ?_
    refine lv_icmp_ne (tgt := 28) hx hb dX7_letter_21 (by decide) (fun c_6 => ?_) (fun c_6 => ?_)
    rotate_left
    · exact absurd c_6 (by decide)
    refine lv_aload_n hx hb dX7_letter_28 rfl (lv_at hl 0 rfl) ?_
    refine va_get (D := D) (ci := 7) (v := .ref m1) (C := RX7) (T := TX7) (N := 27) hx hb hts iT_X7 hown hK1 hP 0 rfl rfl 1 (by decide) (hts _ t_552) (fun _ h9 => h9) rfl dX7_letter_29 ?_
    refine lv_aload_n hx hb dX7_letter_32 rfl (lv_at hl 0 rfl) ?_
    refine va_get (D := D) (ci := 7) (v := .int 0) (C := RX7) (T := TX7) (N := 27) hx hb hts iT_X7 hown hK1 hP 0 rfl rfl 0 (by decide) (hts _ t_551) (fun _ h9 => h9) rfl dX7_letter_33 ?_
    refine lv_iload_n hx hb dX7_letter_36 rfl (lv_at hl 1 rfl) ?_
    refine va_iast hx hb hK1 hP hD hS 1 0 rfl rfl (vin (by decide)) dX7_letter_37 (fun H locs hP hD hS => ?_)
    have hP : va_P D vwCl [(h0, .inr (7, [.int 0, .ref m1, .int 0, .ref m2, .ref m3, .ref m4, .ref m5, .int 0, .int 0, .ref m6, .int 0, .int 0, .int 0, .int 0, .ref m7, .int 0, .int 0, .int 0, .int 0, .ref m8, .ref m9, .ref m10, .int 0, .ref m11, .ref m12, .ref m13, .long 0])), (m1, .inl (cI, 16, .inl (upd (fun _ => 0) 0 p0)))] H := hP
    have hD : va_D A [(h0, .inr (7, [.int 0, .ref m1, .int 0, .ref m2, .ref m3, .ref m4, .ref m5, .int 0, .int 0, .ref m6, .int 0, .int 0, .int 0, .int 0, .ref m7, .int 0, .int 0, .int 0, .int 0, .ref m8, .ref m9, .ref m10, .int 0, .ref m11, .ref m12, .ref m13, .long 0])), (m1, .inl (cI, 16, .inl (upd (fun _ => 0) 0 p0)))] := hD
    refine lv_aload_n hx hb dX7_letter_38 rfl (lv_at hl 0 rfl) ?_
    refine lv_dup hx hb dX7_letter_39 rfl ?_
    refine va_get (D := D) (ci := 7) (v := .int 0) (C := RX7) (T := TX7) (N := 27) hx hb hts iT_X7 hown hK1 hP 0 rfl rfl 0 (by decide) (hts _ t_551) (fun _ h9 => h9) rfl dX7_letter_40 ?_
    refine lv_iconst (v := 1) hx hb dX7_letter_43 (by decide) ?_
    refine lv_iadd hx hb dX7_letter_44 ?_
    refine lv_nmi (show _ = (1 : Int32) from by decide +kernel) ?_
    refine va_put (D := D) (ci := 7) (v := .int 1) (ty := .int) (C := RX7) (T := TX7) (N := 27) hx hb hts iT_X7 tyX7 tyX7_ok nmX7 hown hK1 hP hD hS 0 rfl rfl 0 (by decide) (hts _ t_551) (fun _ h9 => h9) rfl (by decide +kernel) rfl rfl (Nat.le_of_ble_eq_true rfl) dX7_letter_45 (fun H locs hP hD hS => ?_)
    have hP : va_P D vwCl [(h0, .inr (7, [.int 1, .ref m1, .int 0, .ref m2, .ref m3, .ref m4, .ref m5, .int 0, .int 0, .ref m6, .int 0, .int 0, .int 0, .int 0, .ref m7, .int 0, .int 0, .int 0, .int 0, .ref m8, .ref m9, .ref m10, .int 0, .ref m11, .ref m12, .ref m13, .long 0])), (m1, .inl (cI, 16, .inl (upd (fun _ => 0) 0 p0)))] H := hP
    have hD : va_D A [(h0, .inr (7, [.int 1, .ref m1, .int 0, .ref m2, .ref m3, .ref m4, .ref m5, .int 0, .int 0, .ref m6, .int 0, .int 0, .int 0, .int 0, .ref m7, .int 0, .int 0, .int 0, .int 0, .ref m8, .ref m9, .ref m10, .int 0, .ref m11, .ref m12, .ref m13, .long 0])), (m1, .inl (cI, 16, .inl (upd (fun _ => 0) 0 p0)))] := hD
    refine lv_aload_n hx hb dX7_letter_48 rfl (lv_at hl 0 rfl) ?_
    refine va_get (D := D) (ci := 7) (v := .int 1) (C := RX7) (T := TX7) (N := 27) hx hb hts iT_X7 hown hK1 hP 0 rfl rfl 0 (by decide) (hts _ t_551) (fun _ h9 => h9) rfl dX7_letter_49 ?_
    exact hret _ _ _ _ _ _ 1 () dX7_letter_52 rfl hS (Nat.le_of_ble_eq_true rfl) (Nat.le_of_ble_eq_true rfl) (itz1 c_5) (hP.sub [] rfl) (hD.sub [] rfl rfl)
  · skip
    refine lv_sipush (v := -1002) hx hb dX7_letter_11 (by decide) ?_
    exact hret _ _ _ _ _ _ (-1002) () dX7_letter_14 rfl hS (Nat.le_of_ble_eq_true rfl) (Nat.le_of_ble_eq_true rfl) (itz0 c_5) (hP.sub [] rfl) (hD.sub [] rfl rfl)
set_option maxHeartbeats 4000000 in
set_option maxRecDepth 100000 in
theorem c_X7_blank (sz : Nat) (h0 : Nat) (m1 : Nat) (m2 : Nat) (m3 : Nat) (m4 : Nat) (m5 : Nat) (m6 : Nat) (m7 : Nat) (m8 : Nat) (m9 : Nat) (m10 : Nat) (m11 : Nat) (m12 : Nat) (m13 : Nat)  : CTi l D cI cJ cZ cR yX7_blank cX7_blank 2 (some .int) 0 0 0 0 sz [.ref h0] [(h0, .inr (7, [.int 0, .ref m1, .int 0, .ref m2, .ref m3, .ref m4, .ref m5, .int 0, .int 0, .ref m6, .int 0, .int 0, .int 0, .int 0, .ref m7, .int 0, .int 0, .int 0, .int 0, .ref m8, .ref m9, .ref m10, .int 0, .ref m11, .ref m12, .ref m13, .long 0]))] (fun (r : Int32) (u : Unit) => (r = 0)) (fun (u : Unit) => [(h0, .inr (7, [.int 0, .ref m1, .int 0, .ref m2, .ref m3, .ref m4, .ref m5, .int 0, .int 0, .ref m6, .int 0, .int 0, .int 0, .int 0, .ref m7, .int 0, .int 0, .int 0, .int 0, .ref m8, .ref m9, .ref m10, .int 0, .ref m11, .ref m12, .ref m13, .long 0]))]) := by
  refine CTi.of (ty := .int) (by decide) (Nat.le_of_ble_eq_true rfl) rfl ?_
  intro p e s m below meth c A Q ls hd hin hK hsz hP hD hA hS hl hret
  obtain ⟨hx, hb, hml, hown, hts⟩ := id hd
  have hK1 := hK.1
  have hown : s.vm.findClass RX7 = some m.cls := hown
  have hl : lv_has ls 2 [(0, .ref h0)] := hl
  refine lv_aload_n hx hb dX7_blank_0 rfl (lv_at hl 0 rfl) ?_
  refine va_get (D := D) (ci := 7) (v := .int 0) (C := RX7) (T := TX7) (N := 27) hx hb hts iT_X7 hown hK1 hP 0 rfl rfl 0 (by decide) (hts _ t_551) (fun _ h9 => h9) rfl dX7_blank_1 ?_
  refine lv_istore_n (lv' := [(1, .int 0), (0, .ref h0)]) hx hb dX7_blank_4 rfl hl (by decide) rfl (fun ls hl => ?_)
  refine lv_aload_n hx hb dX7_blank_5 rfl (lv_at hl 1 rfl) ?_
  refine lv_iconst (v := 0) hx hb dX7_blank_6 (by decide) ?_
  refine va_put (D := D) (ci := 7) (v := .int 0) (ty := .int) (C := RX7) (T := TX7) (N := 27) hx hb hts iT_X7 tyX7 tyX7_ok nmX7 hown hK1 hP hD hS 0 rfl rfl 0 (by decide) (hts _ t_551) (fun _ h9 => h9) rfl (by decide +kernel) rfl rfl (Nat.le_of_ble_eq_true rfl) dX7_blank_7 (fun H locs hP hD hS => ?_)
  have hP : va_P D vwCl [(h0, .inr (7, [.int 0, .ref m1, .int 0, .ref m2, .ref m3, .ref m4, .ref m5, .int 0, .int 0, .ref m6, .int 0, .int 0, .int 0, .int 0, .ref m7, .int 0, .int 0, .int 0, .int 0, .ref m8, .ref m9, .ref m10, .int 0, .ref m11, .ref m12, .ref m13, .long 0]))] H := hP
  have hD : va_D A [(h0, .inr (7, [.int 0, .ref m1, .int 0, .ref m2, .ref m3, .ref m4, .ref m5, .int 0, .int 0, .ref m6, .int 0, .int 0, .int 0, .int 0, .ref m7, .int 0, .int 0, .int 0, .int 0, .ref m8, .ref m9, .ref m10, .int 0, .ref m11, .ref m12, .ref m13, .long 0]))] := hD
  refine lv_iload_n hx hb dX7_blank_10 rfl (lv_at hl 0 rfl) ?_
  exact hret _ _ _ _ _ _ 0 () dX7_blank_11 rfl hS (Nat.le_of_ble_eq_true rfl) (Nat.le_of_ble_eq_true rfl) rfl (hP.sub [0] rfl) (hD.sub [0] rfl rfl)
set_option maxHeartbeats 4000000 in
set_option maxRecDepth 100000 in
theorem c_X7_read (sz : Nat) (h0 : Nat) (m1 : Nat) (m2 : Nat) (m3 : Nat) (m4 : Nat) (m5 : Nat) (m6 : Nat) (m7 : Nat) (m8 : Nat) (m9 : Nat) (m10 : Nat) (m11 : Nat) (m12 : Nat) (m13 : Nat) (p1 : Int32)  : CTi l D cI cJ cZ cR yX7_read cX7_read 3 (some .int) 0 0 0 0 sz [.ref h0, .int p1] [(h0, .inr (7, [.int 0, .ref m1, .int 0, .ref m2, .ref m3, .ref m4, .ref m5, .int 0, .int 0, .ref m6, .int 0, .int 0, .int 0, .int 0, .ref m7, .int 0, .int 0, .int 0, .int 0, .ref m8, .ref m9, .ref m10, .int 0, .ref m11, .ref m12, .ref m13, .long 0]))] (fun (r : Int32) (u : Unit) => (r = 0)) (fun (u : Unit) => [(h0, .inr (7, [.int 0, .ref m1, .int 0, .ref m2, .ref m3, .ref m4, .ref m5, .int 0, .int 0, .ref m6, .int 0, .int 0, .int 0, .int 0, .ref m7, .int 0, .int 0, .int 0, .int 0, .ref m8, .ref m9, .ref m10, .int 0, .ref m11, .ref m12, .ref m13, .long 0]))]) := by
  refine CTi.of (ty := .int) (by decide) (Nat.le_of_ble_eq_true rfl) rfl ?_
  intro p e s m below meth c A Q ls hd hin hK hsz hP hD hA hS hl hret
  obtain ⟨hx, hb, hml, hown, hts⟩ := id hd
  have hK1 := hK.1
  have hown : s.vm.findClass RX7 = some m.cls := hown
  have hl : lv_has ls 3 [(0, .ref h0), (1, .int p1)] := hl
  refine lv_aload_n hx hb dX7_read_0 rfl (lv_at hl 0 rfl) ?_
  refine lv_iconst (v := 0) hx hb dX7_read_1 (by decide) ?_
  refine va_put (D := D) (ci := 7) (v := .int 0) (ty := .int) (C := RX7) (T := TX7) (N := 27) hx hb hts iT_X7 tyX7 tyX7_ok nmX7 hown hK1 hP hD hS 0 rfl rfl 13 (by decide) (hts _ t_564) (fun _ h9 => h9) rfl (by decide +kernel) rfl rfl (Nat.le_of_ble_eq_true rfl) dX7_read_2 (fun H locs hP hD hS => ?_)
  have hP : va_P D vwCl [(h0, .inr (7, [.int 0, .ref m1, .int 0, .ref m2, .ref m3, .ref m4, .ref m5, .int 0, .int 0, .ref m6, .int 0, .int 0, .int 0, .int 0, .ref m7, .int 0, .int 0, .int 0, .int 0, .ref m8, .ref m9, .ref m10, .int 0, .ref m11, .ref m12, .ref m13, .long 0]))] H := hP
  have hD : va_D A [(h0, .inr (7, [.int 0, .ref m1, .int 0, .ref m2, .ref m3, .ref m4, .ref m5, .int 0, .int 0, .ref m6, .int 0, .int 0, .int 0, .int 0, .ref m7, .int 0, .int 0, .int 0, .int 0, .ref m8, .ref m9, .ref m10, .int 0, .ref m11, .ref m12, .ref m13, .long 0]))] := hD
  refine lv_aload_n hx hb dX7_read_5 rfl (lv_at hl 0 rfl) ?_
  refine lv_iconst (v := 0) hx hb dX7_read_6 (by decide) ?_
  refine va_put (D := D) (ci := 7) (v := .int 0) (ty := .int) (C := RX7) (T := TX7) (N := 27) hx hb hts iT_X7 tyX7 tyX7_ok nmX7 hown hK1 hP hD hS 0 rfl rfl 15 (by decide) (hts _ t_566) (fun _ h9 => h9) rfl (by decide +kernel) rfl rfl (Nat.le_of_ble_eq_true rfl) dX7_read_7 (fun H locs hP hD hS => ?_)
  have hP : va_P D vwCl [(h0, .inr (7, [.int 0, .ref m1, .int 0, .ref m2, .ref m3, .ref m4, .ref m5, .int 0, .int 0, .ref m6, .int 0, .int 0, .int 0, .int 0, .ref m7, .int 0, .int 0, .int 0, .int 0, .ref m8, .ref m9, .ref m10, .int 0, .ref m11, .ref m12, .ref m13, .long 0]))] H := hP
  have hD : va_D A [(h0, .inr (7, [.int 0, .ref m1, .int 0, .ref m2, .ref m3, .ref m4, .ref m5, .int 0, .int 0, .ref m6, .int 0, .int 0, .int 0, .int 0, .ref m7, .int 0, .int 0, .int 0, .int 0, .ref m8, .ref m9, .ref m10, .int 0, .ref m11, .ref m12, .ref m13, .long 0]))] := hD
  refine lv_aload_n hx hb dX7_read_10 rfl (lv_at hl 0 rfl) ?_
  refine lv_iconst (v := 0) hx hb dX7_read_11 (by decide) ?_
  refine va_put (D := D) (ci := 7) (v := .int 0) (ty := .int) (C := RX7) (T := TX7) (N := 27) hx hb hts iT_X7 tyX7 tyX7_ok nmX7 hown hK1 hP hD hS 0 rfl rfl 16 (by decide) (hts _ t_567) (fun _ h9 => h9) rfl (by decide +kernel) rfl rfl (Nat.le_of_ble_eq_true rfl) dX7_read_12 (fun H locs hP hD hS => ?_)
  have hP : va_P D vwCl [(h0, .inr (7, [.int 0, .ref m1, .int 0, .ref m2, .ref m3, .ref m4, .ref m5, .int 0, .int 0, .ref m6, .int 0, .int 0, .int 0, .int 0, .ref m7, .int 0, .int 0, .int 0, .int 0, .ref m8, .ref m9, .ref m10, .int 0, .ref m11, .ref m12, .ref m13, .long 0]))] H := hP
  have hD : va_D A [(h0, .inr (7, [.int 0, .ref m1, .int 0, .ref m2, .ref m3, .ref m4, .ref m5, .int 0, .int 0, .ref m6, .int 0, .int 0, .int 0, .int 0, .ref m7, .int 0, .int 0, .int 0, .int 0, .ref m8, .ref m9, .ref m10, .int 0, .ref m11, .ref m12, .ref m13, .long 0]))] := hD
  refine lv_iconst (v := 0) hx hb dX7_read_15 (by decide) ?_
  refine lv_istore_n (lv' := [(2, .int 0), (0, .ref h0), (1, .int p1)]) hx hb dX7_read_16 rfl hl (by decide) rfl (fun ls hl => ?_)
  refine lv_iload_n hx hb dX7_read_17 rfl (lv_at hl 0 rfl) ?_
  refine lv_aload_n hx hb dX7_read_18 rfl (lv_at hl 1 rfl) ?_
  refine va_get (D := D) (ci := 7) (v := .int 0) (C := RX7) (T := TX7) (N := 27) hx hb hts iT_X7 hown hK1 hP 0 rfl rfl 0 (by decide) (hts _ t_551) (fun _ h9 => h9) rfl dX7_read_19 ?_
  refine lv_icmp_ge (tgt := 46) hx hb dX7_read_22 (by decide) (fun c_1 => ?_) (fun c_1 => ?_)
  rotate_left
  · exact absurd c_1 (by decide)
  refine lv_iload_n hx hb dX7_read_46 rfl (lv_at hl 0 rfl) ?_
  exact hret _ _ _ _ _ _ 0 () dX7_read_47 rfl hS (Nat.le_of_ble_eq_true rfl) (Nat.le_of_ble_eq_true rfl) rfl (hP.sub [0] rfl) (hD.sub [0] rfl rfl)
set_option maxHeartbeats 4000000 in
set_option maxRecDepth 100000 in
theorem c_X7_fault (sz : Nat) (h0 : Nat) (m1 : Nat) (m2 : Nat) (m3 : Nat) (m4 : Nat) (m5 : Nat) (m6 : Nat) (m7 : Nat) (m8 : Nat) (m9 : Nat) (m10 : Nat) (m11 : Nat) (m12 : Nat) (m13 : Nat) (p1 : Int32)  : CTi l D cI cJ cZ cR yX7_fault cX7_fault 2 (some .int) 1 22 0 0 sz [.ref h0, .int p1] [(h0, .inr (7, [.int 0, .ref m1, .int 0, .ref m2, .ref m3, .ref m4, .ref m5, .int 0, .int 0, .ref m6, .int 0, .int 0, .int 0, .int 0, .ref m7, .int 0, .int 0, .int 0, .int 0, .ref m8, .ref m9, .ref m10, .int 0, .ref m11, .ref m12, .ref m13, .long 0]))] (fun (r : Int32) (u : Unit) => (r = 0)) (fun (u : Unit) => [(h0, .inr (7, [.int 0, .ref m1, .int 0, .ref m2, .ref m3, .ref m4, .ref m5, .int 0, .int 0, .ref m6, .int 0, .int 0, .int 0, .int 0, .ref m7, .int 0, .int 0, .int 0, .int 0, .ref m8, .ref m9, .ref m10, .int 0, .ref m11, .ref m12, .ref m13, .long 0]))]) := by
  refine CTi.of (ty := .int) (by decide) (Nat.le_of_ble_eq_true rfl) rfl ?_
  intro p e s m below meth c A Q ls hd hin hK hsz hP hD hA hS hl hret
  obtain ⟨hx, hb, hml, hown, hts⟩ := id hd
  have hK1 := hK.1
  have hown : s.vm.findClass RX7 = some m.cls := hown
  have hl : lv_has ls 2 [(0, .ref h0), (1, .int p1)] := hl
  refine lv_aload_n hx hb dX7_fault_0 rfl (lv_at hl 0 rfl) ?_
  refine lv_iload_n hx hb dX7_fault_1 rfl (lv_at hl 1 rfl) ?_
  refine xc_i (wc := [(h0, .inr (7, [.int 0, .ref m1, .int 0, .ref m2, .ref m3, .ref m4, .ref m5, .int 0, .int 0, .ref m6, .int 0, .int 0, .int 0, .int 0, .ref m7, .int 0, .int 0, .int 0, .int 0, .ref m8, .ref m9, .ref m10, .int 0, .ref m11, .ref m12, .ref m13, .long 0]))]) (wr := []) (xrV (n := 1) (As := [.int p1]) (rest := []) (ci := 7) (q0 := 0) hd hK hP hD (c_X7_read l D cI cJ cZ cR _ h0 m1 m2 m3 m4 m5 m6 m7 m8 m9 m10 m11 m12 m13 p1 ) (gV t_648 mV_X7_read) hV_X7_read ⟨(Nat.le_of_ble_eq_true rfl), (Nat.le_of_ble_eq_true rfl)⟩ rfl rfl [0] rfl rfl rfl hl.1 rfl (Nat.le_of_ble_eq_true rfl) dX7_fault_2 ⟨(Nat.le_of_ble_eq_true rfl), (Nat.le_of_ble_eq_true rfl)⟩) hP hD hS hA [0] [] rfl rfl rfl (by decide) (fun r_1 u_2 H locs hw_3 hP hD hS => ?_)
  have hw_4 : r_1 = 0 := hw_3
  subst hw_4
  have hP : va_P D vwCl [(h0, .inr (7, [.int 0, .ref m1, .int 0, .ref m2, .ref m3, .ref m4, .ref m5, .int 0, .int 0, .ref m6, .int 0, .int 0, .int 0, .int 0, .ref m7, .int 0, .int 0, .int 0, .int 0, .ref m8, .ref m9, .ref m10, .int 0, .ref m11, .ref m12, .ref m13, .long 0]))] H := hP
  have hD : va_D A [(h0, .inr (7, [.int 0, .ref m1, .int 0, .ref m2, .ref m3, .ref m4, .ref m5, .int 0, .int 0, .ref m6, .int 0, .int 0, .int 0, .int 0, .ref m7, .int 0, .int 0, .int 0, .int 0, .ref m8, .ref m9, .ref m10, .int 0, .ref m11, .ref m12, .ref m13, .long 0]))] := hD
  exact hret _ _ _ _ _ _ 0 () dX7_fault_5 rfl hS (Nat.le_of_ble_eq_true rfl) (Nat.le_of_ble_eq_true rfl) rfl (hP.sub [0] rfl) (hD.sub [0] rfl rfl)
set_option maxHeartbeats 4000000 in
set_option maxRecDepth 100000 in
theorem c_X7_isWhole (sz : Nat) (h0 : Nat) (m1 : Nat) (m2 : Nat) (m3 : Nat) (m4 : Nat) (m5 : Nat) (m6 : Nat) (m7 : Nat) (m8 : Nat) (m9 : Nat) (m10 : Nat) (m11 : Nat) (m12 : Nat) (m13 : Nat) (p1 : Int32)  : CTi l D cI cJ cZ cR yX7_isWhole cX7_isWhole 2 (some .boolean) 1 22 0 0 sz [.ref h0, .int p1] [(h0, .inr (7, [.int 0, .ref m1, .int 0, .ref m2, .ref m3, .ref m4, .ref m5, .int 0, .int 0, .ref m6, .int 0, .int 0, .int 0, .int 0, .ref m7, .int 0, .int 0, .int 0, .int 0, .ref m8, .ref m9, .ref m10, .int 0, .ref m11, .ref m12, .ref m13, .long 0]))] (fun (r : Int32) (u : Unit) => (r = 0)) (fun (u : Unit) => [(h0, .inr (7, [.int 0, .ref m1, .int 0, .ref m2, .ref m3, .ref m4, .ref m5, .int 0, .int 0, .ref m6, .int 0, .int 0, .int 0, .int 0, .ref m7, .int 0, .int 0, .int 0, .int 0, .ref m8, .ref m9, .ref m10, .int 0, .ref m11, .ref m12, .ref m13, .long 0]))]) := by
  refine CTi.of (ty := .boolean) (by decide) (Nat.le_of_ble_eq_true rfl) rfl ?_
  intro p e s m below meth c A Q ls hd hin hK hsz hP hD hA hS hl hret
  obtain ⟨hx, hb, hml, hown, hts⟩ := id hd
  have hK1 := hK.1
  have hown : s.vm.findClass RX7 = some m.cls := hown
  have hl : lv_has ls 2 [(0, .ref h0), (1, .int p1)] := hl
  refine lv_aload_n hx hb dX7_isWhole_0 rfl (lv_at hl 0 rfl) ?_
  refine lv_iload_n hx hb dX7_isWhole_1 rfl (lv_at hl 1 rfl) ?_
  refine xc_i (wc := [(h0, .inr (7, [.int 0, .ref m1, .int 0, .ref m2, .ref m3, .ref m4, .ref m5, .int 0, .int 0, .ref m6, .int 0, .int 0, .int 0, .int 0, .ref m7, .int 0, .int 0, .int 0, .int 0, .ref m8, .ref m9, .ref m10, .int 0, .ref m11, .ref m12, .ref m13, .long 0]))]) (wr := []) (xrV (n := 1) (As := [.int p1]) (rest := []) (ci := 7) (q0 := 0) hd hK hP hD (c_X7_read l D cI cJ cZ cR _ h0 m1 m2 m3 m4 m5 m6 m7 m8 m9 m10 m11 m12 m13 p1 ) (gV t_648 mV_X7_read) hV_X7_read ⟨(Nat.le_of_ble_eq_true rfl), (Nat.le_of_ble_eq_true rfl)⟩ rfl rfl [0] rfl rfl rfl hl.1 rfl (Nat.le_of_ble_eq_true rfl) dX7_isWhole_2 ⟨(Nat.le_of_ble_eq_true rfl), (Nat.le_of_ble_eq_true rfl)⟩) hP hD hS hA [0] [] rfl rfl rfl (by decide) (fun r_1 u_2 H locs hw_3 hP hD hS => ?_)
  have hw_4 : r_1 = 0 := hw_3
  subst hw_4
  have hP : va_P D vwCl [(h0, .inr (7, [.int 0, .ref m1, .int 0, .ref m2, .ref m3, .ref m4, .ref m5, .int 0, .int 0, .ref m6, .int 0, .int 0, .int 0, .int 0, .ref m7, .int 0, .int 0, .int 0, .int 0, .ref m8, .ref m9, .ref m10, .int 0, .ref m11, .ref m12, .ref m13, .long 0]))] H := hP
  have hD : va_D A [(h0, .inr (7, [.int 0, .ref m1, .int 0, .ref m2, .ref m3, .ref m4, .ref m5, .int 0, .int 0, .ref m6, .int 0, .int 0, .int 0, .int 0, .ref m7, .int 0, .int 0, .int 0, .int 0, .ref m8, .ref m9, .ref m10, .int 0, .ref m11, .ref m12, .ref m13, .long 0]))] := hD
  refine lv_aload_n hx hb dX7_isWhole_5 rfl (lv_at hl 0 rfl) ?_
  refine va_get (D := D) (ci := 7) (v := .int 0) (C := RX7) (T := TX7) (N := 27) hx hb hts iT_X7 hown hK1 hP 0 rfl rfl 0 (by decide) (hts _ t_551) (fun _ h9 => h9) rfl dX7_isWhole_6 ?_
  refine lv_icmp_ne (tgt := 30) hx hb dX7_isWhole_9 (by decide) (fun c_5 => ?_) (fun c_5 => ?_)
  · exact absurd c_5 (by decide)
  refine lv_aload_n hx hb dX7_isWhole_12 rfl (lv_at hl 0 rfl) ?_
  refine va_get (D := D) (ci := 7) (v := .int 0) (C := RX7) (T := TX7) (N := 27) hx hb hts iT_X7 hown hK1 hP 0 rfl rfl 13 (by decide) (hts _ t_564) (fun _ h9 => h9) rfl dX7_isWhole_13 ?_
  refine lv_if_le (tgt := 30) hx hb dX7_isWhole_16 (by decide) (fun c_6 => ?_) (fun c_6 => ?_)
  rotate_left
  · exact absurd c_6 (by decide)
  refine lv_iconst (v := 0) hx hb dX7_isWhole_30 (by decide) ?_
  exact hret _ _ _ _ _ _ 0 () dX7_isWhole_31 rfl hS (Nat.le_of_ble_eq_true rfl) (Nat.le_of_ble_eq_true rfl) rfl (hP.sub [0] rfl) (hD.sub [0] rfl rfl)
set_option maxHeartbeats 4000000 in
set_option maxRecDepth 100000 in
theorem c_X7_rule (sz : Nat) (h0 : Nat) (m1 : Nat) (m2 : Nat) (m3 : Nat) (m4 : Nat) (m5 : Nat) (m6 : Nat) (m7 : Nat) (m8 : Nat) (m9 : Nat) (m10 : Nat) (m11 : Nat) (m12 : Nat) (m13 : Nat)  : CTi l D cI cJ cZ cR yX7_rule cX7_rule 3 (some .int) 2 43 0 0 sz [.ref h0] [(h0, .inr (7, [.int 0, .ref m1, .int 0, .ref m2, .ref m3, .ref m4, .ref m5, .int 0, .int 0, .ref m6, .int 0, .int 0, .int 0, .int 0, .ref m7, .int 0, .int 0, .int 0, .int 0, .ref m8, .ref m9, .ref m10, .int 0, .ref m11, .ref m12, .ref m13, .long 0]))] (fun (r : Int32) (u : Unit) => (r = (-1003))) (fun (u : Unit) => [(h0, .inr (7, [.int 0, .ref m1, .int 0, .ref m2, .ref m3, .ref m4, .ref m5, .int 0, .int 0, .ref m6, .int 0, .int 0, .int 0, .int 0, .ref m7, .int 0, .int 0, .int 0, .int 0, .ref m8, .ref m9, .ref m10, .int 0, .ref m11, .ref m12, .ref m13, .long 0]))]) := by
  refine CTi.of (ty := .int) (by decide) (Nat.le_of_ble_eq_true rfl) rfl ?_
  intro p e s m below meth c A Q ls hd hin hK hsz hP hD hA hS hl hret
  obtain ⟨hx, hb, hml, hown, hts⟩ := id hd
  have hK1 := hK.1
  have hown : s.vm.findClass RX7 = some m.cls := hown
  have hl : lv_has ls 3 [(0, .ref h0)] := hl
  refine lv_aload_n hx hb dX7_rule_0 rfl (lv_at hl 0 rfl) ?_
  refine lv_iconst (v := 0) hx hb dX7_rule_1 (by decide) ?_
  refine xc_i (wc := [(h0, .inr (7, [.int 0, .ref m1, .int 0, .ref m2, .ref m3, .ref m4, .ref m5, .int 0, .int 0, .ref m6, .int 0, .int 0, .int 0, .int 0, .ref m7, .int 0, .int 0, .int 0, .int 0, .ref m8, .ref m9, .ref m10, .int 0, .ref m11, .ref m12, .ref m13, .long 0]))]) (wr := []) (xrV (n := 1) (As := [.int 0]) (rest := []) (ci := 7) (q0 := 0) hd hK hP hD (c_X7_isWhole l D cI cJ cZ cR _ h0 m1 m2 m3 m4 m5 m6 m7 m8 m9 m10 m11 m12 m13 0 ) (gV t_667 mV_X7_isWhole) hV_X7_isWhole ⟨(Nat.le_of_ble_eq_true rfl), (Nat.le_of_ble_eq_true rfl)⟩ rfl rfl [0] rfl rfl rfl hl.1 rfl (Nat.le_of_ble_eq_true rfl) dX7_rule_2 ⟨(Nat.le_of_ble_eq_true rfl), (Nat.le_of_ble_eq_true rfl)⟩) hP hD hS hA [0] [] rfl rfl rfl (by decide) (fun r_1 u_2 H locs hw_3 hP hD hS => ?_)
  have hw_4 : r_1 = 0 := hw_3
  subst hw_4
  have hP : va_P D vwCl [(h0, .inr (7, [.int 0, .ref m1, .int 0, .ref m2, .ref m3, .ref m4, .ref m5, .int 0, .int 0, .ref m6, .int 0, .int 0, .int 0, .int 0, .ref m7, .int 0, .int 0, .int 0, .int 0, .ref m8, .ref m9, .ref m10, .int 0, .ref m11, .ref m12, .ref m13, .long 0]))] H := hP
  have hD : va_D A [(h0, .inr (7, [.int 0, .ref m1, .int 0, .ref m2, .ref m3, .ref m4, .ref m5, .int 0, .int 0, .ref m6, .int 0, .int 0, .int 0, .int 0, .ref m7, .int 0, .int 0, .int 0, .int 0, .ref m8, .ref m9, .ref m10, .int 0, .ref m11, .ref m12, .ref m13, .long 0]))] := hD
  refine lv_if_eq (tgt := 44) hx hb dX7_rule_5 (by decide) (fun c_5 => ?_) (fun c_5 => ?_)
  rotate_left
  · exact absurd c_5 (by decide)
  refine lv_iconst (v := 0) hx hb dX7_rule_44 (by decide) ?_
  refine lv_istore_n (lv' := [(1, .int 0), (0, .ref h0)]) hx hb dX7_rule_45 rfl hl (by decide) rfl (fun ls hl => ?_)
  refine lv_iload_n hx hb dX7_rule_46 rfl (lv_at hl 0 rfl) ?_
  refine lv_if_ne (tgt := 54) hx hb dX7_rule_47 (by decide) (fun c_6 => ?_) (fun c_6 => ?_)
  · exact absurd c_6 (by decide)
  refine lv_sipush (v := -1003) hx hb dX7_rule_50 (by decide) ?_
  exact hret _ _ _ _ _ _ (-1003) () dX7_rule_53 rfl hS (Nat.le_of_ble_eq_true rfl) (Nat.le_of_ble_eq_true rfl) rfl (hP.sub [0] rfl) (hD.sub [0] rfl rfl)
set_option maxHeartbeats 4000000 in
set_option maxRecDepth 100000 in
theorem c_X7_graph (sz : Nat) (h0 : Nat) (m1 : Nat) (m2 : Nat) (m3 : Nat) (m4 : Nat) (m5 : Nat) (m6 : Nat) (m7 : Nat) (m8 : Nat) (m9 : Nat) (m10 : Nat) (m11 : Nat) (m12 : Nat) (m13 : Nat)  : CTi l D cI cJ cZ cR yX7_graph cX7_graph 3 (some .int) 2 43 0 0 sz [.ref h0] [(h0, .inr (7, [.int 0, .ref m1, .int 0, .ref m2, .ref m3, .ref m4, .ref m5, .int 0, .int 0, .ref m6, .int 0, .int 0, .int 0, .int 0, .ref m7, .int 0, .int 0, .int 0, .int 0, .ref m8, .ref m9, .ref m10, .int 0, .ref m11, .ref m12, .ref m13, .long 0]))] (fun (r : Int32) (u : Unit) => (r = (-1003))) (fun (u : Unit) => [(h0, .inr (7, [.int 0, .ref m1, .int 0, .ref m2, .ref m3, .ref m4, .ref m5, .int 0, .int 0, .ref m6, .int 0, .int 0, .int 0, .int 0, .ref m7, .int 0, .int 0, .int 0, .int 0, .ref m8, .ref m9, .ref m10, .int 0, .ref m11, .ref m12, .ref m13, .long 0]))]) := by
  refine CTi.of (ty := .int) (by decide) (Nat.le_of_ble_eq_true rfl) rfl ?_
  intro p e s m below meth c A Q ls hd hin hK hsz hP hD hA hS hl hret
  obtain ⟨hx, hb, hml, hown, hts⟩ := id hd
  have hK1 := hK.1
  have hown : s.vm.findClass RX7 = some m.cls := hown
  have hl : lv_has ls 3 [(0, .ref h0)] := hl
  refine lv_aload_n hx hb dX7_graph_0 rfl (lv_at hl 0 rfl) ?_
  refine lv_iconst (v := 1) hx hb dX7_graph_1 (by decide) ?_
  refine xc_i (wc := [(h0, .inr (7, [.int 0, .ref m1, .int 0, .ref m2, .ref m3, .ref m4, .ref m5, .int 0, .int 0, .ref m6, .int 0, .int 0, .int 0, .int 0, .ref m7, .int 0, .int 0, .int 0, .int 0, .ref m8, .ref m9, .ref m10, .int 0, .ref m11, .ref m12, .ref m13, .long 0]))]) (wr := []) (xrV (n := 1) (As := [.int 1]) (rest := []) (ci := 7) (q0 := 0) hd hK hP hD (c_X7_isWhole l D cI cJ cZ cR _ h0 m1 m2 m3 m4 m5 m6 m7 m8 m9 m10 m11 m12 m13 1 ) (gV t_667 mV_X7_isWhole) hV_X7_isWhole ⟨(Nat.le_of_ble_eq_true rfl), (Nat.le_of_ble_eq_true rfl)⟩ rfl rfl [0] rfl rfl rfl hl.1 rfl (Nat.le_of_ble_eq_true rfl) dX7_graph_2 ⟨(Nat.le_of_ble_eq_true rfl), (Nat.le_of_ble_eq_true rfl)⟩) hP hD hS hA [0] [] rfl rfl rfl (by decide) (fun r_1 u_2 H locs hw_3 hP hD hS => ?_)
  have hw_4 : r_1 = 0 := hw_3
  subst hw_4
  have hP : va_P D vwCl [(h0, .inr (7, [.int 0, .ref m1, .int 0, .ref m2, .ref m3, .ref m4, .ref m5, .int 0, .int 0, .ref m6, .int 0, .int 0, .int 0, .int 0, .ref m7, .int 0, .int 0, .int 0, .int 0, .ref m8, .ref m9, .ref m10, .int 0, .ref m11, .ref m12, .ref m13, .long 0]))] H := hP
  have hD : va_D A [(h0, .inr (7, [.int 0, .ref m1, .int 0, .ref m2, .ref m3, .ref m4, .ref m5, .int 0, .int 0, .ref m6, .int 0, .int 0, .int 0, .int 0, .ref m7, .int 0, .int 0, .int 0, .int 0, .ref m8, .ref m9, .ref m10, .int 0, .ref m11, .ref m12, .ref m13, .long 0]))] := hD
  refine lv_if_eq (tgt := 20) hx hb dX7_graph_5 (by decide) (fun c_5 => ?_) (fun c_5 => ?_)
  rotate_left
  · exact absurd c_5 (by decide)
  refine lv_iconst (v := 0) hx hb dX7_graph_20 (by decide) ?_
  refine lv_istore_n (lv' := [(1, .int 0), (0, .ref h0)]) hx hb dX7_graph_21 rfl hl (by decide) rfl (fun ls hl => ?_)
  refine lv_iload_n hx hb dX7_graph_22 rfl (lv_at hl 0 rfl) ?_
  refine lv_if_eq (tgt := 40) hx hb dX7_graph_23 (by decide) (fun c_6 => ?_) (fun c_6 => ?_)
  rotate_left
  · exact absurd c_6 (by decide)
  refine lv_sipush (v := -1003) hx hb dX7_graph_40 (by decide) ?_
  exact hret _ _ _ _ _ _ (-1003) () dX7_graph_43 rfl hS (Nat.le_of_ble_eq_true rfl) (Nat.le_of_ble_eq_true rfl) rfl (hP.sub [0] rfl) (hD.sub [0] rfl rfl)
set_option maxHeartbeats 4000000 in
set_option maxRecDepth 100000 in
theorem c_X7_isRule (sz : Nat) (h0 : Nat) (m1 : Nat) (m2 : Nat) (m3 : Nat) (m4 : Nat) (m5 : Nat) (m6 : Nat) (m7 : Nat) (m8 : Nat) (m9 : Nat) (m10 : Nat) (m11 : Nat) (m12 : Nat) (m13 : Nat) (p0 : Int32)  : CTi l D cI cJ cZ cR yX7_isRule cX7_isRule 2 (some .boolean) 1 22 0 0 sz [.ref h0, .int p0] [(h0, .inr (7, [.int 0, .ref m1, .int 0, .ref m2, .ref m3, .ref m4, .ref m5, .int 0, .int 0, .ref m6, .int 0, .int 0, .int 0, .int 0, .ref m7, .int 0, .int 0, .int 0, .int 0, .ref m8, .ref m9, .ref m10, .int 0, .ref m11, .ref m12, .ref m13, .long 0]))] (fun (r : Int32) (u : Unit) => (r = 0)) (fun (u : Unit) => [(h0, .inr (7, [.int 0, .ref m1, .int 0, .ref m2, .ref m3, .ref m4, .ref m5, .int 0, .int 0, .ref m6, .int 0, .int 0, .int 0, .int 0, .ref m7, .int 0, .int 0, .int 0, .int 0, .ref m8, .ref m9, .ref m10, .int 0, .ref m11, .ref m12, .ref m13, .long 0]))]) := by
  refine CTi.of (ty := .boolean) (by decide) (Nat.le_of_ble_eq_true rfl) rfl ?_
  intro p e s m below meth c A Q ls hd hin hK hsz hP hD hA hS hl hret
  obtain ⟨hx, hb, hml, hown, hts⟩ := id hd
  have hK1 := hK.1
  have hown : s.vm.findClass RX7 = some m.cls := hown
  have hl : lv_has ls 2 [(0, .ref h0), (1, .int p0)] := hl
  refine lv_iload_n hx hb dX7_isRule_0 rfl (lv_at hl 1 rfl) ?_
  refine lv_iconst (v := 0) hx hb dX7_isRule_1 (by decide) ?_
  refine lv_aload_n hx hb dX7_isRule_2 rfl (lv_at hl 0 rfl) ?_
  refine va_get (D := D) (ci := 7) (v := .int 0) (C := RX7) (T := TX7) (N := 27) hx hb hts iT_X7 hown hK1 hP 0 rfl rfl 2 (by decide) (hts _ t_553) (fun _ h9 => h9) rfl dX7_isRule_3 ?_
  refine lv_iconst (v := 1) hx hb dX7_isRule_6 (by decide) ?_
  refine lv_isub hx hb dX7_isRule_7 ?_
  refine lv_nmi (show _ = (-1 : Int32) from by decide +kernel) ?_
  refine xc_i (wc := []) (wr := [(h0, .inr (7, [.int 0, .ref m1, .int 0, .ref m2, .ref m3, .ref m4, .ref m5, .int 0, .int 0, .ref m6, .int 0, .int 0, .int 0, .int 0, .ref m7, .int 0, .int 0, .int 0, .int 0, .ref m8, .ref m9, .ref m10, .int 0, .ref m11, .ref m12, .ref m13, .long 0]))]) (xrS (n := 3) (As := [.int p0, .int 0, .int (-1)]) (rest := []) hd hK hP hD (c_X7_within l D cI cJ cZ cR _ p0 0 (-1) ) (gS t_637 mS_X7_within) hS_X7_within ⟨(Nat.le_of_ble_eq_true rfl), (Nat.le_of_ble_eq_true rfl)⟩ [] rfl rfl rfl hl.1 rfl (Nat.le_of_ble_eq_true rfl) dX7_isRule_8 ⟨(Nat.le_of_ble_eq_true rfl), (Nat.le_of_ble_eq_true rfl)⟩) hP hD hS hA [] [0] rfl rfl rfl (by decide) (fun r_1 u_2 H locs hw_3 hP hD hS => ?_)
  have hw_4 : r_1 = (if p0 < 0 then 0 else if (-1) < p0 then 0 else 1) := hw_3
  subst hw_4
  have hP : va_P D vwCl [(h0, .inr (7, [.int 0, .ref m1, .int 0, .ref m2, .ref m3, .ref m4, .ref m5, .int 0, .int 0, .ref m6, .int 0, .int 0, .int 0, .int 0, .ref m7, .int 0, .int 0, .int 0, .int 0, .ref m8, .ref m9, .ref m10, .int 0, .ref m11, .ref m12, .ref m13, .long 0]))] H := hP
  have hD : va_D A [(h0, .inr (7, [.int 0, .ref m1, .int 0, .ref m2, .ref m3, .ref m4, .ref m5, .int 0, .int 0, .ref m6, .int 0, .int 0, .int 0, .int 0, .ref m7, .int 0, .int 0, .int 0, .int 0, .ref m8, .ref m9, .ref m10, .int 0, .ref m11, .ref m12, .ref m13, .long 0]))] := hD
  refine lv_nmi (show _ = (0 : Int32) from wi_neg _) ?_
  exact hret _ _ _ _ _ _ 0 () dX7_isRule_11 rfl hS (Nat.le_of_ble_eq_true rfl) (Nat.le_of_ble_eq_true rfl) rfl (hP.sub [0] rfl) (hD.sub [0] rfl rfl)
set_option maxHeartbeats 4000000 in
set_option maxRecDepth 100000 in
theorem c_X7_isEdge (sz : Nat) (h0 : Nat) (m1 : Nat) (m2 : Nat) (m3 : Nat) (m4 : Nat) (m5 : Nat) (m6 : Nat) (m7 : Nat) (m8 : Nat) (m9 : Nat) (m10 : Nat) (m11 : Nat) (m12 : Nat) (m13 : Nat) (p0 : Int32)  : CTi l D cI cJ cZ cR yX7_isEdge cX7_isEdge 2 (some .boolean) 1 22 0 0 sz [.ref h0, .int p0] [(h0, .inr (7, [.int 0, .ref m1, .int 0, .ref m2, .ref m3, .ref m4, .ref m5, .int 0, .int 0, .ref m6, .int 0, .int 0, .int 0, .int 0, .ref m7, .int 0, .int 0, .int 0, .int 0, .ref m8, .ref m9, .ref m10, .int 0, .ref m11, .ref m12, .ref m13, .long 0]))] (fun (r : Int32) (u : Unit) => (r = 0)) (fun (u : Unit) => [(h0, .inr (7, [.int 0, .ref m1, .int 0, .ref m2, .ref m3, .ref m4, .ref m5, .int 0, .int 0, .ref m6, .int 0, .int 0, .int 0, .int 0, .ref m7, .int 0, .int 0, .int 0, .int 0, .ref m8, .ref m9, .ref m10, .int 0, .ref m11, .ref m12, .ref m13, .long 0]))]) := by
  refine CTi.of (ty := .boolean) (by decide) (Nat.le_of_ble_eq_true rfl) rfl ?_
  intro p e s m below meth c A Q ls hd hin hK hsz hP hD hA hS hl hret
  obtain ⟨hx, hb, hml, hown, hts⟩ := id hd
  have hK1 := hK.1
  have hown : s.vm.findClass RX7 = some m.cls := hown
  have hl : lv_has ls 2 [(0, .ref h0), (1, .int p0)] := hl
  refine lv_iload_n hx hb dX7_isEdge_0 rfl (lv_at hl 1 rfl) ?_
  refine lv_iconst (v := 0) hx hb dX7_isEdge_1 (by decide) ?_
  refine lv_aload_n hx hb dX7_isEdge_2 rfl (lv_at hl 0 rfl) ?_
  refine va_get (D := D) (ci := 7) (v := .int 0) (C := RX7) (T := TX7) (N := 27) hx hb hts iT_X7 hown hK1 hP 0 rfl rfl 7 (by decide) (hts _ t_558) (fun _ h9 => h9) rfl dX7_isEdge_3 ?_
  refine lv_iconst (v := 1) hx hb dX7_isEdge_6 (by decide) ?_
  refine lv_isub hx hb dX7_isEdge_7 ?_
  refine lv_nmi (show _ = (-1 : Int32) from by decide +kernel) ?_
  refine xc_i (wc := []) (wr := [(h0, .inr (7, [.int 0, .ref m1, .int 0, .ref m2, .ref m3, .ref m4, .ref m5, .int 0, .int 0, .ref m6, .int 0, .int 0, .int 0, .int 0, .ref m7, .int 0, .int 0, .int 0, .int 0, .ref m8, .ref m9, .ref m10, .int 0, .ref m11, .ref m12, .ref m13, .long 0]))]) (xrS (n := 3) (As := [.int p0, .int 0, .int (-1)]) (rest := []) hd hK hP hD (c_X7_within l D cI cJ cZ cR _ p0 0 (-1) ) (gS t_637 mS_X7_within) hS_X7_within ⟨(Nat.le_of_ble_eq_true rfl), (Nat.le_of_ble_eq_true rfl)⟩ [] rfl rfl rfl hl.1 rfl (Nat.le_of_ble_eq_true rfl) dX7_isEdge_8 ⟨(Nat.le_of_ble_eq_true rfl), (Nat.le_of_ble_eq_true rfl)⟩) hP hD hS hA [] [0] rfl rfl rfl (by decide) (fun r_1 u_2 H locs hw_3 hP hD hS => ?_)
  have hw_4 : r_1 = (if p0 < 0 then 0 else if (-1) < p0 then 0 else 1) := hw_3
  subst hw_4
  have hP : va_P D vwCl [(h0, .inr (7, [.int 0, .ref m1, .int 0, .ref m2, .ref m3, .ref m4, .ref m5, .int 0, .int 0, .ref m6, .int 0, .int 0, .int 0, .int 0, .ref m7, .int 0, .int 0, .int 0, .int 0, .ref m8, .ref m9, .ref m10, .int 0, .ref m11, .ref m12, .ref m13, .long 0]))] H := hP
  have hD : va_D A [(h0, .inr (7, [.int 0, .ref m1, .int 0, .ref m2, .ref m3, .ref m4, .ref m5, .int 0, .int 0, .ref m6, .int 0, .int 0, .int 0, .int 0, .ref m7, .int 0, .int 0, .int 0, .int 0, .ref m8, .ref m9, .ref m10, .int 0, .ref m11, .ref m12, .ref m13, .long 0]))] := hD
  refine lv_nmi (show _ = (0 : Int32) from wi_neg _) ?_
  exact hret _ _ _ _ _ _ 0 () dX7_isEdge_11 rfl hS (Nat.le_of_ble_eq_true rfl) (Nat.le_of_ble_eq_true rfl) rfl (hP.sub [0] rfl) (hD.sub [0] rfl rfl)
set_option maxHeartbeats 4000000 in
set_option maxRecDepth 100000 in
theorem c_X7_drop (sz : Nat) (h0 : Nat) (m1 : Nat) (m2 : Nat) (m3 : Nat) (m4 : Nat) (m5 : Nat) (m6 : Nat) (m7 : Nat) (m8 : Nat) (m9 : Nat) (m10 : Nat) (m11 : Nat) (m12 : Nat) (m13 : Nat) (p0 : Int32)  : CTi l D cI cJ cZ cR yX7_drop cX7_drop 4 (some .int) 2 43 0 0 sz [.ref h0, .int p0] [(h0, .inr (7, [.int 0, .ref m1, .int 0, .ref m2, .ref m3, .ref m4, .ref m5, .int 0, .int 0, .ref m6, .int 0, .int 0, .int 0, .int 0, .ref m7, .int 0, .int 0, .int 0, .int 0, .ref m8, .ref m9, .ref m10, .int 0, .ref m11, .ref m12, .ref m13, .long 0]))] (fun (r : Int32) (u : Unit) => (r = (-1001))) (fun (u : Unit) => [(h0, .inr (7, [.int 0, .ref m1, .int 0, .ref m2, .ref m3, .ref m4, .ref m5, .int 0, .int 0, .ref m6, .int 0, .int 0, .int 0, .int 0, .ref m7, .int 0, .int 0, .int 0, .int 0, .ref m8, .ref m9, .ref m10, .int 0, .ref m11, .ref m12, .ref m13, .long 0]))]) := by
  refine CTi.of (ty := .int) (by decide) (Nat.le_of_ble_eq_true rfl) rfl ?_
  intro p e s m below meth c A Q ls hd hin hK hsz hP hD hA hS hl hret
  obtain ⟨hx, hb, hml, hown, hts⟩ := id hd
  have hK1 := hK.1
  have hown : s.vm.findClass RX7 = some m.cls := hown
  have hl : lv_has ls 4 [(0, .ref h0), (1, .int p0)] := hl
  refine lv_aload_n hx hb dX7_drop_0 rfl (lv_at hl 0 rfl) ?_
  refine lv_iload_n hx hb dX7_drop_1 rfl (lv_at hl 1 rfl) ?_
  refine xc_i (wc := [(h0, .inr (7, [.int 0, .ref m1, .int 0, .ref m2, .ref m3, .ref m4, .ref m5, .int 0, .int 0, .ref m6, .int 0, .int 0, .int 0, .int 0, .ref m7, .int 0, .int 0, .int 0, .int 0, .ref m8, .ref m9, .ref m10, .int 0, .ref m11, .ref m12, .ref m13, .long 0]))]) (wr := []) (xrV (n := 1) (As := [.int p0]) (rest := []) (ci := 7) (q0 := 0) hd hK hP hD (c_X7_isRule l D cI cJ cZ cR _ h0 m1 m2 m3 m4 m5 m6 m7 m8 m9 m10 m11 m12 m13 p0 ) (gV t_685 mV_X7_isRule) hV_X7_isRule ⟨(Nat.le_of_ble_eq_true rfl), (Nat.le_of_ble_eq_true rfl)⟩ rfl rfl [0] rfl rfl rfl hl.1 rfl (Nat.le_of_ble_eq_true rfl) dX7_drop_2 ⟨(Nat.le_of_ble_eq_true rfl), (Nat.le_of_ble_eq_true rfl)⟩) hP hD hS hA [0] [] rfl rfl rfl (by decide) (fun r_1 u_2 H locs hw_3 hP hD hS => ?_)
  have hw_4 : r_1 = 0 := hw_3
  subst hw_4
  have hP : va_P D vwCl [(h0, .inr (7, [.int 0, .ref m1, .int 0, .ref m2, .ref m3, .ref m4, .ref m5, .int 0, .int 0, .ref m6, .int 0, .int 0, .int 0, .int 0, .ref m7, .int 0, .int 0, .int 0, .int 0, .ref m8, .ref m9, .ref m10, .int 0, .ref m11, .ref m12, .ref m13, .long 0]))] H := hP
  have hD : va_D A [(h0, .inr (7, [.int 0, .ref m1, .int 0, .ref m2, .ref m3, .ref m4, .ref m5, .int 0, .int 0, .ref m6, .int 0, .int 0, .int 0, .int 0, .ref m7, .int 0, .int 0, .int 0, .int 0, .ref m8, .ref m9, .ref m10, .int 0, .ref m11, .ref m12, .ref m13, .long 0]))] := hD
  refine lv_if_ne (tgt := 12) hx hb dX7_drop_5 (by decide) (fun c_5 => ?_) (fun c_5 => ?_)
  · exact absurd c_5 (by decide)
  refine lv_sipush (v := -1001) hx hb dX7_drop_8 (by decide) ?_
  exact hret _ _ _ _ _ _ (-1001) () dX7_drop_11 rfl hS (Nat.le_of_ble_eq_true rfl) (Nat.le_of_ble_eq_true rfl) rfl (hP.sub [0] rfl) (hD.sub [0] rfl rfl)
set_option maxHeartbeats 4000000 in
set_option maxRecDepth 100000 in
theorem c_X7_of (sz : Nat) (h0 : Nat) (m1 : Nat) (m2 : Nat) (m3 : Nat) (m4 : Nat) (m5 : Nat) (m6 : Nat) (m7 : Nat) (m8 : Nat) (m9 : Nat) (m10 : Nat) (m11 : Nat) (m12 : Nat) (m13 : Nat) (p0 : Int32) (p1 : Int32)  : CTi l D cI cJ cZ cR yX7_of cX7_of 3 (some .int) 2 43 0 0 sz [.ref h0, .int p0, .int p1] [(h0, .inr (7, [.int 0, .ref m1, .int 0, .ref m2, .ref m3, .ref m4, .ref m5, .int 0, .int 0, .ref m6, .int 0, .int 0, .int 0, .int 0, .ref m7, .int 0, .int 0, .int 0, .int 0, .ref m8, .ref m9, .ref m10, .int 0, .ref m11, .ref m12, .ref m13, .long 0]))] (fun (r : Int32) (u : Unit) => (r = (-1001))) (fun (u : Unit) => [(h0, .inr (7, [.int 0, .ref m1, .int 0, .ref m2, .ref m3, .ref m4, .ref m5, .int 0, .int 0, .ref m6, .int 0, .int 0, .int 0, .int 0, .ref m7, .int 0, .int 0, .int 0, .int 0, .ref m8, .ref m9, .ref m10, .int 0, .ref m11, .ref m12, .ref m13, .long 0]))]) := by
  refine CTi.of (ty := .int) (by decide) (Nat.le_of_ble_eq_true rfl) rfl ?_
  intro p e s m below meth c A Q ls hd hin hK hsz hP hD hA hS hl hret
  obtain ⟨hx, hb, hml, hown, hts⟩ := id hd
  have hK1 := hK.1
  have hown : s.vm.findClass RX7 = some m.cls := hown
  have hl : lv_has ls 3 [(0, .ref h0), (1, .int p0), (2, .int p1)] := hl
  refine lv_aload_n hx hb dX7_of_0 rfl (lv_at hl 0 rfl) ?_
  refine lv_iload_n hx hb dX7_of_1 rfl (lv_at hl 1 rfl) ?_
  refine xc_i (wc := [(h0, .inr (7, [.int 0, .ref m1, .int 0, .ref m2, .ref m3, .ref m4, .ref m5, .int 0, .int 0, .ref m6, .int 0, .int 0, .int 0, .int 0, .ref m7, .int 0, .int 0, .int 0, .int 0, .ref m8, .ref m9, .ref m10, .int 0, .ref m11, .ref m12, .ref m13, .long 0]))]) (wr := []) (xrV (n := 1) (As := [.int p0]) (rest := []) (ci := 7) (q0 := 0) hd hK hP hD (c_X7_isRule l D cI cJ cZ cR _ h0 m1 m2 m3 m4 m5 m6 m7 m8 m9 m10 m11 m12 m13 p0 ) (gV t_685 mV_X7_isRule) hV_X7_isRule ⟨(Nat.le_of_ble_eq_true rfl), (Nat.le_of_ble_eq_true rfl)⟩ rfl rfl [0] rfl rfl rfl hl.1 rfl (Nat.le_of_ble_eq_true rfl) dX7_of_2 ⟨(Nat.le_of_ble_eq_true rfl), (Nat.le_of_ble_eq_true rfl)⟩) hP hD hS hA [0] [] rfl rfl rfl (by decide) (fun r_1 u_2 H locs hw_3 hP hD hS => ?_)
  have hw_4 : r_1 = 0 := hw_3
  subst hw_4
  have hP : va_P D vwCl [(h0, .inr (7, [.int 0, .ref m1, .int 0, .ref m2, .ref m3, .ref m4, .ref m5, .int 0, .int 0, .ref m6, .int 0, .int 0, .int 0, .int 0, .ref m7, .int 0, .int 0, .int 0, .int 0, .ref m8, .ref m9, .ref m10, .int 0, .ref m11, .ref m12, .ref m13, .long 0]))] H := hP
  have hD : va_D A [(h0, .inr (7, [.int 0, .ref m1, .int 0, .ref m2, .ref m3, .ref m4, .ref m5, .int 0, .int 0, .ref m6, .int 0, .int 0, .int 0, .int 0, .ref m7, .int 0, .int 0, .int 0, .int 0, .ref m8, .ref m9, .ref m10, .int 0, .ref m11, .ref m12, .ref m13, .long 0]))] := hD
  refine lv_if_ne (tgt := 12) hx hb dX7_of_5 (by decide) (fun c_5 => ?_) (fun c_5 => ?_)
  · exact absurd c_5 (by decide)
  refine lv_sipush (v := -1001) hx hb dX7_of_8 (by decide) ?_
  exact hret _ _ _ _ _ _ (-1001) () dX7_of_11 rfl hS (Nat.le_of_ble_eq_true rfl) (Nat.le_of_ble_eq_true rfl) rfl (hP.sub [0] rfl) (hD.sub [0] rfl rfl)
set_option maxHeartbeats 4000000 in
set_option maxRecDepth 100000 in
theorem c_X7_step (sz : Nat) (h0 : Nat) (m1 : Nat) (m2 : Nat) (m3 : Nat) (m4 : Nat) (m5 : Nat) (m6 : Nat) (m7 : Nat) (m8 : Nat) (m9 : Nat) (m10 : Nat) (m11 : Nat) (m12 : Nat) (m13 : Nat) (p0 : Int32) (p1 : Int32)  : CTi l D cI cJ cZ cR yX7_step cX7_step 7 (some .int) 2 43 0 0 sz [.ref h0, .int p0, .int p1] [(h0, .inr (7, [.int 0, .ref m1, .int 0, .ref m2, .ref m3, .ref m4, .ref m5, .int 0, .int 0, .ref m6, .int 0, .int 0, .int 0, .int 0, .ref m7, .int 0, .int 0, .int 0, .int 0, .ref m8, .ref m9, .ref m10, .int 0, .ref m11, .ref m12, .ref m13, .long 0]))] (fun (r : Int32) (u : Unit) => (r = (-1001))) (fun (u : Unit) => [(h0, .inr (7, [.int 0, .ref m1, .int 0, .ref m2, .ref m3, .ref m4, .ref m5, .int 0, .int 0, .ref m6, .int 0, .int 0, .int 0, .int 0, .ref m7, .int 0, .int 0, .int 0, .int 0, .ref m8, .ref m9, .ref m10, .int 0, .ref m11, .ref m12, .ref m13, .long 0]))]) := by
  refine CTi.of (ty := .int) (by decide) (Nat.le_of_ble_eq_true rfl) rfl ?_
  intro p e s m below meth c A Q ls hd hin hK hsz hP hD hA hS hl hret
  obtain ⟨hx, hb, hml, hown, hts⟩ := id hd
  have hK1 := hK.1
  have hown : s.vm.findClass RX7 = some m.cls := hown
  have hl : lv_has ls 7 [(0, .ref h0), (1, .int p0), (2, .int p1)] := hl
  refine lv_aload_n hx hb dX7_step_0 rfl (lv_at hl 0 rfl) ?_
  refine lv_iload_n hx hb dX7_step_1 rfl (lv_at hl 1 rfl) ?_
  refine xc_i (wc := [(h0, .inr (7, [.int 0, .ref m1, .int 0, .ref m2, .ref m3, .ref m4, .ref m5, .int 0, .int 0, .ref m6, .int 0, .int 0, .int 0, .int 0, .ref m7, .int 0, .int 0, .int 0, .int 0, .ref m8, .ref m9, .ref m10, .int 0, .ref m11, .ref m12, .ref m13, .long 0]))]) (wr := []) (xrV (n := 1) (As := [.int p0]) (rest := []) (ci := 7) (q0 := 0) hd hK hP hD (c_X7_isEdge l D cI cJ cZ cR _ h0 m1 m2 m3 m4 m5 m6 m7 m8 m9 m10 m11 m12 m13 p0 ) (gV t_709 mV_X7_isEdge) hV_X7_isEdge ⟨(Nat.le_of_ble_eq_true rfl), (Nat.le_of_ble_eq_true rfl)⟩ rfl rfl [0] rfl rfl rfl hl.1 rfl (Nat.le_of_ble_eq_true rfl) dX7_step_2 ⟨(Nat.le_of_ble_eq_true rfl), (Nat.le_of_ble_eq_true rfl)⟩) hP hD hS hA [0] [] rfl rfl rfl (by decide) (fun r_1 u_2 H locs hw_3 hP hD hS => ?_)
  have hw_4 : r_1 = 0 := hw_3
  subst hw_4
  have hP : va_P D vwCl [(h0, .inr (7, [.int 0, .ref m1, .int 0, .ref m2, .ref m3, .ref m4, .ref m5, .int 0, .int 0, .ref m6, .int 0, .int 0, .int 0, .int 0, .ref m7, .int 0, .int 0, .int 0, .int 0, .ref m8, .ref m9, .ref m10, .int 0, .ref m11, .ref m12, .ref m13, .long 0]))] H := hP
  have hD : va_D A [(h0, .inr (7, [.int 0, .ref m1, .int 0, .ref m2, .ref m3, .ref m4, .ref m5, .int 0, .int 0, .ref m6, .int 0, .int 0, .int 0, .int 0, .ref m7, .int 0, .int 0, .int 0, .int 0, .ref m8, .ref m9, .ref m10, .int 0, .ref m11, .ref m12, .ref m13, .long 0]))] := hD
  refine lv_if_eq (tgt := 16) hx hb dX7_step_5 (by decide) (fun c_5 => ?_) (fun c_5 => ?_)
  rotate_left
  · exact absurd c_5 (by decide)
  refine lv_sipush (v := -1001) hx hb dX7_step_16 (by decide) ?_
  exact hret _ _ _ _ _ _ (-1001) () dX7_step_19 rfl hS (Nat.le_of_ble_eq_true rfl) (Nat.le_of_ble_eq_true rfl) rfl (hP.sub [0] rfl) (hD.sub [0] rfl rfl)
set_option maxHeartbeats 4000000 in
set_option maxRecDepth 100000 in
theorem c_X7_edge (sz : Nat) (h0 : Nat) (m1 : Nat) (m2 : Nat) (m3 : Nat) (m4 : Nat) (m5 : Nat) (m6 : Nat) (m7 : Nat) (m8 : Nat) (m9 : Nat) (m10 : Nat) (m11 : Nat) (m12 : Nat) (m13 : Nat) (p0 : Int32)  : CTi l D cI cJ cZ cR yX7_edge cX7_edge 2 (some .int) 2 43 0 0 sz [.ref h0, .int p0] [(h0, .inr (7, [.int 0, .ref m1, .int 0, .ref m2, .ref m3, .ref m4, .ref m5, .int 0, .int 0, .ref m6, .int 0, .int 0, .int 0, .int 0, .ref m7, .int 0, .int 0, .int 0, .int 0, .ref m8, .ref m9, .ref m10, .int 0, .ref m11, .ref m12, .ref m13, .long 0]))] (fun (r : Int32) (u : Unit) => (r = (-1001))) (fun (u : Unit) => [(h0, .inr (7, [.int 0, .ref m1, .int 0, .ref m2, .ref m3, .ref m4, .ref m5, .int 0, .int 0, .ref m6, .int 0, .int 0, .int 0, .int 0, .ref m7, .int 0, .int 0, .int 0, .int 0, .ref m8, .ref m9, .ref m10, .int 0, .ref m11, .ref m12, .ref m13, .long 0]))]) := by
  refine CTi.of (ty := .int) (by decide) (Nat.le_of_ble_eq_true rfl) rfl ?_
  intro p e s m below meth c A Q ls hd hin hK hsz hP hD hA hS hl hret
  obtain ⟨hx, hb, hml, hown, hts⟩ := id hd
  have hK1 := hK.1
  have hown : s.vm.findClass RX7 = some m.cls := hown
  have hl : lv_has ls 2 [(0, .ref h0), (1, .int p0)] := hl
  refine lv_aload_n hx hb dX7_edge_0 rfl (lv_at hl 0 rfl) ?_
  refine lv_iload_n hx hb dX7_edge_1 rfl (lv_at hl 1 rfl) ?_
  refine xc_i (wc := [(h0, .inr (7, [.int 0, .ref m1, .int 0, .ref m2, .ref m3, .ref m4, .ref m5, .int 0, .int 0, .ref m6, .int 0, .int 0, .int 0, .int 0, .ref m7, .int 0, .int 0, .int 0, .int 0, .ref m8, .ref m9, .ref m10, .int 0, .ref m11, .ref m12, .ref m13, .long 0]))]) (wr := []) (xrV (n := 1) (As := [.int p0]) (rest := []) (ci := 7) (q0 := 0) hd hK hP hD (c_X7_isEdge l D cI cJ cZ cR _ h0 m1 m2 m3 m4 m5 m6 m7 m8 m9 m10 m11 m12 m13 p0 ) (gV t_709 mV_X7_isEdge) hV_X7_isEdge ⟨(Nat.le_of_ble_eq_true rfl), (Nat.le_of_ble_eq_true rfl)⟩ rfl rfl [0] rfl rfl rfl hl.1 rfl (Nat.le_of_ble_eq_true rfl) dX7_edge_2 ⟨(Nat.le_of_ble_eq_true rfl), (Nat.le_of_ble_eq_true rfl)⟩) hP hD hS hA [0] [] rfl rfl rfl (by decide) (fun r_1 u_2 H locs hw_3 hP hD hS => ?_)
  have hw_4 : r_1 = 0 := hw_3
  subst hw_4
  have hP : va_P D vwCl [(h0, .inr (7, [.int 0, .ref m1, .int 0, .ref m2, .ref m3, .ref m4, .ref m5, .int 0, .int 0, .ref m6, .int 0, .int 0, .int 0, .int 0, .ref m7, .int 0, .int 0, .int 0, .int 0, .ref m8, .ref m9, .ref m10, .int 0, .ref m11, .ref m12, .ref m13, .long 0]))] H := hP
  have hD : va_D A [(h0, .inr (7, [.int 0, .ref m1, .int 0, .ref m2, .ref m3, .ref m4, .ref m5, .int 0, .int 0, .ref m6, .int 0, .int 0, .int 0, .int 0, .ref m7, .int 0, .int 0, .int 0, .int 0, .ref m8, .ref m9, .ref m10, .int 0, .ref m11, .ref m12, .ref m13, .long 0]))] := hD
  refine lv_if_eq (tgt := 17) hx hb dX7_edge_5 (by decide) (fun c_5 => ?_) (fun c_5 => ?_)
  rotate_left
  · exact absurd c_5 (by decide)
  refine lv_sipush (v := -1001) hx hb dX7_edge_17 (by decide) ?_
  exact hret _ _ _ _ _ _ (-1001) () dX7_edge_20 rfl hS (Nat.le_of_ble_eq_true rfl) (Nat.le_of_ble_eq_true rfl) rfl (hP.sub [0] rfl) (hD.sub [0] rfl rfl)
set_option maxHeartbeats 4000000 in
set_option maxRecDepth 100000 in
theorem c_X7_altered (sz : Nat) (h0 : Nat) (m1 : Nat) (m2 : Nat) (m3 : Nat) (m4 : Nat) (m5 : Nat) (m6 : Nat) (m7 : Nat) (m8 : Nat) (m9 : Nat) (m10 : Nat) (m11 : Nat) (m12 : Nat) (m13 : Nat) (v1 : Int32) (v2 : Int32)  : CTv l D cI cJ cZ cR yX7_altered cX7_altered 1 none 0 0 0 0 sz [.ref h0] [(h0, .inr (7, [.int 0, .ref m1, .int 0, .ref m2, .ref m3, .ref m4, .ref m5, .int 1, .int 2, .ref m6, .int 0, .int 0, .int 1, .int 0, .ref m7, .int 0, .int 0, .int 0, .int v1, .ref m8, .ref m9, .ref m10, .int v2, .ref m11, .ref m12, .ref m13, .long 0]))] (fun (u : Unit) => True) (fun (u : Unit) => [(h0, .inr (7, [.int 0, .ref m1, .int 0, .ref m2, .ref m3, .ref m4, .ref m5, .int 1, .int 2, .ref m6, .int 0, .int 0, .int 1, .int 0, .ref m7, .int 0, .int 0, .int 0, .int 0, .ref m8, .ref m9, .ref m10, .int 0, .ref m11, .ref m12, .ref m13, .long 0]))]) := by
  refine CTv.of (by decide) (Nat.le_of_ble_eq_true rfl) rfl ?_
  intro p e s m below meth c A Q ls hd hin hK hsz hP hD hA hS hl hret
  obtain ⟨hx, hb, hml, hown, hts⟩ := id hd
  have hK1 := hK.1
  have hown : s.vm.findClass RX7 = some m.cls := hown
  have hl : lv_has ls 1 [(0, .ref h0)] := hl
  refine lv_aload_n hx hb dX7_altered_0 rfl (lv_at hl 0 rfl) ?_
  refine lv_iconst (v := 0) hx hb dX7_altered_1 (by decide) ?_
  refine va_put (D := D) (ci := 7) (v := .int 0) (ty := .boolean) (C := RX7) (T := TX7) (N := 27) hx hb hts iT_X7 tyX7 tyX7_ok nmX7 hown hK1 hP hD hS 0 rfl rfl 18 (by decide) (hts _ t_569) (fun _ h9 => h9) rfl (by decide +kernel) rfl rfl (Nat.le_of_ble_eq_true rfl) dX7_altered_2 (fun H locs hP hD hS => ?_)
  have hP : va_P D vwCl [(h0, .inr (7, [.int 0, .ref m1, .int 0, .ref m2, .ref m3, .ref m4, .ref m5, .int 1, .int 2, .ref m6, .int 0, .int 0, .int 1, .int 0, .ref m7, .int 0, .int 0, .int 0, .int 0, .ref m8, .ref m9, .ref m10, .int v2, .ref m11, .ref m12, .ref m13, .long 0]))] H := hP
  have hD : va_D A [(h0, .inr (7, [.int 0, .ref m1, .int 0, .ref m2, .ref m3, .ref m4, .ref m5, .int 1, .int 2, .ref m6, .int 0, .int 0, .int 1, .int 0, .ref m7, .int 0, .int 0, .int 0, .int 0, .ref m8, .ref m9, .ref m10, .int v2, .ref m11, .ref m12, .ref m13, .long 0]))] := hD
  refine lv_aload_n hx hb dX7_altered_5 rfl (lv_at hl 0 rfl) ?_
  refine lv_iconst (v := 0) hx hb dX7_altered_6 (by decide) ?_
  refine va_put (D := D) (ci := 7) (v := .int 0) (ty := .boolean) (C := RX7) (T := TX7) (N := 27) hx hb hts iT_X7 tyX7 tyX7_ok nmX7 hown hK1 hP hD hS 0 rfl rfl 22 (by decide) (hts _ t_573) (fun _ h9 => h9) rfl (by decide +kernel) rfl rfl (Nat.le_of_ble_eq_true rfl) dX7_altered_7 (fun H locs hP hD hS => ?_)
  have hP : va_P D vwCl [(h0, .inr (7, [.int 0, .ref m1, .int 0, .ref m2, .ref m3, .ref m4, .ref m5, .int 1, .int 2, .ref m6, .int 0, .int 0, .int 1, .int 0, .ref m7, .int 0, .int 0, .int 0, .int 0, .ref m8, .ref m9, .ref m10, .int 0, .ref m11, .ref m12, .ref m13, .long 0]))] H := hP
  have hD : va_D A [(h0, .inr (7, [.int 0, .ref m1, .int 0, .ref m2, .ref m3, .ref m4, .ref m5, .int 1, .int 2, .ref m6, .int 0, .int 0, .int 1, .int 0, .ref m7, .int 0, .int 0, .int 0, .int 0, .ref m8, .ref m9, .ref m10, .int 0, .ref m11, .ref m12, .ref m13, .long 0]))] := hD
  exact hret _ _ _ _ _ _ () dX7_altered_10 hS (Nat.le_of_ble_eq_true rfl) (Nat.le_of_ble_eq_true rfl) trivial (hP.sub [0] rfl) (hD.sub [0] rfl rfl)
set_option maxHeartbeats 4000000 in
set_option maxRecDepth 100000 in
theorem c_X7_begin (sz : Nat) (h0 : Nat) (m1 : Nat) (m2 : Nat) (m3 : Nat) (m4 : Nat) (m5 : Nat) (m6 : Nat) (m7 : Nat) (m8 : Nat) (m9 : Nat) (m10 : Nat) (m11 : Nat) (m12 : Nat) (m13 : Nat) (p0 : Int32)  : CTi l D cI cJ cZ cR yX7_begin cX7_begin 2 (some .int) 1 22 0 0 sz [.ref h0, .int p0] [(h0, .inr (7, [.int 0, .ref m1, .int 0, .ref m2, .ref m3, .ref m4, .ref m5, .int 0, .int 0, .ref m6, .int 0, .int 0, .int 0, .int 0, .ref m7, .int 0, .int 0, .int 0, .int 0, .ref m8, .ref m9, .ref m10, .int 0, .ref m11, .ref m12, .ref m13, .long 0])), (m6, .inl (cI, 12, .inl (fun _ => 0)))] (fun (r : Int32) (u : Unit) => (r = (if p0 < 0 then -1001 else if 2 < p0 then -1001 else 1))) (fun (u : Unit) => []) := by
  refine CTi.of (ty := .int) (by decide) (Nat.le_of_ble_eq_true rfl) rfl ?_
  intro p e s m below meth c A Q ls hd hin hK hsz hP hD hA hS hl hret
  obtain ⟨hx, hb, hml, hown, hts⟩ := id hd
  have hK1 := hK.1
  have hown : s.vm.findClass RX7 = some m.cls := hown
  have hl : lv_has ls 2 [(0, .ref h0), (1, .int p0)] := hl
  refine lv_iload_n hx hb dX7_begin_0 rfl (lv_at hl 1 rfl) ?_
  refine lv_iconst (v := 0) hx hb dX7_begin_1 (by decide) ?_
  refine lv_iconst (v := 2) hx hb dX7_begin_2 (by decide) ?_
  refine xc_i (wc := []) (wr := [(h0, .inr (7, [.int 0, .ref m1, .int 0, .ref m2, .ref m3, .ref m4, .ref m5, .int 0, .int 0, .ref m6, .int 0, .int 0, .int 0, .int 0, .ref m7, .int 0, .int 0, .int 0, .int 0, .ref m8, .ref m9, .ref m10, .int 0, .ref m11, .ref m12, .ref m13, .long 0])), (m6, .inl (cI, 12, .inl (fun _ => 0)))]) (xrS (n := 3) (As := [.int p0, .int 0, .int 2]) (rest := []) hd hK hP hD (c_X7_within l D cI cJ cZ cR _ p0 0 2 ) (gS t_637 mS_X7_within) hS_X7_within ⟨(Nat.le_of_ble_eq_true rfl), (Nat.le_of_ble_eq_true rfl)⟩ [] rfl rfl rfl hl.1 rfl (Nat.le_of_ble_eq_true rfl) dX7_begin_3 ⟨(Nat.le_of_ble_eq_true rfl), (Nat.le_of_ble_eq_true rfl)⟩) hP hD hS hA [] [0, 1] rfl rfl rfl (by decide) (fun r_1 u_2 H locs hw_3 hP hD hS => ?_)
  have hw_4 : r_1 = (if p0 < 0 then 0 else if 2 < p0 then 0 else 1) := hw_3
  subst hw_4
  have hP : va_P D vwCl [(h0, .inr (7, [.int 0, .ref m1, .int 0, .ref m2, .ref m3, .ref m4, .ref m5, .int 0, .int 0, .ref m6, .int 0, .int 0, .int 0, .int 0, .ref m7, .int 0, .int 0, .int 0, .int 0, .ref m8, .ref m9, .ref m10, .int 0, .ref m11, .ref m12, .ref m13, .long 0])), (m6, .inl (cI, 12, .inl (fun _ => 0)))] H := hP
  have hD : va_D A [(h0, .inr (7, [.int 0, .ref m1, .int 0, .ref m2, .ref m3, .ref m4, .ref m5, .int 0, .int 0, .ref m6, .int 0, .int 0, .int 0, .int 0, .ref m7, .int 0, .int 0, .int 0, .int 0, .ref m8, .ref m9, .ref m10, .int 0, .ref m11, .ref m12, .ref m13, .long 0])), (m6, .inl (cI, 12, .inl (fun _ => 0)))] := hD
  refine lv_if_ne (tgt := 13) hx hb dX7_begin_6 (by decide) (fun c_5 => ?_) (fun c_5 => ?_)
  · skip
    refine lv_aload_n hx hb dX7_begin_13 rfl (lv_at hl 0 rfl) ?_
    refine lv_iconst (v := 1) hx hb dX7_begin_14 (by decide) ?_
    refine va_put (D := D) (ci := 7) (v := .int 1) (ty := .int) (C := RX7) (T := TX7) (N := 27) hx hb hts iT_X7 tyX7 tyX7_ok nmX7 hown hK1 hP hD hS 0 rfl rfl 7 (by decide) (hts _ t_558) (fun _ h9 => h9) rfl (by decide +kernel) rfl rfl (Nat.le_of_ble_eq_true rfl) dX7_begin_15 (fun H locs hP hD hS => ?_)
    have hP : va_P D vwCl [(h0, .inr (7, [.int 0, .ref m1, .int 0, .ref m2, .ref m3, .ref m4, .ref m5, .int 1, .int 0, .ref m6, .int 0, .int 0, .int 0, .int 0, .ref m7, .int 0, .int 0, .int 0, .int 0, .ref m8, .ref m9, .ref m10, .int 0, .ref m11, .ref m12, .ref m13, .long 0])), (m6, .inl (cI, 12, .inl (fun _ => 0)))] H := hP
    have hD : va_D A [(h0, .inr (7, [.int 0, .ref m1, .int 0, .ref m2, .ref m3, .ref m4, .ref m5, .int 1, .int 0, .ref m6, .int 0, .int 0, .int 0, .int 0, .ref m7, .int 0, .int 0, .int 0, .int 0, .ref m8, .ref m9, .ref m10, .int 0, .ref m11, .ref m12, .ref m13, .long 0])), (m6, .inl (cI, 12, .inl (fun _ => 0)))] := hD
    refine lv_aload_n hx hb dX7_begin_18 rfl (lv_at hl 0 rfl) ?_
    refine lv_iconst (v := 2) hx hb dX7_begin_19 (by decide) ?_
    refine va_put (D := D) (ci := 7) (v := .int 2) (ty := .int) (C := RX7) (T := TX7) (N := 27) hx hb hts iT_X7 tyX7 tyX7_ok nmX7 hown hK1 hP hD hS 0 rfl rfl 8 (by decide) (hts _ t_559) (fun _ h9 => h9) rfl (by decide +kernel) rfl rfl (Nat.le_of_ble_eq_true rfl) dX7_begin_20 (fun H locs hP hD hS => ?_)
    have hP : va_P D vwCl [(h0, .inr (7, [.int 0, .ref m1, .int 0, .ref m2, .ref m3, .ref m4, .ref m5, .int 1, .int 2, .ref m6, .int 0, .int 0, .int 0, .int 0, .ref m7, .int 0, .int 0, .int 0, .int 0, .ref m8, .ref m9, .ref m10, .int 0, .ref m11, .ref m12, .ref m13, .long 0])), (m6, .inl (cI, 12, .inl (fun _ => 0)))] H := hP
    have hD : va_D A [(h0, .inr (7, [.int 0, .ref m1, .int 0, .ref m2, .ref m3, .ref m4, .ref m5, .int 1, .int 2, .ref m6, .int 0, .int 0, .int 0, .int 0, .ref m7, .int 0, .int 0, .int 0, .int 0, .ref m8, .ref m9, .ref m10, .int 0, .ref m11, .ref m12, .ref m13, .long 0])), (m6, .inl (cI, 12, .inl (fun _ => 0)))] := hD
    refine lv_aload_n hx hb dX7_begin_23 rfl (lv_at hl 0 rfl) ?_
    refine va_get (D := D) (ci := 7) (v := .ref m6) (C := RX7) (T := TX7) (N := 27) hx hb hts iT_X7 hown hK1 hP 0 rfl rfl 9 (by decide) (hts _ t_560) (fun _ h9 => h9) rfl dX7_begin_24 ?_
    refine lv_iconst (v := 0) hx hb dX7_begin_27 (by decide) ?_
    refine lv_bipush (v := 100) hx hb dX7_begin_28 (by decide) ?_
    refine lv_iload_n hx hb dX7_begin_30 rfl (lv_at hl 1 rfl) ?_
    refine lv_imul hx hb dX7_begin_31 ?_
    refine lv_iconst (v := 1) hx hb dX7_begin_32 (by decide) ?_
    refine lv_iadd hx hb dX7_begin_33 ?_
    refine va_iast hx hb hK1 hP hD hS 1 0 rfl rfl (vin (by decide)) dX7_begin_34 (fun H locs hP hD hS => ?_)
    have hP : va_P D vwCl [(h0, .inr (7, [.int 0, .ref m1, .int 0, .ref m2, .ref m3, .ref m4, .ref m5, .int 1, .int 2, .ref m6, .int 0, .int 0, .int 0, .int 0, .ref m7, .int 0, .int 0, .int 0, .int 0, .ref m8, .ref m9, .ref m10, .int 0, .ref m11, .ref m12, .ref m13, .long 0])), (m6, .inl (cI, 12, .inl (upd (fun _ => 0) 0 ((100 * p0) + 1))))] H := hP
    have hD : va_D A [(h0, .inr (7, [.int 0, .ref m1, .int 0, .ref m2, .ref m3, .ref m4, .ref m5, .int 1, .int 2, .ref m6, .int 0, .int 0, .int 0, .int 0, .ref m7, .int 0, .int 0, .int 0, .int 0, .ref m8, .ref m9, .ref m10, .int 0, .ref m11, .ref m12, .ref m13, .long 0])), (m6, .inl (cI, 12, .inl (upd (fun _ => 0) 0 ((100 * p0) + 1))))] := hD
    refine lv_aload_n hx hb dX7_begin_35 rfl (lv_at hl 0 rfl) ?_
    refine lv_iconst (v := 0) hx hb dX7_begin_36 (by decide) ?_
    refine va_put (D := D) (ci := 7) (v := .int 0) (ty := .int) (C := RX7) (T := TX7) (N := 27) hx hb hts iT_X7 tyX7 tyX7_ok nmX7 hown hK1 hP hD hS 0 rfl rfl 10 (by decide) (hts _ t_561) (fun _ h9 => h9) rfl (by decide +kernel) rfl rfl (Nat.le_of_ble_eq_true rfl) dX7_begin_37 (fun H locs hP hD hS => ?_)
    have hP : va_P D vwCl [(h0, .inr (7, [.int 0, .ref m1, .int 0, .ref m2, .ref m3, .ref m4, .ref m5, .int 1, .int 2, .ref m6, .int 0, .int 0, .int 0, .int 0, .ref m7, .int 0, .int 0, .int 0, .int 0, .ref m8, .ref m9, .ref m10, .int 0, .ref m11, .ref m12, .ref m13, .long 0])), (m6, .inl (cI, 12, .inl (upd (fun _ => 0) 0 ((100 * p0) + 1))))] H := hP
    have hD : va_D A [(h0, .inr (7, [.int 0, .ref m1, .int 0, .ref m2, .ref m3, .ref m4, .ref m5, .int 1, .int 2, .ref m6, .int 0, .int 0, .int 0, .int 0, .ref m7, .int 0, .int 0, .int 0, .int 0, .ref m8, .ref m9, .ref m10, .int 0, .ref m11, .ref m12, .ref m13, .long 0])), (m6, .inl (cI, 12, .inl (upd (fun _ => 0) 0 ((100 * p0) + 1))))] := hD
    refine lv_aload_n hx hb dX7_begin_40 rfl (lv_at hl 0 rfl) ?_
    refine lv_dup hx hb dX7_begin_41 rfl ?_
    refine va_get (D := D) (ci := 7) (v := .int 0) (C := RX7) (T := TX7) (N := 27) hx hb hts iT_X7 hown hK1 hP 0 rfl rfl 12 (by decide) (hts _ t_563) (fun _ h9 => h9) rfl dX7_begin_42 ?_
    refine lv_iconst (v := 1) hx hb dX7_begin_45 (by decide) ?_
    refine lv_iadd hx hb dX7_begin_46 ?_
    refine lv_nmi (show _ = (1 : Int32) from by decide +kernel) ?_
    refine va_put (D := D) (ci := 7) (v := .int 1) (ty := .int) (C := RX7) (T := TX7) (N := 27) hx hb hts iT_X7 tyX7 tyX7_ok nmX7 hown hK1 hP hD hS 0 rfl rfl 12 (by decide) (hts _ t_563) (fun _ h9 => h9) rfl (by decide +kernel) rfl rfl (Nat.le_of_ble_eq_true rfl) dX7_begin_47 (fun H locs hP hD hS => ?_)
    have hP : va_P D vwCl [(h0, .inr (7, [.int 0, .ref m1, .int 0, .ref m2, .ref m3, .ref m4, .ref m5, .int 1, .int 2, .ref m6, .int 0, .int 0, .int 1, .int 0, .ref m7, .int 0, .int 0, .int 0, .int 0, .ref m8, .ref m9, .ref m10, .int 0, .ref m11, .ref m12, .ref m13, .long 0])), (m6, .inl (cI, 12, .inl (upd (fun _ => 0) 0 ((100 * p0) + 1))))] H := hP
    have hD : va_D A [(h0, .inr (7, [.int 0, .ref m1, .int 0, .ref m2, .ref m3, .ref m4, .ref m5, .int 1, .int 2, .ref m6, .int 0, .int 0, .int 1, .int 0, .ref m7, .int 0, .int 0, .int 0, .int 0, .ref m8, .ref m9, .ref m10, .int 0, .ref m11, .ref m12, .ref m13, .long 0])), (m6, .inl (cI, 12, .inl (upd (fun _ => 0) 0 ((100 * p0) + 1))))] := hD
    refine lv_aload_n hx hb dX7_begin_50 rfl (lv_at hl 0 rfl) ?_
    refine xc_v (wc := [(h0, .inr (7, [.int 0, .ref m1, .int 0, .ref m2, .ref m3, .ref m4, .ref m5, .int 1, .int 2, .ref m6, .int 0, .int 0, .int 1, .int 0, .ref m7, .int 0, .int 0, .int 0, .int 0, .ref m8, .ref m9, .ref m10, .int 0, .ref m11, .ref m12, .ref m13, .long 0]))]) (wr := [(m6, .inl (cI, 12, .inl (upd (fun _ => 0) 0 ((100 * p0) + 1))))]) (xrV (n := 0) (As := []) (rest := []) (ci := 7) (q0 := 0) hd hK hP hD (c_X7_altered l D cI cJ cZ cR _ h0 m1 m2 m3 m4 m5 m6 m7 m8 m9 m10 m11 m12 m13 0 0 ) (gV t_677 mV_X7_altered) hV_X7_altered ⟨(Nat.le_of_ble_eq_true rfl), (Nat.le_of_ble_eq_true rfl)⟩ rfl rfl [0] rfl rfl rfl hl.1 rfl (Nat.le_of_ble_eq_true rfl) dX7_begin_51 ⟨(Nat.le_of_ble_eq_true rfl), (Nat.le_of_ble_eq_true rfl)⟩) hP hD hS hA [0] [1] rfl rfl rfl (by decide) (fun u_7 H locs hw_8 hP hD hS => ?_)
    have hP : va_P D vwCl [(m6, .inl (cI, 12, .inl (upd (fun _ => 0) 0 ((100 * p0) + 1)))), (h0, .inr (7, [.int 0, .ref m1, .int 0, .ref m2, .ref m3, .ref m4, .ref m5, .int 1, .int 2, .ref m6, .int 0, .int 0, .int 1, .int 0, .ref m7, .int 0, .int 0, .int 0, .int 0, .ref m8, .ref m9, .ref m10, .int 0, .ref m11, .ref m12, .ref m13, .long 0]))] H := hP
    have hD : va_D A [(m6, .inl (cI, 12, .inl (upd (fun _ => 0) 0 ((100 * p0) + 1)))), (h0, .inr (7, [.int 0, .ref m1, .int 0, .ref m2, .ref m3, .ref m4, .ref m5, .int 1, .int 2, .ref m6, .int 0, .int 0, .int 1, .int 0, .ref m7, .int 0, .int 0, .int 0, .int 0, .ref m8, .ref m9, .ref m10, .int 0, .ref m11, .ref m12, .ref m13, .long 0]))] := hD
    refine lv_iconst (v := 1) hx hb dX7_begin_54 (by decide) ?_
    exact hret _ _ _ _ _ _ 1 () dX7_begin_55 rfl hS (Nat.le_of_ble_eq_true rfl) (Nat.le_of_ble_eq_true rfl) (itz1 c_5) (hP.sub [] rfl) (hD.sub [] rfl rfl)
  · skip
    refine lv_sipush (v := -1001) hx hb dX7_begin_9 (by decide) ?_
    exact hret _ _ _ _ _ _ (-1001) () dX7_begin_12 rfl hS (Nat.le_of_ble_eq_true rfl) (Nat.le_of_ble_eq_true rfl) (itz0 c_5) (hP.sub [] rfl) (hD.sub [] rfl rfl)
set_option maxHeartbeats 4000000 in
set_option maxRecDepth 100000 in
theorem c_X7_opens (sz : Nat) (h0 : Nat) (m1 : Nat) (m2 : Nat) (m3 : Nat) (m4 : Nat) (m5 : Nat) (m6 : Nat) (m7 : Nat) (m8 : Nat) (m9 : Nat) (m10 : Nat) (m11 : Nat) (m12 : Nat) (m13 : Nat) (hv : Int64) (lsv : Int32)  : CTi l D cI cJ cZ cR yX7_opens cX7_opens 3 (some .int) 0 0 0 0 sz [.ref h0] [(h0, .inr (7, [.int 0, .ref m1, .int 0, .ref m2, .ref m3, .ref m4, .ref m5, .int 0, .int 0, .ref m6, .int 0, .int 0, .int 0, .int 0, .ref m7, .int 0, .int 0, .int 0, .int 0, .ref m8, .ref m9, .ref m10, .int lsv, .ref m11, .ref m12, .ref m13, .long hv]))] (fun (r : Int32) (u : Unit) => (r = 0)) (fun (u : Unit) => [(h0, .inr (7, [.int 0, .ref m1, .int 0, .ref m2, .ref m3, .ref m4, .ref m5, .int 0, .int 0, .ref m6, .int 0, .int 0, .int 0, .int 0, .ref m7, .int 0, .int 0, .int 0, .int 0, .ref m8, .ref m9, .ref m10, .int lsv, .ref m11, .ref m12, .ref m13, .long hv]))]) := by
  refine CTi.of (ty := .int) (by decide) (Nat.le_of_ble_eq_true rfl) rfl ?_
  intro p e s m below meth c A Q ls hd hin hK hsz hP hD hA hS hl hret
  obtain ⟨hx, hb, hml, hown, hts⟩ := id hd
  have hK1 := hK.1
  have hown : s.vm.findClass RX7 = some m.cls := hown
  have hl : lv_has ls 3 [(0, .ref h0)] := hl
  refine lv_iconst (v := 0) hx hb dX7_opens_0 (by decide) ?_
  refine lv_istore_n (lv' := [(1, .int 0), (0, .ref h0)]) hx hb dX7_opens_1 rfl hl (by decide) rfl (fun ls hl => ?_)
  refine lv_iconst (v := 0) hx hb dX7_opens_2 (by decide) ?_
  refine lv_istore_n (lv' := [(2, .int 0), (1, .int 0), (0, .ref h0)]) hx hb dX7_opens_3 rfl hl (by decide) rfl (fun ls hl => ?_)
  refine lv_iload_n hx hb dX7_opens_4 rfl (lv_at hl 0 rfl) ?_
  refine lv_aload_n hx hb dX7_opens_5 rfl (lv_at hl 2 rfl) ?_
  refine va_get (D := D) (ci := 7) (v := .int 0) (C := RX7) (T := TX7) (N := 27) hx hb hts iT_X7 hown hK1 hP 0 rfl rfl 7 (by decide) (hts _ t_558) (fun _ h9 => h9) rfl dX7_opens_6 ?_
  refine lv_icmp_ge (tgt := 39) hx hb dX7_opens_9 (by decide) (fun c_1 => ?_) (fun c_1 => ?_)
  rotate_left
  · exact absurd c_1 (by decide)
  refine lv_iload_n hx hb dX7_opens_39 rfl (lv_at hl 1 rfl) ?_
  exact hret _ _ _ _ _ _ 0 () dX7_opens_40 rfl hS (Nat.le_of_ble_eq_true rfl) (Nat.le_of_ble_eq_true rfl) rfl (hP.sub [0] rfl) (hD.sub [0] rfl rfl)
set_option maxHeartbeats 4000000 in
set_option maxRecDepth 100000 in
theorem c_X7_isDone (sz : Nat) (h0 : Nat) (m1 : Nat) (m2 : Nat) (m3 : Nat) (m4 : Nat) (m5 : Nat) (m6 : Nat) (m7 : Nat) (m8 : Nat) (m9 : Nat) (m10 : Nat) (m11 : Nat) (m12 : Nat) (m13 : Nat) (hv : Int64) (lsv : Int32)  : CTi l D cI cJ cZ cR yX7_isDone cX7_isDone 1 (some .boolean) 0 0 0 0 sz [.ref h0] [(h0, .inr (7, [.int 0, .ref m1, .int 0, .ref m2, .ref m3, .ref m4, .ref m5, .int 0, .int 0, .ref m6, .int 0, .int 0, .int 0, .int 0, .ref m7, .int 0, .int 0, .int 0, .int 0, .ref m8, .ref m9, .ref m10, .int lsv, .ref m11, .ref m12, .ref m13, .long hv]))] (fun (r : Int32) (u : Unit) => (r = 0)) (fun (u : Unit) => [(h0, .inr (7, [.int 0, .ref m1, .int 0, .ref m2, .ref m3, .ref m4, .ref m5, .int 0, .int 0, .ref m6, .int 0, .int 0, .int 0, .int 0, .ref m7, .int 0, .int 0, .int 0, .int 0, .ref m8, .ref m9, .ref m10, .int lsv, .ref m11, .ref m12, .ref m13, .long hv]))]) := by
  refine CTi.of (ty := .boolean) (by decide) (Nat.le_of_ble_eq_true rfl) rfl ?_
  intro p e s m below meth c A Q ls hd hin hK hsz hP hD hA hS hl hret
  obtain ⟨hx, hb, hml, hown, hts⟩ := id hd
  have hK1 := hK.1
  have hown : s.vm.findClass RX7 = some m.cls := hown
  have hl : lv_has ls 1 [(0, .ref h0)] := hl
  refine lv_aload_n hx hb dX7_isDone_0 rfl (lv_at hl 0 rfl) ?_
  refine va_get (D := D) (ci := 7) (v := .int 0) (C := RX7) (T := TX7) (N := 27) hx hb hts iT_X7 hown hK1 hP 0 rfl rfl 7 (by decide) (hts _ t_558) (fun _ h9 => h9) rfl dX7_isDone_1 ?_
  refine lv_if_le (tgt := 18) hx hb dX7_isDone_4 (by decide) (fun c_1 => ?_) (fun c_1 => ?_)
  rotate_left
  · exact absurd c_1 (by decide)
  refine lv_iconst (v := 0) hx hb dX7_isDone_18 (by decide) ?_
  exact hret _ _ _ _ _ _ 0 () dX7_isDone_19 rfl hS (Nat.le_of_ble_eq_true rfl) (Nat.le_of_ble_eq_true rfl) rfl (hP.sub [0] rfl) (hD.sub [0] rfl rfl)
set_option maxHeartbeats 4000000 in
set_option maxRecDepth 100000 in
theorem c_X7_kind (sz : Nat) (h0 : Nat) (m1 : Nat) (m2 : Nat) (m3 : Nat) (m4 : Nat) (m5 : Nat) (m6 : Nat) (m7 : Nat) (m8 : Nat) (m9 : Nat) (m10 : Nat) (m11 : Nat) (m12 : Nat) (m13 : Nat) (hv : Int64) (lsv : Int32)  : CTi l D cI cJ cZ cR yX7_kind cX7_kind 1 (some .int) 1 20 0 0 sz [.ref h0] [(h0, .inr (7, [.int 0, .ref m1, .int 0, .ref m2, .ref m3, .ref m4, .ref m5, .int 0, .int 0, .ref m6, .int 0, .int 0, .int 0, .int 0, .ref m7, .int 0, .int 0, .int 0, .int 0, .ref m8, .ref m9, .ref m10, .int lsv, .ref m11, .ref m12, .ref m13, .long hv]))] (fun (r : Int32) (u : Unit) => (r = (-1003))) (fun (u : Unit) => [(h0, .inr (7, [.int 0, .ref m1, .int 0, .ref m2, .ref m3, .ref m4, .ref m5, .int 0, .int 0, .ref m6, .int 0, .int 0, .int 0, .int 0, .ref m7, .int 0, .int 0, .int 0, .int 0, .ref m8, .ref m9, .ref m10, .int lsv, .ref m11, .ref m12, .ref m13, .long hv]))]) := by
  refine CTi.of (ty := .int) (by decide) (Nat.le_of_ble_eq_true rfl) rfl ?_
  intro p e s m below meth c A Q ls hd hin hK hsz hP hD hA hS hl hret
  obtain ⟨hx, hb, hml, hown, hts⟩ := id hd
  have hK1 := hK.1
  have hown : s.vm.findClass RX7 = some m.cls := hown
  have hl : lv_has ls 1 [(0, .ref h0)] := hl
  refine lv_aload_n hx hb dX7_kind_0 rfl (lv_at hl 0 rfl) ?_
  refine xc_i (wc := [(h0, .inr (7, [.int 0, .ref m1, .int 0, .ref m2, .ref m3, .ref m4, .ref m5, .int 0, .int 0, .ref m6, .int 0, .int 0, .int 0, .int 0, .ref m7, .int 0, .int 0, .int 0, .int 0, .ref m8, .ref m9, .ref m10, .int lsv, .ref m11, .ref m12, .ref m13, .long hv]))]) (wr := []) (xrV (n := 0) (As := []) (rest := []) (ci := 7) (q0 := 0) hd hK hP hD (c_X7_isDone l D cI cJ cZ cR _ h0 m1 m2 m3 m4 m5 m6 m7 m8 m9 m10 m11 m12 m13 hv lsv ) (gV t_734 mV_X7_isDone) hV_X7_isDone ⟨(Nat.le_of_ble_eq_true rfl), (Nat.le_of_ble_eq_true rfl)⟩ rfl rfl [0] rfl rfl rfl hl.1 rfl (Nat.le_of_ble_eq_true rfl) dX7_kind_1 ⟨(Nat.le_of_ble_eq_true rfl), (Nat.le_of_ble_eq_true rfl)⟩) hP hD hS hA [0] [] rfl rfl rfl (by decide) (fun r_1 u_2 H locs hw_3 hP hD hS => ?_)
  have hw_4 : r_1 = 0 := hw_3
  subst hw_4
  have hP : va_P D vwCl [(h0, .inr (7, [.int 0, .ref m1, .int 0, .ref m2, .ref m3, .ref m4, .ref m5, .int 0, .int 0, .ref m6, .int 0, .int 0, .int 0, .int 0, .ref m7, .int 0, .int 0, .int 0, .int 0, .ref m8, .ref m9, .ref m10, .int lsv, .ref m11, .ref m12, .ref m13, .long hv]))] H := hP
  have hD : va_D A [(h0, .inr (7, [.int 0, .ref m1, .int 0, .ref m2, .ref m3, .ref m4, .ref m5, .int 0, .int 0, .ref m6, .int 0, .int 0, .int 0, .int 0, .ref m7, .int 0, .int 0, .int 0, .int 0, .ref m8, .ref m9, .ref m10, .int lsv, .ref m11, .ref m12, .ref m13, .long hv]))] := hD
  refine lv_if_eq (tgt := 14) hx hb dX7_kind_4 (by decide) (fun c_5 => ?_) (fun c_5 => ?_)
  rotate_left
  · exact absurd c_5 (by decide)
  refine lv_sipush (v := -1003) hx hb dX7_kind_14 (by decide) ?_
  exact hret _ _ _ _ _ _ (-1003) () dX7_kind_17 rfl hS (Nat.le_of_ble_eq_true rfl) (Nat.le_of_ble_eq_true rfl) rfl (hP.sub [0] rfl) (hD.sub [0] rfl rfl)
set_option maxHeartbeats 4000000 in
set_option maxRecDepth 100000 in
theorem c_X7_fewestNow (sz : Nat) (h0 : Nat) (m1 : Nat) (m2 : Nat) (m3 : Nat) (m4 : Nat) (m5 : Nat) (m6 : Nat) (m7 : Nat) (m8 : Nat) (m9 : Nat) (m10 : Nat) (m11 : Nat) (m12 : Nat) (m13 : Nat) (hv : Int64) (lsv : Int32) (p0 : Int32)  : CTi l D cI cJ cZ cR yX7_fewestNow cX7_fewestNow 3 (some .int) 1 20 0 0 sz [.ref h0, .int p0] [(h0, .inr (7, [.int 0, .ref m1, .int 0, .ref m2, .ref m3, .ref m4, .ref m5, .int 0, .int 0, .ref m6, .int 0, .int 0, .int 0, .int 0, .ref m7, .int 0, .int 0, .int 0, .int 0, .ref m8, .ref m9, .ref m10, .int lsv, .ref m11, .ref m12, .ref m13, .long hv]))] (fun (r : Int32) (u : Unit) => (r = (-1003))) (fun (u : Unit) => [(h0, .inr (7, [.int 0, .ref m1, .int 0, .ref m2, .ref m3, .ref m4, .ref m5, .int 0, .int 0, .ref m6, .int 0, .int 0, .int 0, .int 0, .ref m7, .int 0, .int 0, .int 0, .int 0, .ref m8, .ref m9, .ref m10, .int lsv, .ref m11, .ref m12, .ref m13, .long hv]))]) := by
  refine CTi.of (ty := .int) (by decide) (Nat.le_of_ble_eq_true rfl) rfl ?_
  intro p e s m below meth c A Q ls hd hin hK hsz hP hD hA hS hl hret
  obtain ⟨hx, hb, hml, hown, hts⟩ := id hd
  have hK1 := hK.1
  have hown : s.vm.findClass RX7 = some m.cls := hown
  have hl : lv_has ls 3 [(0, .ref h0), (1, .int p0)] := hl
  refine lv_aload_n hx hb dX7_fewestNow_0 rfl (lv_at hl 0 rfl) ?_
  refine xc_i (wc := [(h0, .inr (7, [.int 0, .ref m1, .int 0, .ref m2, .ref m3, .ref m4, .ref m5, .int 0, .int 0, .ref m6, .int 0, .int 0, .int 0, .int 0, .ref m7, .int 0, .int 0, .int 0, .int 0, .ref m8, .ref m9, .ref m10, .int lsv, .ref m11, .ref m12, .ref m13, .long hv]))]) (wr := []) (xrV (n := 0) (As := []) (rest := []) (ci := 7) (q0 := 0) hd hK hP hD (c_X7_isDone l D cI cJ cZ cR _ h0 m1 m2 m3 m4 m5 m6 m7 m8 m9 m10 m11 m12 m13 hv lsv ) (gV t_734 mV_X7_isDone) hV_X7_isDone ⟨(Nat.le_of_ble_eq_true rfl), (Nat.le_of_ble_eq_true rfl)⟩ rfl rfl [0] rfl rfl rfl hl.1 rfl (Nat.le_of_ble_eq_true rfl) dX7_fewestNow_1 ⟨(Nat.le_of_ble_eq_true rfl), (Nat.le_of_ble_eq_true rfl)⟩) hP hD hS hA [0] [] rfl rfl rfl (by decide) (fun r_1 u_2 H locs hw_3 hP hD hS => ?_)
  have hw_4 : r_1 = 0 := hw_3
  subst hw_4
  have hP : va_P D vwCl [(h0, .inr (7, [.int 0, .ref m1, .int 0, .ref m2, .ref m3, .ref m4, .ref m5, .int 0, .int 0, .ref m6, .int 0, .int 0, .int 0, .int 0, .ref m7, .int 0, .int 0, .int 0, .int 0, .ref m8, .ref m9, .ref m10, .int lsv, .ref m11, .ref m12, .ref m13, .long hv]))] H := hP
  have hD : va_D A [(h0, .inr (7, [.int 0, .ref m1, .int 0, .ref m2, .ref m3, .ref m4, .ref m5, .int 0, .int 0, .ref m6, .int 0, .int 0, .int 0, .int 0, .ref m7, .int 0, .int 0, .int 0, .int 0, .ref m8, .ref m9, .ref m10, .int lsv, .ref m11, .ref m12, .ref m13, .long hv]))] := hD
  refine lv_if_eq (tgt := 23) hx hb dX7_fewestNow_4 (by decide) (fun c_5 => ?_) (fun c_5 => ?_)
  rotate_left
  · exact absurd c_5 (by decide)
  refine lv_sipush (v := -1003) hx hb dX7_fewestNow_23 (by decide) ?_
  exact hret _ _ _ _ _ _ (-1003) () dX7_fewestNow_26 rfl hS (Nat.le_of_ble_eq_true rfl) (Nat.le_of_ble_eq_true rfl) rfl (hP.sub [0] rfl) (hD.sub [0] rfl rfl)
set_option maxHeartbeats 4000000 in
set_option maxRecDepth 100000 in
theorem c_X7_fewest (sz : Nat) (h0 : Nat) (m1 : Nat) (m2 : Nat) (m3 : Nat) (m4 : Nat) (m5 : Nat) (m6 : Nat) (m7 : Nat) (m8 : Nat) (m9 : Nat) (m10 : Nat) (m11 : Nat) (m12 : Nat) (m13 : Nat) (hv : Int64) (lsv : Int32) (p0 : Int32)  : CTi l D cI cJ cZ cR yX7_fewest cX7_fewest 2 (some .int) 2 42 0 0 sz [.ref h0, .int p0] [(h0, .inr (7, [.int 0, .ref m1, .int 0, .ref m2, .ref m3, .ref m4, .ref m5, .int 0, .int 0, .ref m6, .int 0, .int 0, .int 0, .int 0, .ref m7, .int 0, .int 0, .int 0, .int 0, .ref m8, .ref m9, .ref m10, .int lsv, .ref m11, .ref m12, .ref m13, .long hv]))] (fun (r : Int32) (u : Unit) => (r = (if p0 < 0 then -1001 else if 2 < p0 then -1001 else -1003))) (fun (u : Unit) => [(h0, .inr (7, [.int 0, .ref m1, .int 0, .ref m2, .ref m3, .ref m4, .ref m5, .int 0, .int 0, .ref m6, .int 0, .int 0, .int 0, .int 0, .ref m7, .int 0, .int 0, .int 0, .int 0, .ref m8, .ref m9, .ref m10, .int lsv, .ref m11, .ref m12, .ref m13, .long hv]))]) := by
  refine CTi.of (ty := .int) (by decide) (Nat.le_of_ble_eq_true rfl) rfl ?_
  intro p e s m below meth c A Q ls hd hin hK hsz hP hD hA hS hl hret
  obtain ⟨hx, hb, hml, hown, hts⟩ := id hd
  have hK1 := hK.1
  have hown : s.vm.findClass RX7 = some m.cls := hown
  have hl : lv_has ls 2 [(0, .ref h0), (1, .int p0)] := hl
  refine lv_iload_n hx hb dX7_fewest_0 rfl (lv_at hl 1 rfl) ?_
  refine lv_iconst (v := 0) hx hb dX7_fewest_1 (by decide) ?_
  refine lv_iconst (v := 2) hx hb dX7_fewest_2 (by decide) ?_
  refine xc_i (wc := []) (wr := [(h0, .inr (7, [.int 0, .ref m1, .int 0, .ref m2, .ref m3, .ref m4, .ref m5, .int 0, .int 0, .ref m6, .int 0, .int 0, .int 0, .int 0, .ref m7, .int 0, .int 0, .int 0, .int 0, .ref m8, .ref m9, .ref m10, .int lsv, .ref m11, .ref m12, .ref m13, .long hv]))]) (xrS (n := 3) (As := [.int p0, .int 0, .int 2]) (rest := []) hd hK hP hD (c_X7_within l D cI cJ cZ cR _ p0 0 2 ) (gS t_637 mS_X7_within) hS_X7_within ⟨(Nat.le_of_ble_eq_true rfl), (Nat.le_of_ble_eq_true rfl)⟩ [] rfl rfl rfl hl.1 rfl (Nat.le_of_ble_eq_true rfl) dX7_fewest_3 ⟨(Nat.le_of_ble_eq_true rfl), (Nat.le_of_ble_eq_true rfl)⟩) hP hD hS hA [] [0] rfl rfl rfl (by decide) (fun r_1 u_2 H locs hw_3 hP hD hS => ?_)
  have hw_4 : r_1 = (if p0 < 0 then 0 else if 2 < p0 then 0 else 1) := hw_3
  subst hw_4
  have hP : va_P D vwCl [(h0, .inr (7, [.int 0, .ref m1, .int 0, .ref m2, .ref m3, .ref m4, .ref m5, .int 0, .int 0, .ref m6, .int 0, .int 0, .int 0, .int 0, .ref m7, .int 0, .int 0, .int 0, .int 0, .ref m8, .ref m9, .ref m10, .int lsv, .ref m11, .ref m12, .ref m13, .long hv]))] H := hP
  have hD : va_D A [(h0, .inr (7, [.int 0, .ref m1, .int 0, .ref m2, .ref m3, .ref m4, .ref m5, .int 0, .int 0, .ref m6, .int 0, .int 0, .int 0, .int 0, .ref m7, .int 0, .int 0, .int 0, .int 0, .ref m8, .ref m9, .ref m10, .int lsv, .ref m11, .ref m12, .ref m13, .long hv]))] := hD
  refine lv_if_eq (tgt := 17) hx hb dX7_fewest_6 (by decide) (fun c_5 => ?_) (fun c_5 => ?_)
  · skip
    refine lv_sipush (v := -1001) hx hb dX7_fewest_17 (by decide) ?_
    exact hret _ _ _ _ _ _ (-1001) () dX7_fewest_20 rfl hS (Nat.le_of_ble_eq_true rfl) (Nat.le_of_ble_eq_true rfl) (itz0 c_5) (hP.sub [0] rfl) (hD.sub [0] rfl rfl)
  · skip
    refine lv_aload_n hx hb dX7_fewest_9 rfl (lv_at hl 0 rfl) ?_
    refine lv_iload_n hx hb dX7_fewest_10 rfl (lv_at hl 1 rfl) ?_
    refine xc_i (wc := [(h0, .inr (7, [.int 0, .ref m1, .int 0, .ref m2, .ref m3, .ref m4, .ref m5, .int 0, .int 0, .ref m6, .int 0, .int 0, .int 0, .int 0, .ref m7, .int 0, .int 0, .int 0, .int 0, .ref m8, .ref m9, .ref m10, .int lsv, .ref m11, .ref m12, .ref m13, .long hv]))]) (wr := []) (xrV (n := 1) (As := [.int p0]) (rest := []) (ci := 7) (q0 := 0) hd hK hP hD (c_X7_fewestNow l D cI cJ cZ cR _ h0 m1 m2 m3 m4 m5 m6 m7 m8 m9 m10 m11 m12 m13 hv lsv p0 ) (gV t_758 mV_X7_fewestNow) hV_X7_fewestNow ⟨(Nat.le_of_ble_eq_true rfl), (Nat.le_of_ble_eq_true rfl)⟩ rfl rfl [0] rfl rfl rfl hl.1 rfl (Nat.le_of_ble_eq_true rfl) dX7_fewest_11 ⟨(Nat.le_of_ble_eq_true rfl), (Nat.le_of_ble_eq_true rfl)⟩) hP hD hS hA [0] [] rfl rfl rfl (by decide) (fun r_6 u_7 H locs hw_8 hP hD hS => ?_)
    have hw_9 : r_6 = (-1003) := hw_8
    subst hw_9
    have hP : va_P D vwCl [(h0, .inr (7, [.int 0, .ref m1, .int 0, .ref m2, .ref m3, .ref m4, .ref m5, .int 0, .int 0, .ref m6, .int 0, .int 0, .int 0, .int 0, .ref m7, .int 0, .int 0, .int 0, .int 0, .ref m8, .ref m9, .ref m10, .int lsv, .ref m11, .ref m12, .ref m13, .long hv]))] H := hP
    have hD : va_D A [(h0, .inr (7, [.int 0, .ref m1, .int 0, .ref m2, .ref m3, .ref m4, .ref m5, .int 0, .int 0, .ref m6, .int 0, .int 0, .int 0, .int 0, .ref m7, .int 0, .int 0, .int 0, .int 0, .ref m8, .ref m9, .ref m10, .int lsv, .ref m11, .ref m12, .ref m13, .long hv]))] := hD
    refine lv_goto (tgt := 20) hx hb dX7_fewest_14 (by decide) ?_
    exact hret _ _ _ _ _ _ (-1003) () dX7_fewest_20 rfl hS (Nat.le_of_ble_eq_true rfl) (Nat.le_of_ble_eq_true rfl) (itz1 c_5) (hP.sub [0] rfl) (hD.sub [0] rfl rfl)
set_option maxHeartbeats 4000000 in
set_option maxRecDepth 100000 in
theorem c_X7_classOf (sz : Nat) (p0 : Int32)  : CTi l D cI cJ cZ cR yX7_classOf cX7_classOf 1 (some .int) 0 0 0 0 sz [.int p0] [] (fun (r : Int32) (u : Unit) => (r = (if p0 = 3 then 9 else 15))) (fun (u : Unit) => []) := by
  refine CTi.of (ty := .int) (by decide) (Nat.le_of_ble_eq_true rfl) rfl ?_
  intro p e s m below meth c A Q ls hd hin hK hsz hP hD hA hS hl hret
  obtain ⟨hx, hb, hml, hown, hts⟩ := id hd
  have hK1 := hK.1
  have hown : s.vm.findClass RX7 = some m.cls := hown
  have hl : lv_has ls 1 [(0, .int p0)] := hl
  refine lv_iload_n hx hb dX7_classOf_0 rfl (lv_at hl 0 rfl) ?_
  refine lv_iconst (v := 3) hx hb dX7_classOf_1 (by decide) ?_
  refine lv_icmp_ne (tgt := 10) hx hb dX7_classOf_2 (by decide) (fun c_1 => ?_) (fun c_1 => ?_)
  · skip
    refine lv_bipush (v := 15) hx hb dX7_classOf_10 (by decide) ?_
    exact hret _ _ _ _ _ _ 15 () dX7_classOf_12 rfl hS (Nat.le_of_ble_eq_true rfl) (Nat.le_of_ble_eq_true rfl) (by simp [c_1]) (hP.sub [] rfl) (hD.sub [] rfl rfl)
  · skip
    refine lv_bipush (v := 9) hx hb dX7_classOf_5 (by decide) ?_
    refine lv_goto (tgt := 12) hx hb dX7_classOf_7 (by decide) ?_
    exact hret _ _ _ _ _ _ 9 () dX7_classOf_12 rfl hS (Nat.le_of_ble_eq_true rfl) (Nat.le_of_ble_eq_true rfl) (by simp [c_1]) (hP.sub [] rfl) (hD.sub [] rfl rfl)
set_option maxHeartbeats 4000000 in
set_option maxRecDepth 100000 in
theorem c_layL_0 (sz : Nat) (h0 : Nat) (m1 : Nat) (m2 : Nat) (m3 : Nat) (m4 : Nat) (m5 : Nat) (m6 : Nat) (m7 : Nat) (m8 : Nat) (m9 : Nat) (m10 : Nat) (m11 : Nat) (m12 : Nat) (m13 : Nat) (hv : Int64) (ll : Nat → Int64) (fl : Nat → Int32)  : CTv l D cI cJ cZ cR yX7_layLights cX7_layLights 3 none 1 20 0 0 sz [.ref h0] [(h0, .inr (7, [.int 0, .ref m1, .int 0, .ref m2, .ref m3, .ref m4, .ref m5, .int 0, .int 0, .ref m6, .int 0, .int 0, .int 0, .int 0, .ref m7, .int 0, .int 0, .int 0, .int 0, .ref m8, .ref m9, .ref m10, .int 0, .ref m11, .ref m12, .ref m13, .long hv])), (m11, .inl (cJ, 80, .inr (.inl ll))), (m12, .inl (cI, 48, .inl fl))] (fun (u : (Nat → Int64) × (Nat → Int32)) => (Lm u.1 u.2)) (fun (u : (Nat → Int64) × (Nat → Int32)) => [(h0, .inr (7, [.int 0, .ref m1, .int 0, .ref m2, .ref m3, .ref m4, .ref m5, .int 0, .int 0, .ref m6, .int 0, .int 0, .int 0, .int 0, .ref m7, .int 0, .int 0, .int 0, .int 0, .ref m8, .ref m9, .ref m10, .int 1, .ref m11, .ref m12, .ref m13, .long hv])), (m11, .inl (cJ, 80, .inr (.inl u.1))), (m12, .inl (cI, 48, .inl u.2))]) := by
  refine CTv.of (by decide) (Nat.le_of_ble_eq_true rfl) rfl ?_
  intro p e s m below meth c A Q ls hd hin hK hsz hP hD hA hS hl hret
  obtain ⟨hx, hb, hml, hown, hts⟩ := id hd
  have hK1 := hK.1
  have hown : s.vm.findClass RX7 = some m.cls := hown
  have hl : lv_has ls 3 [(0, .ref h0)] := hl
  refine lv_aload_n hx hb dX7_layLights_0 rfl (lv_at hl 0 rfl) ?_
  refine va_get (D := D) (ci := 7) (v := .int 0) (C := RX7) (T := TX7) (N := 27) hx hb hts iT_X7 hown hK1 hP 0 rfl rfl 22 (by decide) (hts _ t_573) (fun _ h9 => h9) rfl dX7_layLights_1 ?_
  refine lv_if_eq (tgt := 8) hx hb dX7_layLights_4 (by decide) (fun c_1 => ?_) (fun c_1 => ?_)
  rotate_left
  · exact absurd c_1 (by decide)
  refine lv_aload_n hx hb dX7_layLights_8 rfl (lv_at hl 0 rfl) ?_
  refine lv_iconst (v := 1) hx hb dX7_layLights_9 (by decide) ?_
  refine va_put (D := D) (ci := 7) (v := .int 1) (ty := .boolean) (C := RX7) (T := TX7) (N := 27) hx hb hts iT_X7 tyX7 tyX7_ok nmX7 hown hK1 hP hD hS 0 rfl rfl 22 (by decide) (hts _ t_573) (fun _ h9 => h9) rfl (by decide +kernel) rfl rfl (Nat.le_of_ble_eq_true rfl) dX7_layLights_10 (fun H locs hP hD hS => ?_)
  have hP : va_P D vwCl [(h0, .inr (7, [.int 0, .ref m1, .int 0, .ref m2, .ref m3, .ref m4, .ref m5, .int 0, .int 0, .ref m6, .int 0, .int 0, .int 0, .int 0, .ref m7, .int 0, .int 0, .int 0, .int 0, .ref m8, .ref m9, .ref m10, .int 1, .ref m11, .ref m12, .ref m13, .long hv])), (m11, .inl (cJ, 80, .inr (.inl ll))), (m12, .inl (cI, 48, .inl fl))] H := hP
  have hD : va_D A [(h0, .inr (7, [.int 0, .ref m1, .int 0, .ref m2, .ref m3, .ref m4, .ref m5, .int 0, .int 0, .ref m6, .int 0, .int 0, .int 0, .int 0, .ref m7, .int 0, .int 0, .int 0, .int 0, .ref m8, .ref m9, .ref m10, .int 1, .ref m11, .ref m12, .ref m13, .long hv])), (m11, .inl (cJ, 80, .inr (.inl ll))), (m12, .inl (cI, 48, .inl fl))] := hD
  refine lv_iconst (v := 0) hx hb dX7_layLights_13 (by decide) ?_
  refine lv_istore_n (lv' := [(1, .int 0), (0, .ref h0)]) hx hb dX7_layLights_14 rfl hl (by decide) rfl (fun ls hl => ?_)
  have LOOP_15 : ∀ (n : Nat) (i : Nat) (gg : Nat → Int64), (i + n = 80) → (∀ j, j < i → j < 48 → gg j = 1152921504606846976) → ∀ (H : Heap) (locs : List Loc) (ls : Array Slot), va_P D vwCl [(h0, .inr (7, [.int 0, .ref m1, .int 0, .ref m2, .ref m3, .ref m4, .ref m5, .int 0, .int 0, .ref m6, .int 0, .int 0, .int 0, .int 0, .ref m7, .int 0, .int 0, .int 0, .int 0, .ref m8, .ref m9, .ref m10, .int 1, .ref m11, .ref m12, .ref m13, .long hv])), (m11, .inl (cJ, 80, .inr (.inl gg))), (m12, .inl (cI, 48, .inl fl))] H → va_D A [(h0, .inr (7, [.int 0, .ref m1, .int 0, .ref m2, .ref m3, .ref m4, .ref m5, .int 0, .int 0, .ref m6, .int 0, .int 0, .int 0, .int 0, .ref m7, .int 0, .int 0, .int 0, .int 0, .ref m8, .ref m9, .ref m10, .int 1, .ref m11, .ref m12, .ref m13, .long hv])), (m11, .inl (cJ, 80, .inr (.inl gg))), (m12, .inl (cI, 48, .inl fl))] → va_S A s.heap H locs → lv_has ls 3 [(0, .ref h0), (1, .int (nI i))] → W p l e (rM 1 0 0 20) s m ([.ref h0] : List Value).toArray below meth c H locs 0 0 Q (F0 m 15 ls []) := by
    intro n
    induction n with
    | zero =>
      intro i gg hi hg1 H locs ls hP hD hS hl
      refine lv_iload_n hx hb dX7_layLights_15 rfl (lv_at hl 1 rfl) ?_
      refine lv_bipush (v := 80) hx hb dX7_layLights_16 (by decide) ?_
      refine lv_icmp_ge (tgt := 60) hx hb dX7_layLights_18 (by decide) (fun c_2 => ?_) (fun c_2 => ?_)
      rotate_left
      · exact absurd (nI_le (a := 80) (b := i) (by omega) (by omega)) c_2
      refine lv_iconst (v := 1) hx hb dX7_layLights_60 (by decide) ?_
      refine lv_istore_n (lv' := [(1, .int 1), (0, .ref h0)]) hx hb dX7_layLights_61 rfl hl (by decide) rfl (fun ls hl => ?_)
      refine lv_iload_n hx hb dX7_layLights_62 rfl (lv_at hl 0 rfl) ?_
      refine lv_if_eq (tgt := 106) hx hb dX7_layLights_63 (by decide) (fun c_3 => ?_) (fun c_3 => ?_)
      · exact absurd c_3 (by decide)
      refine lv_iconst (v := 0) hx hb dX7_layLights_66 (by decide) ?_
      refine lv_istore_n (lv' := [(1, .int 0), (0, .ref h0)]) hx hb dX7_layLights_67 rfl hl (by decide) rfl (fun ls hl => ?_)
      refine lv_iconst (v := 0) hx hb dX7_layLights_68 (by decide) ?_
      refine lv_istore_n (lv' := [(2, .int 0), (1, .int 0), (0, .ref h0)]) hx hb dX7_layLights_69 rfl hl (by decide) rfl (fun ls hl => ?_)
      refine lv_iload_n hx hb dX7_layLights_70 rfl (lv_at hl 0 rfl) ?_
      refine lv_aload_n hx hb dX7_layLights_71 rfl (lv_at hl 2 rfl) ?_
      refine va_get (D := D) (ci := 7) (v := .int 0) (C := RX7) (T := TX7) (N := 27) hx hb hts iT_X7 hown hK1 hP 0 rfl rfl 2 (by decide) (hts _ t_553) (fun _ h9 => h9) rfl dX7_layLights_72 ?_
      refine lv_icmp_ge (tgt := 103) hx hb dX7_layLights_75 (by decide) (fun c_4 => ?_) (fun c_4 => ?_)
      rotate_left
      · exact absurd c_4 (by decide)
      refine lv_goto (tgt := 62) hx hb dX7_layLights_103 (by decide) ?_
      refine lv_iload_n hx hb dX7_layLights_62 rfl (lv_at hl 1 rfl) ?_
      refine lv_if_eq (tgt := 106) hx hb dX7_layLights_63 (by decide) (fun c_5 => ?_) (fun c_5 => ?_)
      rotate_left
      · exact absurd c_5 (by decide)
      refine lv_iconst (v := 0) hx hb dX7_layLights_106 (by decide) ?_
      refine lv_istore_n (lv' := [(2, .int 0), (1, .int 0), (0, .ref h0)]) hx hb dX7_layLights_107 rfl hl (by decide) rfl (fun ls hl => ?_)
      have LOOP_108 : ∀ (n : Nat) (k : Nat) (f9 : Nat → Int32), (k + n = 48) → (∀ j, j < k → f9 j = -1) → ∀ (H : Heap) (locs : List Loc) (ls : Array Slot), va_P D vwCl [(h0, .inr (7, [.int 0, .ref m1, .int 0, .ref m2, .ref m3, .ref m4, .ref m5, .int 0, .int 0, .ref m6, .int 0, .int 0, .int 0, .int 0, .ref m7, .int 0, .int 0, .int 0, .int 0, .ref m8, .ref m9, .ref m10, .int 1, .ref m11, .ref m12, .ref m13, .long hv])), (m11, .inl (cJ, 80, .inr (.inl gg))), (m12, .inl (cI, 48, .inl f9))] H → va_D A [(h0, .inr (7, [.int 0, .ref m1, .int 0, .ref m2, .ref m3, .ref m4, .ref m5, .int 0, .int 0, .ref m6, .int 0, .int 0, .int 0, .int 0, .ref m7, .int 0, .int 0, .int 0, .int 0, .ref m8, .ref m9, .ref m10, .int 1, .ref m11, .ref m12, .ref m13, .long hv])), (m11, .inl (cJ, 80, .inr (.inl gg))), (m12, .inl (cI, 48, .inl f9))] → va_S A s.heap H locs → lv_has ls 3 [(0, .ref h0), (2, .int (nI k))] → W p l e (rM 1 0 0 20) s m ([.ref h0] : List Value).toArray below meth c H locs 0 0 Q (F0 m 108 ls []) := by
        intro n
        induction n with
        | zero =>
          intro k f9 hi2 hg2 H locs ls hP hD hS hl
          refine lv_iload_n hx hb dX7_layLights_108 rfl (lv_at hl 1 rfl) ?_
          refine lv_bipush (v := 48) hx hb dX7_layLights_109 (by decide) ?_
          refine lv_icmp_ge (tgt := 127) hx hb dX7_layLights_111 (by decide) (fun c_6 => ?_) (fun c_6 => ?_)
          rotate_left
          · exact absurd (nI_le (a := 48) (b := k) (by omega) (by omega)) c_6
          refine lv_iconst (v := 0) hx hb dX7_layLights_127 (by decide) ?_
          refine lv_istore_n (lv' := [(2, .int 0), (0, .ref h0)]) hx hb dX7_layLights_128 rfl hl (by decide) rfl (fun ls hl => ?_)
          refine lv_iload_n hx hb dX7_layLights_129 rfl (lv_at hl 0 rfl) ?_
          refine lv_aload_n hx hb dX7_layLights_130 rfl (lv_at hl 1 rfl) ?_
          refine va_get (D := D) (ci := 7) (v := .int 0) (C := RX7) (T := TX7) (N := 27) hx hb hts iT_X7 hown hK1 hP 0 rfl rfl 2 (by decide) (hts _ t_553) (fun _ h9 => h9) rfl dX7_layLights_131 ?_
          refine lv_icmp_ge (tgt := 150) hx hb dX7_layLights_134 (by decide) (fun c_7 => ?_) (fun c_7 => ?_)
          rotate_left
          · exact absurd c_7 (by decide)
          exact hret _ _ _ _ _ _ (gg, f9) dX7_layLights_150 hS (Nat.le_of_ble_eq_true rfl) (Nat.le_of_ble_eq_true rfl) ⟨fun j hj => hg1 j (by omega) hj, fun j hj => hg2 j (by omega)⟩ (hP.sub [0, 1, 2] rfl) (hD.sub [0, 1, 2] rfl rfl)
        | succ n ih_108 =>
          intro k f9 hi2 hg2 H locs ls hP hD hS hl
          refine lv_iload_n hx hb dX7_layLights_108 rfl (lv_at hl 1 rfl) ?_
          refine lv_bipush (v := 48) hx hb dX7_layLights_109 (by decide) ?_
          refine lv_icmp_ge (tgt := 127) hx hb dX7_layLights_111 (by decide) (fun c_8 => ?_) (fun c_8 => ?_)
          · exact absurd c_8 (nI_ge (a := k) (b := 48) (by omega) (by omega))
          refine lv_aload_n hx hb dX7_layLights_114 rfl (lv_at hl 0 rfl) ?_
          refine va_get (D := D) (ci := 7) (v := .ref m12) (C := RX7) (T := TX7) (N := 27) hx hb hts iT_X7 hown hK1 hP 0 rfl rfl 24 (by decide) (hts _ t_575) (fun _ h9 => h9) rfl dX7_layLights_115 ?_
          refine lv_iload_n hx hb dX7_layLights_118 rfl (lv_at hl 1 rfl) ?_
          refine lv_iconst (v := -1) hx hb dX7_layLights_119 (by decide) ?_
          refine va_iast hx hb hK1 hP hD hS 2 0 rfl rfl (vp_in_nI (by omega) (by omega)) dX7_layLights_120 (fun H locs hP hD hS => ?_)
          rw [nI_clamp (n := k) (by omega)] at hP hD
          have hP : va_P D vwCl [(h0, .inr (7, [.int 0, .ref m1, .int 0, .ref m2, .ref m3, .ref m4, .ref m5, .int 0, .int 0, .ref m6, .int 0, .int 0, .int 0, .int 0, .ref m7, .int 0, .int 0, .int 0, .int 0, .ref m8, .ref m9, .ref m10, .int 1, .ref m11, .ref m12, .ref m13, .long hv])), (m11, .inl (cJ, 80, .inr (.inl gg))), (m12, .inl (cI, 48, .inl (upd f9 k (-1))))] H := hP
          have hD : va_D A [(h0, .inr (7, [.int 0, .ref m1, .int 0, .ref m2, .ref m3, .ref m4, .ref m5, .int 0, .int 0, .ref m6, .int 0, .int 0, .int 0, .int 0, .ref m7, .int 0, .int 0, .int 0, .int 0, .ref m8, .ref m9, .ref m10, .int 1, .ref m11, .ref m12, .ref m13, .long hv])), (m11, .inl (cJ, 80, .inr (.inl gg))), (m12, .inl (cI, 48, .inl (upd f9 k (-1))))] := hD
          refine lv_iinc (v := nI (k + 1)) (lv' := [(2, .int (nI (k + 1))), (0, .ref h0)]) hx hb dX7_layLights_121 hl (k := 1) rfl (nI_1 k) (by decide) rfl (fun ls hl => ?_)
          refine lv_goto (tgt := 108) hx hb dX7_layLights_124 (by decide) ?_
          exact ih_108 (k + 1) (upd f9 k (-1)) (by omega) (up_lt hg2) _ _ _ (hP.sub [0, 1, 2] rfl) (hD.sub [0, 1, 2] rfl rfl) hS (lv_sub hl [1, 0] rfl)
      exact LOOP_108 48 0 fl (by omega) (fun j hj => absurd hj (by omega)) _ _ _ (hP.sub [0, 1, 2] rfl) (hD.sub [0, 1, 2] rfl rfl) hS (lv_sub hl [2, 0] rfl)
    | succ n ih_15 =>
      intro i gg hi hg1 H locs ls hP hD hS hl
      refine lv_iload_n hx hb dX7_layLights_15 rfl (lv_at hl 1 rfl) ?_
      refine lv_bipush (v := 80) hx hb dX7_layLights_16 (by decide) ?_
      refine lv_icmp_ge (tgt := 60) hx hb dX7_layLights_18 (by decide) (fun c_9 => ?_) (fun c_9 => ?_)
      · exact absurd c_9 (nI_ge (a := i) (b := 80) (by omega) (by omega))
      refine lv_aload_n hx hb dX7_layLights_21 rfl (lv_at hl 0 rfl) ?_
      refine va_get (D := D) (ci := 7) (v := .ref m11) (C := RX7) (T := TX7) (N := 27) hx hb hts iT_X7 hown hK1 hP 0 rfl rfl 23 (by decide) (hts _ t_574) (fun _ h9 => h9) rfl dX7_layLights_22 ?_
      refine lv_iload_n hx hb dX7_layLights_25 rfl (lv_at hl 1 rfl) ?_
      refine lv_iload_n hx hb dX7_layLights_26 rfl (lv_at hl 1 rfl) ?_
      refine lv_bipush (v := 48) hx hb dX7_layLights_27 (by decide) ?_
      refine lv_icmp_lt (tgt := 50) hx hb dX7_layLights_29 (by decide) (fun c_10 => ?_) (fun c_10 => ?_)
      · skip
        refine lv_ldc2 hx hb hown (hts _ t_825) dX7_layLights_50 ?_
        refine va_last hx hb hK1 hP hD hS 1 1 rfl rfl (vp_in_nI (by omega) (by omega)) dX7_layLights_53 (fun H locs hP hD hS => ?_)
        rw [nI_clamp (n := i) (by omega)] at hP hD
        have hP : va_P D vwCl [(h0, .inr (7, [.int 0, .ref m1, .int 0, .ref m2, .ref m3, .ref m4, .ref m5, .int 0, .int 0, .ref m6, .int 0, .int 0, .int 0, .int 0, .ref m7, .int 0, .int 0, .int 0, .int 0, .ref m8, .ref m9, .ref m10, .int 1, .ref m11, .ref m12, .ref m13, .long hv])), (m11, .inl (cJ, 80, .inr (.inl (vp_updL gg i 1152921504606846976)))), (m12, .inl (cI, 48, .inl fl))] H := hP
        have hD : va_D A [(h0, .inr (7, [.int 0, .ref m1, .int 0, .ref m2, .ref m3, .ref m4, .ref m5, .int 0, .int 0, .ref m6, .int 0, .int 0, .int 0, .int 0, .ref m7, .int 0, .int 0, .int 0, .int 0, .ref m8, .ref m9, .ref m10, .int 1, .ref m11, .ref m12, .ref m13, .long hv])), (m11, .inl (cJ, 80, .inr (.inl (vp_updL gg i 1152921504606846976)))), (m12, .inl (cI, 48, .inl fl))] := hD
        refine lv_iinc (v := nI (i + 1)) (lv' := [(1, .int (nI (i + 1))), (0, .ref h0)]) hx hb dX7_layLights_54 hl (k := 1) rfl (nI_1 i) (by decide) rfl (fun ls hl => ?_)
        refine lv_goto (tgt := 15) hx hb dX7_layLights_57 (by decide) ?_
        exact ih_15 (i + 1) (vp_updL gg i 1152921504606846976) (by omega) (ul48a hg1) _ _ _ (hP.sub [0, 1, 2] rfl) (hD.sub [0, 1, 2] rfl rfl) hS (lv_sub hl [1, 0] rfl)
      · skip
        refine lv_iload_n hx hb dX7_layLights_32 rfl (lv_at hl 1 rfl) ?_
        refine lv_bipush (v := 16) hx hb dX7_layLights_33 (by decide) ?_
        refine lv_irem hx hb dX7_layLights_35 (by decide) ?_
        refine lv_iload_n hx hb dX7_layLights_36 rfl (lv_at hl 1 rfl) ?_
        refine lv_bipush (v := 16) hx hb dX7_layLights_37 (by decide) ?_
        refine lv_idiv hx hb dX7_layLights_39 (by decide) ?_
        refine xc_i (wc := []) (wr := [(h0, .inr (7, [.int 0, .ref m1, .int 0, .ref m2, .ref m3, .ref m4, .ref m5, .int 0, .int 0, .ref m6, .int 0, .int 0, .int 0, .int 0, .ref m7, .int 0, .int 0, .int 0, .int 0, .ref m8, .ref m9, .ref m10, .int 1, .ref m11, .ref m12, .ref m13, .long hv])), (m11, .inl (cJ, 80, .inr (.inl gg))), (m12, .inl (cI, 48, .inl fl))]) (xrS (n := 1) (As := [.int ((nI i) / 16)]) (rest := [.int ((nI i) - (nI i) / 16 * 16), .int (nI i), .ref m11]) hd hK hP hD (c_X7_classOf l D cI cJ cZ cR _ ((nI i) / 16) ) (gS t_822 mS_X7_classOf) hS_X7_classOf ⟨(Nat.le_of_ble_eq_true rfl), (Nat.le_of_ble_eq_true rfl)⟩ [] rfl rfl rfl hl.1 rfl (Nat.le_of_ble_eq_true rfl) dX7_layLights_40 ⟨(Nat.le_of_ble_eq_true rfl), (Nat.le_of_ble_eq_true rfl)⟩) hP hD hS hA [] [0, 1, 2] rfl rfl rfl (by decide) (fun r_11 u_12 H locs hw_13 hP hD hS => ?_)
        have hw_14 : r_11 = (if ((nI i) / 16) = 3 then 9 else 15) := hw_13
        subst hw_14
        have hP : va_P D vwCl [(h0, .inr (7, [.int 0, .ref m1, .int 0, .ref m2, .ref m3, .ref m4, .ref m5, .int 0, .int 0, .ref m6, .int 0, .int 0, .int 0, .int 0, .ref m7, .int 0, .int 0, .int 0, .int 0, .ref m8, .ref m9, .ref m10, .int 1, .ref m11, .ref m12, .ref m13, .long hv])), (m11, .inl (cJ, 80, .inr (.inl gg))), (m12, .inl (cI, 48, .inl fl))] H := hP
        have hD : va_D A [(h0, .inr (7, [.int 0, .ref m1, .int 0, .ref m2, .ref m3, .ref m4, .ref m5, .int 0, .int 0, .ref m6, .int 0, .int 0, .int 0, .int 0, .ref m7, .int 0, .int 0, .int 0, .int 0, .ref m8, .ref m9, .ref m10, .int 1, .ref m11, .ref m12, .ref m13, .long hv])), (m11, .inl (cJ, 80, .inr (.inl gg))), (m12, .inl (cI, 48, .inl fl))] := hD
        refine lv_icmp_ne (tgt := 50) hx hb dX7_layLights_43 (by decide) (fun c_15 => ?_) (fun c_15 => ?_)
        · skip
          refine lv_ldc2 hx hb hown (hts _ t_825) dX7_layLights_50 ?_
          refine va_last hx hb hK1 hP hD hS 1 1 rfl rfl (vp_in_nI (by omega) (by omega)) dX7_layLights_53 (fun H locs hP hD hS => ?_)
          rw [nI_clamp (n := i) (by omega)] at hP hD
          have hP : va_P D vwCl [(h0, .inr (7, [.int 0, .ref m1, .int 0, .ref m2, .ref m3, .ref m4, .ref m5, .int 0, .int 0, .ref m6, .int 0, .int 0, .int 0, .int 0, .ref m7, .int 0, .int 0, .int 0, .int 0, .ref m8, .ref m9, .ref m10, .int 1, .ref m11, .ref m12, .ref m13, .long hv])), (m11, .inl (cJ, 80, .inr (.inl (vp_updL gg i 1152921504606846976)))), (m12, .inl (cI, 48, .inl fl))] H := hP
          have hD : va_D A [(h0, .inr (7, [.int 0, .ref m1, .int 0, .ref m2, .ref m3, .ref m4, .ref m5, .int 0, .int 0, .ref m6, .int 0, .int 0, .int 0, .int 0, .ref m7, .int 0, .int 0, .int 0, .int 0, .ref m8, .ref m9, .ref m10, .int 1, .ref m11, .ref m12, .ref m13, .long hv])), (m11, .inl (cJ, 80, .inr (.inl (vp_updL gg i 1152921504606846976)))), (m12, .inl (cI, 48, .inl fl))] := hD
          refine lv_iinc (v := nI (i + 1)) (lv' := [(1, .int (nI (i + 1))), (0, .ref h0)]) hx hb dX7_layLights_54 hl (k := 1) rfl (nI_1 i) (by decide) rfl (fun ls hl => ?_)
          refine lv_goto (tgt := 15) hx hb dX7_layLights_57 (by decide) ?_
          exact ih_15 (i + 1) (vp_updL gg i 1152921504606846976) (by omega) (ul48a hg1) _ _ _ (hP.sub [0, 1, 2] rfl) (hD.sub [0, 1, 2] rfl rfl) hS (lv_sub hl [1, 0] rfl)
        · skip
          refine lv_lconst (v := 0) hx hb dX7_layLights_46 (by decide) ?_
          refine lv_goto (tgt := 53) hx hb dX7_layLights_47 (by decide) ?_
          refine va_last hx hb hK1 hP hD hS 1 1 rfl rfl (vp_in_nI (by omega) (by omega)) dX7_layLights_53 (fun H locs hP hD hS => ?_)
          rw [nI_clamp (n := i) (by omega)] at hP hD
          have hP : va_P D vwCl [(h0, .inr (7, [.int 0, .ref m1, .int 0, .ref m2, .ref m3, .ref m4, .ref m5, .int 0, .int 0, .ref m6, .int 0, .int 0, .int 0, .int 0, .ref m7, .int 0, .int 0, .int 0, .int 0, .ref m8, .ref m9, .ref m10, .int 1, .ref m11, .ref m12, .ref m13, .long hv])), (m11, .inl (cJ, 80, .inr (.inl (vp_updL gg i 0)))), (m12, .inl (cI, 48, .inl fl))] H := hP
          have hD : va_D A [(h0, .inr (7, [.int 0, .ref m1, .int 0, .ref m2, .ref m3, .ref m4, .ref m5, .int 0, .int 0, .ref m6, .int 0, .int 0, .int 0, .int 0, .ref m7, .int 0, .int 0, .int 0, .int 0, .ref m8, .ref m9, .ref m10, .int 1, .ref m11, .ref m12, .ref m13, .long hv])), (m11, .inl (cJ, 80, .inr (.inl (vp_updL gg i 0)))), (m12, .inl (cI, 48, .inl fl))] := hD
          refine lv_iinc (v := nI (i + 1)) (lv' := [(1, .int (nI (i + 1))), (0, .ref h0)]) hx hb dX7_layLights_54 hl (k := 1) rfl (nI_1 i) (by decide) rfl (fun ls hl => ?_)
          refine lv_goto (tgt := 15) hx hb dX7_layLights_57 (by decide) ?_
          exact ih_15 (i + 1) (vp_updL gg i 0) (by omega) (ul48b hg1 (ge48 (by omega) c_10)) _ _ _ (hP.sub [0, 1, 2] rfl) (hD.sub [0, 1, 2] rfl rfl) hS (lv_sub hl [1, 0] rfl)
  exact LOOP_15 80 0 ll (by omega) (fun j hj => absurd hj (by omega)) _ _ _ (hP.sub [0, 1, 2] rfl) (hD.sub [0, 1, 2] rfl rfl) hS (lv_sub hl [1, 0] rfl)
set_option maxHeartbeats 4000000 in
set_option maxRecDepth 100000 in
theorem c_layL_1 (sz : Nat) (h0 : Nat) (m1 : Nat) (m2 : Nat) (m3 : Nat) (m4 : Nat) (m5 : Nat) (m6 : Nat) (m7 : Nat) (m8 : Nat) (m9 : Nat) (m10 : Nat) (m11 : Nat) (m12 : Nat) (m13 : Nat) (hv : Int64) (ll : Nat → Int64) (fl : Nat → Int32)  : CTv l D cI cJ cZ cR yX7_layLights cX7_layLights 3 none 1 20 0 0 sz [.ref h0] [(h0, .inr (7, [.int 0, .ref m1, .int 0, .ref m2, .ref m3, .ref m4, .ref m5, .int 0, .int 0, .ref m6, .int 0, .int 0, .int 0, .int 0, .ref m7, .int 0, .int 0, .int 0, .int 0, .ref m8, .ref m9, .ref m10, .int 1, .ref m11, .ref m12, .ref m13, .long hv])), (m11, .inl (cJ, 80, .inr (.inl ll))), (m12, .inl (cI, 48, .inl fl))] (fun (u : Unit) => True) (fun (u : Unit) => [(h0, .inr (7, [.int 0, .ref m1, .int 0, .ref m2, .ref m3, .ref m4, .ref m5, .int 0, .int 0, .ref m6, .int 0, .int 0, .int 0, .int 0, .ref m7, .int 0, .int 0, .int 0, .int 0, .ref m8, .ref m9, .ref m10, .int 1, .ref m11, .ref m12, .ref m13, .long hv])), (m11, .inl (cJ, 80, .inr (.inl ll))), (m12, .inl (cI, 48, .inl fl))]) := by
  refine CTv.of (by decide) (Nat.le_of_ble_eq_true rfl) rfl ?_
  intro p e s m below meth c A Q ls hd hin hK hsz hP hD hA hS hl hret
  obtain ⟨hx, hb, hml, hown, hts⟩ := id hd
  have hK1 := hK.1
  have hown : s.vm.findClass RX7 = some m.cls := hown
  have hl : lv_has ls 3 [(0, .ref h0)] := hl
  refine lv_aload_n hx hb dX7_layLights_0 rfl (lv_at hl 0 rfl) ?_
  refine va_get (D := D) (ci := 7) (v := .int 1) (C := RX7) (T := TX7) (N := 27) hx hb hts iT_X7 hown hK1 hP 0 rfl rfl 22 (by decide) (hts _ t_573) (fun _ h9 => h9) rfl dX7_layLights_1 ?_
  refine lv_if_eq (tgt := 8) hx hb dX7_layLights_4 (by decide) (fun c_1 => ?_) (fun c_1 => ?_)
  · exact absurd c_1 (by decide)
  exact hret _ _ _ _ _ _ () dX7_layLights_7 hS (Nat.le_of_ble_eq_true rfl) (Nat.le_of_ble_eq_true rfl) trivial (hP.sub [0, 1, 2] rfl) (hD.sub [0, 1, 2] rfl rfl)
set_option maxHeartbeats 4000000 in
set_option maxRecDepth 100000 in
theorem c_kindsNow_0 (sz : Nat) (h0 : Nat) (m1 : Nat) (m2 : Nat) (m3 : Nat) (m4 : Nat) (m5 : Nat) (m6 : Nat) (m7 : Nat) (m8 : Nat) (m9 : Nat) (m10 : Nat) (m11 : Nat) (m12 : Nat) (m13 : Nat) (hv : Int64) (ll : Nat → Int64) (fl : Nat → Int32) (a : Nat) (ha : a < 3) : CTi l D cI cJ cZ cR yX7_kindsNow cX7_kindsNow 4 (some .int) 2 42 0 0 sz [.ref h0, .int (nI a)] [(h0, .inr (7, [.int 0, .ref m1, .int 0, .ref m2, .ref m3, .ref m4, .ref m5, .int 0, .int 0, .ref m6, .int 0, .int 0, .int 0, .int 0, .ref m7, .int 0, .int 0, .int 0, .int 0, .ref m8, .ref m9, .ref m10, .int 0, .ref m11, .ref m12, .ref m13, .long hv])), (m11, .inl (cJ, 80, .inr (.inl ll))), (m12, .inl (cI, 48, .inl fl))] (fun (r : Int32) (u : (Nat → Int64) × (Nat → Int32)) => (r = 0) ∧ (Lm u.1 u.2)) (fun (u : (Nat → Int64) × (Nat → Int32)) => [(h0, .inr (7, [.int 0, .ref m1, .int 0, .ref m2, .ref m3, .ref m4, .ref m5, .int 0, .int 0, .ref m6, .int 0, .int 0, .int 0, .int 0, .ref m7, .int 0, .int 0, .int 0, .int 0, .ref m8, .ref m9, .ref m10, .int 1, .ref m11, .ref m12, .ref m13, .long hv])), (m11, .inl (cJ, 80, .inr (.inl u.1))), (m12, .inl (cI, 48, .inl u.2))]) := by
  refine CTi.of (ty := .int) (by decide) (Nat.le_of_ble_eq_true rfl) rfl ?_
  intro p e s m below meth c A Q ls hd hin hK hsz hP hD hA hS hl hret
  obtain ⟨hx, hb, hml, hown, hts⟩ := id hd
  have hK1 := hK.1
  have hown : s.vm.findClass RX7 = some m.cls := hown
  have hl : lv_has ls 4 [(0, .ref h0), (1, .int (nI a))] := hl
  refine lv_aload_n hx hb dX7_kindsNow_0 rfl (lv_at hl 0 rfl) ?_
  refine xc_v (wc := [(h0, .inr (7, [.int 0, .ref m1, .int 0, .ref m2, .ref m3, .ref m4, .ref m5, .int 0, .int 0, .ref m6, .int 0, .int 0, .int 0, .int 0, .ref m7, .int 0, .int 0, .int 0, .int 0, .ref m8, .ref m9, .ref m10, .int 0, .ref m11, .ref m12, .ref m13, .long hv])), (m11, .inl (cJ, 80, .inr (.inl ll))), (m12, .inl (cI, 48, .inl fl))]) (wr := []) (xrV (n := 0) (As := []) (rest := []) (ci := 7) (q0 := 0) hd hK hP hD (c_layL_0 l D cI cJ cZ cR _ h0 m1 m2 m3 m4 m5 m6 m7 m8 m9 m10 m11 m12 m13 hv ll fl ) (gV t_818 mV_X7_layLights) hV_X7_layLights ⟨(Nat.le_of_ble_eq_true rfl), (Nat.le_of_ble_eq_true rfl)⟩ rfl rfl [0, 1, 2] rfl rfl rfl hl.1 rfl (Nat.le_of_ble_eq_true rfl) dX7_kindsNow_1 ⟨(Nat.le_of_ble_eq_true rfl), (Nat.le_of_ble_eq_true rfl)⟩) hP hD hS hA [0, 1, 2] [] rfl rfl rfl (by decide) (fun u_2 H locs hw_3 hP hD hS => ?_)
  obtain ⟨l2_4, f2_5⟩ := u_2
  have hw_6 : Lm l2_4 f2_5 := hw_3
  have hLm := hw_6
  have hP : va_P D vwCl [(h0, .inr (7, [.int 0, .ref m1, .int 0, .ref m2, .ref m3, .ref m4, .ref m5, .int 0, .int 0, .ref m6, .int 0, .int 0, .int 0, .int 0, .ref m7, .int 0, .int 0, .int 0, .int 0, .ref m8, .ref m9, .ref m10, .int 1, .ref m11, .ref m12, .ref m13, .long hv])), (m11, .inl (cJ, 80, .inr (.inl l2_4))), (m12, .inl (cI, 48, .inl f2_5))] H := hP
  have hD : va_D A [(h0, .inr (7, [.int 0, .ref m1, .int 0, .ref m2, .ref m3, .ref m4, .ref m5, .int 0, .int 0, .ref m6, .int 0, .int 0, .int 0, .int 0, .ref m7, .int 0, .int 0, .int 0, .int 0, .ref m8, .ref m9, .ref m10, .int 1, .ref m11, .ref m12, .ref m13, .long hv])), (m11, .inl (cJ, 80, .inr (.inl l2_4))), (m12, .inl (cI, 48, .inl f2_5))] := hD
  refine lv_iconst (v := 0) hx hb dX7_kindsNow_4 (by decide) ?_
  refine lv_istore_n (lv' := [(2, .int 0), (0, .ref h0), (1, .int (nI a))]) hx hb dX7_kindsNow_5 rfl hl (by decide) rfl (fun ls hl => ?_)
  refine lv_iconst (v := 0) hx hb dX7_kindsNow_6 (by decide) ?_
  refine lv_istore_n (lv' := [(3, .int 0), (2, .int 0), (0, .ref h0), (1, .int (nI a))]) hx hb dX7_kindsNow_7 rfl hl (by decide) rfl (fun ls hl => ?_)
  have LOOP_8 : ∀ (n : Nat) (i : Nat), (i + n = 16) → ∀ (H : Heap) (locs : List Loc) (ls : Array Slot), va_P D vwCl [(h0, .inr (7, [.int 0, .ref m1, .int 0, .ref m2, .ref m3, .ref m4, .ref m5, .int 0, .int 0, .ref m6, .int 0, .int 0, .int 0, .int 0, .ref m7, .int 0, .int 0, .int 0, .int 0, .ref m8, .ref m9, .ref m10, .int 1, .ref m11, .ref m12, .ref m13, .long hv])), (m11, .inl (cJ, 80, .inr (.inl l2_4))), (m12, .inl (cI, 48, .inl f2_5))] H → va_D A [(h0, .inr (7, [.int 0, .ref m1, .int 0, .ref m2, .ref m3, .ref m4, .ref m5, .int 0, .int 0, .ref m6, .int 0, .int 0, .int 0, .int 0, .ref m7, .int 0, .int 0, .int 0, .int 0, .ref m8, .ref m9, .ref m10, .int 1, .ref m11, .ref m12, .ref m13, .long hv])), (m11, .inl (cJ, 80, .inr (.inl l2_4))), (m12, .inl (cI, 48, .inl f2_5))] → va_S A s.heap H locs → lv_has ls 4 [(0, .ref h0), (1, .int (nI a)), (2, .int 0), (3, .int (nI i))] → W p l e (rM 2 0 0 42) s m ([.ref h0, .int (nI a)] : List Value).toArray below meth c H locs 0 0 Q (F0 m 8 ls []) := by
    intro n
    induction n with
    | zero =>
      intro i hi H locs ls hP hD hS hl
      refine lv_iload_n hx hb dX7_kindsNow_8 rfl (lv_at hl 3 rfl) ?_
      refine lv_bipush (v := 16) hx hb dX7_kindsNow_9 (by decide) ?_
      refine lv_icmp_ge (tgt := 48) hx hb dX7_kindsNow_11 (by decide) (fun c_7 => ?_) (fun c_7 => ?_)
      rotate_left
      · exact absurd (nI_le (a := 16) (b := i) (by omega) (by omega)) c_7
      refine lv_iload_n hx hb dX7_kindsNow_48 rfl (lv_at hl 2 rfl) ?_
      exact hret _ _ _ _ _ _ 0 (l2_4, f2_5) dX7_kindsNow_49 rfl hS (Nat.le_of_ble_eq_true rfl) (Nat.le_of_ble_eq_true rfl) ⟨rfl, hLm⟩ (hP.sub [0, 1, 2] rfl) (hD.sub [0, 1, 2] rfl rfl)
    | succ n ih_8 =>
      intro i hi H locs ls hP hD hS hl
      refine lv_iload_n hx hb dX7_kindsNow_8 rfl (lv_at hl 3 rfl) ?_
      refine lv_bipush (v := 16) hx hb dX7_kindsNow_9 (by decide) ?_
      refine lv_icmp_ge (tgt := 48) hx hb dX7_kindsNow_11 (by decide) (fun c_8 => ?_) (fun c_8 => ?_)
      · exact absurd c_8 (nI_ge (a := i) (b := 16) (by omega) (by omega))
      refine lv_iload_n hx hb dX7_kindsNow_14 rfl (lv_at hl 2 rfl) ?_
      refine lv_aload_n hx hb dX7_kindsNow_15 rfl (lv_at hl 0 rfl) ?_
      refine va_get (D := D) (ci := 7) (v := .ref m11) (C := RX7) (T := TX7) (N := 27) hx hb hts iT_X7 hown hK1 hP 0 rfl rfl 23 (by decide) (hts _ t_574) (fun _ h9 => h9) rfl dX7_kindsNow_16 ?_
      refine lv_bipush (v := 16) hx hb dX7_kindsNow_19 (by decide) ?_
      refine lv_iload_n hx hb dX7_kindsNow_21 rfl (lv_at hl 1 rfl) ?_
      refine lv_imul hx hb dX7_kindsNow_22 ?_
      refine lv_nmi (show _ = (nI (16 * a)) from pk_mul (16) (a)) ?_
      refine lv_iload_n hx hb dX7_kindsNow_23 rfl (lv_at hl 3 rfl) ?_
      refine lv_iadd hx hb dX7_kindsNow_24 ?_
      refine lv_nmi (show _ = (nI ((16 * a) + i)) from nI_add ((16 * a)) (i)) ?_
      refine va_lald hx hb hK1 hP 1 1 rfl rfl (vp_in_nI (by omega) (by omega)) dX7_kindsNow_25 ?_
      refine lv_nml (show _ = l2_4 ((16 * a) + i) from by rw [nI_clamp (n := ((16 * a) + i)) (by omega)]) ?_
      refine lv_nml (show _ = (1152921504606846976 : Int64) from hLm.1 _ (by omega)) ?_
      refine lv_ldc2 hx hb hown (hts _ t_825) dX7_kindsNow_26 ?_
      refine W.lcmp hx hb dX7_kindsNow_29 ?_
      refine lv_nmi (show _ = (0 : Int32) from by decide +kernel) ?_
      refine lv_if_ge (tgt := 39) hx hb dX7_kindsNow_30 (by decide) (fun c_9 => ?_) (fun c_9 => ?_)
      rotate_left
      · exact absurd c_9 (by decide)
      refine lv_iconst (v := 0) hx hb dX7_kindsNow_39 (by decide) ?_
      refine lv_ior hx hb dX7_kindsNow_40 ?_
      refine lv_nmi (show _ = (0 : Int32) from by decide +kernel) ?_
      refine lv_istore_n (lv' := [(2, .int 0), (0, .ref h0), (1, .int (nI a)), (3, .int (nI i))]) hx hb dX7_kindsNow_41 rfl hl (by decide) rfl (fun ls hl => ?_)
      refine lv_iinc (v := nI (i + 1)) (lv' := [(3, .int (nI (i + 1))), (2, .int 0), (0, .ref h0), (1, .int (nI a))]) hx hb dX7_kindsNow_42 hl (k := 3) rfl (nI_1 i) (by decide) rfl (fun ls hl => ?_)
      refine lv_goto (tgt := 8) hx hb dX7_kindsNow_45 (by decide) ?_
      exact ih_8 (i + 1) (by omega) _ _ _ (hP.sub [0, 1, 2] rfl) (hD.sub [0, 1, 2] rfl rfl) hS (lv_sub hl [2, 3, 1, 0] rfl)
  exact LOOP_8 16 0 (by omega) _ _ _ (hP.sub [0, 1, 2] rfl) (hD.sub [0, 1, 2] rfl rfl) hS (lv_sub hl [2, 3, 1, 0] rfl)
set_option maxHeartbeats 4000000 in
set_option maxRecDepth 100000 in
theorem c_lightNow_00 (sz : Nat) (h0 : Nat) (m1 : Nat) (m2 : Nat) (m3 : Nat) (m4 : Nat) (m5 : Nat) (m6 : Nat) (m7 : Nat) (m8 : Nat) (m9 : Nat) (m10 : Nat) (m11 : Nat) (m12 : Nat) (m13 : Nat) (hv : Int64) (ll : Nat → Int64) (fl : Nat → Int32) (a : Nat) (b : Nat) (ha : a < 3) (hb0 : b < 16) : CTi l D cI cJ cZ cR yX7_lightNow cX7_lightNow 5 (some .int) 2 42 0 0 sz [.ref h0, .int (nI a), .int (nI b), .int 0] [(h0, .inr (7, [.int 0, .ref m1, .int 0, .ref m2, .ref m3, .ref m4, .ref m5, .int 0, .int 0, .ref m6, .int 0, .int 0, .int 0, .int 0, .ref m7, .int 0, .int 0, .int 0, .int 0, .ref m8, .ref m9, .ref m10, .int 0, .ref m11, .ref m12, .ref m13, .long hv])), (m11, .inl (cJ, 80, .inr (.inl ll))), (m12, .inl (cI, 48, .inl fl))] (fun (r : Int32) (u : (Nat → Int64) × (Nat → Int32)) => (r = (-1)) ∧ (Lm u.1 u.2)) (fun (u : (Nat → Int64) × (Nat → Int32)) => [(h0, .inr (7, [.int 0, .ref m1, .int 0, .ref m2, .ref m3, .ref m4, .ref m5, .int 0, .int 0, .ref m6, .int 0, .int 0, .int 0, .int 0, .ref m7, .int 0, .int 0, .int 0, .int 0, .ref m8, .ref m9, .ref m10, .int 1, .ref m11, .ref m12, .ref m13, .long hv])), (m11, .inl (cJ, 80, .inr (.inl u.1))), (m12, .inl (cI, 48, .inl u.2))]) := by
  refine CTi.of (ty := .int) (by decide) (Nat.le_of_ble_eq_true rfl) rfl ?_
  intro p e s m below meth c A Q ls hd hin hK hsz hP hD hA hS hl hret
  obtain ⟨hx, hb, hml, hown, hts⟩ := id hd
  have hK1 := hK.1
  have hown : s.vm.findClass RX7 = some m.cls := hown
  have hl : lv_has ls 5 [(0, .ref h0), (1, .int (nI a)), (2, .int (nI b)), (3, .int 0)] := hl
  refine lv_aload_n hx hb dX7_lightNow_0 rfl (lv_at hl 0 rfl) ?_
  refine xc_v (wc := [(h0, .inr (7, [.int 0, .ref m1, .int 0, .ref m2, .ref m3, .ref m4, .ref m5, .int 0, .int 0, .ref m6, .int 0, .int 0, .int 0, .int 0, .ref m7, .int 0, .int 0, .int 0, .int 0, .ref m8, .ref m9, .ref m10, .int 0, .ref m11, .ref m12, .ref m13, .long hv])), (m11, .inl (cJ, 80, .inr (.inl ll))), (m12, .inl (cI, 48, .inl fl))]) (wr := []) (xrV (n := 0) (As := []) (rest := []) (ci := 7) (q0 := 0) hd hK hP hD (c_layL_0 l D cI cJ cZ cR _ h0 m1 m2 m3 m4 m5 m6 m7 m8 m9 m10 m11 m12 m13 hv ll fl ) (gV t_818 mV_X7_layLights) hV_X7_layLights ⟨(Nat.le_of_ble_eq_true rfl), (Nat.le_of_ble_eq_true rfl)⟩ rfl rfl [0, 1, 2] rfl rfl rfl hl.1 rfl (Nat.le_of_ble_eq_true rfl) dX7_lightNow_1 ⟨(Nat.le_of_ble_eq_true rfl), (Nat.le_of_ble_eq_true rfl)⟩) hP hD hS hA [0, 1, 2] [] rfl rfl rfl (by decide) (fun u_2 H locs hw_3 hP hD hS => ?_)
  obtain ⟨l2_4, f2_5⟩ := u_2
  have hw_6 : Lm l2_4 f2_5 := hw_3
  have hLm := hw_6
  have hP : va_P D vwCl [(h0, .inr (7, [.int 0, .ref m1, .int 0, .ref m2, .ref m3, .ref m4, .ref m5, .int 0, .int 0, .ref m6, .int 0, .int 0, .int 0, .int 0, .ref m7, .int 0, .int 0, .int 0, .int 0, .ref m8, .ref m9, .ref m10, .int 1, .ref m11, .ref m12, .ref m13, .long hv])), (m11, .inl (cJ, 80, .inr (.inl l2_4))), (m12, .inl (cI, 48, .inl f2_5))] H := hP
  have hD : va_D A [(h0, .inr (7, [.int 0, .ref m1, .int 0, .ref m2, .ref m3, .ref m4, .ref m5, .int 0, .int 0, .ref m6, .int 0, .int 0, .int 0, .int 0, .ref m7, .int 0, .int 0, .int 0, .int 0, .ref m8, .ref m9, .ref m10, .int 1, .ref m11, .ref m12, .ref m13, .long hv])), (m11, .inl (cJ, 80, .inr (.inl l2_4))), (m12, .inl (cI, 48, .inl f2_5))] := hD
  refine lv_bipush (v := 16) hx hb dX7_lightNow_4 (by decide) ?_
  refine lv_iload_n hx hb dX7_lightNow_6 rfl (lv_at hl 1 rfl) ?_
  refine lv_imul hx hb dX7_lightNow_7 ?_
  refine lv_nmi (show _ = (nI (16 * a)) from pk_mul (16) (a)) ?_
  refine lv_iload_n hx hb dX7_lightNow_8 rfl (lv_at hl 2 rfl) ?_
  refine lv_iadd hx hb dX7_lightNow_9 ?_
  refine lv_nmi (show _ = (nI ((16 * a) + b)) from nI_add ((16 * a)) (b)) ?_
  refine lv_istore (lv' := [(4, .int (nI ((16 * a) + b))), (0, .ref h0), (1, .int (nI a)), (2, .int (nI b)), (3, .int 0)]) hx hb dX7_lightNow_10 hl (by decide) rfl (fun ls hl => ?_)
  refine lv_iload_n hx hb dX7_lightNow_12 rfl (lv_at hl 4 rfl) ?_
  refine lv_iconst (v := 1) hx hb dX7_lightNow_13 (by decide) ?_
  refine lv_icmp_ne (tgt := 27) hx hb dX7_lightNow_14 (by decide) (fun c_7 => ?_) (fun c_7 => ?_)
  rotate_left
  · exact absurd c_7 (by decide)
  refine lv_aload_n hx hb dX7_lightNow_27 rfl (lv_at hl 1 rfl) ?_
  refine va_get (D := D) (ci := 7) (v := .ref m11) (C := RX7) (T := TX7) (N := 27) hx hb hts iT_X7 hown hK1 hP 0 rfl rfl 23 (by decide) (hts _ t_574) (fun _ h9 => h9) rfl dX7_lightNow_28 ?_
  refine lv_iload hx hb dX7_lightNow_31 (lv_at hl 0 rfl) ?_
  refine va_lald hx hb hK1 hP 1 1 rfl rfl (vp_in_nI (by omega) (by omega)) dX7_lightNow_33 ?_
  refine lv_nml (show _ = l2_4 ((16 * a) + b) from by rw [nI_clamp (n := ((16 * a) + b)) (by omega)]) ?_
  refine lv_nml (show _ = (1152921504606846976 : Int64) from hLm.1 _ (by omega)) ?_
  refine lv_ldc2 hx hb hown (hts _ t_825) dX7_lightNow_34 ?_
  refine W.lcmp hx hb dX7_lightNow_37 ?_
  refine lv_nmi (show _ = (0 : Int32) from by decide +kernel) ?_
  refine lv_if_ge (tgt := 52) hx hb dX7_lightNow_38 (by decide) (fun c_8 => ?_) (fun c_8 => ?_)
  rotate_left
  · exact absurd c_8 (by decide)
  refine lv_iconst (v := -1) hx hb dX7_lightNow_52 (by decide) ?_
  exact hret _ _ _ _ _ _ (-1) (l2_4, f2_5) dX7_lightNow_53 rfl hS (Nat.le_of_ble_eq_true rfl) (Nat.le_of_ble_eq_true rfl) ⟨rfl, hLm⟩ (hP.sub [0, 1, 2] rfl) (hD.sub [0, 1, 2] rfl rfl)
set_option maxHeartbeats 4000000 in
set_option maxRecDepth 100000 in
theorem c_lightNow_01 (sz : Nat) (h0 : Nat) (m1 : Nat) (m2 : Nat) (m3 : Nat) (m4 : Nat) (m5 : Nat) (m6 : Nat) (m7 : Nat) (m8 : Nat) (m9 : Nat) (m10 : Nat) (m11 : Nat) (m12 : Nat) (m13 : Nat) (hv : Int64) (ll : Nat → Int64) (fl : Nat → Int32) (a : Nat) (b : Nat) (ha : a < 3) (hb0 : b < 16) : CTi l D cI cJ cZ cR yX7_lightNow cX7_lightNow 5 (some .int) 2 42 0 0 sz [.ref h0, .int (nI a), .int (nI b), .int 1] [(h0, .inr (7, [.int 0, .ref m1, .int 0, .ref m2, .ref m3, .ref m4, .ref m5, .int 0, .int 0, .ref m6, .int 0, .int 0, .int 0, .int 0, .ref m7, .int 0, .int 0, .int 0, .int 0, .ref m8, .ref m9, .ref m10, .int 0, .ref m11, .ref m12, .ref m13, .long hv])), (m11, .inl (cJ, 80, .inr (.inl ll))), (m12, .inl (cI, 48, .inl fl))] (fun (r : Int32) (u : (Nat → Int64) × (Nat → Int32)) => (r = (-1)) ∧ (Lm u.1 u.2)) (fun (u : (Nat → Int64) × (Nat → Int32)) => [(h0, .inr (7, [.int 0, .ref m1, .int 0, .ref m2, .ref m3, .ref m4, .ref m5, .int 0, .int 0, .ref m6, .int 0, .int 0, .int 0, .int 0, .ref m7, .int 0, .int 0, .int 0, .int 0, .ref m8, .ref m9, .ref m10, .int 1, .ref m11, .ref m12, .ref m13, .long hv])), (m11, .inl (cJ, 80, .inr (.inl u.1))), (m12, .inl (cI, 48, .inl u.2))]) := by
  refine CTi.of (ty := .int) (by decide) (Nat.le_of_ble_eq_true rfl) rfl ?_
  intro p e s m below meth c A Q ls hd hin hK hsz hP hD hA hS hl hret
  obtain ⟨hx, hb, hml, hown, hts⟩ := id hd
  have hK1 := hK.1
  have hown : s.vm.findClass RX7 = some m.cls := hown
  have hl : lv_has ls 5 [(0, .ref h0), (1, .int (nI a)), (2, .int (nI b)), (3, .int 1)] := hl
  refine lv_aload_n hx hb dX7_lightNow_0 rfl (lv_at hl 0 rfl) ?_
  refine xc_v (wc := [(h0, .inr (7, [.int 0, .ref m1, .int 0, .ref m2, .ref m3, .ref m4, .ref m5, .int 0, .int 0, .ref m6, .int 0, .int 0, .int 0, .int 0, .ref m7, .int 0, .int 0, .int 0, .int 0, .ref m8, .ref m9, .ref m10, .int 0, .ref m11, .ref m12, .ref m13, .long hv])), (m11, .inl (cJ, 80, .inr (.inl ll))), (m12, .inl (cI, 48, .inl fl))]) (wr := []) (xrV (n := 0) (As := []) (rest := []) (ci := 7) (q0 := 0) hd hK hP hD (c_layL_0 l D cI cJ cZ cR _ h0 m1 m2 m3 m4 m5 m6 m7 m8 m9 m10 m11 m12 m13 hv ll fl ) (gV t_818 mV_X7_layLights) hV_X7_layLights ⟨(Nat.le_of_ble_eq_true rfl), (Nat.le_of_ble_eq_true rfl)⟩ rfl rfl [0, 1, 2] rfl rfl rfl hl.1 rfl (Nat.le_of_ble_eq_true rfl) dX7_lightNow_1 ⟨(Nat.le_of_ble_eq_true rfl), (Nat.le_of_ble_eq_true rfl)⟩) hP hD hS hA [0, 1, 2] [] rfl rfl rfl (by decide) (fun u_2 H locs hw_3 hP hD hS => ?_)
  obtain ⟨l2_4, f2_5⟩ := u_2
  have hw_6 : Lm l2_4 f2_5 := hw_3
  have hLm := hw_6
  have hP : va_P D vwCl [(h0, .inr (7, [.int 0, .ref m1, .int 0, .ref m2, .ref m3, .ref m4, .ref m5, .int 0, .int 0, .ref m6, .int 0, .int 0, .int 0, .int 0, .ref m7, .int 0, .int 0, .int 0, .int 0, .ref m8, .ref m9, .ref m10, .int 1, .ref m11, .ref m12, .ref m13, .long hv])), (m11, .inl (cJ, 80, .inr (.inl l2_4))), (m12, .inl (cI, 48, .inl f2_5))] H := hP
  have hD : va_D A [(h0, .inr (7, [.int 0, .ref m1, .int 0, .ref m2, .ref m3, .ref m4, .ref m5, .int 0, .int 0, .ref m6, .int 0, .int 0, .int 0, .int 0, .ref m7, .int 0, .int 0, .int 0, .int 0, .ref m8, .ref m9, .ref m10, .int 1, .ref m11, .ref m12, .ref m13, .long hv])), (m11, .inl (cJ, 80, .inr (.inl l2_4))), (m12, .inl (cI, 48, .inl f2_5))] := hD
  refine lv_bipush (v := 16) hx hb dX7_lightNow_4 (by decide) ?_
  refine lv_iload_n hx hb dX7_lightNow_6 rfl (lv_at hl 1 rfl) ?_
  refine lv_imul hx hb dX7_lightNow_7 ?_
  refine lv_nmi (show _ = (nI (16 * a)) from pk_mul (16) (a)) ?_
  refine lv_iload_n hx hb dX7_lightNow_8 rfl (lv_at hl 2 rfl) ?_
  refine lv_iadd hx hb dX7_lightNow_9 ?_
  refine lv_nmi (show _ = (nI ((16 * a) + b)) from nI_add ((16 * a)) (b)) ?_
  refine lv_istore (lv' := [(4, .int (nI ((16 * a) + b))), (0, .ref h0), (1, .int (nI a)), (2, .int (nI b)), (3, .int 1)]) hx hb dX7_lightNow_10 hl (by decide) rfl (fun ls hl => ?_)
  refine lv_iload_n hx hb dX7_lightNow_12 rfl (lv_at hl 4 rfl) ?_
  refine lv_iconst (v := 1) hx hb dX7_lightNow_13 (by decide) ?_
  refine lv_icmp_ne (tgt := 27) hx hb dX7_lightNow_14 (by decide) (fun c_7 => ?_) (fun c_7 => ?_)
  · exact absurd c_7 (by decide)
  refine lv_aload_n hx hb dX7_lightNow_17 rfl (lv_at hl 1 rfl) ?_
  refine va_get (D := D) (ci := 7) (v := .ref m12) (C := RX7) (T := TX7) (N := 27) hx hb hts iT_X7 hown hK1 hP 0 rfl rfl 24 (by decide) (hts _ t_575) (fun _ h9 => h9) rfl dX7_lightNow_18 ?_
  refine lv_iload hx hb dX7_lightNow_21 (lv_at hl 0 rfl) ?_
  refine va_iald hx hb hK1 hP 2 0 rfl rfl (vp_in_nI (by omega) (by omega)) dX7_lightNow_23 ?_
  refine lv_nmi (show _ = f2_5 ((16 * a) + b) from by rw [nI_clamp (n := ((16 * a) + b)) (by omega)]) ?_
  refine lv_nmi (show _ = (-1 : Int32) from hLm.2 _ (by omega)) ?_
  refine lv_goto (tgt := 53) hx hb dX7_lightNow_24 (by decide) ?_
  exact hret _ _ _ _ _ _ (-1) (l2_4, f2_5) dX7_lightNow_53 rfl hS (Nat.le_of_ble_eq_true rfl) (Nat.le_of_ble_eq_true rfl) ⟨rfl, hLm⟩ (hP.sub [0, 1, 2] rfl) (hD.sub [0, 1, 2] rfl rfl)
set_option maxHeartbeats 4000000 in
set_option maxRecDepth 100000 in
theorem c_kindsNow_1 (sz : Nat) (h0 : Nat) (m1 : Nat) (m2 : Nat) (m3 : Nat) (m4 : Nat) (m5 : Nat) (m6 : Nat) (m7 : Nat) (m8 : Nat) (m9 : Nat) (m10 : Nat) (m11 : Nat) (m12 : Nat) (m13 : Nat) (hv : Int64) (ll : Nat → Int64) (fl : Nat → Int32) (a : Nat) (ha : a < 3) (hL : Lm ll fl) : CTi l D cI cJ cZ cR yX7_kindsNow cX7_kindsNow 4 (some .int) 2 42 0 0 sz [.ref h0, .int (nI a)] [(h0, .inr (7, [.int 0, .ref m1, .int 0, .ref m2, .ref m3, .ref m4, .ref m5, .int 0, .int 0, .ref m6, .int 0, .int 0, .int 0, .int 0, .ref m7, .int 0, .int 0, .int 0, .int 0, .ref m8, .ref m9, .ref m10, .int 1, .ref m11, .ref m12, .ref m13, .long hv])), (m11, .inl (cJ, 80, .inr (.inl ll))), (m12, .inl (cI, 48, .inl fl))] (fun (r : Int32) (u : Unit) => (r = 0)) (fun (u : Unit) => [(h0, .inr (7, [.int 0, .ref m1, .int 0, .ref m2, .ref m3, .ref m4, .ref m5, .int 0, .int 0, .ref m6, .int 0, .int 0, .int 0, .int 0, .ref m7, .int 0, .int 0, .int 0, .int 0, .ref m8, .ref m9, .ref m10, .int 1, .ref m11, .ref m12, .ref m13, .long hv])), (m11, .inl (cJ, 80, .inr (.inl ll))), (m12, .inl (cI, 48, .inl fl))]) := by
  refine CTi.of (ty := .int) (by decide) (Nat.le_of_ble_eq_true rfl) rfl ?_
  intro p e s m below meth c A Q ls hd hin hK hsz hP hD hA hS hl hret
  obtain ⟨hx, hb, hml, hown, hts⟩ := id hd
  have hK1 := hK.1
  have hown : s.vm.findClass RX7 = some m.cls := hown
  have hl : lv_has ls 4 [(0, .ref h0), (1, .int (nI a))] := hl
  have hLm := hL
  refine lv_aload_n hx hb dX7_kindsNow_0 rfl (lv_at hl 0 rfl) ?_
  refine xc_v (wc := [(h0, .inr (7, [.int 0, .ref m1, .int 0, .ref m2, .ref m3, .ref m4, .ref m5, .int 0, .int 0, .ref m6, .int 0, .int 0, .int 0, .int 0, .ref m7, .int 0, .int 0, .int 0, .int 0, .ref m8, .ref m9, .ref m10, .int 1, .ref m11, .ref m12, .ref m13, .long hv])), (m11, .inl (cJ, 80, .inr (.inl ll))), (m12, .inl (cI, 48, .inl fl))]) (wr := []) (xrV (n := 0) (As := []) (rest := []) (ci := 7) (q0 := 0) hd hK hP hD (c_layL_1 l D cI cJ cZ cR _ h0 m1 m2 m3 m4 m5 m6 m7 m8 m9 m10 m11 m12 m13 hv ll fl ) (gV t_818 mV_X7_layLights) hV_X7_layLights ⟨(Nat.le_of_ble_eq_true rfl), (Nat.le_of_ble_eq_true rfl)⟩ rfl rfl [0, 1, 2] rfl rfl rfl hl.1 rfl (Nat.le_of_ble_eq_true rfl) dX7_kindsNow_1 ⟨(Nat.le_of_ble_eq_true rfl), (Nat.le_of_ble_eq_true rfl)⟩) hP hD hS hA [0, 1, 2] [] rfl rfl rfl (by decide) (fun u_2 H locs hw_3 hP hD hS => ?_)
  have hP : va_P D vwCl [(h0, .inr (7, [.int 0, .ref m1, .int 0, .ref m2, .ref m3, .ref m4, .ref m5, .int 0, .int 0, .ref m6, .int 0, .int 0, .int 0, .int 0, .ref m7, .int 0, .int 0, .int 0, .int 0, .ref m8, .ref m9, .ref m10, .int 1, .ref m11, .ref m12, .ref m13, .long hv])), (m11, .inl (cJ, 80, .inr (.inl ll))), (m12, .inl (cI, 48, .inl fl))] H := hP
  have hD : va_D A [(h0, .inr (7, [.int 0, .ref m1, .int 0, .ref m2, .ref m3, .ref m4, .ref m5, .int 0, .int 0, .ref m6, .int 0, .int 0, .int 0, .int 0, .ref m7, .int 0, .int 0, .int 0, .int 0, .ref m8, .ref m9, .ref m10, .int 1, .ref m11, .ref m12, .ref m13, .long hv])), (m11, .inl (cJ, 80, .inr (.inl ll))), (m12, .inl (cI, 48, .inl fl))] := hD
  refine lv_iconst (v := 0) hx hb dX7_kindsNow_4 (by decide) ?_
  refine lv_istore_n (lv' := [(2, .int 0), (0, .ref h0), (1, .int (nI a))]) hx hb dX7_kindsNow_5 rfl hl (by decide) rfl (fun ls hl => ?_)
  refine lv_iconst (v := 0) hx hb dX7_kindsNow_6 (by decide) ?_
  refine lv_istore_n (lv' := [(3, .int 0), (2, .int 0), (0, .ref h0), (1, .int (nI a))]) hx hb dX7_kindsNow_7 rfl hl (by decide) rfl (fun ls hl => ?_)
  have LOOP_8 : ∀ (n : Nat) (i : Nat), (i + n = 16) → ∀ (H : Heap) (locs : List Loc) (ls : Array Slot), va_P D vwCl [(h0, .inr (7, [.int 0, .ref m1, .int 0, .ref m2, .ref m3, .ref m4, .ref m5, .int 0, .int 0, .ref m6, .int 0, .int 0, .int 0, .int 0, .ref m7, .int 0, .int 0, .int 0, .int 0, .ref m8, .ref m9, .ref m10, .int 1, .ref m11, .ref m12, .ref m13, .long hv])), (m11, .inl (cJ, 80, .inr (.inl ll))), (m12, .inl (cI, 48, .inl fl))] H → va_D A [(h0, .inr (7, [.int 0, .ref m1, .int 0, .ref m2, .ref m3, .ref m4, .ref m5, .int 0, .int 0, .ref m6, .int 0, .int 0, .int 0, .int 0, .ref m7, .int 0, .int 0, .int 0, .int 0, .ref m8, .ref m9, .ref m10, .int 1, .ref m11, .ref m12, .ref m13, .long hv])), (m11, .inl (cJ, 80, .inr (.inl ll))), (m12, .inl (cI, 48, .inl fl))] → va_S A s.heap H locs → lv_has ls 4 [(0, .ref h0), (1, .int (nI a)), (2, .int 0), (3, .int (nI i))] → W p l e (rM 2 0 0 42) s m ([.ref h0, .int (nI a)] : List Value).toArray below meth c H locs 0 0 Q (F0 m 8 ls []) := by
    intro n
    induction n with
    | zero =>
      intro i hi H locs ls hP hD hS hl
      refine lv_iload_n hx hb dX7_kindsNow_8 rfl (lv_at hl 3 rfl) ?_
      refine lv_bipush (v := 16) hx hb dX7_kindsNow_9 (by decide) ?_
      refine lv_icmp_ge (tgt := 48) hx hb dX7_kindsNow_11 (by decide) (fun c_4 => ?_) (fun c_4 => ?_)
      rotate_left
      · exact absurd (nI_le (a := 16) (b := i) (by omega) (by omega)) c_4
      refine lv_iload_n hx hb dX7_kindsNow_48 rfl (lv_at hl 2 rfl) ?_
      exact hret _ _ _ _ _ _ 0 () dX7_kindsNow_49 rfl hS (Nat.le_of_ble_eq_true rfl) (Nat.le_of_ble_eq_true rfl) rfl (hP.sub [0, 1, 2] rfl) (hD.sub [0, 1, 2] rfl rfl)
    | succ n ih_8 =>
      intro i hi H locs ls hP hD hS hl
      refine lv_iload_n hx hb dX7_kindsNow_8 rfl (lv_at hl 3 rfl) ?_
      refine lv_bipush (v := 16) hx hb dX7_kindsNow_9 (by decide) ?_
      refine lv_icmp_ge (tgt := 48) hx hb dX7_kindsNow_11 (by decide) (fun c_5 => ?_) (fun c_5 => ?_)
      · exact absurd c_5 (nI_ge (a := i) (b := 16) (by omega) (by omega))
      refine lv_iload_n hx hb dX7_kindsNow_14 rfl (lv_at hl 2 rfl) ?_
      refine lv_aload_n hx hb dX7_kindsNow_15 rfl (lv_at hl 0 rfl) ?_
      refine va_get (D := D) (ci := 7) (v := .ref m11) (C := RX7) (T := TX7) (N := 27) hx hb hts iT_X7 hown hK1 hP 0 rfl rfl 23 (by decide) (hts _ t_574) (fun _ h9 => h9) rfl dX7_kindsNow_16 ?_
      refine lv_bipush (v := 16) hx hb dX7_kindsNow_19 (by decide) ?_
      refine lv_iload_n hx hb dX7_kindsNow_21 rfl (lv_at hl 1 rfl) ?_
      refine lv_imul hx hb dX7_kindsNow_22 ?_
      refine lv_nmi (show _ = (nI (16 * a)) from pk_mul (16) (a)) ?_
      refine lv_iload_n hx hb dX7_kindsNow_23 rfl (lv_at hl 3 rfl) ?_
      refine lv_iadd hx hb dX7_kindsNow_24 ?_
      refine lv_nmi (show _ = (nI ((16 * a) + i)) from nI_add ((16 * a)) (i)) ?_
      refine va_lald hx hb hK1 hP 1 1 rfl rfl (vp_in_nI (by omega) (by omega)) dX7_kindsNow_25 ?_
      refine lv_nml (show _ = ll ((16 * a) + i) from by rw [nI_clamp (n := ((16 * a) + i)) (by omega)]) ?_
      refine lv_nml (show _ = (1152921504606846976 : Int64) from hLm.1 _ (by omega)) ?_
      refine lv_ldc2 hx hb hown (hts _ t_825) dX7_kindsNow_26 ?_
      refine W.lcmp hx hb dX7_kindsNow_29 ?_
      refine lv_nmi (show _ = (0 : Int32) from by decide +kernel) ?_
      refine lv_if_ge (tgt := 39) hx hb dX7_kindsNow_30 (by decide) (fun c_6 => ?_) (fun c_6 => ?_)
      rotate_left
      · exact absurd c_6 (by decide)
      refine lv_iconst (v := 0) hx hb dX7_kindsNow_39 (by decide) ?_
      refine lv_ior hx hb dX7_kindsNow_40 ?_
      refine lv_nmi (show _ = (0 : Int32) from by decide +kernel) ?_
      refine lv_istore_n (lv' := [(2, .int 0), (0, .ref h0), (1, .int (nI a)), (3, .int (nI i))]) hx hb dX7_kindsNow_41 rfl hl (by decide) rfl (fun ls hl => ?_)
      refine lv_iinc (v := nI (i + 1)) (lv' := [(3, .int (nI (i + 1))), (2, .int 0), (0, .ref h0), (1, .int (nI a))]) hx hb dX7_kindsNow_42 hl (k := 3) rfl (nI_1 i) (by decide) rfl (fun ls hl => ?_)
      refine lv_goto (tgt := 8) hx hb dX7_kindsNow_45 (by decide) ?_
      exact ih_8 (i + 1) (by omega) _ _ _ (hP.sub [0, 1, 2] rfl) (hD.sub [0, 1, 2] rfl rfl) hS (lv_sub hl [2, 3, 1, 0] rfl)
  exact LOOP_8 16 0 (by omega) _ _ _ (hP.sub [0, 1, 2] rfl) (hD.sub [0, 1, 2] rfl rfl) hS (lv_sub hl [2, 3, 1, 0] rfl)
set_option maxHeartbeats 4000000 in
set_option maxRecDepth 100000 in
theorem c_lightNow_10 (sz : Nat) (h0 : Nat) (m1 : Nat) (m2 : Nat) (m3 : Nat) (m4 : Nat) (m5 : Nat) (m6 : Nat) (m7 : Nat) (m8 : Nat) (m9 : Nat) (m10 : Nat) (m11 : Nat) (m12 : Nat) (m13 : Nat) (hv : Int64) (ll : Nat → Int64) (fl : Nat → Int32) (a : Nat) (b : Nat) (ha : a < 3) (hb0 : b < 16) (hL : Lm ll fl) : CTi l D cI cJ cZ cR yX7_lightNow cX7_lightNow 5 (some .int) 2 42 0 0 sz [.ref h0, .int (nI a), .int (nI b), .int 0] [(h0, .inr (7, [.int 0, .ref m1, .int 0, .ref m2, .ref m3, .ref m4, .ref m5, .int 0, .int 0, .ref m6, .int 0, .int 0, .int 0, .int 0, .ref m7, .int 0, .int 0, .int 0, .int 0, .ref m8, .ref m9, .ref m10, .int 1, .ref m11, .ref m12, .ref m13, .long hv])), (m11, .inl (cJ, 80, .inr (.inl ll))), (m12, .inl (cI, 48, .inl fl))] (fun (r : Int32) (u : Unit) => (r = (-1))) (fun (u : Unit) => [(h0, .inr (7, [.int 0, .ref m1, .int 0, .ref m2, .ref m3, .ref m4, .ref m5, .int 0, .int 0, .ref m6, .int 0, .int 0, .int 0, .int 0, .ref m7, .int 0, .int 0, .int 0, .int 0, .ref m8, .ref m9, .ref m10, .int 1, .ref m11, .ref m12, .ref m13, .long hv])), (m11, .inl (cJ, 80, .inr (.inl ll))), (m12, .inl (cI, 48, .inl fl))]) := by
  refine CTi.of (ty := .int) (by decide) (Nat.le_of_ble_eq_true rfl) rfl ?_
  intro p e s m below meth c A Q ls hd hin hK hsz hP hD hA hS hl hret
  obtain ⟨hx, hb, hml, hown, hts⟩ := id hd
  have hK1 := hK.1
  have hown : s.vm.findClass RX7 = some m.cls := hown
  have hl : lv_has ls 5 [(0, .ref h0), (1, .int (nI a)), (2, .int (nI b)), (3, .int 0)] := hl
  have hLm := hL
  refine lv_aload_n hx hb dX7_lightNow_0 rfl (lv_at hl 0 rfl) ?_
  refine xc_v (wc := [(h0, .inr (7, [.int 0, .ref m1, .int 0, .ref m2, .ref m3, .ref m4, .ref m5, .int 0, .int 0, .ref m6, .int 0, .int 0, .int 0, .int 0, .ref m7, .int 0, .int 0, .int 0, .int 0, .ref m8, .ref m9, .ref m10, .int 1, .ref m11, .ref m12, .ref m13, .long hv])), (m11, .inl (cJ, 80, .inr (.inl ll))), (m12, .inl (cI, 48, .inl fl))]) (wr := []) (xrV (n := 0) (As := []) (rest := []) (ci := 7) (q0 := 0) hd hK hP hD (c_layL_1 l D cI cJ cZ cR _ h0 m1 m2 m3 m4 m5 m6 m7 m8 m9 m10 m11 m12 m13 hv ll fl ) (gV t_818 mV_X7_layLights) hV_X7_layLights ⟨(Nat.le_of_ble_eq_true rfl), (Nat.le_of_ble_eq_true rfl)⟩ rfl rfl [0, 1, 2] rfl rfl rfl hl.1 rfl (Nat.le_of_ble_eq_true rfl) dX7_lightNow_1 ⟨(Nat.le_of_ble_eq_true rfl), (Nat.le_of_ble_eq_true rfl)⟩) hP hD hS hA [0, 1, 2] [] rfl rfl rfl (by decide) (fun u_2 H locs hw_3 hP hD hS => ?_)
  have hP : va_P D vwCl [(h0, .inr (7, [.int 0, .ref m1, .int 0, .ref m2, .ref m3, .ref m4, .ref m5, .int 0, .int 0, .ref m6, .int 0, .int 0, .int 0, .int 0, .ref m7, .int 0, .int 0, .int 0, .int 0, .ref m8, .ref m9, .ref m10, .int 1, .ref m11, .ref m12, .ref m13, .long hv])), (m11, .inl (cJ, 80, .inr (.inl ll))), (m12, .inl (cI, 48, .inl fl))] H := hP
  have hD : va_D A [(h0, .inr (7, [.int 0, .ref m1, .int 0, .ref m2, .ref m3, .ref m4, .ref m5, .int 0, .int 0, .ref m6, .int 0, .int 0, .int 0, .int 0, .ref m7, .int 0, .int 0, .int 0, .int 0, .ref m8, .ref m9, .ref m10, .int 1, .ref m11, .ref m12, .ref m13, .long hv])), (m11, .inl (cJ, 80, .inr (.inl ll))), (m12, .inl (cI, 48, .inl fl))] := hD
  refine lv_bipush (v := 16) hx hb dX7_lightNow_4 (by decide) ?_
  refine lv_iload_n hx hb dX7_lightNow_6 rfl (lv_at hl 1 rfl) ?_
  refine lv_imul hx hb dX7_lightNow_7 ?_
  refine lv_nmi (show _ = (nI (16 * a)) from pk_mul (16) (a)) ?_
  refine lv_iload_n hx hb dX7_lightNow_8 rfl (lv_at hl 2 rfl) ?_
  refine lv_iadd hx hb dX7_lightNow_9 ?_
  refine lv_nmi (show _ = (nI ((16 * a) + b)) from nI_add ((16 * a)) (b)) ?_
  refine lv_istore (lv' := [(4, .int (nI ((16 * a) + b))), (0, .ref h0), (1, .int (nI a)), (2, .int (nI b)), (3, .int 0)]) hx hb dX7_lightNow_10 hl (by decide) rfl (fun ls hl => ?_)
  refine lv_iload_n hx hb dX7_lightNow_12 rfl (lv_at hl 4 rfl) ?_
  refine lv_iconst (v := 1) hx hb dX7_lightNow_13 (by decide) ?_
  refine lv_icmp_ne (tgt := 27) hx hb dX7_lightNow_14 (by decide) (fun c_4 => ?_) (fun c_4 => ?_)
  rotate_left
  · exact absurd c_4 (by decide)
  refine lv_aload_n hx hb dX7_lightNow_27 rfl (lv_at hl 1 rfl) ?_
  refine va_get (D := D) (ci := 7) (v := .ref m11) (C := RX7) (T := TX7) (N := 27) hx hb hts iT_X7 hown hK1 hP 0 rfl rfl 23 (by decide) (hts _ t_574) (fun _ h9 => h9) rfl dX7_lightNow_28 ?_
  refine lv_iload hx hb dX7_lightNow_31 (lv_at hl 0 rfl) ?_
  refine va_lald hx hb hK1 hP 1 1 rfl rfl (vp_in_nI (by omega) (by omega)) dX7_lightNow_33 ?_
  refine lv_nml (show _ = ll ((16 * a) + b) from by rw [nI_clamp (n := ((16 * a) + b)) (by omega)]) ?_
  refine lv_nml (show _ = (1152921504606846976 : Int64) from hLm.1 _ (by omega)) ?_
  refine lv_ldc2 hx hb hown (hts _ t_825) dX7_lightNow_34 ?_
  refine W.lcmp hx hb dX7_lightNow_37 ?_
  refine lv_nmi (show _ = (0 : Int32) from by decide +kernel) ?_
  refine lv_if_ge (tgt := 52) hx hb dX7_lightNow_38 (by decide) (fun c_5 => ?_) (fun c_5 => ?_)
  rotate_left
  · exact absurd c_5 (by decide)
  refine lv_iconst (v := -1) hx hb dX7_lightNow_52 (by decide) ?_
  exact hret _ _ _ _ _ _ (-1) () dX7_lightNow_53 rfl hS (Nat.le_of_ble_eq_true rfl) (Nat.le_of_ble_eq_true rfl) rfl (hP.sub [0, 1, 2] rfl) (hD.sub [0, 1, 2] rfl rfl)
set_option maxHeartbeats 4000000 in
set_option maxRecDepth 100000 in
theorem c_lightNow_11 (sz : Nat) (h0 : Nat) (m1 : Nat) (m2 : Nat) (m3 : Nat) (m4 : Nat) (m5 : Nat) (m6 : Nat) (m7 : Nat) (m8 : Nat) (m9 : Nat) (m10 : Nat) (m11 : Nat) (m12 : Nat) (m13 : Nat) (hv : Int64) (ll : Nat → Int64) (fl : Nat → Int32) (a : Nat) (b : Nat) (ha : a < 3) (hb0 : b < 16) (hL : Lm ll fl) : CTi l D cI cJ cZ cR yX7_lightNow cX7_lightNow 5 (some .int) 2 42 0 0 sz [.ref h0, .int (nI a), .int (nI b), .int 1] [(h0, .inr (7, [.int 0, .ref m1, .int 0, .ref m2, .ref m3, .ref m4, .ref m5, .int 0, .int 0, .ref m6, .int 0, .int 0, .int 0, .int 0, .ref m7, .int 0, .int 0, .int 0, .int 0, .ref m8, .ref m9, .ref m10, .int 1, .ref m11, .ref m12, .ref m13, .long hv])), (m11, .inl (cJ, 80, .inr (.inl ll))), (m12, .inl (cI, 48, .inl fl))] (fun (r : Int32) (u : Unit) => (r = (-1))) (fun (u : Unit) => [(h0, .inr (7, [.int 0, .ref m1, .int 0, .ref m2, .ref m3, .ref m4, .ref m5, .int 0, .int 0, .ref m6, .int 0, .int 0, .int 0, .int 0, .ref m7, .int 0, .int 0, .int 0, .int 0, .ref m8, .ref m9, .ref m10, .int 1, .ref m11, .ref m12, .ref m13, .long hv])), (m11, .inl (cJ, 80, .inr (.inl ll))), (m12, .inl (cI, 48, .inl fl))]) := by
  refine CTi.of (ty := .int) (by decide) (Nat.le_of_ble_eq_true rfl) rfl ?_
  intro p e s m below meth c A Q ls hd hin hK hsz hP hD hA hS hl hret
  obtain ⟨hx, hb, hml, hown, hts⟩ := id hd
  have hK1 := hK.1
  have hown : s.vm.findClass RX7 = some m.cls := hown
  have hl : lv_has ls 5 [(0, .ref h0), (1, .int (nI a)), (2, .int (nI b)), (3, .int 1)] := hl
  have hLm := hL
  refine lv_aload_n hx hb dX7_lightNow_0 rfl (lv_at hl 0 rfl) ?_
  refine xc_v (wc := [(h0, .inr (7, [.int 0, .ref m1, .int 0, .ref m2, .ref m3, .ref m4, .ref m5, .int 0, .int 0, .ref m6, .int 0, .int 0, .int 0, .int 0, .ref m7, .int 0, .int 0, .int 0, .int 0, .ref m8, .ref m9, .ref m10, .int 1, .ref m11, .ref m12, .ref m13, .long hv])), (m11, .inl (cJ, 80, .inr (.inl ll))), (m12, .inl (cI, 48, .inl fl))]) (wr := []) (xrV (n := 0) (As := []) (rest := []) (ci := 7) (q0 := 0) hd hK hP hD (c_layL_1 l D cI cJ cZ cR _ h0 m1 m2 m3 m4 m5 m6 m7 m8 m9 m10 m11 m12 m13 hv ll fl ) (gV t_818 mV_X7_layLights) hV_X7_layLights ⟨(Nat.le_of_ble_eq_true rfl), (Nat.le_of_ble_eq_true rfl)⟩ rfl rfl [0, 1, 2] rfl rfl rfl hl.1 rfl (Nat.le_of_ble_eq_true rfl) dX7_lightNow_1 ⟨(Nat.le_of_ble_eq_true rfl), (Nat.le_of_ble_eq_true rfl)⟩) hP hD hS hA [0, 1, 2] [] rfl rfl rfl (by decide) (fun u_2 H locs hw_3 hP hD hS => ?_)
  have hP : va_P D vwCl [(h0, .inr (7, [.int 0, .ref m1, .int 0, .ref m2, .ref m3, .ref m4, .ref m5, .int 0, .int 0, .ref m6, .int 0, .int 0, .int 0, .int 0, .ref m7, .int 0, .int 0, .int 0, .int 0, .ref m8, .ref m9, .ref m10, .int 1, .ref m11, .ref m12, .ref m13, .long hv])), (m11, .inl (cJ, 80, .inr (.inl ll))), (m12, .inl (cI, 48, .inl fl))] H := hP
  have hD : va_D A [(h0, .inr (7, [.int 0, .ref m1, .int 0, .ref m2, .ref m3, .ref m4, .ref m5, .int 0, .int 0, .ref m6, .int 0, .int 0, .int 0, .int 0, .ref m7, .int 0, .int 0, .int 0, .int 0, .ref m8, .ref m9, .ref m10, .int 1, .ref m11, .ref m12, .ref m13, .long hv])), (m11, .inl (cJ, 80, .inr (.inl ll))), (m12, .inl (cI, 48, .inl fl))] := hD
  refine lv_bipush (v := 16) hx hb dX7_lightNow_4 (by decide) ?_
  refine lv_iload_n hx hb dX7_lightNow_6 rfl (lv_at hl 1 rfl) ?_
  refine lv_imul hx hb dX7_lightNow_7 ?_
  refine lv_nmi (show _ = (nI (16 * a)) from pk_mul (16) (a)) ?_
  refine lv_iload_n hx hb dX7_lightNow_8 rfl (lv_at hl 2 rfl) ?_
  refine lv_iadd hx hb dX7_lightNow_9 ?_
  refine lv_nmi (show _ = (nI ((16 * a) + b)) from nI_add ((16 * a)) (b)) ?_
  refine lv_istore (lv' := [(4, .int (nI ((16 * a) + b))), (0, .ref h0), (1, .int (nI a)), (2, .int (nI b)), (3, .int 1)]) hx hb dX7_lightNow_10 hl (by decide) rfl (fun ls hl => ?_)
  refine lv_iload_n hx hb dX7_lightNow_12 rfl (lv_at hl 4 rfl) ?_
  refine lv_iconst (v := 1) hx hb dX7_lightNow_13 (by decide) ?_
  refine lv_icmp_ne (tgt := 27) hx hb dX7_lightNow_14 (by decide) (fun c_4 => ?_) (fun c_4 => ?_)
  · exact absurd c_4 (by decide)
  refine lv_aload_n hx hb dX7_lightNow_17 rfl (lv_at hl 1 rfl) ?_
  refine va_get (D := D) (ci := 7) (v := .ref m12) (C := RX7) (T := TX7) (N := 27) hx hb hts iT_X7 hown hK1 hP 0 rfl rfl 24 (by decide) (hts _ t_575) (fun _ h9 => h9) rfl dX7_lightNow_18 ?_
  refine lv_iload hx hb dX7_lightNow_21 (lv_at hl 0 rfl) ?_
  refine va_iald hx hb hK1 hP 2 0 rfl rfl (vp_in_nI (by omega) (by omega)) dX7_lightNow_23 ?_
  refine lv_nmi (show _ = fl ((16 * a) + b) from by rw [nI_clamp (n := ((16 * a) + b)) (by omega)]) ?_
  refine lv_nmi (show _ = (-1 : Int32) from hLm.2 _ (by omega)) ?_
  refine lv_goto (tgt := 53) hx hb dX7_lightNow_24 (by decide) ?_
  exact hret _ _ _ _ _ _ (-1) () dX7_lightNow_53 rfl hS (Nat.le_of_ble_eq_true rfl) (Nat.le_of_ble_eq_true rfl) rfl (hP.sub [0, 1, 2] rfl) (hD.sub [0, 1, 2] rfl rfl)
set_option maxHeartbeats 4000000 in
set_option maxRecDepth 100000 in
theorem c_mkinds_ok (sz : Nat) (h0 : Nat) (m1 : Nat) (m2 : Nat) (m3 : Nat) (m4 : Nat) (m5 : Nat) (m6 : Nat) (m7 : Nat) (m8 : Nat) (m9 : Nat) (m10 : Nat) (m11 : Nat) (m12 : Nat) (m13 : Nat) (hv : Int64) (ll : Nat → Int64) (fl : Nat → Int32) (a : Nat) (ha : a < 3) : CTi l D cI cJ cZ cR yX7_kinds cX7_kinds 2 (some .int) 3 65 0 0 sz [.ref h0, .int (nI a)] [(h0, .inr (7, [.int 0, .ref m1, .int 0, .ref m2, .ref m3, .ref m4, .ref m5, .int 0, .int 0, .ref m6, .int 0, .int 0, .int 0, .int 0, .ref m7, .int 0, .int 0, .int 0, .int 0, .ref m8, .ref m9, .ref m10, .int 0, .ref m11, .ref m12, .ref m13, .long hv])), (m11, .inl (cJ, 80, .inr (.inl ll))), (m12, .inl (cI, 48, .inl fl))] (fun (r : Int32) (u : Unit) => (r = 0)) (fun (u : Unit) => []) := by
  refine CTi.of (ty := .int) (by decide) (Nat.le_of_ble_eq_true rfl) rfl ?_
  intro p e s m below meth c A Q ls hd hin hK hsz hP hD hA hS hl hret
  obtain ⟨hx, hb, hml, hown, hts⟩ := id hd
  have hK1 := hK.1
  have hown : s.vm.findClass RX7 = some m.cls := hown
  have hl : lv_has ls 2 [(0, .ref h0), (1, .int (nI a))] := hl
  refine lv_iload_n hx hb dX7_kinds_0 rfl (lv_at hl 1 rfl) ?_
  refine lv_iconst (v := 0) hx hb dX7_kinds_1 (by decide) ?_
  refine lv_iconst (v := 2) hx hb dX7_kinds_2 (by decide) ?_
  refine xc_i (wc := []) (wr := [(h0, .inr (7, [.int 0, .ref m1, .int 0, .ref m2, .ref m3, .ref m4, .ref m5, .int 0, .int 0, .ref m6, .int 0, .int 0, .int 0, .int 0, .ref m7, .int 0, .int 0, .int 0, .int 0, .ref m8, .ref m9, .ref m10, .int 0, .ref m11, .ref m12, .ref m13, .long hv])), (m11, .inl (cJ, 80, .inr (.inl ll))), (m12, .inl (cI, 48, .inl fl))]) (xrS (n := 3) (As := [.int (nI a), .int 0, .int 2]) (rest := []) hd hK hP hD (c_X7_within l D cI cJ cZ cR _ (nI a) 0 2 ) (gS t_637 mS_X7_within) hS_X7_within ⟨(Nat.le_of_ble_eq_true rfl), (Nat.le_of_ble_eq_true rfl)⟩ [] rfl rfl rfl hl.1 rfl (Nat.le_of_ble_eq_true rfl) dX7_kinds_3 ⟨(Nat.le_of_ble_eq_true rfl), (Nat.le_of_ble_eq_true rfl)⟩) hP hD hS hA [] [0, 1, 2] rfl rfl rfl (by decide) (fun r_1 u_2 H locs hw_3 hP hD hS => ?_)
  have hw_4 : r_1 = (if (nI a) < 0 then 0 else if 2 < (nI a) then 0 else 1) := hw_3
  subst hw_4
  have hP : va_P D vwCl [(h0, .inr (7, [.int 0, .ref m1, .int 0, .ref m2, .ref m3, .ref m4, .ref m5, .int 0, .int 0, .ref m6, .int 0, .int 0, .int 0, .int 0, .ref m7, .int 0, .int 0, .int 0, .int 0, .ref m8, .ref m9, .ref m10, .int 0, .ref m11, .ref m12, .ref m13, .long hv])), (m11, .inl (cJ, 80, .inr (.inl ll))), (m12, .inl (cI, 48, .inl fl))] H := hP
  have hD : va_D A [(h0, .inr (7, [.int 0, .ref m1, .int 0, .ref m2, .ref m3, .ref m4, .ref m5, .int 0, .int 0, .ref m6, .int 0, .int 0, .int 0, .int 0, .ref m7, .int 0, .int 0, .int 0, .int 0, .ref m8, .ref m9, .ref m10, .int 0, .ref m11, .ref m12, .ref m13, .long hv])), (m11, .inl (cJ, 80, .inr (.inl ll))), (m12, .inl (cI, 48, .inl fl))] := hD
  refine lv_nmi (show _ = (1 : Int32) from wi_ok ha) ?_
  refine lv_if_eq (tgt := 17) hx hb dX7_kinds_6 (by decide) (fun c_5 => ?_) (fun c_5 => ?_)
  · exact absurd c_5 (by decide)
  refine lv_aload_n hx hb dX7_kinds_9 rfl (lv_at hl 0 rfl) ?_
  refine lv_iload_n hx hb dX7_kinds_10 rfl (lv_at hl 1 rfl) ?_
  refine xc_i (wc := [(h0, .inr (7, [.int 0, .ref m1, .int 0, .ref m2, .ref m3, .ref m4, .ref m5, .int 0, .int 0, .ref m6, .int 0, .int 0, .int 0, .int 0, .ref m7, .int 0, .int 0, .int 0, .int 0, .ref m8, .ref m9, .ref m10, .int 0, .ref m11, .ref m12, .ref m13, .long hv])), (m11, .inl (cJ, 80, .inr (.inl ll))), (m12, .inl (cI, 48, .inl fl))]) (wr := []) (xrV (n := 1) (As := [.int (nI a)]) (rest := []) (ci := 7) (q0 := 0) hd hK hP hD (c_kindsNow_0 l D cI cJ cZ cR _ h0 m1 m2 m3 m4 m5 m6 m7 m8 m9 m10 m11 m12 m13 hv ll fl a ha) (gV t_814 mV_X7_kindsNow) hV_X7_kindsNow ⟨(Nat.le_of_ble_eq_true rfl), (Nat.le_of_ble_eq_true rfl)⟩ rfl rfl [0, 1, 2] rfl rfl rfl hl.1 rfl (Nat.le_of_ble_eq_true rfl) dX7_kinds_11 ⟨(Nat.le_of_ble_eq_true rfl), (Nat.le_of_ble_eq_true rfl)⟩) hP hD hS hA [0, 1, 2] [] rfl rfl rfl (by decide) (fun r_6 u_7 H locs hw_8 hP hD hS => ?_)
  obtain ⟨l2_9, f2_10⟩ := u_7
  obtain ⟨hw_11, hw_12⟩ : (r_6 = 0) ∧ (Lm l2_9 f2_10) := hw_8
  subst hw_11
  have hP : va_P D vwCl [(h0, .inr (7, [.int 0, .ref m1, .int 0, .ref m2, .ref m3, .ref m4, .ref m5, .int 0, .int 0, .ref m6, .int 0, .int 0, .int 0, .int 0, .ref m7, .int 0, .int 0, .int 0, .int 0, .ref m8, .ref m9, .ref m10, .int 1, .ref m11, .ref m12, .ref m13, .long hv])), (m11, .inl (cJ, 80, .inr (.inl l2_9))), (m12, .inl (cI, 48, .inl f2_10))] H := hP
  have hD : va_D A [(h0, .inr (7, [.int 0, .ref m1, .int 0, .ref m2, .ref m3, .ref m4, .ref m5, .int 0, .int 0, .ref m6, .int 0, .int 0, .int 0, .int 0, .ref m7, .int 0, .int 0, .int 0, .int 0, .ref m8, .ref m9, .ref m10, .int 1, .ref m11, .ref m12, .ref m13, .long hv])), (m11, .inl (cJ, 80, .inr (.inl l2_9))), (m12, .inl (cI, 48, .inl f2_10))] := hD
  refine lv_goto (tgt := 20) hx hb dX7_kinds_14 (by decide) ?_
  exact hret _ _ _ _ _ _ 0 () dX7_kinds_20 rfl hS (Nat.le_of_ble_eq_true rfl) (Nat.le_of_ble_eq_true rfl) rfl (hP.sub [] rfl) (hD.sub [] rfl rfl)
set_option maxHeartbeats 4000000 in
set_option maxRecDepth 100000 in
theorem c_mkinds_bad (sz : Nat) (h0 : Nat) (m1 : Nat) (m2 : Nat) (m3 : Nat) (m4 : Nat) (m5 : Nat) (m6 : Nat) (m7 : Nat) (m8 : Nat) (m9 : Nat) (m10 : Nat) (m11 : Nat) (m12 : Nat) (m13 : Nat) (hv : Int64) (p0 : Int32) (hp : p0 < 0 ∨ 3 ≤ p0) : CTi l D cI cJ cZ cR yX7_kinds cX7_kinds 2 (some .int) 1 22 0 0 sz [.ref h0, .int p0] [(h0, .inr (7, [.int 0, .ref m1, .int 0, .ref m2, .ref m3, .ref m4, .ref m5, .int 0, .int 0, .ref m6, .int 0, .int 0, .int 0, .int 0, .ref m7, .int 0, .int 0, .int 0, .int 0, .ref m8, .ref m9, .ref m10, .int 0, .ref m11, .ref m12, .ref m13, .long hv]))] (fun (r : Int32) (u : Unit) => (r = (-1001))) (fun (u : Unit) => []) := by
  refine CTi.of (ty := .int) (by decide) (Nat.le_of_ble_eq_true rfl) rfl ?_
  intro p e s m below meth c A Q ls hd hin hK hsz hP hD hA hS hl hret
  obtain ⟨hx, hb, hml, hown, hts⟩ := id hd
  have hK1 := hK.1
  have hown : s.vm.findClass RX7 = some m.cls := hown
  have hl : lv_has ls 2 [(0, .ref h0), (1, .int p0)] := hl
  refine lv_iload_n hx hb dX7_kinds_0 rfl (lv_at hl 1 rfl) ?_
  refine lv_iconst (v := 0) hx hb dX7_kinds_1 (by decide) ?_
  refine lv_iconst (v := 2) hx hb dX7_kinds_2 (by decide) ?_
  refine xc_i (wc := []) (wr := [(h0, .inr (7, [.int 0, .ref m1, .int 0, .ref m2, .ref m3, .ref m4, .ref m5, .int 0, .int 0, .ref m6, .int 0, .int 0, .int 0, .int 0, .ref m7, .int 0, .int 0, .int 0, .int 0, .ref m8, .ref m9, .ref m10, .int 0, .ref m11, .ref m12, .ref m13, .long hv]))]) (xrS (n := 3) (As := [.int p0, .int 0, .int 2]) (rest := []) hd hK hP hD (c_X7_within l D cI cJ cZ cR _ p0 0 2 ) (gS t_637 mS_X7_within) hS_X7_within ⟨(Nat.le_of_ble_eq_true rfl), (Nat.le_of_ble_eq_true rfl)⟩ [] rfl rfl rfl hl.1 rfl (Nat.le_of_ble_eq_true rfl) dX7_kinds_3 ⟨(Nat.le_of_ble_eq_true rfl), (Nat.le_of_ble_eq_true rfl)⟩) hP hD hS hA [] [0] rfl rfl rfl (by decide) (fun r_1 u_2 H locs hw_3 hP hD hS => ?_)
  have hw_4 : r_1 = (if p0 < 0 then 0 else if 2 < p0 then 0 else 1) := hw_3
  subst hw_4
  have hP : va_P D vwCl [(h0, .inr (7, [.int 0, .ref m1, .int 0, .ref m2, .ref m3, .ref m4, .ref m5, .int 0, .int 0, .ref m6, .int 0, .int 0, .int 0, .int 0, .ref m7, .int 0, .int 0, .int 0, .int 0, .ref m8, .ref m9, .ref m10, .int 0, .ref m11, .ref m12, .ref m13, .long hv]))] H := hP
  have hD : va_D A [(h0, .inr (7, [.int 0, .ref m1, .int 0, .ref m2, .ref m3, .ref m4, .ref m5, .int 0, .int 0, .ref m6, .int 0, .int 0, .int 0, .int 0, .ref m7, .int 0, .int 0, .int 0, .int 0, .ref m8, .ref m9, .ref m10, .int 0, .ref m11, .ref m12, .ref m13, .long hv]))] := hD
  refine lv_nmi (show _ = (0 : Int32) from wi_bad hp) ?_
  refine lv_if_eq (tgt := 17) hx hb dX7_kinds_6 (by decide) (fun c_5 => ?_) (fun c_5 => ?_)
  rotate_left
  · exact absurd c_5 (by decide)
  refine lv_sipush (v := -1001) hx hb dX7_kinds_17 (by decide) ?_
  exact hret _ _ _ _ _ _ (-1001) () dX7_kinds_20 rfl hS (Nat.le_of_ble_eq_true rfl) (Nat.le_of_ble_eq_true rfl) rfl (hP.sub [] rfl) (hD.sub [] rfl rfl)
set_option maxHeartbeats 4000000 in
set_option maxRecDepth 100000 in
theorem c_mlight_0 (sz : Nat) (h0 : Nat) (m1 : Nat) (m2 : Nat) (m3 : Nat) (m4 : Nat) (m5 : Nat) (m6 : Nat) (m7 : Nat) (m8 : Nat) (m9 : Nat) (m10 : Nat) (m11 : Nat) (m12 : Nat) (m13 : Nat) (hv : Int64) (ll : Nat → Int64) (fl : Nat → Int32) (a : Nat) (b : Nat) (ha : a < 3) (hb0 : b < 16) : CTi l D cI cJ cZ cR yX7_light cX7_light 4 (some .int) 3 66 0 0 sz [.ref h0, .int (nI a), .int (nI b), .int 0] [(h0, .inr (7, [.int 0, .ref m1, .int 0, .ref m2, .ref m3, .ref m4, .ref m5, .int 0, .int 0, .ref m6, .int 0, .int 0, .int 0, .int 0, .ref m7, .int 0, .int 0, .int 0, .int 0, .ref m8, .ref m9, .ref m10, .int 0, .ref m11, .ref m12, .ref m13, .long hv])), (m11, .inl (cJ, 80, .inr (.inl ll))), (m12, .inl (cI, 48, .inl fl))] (fun (r : Int32) (u : Unit) => (r = (-1))) (fun (u : Unit) => []) := by
  refine CTi.of (ty := .int) (by decide) (Nat.le_of_ble_eq_true rfl) rfl ?_
  intro p e s m below meth c A Q ls hd hin hK hsz hP hD hA hS hl hret
  obtain ⟨hx, hb, hml, hown, hts⟩ := id hd
  have hK1 := hK.1
  have hown : s.vm.findClass RX7 = some m.cls := hown
  have hl : lv_has ls 4 [(0, .ref h0), (1, .int (nI a)), (2, .int (nI b)), (3, .int 0)] := hl
  refine lv_iload_n hx hb dX7_light_0 rfl (lv_at hl 1 rfl) ?_
  refine lv_iconst (v := 0) hx hb dX7_light_1 (by decide) ?_
  refine lv_iconst (v := 2) hx hb dX7_light_2 (by decide) ?_
  refine xc_i (wc := []) (wr := [(h0, .inr (7, [.int 0, .ref m1, .int 0, .ref m2, .ref m3, .ref m4, .ref m5, .int 0, .int 0, .ref m6, .int 0, .int 0, .int 0, .int 0, .ref m7, .int 0, .int 0, .int 0, .int 0, .ref m8, .ref m9, .ref m10, .int 0, .ref m11, .ref m12, .ref m13, .long hv])), (m11, .inl (cJ, 80, .inr (.inl ll))), (m12, .inl (cI, 48, .inl fl))]) (xrS (n := 3) (As := [.int (nI a), .int 0, .int 2]) (rest := []) hd hK hP hD (c_X7_within l D cI cJ cZ cR _ (nI a) 0 2 ) (gS t_637 mS_X7_within) hS_X7_within ⟨(Nat.le_of_ble_eq_true rfl), (Nat.le_of_ble_eq_true rfl)⟩ [] rfl rfl rfl hl.1 rfl (Nat.le_of_ble_eq_true rfl) dX7_light_3 ⟨(Nat.le_of_ble_eq_true rfl), (Nat.le_of_ble_eq_true rfl)⟩) hP hD hS hA [] [0, 1, 2] rfl rfl rfl (by decide) (fun r_1 u_2 H locs hw_3 hP hD hS => ?_)
  have hw_4 : r_1 = (if (nI a) < 0 then 0 else if 2 < (nI a) then 0 else 1) := hw_3
  subst hw_4
  have hP : va_P D vwCl [(h0, .inr (7, [.int 0, .ref m1, .int 0, .ref m2, .ref m3, .ref m4, .ref m5, .int 0, .int 0, .ref m6, .int 0, .int 0, .int 0, .int 0, .ref m7, .int 0, .int 0, .int 0, .int 0, .ref m8, .ref m9, .ref m10, .int 0, .ref m11, .ref m12, .ref m13, .long hv])), (m11, .inl (cJ, 80, .inr (.inl ll))), (m12, .inl (cI, 48, .inl fl))] H := hP
  have hD : va_D A [(h0, .inr (7, [.int 0, .ref m1, .int 0, .ref m2, .ref m3, .ref m4, .ref m5, .int 0, .int 0, .ref m6, .int 0, .int 0, .int 0, .int 0, .ref m7, .int 0, .int 0, .int 0, .int 0, .ref m8, .ref m9, .ref m10, .int 0, .ref m11, .ref m12, .ref m13, .long hv])), (m11, .inl (cJ, 80, .inr (.inl ll))), (m12, .inl (cI, 48, .inl fl))] := hD
  refine lv_nmi (show _ = (1 : Int32) from wi_ok ha) ?_
  refine lv_if_ne (tgt := 13) hx hb dX7_light_6 (by decide) (fun c_5 => ?_) (fun c_5 => ?_)
  rotate_left
  · exact absurd c_5 (by decide)
  refine lv_iload_n hx hb dX7_light_13 rfl (lv_at hl 2 rfl) ?_
  refine lv_iconst (v := 0) hx hb dX7_light_14 (by decide) ?_
  refine lv_bipush (v := 15) hx hb dX7_light_15 (by decide) ?_
  refine xc_i (wc := []) (wr := [(h0, .inr (7, [.int 0, .ref m1, .int 0, .ref m2, .ref m3, .ref m4, .ref m5, .int 0, .int 0, .ref m6, .int 0, .int 0, .int 0, .int 0, .ref m7, .int 0, .int 0, .int 0, .int 0, .ref m8, .ref m9, .ref m10, .int 0, .ref m11, .ref m12, .ref m13, .long hv])), (m11, .inl (cJ, 80, .inr (.inl ll))), (m12, .inl (cI, 48, .inl fl))]) (xrS (n := 3) (As := [.int (nI b), .int 0, .int 15]) (rest := []) hd hK hP hD (c_X7_within l D cI cJ cZ cR _ (nI b) 0 15 ) (gS t_637 mS_X7_within) hS_X7_within ⟨(Nat.le_of_ble_eq_true rfl), (Nat.le_of_ble_eq_true rfl)⟩ [] rfl rfl rfl hl.1 rfl (Nat.le_of_ble_eq_true rfl) dX7_light_17 ⟨(Nat.le_of_ble_eq_true rfl), (Nat.le_of_ble_eq_true rfl)⟩) hP hD hS hA [] [0, 1, 2] rfl rfl rfl (by decide) (fun r_6 u_7 H locs hw_8 hP hD hS => ?_)
  have hw_9 : r_6 = (if (nI b) < 0 then 0 else if 15 < (nI b) then 0 else 1) := hw_8
  subst hw_9
  have hP : va_P D vwCl [(h0, .inr (7, [.int 0, .ref m1, .int 0, .ref m2, .ref m3, .ref m4, .ref m5, .int 0, .int 0, .ref m6, .int 0, .int 0, .int 0, .int 0, .ref m7, .int 0, .int 0, .int 0, .int 0, .ref m8, .ref m9, .ref m10, .int 0, .ref m11, .ref m12, .ref m13, .long hv])), (m11, .inl (cJ, 80, .inr (.inl ll))), (m12, .inl (cI, 48, .inl fl))] H := hP
  have hD : va_D A [(h0, .inr (7, [.int 0, .ref m1, .int 0, .ref m2, .ref m3, .ref m4, .ref m5, .int 0, .int 0, .ref m6, .int 0, .int 0, .int 0, .int 0, .ref m7, .int 0, .int 0, .int 0, .int 0, .ref m8, .ref m9, .ref m10, .int 0, .ref m11, .ref m12, .ref m13, .long hv])), (m11, .inl (cJ, 80, .inr (.inl ll))), (m12, .inl (cI, 48, .inl fl))] := hD
  refine lv_nmi (show _ = (1 : Int32) from wi_ok15 hb0) ?_
  refine lv_if_eq (tgt := 42) hx hb dX7_light_20 (by decide) (fun c_10 => ?_) (fun c_10 => ?_)
  · exact absurd c_10 (by decide)
  refine lv_iload_n hx hb dX7_light_23 rfl (lv_at hl 3 rfl) ?_
  refine lv_iconst (v := 0) hx hb dX7_light_24 (by decide) ?_
  refine lv_iconst (v := 1) hx hb dX7_light_25 (by decide) ?_
  refine xc_i (wc := []) (wr := [(h0, .inr (7, [.int 0, .ref m1, .int 0, .ref m2, .ref m3, .ref m4, .ref m5, .int 0, .int 0, .ref m6, .int 0, .int 0, .int 0, .int 0, .ref m7, .int 0, .int 0, .int 0, .int 0, .ref m8, .ref m9, .ref m10, .int 0, .ref m11, .ref m12, .ref m13, .long hv])), (m11, .inl (cJ, 80, .inr (.inl ll))), (m12, .inl (cI, 48, .inl fl))]) (xrS (n := 3) (As := [.int 0, .int 0, .int 1]) (rest := []) hd hK hP hD (c_X7_within l D cI cJ cZ cR _ 0 0 1 ) (gS t_637 mS_X7_within) hS_X7_within ⟨(Nat.le_of_ble_eq_true rfl), (Nat.le_of_ble_eq_true rfl)⟩ [] rfl rfl rfl hl.1 rfl (Nat.le_of_ble_eq_true rfl) dX7_light_26 ⟨(Nat.le_of_ble_eq_true rfl), (Nat.le_of_ble_eq_true rfl)⟩) hP hD hS hA [] [0, 1, 2] rfl rfl rfl (by decide) (fun r_11 u_12 H locs hw_13 hP hD hS => ?_)
  have hw_14 : r_11 = (if 0 < 0 then 0 else if 1 < 0 then 0 else 1) := hw_13
  subst hw_14
  have hP : va_P D vwCl [(h0, .inr (7, [.int 0, .ref m1, .int 0, .ref m2, .ref m3, .ref m4, .ref m5, .int 0, .int 0, .ref m6, .int 0, .int 0, .int 0, .int 0, .ref m7, .int 0, .int 0, .int 0, .int 0, .ref m8, .ref m9, .ref m10, .int 0, .ref m11, .ref m12, .ref m13, .long hv])), (m11, .inl (cJ, 80, .inr (.inl ll))), (m12, .inl (cI, 48, .inl fl))] H := hP
  have hD : va_D A [(h0, .inr (7, [.int 0, .ref m1, .int 0, .ref m2, .ref m3, .ref m4, .ref m5, .int 0, .int 0, .ref m6, .int 0, .int 0, .int 0, .int 0, .ref m7, .int 0, .int 0, .int 0, .int 0, .ref m8, .ref m9, .ref m10, .int 0, .ref m11, .ref m12, .ref m13, .long hv])), (m11, .inl (cJ, 80, .inr (.inl ll))), (m12, .inl (cI, 48, .inl fl))] := hD
  refine lv_nmi (show _ = (1 : Int32) from by decide) ?_
  refine lv_if_eq (tgt := 42) hx hb dX7_light_29 (by decide) (fun c_15 => ?_) (fun c_15 => ?_)
  · exact absurd c_15 (by decide)
  refine lv_aload_n hx hb dX7_light_32 rfl (lv_at hl 0 rfl) ?_
  refine lv_iload_n hx hb dX7_light_33 rfl (lv_at hl 1 rfl) ?_
  refine lv_iload_n hx hb dX7_light_34 rfl (lv_at hl 2 rfl) ?_
  refine lv_iload_n hx hb dX7_light_35 rfl (lv_at hl 3 rfl) ?_
  refine xc_i (wc := [(h0, .inr (7, [.int 0, .ref m1, .int 0, .ref m2, .ref m3, .ref m4, .ref m5, .int 0, .int 0, .ref m6, .int 0, .int 0, .int 0, .int 0, .ref m7, .int 0, .int 0, .int 0, .int 0, .ref m8, .ref m9, .ref m10, .int 0, .ref m11, .ref m12, .ref m13, .long hv])), (m11, .inl (cJ, 80, .inr (.inl ll))), (m12, .inl (cI, 48, .inl fl))]) (wr := []) (xrV (n := 3) (As := [.int (nI a), .int (nI b), .int 0]) (rest := []) (ci := 7) (q0 := 0) hd hK hP hD (c_lightNow_00 l D cI cJ cZ cR _ h0 m1 m2 m3 m4 m5 m6 m7 m8 m9 m10 m11 m12 m13 hv ll fl a b ha hb0) (gV t_846 mV_X7_lightNow) hV_X7_lightNow ⟨(Nat.le_of_ble_eq_true rfl), (Nat.le_of_ble_eq_true rfl)⟩ rfl rfl [0, 1, 2] rfl rfl rfl hl.1 rfl (Nat.le_of_ble_eq_true rfl) dX7_light_36 ⟨(Nat.le_of_ble_eq_true rfl), (Nat.le_of_ble_eq_true rfl)⟩) hP hD hS hA [0, 1, 2] [] rfl rfl rfl (by decide) (fun r_16 u_17 H locs hw_18 hP hD hS => ?_)
  obtain ⟨l2_19, f2_20⟩ := u_17
  obtain ⟨hw_21, hw_22⟩ : (r_16 = (-1)) ∧ (Lm l2_19 f2_20) := hw_18
  subst hw_21
  have hP : va_P D vwCl [(h0, .inr (7, [.int 0, .ref m1, .int 0, .ref m2, .ref m3, .ref m4, .ref m5, .int 0, .int 0, .ref m6, .int 0, .int 0, .int 0, .int 0, .ref m7, .int 0, .int 0, .int 0, .int 0, .ref m8, .ref m9, .ref m10, .int 1, .ref m11, .ref m12, .ref m13, .long hv])), (m11, .inl (cJ, 80, .inr (.inl l2_19))), (m12, .inl (cI, 48, .inl f2_20))] H := hP
  have hD : va_D A [(h0, .inr (7, [.int 0, .ref m1, .int 0, .ref m2, .ref m3, .ref m4, .ref m5, .int 0, .int 0, .ref m6, .int 0, .int 0, .int 0, .int 0, .ref m7, .int 0, .int 0, .int 0, .int 0, .ref m8, .ref m9, .ref m10, .int 1, .ref m11, .ref m12, .ref m13, .long hv])), (m11, .inl (cJ, 80, .inr (.inl l2_19))), (m12, .inl (cI, 48, .inl f2_20))] := hD
  refine lv_goto (tgt := 45) hx hb dX7_light_39 (by decide) ?_
  exact hret _ _ _ _ _ _ (-1) () dX7_light_45 rfl hS (Nat.le_of_ble_eq_true rfl) (Nat.le_of_ble_eq_true rfl) rfl (hP.sub [] rfl) (hD.sub [] rfl rfl)
set_option maxHeartbeats 4000000 in
set_option maxRecDepth 100000 in
theorem c_mlight_1 (sz : Nat) (h0 : Nat) (m1 : Nat) (m2 : Nat) (m3 : Nat) (m4 : Nat) (m5 : Nat) (m6 : Nat) (m7 : Nat) (m8 : Nat) (m9 : Nat) (m10 : Nat) (m11 : Nat) (m12 : Nat) (m13 : Nat) (hv : Int64) (ll : Nat → Int64) (fl : Nat → Int32) (a : Nat) (b : Nat) (ha : a < 3) (hb0 : b < 16) : CTi l D cI cJ cZ cR yX7_light cX7_light 4 (some .int) 3 66 0 0 sz [.ref h0, .int (nI a), .int (nI b), .int 1] [(h0, .inr (7, [.int 0, .ref m1, .int 0, .ref m2, .ref m3, .ref m4, .ref m5, .int 0, .int 0, .ref m6, .int 0, .int 0, .int 0, .int 0, .ref m7, .int 0, .int 0, .int 0, .int 0, .ref m8, .ref m9, .ref m10, .int 0, .ref m11, .ref m12, .ref m13, .long hv])), (m11, .inl (cJ, 80, .inr (.inl ll))), (m12, .inl (cI, 48, .inl fl))] (fun (r : Int32) (u : Unit) => (r = (-1))) (fun (u : Unit) => []) := by
  refine CTi.of (ty := .int) (by decide) (Nat.le_of_ble_eq_true rfl) rfl ?_
  intro p e s m below meth c A Q ls hd hin hK hsz hP hD hA hS hl hret
  obtain ⟨hx, hb, hml, hown, hts⟩ := id hd
  have hK1 := hK.1
  have hown : s.vm.findClass RX7 = some m.cls := hown
  have hl : lv_has ls 4 [(0, .ref h0), (1, .int (nI a)), (2, .int (nI b)), (3, .int 1)] := hl
  refine lv_iload_n hx hb dX7_light_0 rfl (lv_at hl 1 rfl) ?_
  refine lv_iconst (v := 0) hx hb dX7_light_1 (by decide) ?_
  refine lv_iconst (v := 2) hx hb dX7_light_2 (by decide) ?_
  refine xc_i (wc := []) (wr := [(h0, .inr (7, [.int 0, .ref m1, .int 0, .ref m2, .ref m3, .ref m4, .ref m5, .int 0, .int 0, .ref m6, .int 0, .int 0, .int 0, .int 0, .ref m7, .int 0, .int 0, .int 0, .int 0, .ref m8, .ref m9, .ref m10, .int 0, .ref m11, .ref m12, .ref m13, .long hv])), (m11, .inl (cJ, 80, .inr (.inl ll))), (m12, .inl (cI, 48, .inl fl))]) (xrS (n := 3) (As := [.int (nI a), .int 0, .int 2]) (rest := []) hd hK hP hD (c_X7_within l D cI cJ cZ cR _ (nI a) 0 2 ) (gS t_637 mS_X7_within) hS_X7_within ⟨(Nat.le_of_ble_eq_true rfl), (Nat.le_of_ble_eq_true rfl)⟩ [] rfl rfl rfl hl.1 rfl (Nat.le_of_ble_eq_true rfl) dX7_light_3 ⟨(Nat.le_of_ble_eq_true rfl), (Nat.le_of_ble_eq_true rfl)⟩) hP hD hS hA [] [0, 1, 2] rfl rfl rfl (by decide) (fun r_1 u_2 H locs hw_3 hP hD hS => ?_)
  have hw_4 : r_1 = (if (nI a) < 0 then 0 else if 2 < (nI a) then 0 else 1) := hw_3
  subst hw_4
  have hP : va_P D vwCl [(h0, .inr (7, [.int 0, .ref m1, .int 0, .ref m2, .ref m3, .ref m4, .ref m5, .int 0, .int 0, .ref m6, .int 0, .int 0, .int 0, .int 0, .ref m7, .int 0, .int 0, .int 0, .int 0, .ref m8, .ref m9, .ref m10, .int 0, .ref m11, .ref m12, .ref m13, .long hv])), (m11, .inl (cJ, 80, .inr (.inl ll))), (m12, .inl (cI, 48, .inl fl))] H := hP
  have hD : va_D A [(h0, .inr (7, [.int 0, .ref m1, .int 0, .ref m2, .ref m3, .ref m4, .ref m5, .int 0, .int 0, .ref m6, .int 0, .int 0, .int 0, .int 0, .ref m7, .int 0, .int 0, .int 0, .int 0, .ref m8, .ref m9, .ref m10, .int 0, .ref m11, .ref m12, .ref m13, .long hv])), (m11, .inl (cJ, 80, .inr (.inl ll))), (m12, .inl (cI, 48, .inl fl))] := hD
  refine lv_nmi (show _ = (1 : Int32) from wi_ok ha) ?_
  refine lv_if_ne (tgt := 13) hx hb dX7_light_6 (by decide) (fun c_5 => ?_) (fun c_5 => ?_)
  rotate_left
  · exact absurd c_5 (by decide)
  refine lv_iload_n hx hb dX7_light_13 rfl (lv_at hl 2 rfl) ?_
  refine lv_iconst (v := 0) hx hb dX7_light_14 (by decide) ?_
  refine lv_bipush (v := 15) hx hb dX7_light_15 (by decide) ?_
  refine xc_i (wc := []) (wr := [(h0, .inr (7, [.int 0, .ref m1, .int 0, .ref m2, .ref m3, .ref m4, .ref m5, .int 0, .int 0, .ref m6, .int 0, .int 0, .int 0, .int 0, .ref m7, .int 0, .int 0, .int 0, .int 0, .ref m8, .ref m9, .ref m10, .int 0, .ref m11, .ref m12, .ref m13, .long hv])), (m11, .inl (cJ, 80, .inr (.inl ll))), (m12, .inl (cI, 48, .inl fl))]) (xrS (n := 3) (As := [.int (nI b), .int 0, .int 15]) (rest := []) hd hK hP hD (c_X7_within l D cI cJ cZ cR _ (nI b) 0 15 ) (gS t_637 mS_X7_within) hS_X7_within ⟨(Nat.le_of_ble_eq_true rfl), (Nat.le_of_ble_eq_true rfl)⟩ [] rfl rfl rfl hl.1 rfl (Nat.le_of_ble_eq_true rfl) dX7_light_17 ⟨(Nat.le_of_ble_eq_true rfl), (Nat.le_of_ble_eq_true rfl)⟩) hP hD hS hA [] [0, 1, 2] rfl rfl rfl (by decide) (fun r_6 u_7 H locs hw_8 hP hD hS => ?_)
  have hw_9 : r_6 = (if (nI b) < 0 then 0 else if 15 < (nI b) then 0 else 1) := hw_8
  subst hw_9
  have hP : va_P D vwCl [(h0, .inr (7, [.int 0, .ref m1, .int 0, .ref m2, .ref m3, .ref m4, .ref m5, .int 0, .int 0, .ref m6, .int 0, .int 0, .int 0, .int 0, .ref m7, .int 0, .int 0, .int 0, .int 0, .ref m8, .ref m9, .ref m10, .int 0, .ref m11, .ref m12, .ref m13, .long hv])), (m11, .inl (cJ, 80, .inr (.inl ll))), (m12, .inl (cI, 48, .inl fl))] H := hP
  have hD : va_D A [(h0, .inr (7, [.int 0, .ref m1, .int 0, .ref m2, .ref m3, .ref m4, .ref m5, .int 0, .int 0, .ref m6, .int 0, .int 0, .int 0, .int 0, .ref m7, .int 0, .int 0, .int 0, .int 0, .ref m8, .ref m9, .ref m10, .int 0, .ref m11, .ref m12, .ref m13, .long hv])), (m11, .inl (cJ, 80, .inr (.inl ll))), (m12, .inl (cI, 48, .inl fl))] := hD
  refine lv_nmi (show _ = (1 : Int32) from wi_ok15 hb0) ?_
  refine lv_if_eq (tgt := 42) hx hb dX7_light_20 (by decide) (fun c_10 => ?_) (fun c_10 => ?_)
  · exact absurd c_10 (by decide)
  refine lv_iload_n hx hb dX7_light_23 rfl (lv_at hl 3 rfl) ?_
  refine lv_iconst (v := 0) hx hb dX7_light_24 (by decide) ?_
  refine lv_iconst (v := 1) hx hb dX7_light_25 (by decide) ?_
  refine xc_i (wc := []) (wr := [(h0, .inr (7, [.int 0, .ref m1, .int 0, .ref m2, .ref m3, .ref m4, .ref m5, .int 0, .int 0, .ref m6, .int 0, .int 0, .int 0, .int 0, .ref m7, .int 0, .int 0, .int 0, .int 0, .ref m8, .ref m9, .ref m10, .int 0, .ref m11, .ref m12, .ref m13, .long hv])), (m11, .inl (cJ, 80, .inr (.inl ll))), (m12, .inl (cI, 48, .inl fl))]) (xrS (n := 3) (As := [.int 1, .int 0, .int 1]) (rest := []) hd hK hP hD (c_X7_within l D cI cJ cZ cR _ 1 0 1 ) (gS t_637 mS_X7_within) hS_X7_within ⟨(Nat.le_of_ble_eq_true rfl), (Nat.le_of_ble_eq_true rfl)⟩ [] rfl rfl rfl hl.1 rfl (Nat.le_of_ble_eq_true rfl) dX7_light_26 ⟨(Nat.le_of_ble_eq_true rfl), (Nat.le_of_ble_eq_true rfl)⟩) hP hD hS hA [] [0, 1, 2] rfl rfl rfl (by decide) (fun r_11 u_12 H locs hw_13 hP hD hS => ?_)
  have hw_14 : r_11 = (if 1 < 0 then 0 else if 1 < 1 then 0 else 1) := hw_13
  subst hw_14
  have hP : va_P D vwCl [(h0, .inr (7, [.int 0, .ref m1, .int 0, .ref m2, .ref m3, .ref m4, .ref m5, .int 0, .int 0, .ref m6, .int 0, .int 0, .int 0, .int 0, .ref m7, .int 0, .int 0, .int 0, .int 0, .ref m8, .ref m9, .ref m10, .int 0, .ref m11, .ref m12, .ref m13, .long hv])), (m11, .inl (cJ, 80, .inr (.inl ll))), (m12, .inl (cI, 48, .inl fl))] H := hP
  have hD : va_D A [(h0, .inr (7, [.int 0, .ref m1, .int 0, .ref m2, .ref m3, .ref m4, .ref m5, .int 0, .int 0, .ref m6, .int 0, .int 0, .int 0, .int 0, .ref m7, .int 0, .int 0, .int 0, .int 0, .ref m8, .ref m9, .ref m10, .int 0, .ref m11, .ref m12, .ref m13, .long hv])), (m11, .inl (cJ, 80, .inr (.inl ll))), (m12, .inl (cI, 48, .inl fl))] := hD
  refine lv_nmi (show _ = (1 : Int32) from by decide) ?_
  refine lv_if_eq (tgt := 42) hx hb dX7_light_29 (by decide) (fun c_15 => ?_) (fun c_15 => ?_)
  · exact absurd c_15 (by decide)
  refine lv_aload_n hx hb dX7_light_32 rfl (lv_at hl 0 rfl) ?_
  refine lv_iload_n hx hb dX7_light_33 rfl (lv_at hl 1 rfl) ?_
  refine lv_iload_n hx hb dX7_light_34 rfl (lv_at hl 2 rfl) ?_
  refine lv_iload_n hx hb dX7_light_35 rfl (lv_at hl 3 rfl) ?_
  refine xc_i (wc := [(h0, .inr (7, [.int 0, .ref m1, .int 0, .ref m2, .ref m3, .ref m4, .ref m5, .int 0, .int 0, .ref m6, .int 0, .int 0, .int 0, .int 0, .ref m7, .int 0, .int 0, .int 0, .int 0, .ref m8, .ref m9, .ref m10, .int 0, .ref m11, .ref m12, .ref m13, .long hv])), (m11, .inl (cJ, 80, .inr (.inl ll))), (m12, .inl (cI, 48, .inl fl))]) (wr := []) (xrV (n := 3) (As := [.int (nI a), .int (nI b), .int 1]) (rest := []) (ci := 7) (q0 := 0) hd hK hP hD (c_lightNow_01 l D cI cJ cZ cR _ h0 m1 m2 m3 m4 m5 m6 m7 m8 m9 m10 m11 m12 m13 hv ll fl a b ha hb0) (gV t_846 mV_X7_lightNow) hV_X7_lightNow ⟨(Nat.le_of_ble_eq_true rfl), (Nat.le_of_ble_eq_true rfl)⟩ rfl rfl [0, 1, 2] rfl rfl rfl hl.1 rfl (Nat.le_of_ble_eq_true rfl) dX7_light_36 ⟨(Nat.le_of_ble_eq_true rfl), (Nat.le_of_ble_eq_true rfl)⟩) hP hD hS hA [0, 1, 2] [] rfl rfl rfl (by decide) (fun r_16 u_17 H locs hw_18 hP hD hS => ?_)
  obtain ⟨l2_19, f2_20⟩ := u_17
  obtain ⟨hw_21, hw_22⟩ : (r_16 = (-1)) ∧ (Lm l2_19 f2_20) := hw_18
  subst hw_21
  have hP : va_P D vwCl [(h0, .inr (7, [.int 0, .ref m1, .int 0, .ref m2, .ref m3, .ref m4, .ref m5, .int 0, .int 0, .ref m6, .int 0, .int 0, .int 0, .int 0, .ref m7, .int 0, .int 0, .int 0, .int 0, .ref m8, .ref m9, .ref m10, .int 1, .ref m11, .ref m12, .ref m13, .long hv])), (m11, .inl (cJ, 80, .inr (.inl l2_19))), (m12, .inl (cI, 48, .inl f2_20))] H := hP
  have hD : va_D A [(h0, .inr (7, [.int 0, .ref m1, .int 0, .ref m2, .ref m3, .ref m4, .ref m5, .int 0, .int 0, .ref m6, .int 0, .int 0, .int 0, .int 0, .ref m7, .int 0, .int 0, .int 0, .int 0, .ref m8, .ref m9, .ref m10, .int 1, .ref m11, .ref m12, .ref m13, .long hv])), (m11, .inl (cJ, 80, .inr (.inl l2_19))), (m12, .inl (cI, 48, .inl f2_20))] := hD
  refine lv_goto (tgt := 45) hx hb dX7_light_39 (by decide) ?_
  exact hret _ _ _ _ _ _ (-1) () dX7_light_45 rfl hS (Nat.le_of_ble_eq_true rfl) (Nat.le_of_ble_eq_true rfl) rfl (hP.sub [] rfl) (hD.sub [] rfl rfl)
set_option maxHeartbeats 4000000 in
set_option maxRecDepth 100000 in
theorem c_mlight_bad (sz : Nat) (h0 : Nat) (m1 : Nat) (m2 : Nat) (m3 : Nat) (m4 : Nat) (m5 : Nat) (m6 : Nat) (m7 : Nat) (m8 : Nat) (m9 : Nat) (m10 : Nat) (m11 : Nat) (m12 : Nat) (m13 : Nat) (hv : Int64) (p0 : Int32) (p1 : Int32) (p2 : Int32) (hp : p0 < 0 ∨ 3 ≤ p0) : CTi l D cI cJ cZ cR yX7_light cX7_light 4 (some .int) 1 22 0 0 sz [.ref h0, .int p0, .int p1, .int p2] [(h0, .inr (7, [.int 0, .ref m1, .int 0, .ref m2, .ref m3, .ref m4, .ref m5, .int 0, .int 0, .ref m6, .int 0, .int 0, .int 0, .int 0, .ref m7, .int 0, .int 0, .int 0, .int 0, .ref m8, .ref m9, .ref m10, .int 0, .ref m11, .ref m12, .ref m13, .long hv]))] (fun (r : Int32) (u : Unit) => (r = (-1001))) (fun (u : Unit) => []) := by
  refine CTi.of (ty := .int) (by decide) (Nat.le_of_ble_eq_true rfl) rfl ?_
  intro p e s m below meth c A Q ls hd hin hK hsz hP hD hA hS hl hret
  obtain ⟨hx, hb, hml, hown, hts⟩ := id hd
  have hK1 := hK.1
  have hown : s.vm.findClass RX7 = some m.cls := hown
  have hl : lv_has ls 4 [(0, .ref h0), (1, .int p0), (2, .int p1), (3, .int p2)] := hl
  refine lv_iload_n hx hb dX7_light_0 rfl (lv_at hl 1 rfl) ?_
  refine lv_iconst (v := 0) hx hb dX7_light_1 (by decide) ?_
  refine lv_iconst (v := 2) hx hb dX7_light_2 (by decide) ?_
  refine xc_i (wc := []) (wr := [(h0, .inr (7, [.int 0, .ref m1, .int 0, .ref m2, .ref m3, .ref m4, .ref m5, .int 0, .int 0, .ref m6, .int 0, .int 0, .int 0, .int 0, .ref m7, .int 0, .int 0, .int 0, .int 0, .ref m8, .ref m9, .ref m10, .int 0, .ref m11, .ref m12, .ref m13, .long hv]))]) (xrS (n := 3) (As := [.int p0, .int 0, .int 2]) (rest := []) hd hK hP hD (c_X7_within l D cI cJ cZ cR _ p0 0 2 ) (gS t_637 mS_X7_within) hS_X7_within ⟨(Nat.le_of_ble_eq_true rfl), (Nat.le_of_ble_eq_true rfl)⟩ [] rfl rfl rfl hl.1 rfl (Nat.le_of_ble_eq_true rfl) dX7_light_3 ⟨(Nat.le_of_ble_eq_true rfl), (Nat.le_of_ble_eq_true rfl)⟩) hP hD hS hA [] [0] rfl rfl rfl (by decide) (fun r_1 u_2 H locs hw_3 hP hD hS => ?_)
  have hw_4 : r_1 = (if p0 < 0 then 0 else if 2 < p0 then 0 else 1) := hw_3
  subst hw_4
  have hP : va_P D vwCl [(h0, .inr (7, [.int 0, .ref m1, .int 0, .ref m2, .ref m3, .ref m4, .ref m5, .int 0, .int 0, .ref m6, .int 0, .int 0, .int 0, .int 0, .ref m7, .int 0, .int 0, .int 0, .int 0, .ref m8, .ref m9, .ref m10, .int 0, .ref m11, .ref m12, .ref m13, .long hv]))] H := hP
  have hD : va_D A [(h0, .inr (7, [.int 0, .ref m1, .int 0, .ref m2, .ref m3, .ref m4, .ref m5, .int 0, .int 0, .ref m6, .int 0, .int 0, .int 0, .int 0, .ref m7, .int 0, .int 0, .int 0, .int 0, .ref m8, .ref m9, .ref m10, .int 0, .ref m11, .ref m12, .ref m13, .long hv]))] := hD
  refine lv_nmi (show _ = (0 : Int32) from wi_bad hp) ?_
  refine lv_if_ne (tgt := 13) hx hb dX7_light_6 (by decide) (fun c_5 => ?_) (fun c_5 => ?_)
  · exact absurd c_5 (by decide)
  refine lv_sipush (v := -1001) hx hb dX7_light_9 (by decide) ?_
  exact hret _ _ _ _ _ _ (-1001) () dX7_light_12 rfl hS (Nat.le_of_ble_eq_true rfl) (Nat.le_of_ble_eq_true rfl) rfl (hP.sub [] rfl) (hD.sub [] rfl rfl)
set_option maxHeartbeats 4000000 in
set_option maxRecDepth 100000 in
theorem c_mlight_out (sz : Nat) (h0 : Nat) (m1 : Nat) (m2 : Nat) (m3 : Nat) (m4 : Nat) (m5 : Nat) (m6 : Nat) (m7 : Nat) (m8 : Nat) (m9 : Nat) (m10 : Nat) (m11 : Nat) (m12 : Nat) (m13 : Nat) (hv : Int64) (a : Nat) (p1 : Int32) (p2 : Int32) (ha : a < 3) (hq : (p1 < 0 ∨ 16 ≤ p1) ∨ (p2 < 0 ∨ ¬ p2 ≤ 1)) : CTi l D cI cJ cZ cR yX7_light cX7_light 4 (some .int) 1 22 0 0 sz [.ref h0, .int (nI a), .int p1, .int p2] [(h0, .inr (7, [.int 0, .ref m1, .int 0, .ref m2, .ref m3, .ref m4, .ref m5, .int 0, .int 0, .ref m6, .int 0, .int 0, .int 0, .int 0, .ref m7, .int 0, .int 0, .int 0, .int 0, .ref m8, .ref m9, .ref m10, .int 0, .ref m11, .ref m12, .ref m13, .long hv]))] (fun (r : Int32) (u : Unit) => (r = (-1002))) (fun (u : Unit) => []) := by
  refine CTi.of (ty := .int) (by decide) (Nat.le_of_ble_eq_true rfl) rfl ?_
  intro p e s m below meth c A Q ls hd hin hK hsz hP hD hA hS hl hret
  obtain ⟨hx, hb, hml, hown, hts⟩ := id hd
  have hK1 := hK.1
  have hown : s.vm.findClass RX7 = some m.cls := hown
  have hl : lv_has ls 4 [(0, .ref h0), (1, .int (nI a)), (2, .int p1), (3, .int p2)] := hl
  refine lv_iload_n hx hb dX7_light_0 rfl (lv_at hl 1 rfl) ?_
  refine lv_iconst (v := 0) hx hb dX7_light_1 (by decide) ?_
  refine lv_iconst (v := 2) hx hb dX7_light_2 (by decide) ?_
  refine xc_i (wc := []) (wr := [(h0, .inr (7, [.int 0, .ref m1, .int 0, .ref m2, .ref m3, .ref m4, .ref m5, .int 0, .int 0, .ref m6, .int 0, .int 0, .int 0, .int 0, .ref m7, .int 0, .int 0, .int 0, .int 0, .ref m8, .ref m9, .ref m10, .int 0, .ref m11, .ref m12, .ref m13, .long hv]))]) (xrS (n := 3) (As := [.int (nI a), .int 0, .int 2]) (rest := []) hd hK hP hD (c_X7_within l D cI cJ cZ cR _ (nI a) 0 2 ) (gS t_637 mS_X7_within) hS_X7_within ⟨(Nat.le_of_ble_eq_true rfl), (Nat.le_of_ble_eq_true rfl)⟩ [] rfl rfl rfl hl.1 rfl (Nat.le_of_ble_eq_true rfl) dX7_light_3 ⟨(Nat.le_of_ble_eq_true rfl), (Nat.le_of_ble_eq_true rfl)⟩) hP hD hS hA [] [0] rfl rfl rfl (by decide) (fun r_1 u_2 H locs hw_3 hP hD hS => ?_)
  have hw_4 : r_1 = (if (nI a) < 0 then 0 else if 2 < (nI a) then 0 else 1) := hw_3
  subst hw_4
  have hP : va_P D vwCl [(h0, .inr (7, [.int 0, .ref m1, .int 0, .ref m2, .ref m3, .ref m4, .ref m5, .int 0, .int 0, .ref m6, .int 0, .int 0, .int 0, .int 0, .ref m7, .int 0, .int 0, .int 0, .int 0, .ref m8, .ref m9, .ref m10, .int 0, .ref m11, .ref m12, .ref m13, .long hv]))] H := hP
  have hD : va_D A [(h0, .inr (7, [.int 0, .ref m1, .int 0, .ref m2, .ref m3, .ref m4, .ref m5, .int 0, .int 0, .ref m6, .int 0, .int 0, .int 0, .int 0, .ref m7, .int 0, .int 0, .int 0, .int 0, .ref m8, .ref m9, .ref m10, .int 0, .ref m11, .ref m12, .ref m13, .long hv]))] := hD
  refine lv_nmi (show _ = (1 : Int32) from wi_ok ha) ?_
  refine lv_if_ne (tgt := 13) hx hb dX7_light_6 (by decide) (fun c_5 => ?_) (fun c_5 => ?_)
  rotate_left
  · exact absurd c_5 (by decide)
  refine lv_iload_n hx hb dX7_light_13 rfl (lv_at hl 2 rfl) ?_
  refine lv_iconst (v := 0) hx hb dX7_light_14 (by decide) ?_
  refine lv_bipush (v := 15) hx hb dX7_light_15 (by decide) ?_
  refine xc_i (wc := []) (wr := [(h0, .inr (7, [.int 0, .ref m1, .int 0, .ref m2, .ref m3, .ref m4, .ref m5, .int 0, .int 0, .ref m6, .int 0, .int 0, .int 0, .int 0, .ref m7, .int 0, .int 0, .int 0, .int 0, .ref m8, .ref m9, .ref m10, .int 0, .ref m11, .ref m12, .ref m13, .long hv]))]) (xrS (n := 3) (As := [.int p1, .int 0, .int 15]) (rest := []) hd hK hP hD (c_X7_within l D cI cJ cZ cR _ p1 0 15 ) (gS t_637 mS_X7_within) hS_X7_within ⟨(Nat.le_of_ble_eq_true rfl), (Nat.le_of_ble_eq_true rfl)⟩ [] rfl rfl rfl hl.1 rfl (Nat.le_of_ble_eq_true rfl) dX7_light_17 ⟨(Nat.le_of_ble_eq_true rfl), (Nat.le_of_ble_eq_true rfl)⟩) hP hD hS hA [] [0] rfl rfl rfl (by decide) (fun r_6 u_7 H locs hw_8 hP hD hS => ?_)
  have hw_9 : r_6 = (if p1 < 0 then 0 else if 15 < p1 then 0 else 1) := hw_8
  subst hw_9
  have hP : va_P D vwCl [(h0, .inr (7, [.int 0, .ref m1, .int 0, .ref m2, .ref m3, .ref m4, .ref m5, .int 0, .int 0, .ref m6, .int 0, .int 0, .int 0, .int 0, .ref m7, .int 0, .int 0, .int 0, .int 0, .ref m8, .ref m9, .ref m10, .int 0, .ref m11, .ref m12, .ref m13, .long hv]))] H := hP
  have hD : va_D A [(h0, .inr (7, [.int 0, .ref m1, .int 0, .ref m2, .ref m3, .ref m4, .ref m5, .int 0, .int 0, .ref m6, .int 0, .int 0, .int 0, .int 0, .ref m7, .int 0, .int 0, .int 0, .int 0, .ref m8, .ref m9, .ref m10, .int 0, .ref m11, .ref m12, .ref m13, .long hv]))] := hD
  refine lv_if_eq (tgt := 42) hx hb dX7_light_20 (by decide) (fun c_10 => ?_) (fun c_10 => ?_)
  · skip
    refine lv_sipush (v := -1002) hx hb dX7_light_42 (by decide) ?_
    exact hret _ _ _ _ _ _ (-1002) () dX7_light_45 rfl hS (Nat.le_of_ble_eq_true rfl) (Nat.le_of_ble_eq_true rfl) rfl (hP.sub [] rfl) (hD.sub [] rfl rfl)
  · skip
    refine lv_iload_n hx hb dX7_light_23 rfl (lv_at hl 3 rfl) ?_
    refine lv_iconst (v := 0) hx hb dX7_light_24 (by decide) ?_
    refine lv_iconst (v := 1) hx hb dX7_light_25 (by decide) ?_
    refine xc_i (wc := []) (wr := [(h0, .inr (7, [.int 0, .ref m1, .int 0, .ref m2, .ref m3, .ref m4, .ref m5, .int 0, .int 0, .ref m6, .int 0, .int 0, .int 0, .int 0, .ref m7, .int 0, .int 0, .int 0, .int 0, .ref m8, .ref m9, .ref m10, .int 0, .ref m11, .ref m12, .ref m13, .long hv]))]) (xrS (n := 3) (As := [.int p2, .int 0, .int 1]) (rest := []) hd hK hP hD (c_X7_within l D cI cJ cZ cR _ p2 0 1 ) (gS t_637 mS_X7_within) hS_X7_within ⟨(Nat.le_of_ble_eq_true rfl), (Nat.le_of_ble_eq_true rfl)⟩ [] rfl rfl rfl hl.1 rfl (Nat.le_of_ble_eq_true rfl) dX7_light_26 ⟨(Nat.le_of_ble_eq_true rfl), (Nat.le_of_ble_eq_true rfl)⟩) hP hD hS hA [] [0] rfl rfl rfl (by decide) (fun r_11 u_12 H locs hw_13 hP hD hS => ?_)
    have hw_14 : r_11 = (if p2 < 0 then 0 else if 1 < p2 then 0 else 1) := hw_13
    subst hw_14
    have hP : va_P D vwCl [(h0, .inr (7, [.int 0, .ref m1, .int 0, .ref m2, .ref m3, .ref m4, .ref m5, .int 0, .int 0, .ref m6, .int 0, .int 0, .int 0, .int 0, .ref m7, .int 0, .int 0, .int 0, .int 0, .ref m8, .ref m9, .ref m10, .int 0, .ref m11, .ref m12, .ref m13, .long hv]))] H := hP
    have hD : va_D A [(h0, .inr (7, [.int 0, .ref m1, .int 0, .ref m2, .ref m3, .ref m4, .ref m5, .int 0, .int 0, .ref m6, .int 0, .int 0, .int 0, .int 0, .ref m7, .int 0, .int 0, .int 0, .int 0, .ref m8, .ref m9, .ref m10, .int 0, .ref m11, .ref m12, .ref m13, .long hv]))] := hD
    refine lv_if_eq (tgt := 42) hx hb dX7_light_29 (by decide) (fun c_15 => ?_) (fun c_15 => ?_)
    rotate_left
    · exact absurd hq (out_abs (by assumption) c_15)
    refine lv_sipush (v := -1002) hx hb dX7_light_42 (by decide) ?_
    exact hret _ _ _ _ _ _ (-1002) () dX7_light_45 rfl hS (Nat.le_of_ble_eq_true rfl) (Nat.le_of_ble_eq_true rfl) rfl (hP.sub [] rfl) (hD.sub [] rfl rfl)
set_option maxHeartbeats 4000000 in
set_option maxRecDepth 100000 in
theorem c_X7_howMany (sz : Nat) (h0 : Nat) (m1 : Nat) (m2 : Nat) (m3 : Nat) (m4 : Nat) (m5 : Nat) (m6 : Nat) (m7 : Nat) (m8 : Nat) (m9 : Nat) (m10 : Nat) (m11 : Nat) (m12 : Nat) (m13 : Nat) (hv : Int64) (lsv : Int32) (p0 : Int32)  : CTi l D cI cJ cZ cR yX7_howMany cX7_howMany 2 (some .int) 1 22 0 0 sz [.ref h0, .int p0] [(h0, .inr (7, [.int 0, .ref m1, .int 0, .ref m2, .ref m3, .ref m4, .ref m5, .int 0, .int 0, .ref m6, .int 0, .int 0, .int 0, .int 0, .ref m7, .int 0, .int 0, .int 0, .int 0, .ref m8, .ref m9, .ref m10, .int lsv, .ref m11, .ref m12, .ref m13, .long hv]))] (fun (r : Int32) (u : Unit) => (r = (cnt0 p0))) (fun (u : Unit) => [(h0, .inr (7, [.int 0, .ref m1, .int 0, .ref m2, .ref m3, .ref m4, .ref m5, .int 0, .int 0, .ref m6, .int 0, .int 0, .int 0, .int 0, .ref m7, .int 0, .int 0, .int 0, .int 0, .ref m8, .ref m9, .ref m10, .int lsv, .ref m11, .ref m12, .ref m13, .long hv]))]) := by
  refine CTi.of (ty := .int) (by decide) (Nat.le_of_ble_eq_true rfl) rfl ?_
  intro p e s m below meth c A Q ls hd hin hK hsz hP hD hA hS hl hret
  obtain ⟨hx, hb, hml, hown, hts⟩ := id hd
  have hK1 := hK.1
  have hown : s.vm.findClass RX7 = some m.cls := hown
  have hl : lv_has ls 2 [(0, .ref h0), (1, .int p0)] := hl
  refine lv_iload_n hx hb dX7_howMany_0 rfl (lv_at hl 1 rfl) ?_
  rcases sw_7 p0 with c_1 | c_1 | c_1 | c_1 | c_1 | c_1 | c_1 | c_1 | c_1
  · refine lv_nmi c_1 ?_
    refine lv_tableIn (off := 47) (tgt := 48) hx hb dX7_howMany_1 (by decide) (by decide) (by decide) (by decide) ?_
    refine lv_aload_n hx hb dX7_howMany_48 rfl (lv_at hl 0 rfl) ?_
    refine va_get (D := D) (ci := 7) (v := .int 0) (C := RX7) (T := TX7) (N := 27) hx hb hts iT_X7 hown hK1 hP 0 rfl rfl 0 (by decide) (hts _ t_551) (fun _ h9 => h9) rfl dX7_howMany_49 ?_
    exact hret _ _ _ _ _ _ 0 () dX7_howMany_52 rfl hS (Nat.le_of_ble_eq_true rfl) (Nat.le_of_ble_eq_true rfl) (cnt0_in c_1 (by decide)) (hP.sub [0] rfl) (hD.sub [0] rfl rfl)
  · refine lv_nmi c_1 ?_
    refine lv_tableIn (off := 52) (tgt := 53) hx hb dX7_howMany_1 (by decide) (by decide) (by decide) (by decide) ?_
    refine lv_aload_n hx hb dX7_howMany_53 rfl (lv_at hl 0 rfl) ?_
    refine va_get (D := D) (ci := 7) (v := .int 0) (C := RX7) (T := TX7) (N := 27) hx hb hts iT_X7 hown hK1 hP 0 rfl rfl 2 (by decide) (hts _ t_553) (fun _ h9 => h9) rfl dX7_howMany_54 ?_
    exact hret _ _ _ _ _ _ 0 () dX7_howMany_57 rfl hS (Nat.le_of_ble_eq_true rfl) (Nat.le_of_ble_eq_true rfl) (cnt0_in c_1 (by decide)) (hP.sub [0] rfl) (hD.sub [0] rfl rfl)
  · refine lv_nmi c_1 ?_
    refine lv_tableIn (off := 57) (tgt := 58) hx hb dX7_howMany_1 (by decide) (by decide) (by decide) (by decide) ?_
    refine lv_aload_n hx hb dX7_howMany_58 rfl (lv_at hl 0 rfl) ?_
    refine va_get (D := D) (ci := 7) (v := .int 0) (C := RX7) (T := TX7) (N := 27) hx hb hts iT_X7 hown hK1 hP 0 rfl rfl 7 (by decide) (hts _ t_558) (fun _ h9 => h9) rfl dX7_howMany_59 ?_
    exact hret _ _ _ _ _ _ 0 () dX7_howMany_62 rfl hS (Nat.le_of_ble_eq_true rfl) (Nat.le_of_ble_eq_true rfl) (cnt0_in c_1 (by decide)) (hP.sub [0] rfl) (hD.sub [0] rfl rfl)
  · refine lv_nmi c_1 ?_
    refine lv_tableIn (off := 62) (tgt := 63) hx hb dX7_howMany_1 (by decide) (by decide) (by decide) (by decide) ?_
    refine lv_aload_n hx hb dX7_howMany_63 rfl (lv_at hl 0 rfl) ?_
    refine va_get (D := D) (ci := 7) (v := .int 0) (C := RX7) (T := TX7) (N := 27) hx hb hts iT_X7 hown hK1 hP 0 rfl rfl 8 (by decide) (hts _ t_559) (fun _ h9 => h9) rfl dX7_howMany_64 ?_
    exact hret _ _ _ _ _ _ 0 () dX7_howMany_67 rfl hS (Nat.le_of_ble_eq_true rfl) (Nat.le_of_ble_eq_true rfl) (cnt0_in c_1 (by decide)) (hP.sub [0] rfl) (hD.sub [0] rfl rfl)
  · refine lv_nmi c_1 ?_
    refine lv_tableIn (off := 67) (tgt := 68) hx hb dX7_howMany_1 (by decide) (by decide) (by decide) (by decide) ?_
    refine lv_aload_n hx hb dX7_howMany_68 rfl (lv_at hl 0 rfl) ?_
    refine xc_i (wc := [(h0, .inr (7, [.int 0, .ref m1, .int 0, .ref m2, .ref m3, .ref m4, .ref m5, .int 0, .int 0, .ref m6, .int 0, .int 0, .int 0, .int 0, .ref m7, .int 0, .int 0, .int 0, .int 0, .ref m8, .ref m9, .ref m10, .int lsv, .ref m11, .ref m12, .ref m13, .long hv]))]) (wr := []) (xrV (n := 0) (As := []) (rest := []) (ci := 7) (q0 := 0) hd hK hP hD (c_X7_opens l D cI cJ cZ cR _ h0 m1 m2 m3 m4 m5 m6 m7 m8 m9 m10 m11 m12 m13 hv lsv ) (gV t_738 mV_X7_opens) hV_X7_opens ⟨(Nat.le_of_ble_eq_true rfl), (Nat.le_of_ble_eq_true rfl)⟩ rfl rfl [0] rfl rfl rfl hl.1 rfl (Nat.le_of_ble_eq_true rfl) dX7_howMany_69 ⟨(Nat.le_of_ble_eq_true rfl), (Nat.le_of_ble_eq_true rfl)⟩) hP hD hS hA [0] [] rfl rfl rfl (by decide) (fun r_2 u_3 H locs hw_4 hP hD hS => ?_)
    have hw_5 : r_2 = 0 := hw_4
    subst hw_5
    have hP : va_P D vwCl [(h0, .inr (7, [.int 0, .ref m1, .int 0, .ref m2, .ref m3, .ref m4, .ref m5, .int 0, .int 0, .ref m6, .int 0, .int 0, .int 0, .int 0, .ref m7, .int 0, .int 0, .int 0, .int 0, .ref m8, .ref m9, .ref m10, .int lsv, .ref m11, .ref m12, .ref m13, .long hv]))] H := hP
    have hD : va_D A [(h0, .inr (7, [.int 0, .ref m1, .int 0, .ref m2, .ref m3, .ref m4, .ref m5, .int 0, .int 0, .ref m6, .int 0, .int 0, .int 0, .int 0, .ref m7, .int 0, .int 0, .int 0, .int 0, .ref m8, .ref m9, .ref m10, .int lsv, .ref m11, .ref m12, .ref m13, .long hv]))] := hD
    exact hret _ _ _ _ _ _ 0 () dX7_howMany_72 rfl hS (Nat.le_of_ble_eq_true rfl) (Nat.le_of_ble_eq_true rfl) (cnt0_in c_1 (by decide)) (hP.sub [0] rfl) (hD.sub [0] rfl rfl)
  · refine lv_nmi c_1 ?_
    refine lv_tableIn (off := 72) (tgt := 73) hx hb dX7_howMany_1 (by decide) (by decide) (by decide) (by decide) ?_
    refine lv_aload_n hx hb dX7_howMany_73 rfl (lv_at hl 0 rfl) ?_
    refine va_get (D := D) (ci := 7) (v := .int 0) (C := RX7) (T := TX7) (N := 27) hx hb hts iT_X7 hown hK1 hP 0 rfl rfl 10 (by decide) (hts _ t_561) (fun _ h9 => h9) rfl dX7_howMany_74 ?_
    exact hret _ _ _ _ _ _ 0 () dX7_howMany_77 rfl hS (Nat.le_of_ble_eq_true rfl) (Nat.le_of_ble_eq_true rfl) (cnt0_in c_1 (by decide)) (hP.sub [0] rfl) (hD.sub [0] rfl rfl)
  · refine lv_nmi c_1 ?_
    refine lv_tableIn (off := 77) (tgt := 78) hx hb dX7_howMany_1 (by decide) (by decide) (by decide) (by decide) ?_
    refine lv_aload_n hx hb dX7_howMany_78 rfl (lv_at hl 0 rfl) ?_
    refine va_get (D := D) (ci := 7) (v := .int 0) (C := RX7) (T := TX7) (N := 27) hx hb hts iT_X7 hown hK1 hP 0 rfl rfl 11 (by decide) (hts _ t_562) (fun _ h9 => h9) rfl dX7_howMany_79 ?_
    exact hret _ _ _ _ _ _ 0 () dX7_howMany_82 rfl hS (Nat.le_of_ble_eq_true rfl) (Nat.le_of_ble_eq_true rfl) (cnt0_in c_1 (by decide)) (hP.sub [0] rfl) (hD.sub [0] rfl rfl)
  · refine lv_nmi c_1 ?_
    refine lv_tableIn (off := 82) (tgt := 83) hx hb dX7_howMany_1 (by decide) (by decide) (by decide) (by decide) ?_
    refine lv_aload_n hx hb dX7_howMany_83 rfl (lv_at hl 0 rfl) ?_
    refine va_get (D := D) (ci := 7) (v := .int 0) (C := RX7) (T := TX7) (N := 27) hx hb hts iT_X7 hown hK1 hP 0 rfl rfl 12 (by decide) (hts _ t_563) (fun _ h9 => h9) rfl dX7_howMany_84 ?_
    exact hret _ _ _ _ _ _ 0 () dX7_howMany_87 rfl hS (Nat.le_of_ble_eq_true rfl) (Nat.le_of_ble_eq_true rfl) (cnt0_in c_1 (by decide)) (hP.sub [0] rfl) (hD.sub [0] rfl rfl)
  · refine lv_tableOut (tgt := 88) hx hb dX7_howMany_1 c_1 (by decide) ?_
    refine lv_sipush (v := -1002) hx hb dX7_howMany_88 (by decide) ?_
    exact hret _ _ _ _ _ _ (-1002) () dX7_howMany_91 rfl hS (Nat.le_of_ble_eq_true rfl) (Nat.le_of_ble_eq_true rfl) (cnt0_out c_1) (hP.sub [0] rfl) (hD.sub [0] rfl rfl)
set_option maxHeartbeats 4000000 in
set_option maxRecDepth 100000 in
theorem c_X7_count (sz : Nat) (h0 : Nat) (m1 : Nat) (m2 : Nat) (m3 : Nat) (m4 : Nat) (m5 : Nat) (m6 : Nat) (m7 : Nat) (m8 : Nat) (m9 : Nat) (m10 : Nat) (m11 : Nat) (m12 : Nat) (m13 : Nat) (hv : Int64) (lsv : Int32) (p0 : Int32)  : CTi l D cI cJ cZ cR yX7_count cX7_count 2 (some .int) 2 43 0 0 sz [.ref h0, .int p0] [(h0, .inr (7, [.int 0, .ref m1, .int 0, .ref m2, .ref m3, .ref m4, .ref m5, .int 0, .int 0, .ref m6, .int 0, .int 0, .int 0, .int 0, .ref m7, .int 0, .int 0, .int 0, .int 0, .ref m8, .ref m9, .ref m10, .int lsv, .ref m11, .ref m12, .ref m13, .long hv]))] (fun (r : Int32) (u : Unit) => (r = (cnt0 p0))) (fun (u : Unit) => [(h0, .inr (7, [.int 0, .ref m1, .int 0, .ref m2, .ref m3, .ref m4, .ref m5, .int 0, .int 0, .ref m6, .int 0, .int 0, .int 0, .int 0, .ref m7, .int 0, .int 0, .int 0, .int 0, .ref m8, .ref m9, .ref m10, .int lsv, .ref m11, .ref m12, .ref m13, .long hv]))]) := by
  refine CTi.of (ty := .int) (by decide) (Nat.le_of_ble_eq_true rfl) rfl ?_
  intro p e s m below meth c A Q ls hd hin hK hsz hP hD hA hS hl hret
  obtain ⟨hx, hb, hml, hown, hts⟩ := id hd
  have hK1 := hK.1
  have hown : s.vm.findClass RX7 = some m.cls := hown
  have hl : lv_has ls 2 [(0, .ref h0), (1, .int p0)] := hl
  refine lv_aload_n hx hb dX7_count_0 rfl (lv_at hl 0 rfl) ?_
  refine lv_iload_n hx hb dX7_count_1 rfl (lv_at hl 1 rfl) ?_
  refine xc_i (wc := [(h0, .inr (7, [.int 0, .ref m1, .int 0, .ref m2, .ref m3, .ref m4, .ref m5, .int 0, .int 0, .ref m6, .int 0, .int 0, .int 0, .int 0, .ref m7, .int 0, .int 0, .int 0, .int 0, .ref m8, .ref m9, .ref m10, .int lsv, .ref m11, .ref m12, .ref m13, .long hv]))]) (wr := []) (xrV (n := 1) (As := [.int p0]) (rest := []) (ci := 7) (q0 := 0) hd hK hP hD (c_X7_howMany l D cI cJ cZ cR _ h0 m1 m2 m3 m4 m5 m6 m7 m8 m9 m10 m11 m12 m13 hv lsv p0 ) (gV t_854 mV_X7_howMany) hV_X7_howMany ⟨(Nat.le_of_ble_eq_true rfl), (Nat.le_of_ble_eq_true rfl)⟩ rfl rfl [0] rfl rfl rfl hl.1 rfl (Nat.le_of_ble_eq_true rfl) dX7_count_2 ⟨(Nat.le_of_ble_eq_true rfl), (Nat.le_of_ble_eq_true rfl)⟩) hP hD hS hA [0] [] rfl rfl rfl (by decide) (fun r_1 u_2 H locs hw_3 hP hD hS => ?_)
  have hw_4 : r_1 = (cnt0 p0) := hw_3
  subst hw_4
  have hP : va_P D vwCl [(h0, .inr (7, [.int 0, .ref m1, .int 0, .ref m2, .ref m3, .ref m4, .ref m5, .int 0, .int 0, .ref m6, .int 0, .int 0, .int 0, .int 0, .ref m7, .int 0, .int 0, .int 0, .int 0, .ref m8, .ref m9, .ref m10, .int lsv, .ref m11, .ref m12, .ref m13, .long hv]))] H := hP
  have hD : va_D A [(h0, .inr (7, [.int 0, .ref m1, .int 0, .ref m2, .ref m3, .ref m4, .ref m5, .int 0, .int 0, .ref m6, .int 0, .int 0, .int 0, .int 0, .ref m7, .int 0, .int 0, .int 0, .int 0, .ref m8, .ref m9, .ref m10, .int lsv, .ref m11, .ref m12, .ref m13, .long hv]))] := hD
  exact hret _ _ _ _ _ _ (cnt0 p0) () dX7_count_5 rfl hS (Nat.le_of_ble_eq_true rfl) (Nat.le_of_ble_eq_true rfl) rfl (hP.sub [0] rfl) (hD.sub [0] rfl rfl)
set_option maxHeartbeats 4000000 in
set_option maxRecDepth 100000 in
theorem c_X7_mix (sz : Nat) (h0 : Nat) (m1 : Nat) (m2 : Nat) (m3 : Nat) (m4 : Nat) (m5 : Nat) (m6 : Nat) (m7 : Nat) (m8 : Nat) (m9 : Nat) (m10 : Nat) (m11 : Nat) (m12 : Nat) (m13 : Nat) (hv : Int64) (lsv : Int32) (p0 : Int64)  : CTv l D cI cJ cZ cR yX7_mix cX7_mix 3 none 0 0 0 0 sz [.ref h0, .long p0] [(h0, .inr (7, [.int 0, .ref m1, .int 0, .ref m2, .ref m3, .ref m4, .ref m5, .int 0, .int 0, .ref m6, .int 0, .int 0, .int 0, .int 0, .ref m7, .int 0, .int 0, .int 0, .int 0, .ref m8, .ref m9, .ref m10, .int lsv, .ref m11, .ref m12, .ref m13, .long hv]))] (fun (u : Unit) => True) (fun (u : Unit) => [(h0, .inr (7, [.int 0, .ref m1, .int 0, .ref m2, .ref m3, .ref m4, .ref m5, .int 0, .int 0, .ref m6, .int 0, .int 0, .int 0, .int 0, .ref m7, .int 0, .int 0, .int 0, .int 0, .ref m8, .ref m9, .ref m10, .int lsv, .ref m11, .ref m12, .ref m13, .long ((31 * hv) + p0)]))]) := by
  refine CTv.of (by decide) (Nat.le_of_ble_eq_true rfl) rfl ?_
  intro p e s m below meth c A Q ls hd hin hK hsz hP hD hA hS hl hret
  obtain ⟨hx, hb, hml, hown, hts⟩ := id hd
  have hK1 := hK.1
  have hown : s.vm.findClass RX7 = some m.cls := hown
  have hl : lv_has ls 3 [(0, .ref h0), (1, .long p0)] := hl
  refine lv_aload_n hx hb dX7_mix_0 rfl (lv_at hl 0 rfl) ?_
  refine lv_ldc2 hx hb hown (hts _ t_867) dX7_mix_1 ?_
  refine lv_aload_n hx hb dX7_mix_4 rfl (lv_at hl 0 rfl) ?_
  refine va_get (D := D) (ci := 7) (v := .long hv) (C := RX7) (T := TX7) (N := 27) hx hb hts iT_X7 hown hK1 hP 0 rfl rfl 26 (by decide) (hts _ t_577) (fun _ h9 => h9) rfl dX7_mix_5 ?_
  refine lv_lmul hx hb dX7_mix_8 ?_
  refine lv_lload_n hx hb dX7_mix_9 rfl (lv_at hl 1 rfl) ?_
  refine lv_ladd hx hb dX7_mix_10 ?_
  refine va_put (D := D) (ci := 7) (v := .long ((31 * hv) + p0)) (ty := .long) (C := RX7) (T := TX7) (N := 27) hx hb hts iT_X7 tyX7 tyX7_ok nmX7 hown hK1 hP hD hS 0 rfl rfl 26 (by decide) (hts _ t_577) (fun _ h9 => h9) rfl (by decide +kernel) rfl rfl (Nat.le_of_ble_eq_true rfl) dX7_mix_11 (fun H locs hP hD hS => ?_)
  have hP : va_P D vwCl [(h0, .inr (7, [.int 0, .ref m1, .int 0, .ref m2, .ref m3, .ref m4, .ref m5, .int 0, .int 0, .ref m6, .int 0, .int 0, .int 0, .int 0, .ref m7, .int 0, .int 0, .int 0, .int 0, .ref m8, .ref m9, .ref m10, .int lsv, .ref m11, .ref m12, .ref m13, .long ((31 * hv) + p0)]))] H := hP
  have hD : va_D A [(h0, .inr (7, [.int 0, .ref m1, .int 0, .ref m2, .ref m3, .ref m4, .ref m5, .int 0, .int 0, .ref m6, .int 0, .int 0, .int 0, .int 0, .ref m7, .int 0, .int 0, .int 0, .int 0, .ref m8, .ref m9, .ref m10, .int lsv, .ref m11, .ref m12, .ref m13, .long ((31 * hv) + p0)]))] := hD
  exact hret _ _ _ _ _ _ () dX7_mix_14 hS (Nat.le_of_ble_eq_true rfl) (Nat.le_of_ble_eq_true rfl) trivial (hP.sub [0] rfl) (hD.sub [0] rfl rfl)
set_option maxHeartbeats 4000000 in
set_option maxRecDepth 100000 in
theorem c_mixOpen_0 (sz : Nat) (h0 : Nat) (m1 : Nat) (m2 : Nat) (m3 : Nat) (m4 : Nat) (m5 : Nat) (m6 : Nat) (m7 : Nat) (m8 : Nat) (m9 : Nat) (m10 : Nat) (m11 : Nat) (m12 : Nat) (m13 : Nat) (hv : Int64) (ll : Nat → Int64) (fl : Nat → Int32) (a : Nat) (ha : a < 3) : CTv l D cI cJ cZ cR yX7_mixOpen cX7_mixOpen 3 none 3 66 0 0 sz [.ref h0, .int (nI a)] [(h0, .inr (7, [.int 0, .ref m1, .int 0, .ref m2, .ref m3, .ref m4, .ref m5, .int 0, .int 0, .ref m6, .int 0, .int 0, .int 0, .int 0, .ref m7, .int 0, .int 0, .int 0, .int 0, .ref m8, .ref m9, .ref m10, .int 0, .ref m11, .ref m12, .ref m13, .long hv])), (m11, .inl (cJ, 80, .inr (.inl ll))), (m12, .inl (cI, 48, .inl fl))] (fun (u : (Nat → Int64) × (Nat → Int32)) => (Lm u.1 u.2)) (fun (u : (Nat → Int64) × (Nat → Int32)) => [(h0, .inr (7, [.int 0, .ref m1, .int 0, .ref m2, .ref m3, .ref m4, .ref m5, .int 0, .int 0, .ref m6, .int 0, .int 0, .int 0, .int 0, .ref m7, .int 0, .int 0, .int 0, .int 0, .ref m8, .ref m9, .ref m10, .int 1, .ref m11, .ref m12, .ref m13, .long (dk ((31 * ((31 * hv) + (-1003))) + 0) 16)])), (m11, .inl (cJ, 80, .inr (.inl u.1))), (m12, .inl (cI, 48, .inl u.2))]) := by
  refine CTv.of (by decide) (Nat.le_of_ble_eq_true rfl) rfl ?_
  intro p e s m below meth c A Q ls hd hin hK hsz hP hD hA hS hl hret
  obtain ⟨hx, hb, hml, hown, hts⟩ := id hd
  have hK1 := hK.1
  have hown : s.vm.findClass RX7 = some m.cls := hown
  have hl : lv_has ls 3 [(0, .ref h0), (1, .int (nI a))] := hl
  refine lv_aload_n hx hb dX7_mixOpen_0 rfl (lv_at hl 0 rfl) ?_
  refine lv_aload_n hx hb dX7_mixOpen_1 rfl (lv_at hl 0 rfl) ?_
  refine lv_iload_n hx hb dX7_mixOpen_2 rfl (lv_at hl 1 rfl) ?_
  refine xc_i (wc := [(h0, .inr (7, [.int 0, .ref m1, .int 0, .ref m2, .ref m3, .ref m4, .ref m5, .int 0, .int 0, .ref m6, .int 0, .int 0, .int 0, .int 0, .ref m7, .int 0, .int 0, .int 0, .int 0, .ref m8, .ref m9, .ref m10, .int 0, .ref m11, .ref m12, .ref m13, .long hv]))]) (wr := [(m11, .inl (cJ, 80, .inr (.inl ll))), (m12, .inl (cI, 48, .inl fl))]) (xrV (n := 1) (As := [.int (nI a)]) (rest := [.ref h0]) (ci := 7) (q0 := 0) hd hK hP hD (c_X7_fewestNow l D cI cJ cZ cR _ h0 m1 m2 m3 m4 m5 m6 m7 m8 m9 m10 m11 m12 m13 hv 0 (nI a) ) (gV t_758 mV_X7_fewestNow) hV_X7_fewestNow ⟨(Nat.le_of_ble_eq_true rfl), (Nat.le_of_ble_eq_true rfl)⟩ rfl rfl [0] rfl rfl rfl hl.1 rfl (Nat.le_of_ble_eq_true rfl) dX7_mixOpen_3 ⟨(Nat.le_of_ble_eq_true rfl), (Nat.le_of_ble_eq_true rfl)⟩) hP hD hS hA [0] [1, 2] rfl rfl rfl (by decide) (fun r_1 u_2 H locs hw_3 hP hD hS => ?_)
  have hw_4 : r_1 = (-1003) := hw_3
  subst hw_4
  have hP : va_P D vwCl [(m11, .inl (cJ, 80, .inr (.inl ll))), (m12, .inl (cI, 48, .inl fl)), (h0, .inr (7, [.int 0, .ref m1, .int 0, .ref m2, .ref m3, .ref m4, .ref m5, .int 0, .int 0, .ref m6, .int 0, .int 0, .int 0, .int 0, .ref m7, .int 0, .int 0, .int 0, .int 0, .ref m8, .ref m9, .ref m10, .int 0, .ref m11, .ref m12, .ref m13, .long hv]))] H := hP
  have hD : va_D A [(m11, .inl (cJ, 80, .inr (.inl ll))), (m12, .inl (cI, 48, .inl fl)), (h0, .inr (7, [.int 0, .ref m1, .int 0, .ref m2, .ref m3, .ref m4, .ref m5, .int 0, .int 0, .ref m6, .int 0, .int 0, .int 0, .int 0, .ref m7, .int 0, .int 0, .int 0, .int 0, .ref m8, .ref m9, .ref m10, .int 0, .ref m11, .ref m12, .ref m13, .long hv]))] := hD
  refine lv_i2l (v := -1003) hx hb dX7_mixOpen_6 (by decide) ?_
  refine xc_v (wc := [(h0, .inr (7, [.int 0, .ref m1, .int 0, .ref m2, .ref m3, .ref m4, .ref m5, .int 0, .int 0, .ref m6, .int 0, .int 0, .int 0, .int 0, .ref m7, .int 0, .int 0, .int 0, .int 0, .ref m8, .ref m9, .ref m10, .int 0, .ref m11, .ref m12, .ref m13, .long hv]))]) (wr := [(m11, .inl (cJ, 80, .inr (.inl ll))), (m12, .inl (cI, 48, .inl fl))]) (xrV (n := 1) (As := [.long (-1003)]) (rest := []) (ci := 7) (q0 := 2) hd hK hP hD (c_X7_mix l D cI cJ cZ cR _ h0 m1 m2 m3 m4 m5 m6 m7 m8 m9 m10 m11 m12 m13 hv 0 (-1003) ) (gV t_863 mV_X7_mix) hV_X7_mix ⟨(Nat.le_of_ble_eq_true rfl), (Nat.le_of_ble_eq_true rfl)⟩ rfl rfl [2] rfl rfl rfl hl.1 rfl (Nat.le_of_ble_eq_true rfl) dX7_mixOpen_7 ⟨(Nat.le_of_ble_eq_true rfl), (Nat.le_of_ble_eq_true rfl)⟩) hP hD hS hA [2] [0, 1] rfl rfl rfl (by decide) (fun u_6 H locs hw_7 hP hD hS => ?_)
  have hP : va_P D vwCl [(m11, .inl (cJ, 80, .inr (.inl ll))), (m12, .inl (cI, 48, .inl fl)), (h0, .inr (7, [.int 0, .ref m1, .int 0, .ref m2, .ref m3, .ref m4, .ref m5, .int 0, .int 0, .ref m6, .int 0, .int 0, .int 0, .int 0, .ref m7, .int 0, .int 0, .int 0, .int 0, .ref m8, .ref m9, .ref m10, .int 0, .ref m11, .ref m12, .ref m13, .long ((31 * hv) + (-1003))]))] H := hP
  have hD : va_D A [(m11, .inl (cJ, 80, .inr (.inl ll))), (m12, .inl (cI, 48, .inl fl)), (h0, .inr (7, [.int 0, .ref m1, .int 0, .ref m2, .ref m3, .ref m4, .ref m5, .int 0, .int 0, .ref m6, .int 0, .int 0, .int 0, .int 0, .ref m7, .int 0, .int 0, .int 0, .int 0, .ref m8, .ref m9, .ref m10, .int 0, .ref m11, .ref m12, .ref m13, .long ((31 * hv) + (-1003))]))] := hD
  refine lv_aload_n hx hb dX7_mixOpen_10 rfl (lv_at hl 0 rfl) ?_
  refine lv_aload_n hx hb dX7_mixOpen_11 rfl (lv_at hl 0 rfl) ?_
  refine lv_iload_n hx hb dX7_mixOpen_12 rfl (lv_at hl 1 rfl) ?_
  refine xc_i (wc := [(h0, .inr (7, [.int 0, .ref m1, .int 0, .ref m2, .ref m3, .ref m4, .ref m5, .int 0, .int 0, .ref m6, .int 0, .int 0, .int 0, .int 0, .ref m7, .int 0, .int 0, .int 0, .int 0, .ref m8, .ref m9, .ref m10, .int 0, .ref m11, .ref m12, .ref m13, .long ((31 * hv) + (-1003))])), (m11, .inl (cJ, 80, .inr (.inl ll))), (m12, .inl (cI, 48, .inl fl))]) (wr := []) (xrV (n := 1) (As := [.int (nI a)]) (rest := [.ref h0]) (ci := 7) (q0 := 2) hd hK hP hD (c_kindsNow_0 l D cI cJ cZ cR _ h0 m1 m2 m3 m4 m5 m6 m7 m8 m9 m10 m11 m12 m13 ((31 * hv) + (-1003)) ll fl a ha) (gV t_814 mV_X7_kindsNow) hV_X7_kindsNow ⟨(Nat.le_of_ble_eq_true rfl), (Nat.le_of_ble_eq_true rfl)⟩ rfl rfl [2, 0, 1] rfl rfl rfl hl.1 rfl (Nat.le_of_ble_eq_true rfl) dX7_mixOpen_13 ⟨(Nat.le_of_ble_eq_true rfl), (Nat.le_of_ble_eq_true rfl)⟩) hP hD hS hA [2, 0, 1] [] rfl rfl rfl (by decide) (fun r_8 u_9 H locs hw_10 hP hD hS => ?_)
  obtain ⟨l2_11, f2_12⟩ := u_9
  obtain ⟨hw_13, hw_14⟩ : (r_8 = 0) ∧ (Lm l2_11 f2_12) := hw_10
  subst hw_13
  have hLm := hw_14
  have hP : va_P D vwCl [(h0, .inr (7, [.int 0, .ref m1, .int 0, .ref m2, .ref m3, .ref m4, .ref m5, .int 0, .int 0, .ref m6, .int 0, .int 0, .int 0, .int 0, .ref m7, .int 0, .int 0, .int 0, .int 0, .ref m8, .ref m9, .ref m10, .int 1, .ref m11, .ref m12, .ref m13, .long ((31 * hv) + (-1003))])), (m11, .inl (cJ, 80, .inr (.inl l2_11))), (m12, .inl (cI, 48, .inl f2_12))] H := hP
  have hD : va_D A [(h0, .inr (7, [.int 0, .ref m1, .int 0, .ref m2, .ref m3, .ref m4, .ref m5, .int 0, .int 0, .ref m6, .int 0, .int 0, .int 0, .int 0, .ref m7, .int 0, .int 0, .int 0, .int 0, .ref m8, .ref m9, .ref m10, .int 1, .ref m11, .ref m12, .ref m13, .long ((31 * hv) + (-1003))])), (m11, .inl (cJ, 80, .inr (.inl l2_11))), (m12, .inl (cI, 48, .inl f2_12))] := hD
  refine lv_i2l (v := 0) hx hb dX7_mixOpen_16 (by decide) ?_
  refine xc_v (wc := [(h0, .inr (7, [.int 0, .ref m1, .int 0, .ref m2, .ref m3, .ref m4, .ref m5, .int 0, .int 0, .ref m6, .int 0, .int 0, .int 0, .int 0, .ref m7, .int 0, .int 0, .int 0, .int 0, .ref m8, .ref m9, .ref m10, .int 1, .ref m11, .ref m12, .ref m13, .long ((31 * hv) + (-1003))]))]) (wr := [(m11, .inl (cJ, 80, .inr (.inl l2_11))), (m12, .inl (cI, 48, .inl f2_12))]) (xrV (n := 1) (As := [.long 0]) (rest := []) (ci := 7) (q0 := 0) hd hK hP hD (c_X7_mix l D cI cJ cZ cR _ h0 m1 m2 m3 m4 m5 m6 m7 m8 m9 m10 m11 m12 m13 ((31 * hv) + (-1003)) 1 0 ) (gV t_863 mV_X7_mix) hV_X7_mix ⟨(Nat.le_of_ble_eq_true rfl), (Nat.le_of_ble_eq_true rfl)⟩ rfl rfl [0] rfl rfl rfl hl.1 rfl (Nat.le_of_ble_eq_true rfl) dX7_mixOpen_17 ⟨(Nat.le_of_ble_eq_true rfl), (Nat.le_of_ble_eq_true rfl)⟩) hP hD hS hA [0] [1, 2] rfl rfl rfl (by decide) (fun u_16 H locs hw_17 hP hD hS => ?_)
  have hP : va_P D vwCl [(m11, .inl (cJ, 80, .inr (.inl l2_11))), (m12, .inl (cI, 48, .inl f2_12)), (h0, .inr (7, [.int 0, .ref m1, .int 0, .ref m2, .ref m3, .ref m4, .ref m5, .int 0, .int 0, .ref m6, .int 0, .int 0, .int 0, .int 0, .ref m7, .int 0, .int 0, .int 0, .int 0, .ref m8, .ref m9, .ref m10, .int 1, .ref m11, .ref m12, .ref m13, .long ((31 * ((31 * hv) + (-1003))) + 0)]))] H := hP
  have hD : va_D A [(m11, .inl (cJ, 80, .inr (.inl l2_11))), (m12, .inl (cI, 48, .inl f2_12)), (h0, .inr (7, [.int 0, .ref m1, .int 0, .ref m2, .ref m3, .ref m4, .ref m5, .int 0, .int 0, .ref m6, .int 0, .int 0, .int 0, .int 0, .ref m7, .int 0, .int 0, .int 0, .int 0, .ref m8, .ref m9, .ref m10, .int 1, .ref m11, .ref m12, .ref m13, .long ((31 * ((31 * hv) + (-1003))) + 0)]))] := hD
  refine lv_iconst (v := 0) hx hb dX7_mixOpen_20 (by decide) ?_
  refine lv_istore_n (lv' := [(2, .int 0), (0, .ref h0), (1, .int (nI a))]) hx hb dX7_mixOpen_21 rfl hl (by decide) rfl (fun ls hl => ?_)
  have LOOP_22 : ∀ (n : Nat) (i : Nat), (i + n = 16) → ∀ (H : Heap) (locs : List Loc) (ls : Array Slot), va_P D vwCl [(m11, .inl (cJ, 80, .inr (.inl l2_11))), (m12, .inl (cI, 48, .inl f2_12)), (h0, .inr (7, [.int 0, .ref m1, .int 0, .ref m2, .ref m3, .ref m4, .ref m5, .int 0, .int 0, .ref m6, .int 0, .int 0, .int 0, .int 0, .ref m7, .int 0, .int 0, .int 0, .int 0, .ref m8, .ref m9, .ref m10, .int 1, .ref m11, .ref m12, .ref m13, .long (dk ((31 * ((31 * hv) + (-1003))) + 0) i)]))] H → va_D A [(m11, .inl (cJ, 80, .inr (.inl l2_11))), (m12, .inl (cI, 48, .inl f2_12)), (h0, .inr (7, [.int 0, .ref m1, .int 0, .ref m2, .ref m3, .ref m4, .ref m5, .int 0, .int 0, .ref m6, .int 0, .int 0, .int 0, .int 0, .ref m7, .int 0, .int 0, .int 0, .int 0, .ref m8, .ref m9, .ref m10, .int 1, .ref m11, .ref m12, .ref m13, .long (dk ((31 * ((31 * hv) + (-1003))) + 0) i)]))] → va_S A s.heap H locs → lv_has ls 3 [(0, .ref h0), (1, .int (nI a)), (2, .int (nI i))] → W p l e (rM 3 0 0 66) s m ([.ref h0, .int (nI a)] : List Value).toArray below meth c H locs 0 0 Q (F0 m 22 ls []) := by
    intro n
    induction n with
    | zero =>
      intro i hi H locs ls hP hD hS hl
      obtain rfl : i = 16 := by omega
      refine lv_iload_n hx hb dX7_mixOpen_22 rfl (lv_at hl 2 rfl) ?_
      refine lv_bipush (v := 16) hx hb dX7_mixOpen_23 (by decide) ?_
      refine lv_icmp_ge (tgt := 58) hx hb dX7_mixOpen_25 (by decide) (fun c_18 => ?_) (fun c_18 => ?_)
      rotate_left
      · exact absurd (nI_le (a := 16) (b := 16) (by omega) (by omega)) c_18
      exact hret _ _ _ _ _ _ (l2_11, f2_12) dX7_mixOpen_58 hS (Nat.le_of_ble_eq_true rfl) (Nat.le_of_ble_eq_true rfl) hLm (hP.sub [2, 0, 1] rfl) (hD.sub [2, 0, 1] rfl rfl)
    | succ n ih_22 =>
      intro i hi H locs ls hP hD hS hl
      refine lv_iload_n hx hb dX7_mixOpen_22 rfl (lv_at hl 2 rfl) ?_
      refine lv_bipush (v := 16) hx hb dX7_mixOpen_23 (by decide) ?_
      refine lv_icmp_ge (tgt := 58) hx hb dX7_mixOpen_25 (by decide) (fun c_19 => ?_) (fun c_19 => ?_)
      · exact absurd c_19 (nI_ge (a := i) (b := 16) (by omega) (by omega))
      refine lv_aload_n hx hb dX7_mixOpen_28 rfl (lv_at hl 0 rfl) ?_
      refine lv_aload_n hx hb dX7_mixOpen_29 rfl (lv_at hl 0 rfl) ?_
      refine lv_iload_n hx hb dX7_mixOpen_30 rfl (lv_at hl 1 rfl) ?_
      refine lv_iload_n hx hb dX7_mixOpen_31 rfl (lv_at hl 2 rfl) ?_
      refine lv_iconst (v := 0) hx hb dX7_mixOpen_32 (by decide) ?_
      refine xc_i (wc := [(h0, .inr (7, [.int 0, .ref m1, .int 0, .ref m2, .ref m3, .ref m4, .ref m5, .int 0, .int 0, .ref m6, .int 0, .int 0, .int 0, .int 0, .ref m7, .int 0, .int 0, .int 0, .int 0, .ref m8, .ref m9, .ref m10, .int 1, .ref m11, .ref m12, .ref m13, .long (dk ((31 * ((31 * hv) + (-1003))) + 0) i)])), (m11, .inl (cJ, 80, .inr (.inl l2_11))), (m12, .inl (cI, 48, .inl f2_12))]) (wr := []) (xrV (n := 3) (As := [.int (nI a), .int (nI i), .int 0]) (rest := [.ref h0]) (ci := 7) (q0 := 2) hd hK hP hD (c_lightNow_10 l D cI cJ cZ cR _ h0 m1 m2 m3 m4 m5 m6 m7 m8 m9 m10 m11 m12 m13 (dk ((31 * ((31 * hv) + (-1003))) + 0) i) l2_11 f2_12 a i ha (by omega) hLm) (gV t_846 mV_X7_lightNow) hV_X7_lightNow ⟨(Nat.le_of_ble_eq_true rfl), (Nat.le_of_ble_eq_true rfl)⟩ rfl rfl [2, 0, 1] rfl rfl rfl hl.1 rfl (Nat.le_of_ble_eq_true rfl) dX7_mixOpen_33 ⟨(Nat.le_of_ble_eq_true rfl), (Nat.le_of_ble_eq_true rfl)⟩) hP hD hS hA [2, 0, 1] [] rfl rfl rfl (by decide) (fun r_20 u_21 H locs hw_22 hP hD hS => ?_)
      have hw_23 : r_20 = (-1) := hw_22
      subst hw_23
      have hP : va_P D vwCl [(h0, .inr (7, [.int 0, .ref m1, .int 0, .ref m2, .ref m3, .ref m4, .ref m5, .int 0, .int 0, .ref m6, .int 0, .int 0, .int 0, .int 0, .ref m7, .int 0, .int 0, .int 0, .int 0, .ref m8, .ref m9, .ref m10, .int 1, .ref m11, .ref m12, .ref m13, .long (dk ((31 * ((31 * hv) + (-1003))) + 0) i)])), (m11, .inl (cJ, 80, .inr (.inl l2_11))), (m12, .inl (cI, 48, .inl f2_12))] H := hP
      have hD : va_D A [(h0, .inr (7, [.int 0, .ref m1, .int 0, .ref m2, .ref m3, .ref m4, .ref m5, .int 0, .int 0, .ref m6, .int 0, .int 0, .int 0, .int 0, .ref m7, .int 0, .int 0, .int 0, .int 0, .ref m8, .ref m9, .ref m10, .int 1, .ref m11, .ref m12, .ref m13, .long (dk ((31 * ((31 * hv) + (-1003))) + 0) i)])), (m11, .inl (cJ, 80, .inr (.inl l2_11))), (m12, .inl (cI, 48, .inl f2_12))] := hD
      refine lv_i2l (v := -1) hx hb dX7_mixOpen_36 (by decide) ?_
      refine xc_v (wc := [(h0, .inr (7, [.int 0, .ref m1, .int 0, .ref m2, .ref m3, .ref m4, .ref m5, .int 0, .int 0, .ref m6, .int 0, .int 0, .int 0, .int 0, .ref m7, .int 0, .int 0, .int 0, .int 0, .ref m8, .ref m9, .ref m10, .int 1, .ref m11, .ref m12, .ref m13, .long (dk ((31 * ((31 * hv) + (-1003))) + 0) i)]))]) (wr := [(m11, .inl (cJ, 80, .inr (.inl l2_11))), (m12, .inl (cI, 48, .inl f2_12))]) (xrV (n := 1) (As := [.long (-1)]) (rest := []) (ci := 7) (q0 := 0) hd hK hP hD (c_X7_mix l D cI cJ cZ cR _ h0 m1 m2 m3 m4 m5 m6 m7 m8 m9 m10 m11 m12 m13 (dk ((31 * ((31 * hv) + (-1003))) + 0) i) 1 (-1) ) (gV t_863 mV_X7_mix) hV_X7_mix ⟨(Nat.le_of_ble_eq_true rfl), (Nat.le_of_ble_eq_true rfl)⟩ rfl rfl [0] rfl rfl rfl hl.1 rfl (Nat.le_of_ble_eq_true rfl) dX7_mixOpen_37 ⟨(Nat.le_of_ble_eq_true rfl), (Nat.le_of_ble_eq_true rfl)⟩) hP hD hS hA [0] [1, 2] rfl rfl rfl (by decide) (fun u_25 H locs hw_26 hP hD hS => ?_)
      have hP : va_P D vwCl [(m11, .inl (cJ, 80, .inr (.inl l2_11))), (m12, .inl (cI, 48, .inl f2_12)), (h0, .inr (7, [.int 0, .ref m1, .int 0, .ref m2, .ref m3, .ref m4, .ref m5, .int 0, .int 0, .ref m6, .int 0, .int 0, .int 0, .int 0, .ref m7, .int 0, .int 0, .int 0, .int 0, .ref m8, .ref m9, .ref m10, .int 1, .ref m11, .ref m12, .ref m13, .long ((31 * (dk ((31 * ((31 * hv) + (-1003))) + 0) i)) + (-1))]))] H := hP
      have hD : va_D A [(m11, .inl (cJ, 80, .inr (.inl l2_11))), (m12, .inl (cI, 48, .inl f2_12)), (h0, .inr (7, [.int 0, .ref m1, .int 0, .ref m2, .ref m3, .ref m4, .ref m5, .int 0, .int 0, .ref m6, .int 0, .int 0, .int 0, .int 0, .ref m7, .int 0, .int 0, .int 0, .int 0, .ref m8, .ref m9, .ref m10, .int 1, .ref m11, .ref m12, .ref m13, .long ((31 * (dk ((31 * ((31 * hv) + (-1003))) + 0) i)) + (-1))]))] := hD
      refine lv_aload_n hx hb dX7_mixOpen_40 rfl (lv_at hl 0 rfl) ?_
      refine lv_aload_n hx hb dX7_mixOpen_41 rfl (lv_at hl 0 rfl) ?_
      refine lv_iload_n hx hb dX7_mixOpen_42 rfl (lv_at hl 1 rfl) ?_
      refine lv_iload_n hx hb dX7_mixOpen_43 rfl (lv_at hl 2 rfl) ?_
      refine lv_iconst (v := 1) hx hb dX7_mixOpen_44 (by decide) ?_
      refine xc_i (wc := [(h0, .inr (7, [.int 0, .ref m1, .int 0, .ref m2, .ref m3, .ref m4, .ref m5, .int 0, .int 0, .ref m6, .int 0, .int 0, .int 0, .int 0, .ref m7, .int 0, .int 0, .int 0, .int 0, .ref m8, .ref m9, .ref m10, .int 1, .ref m11, .ref m12, .ref m13, .long ((31 * (dk ((31 * ((31 * hv) + (-1003))) + 0) i)) + (-1))])), (m11, .inl (cJ, 80, .inr (.inl l2_11))), (m12, .inl (cI, 48, .inl f2_12))]) (wr := []) (xrV (n := 3) (As := [.int (nI a), .int (nI i), .int 1]) (rest := [.ref h0]) (ci := 7) (q0 := 2) hd hK hP hD (c_lightNow_11 l D cI cJ cZ cR _ h0 m1 m2 m3 m4 m5 m6 m7 m8 m9 m10 m11 m12 m13 ((31 * (dk ((31 * ((31 * hv) + (-1003))) + 0) i)) + (-1)) l2_11 f2_12 a i ha (by omega) hLm) (gV t_846 mV_X7_lightNow) hV_X7_lightNow ⟨(Nat.le_of_ble_eq_true rfl), (Nat.le_of_ble_eq_true rfl)⟩ rfl rfl [2, 0, 1] rfl rfl rfl hl.1 rfl (Nat.le_of_ble_eq_true rfl) dX7_mixOpen_45 ⟨(Nat.le_of_ble_eq_true rfl), (Nat.le_of_ble_eq_true rfl)⟩) hP hD hS hA [2, 0, 1] [] rfl rfl rfl (by decide) (fun r_27 u_28 H locs hw_29 hP hD hS => ?_)
      have hw_30 : r_27 = (-1) := hw_29
      subst hw_30
      have hP : va_P D vwCl [(h0, .inr (7, [.int 0, .ref m1, .int 0, .ref m2, .ref m3, .ref m4, .ref m5, .int 0, .int 0, .ref m6, .int 0, .int 0, .int 0, .int 0, .ref m7, .int 0, .int 0, .int 0, .int 0, .ref m8, .ref m9, .ref m10, .int 1, .ref m11, .ref m12, .ref m13, .long ((31 * (dk ((31 * ((31 * hv) + (-1003))) + 0) i)) + (-1))])), (m11, .inl (cJ, 80, .inr (.inl l2_11))), (m12, .inl (cI, 48, .inl f2_12))] H := hP
      have hD : va_D A [(h0, .inr (7, [.int 0, .ref m1, .int 0, .ref m2, .ref m3, .ref m4, .ref m5, .int 0, .int 0, .ref m6, .int 0, .int 0, .int 0, .int 0, .ref m7, .int 0, .int 0, .int 0, .int 0, .ref m8, .ref m9, .ref m10, .int 1, .ref m11, .ref m12, .ref m13, .long ((31 * (dk ((31 * ((31 * hv) + (-1003))) + 0) i)) + (-1))])), (m11, .inl (cJ, 80, .inr (.inl l2_11))), (m12, .inl (cI, 48, .inl f2_12))] := hD
      refine lv_i2l (v := -1) hx hb dX7_mixOpen_48 (by decide) ?_
      refine xc_v (wc := [(h0, .inr (7, [.int 0, .ref m1, .int 0, .ref m2, .ref m3, .ref m4, .ref m5, .int 0, .int 0, .ref m6, .int 0, .int 0, .int 0, .int 0, .ref m7, .int 0, .int 0, .int 0, .int 0, .ref m8, .ref m9, .ref m10, .int 1, .ref m11, .ref m12, .ref m13, .long ((31 * (dk ((31 * ((31 * hv) + (-1003))) + 0) i)) + (-1))]))]) (wr := [(m11, .inl (cJ, 80, .inr (.inl l2_11))), (m12, .inl (cI, 48, .inl f2_12))]) (xrV (n := 1) (As := [.long (-1)]) (rest := []) (ci := 7) (q0 := 0) hd hK hP hD (c_X7_mix l D cI cJ cZ cR _ h0 m1 m2 m3 m4 m5 m6 m7 m8 m9 m10 m11 m12 m13 ((31 * (dk ((31 * ((31 * hv) + (-1003))) + 0) i)) + (-1)) 1 (-1) ) (gV t_863 mV_X7_mix) hV_X7_mix ⟨(Nat.le_of_ble_eq_true rfl), (Nat.le_of_ble_eq_true rfl)⟩ rfl rfl [0] rfl rfl rfl hl.1 rfl (Nat.le_of_ble_eq_true rfl) dX7_mixOpen_49 ⟨(Nat.le_of_ble_eq_true rfl), (Nat.le_of_ble_eq_true rfl)⟩) hP hD hS hA [0] [1, 2] rfl rfl rfl (by decide) (fun u_32 H locs hw_33 hP hD hS => ?_)
      have hP : va_P D vwCl [(m11, .inl (cJ, 80, .inr (.inl l2_11))), (m12, .inl (cI, 48, .inl f2_12)), (h0, .inr (7, [.int 0, .ref m1, .int 0, .ref m2, .ref m3, .ref m4, .ref m5, .int 0, .int 0, .ref m6, .int 0, .int 0, .int 0, .int 0, .ref m7, .int 0, .int 0, .int 0, .int 0, .ref m8, .ref m9, .ref m10, .int 1, .ref m11, .ref m12, .ref m13, .long ((31 * ((31 * (dk ((31 * ((31 * hv) + (-1003))) + 0) i)) + (-1))) + (-1))]))] H := hP
      have hD : va_D A [(m11, .inl (cJ, 80, .inr (.inl l2_11))), (m12, .inl (cI, 48, .inl f2_12)), (h0, .inr (7, [.int 0, .ref m1, .int 0, .ref m2, .ref m3, .ref m4, .ref m5, .int 0, .int 0, .ref m6, .int 0, .int 0, .int 0, .int 0, .ref m7, .int 0, .int 0, .int 0, .int 0, .ref m8, .ref m9, .ref m10, .int 1, .ref m11, .ref m12, .ref m13, .long ((31 * ((31 * (dk ((31 * ((31 * hv) + (-1003))) + 0) i)) + (-1))) + (-1))]))] := hD
      refine lv_iinc (v := nI (i + 1)) (lv' := [(2, .int (nI (i + 1))), (0, .ref h0), (1, .int (nI a))]) hx hb dX7_mixOpen_52 hl (k := 2) rfl (nI_1 i) (by decide) rfl (fun ls hl => ?_)
      refine lv_goto (tgt := 22) hx hb dX7_mixOpen_55 (by decide) ?_
      exact ih_22 (i + 1) (by omega) _ _ _ (hP.sub [0, 1, 2] rfl) (hD.sub [0, 1, 2] rfl rfl) hS (lv_sub hl [1, 2, 0] rfl)
  exact LOOP_22 16 0 (by omega) _ _ _ (hP.sub [0, 1, 2] rfl) (hD.sub [0, 1, 2] rfl rfl) hS (lv_sub hl [1, 2, 0] rfl)
set_option maxHeartbeats 4000000 in
set_option maxRecDepth 100000 in
theorem c_mixOpen_1 (sz : Nat) (h0 : Nat) (m1 : Nat) (m2 : Nat) (m3 : Nat) (m4 : Nat) (m5 : Nat) (m6 : Nat) (m7 : Nat) (m8 : Nat) (m9 : Nat) (m10 : Nat) (m11 : Nat) (m12 : Nat) (m13 : Nat) (hv : Int64) (ll : Nat → Int64) (fl : Nat → Int32) (a : Nat) (ha : a < 3) (hL : Lm ll fl) : CTv l D cI cJ cZ cR yX7_mixOpen cX7_mixOpen 3 none 3 66 0 0 sz [.ref h0, .int (nI a)] [(h0, .inr (7, [.int 0, .ref m1, .int 0, .ref m2, .ref m3, .ref m4, .ref m5, .int 0, .int 0, .ref m6, .int 0, .int 0, .int 0, .int 0, .ref m7, .int 0, .int 0, .int 0, .int 0, .ref m8, .ref m9, .ref m10, .int 1, .ref m11, .ref m12, .ref m13, .long hv])), (m11, .inl (cJ, 80, .inr (.inl ll))), (m12, .inl (cI, 48, .inl fl))] (fun (u : (Nat → Int64) × (Nat → Int32)) => (Lm u.1 u.2)) (fun (u : (Nat → Int64) × (Nat → Int32)) => [(h0, .inr (7, [.int 0, .ref m1, .int 0, .ref m2, .ref m3, .ref m4, .ref m5, .int 0, .int 0, .ref m6, .int 0, .int 0, .int 0, .int 0, .ref m7, .int 0, .int 0, .int 0, .int 0, .ref m8, .ref m9, .ref m10, .int 1, .ref m11, .ref m12, .ref m13, .long (dk ((31 * ((31 * hv) + (-1003))) + 0) 16)])), (m11, .inl (cJ, 80, .inr (.inl u.1))), (m12, .inl (cI, 48, .inl u.2))]) := by
  refine CTv.of (by decide) (Nat.le_of_ble_eq_true rfl) rfl ?_
  intro p e s m below meth c A Q ls hd hin hK hsz hP hD hA hS hl hret
  obtain ⟨hx, hb, hml, hown, hts⟩ := id hd
  have hK1 := hK.1
  have hown : s.vm.findClass RX7 = some m.cls := hown
  have hl : lv_has ls 3 [(0, .ref h0), (1, .int (nI a))] := hl
  have hLm := hL
  refine lv_aload_n hx hb dX7_mixOpen_0 rfl (lv_at hl 0 rfl) ?_
  refine lv_aload_n hx hb dX7_mixOpen_1 rfl (lv_at hl 0 rfl) ?_
  refine lv_iload_n hx hb dX7_mixOpen_2 rfl (lv_at hl 1 rfl) ?_
  refine xc_i (wc := [(h0, .inr (7, [.int 0, .ref m1, .int 0, .ref m2, .ref m3, .ref m4, .ref m5, .int 0, .int 0, .ref m6, .int 0, .int 0, .int 0, .int 0, .ref m7, .int 0, .int 0, .int 0, .int 0, .ref m8, .ref m9, .ref m10, .int 1, .ref m11, .ref m12, .ref m13, .long hv]))]) (wr := [(m11, .inl (cJ, 80, .inr (.inl ll))), (m12, .inl (cI, 48, .inl fl))]) (xrV (n := 1) (As := [.int (nI a)]) (rest := [.ref h0]) (ci := 7) (q0 := 0) hd hK hP hD (c_X7_fewestNow l D cI cJ cZ cR _ h0 m1 m2 m3 m4 m5 m6 m7 m8 m9 m10 m11 m12 m13 hv 1 (nI a) ) (gV t_758 mV_X7_fewestNow) hV_X7_fewestNow ⟨(Nat.le_of_ble_eq_true rfl), (Nat.le_of_ble_eq_true rfl)⟩ rfl rfl [0] rfl rfl rfl hl.1 rfl (Nat.le_of_ble_eq_true rfl) dX7_mixOpen_3 ⟨(Nat.le_of_ble_eq_true rfl), (Nat.le_of_ble_eq_true rfl)⟩) hP hD hS hA [0] [1, 2] rfl rfl rfl (by decide) (fun r_1 u_2 H locs hw_3 hP hD hS => ?_)
  have hw_4 : r_1 = (-1003) := hw_3
  subst hw_4
  have hP : va_P D vwCl [(m11, .inl (cJ, 80, .inr (.inl ll))), (m12, .inl (cI, 48, .inl fl)), (h0, .inr (7, [.int 0, .ref m1, .int 0, .ref m2, .ref m3, .ref m4, .ref m5, .int 0, .int 0, .ref m6, .int 0, .int 0, .int 0, .int 0, .ref m7, .int 0, .int 0, .int 0, .int 0, .ref m8, .ref m9, .ref m10, .int 1, .ref m11, .ref m12, .ref m13, .long hv]))] H := hP
  have hD : va_D A [(m11, .inl (cJ, 80, .inr (.inl ll))), (m12, .inl (cI, 48, .inl fl)), (h0, .inr (7, [.int 0, .ref m1, .int 0, .ref m2, .ref m3, .ref m4, .ref m5, .int 0, .int 0, .ref m6, .int 0, .int 0, .int 0, .int 0, .ref m7, .int 0, .int 0, .int 0, .int 0, .ref m8, .ref m9, .ref m10, .int 1, .ref m11, .ref m12, .ref m13, .long hv]))] := hD
  refine lv_i2l (v := -1003) hx hb dX7_mixOpen_6 (by decide) ?_
  refine xc_v (wc := [(h0, .inr (7, [.int 0, .ref m1, .int 0, .ref m2, .ref m3, .ref m4, .ref m5, .int 0, .int 0, .ref m6, .int 0, .int 0, .int 0, .int 0, .ref m7, .int 0, .int 0, .int 0, .int 0, .ref m8, .ref m9, .ref m10, .int 1, .ref m11, .ref m12, .ref m13, .long hv]))]) (wr := [(m11, .inl (cJ, 80, .inr (.inl ll))), (m12, .inl (cI, 48, .inl fl))]) (xrV (n := 1) (As := [.long (-1003)]) (rest := []) (ci := 7) (q0 := 2) hd hK hP hD (c_X7_mix l D cI cJ cZ cR _ h0 m1 m2 m3 m4 m5 m6 m7 m8 m9 m10 m11 m12 m13 hv 1 (-1003) ) (gV t_863 mV_X7_mix) hV_X7_mix ⟨(Nat.le_of_ble_eq_true rfl), (Nat.le_of_ble_eq_true rfl)⟩ rfl rfl [2] rfl rfl rfl hl.1 rfl (Nat.le_of_ble_eq_true rfl) dX7_mixOpen_7 ⟨(Nat.le_of_ble_eq_true rfl), (Nat.le_of_ble_eq_true rfl)⟩) hP hD hS hA [2] [0, 1] rfl rfl rfl (by decide) (fun u_6 H locs hw_7 hP hD hS => ?_)
  have hP : va_P D vwCl [(m11, .inl (cJ, 80, .inr (.inl ll))), (m12, .inl (cI, 48, .inl fl)), (h0, .inr (7, [.int 0, .ref m1, .int 0, .ref m2, .ref m3, .ref m4, .ref m5, .int 0, .int 0, .ref m6, .int 0, .int 0, .int 0, .int 0, .ref m7, .int 0, .int 0, .int 0, .int 0, .ref m8, .ref m9, .ref m10, .int 1, .ref m11, .ref m12, .ref m13, .long ((31 * hv) + (-1003))]))] H := hP
  have hD : va_D A [(m11, .inl (cJ, 80, .inr (.inl ll))), (m12, .inl (cI, 48, .inl fl)), (h0, .inr (7, [.int 0, .ref m1, .int 0, .ref m2, .ref m3, .ref m4, .ref m5, .int 0, .int 0, .ref m6, .int 0, .int 0, .int 0, .int 0, .ref m7, .int 0, .int 0, .int 0, .int 0, .ref m8, .ref m9, .ref m10, .int 1, .ref m11, .ref m12, .ref m13, .long ((31 * hv) + (-1003))]))] := hD
  refine lv_aload_n hx hb dX7_mixOpen_10 rfl (lv_at hl 0 rfl) ?_
  refine lv_aload_n hx hb dX7_mixOpen_11 rfl (lv_at hl 0 rfl) ?_
  refine lv_iload_n hx hb dX7_mixOpen_12 rfl (lv_at hl 1 rfl) ?_
  refine xc_i (wc := [(h0, .inr (7, [.int 0, .ref m1, .int 0, .ref m2, .ref m3, .ref m4, .ref m5, .int 0, .int 0, .ref m6, .int 0, .int 0, .int 0, .int 0, .ref m7, .int 0, .int 0, .int 0, .int 0, .ref m8, .ref m9, .ref m10, .int 1, .ref m11, .ref m12, .ref m13, .long ((31 * hv) + (-1003))])), (m11, .inl (cJ, 80, .inr (.inl ll))), (m12, .inl (cI, 48, .inl fl))]) (wr := []) (xrV (n := 1) (As := [.int (nI a)]) (rest := [.ref h0]) (ci := 7) (q0 := 2) hd hK hP hD (c_kindsNow_1 l D cI cJ cZ cR _ h0 m1 m2 m3 m4 m5 m6 m7 m8 m9 m10 m11 m12 m13 ((31 * hv) + (-1003)) ll fl a ha hL) (gV t_814 mV_X7_kindsNow) hV_X7_kindsNow ⟨(Nat.le_of_ble_eq_true rfl), (Nat.le_of_ble_eq_true rfl)⟩ rfl rfl [2, 0, 1] rfl rfl rfl hl.1 rfl (Nat.le_of_ble_eq_true rfl) dX7_mixOpen_13 ⟨(Nat.le_of_ble_eq_true rfl), (Nat.le_of_ble_eq_true rfl)⟩) hP hD hS hA [2, 0, 1] [] rfl rfl rfl (by decide) (fun r_8 u_9 H locs hw_10 hP hD hS => ?_)
  have hw_11 : r_8 = 0 := hw_10
  subst hw_11
  have hP : va_P D vwCl [(h0, .inr (7, [.int 0, .ref m1, .int 0, .ref m2, .ref m3, .ref m4, .ref m5, .int 0, .int 0, .ref m6, .int 0, .int 0, .int 0, .int 0, .ref m7, .int 0, .int 0, .int 0, .int 0, .ref m8, .ref m9, .ref m10, .int 1, .ref m11, .ref m12, .ref m13, .long ((31 * hv) + (-1003))])), (m11, .inl (cJ, 80, .inr (.inl ll))), (m12, .inl (cI, 48, .inl fl))] H := hP
  have hD : va_D A [(h0, .inr (7, [.int 0, .ref m1, .int 0, .ref m2, .ref m3, .ref m4, .ref m5, .int 0, .int 0, .ref m6, .int 0, .int 0, .int 0, .int 0, .ref m7, .int 0, .int 0, .int 0, .int 0, .ref m8, .ref m9, .ref m10, .int 1, .ref m11, .ref m12, .ref m13, .long ((31 * hv) + (-1003))])), (m11, .inl (cJ, 80, .inr (.inl ll))), (m12, .inl (cI, 48, .inl fl))] := hD
  refine lv_i2l (v := 0) hx hb dX7_mixOpen_16 (by decide) ?_
  refine xc_v (wc := [(h0, .inr (7, [.int 0, .ref m1, .int 0, .ref m2, .ref m3, .ref m4, .ref m5, .int 0, .int 0, .ref m6, .int 0, .int 0, .int 0, .int 0, .ref m7, .int 0, .int 0, .int 0, .int 0, .ref m8, .ref m9, .ref m10, .int 1, .ref m11, .ref m12, .ref m13, .long ((31 * hv) + (-1003))]))]) (wr := [(m11, .inl (cJ, 80, .inr (.inl ll))), (m12, .inl (cI, 48, .inl fl))]) (xrV (n := 1) (As := [.long 0]) (rest := []) (ci := 7) (q0 := 0) hd hK hP hD (c_X7_mix l D cI cJ cZ cR _ h0 m1 m2 m3 m4 m5 m6 m7 m8 m9 m10 m11 m12 m13 ((31 * hv) + (-1003)) 1 0 ) (gV t_863 mV_X7_mix) hV_X7_mix ⟨(Nat.le_of_ble_eq_true rfl), (Nat.le_of_ble_eq_true rfl)⟩ rfl rfl [0] rfl rfl rfl hl.1 rfl (Nat.le_of_ble_eq_true rfl) dX7_mixOpen_17 ⟨(Nat.le_of_ble_eq_true rfl), (Nat.le_of_ble_eq_true rfl)⟩) hP hD hS hA [0] [1, 2] rfl rfl rfl (by decide) (fun u_13 H locs hw_14 hP hD hS => ?_)
  have hP : va_P D vwCl [(m11, .inl (cJ, 80, .inr (.inl ll))), (m12, .inl (cI, 48, .inl fl)), (h0, .inr (7, [.int 0, .ref m1, .int 0, .ref m2, .ref m3, .ref m4, .ref m5, .int 0, .int 0, .ref m6, .int 0, .int 0, .int 0, .int 0, .ref m7, .int 0, .int 0, .int 0, .int 0, .ref m8, .ref m9, .ref m10, .int 1, .ref m11, .ref m12, .ref m13, .long ((31 * ((31 * hv) + (-1003))) + 0)]))] H := hP
  have hD : va_D A [(m11, .inl (cJ, 80, .inr (.inl ll))), (m12, .inl (cI, 48, .inl fl)), (h0, .inr (7, [.int 0, .ref m1, .int 0, .ref m2, .ref m3, .ref m4, .ref m5, .int 0, .int 0, .ref m6, .int 0, .int 0, .int 0, .int 0, .ref m7, .int 0, .int 0, .int 0, .int 0, .ref m8, .ref m9, .ref m10, .int 1, .ref m11, .ref m12, .ref m13, .long ((31 * ((31 * hv) + (-1003))) + 0)]))] := hD
  refine lv_iconst (v := 0) hx hb dX7_mixOpen_20 (by decide) ?_
  refine lv_istore_n (lv' := [(2, .int 0), (0, .ref h0), (1, .int (nI a))]) hx hb dX7_mixOpen_21 rfl hl (by decide) rfl (fun ls hl => ?_)
  have LOOP_22 : ∀ (n : Nat) (i : Nat), (i + n = 16) → ∀ (H : Heap) (locs : List Loc) (ls : Array Slot), va_P D vwCl [(m11, .inl (cJ, 80, .inr (.inl ll))), (m12, .inl (cI, 48, .inl fl)), (h0, .inr (7, [.int 0, .ref m1, .int 0, .ref m2, .ref m3, .ref m4, .ref m5, .int 0, .int 0, .ref m6, .int 0, .int 0, .int 0, .int 0, .ref m7, .int 0, .int 0, .int 0, .int 0, .ref m8, .ref m9, .ref m10, .int 1, .ref m11, .ref m12, .ref m13, .long (dk ((31 * ((31 * hv) + (-1003))) + 0) i)]))] H → va_D A [(m11, .inl (cJ, 80, .inr (.inl ll))), (m12, .inl (cI, 48, .inl fl)), (h0, .inr (7, [.int 0, .ref m1, .int 0, .ref m2, .ref m3, .ref m4, .ref m5, .int 0, .int 0, .ref m6, .int 0, .int 0, .int 0, .int 0, .ref m7, .int 0, .int 0, .int 0, .int 0, .ref m8, .ref m9, .ref m10, .int 1, .ref m11, .ref m12, .ref m13, .long (dk ((31 * ((31 * hv) + (-1003))) + 0) i)]))] → va_S A s.heap H locs → lv_has ls 3 [(0, .ref h0), (1, .int (nI a)), (2, .int (nI i))] → W p l e (rM 3 0 0 66) s m ([.ref h0, .int (nI a)] : List Value).toArray below meth c H locs 0 0 Q (F0 m 22 ls []) := by
    intro n
    induction n with
    | zero =>
      intro i hi H locs ls hP hD hS hl
      obtain rfl : i = 16 := by omega
      refine lv_iload_n hx hb dX7_mixOpen_22 rfl (lv_at hl 2 rfl) ?_
      refine lv_bipush (v := 16) hx hb dX7_mixOpen_23 (by decide) ?_
      refine lv_icmp_ge (tgt := 58) hx hb dX7_mixOpen_25 (by decide) (fun c_15 => ?_) (fun c_15 => ?_)
      rotate_left
      · exact absurd (nI_le (a := 16) (b := 16) (by omega) (by omega)) c_15
      exact hret _ _ _ _ _ _ (ll, fl) dX7_mixOpen_58 hS (Nat.le_of_ble_eq_true rfl) (Nat.le_of_ble_eq_true rfl) hLm (hP.sub [2, 0, 1] rfl) (hD.sub [2, 0, 1] rfl rfl)
    | succ n ih_22 =>
      intro i hi H locs ls hP hD hS hl
      refine lv_iload_n hx hb dX7_mixOpen_22 rfl (lv_at hl 2 rfl) ?_
      refine lv_bipush (v := 16) hx hb dX7_mixOpen_23 (by decide) ?_
      refine lv_icmp_ge (tgt := 58) hx hb dX7_mixOpen_25 (by decide) (fun c_16 => ?_) (fun c_16 => ?_)
      · exact absurd c_16 (nI_ge (a := i) (b := 16) (by omega) (by omega))
      refine lv_aload_n hx hb dX7_mixOpen_28 rfl (lv_at hl 0 rfl) ?_
      refine lv_aload_n hx hb dX7_mixOpen_29 rfl (lv_at hl 0 rfl) ?_
      refine lv_iload_n hx hb dX7_mixOpen_30 rfl (lv_at hl 1 rfl) ?_
      refine lv_iload_n hx hb dX7_mixOpen_31 rfl (lv_at hl 2 rfl) ?_
      refine lv_iconst (v := 0) hx hb dX7_mixOpen_32 (by decide) ?_
      refine xc_i (wc := [(h0, .inr (7, [.int 0, .ref m1, .int 0, .ref m2, .ref m3, .ref m4, .ref m5, .int 0, .int 0, .ref m6, .int 0, .int 0, .int 0, .int 0, .ref m7, .int 0, .int 0, .int 0, .int 0, .ref m8, .ref m9, .ref m10, .int 1, .ref m11, .ref m12, .ref m13, .long (dk ((31 * ((31 * hv) + (-1003))) + 0) i)])), (m11, .inl (cJ, 80, .inr (.inl ll))), (m12, .inl (cI, 48, .inl fl))]) (wr := []) (xrV (n := 3) (As := [.int (nI a), .int (nI i), .int 0]) (rest := [.ref h0]) (ci := 7) (q0 := 2) hd hK hP hD (c_lightNow_10 l D cI cJ cZ cR _ h0 m1 m2 m3 m4 m5 m6 m7 m8 m9 m10 m11 m12 m13 (dk ((31 * ((31 * hv) + (-1003))) + 0) i) ll fl a i ha (by omega) hLm) (gV t_846 mV_X7_lightNow) hV_X7_lightNow ⟨(Nat.le_of_ble_eq_true rfl), (Nat.le_of_ble_eq_true rfl)⟩ rfl rfl [2, 0, 1] rfl rfl rfl hl.1 rfl (Nat.le_of_ble_eq_true rfl) dX7_mixOpen_33 ⟨(Nat.le_of_ble_eq_true rfl), (Nat.le_of_ble_eq_true rfl)⟩) hP hD hS hA [2, 0, 1] [] rfl rfl rfl (by decide) (fun r_17 u_18 H locs hw_19 hP hD hS => ?_)
      have hw_20 : r_17 = (-1) := hw_19
      subst hw_20
      have hP : va_P D vwCl [(h0, .inr (7, [.int 0, .ref m1, .int 0, .ref m2, .ref m3, .ref m4, .ref m5, .int 0, .int 0, .ref m6, .int 0, .int 0, .int 0, .int 0, .ref m7, .int 0, .int 0, .int 0, .int 0, .ref m8, .ref m9, .ref m10, .int 1, .ref m11, .ref m12, .ref m13, .long (dk ((31 * ((31 * hv) + (-1003))) + 0) i)])), (m11, .inl (cJ, 80, .inr (.inl ll))), (m12, .inl (cI, 48, .inl fl))] H := hP
      have hD : va_D A [(h0, .inr (7, [.int 0, .ref m1, .int 0, .ref m2, .ref m3, .ref m4, .ref m5, .int 0, .int 0, .ref m6, .int 0, .int 0, .int 0, .int 0, .ref m7, .int 0, .int 0, .int 0, .int 0, .ref m8, .ref m9, .ref m10, .int 1, .ref m11, .ref m12, .ref m13, .long (dk ((31 * ((31 * hv) + (-1003))) + 0) i)])), (m11, .inl (cJ, 80, .inr (.inl ll))), (m12, .inl (cI, 48, .inl fl))] := hD
      refine lv_i2l (v := -1) hx hb dX7_mixOpen_36 (by decide) ?_
      refine xc_v (wc := [(h0, .inr (7, [.int 0, .ref m1, .int 0, .ref m2, .ref m3, .ref m4, .ref m5, .int 0, .int 0, .ref m6, .int 0, .int 0, .int 0, .int 0, .ref m7, .int 0, .int 0, .int 0, .int 0, .ref m8, .ref m9, .ref m10, .int 1, .ref m11, .ref m12, .ref m13, .long (dk ((31 * ((31 * hv) + (-1003))) + 0) i)]))]) (wr := [(m11, .inl (cJ, 80, .inr (.inl ll))), (m12, .inl (cI, 48, .inl fl))]) (xrV (n := 1) (As := [.long (-1)]) (rest := []) (ci := 7) (q0 := 0) hd hK hP hD (c_X7_mix l D cI cJ cZ cR _ h0 m1 m2 m3 m4 m5 m6 m7 m8 m9 m10 m11 m12 m13 (dk ((31 * ((31 * hv) + (-1003))) + 0) i) 1 (-1) ) (gV t_863 mV_X7_mix) hV_X7_mix ⟨(Nat.le_of_ble_eq_true rfl), (Nat.le_of_ble_eq_true rfl)⟩ rfl rfl [0] rfl rfl rfl hl.1 rfl (Nat.le_of_ble_eq_true rfl) dX7_mixOpen_37 ⟨(Nat.le_of_ble_eq_true rfl), (Nat.le_of_ble_eq_true rfl)⟩) hP hD hS hA [0] [1, 2] rfl rfl rfl (by decide) (fun u_22 H locs hw_23 hP hD hS => ?_)
      have hP : va_P D vwCl [(m11, .inl (cJ, 80, .inr (.inl ll))), (m12, .inl (cI, 48, .inl fl)), (h0, .inr (7, [.int 0, .ref m1, .int 0, .ref m2, .ref m3, .ref m4, .ref m5, .int 0, .int 0, .ref m6, .int 0, .int 0, .int 0, .int 0, .ref m7, .int 0, .int 0, .int 0, .int 0, .ref m8, .ref m9, .ref m10, .int 1, .ref m11, .ref m12, .ref m13, .long ((31 * (dk ((31 * ((31 * hv) + (-1003))) + 0) i)) + (-1))]))] H := hP
      have hD : va_D A [(m11, .inl (cJ, 80, .inr (.inl ll))), (m12, .inl (cI, 48, .inl fl)), (h0, .inr (7, [.int 0, .ref m1, .int 0, .ref m2, .ref m3, .ref m4, .ref m5, .int 0, .int 0, .ref m6, .int 0, .int 0, .int 0, .int 0, .ref m7, .int 0, .int 0, .int 0, .int 0, .ref m8, .ref m9, .ref m10, .int 1, .ref m11, .ref m12, .ref m13, .long ((31 * (dk ((31 * ((31 * hv) + (-1003))) + 0) i)) + (-1))]))] := hD
      refine lv_aload_n hx hb dX7_mixOpen_40 rfl (lv_at hl 0 rfl) ?_
      refine lv_aload_n hx hb dX7_mixOpen_41 rfl (lv_at hl 0 rfl) ?_
      refine lv_iload_n hx hb dX7_mixOpen_42 rfl (lv_at hl 1 rfl) ?_
      refine lv_iload_n hx hb dX7_mixOpen_43 rfl (lv_at hl 2 rfl) ?_
      refine lv_iconst (v := 1) hx hb dX7_mixOpen_44 (by decide) ?_
      refine xc_i (wc := [(h0, .inr (7, [.int 0, .ref m1, .int 0, .ref m2, .ref m3, .ref m4, .ref m5, .int 0, .int 0, .ref m6, .int 0, .int 0, .int 0, .int 0, .ref m7, .int 0, .int 0, .int 0, .int 0, .ref m8, .ref m9, .ref m10, .int 1, .ref m11, .ref m12, .ref m13, .long ((31 * (dk ((31 * ((31 * hv) + (-1003))) + 0) i)) + (-1))])), (m11, .inl (cJ, 80, .inr (.inl ll))), (m12, .inl (cI, 48, .inl fl))]) (wr := []) (xrV (n := 3) (As := [.int (nI a), .int (nI i), .int 1]) (rest := [.ref h0]) (ci := 7) (q0 := 2) hd hK hP hD (c_lightNow_11 l D cI cJ cZ cR _ h0 m1 m2 m3 m4 m5 m6 m7 m8 m9 m10 m11 m12 m13 ((31 * (dk ((31 * ((31 * hv) + (-1003))) + 0) i)) + (-1)) ll fl a i ha (by omega) hLm) (gV t_846 mV_X7_lightNow) hV_X7_lightNow ⟨(Nat.le_of_ble_eq_true rfl), (Nat.le_of_ble_eq_true rfl)⟩ rfl rfl [2, 0, 1] rfl rfl rfl hl.1 rfl (Nat.le_of_ble_eq_true rfl) dX7_mixOpen_45 ⟨(Nat.le_of_ble_eq_true rfl), (Nat.le_of_ble_eq_true rfl)⟩) hP hD hS hA [2, 0, 1] [] rfl rfl rfl (by decide) (fun r_24 u_25 H locs hw_26 hP hD hS => ?_)
      have hw_27 : r_24 = (-1) := hw_26
      subst hw_27
      have hP : va_P D vwCl [(h0, .inr (7, [.int 0, .ref m1, .int 0, .ref m2, .ref m3, .ref m4, .ref m5, .int 0, .int 0, .ref m6, .int 0, .int 0, .int 0, .int 0, .ref m7, .int 0, .int 0, .int 0, .int 0, .ref m8, .ref m9, .ref m10, .int 1, .ref m11, .ref m12, .ref m13, .long ((31 * (dk ((31 * ((31 * hv) + (-1003))) + 0) i)) + (-1))])), (m11, .inl (cJ, 80, .inr (.inl ll))), (m12, .inl (cI, 48, .inl fl))] H := hP
      have hD : va_D A [(h0, .inr (7, [.int 0, .ref m1, .int 0, .ref m2, .ref m3, .ref m4, .ref m5, .int 0, .int 0, .ref m6, .int 0, .int 0, .int 0, .int 0, .ref m7, .int 0, .int 0, .int 0, .int 0, .ref m8, .ref m9, .ref m10, .int 1, .ref m11, .ref m12, .ref m13, .long ((31 * (dk ((31 * ((31 * hv) + (-1003))) + 0) i)) + (-1))])), (m11, .inl (cJ, 80, .inr (.inl ll))), (m12, .inl (cI, 48, .inl fl))] := hD
      refine lv_i2l (v := -1) hx hb dX7_mixOpen_48 (by decide) ?_
      refine xc_v (wc := [(h0, .inr (7, [.int 0, .ref m1, .int 0, .ref m2, .ref m3, .ref m4, .ref m5, .int 0, .int 0, .ref m6, .int 0, .int 0, .int 0, .int 0, .ref m7, .int 0, .int 0, .int 0, .int 0, .ref m8, .ref m9, .ref m10, .int 1, .ref m11, .ref m12, .ref m13, .long ((31 * (dk ((31 * ((31 * hv) + (-1003))) + 0) i)) + (-1))]))]) (wr := [(m11, .inl (cJ, 80, .inr (.inl ll))), (m12, .inl (cI, 48, .inl fl))]) (xrV (n := 1) (As := [.long (-1)]) (rest := []) (ci := 7) (q0 := 0) hd hK hP hD (c_X7_mix l D cI cJ cZ cR _ h0 m1 m2 m3 m4 m5 m6 m7 m8 m9 m10 m11 m12 m13 ((31 * (dk ((31 * ((31 * hv) + (-1003))) + 0) i)) + (-1)) 1 (-1) ) (gV t_863 mV_X7_mix) hV_X7_mix ⟨(Nat.le_of_ble_eq_true rfl), (Nat.le_of_ble_eq_true rfl)⟩ rfl rfl [0] rfl rfl rfl hl.1 rfl (Nat.le_of_ble_eq_true rfl) dX7_mixOpen_49 ⟨(Nat.le_of_ble_eq_true rfl), (Nat.le_of_ble_eq_true rfl)⟩) hP hD hS hA [0] [1, 2] rfl rfl rfl (by decide) (fun u_29 H locs hw_30 hP hD hS => ?_)
      have hP : va_P D vwCl [(m11, .inl (cJ, 80, .inr (.inl ll))), (m12, .inl (cI, 48, .inl fl)), (h0, .inr (7, [.int 0, .ref m1, .int 0, .ref m2, .ref m3, .ref m4, .ref m5, .int 0, .int 0, .ref m6, .int 0, .int 0, .int 0, .int 0, .ref m7, .int 0, .int 0, .int 0, .int 0, .ref m8, .ref m9, .ref m10, .int 1, .ref m11, .ref m12, .ref m13, .long ((31 * ((31 * (dk ((31 * ((31 * hv) + (-1003))) + 0) i)) + (-1))) + (-1))]))] H := hP
      have hD : va_D A [(m11, .inl (cJ, 80, .inr (.inl ll))), (m12, .inl (cI, 48, .inl fl)), (h0, .inr (7, [.int 0, .ref m1, .int 0, .ref m2, .ref m3, .ref m4, .ref m5, .int 0, .int 0, .ref m6, .int 0, .int 0, .int 0, .int 0, .ref m7, .int 0, .int 0, .int 0, .int 0, .ref m8, .ref m9, .ref m10, .int 1, .ref m11, .ref m12, .ref m13, .long ((31 * ((31 * (dk ((31 * ((31 * hv) + (-1003))) + 0) i)) + (-1))) + (-1))]))] := hD
      refine lv_iinc (v := nI (i + 1)) (lv' := [(2, .int (nI (i + 1))), (0, .ref h0), (1, .int (nI a))]) hx hb dX7_mixOpen_52 hl (k := 2) rfl (nI_1 i) (by decide) rfl (fun ls hl => ?_)
      refine lv_goto (tgt := 22) hx hb dX7_mixOpen_55 (by decide) ?_
      exact ih_22 (i + 1) (by omega) _ _ _ (hP.sub [0, 1, 2] rfl) (hD.sub [0, 1, 2] rfl rfl) hS (lv_sub hl [1, 2, 0] rfl)
  exact LOOP_22 16 0 (by omega) _ _ _ (hP.sub [0, 1, 2] rfl) (hD.sub [0, 1, 2] rfl rfl) hS (lv_sub hl [1, 2, 0] rfl)
end
