theorem mV_X7_altered : Cond.instanceMethod yX7_altered ∈ gT ∧ Cond.selects RX7 yX7_altered yX7_altered ∈ gT ∧ Cond.initialized RX7 ∈ gT ∧ Cond.code yX7_altered cX7_altered 1 none ∈ gT := ⟨t_679, ts_32, t_8, t_680⟩
theorem hV_X7_altered : yX7_altered.cls = RX7 ∧ yX7_altered.cls ≠ "java/lang/invoke/MethodHandle" ∧ yX7_altered.cls ≠ "java/lang/invoke/VarHandle" ∧ (parseMethodDescriptor yX7_altered.desc).map (fun d => d.parameters.length) = some 0 := by decide +kernel
theorem mV_X7_isRule : Cond.instanceMethod yX7_isRule ∈ gT ∧ Cond.selects RX7 yX7_isRule yX7_isRule ∈ gT ∧ Cond.initialized RX7 ∈ gT ∧ Cond.code yX7_isRule cX7_isRule 2 (some .boolean) ∈ gT := ⟨t_687, ts_33, t_8, t_688⟩
theorem hV_X7_isRule : yX7_isRule.cls = RX7 ∧ yX7_isRule.cls ≠ "java/lang/invoke/MethodHandle" ∧ yX7_isRule.cls ≠ "java/lang/invoke/VarHandle" ∧ (parseMethodDescriptor yX7_isRule.desc).map (fun d => d.parameters.length) = some 1 := by decide +kernel
theorem mV_X7_isEdge : Cond.instanceMethod yX7_isEdge ∈ gT ∧ Cond.selects RX7 yX7_isEdge yX7_isEdge ∈ gT ∧ Cond.initialized RX7 ∈ gT ∧ Cond.code yX7_isEdge cX7_isEdge 2 (some .boolean) ∈ gT := ⟨t_711, ts_35, t_8, t_712⟩
theorem hV_X7_isEdge : yX7_isEdge.cls = RX7 ∧ yX7_isEdge.cls ≠ "java/lang/invoke/MethodHandle" ∧ yX7_isEdge.cls ≠ "java/lang/invoke/VarHandle" ∧ (parseMethodDescriptor yX7_isEdge.desc).map (fun d => d.parameters.length) = some 1 := by decide +kernel
theorem mV_X7_rule : Cond.instanceMethod yX7_rule ∈ gT ∧ Cond.selects RX7 yX7_rule yX7_rule ∈ gT ∧ Cond.initialized RX7 ∈ gT ∧ Cond.code yX7_rule cX7_rule 3 (some .int) ∈ gT := ⟨t_664, t_665, t_8, t_666⟩
theorem hV_X7_rule : yX7_rule.cls = RX7 ∧ yX7_rule.cls ≠ "java/lang/invoke/MethodHandle" ∧ yX7_rule.cls ≠ "java/lang/invoke/VarHandle" ∧ (parseMethodDescriptor yX7_rule.desc).map (fun d => d.parameters.length) = some 0 := by decide +kernel
theorem mV_X7_drop : Cond.instanceMethod yX7_drop ∈ gT ∧ Cond.selects RX7 yX7_drop yX7_drop ∈ gT ∧ Cond.initialized RX7 ∈ gT ∧ Cond.code yX7_drop cX7_drop 4 (some .int) ∈ gT := ⟨t_682, t_683, t_8, t_684⟩
theorem hV_X7_drop : yX7_drop.cls = RX7 ∧ yX7_drop.cls ≠ "java/lang/invoke/MethodHandle" ∧ yX7_drop.cls ≠ "java/lang/invoke/VarHandle" ∧ (parseMethodDescriptor yX7_drop.desc).map (fun d => d.parameters.length) = some 1 := by decide +kernel
theorem mV_X7_graph : Cond.instanceMethod yX7_graph ∈ gT ∧ Cond.selects RX7 yX7_graph yX7_graph ∈ gT ∧ Cond.initialized RX7 ∈ gT ∧ Cond.code yX7_graph cX7_graph 3 (some .int) ∈ gT := ⟨t_690, t_691, t_8, t_692⟩
theorem hV_X7_graph : yX7_graph.cls = RX7 ∧ yX7_graph.cls ≠ "java/lang/invoke/MethodHandle" ∧ yX7_graph.cls ≠ "java/lang/invoke/VarHandle" ∧ (parseMethodDescriptor yX7_graph.desc).map (fun d => d.parameters.length) = some 0 := by decide +kernel
theorem mV_X7_ruleNow : Cond.instanceMethod yX7_ruleNow ∈ gT ∧ Cond.selects RX7 yX7_ruleNow yX7_ruleNow ∈ gT ∧ Cond.initialized RX7 ∈ gT ∧ Cond.code yX7_ruleNow cX7_ruleNow 3 (some .int) ∈ gT := ⟨t_699, ts_34, t_8, t_700⟩
theorem hV_X7_ruleNow : yX7_ruleNow.cls = RX7 ∧ yX7_ruleNow.cls ≠ "java/lang/invoke/MethodHandle" ∧ yX7_ruleNow.cls ≠ "java/lang/invoke/VarHandle" ∧ (parseMethodDescriptor yX7_ruleNow.desc).map (fun d => d.parameters.length) = some 2 := by decide +kernel
theorem mV_X7_of : Cond.instanceMethod yX7_of ∈ gT ∧ Cond.selects RX7 yX7_of yX7_of ∈ gT ∧ Cond.initialized RX7 ∈ gT ∧ Cond.code yX7_of cX7_of 3 (some .int) ∈ gT := ⟨t_694, t_695, t_8, t_696⟩
theorem hV_X7_of : yX7_of.cls = RX7 ∧ yX7_of.cls ≠ "java/lang/invoke/MethodHandle" ∧ yX7_of.cls ≠ "java/lang/invoke/VarHandle" ∧ (parseMethodDescriptor yX7_of.desc).map (fun d => d.parameters.length) = some 2 := by decide +kernel
theorem mV_X7_begin : Cond.instanceMethod yX7_begin ∈ gT ∧ Cond.selects RX7 yX7_begin yX7_begin ∈ gT ∧ Cond.initialized RX7 ∈ gT ∧ Cond.code yX7_begin cX7_begin 2 (some .int) ∈ gT := ⟨t_702, t_703, t_8, t_704⟩
theorem hV_X7_begin : yX7_begin.cls = RX7 ∧ yX7_begin.cls ≠ "java/lang/invoke/MethodHandle" ∧ yX7_begin.cls ≠ "java/lang/invoke/VarHandle" ∧ (parseMethodDescriptor yX7_begin.desc).map (fun d => d.parameters.length) = some 1 := by decide +kernel
theorem dX7_altered_0 : decode cX7_altered 0 = .ok (.aload_n 0, 1) := by decide +kernel
theorem dX7_altered_1 : decode cX7_altered 1 = .ok (.iconst 0, 1) := by decide +kernel
theorem dX7_altered_2 : decode cX7_altered 2 = .ok (.putfield 159, 3) := by decide +kernel
theorem dX7_altered_5 : decode cX7_altered 5 = .ok (.aload_n 0, 1) := by decide +kernel
theorem dX7_altered_6 : decode cX7_altered 6 = .ok (.iconst 0, 1) := by decide +kernel
theorem dX7_altered_7 : decode cX7_altered 7 = .ok (.putfield 163, 3) := by decide +kernel
theorem dX7_altered_10 : decode cX7_altered 10 = .ok (.return_, 1) := by decide +kernel
theorem dX7_begin_0 : decode cX7_begin 0 = .ok (.iload_n 1, 1) := by decide +kernel
theorem dX7_begin_1 : decode cX7_begin 1 = .ok (.iconst 0, 1) := by decide +kernel
theorem dX7_begin_2 : decode cX7_begin 2 = .ok (.iconst 2, 1) := by decide +kernel
theorem dX7_begin_3 : decode cX7_begin 3 = .ok (.invokestatic 50, 3) := by decide +kernel
theorem dX7_begin_6 : decode cX7_begin 6 = .ok (.ifCond .ne 7, 3) := by decide +kernel
theorem dX7_begin_9 : decode cX7_begin 9 = .ok (.sipush (-1001), 3) := by decide +kernel
theorem dX7_begin_12 : decode cX7_begin 12 = .ok (.ireturn, 1) := by decide +kernel
theorem dX7_begin_13 : decode cX7_begin 13 = .ok (.aload_n 0, 1) := by decide +kernel
theorem dX7_begin_14 : decode cX7_begin 14 = .ok (.iconst 1, 1) := by decide +kernel
theorem dX7_begin_15 : decode cX7_begin 15 = .ok (.putfield 108, 3) := by decide +kernel
theorem dX7_begin_18 : decode cX7_begin 18 = .ok (.aload_n 0, 1) := by decide +kernel
theorem dX7_begin_19 : decode cX7_begin 19 = .ok (.iconst 2, 1) := by decide +kernel
theorem dX7_begin_20 : decode cX7_begin 20 = .ok (.putfield 111, 3) := by decide +kernel
theorem dX7_begin_23 : decode cX7_begin 23 = .ok (.aload_n 0, 1) := by decide +kernel
theorem dX7_begin_24 : decode cX7_begin 24 = .ok (.getfield 25, 3) := by decide +kernel
theorem dX7_begin_27 : decode cX7_begin 27 = .ok (.iconst 0, 1) := by decide +kernel
theorem dX7_begin_28 : decode cX7_begin 28 = .ok (.bipush 100, 2) := by decide +kernel
theorem dX7_begin_30 : decode cX7_begin 30 = .ok (.iload_n 1, 1) := by decide +kernel
theorem dX7_begin_31 : decode cX7_begin 31 = .ok (.imul, 1) := by decide +kernel
theorem dX7_begin_32 : decode cX7_begin 32 = .ok (.iconst 1, 1) := by decide +kernel
theorem dX7_begin_33 : decode cX7_begin 33 = .ok (.iadd, 1) := by decide +kernel
theorem dX7_begin_34 : decode cX7_begin 34 = .ok (.iastore, 1) := by decide +kernel
theorem dX7_begin_35 : decode cX7_begin 35 = .ok (.aload_n 0, 1) := by decide +kernel
theorem dX7_begin_36 : decode cX7_begin 36 = .ok (.iconst 0, 1) := by decide +kernel
theorem dX7_begin_37 : decode cX7_begin 37 = .ok (.putfield 114, 3) := by decide +kernel
theorem dX7_begin_40 : decode cX7_begin 40 = .ok (.aload_n 0, 1) := by decide +kernel
theorem dX7_begin_41 : decode cX7_begin 41 = .ok (.dup, 1) := by decide +kernel
theorem dX7_begin_42 : decode cX7_begin 42 = .ok (.getfield 117, 3) := by decide +kernel
theorem dX7_begin_45 : decode cX7_begin 45 = .ok (.iconst 1, 1) := by decide +kernel
theorem dX7_begin_46 : decode cX7_begin 46 = .ok (.iadd, 1) := by decide +kernel
theorem dX7_begin_47 : decode cX7_begin 47 = .ok (.putfield 117, 3) := by decide +kernel
theorem dX7_begin_50 : decode cX7_begin 50 = .ok (.aload_n 0, 1) := by decide +kernel
theorem dX7_begin_51 : decode cX7_begin 51 = .ok (.invokevirtual 101, 3) := by decide +kernel
theorem dX7_begin_54 : decode cX7_begin 54 = .ok (.iconst 1, 1) := by decide +kernel
theorem dX7_begin_55 : decode cX7_begin 55 = .ok (.ireturn, 1) := by decide +kernel
theorem dX7_drop_0 : decode cX7_drop 0 = .ok (.aload_n 0, 1) := by decide +kernel
theorem dX7_drop_1 : decode cX7_drop 1 = .ok (.iload_n 1, 1) := by decide +kernel
theorem dX7_drop_2 : decode cX7_drop 2 = .ok (.invokevirtual 104, 3) := by decide +kernel
theorem dX7_drop_5 : decode cX7_drop 5 = .ok (.ifCond .ne 7, 3) := by decide +kernel
theorem dX7_drop_8 : decode cX7_drop 8 = .ok (.sipush (-1001), 3) := by decide +kernel
theorem dX7_drop_11 : decode cX7_drop 11 = .ok (.ireturn, 1) := by decide +kernel
theorem dX7_drop_12 : decode cX7_drop 12 = .ok (.aload_n 0, 1) := by decide +kernel
theorem dX7_drop_13 : decode cX7_drop 13 = .ok (.dup, 1) := by decide +kernel
theorem dX7_drop_14 : decode cX7_drop 14 = .ok (.getfield 94, 3) := by decide +kernel
theorem dX7_drop_17 : decode cX7_drop 17 = .ok (.iconst 1, 1) := by decide +kernel
theorem dX7_drop_18 : decode cX7_drop 18 = .ok (.isub, 1) := by decide +kernel
theorem dX7_drop_19 : decode cX7_drop 19 = .ok (.putfield 94, 3) := by decide +kernel
theorem dX7_drop_22 : decode cX7_drop 22 = .ok (.iload_n 1, 1) := by decide +kernel
theorem dX7_drop_23 : decode cX7_drop 23 = .ok (.istore_n 2, 1) := by decide +kernel
theorem dX7_drop_24 : decode cX7_drop 24 = .ok (.iload_n 2, 1) := by decide +kernel
theorem dX7_drop_25 : decode cX7_drop 25 = .ok (.aload_n 0, 1) := by decide +kernel
theorem dX7_drop_26 : decode cX7_drop 26 = .ok (.getfield 94, 3) := by decide +kernel
theorem dX7_drop_29 : decode cX7_drop 29 = .ok (.if_icmp .ge 86, 3) := by decide +kernel
theorem dX7_drop_32 : decode cX7_drop 32 = .ok (.aload_n 0, 1) := by decide +kernel
theorem dX7_drop_33 : decode cX7_drop 33 = .ok (.getfield 13, 3) := by decide +kernel
theorem dX7_drop_36 : decode cX7_drop 36 = .ok (.iload_n 2, 1) := by decide +kernel
theorem dX7_drop_37 : decode cX7_drop 37 = .ok (.aload_n 0, 1) := by decide +kernel
theorem dX7_drop_38 : decode cX7_drop 38 = .ok (.getfield 13, 3) := by decide +kernel
theorem dX7_drop_41 : decode cX7_drop 41 = .ok (.iload_n 2, 1) := by decide +kernel
theorem dX7_drop_42 : decode cX7_drop 42 = .ok (.iconst 1, 1) := by decide +kernel
theorem dX7_drop_43 : decode cX7_drop 43 = .ok (.iadd, 1) := by decide +kernel
theorem dX7_drop_44 : decode cX7_drop 44 = .ok (.iaload, 1) := by decide +kernel
theorem dX7_drop_45 : decode cX7_drop 45 = .ok (.iastore, 1) := by decide +kernel
theorem dX7_drop_46 : decode cX7_drop 46 = .ok (.aload_n 0, 1) := by decide +kernel
theorem dX7_drop_47 : decode cX7_drop 47 = .ok (.getfield 16, 3) := by decide +kernel
theorem dX7_drop_50 : decode cX7_drop 50 = .ok (.iload_n 2, 1) := by decide +kernel
theorem dX7_drop_51 : decode cX7_drop 51 = .ok (.aload_n 0, 1) := by decide +kernel
theorem dX7_drop_52 : decode cX7_drop 52 = .ok (.getfield 16, 3) := by decide +kernel
theorem dX7_drop_55 : decode cX7_drop 55 = .ok (.iload_n 2, 1) := by decide +kernel
theorem dX7_drop_56 : decode cX7_drop 56 = .ok (.iconst 1, 1) := by decide +kernel
theorem dX7_drop_57 : decode cX7_drop 57 = .ok (.iadd, 1) := by decide +kernel
theorem dX7_drop_58 : decode cX7_drop 58 = .ok (.iaload, 1) := by decide +kernel
theorem dX7_drop_59 : decode cX7_drop 59 = .ok (.iastore, 1) := by decide +kernel
theorem dX7_drop_60 : decode cX7_drop 60 = .ok (.aload_n 0, 1) := by decide +kernel
theorem dX7_drop_61 : decode cX7_drop 61 = .ok (.getfield 19, 3) := by decide +kernel
theorem dX7_drop_64 : decode cX7_drop 64 = .ok (.iload_n 2, 1) := by decide +kernel
theorem dX7_drop_65 : decode cX7_drop 65 = .ok (.aload_n 0, 1) := by decide +kernel
theorem dX7_drop_66 : decode cX7_drop 66 = .ok (.getfield 19, 3) := by decide +kernel
theorem dX7_drop_69 : decode cX7_drop 69 = .ok (.iload_n 2, 1) := by decide +kernel
theorem dX7_drop_70 : decode cX7_drop 70 = .ok (.iconst 1, 1) := by decide +kernel
theorem dX7_drop_71 : decode cX7_drop 71 = .ok (.iadd, 1) := by decide +kernel
theorem dX7_drop_72 : decode cX7_drop 72 = .ok (.iaload, 1) := by decide +kernel
theorem dX7_drop_73 : decode cX7_drop 73 = .ok (.iastore, 1) := by decide +kernel
theorem dX7_drop_74 : decode cX7_drop 74 = .ok (.iconst 0, 1) := by decide +kernel
theorem dX7_drop_75 : decode cX7_drop 75 = .ok (.istore_n 3, 1) := by decide +kernel
theorem dX7_drop_76 : decode cX7_drop 76 = .ok (.iload_n 3, 1) := by decide +kernel
theorem dX7_drop_77 : decode cX7_drop 77 = .ok (.iconst 3, 1) := by decide +kernel
theorem dX7_drop_78 : decode cX7_drop 78 = .ok (.if_icmp .ge 31, 3) := by decide +kernel
theorem dX7_drop_81 : decode cX7_drop 81 = .ok (.aload_n 0, 1) := by decide +kernel
theorem dX7_drop_82 : decode cX7_drop 82 = .ok (.getfield 22, 3) := by decide +kernel
theorem dX7_drop_85 : decode cX7_drop 85 = .ok (.iconst 3, 1) := by decide +kernel
theorem dX7_drop_86 : decode cX7_drop 86 = .ok (.iload_n 2, 1) := by decide +kernel
theorem dX7_drop_87 : decode cX7_drop 87 = .ok (.imul, 1) := by decide +kernel
theorem dX7_drop_88 : decode cX7_drop 88 = .ok (.iload_n 3, 1) := by decide +kernel
theorem dX7_drop_89 : decode cX7_drop 89 = .ok (.iadd, 1) := by decide +kernel
theorem dX7_drop_90 : decode cX7_drop 90 = .ok (.aload_n 0, 1) := by decide +kernel
theorem dX7_drop_91 : decode cX7_drop 91 = .ok (.getfield 22, 3) := by decide +kernel
theorem dX7_drop_94 : decode cX7_drop 94 = .ok (.iconst 3, 1) := by decide +kernel
theorem dX7_drop_95 : decode cX7_drop 95 = .ok (.iload_n 2, 1) := by decide +kernel
theorem dX7_drop_96 : decode cX7_drop 96 = .ok (.imul, 1) := by decide +kernel
theorem dX7_drop_97 : decode cX7_drop 97 = .ok (.iconst 3, 1) := by decide +kernel
theorem dX7_drop_98 : decode cX7_drop 98 = .ok (.iadd, 1) := by decide +kernel
theorem dX7_drop_99 : decode cX7_drop 99 = .ok (.iload_n 3, 1) := by decide +kernel
theorem dX7_drop_100 : decode cX7_drop 100 = .ok (.iadd, 1) := by decide +kernel
theorem dX7_drop_101 : decode cX7_drop 101 = .ok (.iaload, 1) := by decide +kernel
theorem dX7_drop_102 : decode cX7_drop 102 = .ok (.iastore, 1) := by decide +kernel
theorem dX7_drop_103 : decode cX7_drop 103 = .ok (.iinc 3 1, 3) := by decide +kernel
theorem dX7_drop_106 : decode cX7_drop 106 = .ok (.goto (-30), 3) := by decide +kernel
theorem dX7_drop_109 : decode cX7_drop 109 = .ok (.iinc 2 1, 3) := by decide +kernel
theorem dX7_drop_112 : decode cX7_drop 112 = .ok (.goto (-88), 3) := by decide +kernel
theorem dX7_drop_115 : decode cX7_drop 115 = .ok (.aload_n 0, 1) := by decide +kernel
theorem dX7_drop_116 : decode cX7_drop 116 = .ok (.invokevirtual 101, 3) := by decide +kernel
theorem dX7_drop_119 : decode cX7_drop 119 = .ok (.aload_n 0, 1) := by decide +kernel
theorem dX7_drop_120 : decode cX7_drop 120 = .ok (.getfield 94, 3) := by decide +kernel
theorem dX7_drop_123 : decode cX7_drop 123 = .ok (.ireturn, 1) := by decide +kernel
theorem dX7_graph_0 : decode cX7_graph 0 = .ok (.aload_n 0, 1) := by decide +kernel
theorem dX7_graph_1 : decode cX7_graph 1 = .ok (.iconst 1, 1) := by decide +kernel
theorem dX7_graph_2 : decode cX7_graph 2 = .ok (.invokevirtual 86, 3) := by decide +kernel
theorem dX7_graph_5 : decode cX7_graph 5 = .ok (.ifCond .eq 15, 3) := by decide +kernel
theorem dX7_graph_8 : decode cX7_graph 8 = .ok (.aload_n 0, 1) := by decide +kernel
theorem dX7_graph_9 : decode cX7_graph 9 = .ok (.getfield 71, 3) := by decide +kernel
theorem dX7_graph_12 : decode cX7_graph 12 = .ok (.iconst 3, 1) := by decide +kernel
theorem dX7_graph_13 : decode cX7_graph 13 = .ok (.ior, 1) := by decide +kernel
theorem dX7_graph_14 : decode cX7_graph 14 = .ok (.invokestatic 97, 3) := by decide +kernel
theorem dX7_graph_17 : decode cX7_graph 17 = .ok (.goto 4, 3) := by decide +kernel
theorem dX7_graph_20 : decode cX7_graph 20 = .ok (.iconst 0, 1) := by decide +kernel
theorem dX7_graph_21 : decode cX7_graph 21 = .ok (.istore_n 1, 1) := by decide +kernel
theorem dX7_graph_22 : decode cX7_graph 22 = .ok (.iload_n 1, 1) := by decide +kernel
theorem dX7_graph_23 : decode cX7_graph 23 = .ok (.ifCond .eq 17, 3) := by decide +kernel
theorem dX7_graph_26 : decode cX7_graph 26 = .ok (.aload_n 0, 1) := by decide +kernel
theorem dX7_graph_27 : decode cX7_graph 27 = .ok (.getfield 71, 3) := by decide +kernel
theorem dX7_graph_30 : decode cX7_graph 30 = .ok (.iconst 3, 1) := by decide +kernel
theorem dX7_graph_31 : decode cX7_graph 31 = .ok (.ior, 1) := by decide +kernel
theorem dX7_graph_32 : decode cX7_graph 32 = .ok (.iconst 1, 1) := by decide +kernel
theorem dX7_graph_33 : decode cX7_graph 33 = .ok (.iload_n 1, 1) := by decide +kernel
theorem dX7_graph_34 : decode cX7_graph 34 = .ok (.ishl, 1) := by decide +kernel
theorem dX7_graph_35 : decode cX7_graph 35 = .ok (.iconst 1, 1) := by decide +kernel
theorem dX7_graph_36 : decode cX7_graph 36 = .ok (.isub, 1) := by decide +kernel
theorem dX7_graph_37 : decode cX7_graph 37 = .ok (.if_icmp .eq 7, 3) := by decide +kernel
theorem dX7_graph_40 : decode cX7_graph 40 = .ok (.sipush (-1003), 3) := by decide +kernel
theorem dX7_graph_43 : decode cX7_graph 43 = .ok (.ireturn, 1) := by decide +kernel
theorem dX7_graph_44 : decode cX7_graph 44 = .ok (.aload_n 0, 1) := by decide +kernel
theorem dX7_graph_45 : decode cX7_graph 45 = .ok (.aload_n 0, 1) := by decide +kernel
theorem dX7_graph_46 : decode cX7_graph 46 = .ok (.getfield 68, 3) := by decide +kernel
theorem dX7_graph_49 : decode cX7_graph 49 = .ok (.putfield 108, 3) := by decide +kernel
theorem dX7_graph_52 : decode cX7_graph 52 = .ok (.aload_n 0, 1) := by decide +kernel
theorem dX7_graph_53 : decode cX7_graph 53 = .ok (.iload_n 1, 1) := by decide +kernel
theorem dX7_graph_54 : decode cX7_graph 54 = .ok (.putfield 111, 3) := by decide +kernel
theorem dX7_graph_57 : decode cX7_graph 57 = .ok (.iconst 0, 1) := by decide +kernel
theorem dX7_graph_58 : decode cX7_graph 58 = .ok (.istore_n 2, 1) := by decide +kernel
theorem dX7_graph_59 : decode cX7_graph 59 = .ok (.iload_n 2, 1) := by decide +kernel
theorem dX7_graph_60 : decode cX7_graph 60 = .ok (.aload_n 0, 1) := by decide +kernel
theorem dX7_graph_61 : decode cX7_graph 61 = .ok (.getfield 68, 3) := by decide +kernel
theorem dX7_graph_64 : decode cX7_graph 64 = .ok (.if_icmp .ge 21, 3) := by decide +kernel
theorem dX7_graph_67 : decode cX7_graph 67 = .ok (.aload_n 0, 1) := by decide +kernel
theorem dX7_graph_68 : decode cX7_graph 68 = .ok (.getfield 25, 3) := by decide +kernel
theorem dX7_graph_71 : decode cX7_graph 71 = .ok (.iload_n 2, 1) := by decide +kernel
theorem dX7_graph_72 : decode cX7_graph 72 = .ok (.aload_n 0, 1) := by decide +kernel
theorem dX7_graph_73 : decode cX7_graph 73 = .ok (.getfield 28, 3) := by decide +kernel
theorem dX7_graph_76 : decode cX7_graph 76 = .ok (.iload_n 2, 1) := by decide +kernel
theorem dX7_graph_77 : decode cX7_graph 77 = .ok (.iaload, 1) := by decide +kernel
theorem dX7_graph_78 : decode cX7_graph 78 = .ok (.iastore, 1) := by decide +kernel
theorem dX7_graph_79 : decode cX7_graph 79 = .ok (.iinc 2 1, 3) := by decide +kernel
theorem dX7_graph_82 : decode cX7_graph 82 = .ok (.goto (-23), 3) := by decide +kernel
theorem dX7_graph_85 : decode cX7_graph 85 = .ok (.aload_n 0, 1) := by decide +kernel
theorem dX7_graph_86 : decode cX7_graph 86 = .ok (.iconst 0, 1) := by decide +kernel
theorem dX7_graph_87 : decode cX7_graph 87 = .ok (.putfield 114, 3) := by decide +kernel
theorem dX7_graph_90 : decode cX7_graph 90 = .ok (.aload_n 0, 1) := by decide +kernel
theorem dX7_graph_91 : decode cX7_graph 91 = .ok (.dup, 1) := by decide +kernel
theorem dX7_graph_92 : decode cX7_graph 92 = .ok (.getfield 117, 3) := by decide +kernel
theorem dX7_graph_95 : decode cX7_graph 95 = .ok (.iconst 1, 1) := by decide +kernel
theorem dX7_graph_96 : decode cX7_graph 96 = .ok (.iadd, 1) := by decide +kernel
theorem dX7_graph_97 : decode cX7_graph 97 = .ok (.putfield 117, 3) := by decide +kernel
theorem dX7_graph_100 : decode cX7_graph 100 = .ok (.aload_n 0, 1) := by decide +kernel
theorem dX7_graph_101 : decode cX7_graph 101 = .ok (.iconst 0, 1) := by decide +kernel
theorem dX7_graph_102 : decode cX7_graph 102 = .ok (.putfield 54, 3) := by decide +kernel
theorem dX7_graph_105 : decode cX7_graph 105 = .ok (.aload_n 0, 1) := by decide +kernel
theorem dX7_graph_106 : decode cX7_graph 106 = .ok (.invokevirtual 101, 3) := by decide +kernel
theorem dX7_graph_109 : decode cX7_graph 109 = .ok (.aload_n 0, 1) := by decide +kernel
theorem dX7_graph_110 : decode cX7_graph 110 = .ok (.getfield 108, 3) := by decide +kernel
theorem dX7_graph_113 : decode cX7_graph 113 = .ok (.ireturn, 1) := by decide +kernel
theorem dX7_isEdge_0 : decode cX7_isEdge 0 = .ok (.iload_n 1, 1) := by decide +kernel
theorem dX7_isEdge_1 : decode cX7_isEdge 1 = .ok (.iconst 0, 1) := by decide +kernel
theorem dX7_isEdge_2 : decode cX7_isEdge 2 = .ok (.aload_n 0, 1) := by decide +kernel
theorem dX7_isEdge_3 : decode cX7_isEdge 3 = .ok (.getfield 108, 3) := by decide +kernel
theorem dX7_isEdge_6 : decode cX7_isEdge 6 = .ok (.iconst 1, 1) := by decide +kernel
theorem dX7_isEdge_7 : decode cX7_isEdge 7 = .ok (.isub, 1) := by decide +kernel
theorem dX7_isEdge_8 : decode cX7_isEdge 8 = .ok (.invokestatic 50, 3) := by decide +kernel
theorem dX7_isEdge_11 : decode cX7_isEdge 11 = .ok (.ireturn, 1) := by decide +kernel
theorem dX7_isRule_0 : decode cX7_isRule 0 = .ok (.iload_n 1, 1) := by decide +kernel
theorem dX7_isRule_1 : decode cX7_isRule 1 = .ok (.iconst 0, 1) := by decide +kernel
theorem dX7_isRule_2 : decode cX7_isRule 2 = .ok (.aload_n 0, 1) := by decide +kernel
theorem dX7_isRule_3 : decode cX7_isRule 3 = .ok (.getfield 94, 3) := by decide +kernel
theorem dX7_isRule_6 : decode cX7_isRule 6 = .ok (.iconst 1, 1) := by decide +kernel
theorem dX7_isRule_7 : decode cX7_isRule 7 = .ok (.isub, 1) := by decide +kernel
theorem dX7_isRule_8 : decode cX7_isRule 8 = .ok (.invokestatic 50, 3) := by decide +kernel
theorem dX7_isRule_11 : decode cX7_isRule 11 = .ok (.ireturn, 1) := by decide +kernel
theorem dX7_of_0 : decode cX7_of 0 = .ok (.aload_n 0, 1) := by decide +kernel
theorem dX7_of_1 : decode cX7_of 1 = .ok (.iload_n 1, 1) := by decide +kernel
theorem dX7_of_2 : decode cX7_of 2 = .ok (.invokevirtual 104, 3) := by decide +kernel
theorem dX7_of_5 : decode cX7_of 5 = .ok (.ifCond .ne 7, 3) := by decide +kernel
theorem dX7_of_8 : decode cX7_of 8 = .ok (.sipush (-1001), 3) := by decide +kernel
theorem dX7_of_11 : decode cX7_of 11 = .ok (.ireturn, 1) := by decide +kernel
theorem dX7_of_12 : decode cX7_of 12 = .ok (.iload_n 2, 1) := by decide +kernel
theorem dX7_of_13 : decode cX7_of 13 = .ok (.iconst 0, 1) := by decide +kernel
theorem dX7_of_14 : decode cX7_of 14 = .ok (.iconst 2, 1) := by decide +kernel
theorem dX7_of_15 : decode cX7_of 15 = .ok (.invokestatic 50, 3) := by decide +kernel
theorem dX7_of_18 : decode cX7_of 18 = .ok (.ifCond .ne 14, 3) := by decide +kernel
theorem dX7_of_21 : decode cX7_of 21 = .ok (.iload_n 2, 1) := by decide +kernel
theorem dX7_of_22 : decode cX7_of 22 = .ok (.bipush 10, 2) := by decide +kernel
theorem dX7_of_24 : decode cX7_of 24 = .ok (.bipush 12, 2) := by decide +kernel
theorem dX7_of_26 : decode cX7_of 26 = .ok (.invokestatic 50, 3) := by decide +kernel
theorem dX7_of_29 : decode cX7_of 29 = .ok (.ifCond .eq 12, 3) := by decide +kernel
theorem dX7_of_32 : decode cX7_of 32 = .ok (.aload_n 0, 1) := by decide +kernel
theorem dX7_of_33 : decode cX7_of 33 = .ok (.iload_n 1, 1) := by decide +kernel
theorem dX7_of_34 : decode cX7_of 34 = .ok (.iload_n 2, 1) := by decide +kernel
theorem dX7_of_35 : decode cX7_of 35 = .ok (.invokevirtual 120, 3) := by decide +kernel
theorem dX7_of_38 : decode cX7_of 38 = .ok (.goto 6, 3) := by decide +kernel
theorem dX7_of_41 : decode cX7_of 41 = .ok (.sipush (-1002), 3) := by decide +kernel
theorem dX7_of_44 : decode cX7_of 44 = .ok (.ireturn, 1) := by decide +kernel
theorem dX7_rule_0 : decode cX7_rule 0 = .ok (.aload_n 0, 1) := by decide +kernel
theorem dX7_rule_1 : decode cX7_rule 1 = .ok (.iconst 0, 1) := by decide +kernel
theorem dX7_rule_2 : decode cX7_rule 2 = .ok (.invokevirtual 86, 3) := by decide +kernel
theorem dX7_rule_5 : decode cX7_rule 5 = .ok (.ifCond .eq 39, 3) := by decide +kernel
theorem dX7_rule_8 : decode cX7_rule 8 = .ok (.aload_n 0, 1) := by decide +kernel
theorem dX7_rule_9 : decode cX7_rule 9 = .ok (.getfield 71, 3) := by decide +kernel
theorem dX7_rule_12 : decode cX7_rule 12 = .ok (.iconst 3, 1) := by decide +kernel
theorem dX7_rule_13 : decode cX7_rule 13 = .ok (.iand, 1) := by decide +kernel
theorem dX7_rule_14 : decode cX7_rule 14 = .ok (.iconst 3, 1) := by decide +kernel
theorem dX7_rule_15 : decode cX7_rule 15 = .ok (.if_icmp .ne 29, 3) := by decide +kernel
theorem dX7_rule_18 : decode cX7_rule 18 = .ok (.aload_n 0, 1) := by decide +kernel
theorem dX7_rule_19 : decode cX7_rule 19 = .ok (.getfield 71, 3) := by decide +kernel
theorem dX7_rule_22 : decode cX7_rule 22 = .ok (.iconst 3, 1) := by decide +kernel
theorem dX7_rule_23 : decode cX7_rule 23 = .ok (.invokestatic 90, 3) := by decide +kernel
theorem dX7_rule_26 : decode cX7_rule 26 = .ok (.ifCond .eq 14, 3) := by decide +kernel
theorem dX7_rule_29 : decode cX7_rule 29 = .ok (.aload_n 0, 1) := by decide +kernel
theorem dX7_rule_30 : decode cX7_rule 30 = .ok (.getfield 71, 3) := by decide +kernel
theorem dX7_rule_33 : decode cX7_rule 33 = .ok (.iconst 2, 1) := by decide +kernel
theorem dX7_rule_34 : decode cX7_rule 34 = .ok (.invokestatic 90, 3) := by decide +kernel
theorem dX7_rule_37 : decode cX7_rule 37 = .ok (.ifCond .eq 7, 3) := by decide +kernel
theorem dX7_rule_40 : decode cX7_rule 40 = .ok (.iconst 1, 1) := by decide +kernel
theorem dX7_rule_41 : decode cX7_rule 41 = .ok (.goto 4, 3) := by decide +kernel
theorem dX7_rule_44 : decode cX7_rule 44 = .ok (.iconst 0, 1) := by decide +kernel
theorem dX7_rule_45 : decode cX7_rule 45 = .ok (.istore_n 1, 1) := by decide +kernel
theorem dX7_rule_46 : decode cX7_rule 46 = .ok (.iload_n 1, 1) := by decide +kernel
theorem dX7_rule_47 : decode cX7_rule 47 = .ok (.ifCond .ne 7, 3) := by decide +kernel
theorem dX7_rule_50 : decode cX7_rule 50 = .ok (.sipush (-1003), 3) := by decide +kernel
theorem dX7_rule_53 : decode cX7_rule 53 = .ok (.ireturn, 1) := by decide +kernel
theorem dX7_rule_54 : decode cX7_rule 54 = .ok (.aload_n 0, 1) := by decide +kernel
theorem dX7_rule_55 : decode cX7_rule 55 = .ok (.getfield 94, 3) := by decide +kernel
theorem dX7_rule_58 : decode cX7_rule 58 = .ok (.bipush 9, 2) := by decide +kernel
theorem dX7_rule_60 : decode cX7_rule 60 = .ok (.if_icmp .ne 7, 3) := by decide +kernel
theorem dX7_rule_63 : decode cX7_rule 63 = .ok (.sipush (-1004), 3) := by decide +kernel
theorem dX7_rule_66 : decode cX7_rule 66 = .ok (.ireturn, 1) := by decide +kernel
theorem dX7_rule_67 : decode cX7_rule 67 = .ok (.aload_n 0, 1) := by decide +kernel
theorem dX7_rule_68 : decode cX7_rule 68 = .ok (.getfield 13, 3) := by decide +kernel
theorem dX7_rule_71 : decode cX7_rule 71 = .ok (.aload_n 0, 1) := by decide +kernel
theorem dX7_rule_72 : decode cX7_rule 72 = .ok (.getfield 94, 3) := by decide +kernel
theorem dX7_rule_75 : decode cX7_rule 75 = .ok (.aload_n 0, 1) := by decide +kernel
theorem dX7_rule_76 : decode cX7_rule 76 = .ok (.getfield 7, 3) := by decide +kernel
theorem dX7_rule_79 : decode cX7_rule 79 = .ok (.iconst 0, 1) := by decide +kernel
theorem dX7_rule_80 : decode cX7_rule 80 = .ok (.iaload, 1) := by decide +kernel
theorem dX7_rule_81 : decode cX7_rule 81 = .ok (.bipush 65, 2) := by decide +kernel
theorem dX7_rule_83 : decode cX7_rule 83 = .ok (.isub, 1) := by decide +kernel
theorem dX7_rule_84 : decode cX7_rule 84 = .ok (.iastore, 1) := by decide +kernel
theorem dX7_rule_85 : decode cX7_rule 85 = .ok (.aload_n 0, 1) := by decide +kernel
theorem dX7_rule_86 : decode cX7_rule 86 = .ok (.getfield 16, 3) := by decide +kernel
theorem dX7_rule_89 : decode cX7_rule 89 = .ok (.aload_n 0, 1) := by decide +kernel
theorem dX7_rule_90 : decode cX7_rule 90 = .ok (.getfield 94, 3) := by decide +kernel
theorem dX7_rule_93 : decode cX7_rule 93 = .ok (.aload_n 0, 1) := by decide +kernel
theorem dX7_rule_94 : decode cX7_rule 94 = .ok (.getfield 68, 3) := by decide +kernel
theorem dX7_rule_97 : decode cX7_rule 97 = .ok (.iastore, 1) := by decide +kernel
theorem dX7_rule_98 : decode cX7_rule 98 = .ok (.aload_n 0, 1) := by decide +kernel
theorem dX7_rule_99 : decode cX7_rule 99 = .ok (.getfield 19, 3) := by decide +kernel
theorem dX7_rule_102 : decode cX7_rule 102 = .ok (.aload_n 0, 1) := by decide +kernel
theorem dX7_rule_103 : decode cX7_rule 103 = .ok (.getfield 94, 3) := by decide +kernel
theorem dX7_rule_106 : decode cX7_rule 106 = .ok (.aload_n 0, 1) := by decide +kernel
theorem dX7_rule_107 : decode cX7_rule 107 = .ok (.getfield 71, 3) := by decide +kernel
theorem dX7_rule_110 : decode cX7_rule 110 = .ok (.invokestatic 97, 3) := by decide +kernel
theorem dX7_rule_113 : decode cX7_rule 113 = .ok (.iastore, 1) := by decide +kernel
theorem dX7_rule_114 : decode cX7_rule 114 = .ok (.iconst 0, 1) := by decide +kernel
theorem dX7_rule_115 : decode cX7_rule 115 = .ok (.istore_n 2, 1) := by decide +kernel
theorem dX7_rule_116 : decode cX7_rule 116 = .ok (.iload_n 2, 1) := by decide +kernel
theorem dX7_rule_117 : decode cX7_rule 117 = .ok (.aload_n 0, 1) := by decide +kernel
theorem dX7_rule_118 : decode cX7_rule 118 = .ok (.getfield 68, 3) := by decide +kernel
theorem dX7_rule_121 : decode cX7_rule 121 = .ok (.if_icmp .ge 28, 3) := by decide +kernel
theorem dX7_rule_124 : decode cX7_rule 124 = .ok (.aload_n 0, 1) := by decide +kernel
theorem dX7_rule_125 : decode cX7_rule 125 = .ok (.getfield 22, 3) := by decide +kernel
theorem dX7_rule_128 : decode cX7_rule 128 = .ok (.iconst 3, 1) := by decide +kernel
theorem dX7_rule_129 : decode cX7_rule 129 = .ok (.aload_n 0, 1) := by decide +kernel
theorem dX7_rule_130 : decode cX7_rule 130 = .ok (.getfield 94, 3) := by decide +kernel
theorem dX7_rule_133 : decode cX7_rule 133 = .ok (.imul, 1) := by decide +kernel
theorem dX7_rule_134 : decode cX7_rule 134 = .ok (.iload_n 2, 1) := by decide +kernel
theorem dX7_rule_135 : decode cX7_rule 135 = .ok (.iadd, 1) := by decide +kernel
theorem dX7_rule_136 : decode cX7_rule 136 = .ok (.aload_n 0, 1) := by decide +kernel
theorem dX7_rule_137 : decode cX7_rule 137 = .ok (.getfield 28, 3) := by decide +kernel
theorem dX7_rule_140 : decode cX7_rule 140 = .ok (.iload_n 2, 1) := by decide +kernel
theorem dX7_rule_141 : decode cX7_rule 141 = .ok (.iaload, 1) := by decide +kernel
theorem dX7_rule_142 : decode cX7_rule 142 = .ok (.iastore, 1) := by decide +kernel
theorem dX7_rule_143 : decode cX7_rule 143 = .ok (.iinc 2 1, 3) := by decide +kernel
theorem dX7_rule_146 : decode cX7_rule 146 = .ok (.goto (-30), 3) := by decide +kernel
theorem dX7_rule_149 : decode cX7_rule 149 = .ok (.aload_n 0, 1) := by decide +kernel
theorem dX7_rule_150 : decode cX7_rule 150 = .ok (.dup, 1) := by decide +kernel
theorem dX7_rule_151 : decode cX7_rule 151 = .ok (.getfield 94, 3) := by decide +kernel
theorem dX7_rule_154 : decode cX7_rule 154 = .ok (.iconst 1, 1) := by decide +kernel
theorem dX7_rule_155 : decode cX7_rule 155 = .ok (.iadd, 1) := by decide +kernel
theorem dX7_rule_156 : decode cX7_rule 156 = .ok (.putfield 94, 3) := by decide +kernel
theorem dX7_rule_159 : decode cX7_rule 159 = .ok (.aload_n 0, 1) := by decide +kernel
theorem dX7_rule_160 : decode cX7_rule 160 = .ok (.iconst 0, 1) := by decide +kernel
theorem dX7_rule_161 : decode cX7_rule 161 = .ok (.putfield 54, 3) := by decide +kernel
theorem dX7_rule_164 : decode cX7_rule 164 = .ok (.aload_n 0, 1) := by decide +kernel
theorem dX7_rule_165 : decode cX7_rule 165 = .ok (.invokevirtual 101, 3) := by decide +kernel
theorem dX7_rule_168 : decode cX7_rule 168 = .ok (.aload_n 0, 1) := by decide +kernel
theorem dX7_rule_169 : decode cX7_rule 169 = .ok (.getfield 94, 3) := by decide +kernel
theorem dX7_rule_172 : decode cX7_rule 172 = .ok (.iconst 1, 1) := by decide +kernel
theorem dX7_rule_173 : decode cX7_rule 173 = .ok (.isub, 1) := by decide +kernel
theorem dX7_rule_174 : decode cX7_rule 174 = .ok (.ireturn, 1) := by decide +kernel
theorem dX7_ruleNow_0 : decode cX7_ruleNow 0 = .ok (.iload_n 2, 1) := by decide +kernel
theorem dX7_ruleNow_1 : decode cX7_ruleNow 1 = .ok (.tableswitch 48 0 2 #[27, 34, 41], 27) := by decide +kernel
theorem dX7_ruleNow_28 : decode cX7_ruleNow 28 = .ok (.aload_n 0, 1) := by decide +kernel
theorem dX7_ruleNow_29 : decode cX7_ruleNow 29 = .ok (.getfield 13, 3) := by decide +kernel
theorem dX7_ruleNow_32 : decode cX7_ruleNow 32 = .ok (.iload_n 1, 1) := by decide +kernel
theorem dX7_ruleNow_33 : decode cX7_ruleNow 33 = .ok (.iaload, 1) := by decide +kernel
theorem dX7_ruleNow_34 : decode cX7_ruleNow 34 = .ok (.ireturn, 1) := by decide +kernel
theorem dX7_ruleNow_35 : decode cX7_ruleNow 35 = .ok (.aload_n 0, 1) := by decide +kernel
theorem dX7_ruleNow_36 : decode cX7_ruleNow 36 = .ok (.getfield 16, 3) := by decide +kernel
theorem dX7_ruleNow_39 : decode cX7_ruleNow 39 = .ok (.iload_n 1, 1) := by decide +kernel
theorem dX7_ruleNow_40 : decode cX7_ruleNow 40 = .ok (.iaload, 1) := by decide +kernel
theorem dX7_ruleNow_41 : decode cX7_ruleNow 41 = .ok (.ireturn, 1) := by decide +kernel
theorem dX7_ruleNow_42 : decode cX7_ruleNow 42 = .ok (.aload_n 0, 1) := by decide +kernel
theorem dX7_ruleNow_43 : decode cX7_ruleNow 43 = .ok (.getfield 19, 3) := by decide +kernel
theorem dX7_ruleNow_46 : decode cX7_ruleNow 46 = .ok (.iload_n 1, 1) := by decide +kernel
theorem dX7_ruleNow_47 : decode cX7_ruleNow 47 = .ok (.iaload, 1) := by decide +kernel
theorem dX7_ruleNow_48 : decode cX7_ruleNow 48 = .ok (.ireturn, 1) := by decide +kernel
theorem dX7_ruleNow_49 : decode cX7_ruleNow 49 = .ok (.iload_n 2, 1) := by decide +kernel
theorem dX7_ruleNow_50 : decode cX7_ruleNow 50 = .ok (.bipush 10, 2) := by decide +kernel
theorem dX7_ruleNow_52 : decode cX7_ruleNow 52 = .ok (.isub, 1) := by decide +kernel
theorem dX7_ruleNow_53 : decode cX7_ruleNow 53 = .ok (.aload_n 0, 1) := by decide +kernel
theorem dX7_ruleNow_54 : decode cX7_ruleNow 54 = .ok (.getfield 16, 3) := by decide +kernel
theorem dX7_ruleNow_57 : decode cX7_ruleNow 57 = .ok (.iload_n 1, 1) := by decide +kernel
theorem dX7_ruleNow_58 : decode cX7_ruleNow 58 = .ok (.iaload, 1) := by decide +kernel
theorem dX7_ruleNow_59 : decode cX7_ruleNow 59 = .ok (.if_icmp .ge 19, 3) := by decide +kernel
theorem dX7_ruleNow_62 : decode cX7_ruleNow 62 = .ok (.aload_n 0, 1) := by decide +kernel
theorem dX7_ruleNow_63 : decode cX7_ruleNow 63 = .ok (.getfield 22, 3) := by decide +kernel
theorem dX7_ruleNow_66 : decode cX7_ruleNow 66 = .ok (.iconst 3, 1) := by decide +kernel
theorem dX7_ruleNow_67 : decode cX7_ruleNow 67 = .ok (.iload_n 1, 1) := by decide +kernel
theorem dX7_ruleNow_68 : decode cX7_ruleNow 68 = .ok (.imul, 1) := by decide +kernel
theorem dX7_ruleNow_69 : decode cX7_ruleNow 69 = .ok (.iload_n 2, 1) := by decide +kernel
theorem dX7_ruleNow_70 : decode cX7_ruleNow 70 = .ok (.iadd, 1) := by decide +kernel
theorem dX7_ruleNow_71 : decode cX7_ruleNow 71 = .ok (.bipush 10, 2) := by decide +kernel
theorem dX7_ruleNow_73 : decode cX7_ruleNow 73 = .ok (.isub, 1) := by decide +kernel
theorem dX7_ruleNow_74 : decode cX7_ruleNow 74 = .ok (.iaload, 1) := by decide +kernel
theorem dX7_ruleNow_75 : decode cX7_ruleNow 75 = .ok (.goto 4, 3) := by decide +kernel
theorem dX7_ruleNow_78 : decode cX7_ruleNow 78 = .ok (.iconst (-1), 1) := by decide +kernel
theorem dX7_ruleNow_79 : decode cX7_ruleNow 79 = .ok (.ireturn, 1) := by decide +kernel
section
variable (l : Launch) (D : va_G) (cI cJ cZ cR : ClassId)
set_option maxHeartbeats 4000000 in
set_option maxRecDepth 100000 in
theorem c_X7_altered (sz : Nat) (m0 : Nat) (m1 : Nat) (m2 : Nat) (m3 : Nat) (m4 : Nat) (m5 : Nat) (m6 : Nat) (m7 : Nat) (m8 : Nat) (m9 : Nat) (m10 : Nat) (m11 : Nat) (m12 : Nat) (m13 : Nat) (z : Nat) (r9 : Nat) (n9 : Nat) (v : Nat) (k1 : Int32) (k2 : Int32) (k3 : Int32) (k4 : Int32) (k5 : Int32) (k6 : Int32) (k7 : Int32) (k8 : Int32) (k9 : Int32) (hv : Int64)  : CTv l D cI cJ cZ cR yX7_altered cX7_altered 1 none 0 0 0 0 sz [.ref m0] [kX7 m0 (nI z) m1 (nI r9) m2 m3 m4 m5 (nI n9) (nI v) m6 k1 k2 k3 k4 m7 k5 k6 k7 k8 m8 m9 m10 k9 m11 m12 m13 hv] (fun (u : Unit) => True) (fun (u : Unit) => [kX7 m0 (nI z) m1 (nI r9) m2 m3 m4 m5 (nI n9) (nI v) m6 k1 k2 k3 k4 m7 k5 k6 k7 0 m8 m9 m10 0 m11 m12 m13 hv]) := by
  refine CTv.of (by decide) (Nat.le_of_ble_eq_true rfl) rfl ?_
  intro p e s m below meth c A Q ls hd hin hK hsz hP hD hA hS hl hret
  obtain ⟨hx, hb, hml, hown, hts⟩ := id hd
  have hK1 := hK.1
  have hown : s.vm.findClass RX7 = some m.cls := hown
  have hl : lv_has ls 1 [(0, .ref m0)] := hl
  refine lv_aload_n hx hb dX7_altered_0 rfl (lv_at hl 0 rfl) ?_
  refine lv_iconst (v := 0) hx hb dX7_altered_1 (by decide) ?_
  refine va_put (D := D) (ci := 7) (v := .int 0) (ty := .boolean) (C := RX7) (T := TX7) (N := 27) hx hb hts iT_X7 tyX7 tyX7_ok nmX7 hown hK1 hP hD hS 0 rfl rfl 18 (by decide) (hts _ t_569) (fun _ h9 => h9) rfl (by decide +kernel) rfl rfl (Nat.le_of_ble_eq_true rfl) dX7_altered_2 (fun H locs hP hD hS => ?_)
  have hP : va_P D vwCl [kX7 m0 (nI z) m1 (nI r9) m2 m3 m4 m5 (nI n9) (nI v) m6 k1 k2 k3 k4 m7 k5 k6 k7 0 m8 m9 m10 k9 m11 m12 m13 hv] H := hP
  have hD : va_D A [kX7 m0 (nI z) m1 (nI r9) m2 m3 m4 m5 (nI n9) (nI v) m6 k1 k2 k3 k4 m7 k5 k6 k7 0 m8 m9 m10 k9 m11 m12 m13 hv] := hD
  refine lv_aload_n hx hb dX7_altered_5 rfl (lv_at hl 0 rfl) ?_
  refine lv_iconst (v := 0) hx hb dX7_altered_6 (by decide) ?_
  refine va_put (D := D) (ci := 7) (v := .int 0) (ty := .boolean) (C := RX7) (T := TX7) (N := 27) hx hb hts iT_X7 tyX7 tyX7_ok nmX7 hown hK1 hP hD hS 0 rfl rfl 22 (by decide) (hts _ t_573) (fun _ h9 => h9) rfl (by decide +kernel) rfl rfl (Nat.le_of_ble_eq_true rfl) dX7_altered_7 (fun H locs hP hD hS => ?_)
  have hP : va_P D vwCl [kX7 m0 (nI z) m1 (nI r9) m2 m3 m4 m5 (nI n9) (nI v) m6 k1 k2 k3 k4 m7 k5 k6 k7 0 m8 m9 m10 0 m11 m12 m13 hv] H := hP
  have hD : va_D A [kX7 m0 (nI z) m1 (nI r9) m2 m3 m4 m5 (nI n9) (nI v) m6 k1 k2 k3 k4 m7 k5 k6 k7 0 m8 m9 m10 0 m11 m12 m13 hv] := hD
  exact hret _ _ _ _ _ _ () dX7_altered_10 hS (Nat.le_of_ble_eq_true rfl) (Nat.le_of_ble_eq_true rfl) trivial (hP.sub [0] rfl) (hD.sub [0] rfl rfl)
set_option maxHeartbeats 4000000 in
set_option maxRecDepth 100000 in
theorem c_X7_isRule (sz : Nat) (m0 : Nat) (m1 : Nat) (m2 : Nat) (m3 : Nat) (m4 : Nat) (m5 : Nat) (m6 : Nat) (m7 : Nat) (m8 : Nat) (m9 : Nat) (m10 : Nat) (m11 : Nat) (m12 : Nat) (m13 : Nat) (z : Nat) (r9 : Nat) (n9 : Nat) (v : Nat) (k1 : Int32) (k2 : Int32) (k3 : Int32) (k4 : Int32) (k5 : Int32) (k6 : Int32) (k7 : Int32) (k8 : Int32) (k9 : Int32) (hv : Int64) (p0 : Int32)  : CTi l D cI cJ cZ cR yX7_isRule cX7_isRule 2 (some .boolean) 1 22 0 0 sz [.ref m0, .int p0] [kX7 m0 (nI z) m1 (nI r9) m2 m3 m4 m5 (nI n9) (nI v) m6 k1 k2 k3 k4 m7 k5 k6 k7 k8 m8 m9 m10 k9 m11 m12 m13 hv] (fun (r : Int32) (u : Unit) => (r = (wi p0 0 (nI r9 - 1)))) (fun (u : Unit) => [kX7 m0 (nI z) m1 (nI r9) m2 m3 m4 m5 (nI n9) (nI v) m6 k1 k2 k3 k4 m7 k5 k6 k7 k8 m8 m9 m10 k9 m11 m12 m13 hv]) := by
  refine CTi.of (ty := .boolean) (by decide) (Nat.le_of_ble_eq_true rfl) rfl ?_
  intro p e s m below meth c A Q ls hd hin hK hsz hP hD hA hS hl hret
  obtain ⟨hx, hb, hml, hown, hts⟩ := id hd
  have hK1 := hK.1
  have hown : s.vm.findClass RX7 = some m.cls := hown
  have hl : lv_has ls 2 [(0, .ref m0), (1, .int p0)] := hl
  refine lv_iload_n hx hb dX7_isRule_0 rfl (lv_at hl 1 rfl) ?_
  refine lv_iconst (v := 0) hx hb dX7_isRule_1 (by decide) ?_
  refine lv_aload_n hx hb dX7_isRule_2 rfl (lv_at hl 0 rfl) ?_
  refine va_get (D := D) (ci := 7) (v := .int (nI r9)) (C := RX7) (T := TX7) (N := 27) hx hb hts iT_X7 hown hK1 hP 0 rfl rfl 2 (by decide) (hts _ t_553) (fun _ h9 => h9) rfl dX7_isRule_3 ?_
  refine lv_iconst (v := 1) hx hb dX7_isRule_6 (by decide) ?_
  refine lv_isub hx hb dX7_isRule_7 ?_
  refine xc_i (wc := []) (wr := [kX7 m0 (nI z) m1 (nI r9) m2 m3 m4 m5 (nI n9) (nI v) m6 k1 k2 k3 k4 m7 k5 k6 k7 k8 m8 m9 m10 k9 m11 m12 m13 hv]) (xrS (n := 3) (As := [.int p0, .int 0, .int ((nI r9) - 1)]) (rest := []) hd hK hP hD (c_X7_within l D cI cJ cZ cR _ p0 0 ((nI r9) - 1) ) (gS t_637 mS_X7_within) hS_X7_within ⟨(Nat.le_of_ble_eq_true rfl), (Nat.le_of_ble_eq_true rfl)⟩ [] rfl rfl rfl hl.1 rfl (Nat.le_of_ble_eq_true rfl) dX7_isRule_8 ⟨(Nat.le_of_ble_eq_true rfl), (Nat.le_of_ble_eq_true rfl)⟩) hP hD hS hA [] [0] rfl rfl rfl (by decide) (fun r_1 u_2 H locs hw_3 hP hD hS => ?_)
  have hw_4 : r_1 = (wi p0 0 ((nI r9) - 1)) := hw_3
  subst hw_4
  have hP : va_P D vwCl [kX7 m0 (nI z) m1 (nI r9) m2 m3 m4 m5 (nI n9) (nI v) m6 k1 k2 k3 k4 m7 k5 k6 k7 k8 m8 m9 m10 k9 m11 m12 m13 hv] H := hP
  have hD : va_D A [kX7 m0 (nI z) m1 (nI r9) m2 m3 m4 m5 (nI n9) (nI v) m6 k1 k2 k3 k4 m7 k5 k6 k7 k8 m8 m9 m10 k9 m11 m12 m13 hv] := hD
  exact hret _ _ _ _ _ _ (wi p0 0 ((nI r9) - 1)) () dX7_isRule_11 (nar_01 (wi_01 _ _ _)) hS (Nat.le_of_ble_eq_true rfl) (Nat.le_of_ble_eq_true rfl) (by simp []) (hP.sub [0] rfl) (hD.sub [0] rfl rfl)
set_option maxHeartbeats 4000000 in
set_option maxRecDepth 100000 in
theorem c_X7_isEdge (sz : Nat) (m0 : Nat) (m1 : Nat) (m2 : Nat) (m3 : Nat) (m4 : Nat) (m5 : Nat) (m6 : Nat) (m7 : Nat) (m8 : Nat) (m9 : Nat) (m10 : Nat) (m11 : Nat) (m12 : Nat) (m13 : Nat) (z : Nat) (r9 : Nat) (n9 : Nat) (v : Nat) (k1 : Int32) (k2 : Int32) (k3 : Int32) (k4 : Int32) (k5 : Int32) (k6 : Int32) (k7 : Int32) (k8 : Int32) (k9 : Int32) (hv : Int64) (p0 : Int32)  : CTi l D cI cJ cZ cR yX7_isEdge cX7_isEdge 2 (some .boolean) 1 22 0 0 sz [.ref m0, .int p0] [kX7 m0 (nI z) m1 (nI r9) m2 m3 m4 m5 (nI n9) (nI v) m6 k1 k2 k3 k4 m7 k5 k6 k7 k8 m8 m9 m10 k9 m11 m12 m13 hv] (fun (r : Int32) (u : Unit) => (r = (wi p0 0 (nI n9 - 1)))) (fun (u : Unit) => [kX7 m0 (nI z) m1 (nI r9) m2 m3 m4 m5 (nI n9) (nI v) m6 k1 k2 k3 k4 m7 k5 k6 k7 k8 m8 m9 m10 k9 m11 m12 m13 hv]) := by
  refine CTi.of (ty := .boolean) (by decide) (Nat.le_of_ble_eq_true rfl) rfl ?_
  intro p e s m below meth c A Q ls hd hin hK hsz hP hD hA hS hl hret
  obtain ⟨hx, hb, hml, hown, hts⟩ := id hd
  have hK1 := hK.1
  have hown : s.vm.findClass RX7 = some m.cls := hown
  have hl : lv_has ls 2 [(0, .ref m0), (1, .int p0)] := hl
  refine lv_iload_n hx hb dX7_isEdge_0 rfl (lv_at hl 1 rfl) ?_
  refine lv_iconst (v := 0) hx hb dX7_isEdge_1 (by decide) ?_
  refine lv_aload_n hx hb dX7_isEdge_2 rfl (lv_at hl 0 rfl) ?_
  refine va_get (D := D) (ci := 7) (v := .int (nI n9)) (C := RX7) (T := TX7) (N := 27) hx hb hts iT_X7 hown hK1 hP 0 rfl rfl 7 (by decide) (hts _ t_558) (fun _ h9 => h9) rfl dX7_isEdge_3 ?_
  refine lv_iconst (v := 1) hx hb dX7_isEdge_6 (by decide) ?_
  refine lv_isub hx hb dX7_isEdge_7 ?_
  refine xc_i (wc := []) (wr := [kX7 m0 (nI z) m1 (nI r9) m2 m3 m4 m5 (nI n9) (nI v) m6 k1 k2 k3 k4 m7 k5 k6 k7 k8 m8 m9 m10 k9 m11 m12 m13 hv]) (xrS (n := 3) (As := [.int p0, .int 0, .int ((nI n9) - 1)]) (rest := []) hd hK hP hD (c_X7_within l D cI cJ cZ cR _ p0 0 ((nI n9) - 1) ) (gS t_637 mS_X7_within) hS_X7_within ⟨(Nat.le_of_ble_eq_true rfl), (Nat.le_of_ble_eq_true rfl)⟩ [] rfl rfl rfl hl.1 rfl (Nat.le_of_ble_eq_true rfl) dX7_isEdge_8 ⟨(Nat.le_of_ble_eq_true rfl), (Nat.le_of_ble_eq_true rfl)⟩) hP hD hS hA [] [0] rfl rfl rfl (by decide) (fun r_1 u_2 H locs hw_3 hP hD hS => ?_)
  have hw_4 : r_1 = (wi p0 0 ((nI n9) - 1)) := hw_3
  subst hw_4
  have hP : va_P D vwCl [kX7 m0 (nI z) m1 (nI r9) m2 m3 m4 m5 (nI n9) (nI v) m6 k1 k2 k3 k4 m7 k5 k6 k7 k8 m8 m9 m10 k9 m11 m12 m13 hv] H := hP
  have hD : va_D A [kX7 m0 (nI z) m1 (nI r9) m2 m3 m4 m5 (nI n9) (nI v) m6 k1 k2 k3 k4 m7 k5 k6 k7 k8 m8 m9 m10 k9 m11 m12 m13 hv] := hD
  exact hret _ _ _ _ _ _ (wi p0 0 ((nI n9) - 1)) () dX7_isEdge_11 (nar_01 (wi_01 _ _ _)) hS (Nat.le_of_ble_eq_true rfl) (Nat.le_of_ble_eq_true rfl) (by simp []) (hP.sub [0] rfl) (hD.sub [0] rfl rfl)
set_option maxHeartbeats 4000000 in
set_option maxRecDepth 100000 in
theorem c_X7_rule (sz : Nat) (m0 : Nat) (m1 : Nat) (m2 : Nat) (m3 : Nat) (m4 : Nat) (m5 : Nat) (m6 : Nat) (m7 : Nat) (m8 : Nat) (m9 : Nat) (m10 : Nat) (m11 : Nat) (m12 : Nat) (m13 : Nat) (z : Nat) (r9 : Nat) (n9 : Nat) (v : Nat) (k1 : Int32) (k2 : Int32) (k3 : Int32) (k4 : Int32) (k5 : Int32) (k6 : Int32) (k7 : Int32) (k8 : Int32) (k9 : Int32) (hv : Int64) (pf : Nat → Int32) (ne : Nat → Int32) (ro : Nat → Int32) (re : Nat → Int32) (rn : Nat → Int32) (rg : Nat → Int32) (hz : z ≤ 16) (hr9 : r9 ≤ 9) (hmr : MRI ro re rn rg r9) : CTi l D cI cJ cZ cR yX7_rule cX7_rule 3 (some .int) 6 132 0 0 sz [.ref m0] [kX7 m0 (nI z) m1 (nI r9) m2 m3 m4 m5 (nI n9) (nI v) m6 k1 k2 k3 k4 m7 k5 k6 k7 k8 m8 m9 m10 k9 m11 m12 m13 hv, kI cI m1 16 pf, kI cI m7 5 ne, kI cI m2 9 ro, kI cI m3 9 re, kI cI m4 9 rn, kI cI m5 27 rg] (fun (r : Int32) (u : Int32 × Int32 × Int32 × Int32 × Int32 × Int32 × Nat × Nat × (Nat → Int32) × (Nat → Int32) × (Nat → Int32) × (Nat → Int32) × (Nat → Int32)) => (u.2.2.2.2.2.2.1 ≤ 16) ∧ (u.2.2.2.2.2.2.2.1 ≤ 9) ∧ (MRI u.2.2.2.2.2.2.2.2.2.1 u.2.2.2.2.2.2.2.2.2.2.1 u.2.2.2.2.2.2.2.2.2.2.2.1 u.2.2.2.2.2.2.2.2.2.2.2.2 u.2.2.2.2.2.2.2.1) ∧ (MRuP pf z r9 ro re rn rg r u.2.2.2.2.2.2.1 u.2.2.2.2.2.2.2.1 u.2.2.2.2.2.2.2.2.2.1 u.2.2.2.2.2.2.2.2.2.2.1 u.2.2.2.2.2.2.2.2.2.2.2.1 u.2.2.2.2.2.2.2.2.2.2.2.2) ∧ (u.2.2.2.2.1 = 0 ∨ (u.2.2.2.2.1 = k8 ∧ u.2.2.2.2.2.2.2.1 = r9 ∧ u.2.2.2.2.2.2.2.2.2.1 = ro ∧ u.2.2.2.2.2.2.2.2.2.2.1 = re ∧ u.2.2.2.2.2.2.2.2.2.2.2.1 = rn ∧ u.2.2.2.2.2.2.2.2.2.2.2.2 = rg))) (fun (u : Int32 × Int32 × Int32 × Int32 × Int32 × Int32 × Nat × Nat × (Nat → Int32) × (Nat → Int32) × (Nat → Int32) × (Nat → Int32) × (Nat → Int32)) => [kX7 m0 (nI u.2.2.2.2.2.2.1) m1 (nI u.2.2.2.2.2.2.2.1) m2 m3 m4 m5 (nI n9) (nI v) m6 k1 k2 k3 u.1 m7 u.2.1 u.2.2.1 u.2.2.2.1 u.2.2.2.2.1 m8 m9 m10 u.2.2.2.2.2.1 m11 m12 m13 hv, kI cI m1 16 pf, kI cI m7 5 u.2.2.2.2.2.2.2.2.1, kI cI m2 9 u.2.2.2.2.2.2.2.2.2.1, kI cI m3 9 u.2.2.2.2.2.2.2.2.2.2.1, kI cI m4 9 u.2.2.2.2.2.2.2.2.2.2.2.1, kI cI m5 27 u.2.2.2.2.2.2.2.2.2.2.2.2]) := by
  refine CTi.of (ty := .int) (by decide) (Nat.le_of_ble_eq_true rfl) rfl ?_
  intro p e s m below meth c A Q ls hd hin hK hsz hP hD hA hS hl hret
  obtain ⟨hx, hb, hml, hown, hts⟩ := id hd
  have hK1 := hK.1
  have hown : s.vm.findClass RX7 = some m.cls := hown
  have hl : lv_has ls 3 [(0, .ref m0)] := hl
  refine lv_aload_n hx hb dX7_rule_0 rfl (lv_at hl 0 rfl) ?_
  refine lv_iconst (v := 0) hx hb dX7_rule_1 (by decide) ?_
  refine xc_i (wc := [kX7 m0 (nI z) m1 (nI r9) m2 m3 m4 m5 (nI n9) (nI v) m6 k1 k2 k3 k4 m7 k5 k6 k7 k8 m8 m9 m10 k9 m11 m12 m13 hv, kI cI m1 16 pf, kI cI m7 5 ne]) (wr := [kI cI m2 9 ro, kI cI m3 9 re, kI cI m4 9 rn, kI cI m5 27 rg]) (xrV (n := 1) (As := [.int 0]) (rest := []) (ci := 7) (q0 := 0) hd hK hP hD (g_misWhole_0 l D cI cJ cZ cR _ m0 m1 m2 m3 m4 m5 m6 m7 m8 m9 m10 m11 m12 m13 z r9 n9 v k1 k2 k3 k4 k5 k6 k7 k8 k9 hv pf ne hz) (gV t_667 mV_X7_isWhole) hV_X7_isWhole ⟨(Nat.le_of_ble_eq_true rfl), (Nat.le_of_ble_eq_true rfl)⟩ rfl rfl [0, 1, 2] rfl rfl rfl hl.1 rfl (Nat.le_of_ble_eq_true rfl) dX7_rule_2 ⟨(Nat.le_of_ble_eq_true rfl), (Nat.le_of_ble_eq_true rfl)⟩) hP hD hS hA [0, 1, 2] [3, 4, 5, 6] rfl rfl rfl (by decide) (fun r_1 u_2 H locs hw_3 hP hD hS => ?_)
  obtain ⟨k4b_4, k5b_5, k6b_6, k7b_7, ne2_8⟩ := u_2
  obtain ⟨hw_9, hw_10⟩ : (YN r_1 (WH0 pf z)) ∧ (¬ r_1 = 0 → ∃ q w, k4b_4 = nI q ∧ k5b_5 = nI w ∧ 0 < q ∧ z = 2 + 3 * q ∧ TX 2 3 4 pf z q 0 w k7b_7 ne2_8) := hw_3
  have hWH := hw_9
  have hW1 := hw_10
  have hP : va_P D vwCl [kI cI m2 9 ro, kI cI m3 9 re, kI cI m4 9 rn, kI cI m5 27 rg, kX7 m0 (nI z) m1 (nI r9) m2 m3 m4 m5 (nI n9) (nI v) m6 k1 k2 k3 k4b_4 m7 k5b_5 k6b_6 k7b_7 k8 m8 m9 m10 k9 m11 m12 m13 hv, kI cI m1 16 pf, kI cI m7 5 ne2_8] H := hP
  have hD : va_D A [kI cI m2 9 ro, kI cI m3 9 re, kI cI m4 9 rn, kI cI m5 27 rg, kX7 m0 (nI z) m1 (nI r9) m2 m3 m4 m5 (nI n9) (nI v) m6 k1 k2 k3 k4b_4 m7 k5b_5 k6b_6 k7b_7 k8 m8 m9 m10 k9 m11 m12 m13 hv, kI cI m1 16 pf, kI cI m7 5 ne2_8] := hD
  refine lv_if_eq (tgt := 44) hx hb dX7_rule_5 (by decide) (fun c_11 => ?_) (fun c_11 => ?_)
  · skip
    refine lv_iconst (v := 0) hx hb dX7_rule_44 (by decide) ?_
    refine lv_istore_n (lv' := [(1, .int 0), (0, .ref m0)]) hx hb dX7_rule_45 rfl hl (by decide) rfl (fun ls hl => ?_)
    refine lv_iload_n hx hb dX7_rule_46 rfl (lv_at hl 0 rfl) ?_
    refine lv_if_ne (tgt := 54) hx hb dX7_rule_47 (by decide) (fun c_12 => ?_) (fun c_12 => ?_)
    · exact absurd c_12 (by decide)
    refine lv_sipush (v := -1003) hx hb dX7_rule_50 (by decide) ?_
    exact hret _ _ _ _ _ _ (-1003) (k4b_4, k5b_5, k6b_6, k7b_7, k8, k9, z, r9, ne2_8, ro, re, rn, rg) dX7_rule_53 rfl hS (Nat.le_of_ble_eq_true rfl) (Nat.le_of_ble_eq_true rfl) ⟨hz, hr9, hmr, Or.inl ⟨(fun q => hWH.no c_11 ⟨q.1, q.2.1⟩), rfl, rfl, rfl, rfl, rfl, rfl, rfl⟩, Or.inr ⟨rfl, rfl, rfl, rfl, rfl, rfl⟩⟩ (hP.sub [4, 5, 6, 0, 1, 2, 3] rfl) (hD.sub [4, 5, 6, 0, 1, 2, 3] rfl rfl)
  · skip
    have hW := hWH.of c_11
    obtain ⟨q9, w9, eq9, ew9, hq1, hzq, hTX⟩ := hW1 c_11
    have hq3 : q9 ≤ 3 := hTX.2.2.1
    have hw16 : w9 < 2 ^ 4 := hTX.2.2.2.2.1
    rw [eq9] at hP hD
    have hP : va_P D vwCl [kI cI m2 9 ro, kI cI m3 9 re, kI cI m4 9 rn, kI cI m5 27 rg, kX7 m0 (nI z) m1 (nI r9) m2 m3 m4 m5 (nI n9) (nI v) m6 k1 k2 k3 (nI q9) m7 k5b_5 k6b_6 k7b_7 k8 m8 m9 m10 k9 m11 m12 m13 hv, kI cI m1 16 pf, kI cI m7 5 ne2_8] H := hP
    have hD : va_D A [kI cI m2 9 ro, kI cI m3 9 re, kI cI m4 9 rn, kI cI m5 27 rg, kX7 m0 (nI z) m1 (nI r9) m2 m3 m4 m5 (nI n9) (nI v) m6 k1 k2 k3 (nI q9) m7 k5b_5 k6b_6 k7b_7 k8 m8 m9 m10 k9 m11 m12 m13 hv, kI cI m1 16 pf, kI cI m7 5 ne2_8] := hD
    rw [ew9] at hP hD
    have hP : va_P D vwCl [kI cI m2 9 ro, kI cI m3 9 re, kI cI m4 9 rn, kI cI m5 27 rg, kX7 m0 (nI z) m1 (nI r9) m2 m3 m4 m5 (nI n9) (nI v) m6 k1 k2 k3 (nI q9) m7 (nI w9) k6b_6 k7b_7 k8 m8 m9 m10 k9 m11 m12 m13 hv, kI cI m1 16 pf, kI cI m7 5 ne2_8] H := hP
    have hD : va_D A [kI cI m2 9 ro, kI cI m3 9 re, kI cI m4 9 rn, kI cI m5 27 rg, kX7 m0 (nI z) m1 (nI r9) m2 m3 m4 m5 (nI n9) (nI v) m6 k1 k2 k3 (nI q9) m7 (nI w9) k6b_6 k7b_7 k8 m8 m9 m10 k9 m11 m12 m13 hv, kI cI m1 16 pf, kI cI m7 5 ne2_8] := hD
    refine lv_aload_n hx hb dX7_rule_8 rfl (lv_at hl 0 rfl) ?_
    refine va_get (D := D) (ci := 7) (v := .int (nI w9)) (C := RX7) (T := TX7) (N := 27) hx hb hts iT_X7 hown hK1 hP 4 rfl rfl 15 (by decide) (hts _ t_566) (fun _ h9 => h9) rfl dX7_rule_9 ?_
    refine lv_iconst (v := 3) hx hb dX7_rule_12 (by decide) ?_
    refine lv_iand hx hb dX7_rule_13 ?_
    refine lv_iconst (v := 3) hx hb dX7_rule_14 (by decide) ?_
    refine lv_icmp_ne (tgt := 44) hx hb dX7_rule_15 (by decide) (fun c_13 => ?_) (fun c_13 => ?_)
    · skip
      refine lv_iconst (v := 0) hx hb dX7_rule_44 (by decide) ?_
      refine lv_istore_n (lv' := [(1, .int 0), (0, .ref m0)]) hx hb dX7_rule_45 rfl hl (by decide) rfl (fun ls hl => ?_)
      refine lv_iload_n hx hb dX7_rule_46 rfl (lv_at hl 0 rfl) ?_
      refine lv_if_ne (tgt := 54) hx hb dX7_rule_47 (by decide) (fun c_14 => ?_) (fun c_14 => ?_)
      · exact absurd c_14 (by decide)
      refine lv_sipush (v := -1003) hx hb dX7_rule_50 (by decide) ?_
      exact hret _ _ _ _ _ _ (-1003) (nI q9, nI w9, k6b_6, k7b_7, k8, k9, z, r9, ne2_8, ro, re, rn, rg) dX7_rule_53 rfl hS (Nat.le_of_ble_eq_true rfl) (Nat.le_of_ble_eq_true rfl) ⟨hz, hr9, hmr, Or.inl ⟨(fun q => c_13 (and3_b (by omega) ((ro_iff hW hTX).mp q).1.1 ((ro_iff hW hTX).mp q).1.2)), rfl, rfl, rfl, rfl, rfl, rfl, rfl⟩, Or.inr ⟨rfl, rfl, rfl, rfl, rfl, rfl⟩⟩ (hP.sub [4, 5, 6, 0, 1, 2, 3] rfl) (hD.sub [4, 5, 6, 0, 1, 2, 3] rfl rfl)
    · skip
      refine lv_aload_n hx hb dX7_rule_18 rfl (lv_at hl 0 rfl) ?_
      refine va_get (D := D) (ci := 7) (v := .int (nI w9)) (C := RX7) (T := TX7) (N := 27) hx hb hts iT_X7 hown hK1 hP 4 rfl rfl 15 (by decide) (hts _ t_566) (fun _ h9 => h9) rfl dX7_rule_19 ?_
      refine lv_iconst (v := 3) hx hb dX7_rule_22 (by decide) ?_
      refine xc_i (wc := []) (wr := [kI cI m2 9 ro, kI cI m3 9 re, kI cI m4 9 rn, kI cI m5 27 rg, kX7 m0 (nI z) m1 (nI r9) m2 m3 m4 m5 (nI n9) (nI v) m6 k1 k2 k3 (nI q9) m7 (nI w9) k6b_6 k7b_7 k8 m8 m9 m10 k9 m11 m12 m13 hv, kI cI m1 16 pf, kI cI m7 5 ne2_8]) (xrS (n := 2) (As := [.int (nI w9), .int 3]) (rest := []) hd hK hP hD (n_has l D cI cJ cZ cR _ w9 3 (by omega) (by decide)) (gS t_671 mS_X7_has) hS_X7_has ⟨(Nat.le_of_ble_eq_true rfl), (Nat.le_of_ble_eq_true rfl)⟩ [] rfl rfl rfl hl.1 rfl (Nat.le_of_ble_eq_true rfl) dX7_rule_23 ⟨(Nat.le_of_ble_eq_true rfl), (Nat.le_of_ble_eq_true rfl)⟩) hP hD hS hA [] [0, 1, 2, 3, 4, 5, 6] rfl rfl rfl (by decide) (fun r_15 u_16 H locs hw_17 hP hD hS => ?_)
      have hw_18 : r_15 = (tB w9 3) := hw_17
      subst hw_18
      have hP : va_P D vwCl [kI cI m2 9 ro, kI cI m3 9 re, kI cI m4 9 rn, kI cI m5 27 rg, kX7 m0 (nI z) m1 (nI r9) m2 m3 m4 m5 (nI n9) (nI v) m6 k1 k2 k3 (nI q9) m7 (nI w9) k6b_6 k7b_7 k8 m8 m9 m10 k9 m11 m12 m13 hv, kI cI m1 16 pf, kI cI m7 5 ne2_8] H := hP
      have hD : va_D A [kI cI m2 9 ro, kI cI m3 9 re, kI cI m4 9 rn, kI cI m5 27 rg, kX7 m0 (nI z) m1 (nI r9) m2 m3 m4 m5 (nI n9) (nI v) m6 k1 k2 k3 (nI q9) m7 (nI w9) k6b_6 k7b_7 k8 m8 m9 m10 k9 m11 m12 m13 hv, kI cI m1 16 pf, kI cI m7 5 ne2_8] := hD
      refine lv_if_eq (tgt := 40) hx hb dX7_rule_26 (by decide) (fun c_19 => ?_) (fun c_19 => ?_)
      · skip
        refine lv_iconst (v := 1) hx hb dX7_rule_40 (by decide) ?_
        refine lv_goto (tgt := 45) hx hb dX7_rule_41 (by decide) ?_
        refine lv_istore_n (lv' := [(1, .int 1), (0, .ref m0)]) hx hb dX7_rule_45 rfl hl (by decide) rfl (fun ls hl => ?_)
        refine lv_iload_n hx hb dX7_rule_46 rfl (lv_at hl 0 rfl) ?_
        refine lv_if_ne (tgt := 54) hx hb dX7_rule_47 (by decide) (fun c_20 => ?_) (fun c_20 => ?_)
        rotate_left
        · exact absurd c_20 (by decide)
        have hRO : RuleOK pf z := (ro_iff hW hTX).mpr ⟨b_and3 (by omega) c_13, fun q => absurd q (tB_n c_19)⟩
        refine lv_aload_n hx hb dX7_rule_54 rfl (lv_at hl 1 rfl) ?_
        refine va_get (D := D) (ci := 7) (v := .int (nI r9)) (C := RX7) (T := TX7) (N := 27) hx hb hts iT_X7 hown hK1 hP 4 rfl rfl 2 (by decide) (hts _ t_553) (fun _ h9 => h9) rfl dX7_rule_55 ?_
        refine lv_bipush (v := 9) hx hb dX7_rule_58 (by decide) ?_
        refine lv_icmp_ne (tgt := 67) hx hb dX7_rule_60 (by decide) (fun c_21 => ?_) (fun c_21 => ?_)
        · skip
          have hr8 := lt9r hr9 c_21
          have hW3 := okH0.mp (hW.2.2.1 0 (by omega))
          obtain ⟨o9, ho1, ho2, eo9⟩ := wi_rng (a := 65) (b := 67) (by decide) (by decide) hW3
          have hw3 := and3_ge (by omega) c_13
          have eo8 : cL (pf 0) = nI (o9 - 65) := by rw [cL_wi hW3, eo9]; exact pk_sub (a := o9) (b := 65) ho1
          have hqz : (z - 2) / 3 = q9 := by omega
          refine lv_aload_n hx hb dX7_rule_67 rfl (lv_at hl 1 rfl) ?_
          refine va_get (D := D) (ci := 7) (v := .ref m2) (C := RX7) (T := TX7) (N := 27) hx hb hts iT_X7 hown hK1 hP 4 rfl rfl 3 (by decide) (hts _ t_554) (fun _ h9 => h9) rfl dX7_rule_68 ?_
          refine lv_aload_n hx hb dX7_rule_71 rfl (lv_at hl 1 rfl) ?_
          refine va_get (D := D) (ci := 7) (v := .int (nI r9)) (C := RX7) (T := TX7) (N := 27) hx hb hts iT_X7 hown hK1 hP 4 rfl rfl 2 (by decide) (hts _ t_553) (fun _ h9 => h9) rfl dX7_rule_72 ?_
          refine lv_aload_n hx hb dX7_rule_75 rfl (lv_at hl 1 rfl) ?_
          refine va_get (D := D) (ci := 7) (v := .ref m1) (C := RX7) (T := TX7) (N := 27) hx hb hts iT_X7 hown hK1 hP 4 rfl rfl 1 (by decide) (hts _ t_552) (fun _ h9 => h9) rfl dX7_rule_76 ?_
          refine lv_iconst (v := 0) hx hb dX7_rule_79 (by decide) ?_
          refine va_iald hx hb hK1 hP 5 0 rfl rfl (vin (by decide)) dX7_rule_80 ?_
          refine lv_nmi (show _ = pf 0 from rfl) ?_
          refine lv_bipush (v := 65) hx hb dX7_rule_81 (by decide) ?_
          refine lv_isub hx hb dX7_rule_83 ?_
          refine lv_nmi (show _ = (nI (o9 - 65) : Int32) from (show pf 0 - 65 = _ from by rw [eo9]; exact pk_sub (a := o9) (b := 65) ho1)) ?_
          refine va_iast hx hb hK1 hP hD hS 0 0 rfl rfl (vp_in_nI (by omega) (by omega)) dX7_rule_84 (fun H locs hP hD hS => ?_)
          rw [nI_clamp (n := r9) (by omega)] at hP hD
          have hP : va_P D vwCl [kI cI m2 9 (upd ro r9 (nI (o9 - 65))), kI cI m3 9 re, kI cI m4 9 rn, kI cI m5 27 rg, kX7 m0 (nI z) m1 (nI r9) m2 m3 m4 m5 (nI n9) (nI v) m6 k1 k2 k3 (nI q9) m7 (nI w9) k6b_6 k7b_7 k8 m8 m9 m10 k9 m11 m12 m13 hv, kI cI m1 16 pf, kI cI m7 5 ne2_8] H := hP
          have hD : va_D A [kI cI m2 9 (upd ro r9 (nI (o9 - 65))), kI cI m3 9 re, kI cI m4 9 rn, kI cI m5 27 rg, kX7 m0 (nI z) m1 (nI r9) m2 m3 m4 m5 (nI n9) (nI v) m6 k1 k2 k3 (nI q9) m7 (nI w9) k6b_6 k7b_7 k8 m8 m9 m10 k9 m11 m12 m13 hv, kI cI m1 16 pf, kI cI m7 5 ne2_8] := hD
          refine lv_aload_n hx hb dX7_rule_85 rfl (lv_at hl 1 rfl) ?_
          refine va_get (D := D) (ci := 7) (v := .ref m3) (C := RX7) (T := TX7) (N := 27) hx hb hts iT_X7 hown hK1 hP 4 rfl rfl 4 (by decide) (hts _ t_555) (fun _ h9 => h9) rfl dX7_rule_86 ?_
          refine lv_aload_n hx hb dX7_rule_89 rfl (lv_at hl 1 rfl) ?_
          refine va_get (D := D) (ci := 7) (v := .int (nI r9)) (C := RX7) (T := TX7) (N := 27) hx hb hts iT_X7 hown hK1 hP 4 rfl rfl 2 (by decide) (hts _ t_553) (fun _ h9 => h9) rfl dX7_rule_90 ?_
          refine lv_aload_n hx hb dX7_rule_93 rfl (lv_at hl 1 rfl) ?_
          refine va_get (D := D) (ci := 7) (v := .int (nI q9)) (C := RX7) (T := TX7) (N := 27) hx hb hts iT_X7 hown hK1 hP 4 rfl rfl 13 (by decide) (hts _ t_564) (fun _ h9 => h9) rfl dX7_rule_94 ?_
          refine va_iast hx hb hK1 hP hD hS 1 0 rfl rfl (vp_in_nI (by omega) (by omega)) dX7_rule_97 (fun H locs hP hD hS => ?_)
          rw [nI_clamp (n := r9) (by omega)] at hP hD
          have hP : va_P D vwCl [kI cI m2 9 (upd ro r9 (nI (o9 - 65))), kI cI m3 9 (upd re r9 (nI q9)), kI cI m4 9 rn, kI cI m5 27 rg, kX7 m0 (nI z) m1 (nI r9) m2 m3 m4 m5 (nI n9) (nI v) m6 k1 k2 k3 (nI q9) m7 (nI w9) k6b_6 k7b_7 k8 m8 m9 m10 k9 m11 m12 m13 hv, kI cI m1 16 pf, kI cI m7 5 ne2_8] H := hP
          have hD : va_D A [kI cI m2 9 (upd ro r9 (nI (o9 - 65))), kI cI m3 9 (upd re r9 (nI q9)), kI cI m4 9 rn, kI cI m5 27 rg, kX7 m0 (nI z) m1 (nI r9) m2 m3 m4 m5 (nI n9) (nI v) m6 k1 k2 k3 (nI q9) m7 (nI w9) k6b_6 k7b_7 k8 m8 m9 m10 k9 m11 m12 m13 hv, kI cI m1 16 pf, kI cI m7 5 ne2_8] := hD
          refine lv_aload_n hx hb dX7_rule_98 rfl (lv_at hl 1 rfl) ?_
          refine va_get (D := D) (ci := 7) (v := .ref m4) (C := RX7) (T := TX7) (N := 27) hx hb hts iT_X7 hown hK1 hP 4 rfl rfl 5 (by decide) (hts _ t_556) (fun _ h9 => h9) rfl dX7_rule_99 ?_
          refine lv_aload_n hx hb dX7_rule_102 rfl (lv_at hl 1 rfl) ?_
          refine va_get (D := D) (ci := 7) (v := .int (nI r9)) (C := RX7) (T := TX7) (N := 27) hx hb hts iT_X7 hown hK1 hP 4 rfl rfl 2 (by decide) (hts _ t_553) (fun _ h9 => h9) rfl dX7_rule_103 ?_
          refine lv_aload_n hx hb dX7_rule_106 rfl (lv_at hl 1 rfl) ?_
          refine va_get (D := D) (ci := 7) (v := .int (nI w9)) (C := RX7) (T := TX7) (N := 27) hx hb hts iT_X7 hown hK1 hP 4 rfl rfl 15 (by decide) (hts _ t_566) (fun _ h9 => h9) rfl dX7_rule_107 ?_
          refine xc_i (wc := []) (wr := [kI cI m2 9 (upd ro r9 (nI (o9 - 65))), kI cI m3 9 (upd re r9 (nI q9)), kI cI m4 9 rn, kI cI m5 27 rg, kX7 m0 (nI z) m1 (nI r9) m2 m3 m4 m5 (nI n9) (nI v) m6 k1 k2 k3 (nI q9) m7 (nI w9) k6b_6 k7b_7 k8 m8 m9 m10 k9 m11 m12 m13 hv, kI cI m1 16 pf, kI cI m7 5 ne2_8]) (xrS (n := 1) (As := [.int (nI w9)]) (rest := [.int (nI r9), .ref m4]) hd hK hP hD (c_X7_above l D cI cJ cZ cR _ w9 (by omega)) (gS t_674 mS_X7_above) hS_X7_above ⟨(Nat.le_of_ble_eq_true rfl), (Nat.le_of_ble_eq_true rfl)⟩ [] rfl rfl rfl hl.1 rfl (Nat.le_of_ble_eq_true rfl) dX7_rule_110 ⟨(Nat.le_of_ble_eq_true rfl), (Nat.le_of_ble_eq_true rfl)⟩) hP hD hS hA [] [0, 1, 2, 3, 4, 5, 6] rfl rfl rfl (by decide) (fun r_22 u_23 H locs hw_24 hP hD hS => ?_)
          obtain ⟨k_25, rfl⟩ : ∃ z9, z9 = u_23 := ⟨_, rfl⟩
          obtain ⟨hw_26, hw_27, hw_28, hw_29⟩ : (r_22 = (nI k_25)) ∧ (k_25 ≤ 5) ∧ (k_25 = 0 ∨ 2 ^ (k_25 - 1) ≤ w9) ∧ (w9 < 2 ^ k_25) := hw_24
          subst hw_26
          have hk5 := hw_27
          have hklo := hw_28
          have hkhi := hw_29
          have hP : va_P D vwCl [kI cI m2 9 (upd ro r9 (nI (o9 - 65))), kI cI m3 9 (upd re r9 (nI q9)), kI cI m4 9 rn, kI cI m5 27 rg, kX7 m0 (nI z) m1 (nI r9) m2 m3 m4 m5 (nI n9) (nI v) m6 k1 k2 k3 (nI q9) m7 (nI w9) k6b_6 k7b_7 k8 m8 m9 m10 k9 m11 m12 m13 hv, kI cI m1 16 pf, kI cI m7 5 ne2_8] H := hP
          have hD : va_D A [kI cI m2 9 (upd ro r9 (nI (o9 - 65))), kI cI m3 9 (upd re r9 (nI q9)), kI cI m4 9 rn, kI cI m5 27 rg, kX7 m0 (nI z) m1 (nI r9) m2 m3 m4 m5 (nI n9) (nI v) m6 k1 k2 k3 (nI q9) m7 (nI w9) k6b_6 k7b_7 k8 m8 m9 m10 k9 m11 m12 m13 hv, kI cI m1 16 pf, kI cI m7 5 ne2_8] := hD
          refine va_iast hx hb hK1 hP hD hS 2 0 rfl rfl (vp_in_nI (by omega) (by omega)) dX7_rule_113 (fun H locs hP hD hS => ?_)
          rw [nI_clamp (n := r9) (by omega)] at hP hD
          have hP : va_P D vwCl [kI cI m2 9 (upd ro r9 (nI (o9 - 65))), kI cI m3 9 (upd re r9 (nI q9)), kI cI m4 9 (upd rn r9 (nI k_25)), kI cI m5 27 rg, kX7 m0 (nI z) m1 (nI r9) m2 m3 m4 m5 (nI n9) (nI v) m6 k1 k2 k3 (nI q9) m7 (nI w9) k6b_6 k7b_7 k8 m8 m9 m10 k9 m11 m12 m13 hv, kI cI m1 16 pf, kI cI m7 5 ne2_8] H := hP
          have hD : va_D A [kI cI m2 9 (upd ro r9 (nI (o9 - 65))), kI cI m3 9 (upd re r9 (nI q9)), kI cI m4 9 (upd rn r9 (nI k_25)), kI cI m5 27 rg, kX7 m0 (nI z) m1 (nI r9) m2 m3 m4 m5 (nI n9) (nI v) m6 k1 k2 k3 (nI q9) m7 (nI w9) k6b_6 k7b_7 k8 m8 m9 m10 k9 m11 m12 m13 hv, kI cI m1 16 pf, kI cI m7 5 ne2_8] := hD
          refine lv_iconst (v := 0) hx hb dX7_rule_114 (by decide) ?_
          refine lv_istore_n (lv' := [(2, .int 0), (1, .int 1), (0, .ref m0)]) hx hb dX7_rule_115 rfl hl (by decide) rfl (fun ls hl => ?_)
          have LOOP_116 : ∀ (n : Nat) (i : Nat) (gx : Nat → Int32), (i + n = q9) → (∀ j, j < i → gx (3 * r9 + j) = ne2_8 j) → (∀ j, j < 3 * r9 → gx j = rg j) → ∀ (H : Heap) (locs : List Loc) (ls : Array Slot), va_P D vwCl [kI cI m2 9 (upd ro r9 (nI (o9 - 65))), kI cI m3 9 (upd re r9 (nI q9)), kI cI m4 9 (upd rn r9 (nI k_25)), kI cI m5 27 gx, kX7 m0 (nI z) m1 (nI r9) m2 m3 m4 m5 (nI n9) (nI v) m6 k1 k2 k3 (nI q9) m7 (nI w9) k6b_6 k7b_7 k8 m8 m9 m10 k9 m11 m12 m13 hv, kI cI m1 16 pf, kI cI m7 5 ne2_8] H → va_D A [kI cI m2 9 (upd ro r9 (nI (o9 - 65))), kI cI m3 9 (upd re r9 (nI q9)), kI cI m4 9 (upd rn r9 (nI k_25)), kI cI m5 27 gx, kX7 m0 (nI z) m1 (nI r9) m2 m3 m4 m5 (nI n9) (nI v) m6 k1 k2 k3 (nI q9) m7 (nI w9) k6b_6 k7b_7 k8 m8 m9 m10 k9 m11 m12 m13 hv, kI cI m1 16 pf, kI cI m7 5 ne2_8] → va_S A s.heap H locs → lv_has ls 3 [(0, .ref m0), (2, .int (nI i))] → W p l e (rM 6 0 0 132) s m ([.ref m0] : List Value).toArray below meth c H locs 0 0 Q (F0 m 116 ls []) := by
            intro n
            induction n with
            | zero =>
              intro i gx hi hg1 hg2 H locs ls hP hD hS hl
              refine lv_iload_n hx hb dX7_rule_116 rfl (lv_at hl 1 rfl) ?_
              refine lv_aload_n hx hb dX7_rule_117 rfl (lv_at hl 0 rfl) ?_
              refine va_get (D := D) (ci := 7) (v := .int (nI q9)) (C := RX7) (T := TX7) (N := 27) hx hb hts iT_X7 hown hK1 hP 4 rfl rfl 13 (by decide) (hts _ t_564) (fun _ h9 => h9) rfl dX7_rule_118 ?_
              refine lv_icmp_ge (tgt := 149) hx hb dX7_rule_121 (by decide) (fun c_30 => ?_) (fun c_30 => ?_)
              rotate_left
              · exact absurd (nI_le (a := q9) (b := i) (by omega) (by omega)) c_30
              refine lv_aload_n hx hb dX7_rule_149 rfl (lv_at hl 0 rfl) ?_
              refine lv_dup hx hb dX7_rule_150 rfl ?_
              refine va_get (D := D) (ci := 7) (v := .int (nI r9)) (C := RX7) (T := TX7) (N := 27) hx hb hts iT_X7 hown hK1 hP 4 rfl rfl 2 (by decide) (hts _ t_553) (fun _ h9 => h9) rfl dX7_rule_151 ?_
              refine lv_iconst (v := 1) hx hb dX7_rule_154 (by decide) ?_
              refine lv_iadd hx hb dX7_rule_155 ?_
              refine lv_nmi (show _ = (nI (r9 + 1)) from nI_add (r9) (1)) ?_
              refine va_put (D := D) (ci := 7) (v := .int (nI (r9 + 1))) (ty := .int) (C := RX7) (T := TX7) (N := 27) hx hb hts iT_X7 tyX7 tyX7_ok nmX7 hown hK1 hP hD hS 4 rfl rfl 2 (by decide) (hts _ t_553) (fun _ h9 => h9) rfl (by decide +kernel) rfl rfl (Nat.le_of_ble_eq_true rfl) dX7_rule_156 (fun H locs hP hD hS => ?_)
              have hP : va_P D vwCl [kI cI m2 9 (upd ro r9 (nI (o9 - 65))), kI cI m3 9 (upd re r9 (nI q9)), kI cI m4 9 (upd rn r9 (nI k_25)), kI cI m5 27 gx, kX7 m0 (nI z) m1 (nI (r9 + 1)) m2 m3 m4 m5 (nI n9) (nI v) m6 k1 k2 k3 (nI q9) m7 (nI w9) k6b_6 k7b_7 k8 m8 m9 m10 k9 m11 m12 m13 hv, kI cI m1 16 pf, kI cI m7 5 ne2_8] H := hP
              have hD : va_D A [kI cI m2 9 (upd ro r9 (nI (o9 - 65))), kI cI m3 9 (upd re r9 (nI q9)), kI cI m4 9 (upd rn r9 (nI k_25)), kI cI m5 27 gx, kX7 m0 (nI z) m1 (nI (r9 + 1)) m2 m3 m4 m5 (nI n9) (nI v) m6 k1 k2 k3 (nI q9) m7 (nI w9) k6b_6 k7b_7 k8 m8 m9 m10 k9 m11 m12 m13 hv, kI cI m1 16 pf, kI cI m7 5 ne2_8] := hD
              refine lv_aload_n hx hb dX7_rule_159 rfl (lv_at hl 0 rfl) ?_
              refine lv_iconst (v := 0) hx hb dX7_rule_160 (by decide) ?_
              refine va_put (D := D) (ci := 7) (v := .int 0) (ty := .int) (C := RX7) (T := TX7) (N := 27) hx hb hts iT_X7 tyX7 tyX7_ok nmX7 hown hK1 hP hD hS 4 rfl rfl 0 (by decide) (hts _ t_551) (fun _ h9 => h9) rfl (by decide +kernel) rfl rfl (Nat.le_of_ble_eq_true rfl) dX7_rule_161 (fun H locs hP hD hS => ?_)
              have hP : va_P D vwCl [kI cI m2 9 (upd ro r9 (nI (o9 - 65))), kI cI m3 9 (upd re r9 (nI q9)), kI cI m4 9 (upd rn r9 (nI k_25)), kI cI m5 27 gx, kX7 m0 0 m1 (nI (r9 + 1)) m2 m3 m4 m5 (nI n9) (nI v) m6 k1 k2 k3 (nI q9) m7 (nI w9) k6b_6 k7b_7 k8 m8 m9 m10 k9 m11 m12 m13 hv, kI cI m1 16 pf, kI cI m7 5 ne2_8] H := hP
              have hD : va_D A [kI cI m2 9 (upd ro r9 (nI (o9 - 65))), kI cI m3 9 (upd re r9 (nI q9)), kI cI m4 9 (upd rn r9 (nI k_25)), kI cI m5 27 gx, kX7 m0 0 m1 (nI (r9 + 1)) m2 m3 m4 m5 (nI n9) (nI v) m6 k1 k2 k3 (nI q9) m7 (nI w9) k6b_6 k7b_7 k8 m8 m9 m10 k9 m11 m12 m13 hv, kI cI m1 16 pf, kI cI m7 5 ne2_8] := hD
              refine lv_aload_n hx hb dX7_rule_164 rfl (lv_at hl 0 rfl) ?_
              refine xc_v (wc := [kX7 m0 0 m1 (nI (r9 + 1)) m2 m3 m4 m5 (nI n9) (nI v) m6 k1 k2 k3 (nI q9) m7 (nI w9) k6b_6 k7b_7 k8 m8 m9 m10 k9 m11 m12 m13 hv]) (wr := [kI cI m2 9 (upd ro r9 (nI (o9 - 65))), kI cI m3 9 (upd re r9 (nI q9)), kI cI m4 9 (upd rn r9 (nI k_25)), kI cI m5 27 gx, kI cI m1 16 pf, kI cI m7 5 ne2_8]) (xrV (n := 0) (As := []) (rest := []) (ci := 7) (q0 := 4) hd hK hP hD (c_X7_altered l D cI cJ cZ cR _ m0 m1 m2 m3 m4 m5 m6 m7 m8 m9 m10 m11 m12 m13 0 (r9 + 1) n9 v k1 k2 k3 (nI q9) (nI w9) k6b_6 k7b_7 k8 k9 hv ) (gV t_677 mV_X7_altered) hV_X7_altered ⟨(Nat.le_of_ble_eq_true rfl), (Nat.le_of_ble_eq_true rfl)⟩ rfl rfl [4] rfl rfl rfl hl.1 rfl (Nat.le_of_ble_eq_true rfl) dX7_rule_165 ⟨(Nat.le_of_ble_eq_true rfl), (Nat.le_of_ble_eq_true rfl)⟩) hP hD hS hA [4] [0, 1, 2, 3, 5, 6] rfl rfl rfl (by decide) (fun u_32 H locs hw_33 hP hD hS => ?_)
              have hP : va_P D vwCl [kI cI m2 9 (upd ro r9 (nI (o9 - 65))), kI cI m3 9 (upd re r9 (nI q9)), kI cI m4 9 (upd rn r9 (nI k_25)), kI cI m5 27 gx, kI cI m1 16 pf, kI cI m7 5 ne2_8, kX7 m0 (nI 0) m1 (nI (r9 + 1)) m2 m3 m4 m5 (nI n9) (nI v) m6 k1 k2 k3 (nI q9) m7 (nI w9) k6b_6 k7b_7 0 m8 m9 m10 0 m11 m12 m13 hv] H := hP
              have hD : va_D A [kI cI m2 9 (upd ro r9 (nI (o9 - 65))), kI cI m3 9 (upd re r9 (nI q9)), kI cI m4 9 (upd rn r9 (nI k_25)), kI cI m5 27 gx, kI cI m1 16 pf, kI cI m7 5 ne2_8, kX7 m0 (nI 0) m1 (nI (r9 + 1)) m2 m3 m4 m5 (nI n9) (nI v) m6 k1 k2 k3 (nI q9) m7 (nI w9) k6b_6 k7b_7 0 m8 m9 m10 0 m11 m12 m13 hv] := hD
              refine lv_aload_n hx hb dX7_rule_168 rfl (lv_at hl 0 rfl) ?_
              refine va_get (D := D) (ci := 7) (v := .int (nI (r9 + 1))) (C := RX7) (T := TX7) (N := 27) hx hb hts iT_X7 hown hK1 hP 6 rfl rfl 2 (by decide) (hts _ t_553) (fun _ h9 => h9) rfl dX7_rule_169 ?_
              refine lv_iconst (v := 1) hx hb dX7_rule_172 (by decide) ?_
              refine lv_isub hx hb dX7_rule_173 ?_
              refine lv_nmi (show _ = (nI r9 : Int32) from pk_sub (a := r9 + 1) (b := 1) (by omega)) ?_
              exact hret _ _ _ _ _ _ (nI r9) (nI q9, nI w9, k6b_6, k7b_7, 0, 0, 0, (r9 + 1), ne2_8, upd ro r9 (nI (o9 - 65)), upd re r9 (nI q9), upd rn r9 (nI k_25), gx) dX7_rule_174 rfl hS (Nat.le_of_ble_eq_true rfl) (Nat.le_of_ble_eq_true rfl) ⟨Nat.zero_le _, (show r9 + 1 ≤ 9 by omega), MRI_add hmr (by omega) hq1 hq3 (ab_2 hkhi hw3) (ab_4 hklo hw16 hk5) (fun j hj => (show EV 4 (gx (3 * r9 + j)) from by rw [hg1 j (by omega)]; exact EX_EV (hTX.2.2.2.2.2.2.2.1 j (by omega)))) hg2, Or.inr (Or.inr ⟨hRO, hr8, rfl, rfl, rfl, by rw [eo8], by rw [hqz], by rw [nd_ab hTX hRO hklo hkhi hk5], fun j hj => (show EX pf (2 + 3 * j) 4 (gx (3 * r9 + j)) from by rw [hg1 j (by omega)]; exact hTX.2.2.2.2.2.2.2.1 j (by omega)), hg2⟩), Or.inl rfl⟩ (hP.sub [6, 4, 5, 0, 1, 2, 3] rfl) (hD.sub [6, 4, 5, 0, 1, 2, 3] rfl rfl)
            | succ n ih_116 =>
              intro i gx hi hg1 hg2 H locs ls hP hD hS hl
              refine lv_iload_n hx hb dX7_rule_116 rfl (lv_at hl 1 rfl) ?_
              refine lv_aload_n hx hb dX7_rule_117 rfl (lv_at hl 0 rfl) ?_
              refine va_get (D := D) (ci := 7) (v := .int (nI q9)) (C := RX7) (T := TX7) (N := 27) hx hb hts iT_X7 hown hK1 hP 4 rfl rfl 13 (by decide) (hts _ t_564) (fun _ h9 => h9) rfl dX7_rule_118 ?_
              refine lv_icmp_ge (tgt := 149) hx hb dX7_rule_121 (by decide) (fun c_34 => ?_) (fun c_34 => ?_)
              · exact absurd c_34 (nI_ge (a := i) (b := q9) (by omega) (by omega))
              refine lv_aload_n hx hb dX7_rule_124 rfl (lv_at hl 0 rfl) ?_
              refine va_get (D := D) (ci := 7) (v := .ref m5) (C := RX7) (T := TX7) (N := 27) hx hb hts iT_X7 hown hK1 hP 4 rfl rfl 6 (by decide) (hts _ t_557) (fun _ h9 => h9) rfl dX7_rule_125 ?_
              refine lv_iconst (v := 3) hx hb dX7_rule_128 (by decide) ?_
              refine lv_aload_n hx hb dX7_rule_129 rfl (lv_at hl 0 rfl) ?_
              refine va_get (D := D) (ci := 7) (v := .int (nI r9)) (C := RX7) (T := TX7) (N := 27) hx hb hts iT_X7 hown hK1 hP 4 rfl rfl 2 (by decide) (hts _ t_553) (fun _ h9 => h9) rfl dX7_rule_130 ?_
              refine lv_imul hx hb dX7_rule_133 ?_
              refine lv_nmi (show _ = (nI (3 * r9)) from pk_mul (3) (r9)) ?_
              refine lv_iload_n hx hb dX7_rule_134 rfl (lv_at hl 1 rfl) ?_
              refine lv_iadd hx hb dX7_rule_135 ?_
              refine lv_nmi (show _ = (nI ((3 * r9) + i)) from nI_add ((3 * r9)) (i)) ?_
              refine lv_aload_n hx hb dX7_rule_136 rfl (lv_at hl 0 rfl) ?_
              refine va_get (D := D) (ci := 7) (v := .ref m7) (C := RX7) (T := TX7) (N := 27) hx hb hts iT_X7 hown hK1 hP 4 rfl rfl 14 (by decide) (hts _ t_565) (fun _ h9 => h9) rfl dX7_rule_137 ?_
              refine lv_iload_n hx hb dX7_rule_140 rfl (lv_at hl 1 rfl) ?_
              refine va_iald hx hb hK1 hP 6 0 rfl rfl (vp_in_nI (by omega) (by omega)) dX7_rule_141 ?_
              refine lv_nmi (show _ = ne2_8 i from by rw [nI_clamp (n := i) (by omega)]) ?_
              refine va_iast hx hb hK1 hP hD hS 3 0 rfl rfl (vp_in_nI (by omega) (by omega)) dX7_rule_142 (fun H locs hP hD hS => ?_)
              rw [nI_clamp (n := ((3 * r9) + i)) (by omega)] at hP hD
              have hP : va_P D vwCl [kI cI m2 9 (upd ro r9 (nI (o9 - 65))), kI cI m3 9 (upd re r9 (nI q9)), kI cI m4 9 (upd rn r9 (nI k_25)), kI cI m5 27 (upd gx ((3 * r9) + i) (ne2_8 i)), kX7 m0 (nI z) m1 (nI r9) m2 m3 m4 m5 (nI n9) (nI v) m6 k1 k2 k3 (nI q9) m7 (nI w9) k6b_6 k7b_7 k8 m8 m9 m10 k9 m11 m12 m13 hv, kI cI m1 16 pf, kI cI m7 5 ne2_8] H := hP
              have hD : va_D A [kI cI m2 9 (upd ro r9 (nI (o9 - 65))), kI cI m3 9 (upd re r9 (nI q9)), kI cI m4 9 (upd rn r9 (nI k_25)), kI cI m5 27 (upd gx ((3 * r9) + i) (ne2_8 i)), kX7 m0 (nI z) m1 (nI r9) m2 m3 m4 m5 (nI n9) (nI v) m6 k1 k2 k3 (nI q9) m7 (nI w9) k6b_6 k7b_7 k8 m8 m9 m10 k9 m11 m12 m13 hv, kI cI m1 16 pf, kI cI m7 5 ne2_8] := hD
              refine lv_iinc (v := nI (i + 1)) (lv' := [(2, .int (nI (i + 1))), (0, .ref m0)]) hx hb dX7_rule_143 hl (k := 1) rfl (nI_1 i) (by decide) rfl (fun ls hl => ?_)
              refine lv_goto (tgt := 116) hx hb dX7_rule_146 (by decide) ?_
              exact ih_116 (i + 1) (upd gx ((3 * r9) + i) (ne2_8 i)) (by omega) (fun j hj => by by_cases h9 : j = i; subst h9; exact pk_us; rw [pk_un (by omega)]; exact hg1 j (by omega)) (fun j hj => by rw [pk_un (by omega)]; exact hg2 j hj) _ _ _ (hP.sub [0, 1, 2, 3, 4, 5, 6] rfl) (hD.sub [0, 1, 2, 3, 4, 5, 6] rfl rfl) hS (lv_sub hl [1, 0] rfl)
          exact LOOP_116 q9 0 rg (by omega) (fun j hj => absurd hj (by omega)) (fun _ _ => rfl) _ _ _ (hP.sub [0, 1, 2, 3, 4, 5, 6] rfl) (hD.sub [0, 1, 2, 3, 4, 5, 6] rfl rfl) hS (lv_sub hl [2, 0] rfl)
        · skip
          refine lv_sipush (v := -1004) hx hb dX7_rule_63 (by decide) ?_
          exact hret _ _ _ _ _ _ (-1004) (nI q9, nI w9, k6b_6, k7b_7, k8, k9, z, r9, ne2_8, ro, re, rn, rg) dX7_rule_66 rfl hS (Nat.le_of_ble_eq_true rfl) (Nat.le_of_ble_eq_true rfl) ⟨hz, hr9, hmr, Or.inr (Or.inl ⟨hRO, (lt9e hr9 c_21), rfl, rfl, rfl, rfl, rfl, rfl, rfl⟩), Or.inr ⟨rfl, rfl, rfl, rfl, rfl, rfl⟩⟩ (hP.sub [4, 5, 6, 0, 1, 2, 3] rfl) (hD.sub [4, 5, 6, 0, 1, 2, 3] rfl rfl)
      · skip
        refine lv_aload_n hx hb dX7_rule_29 rfl (lv_at hl 0 rfl) ?_
        refine va_get (D := D) (ci := 7) (v := .int (nI w9)) (C := RX7) (T := TX7) (N := 27) hx hb hts iT_X7 hown hK1 hP 4 rfl rfl 15 (by decide) (hts _ t_566) (fun _ h9 => h9) rfl dX7_rule_30 ?_
        refine lv_iconst (v := 2) hx hb dX7_rule_33 (by decide) ?_
        refine xc_i (wc := []) (wr := [kI cI m2 9 ro, kI cI m3 9 re, kI cI m4 9 rn, kI cI m5 27 rg, kX7 m0 (nI z) m1 (nI r9) m2 m3 m4 m5 (nI n9) (nI v) m6 k1 k2 k3 (nI q9) m7 (nI w9) k6b_6 k7b_7 k8 m8 m9 m10 k9 m11 m12 m13 hv, kI cI m1 16 pf, kI cI m7 5 ne2_8]) (xrS (n := 2) (As := [.int (nI w9), .int 2]) (rest := []) hd hK hP hD (n_has l D cI cJ cZ cR _ w9 2 (by omega) (by decide)) (gS t_671 mS_X7_has) hS_X7_has ⟨(Nat.le_of_ble_eq_true rfl), (Nat.le_of_ble_eq_true rfl)⟩ [] rfl rfl rfl hl.1 rfl (Nat.le_of_ble_eq_true rfl) dX7_rule_34 ⟨(Nat.le_of_ble_eq_true rfl), (Nat.le_of_ble_eq_true rfl)⟩) hP hD hS hA [] [0, 1, 2, 3, 4, 5, 6] rfl rfl rfl (by decide) (fun r_35 u_36 H locs hw_37 hP hD hS => ?_)
        have hw_38 : r_35 = (tB w9 2) := hw_37
        subst hw_38
        have hP : va_P D vwCl [kI cI m2 9 ro, kI cI m3 9 re, kI cI m4 9 rn, kI cI m5 27 rg, kX7 m0 (nI z) m1 (nI r9) m2 m3 m4 m5 (nI n9) (nI v) m6 k1 k2 k3 (nI q9) m7 (nI w9) k6b_6 k7b_7 k8 m8 m9 m10 k9 m11 m12 m13 hv, kI cI m1 16 pf, kI cI m7 5 ne2_8] H := hP
        have hD : va_D A [kI cI m2 9 ro, kI cI m3 9 re, kI cI m4 9 rn, kI cI m5 27 rg, kX7 m0 (nI z) m1 (nI r9) m2 m3 m4 m5 (nI n9) (nI v) m6 k1 k2 k3 (nI q9) m7 (nI w9) k6b_6 k7b_7 k8 m8 m9 m10 k9 m11 m12 m13 hv, kI cI m1 16 pf, kI cI m7 5 ne2_8] := hD
        refine lv_if_eq (tgt := 44) hx hb dX7_rule_37 (by decide) (fun c_39 => ?_) (fun c_39 => ?_)
        · skip
          refine lv_iconst (v := 0) hx hb dX7_rule_44 (by decide) ?_
          refine lv_istore_n (lv' := [(1, .int 0), (0, .ref m0)]) hx hb dX7_rule_45 rfl hl (by decide) rfl (fun ls hl => ?_)
          refine lv_iload_n hx hb dX7_rule_46 rfl (lv_at hl 0 rfl) ?_
          refine lv_if_ne (tgt := 54) hx hb dX7_rule_47 (by decide) (fun c_40 => ?_) (fun c_40 => ?_)
          · exact absurd c_40 (by decide)
          refine lv_sipush (v := -1003) hx hb dX7_rule_50 (by decide) ?_
          exact hret _ _ _ _ _ _ (-1003) (nI q9, nI w9, k6b_6, k7b_7, k8, k9, z, r9, ne2_8, ro, re, rn, rg) dX7_rule_53 rfl hS (Nat.le_of_ble_eq_true rfl) (Nat.le_of_ble_eq_true rfl) ⟨hz, hr9, hmr, Or.inl ⟨(fun q => tB_n c_39 (((ro_iff hW hTX).mp q).2 (tB_y c_19))), rfl, rfl, rfl, rfl, rfl, rfl, rfl⟩, Or.inr ⟨rfl, rfl, rfl, rfl, rfl, rfl⟩⟩ (hP.sub [4, 5, 6, 0, 1, 2, 3] rfl) (hD.sub [4, 5, 6, 0, 1, 2, 3] rfl rfl)
        · skip
          refine lv_iconst (v := 1) hx hb dX7_rule_40 (by decide) ?_
          refine lv_goto (tgt := 45) hx hb dX7_rule_41 (by decide) ?_
          refine lv_istore_n (lv' := [(1, .int 1), (0, .ref m0)]) hx hb dX7_rule_45 rfl hl (by decide) rfl (fun ls hl => ?_)
          refine lv_iload_n hx hb dX7_rule_46 rfl (lv_at hl 0 rfl) ?_
          refine lv_if_ne (tgt := 54) hx hb dX7_rule_47 (by decide) (fun c_41 => ?_) (fun c_41 => ?_)
          rotate_left
          · exact absurd c_41 (by decide)
          have hRO : RuleOK pf z := (ro_iff hW hTX).mpr ⟨b_and3 (by omega) c_13, fun _ => tB_y c_39⟩
          refine lv_aload_n hx hb dX7_rule_54 rfl (lv_at hl 1 rfl) ?_
          refine va_get (D := D) (ci := 7) (v := .int (nI r9)) (C := RX7) (T := TX7) (N := 27) hx hb hts iT_X7 hown hK1 hP 4 rfl rfl 2 (by decide) (hts _ t_553) (fun _ h9 => h9) rfl dX7_rule_55 ?_
          refine lv_bipush (v := 9) hx hb dX7_rule_58 (by decide) ?_
          refine lv_icmp_ne (tgt := 67) hx hb dX7_rule_60 (by decide) (fun c_42 => ?_) (fun c_42 => ?_)
          · skip
            have hr8 := lt9r hr9 c_42
            have hW3 := okH0.mp (hW.2.2.1 0 (by omega))
            obtain ⟨o9, ho1, ho2, eo9⟩ := wi_rng (a := 65) (b := 67) (by decide) (by decide) hW3
            have hw3 := and3_ge (by omega) c_13
            have eo8 : cL (pf 0) = nI (o9 - 65) := by rw [cL_wi hW3, eo9]; exact pk_sub (a := o9) (b := 65) ho1
            have hqz : (z - 2) / 3 = q9 := by omega
            refine lv_aload_n hx hb dX7_rule_67 rfl (lv_at hl 1 rfl) ?_
            refine va_get (D := D) (ci := 7) (v := .ref m2) (C := RX7) (T := TX7) (N := 27) hx hb hts iT_X7 hown hK1 hP 4 rfl rfl 3 (by decide) (hts _ t_554) (fun _ h9 => h9) rfl dX7_rule_68 ?_
            refine lv_aload_n hx hb dX7_rule_71 rfl (lv_at hl 1 rfl) ?_
            refine va_get (D := D) (ci := 7) (v := .int (nI r9)) (C := RX7) (T := TX7) (N := 27) hx hb hts iT_X7 hown hK1 hP 4 rfl rfl 2 (by decide) (hts _ t_553) (fun _ h9 => h9) rfl dX7_rule_72 ?_
            refine lv_aload_n hx hb dX7_rule_75 rfl (lv_at hl 1 rfl) ?_
            refine va_get (D := D) (ci := 7) (v := .ref m1) (C := RX7) (T := TX7) (N := 27) hx hb hts iT_X7 hown hK1 hP 4 rfl rfl 1 (by decide) (hts _ t_552) (fun _ h9 => h9) rfl dX7_rule_76 ?_
            refine lv_iconst (v := 0) hx hb dX7_rule_79 (by decide) ?_
            refine va_iald hx hb hK1 hP 5 0 rfl rfl (vin (by decide)) dX7_rule_80 ?_
            refine lv_nmi (show _ = pf 0 from rfl) ?_
            refine lv_bipush (v := 65) hx hb dX7_rule_81 (by decide) ?_
            refine lv_isub hx hb dX7_rule_83 ?_
            refine lv_nmi (show _ = (nI (o9 - 65) : Int32) from (show pf 0 - 65 = _ from by rw [eo9]; exact pk_sub (a := o9) (b := 65) ho1)) ?_
            refine va_iast hx hb hK1 hP hD hS 0 0 rfl rfl (vp_in_nI (by omega) (by omega)) dX7_rule_84 (fun H locs hP hD hS => ?_)
            rw [nI_clamp (n := r9) (by omega)] at hP hD
            have hP : va_P D vwCl [kI cI m2 9 (upd ro r9 (nI (o9 - 65))), kI cI m3 9 re, kI cI m4 9 rn, kI cI m5 27 rg, kX7 m0 (nI z) m1 (nI r9) m2 m3 m4 m5 (nI n9) (nI v) m6 k1 k2 k3 (nI q9) m7 (nI w9) k6b_6 k7b_7 k8 m8 m9 m10 k9 m11 m12 m13 hv, kI cI m1 16 pf, kI cI m7 5 ne2_8] H := hP
            have hD : va_D A [kI cI m2 9 (upd ro r9 (nI (o9 - 65))), kI cI m3 9 re, kI cI m4 9 rn, kI cI m5 27 rg, kX7 m0 (nI z) m1 (nI r9) m2 m3 m4 m5 (nI n9) (nI v) m6 k1 k2 k3 (nI q9) m7 (nI w9) k6b_6 k7b_7 k8 m8 m9 m10 k9 m11 m12 m13 hv, kI cI m1 16 pf, kI cI m7 5 ne2_8] := hD
            refine lv_aload_n hx hb dX7_rule_85 rfl (lv_at hl 1 rfl) ?_
            refine va_get (D := D) (ci := 7) (v := .ref m3) (C := RX7) (T := TX7) (N := 27) hx hb hts iT_X7 hown hK1 hP 4 rfl rfl 4 (by decide) (hts _ t_555) (fun _ h9 => h9) rfl dX7_rule_86 ?_
            refine lv_aload_n hx hb dX7_rule_89 rfl (lv_at hl 1 rfl) ?_
            refine va_get (D := D) (ci := 7) (v := .int (nI r9)) (C := RX7) (T := TX7) (N := 27) hx hb hts iT_X7 hown hK1 hP 4 rfl rfl 2 (by decide) (hts _ t_553) (fun _ h9 => h9) rfl dX7_rule_90 ?_
            refine lv_aload_n hx hb dX7_rule_93 rfl (lv_at hl 1 rfl) ?_
            refine va_get (D := D) (ci := 7) (v := .int (nI q9)) (C := RX7) (T := TX7) (N := 27) hx hb hts iT_X7 hown hK1 hP 4 rfl rfl 13 (by decide) (hts _ t_564) (fun _ h9 => h9) rfl dX7_rule_94 ?_
            refine va_iast hx hb hK1 hP hD hS 1 0 rfl rfl (vp_in_nI (by omega) (by omega)) dX7_rule_97 (fun H locs hP hD hS => ?_)
            rw [nI_clamp (n := r9) (by omega)] at hP hD
            have hP : va_P D vwCl [kI cI m2 9 (upd ro r9 (nI (o9 - 65))), kI cI m3 9 (upd re r9 (nI q9)), kI cI m4 9 rn, kI cI m5 27 rg, kX7 m0 (nI z) m1 (nI r9) m2 m3 m4 m5 (nI n9) (nI v) m6 k1 k2 k3 (nI q9) m7 (nI w9) k6b_6 k7b_7 k8 m8 m9 m10 k9 m11 m12 m13 hv, kI cI m1 16 pf, kI cI m7 5 ne2_8] H := hP
            have hD : va_D A [kI cI m2 9 (upd ro r9 (nI (o9 - 65))), kI cI m3 9 (upd re r9 (nI q9)), kI cI m4 9 rn, kI cI m5 27 rg, kX7 m0 (nI z) m1 (nI r9) m2 m3 m4 m5 (nI n9) (nI v) m6 k1 k2 k3 (nI q9) m7 (nI w9) k6b_6 k7b_7 k8 m8 m9 m10 k9 m11 m12 m13 hv, kI cI m1 16 pf, kI cI m7 5 ne2_8] := hD
            refine lv_aload_n hx hb dX7_rule_98 rfl (lv_at hl 1 rfl) ?_
            refine va_get (D := D) (ci := 7) (v := .ref m4) (C := RX7) (T := TX7) (N := 27) hx hb hts iT_X7 hown hK1 hP 4 rfl rfl 5 (by decide) (hts _ t_556) (fun _ h9 => h9) rfl dX7_rule_99 ?_
            refine lv_aload_n hx hb dX7_rule_102 rfl (lv_at hl 1 rfl) ?_
            refine va_get (D := D) (ci := 7) (v := .int (nI r9)) (C := RX7) (T := TX7) (N := 27) hx hb hts iT_X7 hown hK1 hP 4 rfl rfl 2 (by decide) (hts _ t_553) (fun _ h9 => h9) rfl dX7_rule_103 ?_
            refine lv_aload_n hx hb dX7_rule_106 rfl (lv_at hl 1 rfl) ?_
            refine va_get (D := D) (ci := 7) (v := .int (nI w9)) (C := RX7) (T := TX7) (N := 27) hx hb hts iT_X7 hown hK1 hP 4 rfl rfl 15 (by decide) (hts _ t_566) (fun _ h9 => h9) rfl dX7_rule_107 ?_
            refine xc_i (wc := []) (wr := [kI cI m2 9 (upd ro r9 (nI (o9 - 65))), kI cI m3 9 (upd re r9 (nI q9)), kI cI m4 9 rn, kI cI m5 27 rg, kX7 m0 (nI z) m1 (nI r9) m2 m3 m4 m5 (nI n9) (nI v) m6 k1 k2 k3 (nI q9) m7 (nI w9) k6b_6 k7b_7 k8 m8 m9 m10 k9 m11 m12 m13 hv, kI cI m1 16 pf, kI cI m7 5 ne2_8]) (xrS (n := 1) (As := [.int (nI w9)]) (rest := [.int (nI r9), .ref m4]) hd hK hP hD (c_X7_above l D cI cJ cZ cR _ w9 (by omega)) (gS t_674 mS_X7_above) hS_X7_above ⟨(Nat.le_of_ble_eq_true rfl), (Nat.le_of_ble_eq_true rfl)⟩ [] rfl rfl rfl hl.1 rfl (Nat.le_of_ble_eq_true rfl) dX7_rule_110 ⟨(Nat.le_of_ble_eq_true rfl), (Nat.le_of_ble_eq_true rfl)⟩) hP hD hS hA [] [0, 1, 2, 3, 4, 5, 6] rfl rfl rfl (by decide) (fun r_43 u_44 H locs hw_45 hP hD hS => ?_)
            obtain ⟨k_46, rfl⟩ : ∃ z9, z9 = u_44 := ⟨_, rfl⟩
            obtain ⟨hw_47, hw_48, hw_49, hw_50⟩ : (r_43 = (nI k_46)) ∧ (k_46 ≤ 5) ∧ (k_46 = 0 ∨ 2 ^ (k_46 - 1) ≤ w9) ∧ (w9 < 2 ^ k_46) := hw_45
            subst hw_47
            have hk5 := hw_48
            have hklo := hw_49
            have hkhi := hw_50
            have hP : va_P D vwCl [kI cI m2 9 (upd ro r9 (nI (o9 - 65))), kI cI m3 9 (upd re r9 (nI q9)), kI cI m4 9 rn, kI cI m5 27 rg, kX7 m0 (nI z) m1 (nI r9) m2 m3 m4 m5 (nI n9) (nI v) m6 k1 k2 k3 (nI q9) m7 (nI w9) k6b_6 k7b_7 k8 m8 m9 m10 k9 m11 m12 m13 hv, kI cI m1 16 pf, kI cI m7 5 ne2_8] H := hP
            have hD : va_D A [kI cI m2 9 (upd ro r9 (nI (o9 - 65))), kI cI m3 9 (upd re r9 (nI q9)), kI cI m4 9 rn, kI cI m5 27 rg, kX7 m0 (nI z) m1 (nI r9) m2 m3 m4 m5 (nI n9) (nI v) m6 k1 k2 k3 (nI q9) m7 (nI w9) k6b_6 k7b_7 k8 m8 m9 m10 k9 m11 m12 m13 hv, kI cI m1 16 pf, kI cI m7 5 ne2_8] := hD
            refine va_iast hx hb hK1 hP hD hS 2 0 rfl rfl (vp_in_nI (by omega) (by omega)) dX7_rule_113 (fun H locs hP hD hS => ?_)
            rw [nI_clamp (n := r9) (by omega)] at hP hD
            have hP : va_P D vwCl [kI cI m2 9 (upd ro r9 (nI (o9 - 65))), kI cI m3 9 (upd re r9 (nI q9)), kI cI m4 9 (upd rn r9 (nI k_46)), kI cI m5 27 rg, kX7 m0 (nI z) m1 (nI r9) m2 m3 m4 m5 (nI n9) (nI v) m6 k1 k2 k3 (nI q9) m7 (nI w9) k6b_6 k7b_7 k8 m8 m9 m10 k9 m11 m12 m13 hv, kI cI m1 16 pf, kI cI m7 5 ne2_8] H := hP
            have hD : va_D A [kI cI m2 9 (upd ro r9 (nI (o9 - 65))), kI cI m3 9 (upd re r9 (nI q9)), kI cI m4 9 (upd rn r9 (nI k_46)), kI cI m5 27 rg, kX7 m0 (nI z) m1 (nI r9) m2 m3 m4 m5 (nI n9) (nI v) m6 k1 k2 k3 (nI q9) m7 (nI w9) k6b_6 k7b_7 k8 m8 m9 m10 k9 m11 m12 m13 hv, kI cI m1 16 pf, kI cI m7 5 ne2_8] := hD
            refine lv_iconst (v := 0) hx hb dX7_rule_114 (by decide) ?_
            refine lv_istore_n (lv' := [(2, .int 0), (1, .int 1), (0, .ref m0)]) hx hb dX7_rule_115 rfl hl (by decide) rfl (fun ls hl => ?_)
            have LOOP_116 : ∀ (n : Nat) (i : Nat) (gx : Nat → Int32), (i + n = q9) → (∀ j, j < i → gx (3 * r9 + j) = ne2_8 j) → (∀ j, j < 3 * r9 → gx j = rg j) → ∀ (H : Heap) (locs : List Loc) (ls : Array Slot), va_P D vwCl [kI cI m2 9 (upd ro r9 (nI (o9 - 65))), kI cI m3 9 (upd re r9 (nI q9)), kI cI m4 9 (upd rn r9 (nI k_46)), kI cI m5 27 gx, kX7 m0 (nI z) m1 (nI r9) m2 m3 m4 m5 (nI n9) (nI v) m6 k1 k2 k3 (nI q9) m7 (nI w9) k6b_6 k7b_7 k8 m8 m9 m10 k9 m11 m12 m13 hv, kI cI m1 16 pf, kI cI m7 5 ne2_8] H → va_D A [kI cI m2 9 (upd ro r9 (nI (o9 - 65))), kI cI m3 9 (upd re r9 (nI q9)), kI cI m4 9 (upd rn r9 (nI k_46)), kI cI m5 27 gx, kX7 m0 (nI z) m1 (nI r9) m2 m3 m4 m5 (nI n9) (nI v) m6 k1 k2 k3 (nI q9) m7 (nI w9) k6b_6 k7b_7 k8 m8 m9 m10 k9 m11 m12 m13 hv, kI cI m1 16 pf, kI cI m7 5 ne2_8] → va_S A s.heap H locs → lv_has ls 3 [(0, .ref m0), (2, .int (nI i))] → W p l e (rM 6 0 0 132) s m ([.ref m0] : List Value).toArray below meth c H locs 0 0 Q (F0 m 116 ls []) := by
              intro n
              induction n with
              | zero =>
                intro i gx hi hg1 hg2 H locs ls hP hD hS hl
                refine lv_iload_n hx hb dX7_rule_116 rfl (lv_at hl 1 rfl) ?_
                refine lv_aload_n hx hb dX7_rule_117 rfl (lv_at hl 0 rfl) ?_
                refine va_get (D := D) (ci := 7) (v := .int (nI q9)) (C := RX7) (T := TX7) (N := 27) hx hb hts iT_X7 hown hK1 hP 4 rfl rfl 13 (by decide) (hts _ t_564) (fun _ h9 => h9) rfl dX7_rule_118 ?_
                refine lv_icmp_ge (tgt := 149) hx hb dX7_rule_121 (by decide) (fun c_51 => ?_) (fun c_51 => ?_)
                rotate_left
                · exact absurd (nI_le (a := q9) (b := i) (by omega) (by omega)) c_51
                refine lv_aload_n hx hb dX7_rule_149 rfl (lv_at hl 0 rfl) ?_
                refine lv_dup hx hb dX7_rule_150 rfl ?_
                refine va_get (D := D) (ci := 7) (v := .int (nI r9)) (C := RX7) (T := TX7) (N := 27) hx hb hts iT_X7 hown hK1 hP 4 rfl rfl 2 (by decide) (hts _ t_553) (fun _ h9 => h9) rfl dX7_rule_151 ?_
                refine lv_iconst (v := 1) hx hb dX7_rule_154 (by decide) ?_
                refine lv_iadd hx hb dX7_rule_155 ?_
                refine lv_nmi (show _ = (nI (r9 + 1)) from nI_add (r9) (1)) ?_
                refine va_put (D := D) (ci := 7) (v := .int (nI (r9 + 1))) (ty := .int) (C := RX7) (T := TX7) (N := 27) hx hb hts iT_X7 tyX7 tyX7_ok nmX7 hown hK1 hP hD hS 4 rfl rfl 2 (by decide) (hts _ t_553) (fun _ h9 => h9) rfl (by decide +kernel) rfl rfl (Nat.le_of_ble_eq_true rfl) dX7_rule_156 (fun H locs hP hD hS => ?_)
                have hP : va_P D vwCl [kI cI m2 9 (upd ro r9 (nI (o9 - 65))), kI cI m3 9 (upd re r9 (nI q9)), kI cI m4 9 (upd rn r9 (nI k_46)), kI cI m5 27 gx, kX7 m0 (nI z) m1 (nI (r9 + 1)) m2 m3 m4 m5 (nI n9) (nI v) m6 k1 k2 k3 (nI q9) m7 (nI w9) k6b_6 k7b_7 k8 m8 m9 m10 k9 m11 m12 m13 hv, kI cI m1 16 pf, kI cI m7 5 ne2_8] H := hP
                have hD : va_D A [kI cI m2 9 (upd ro r9 (nI (o9 - 65))), kI cI m3 9 (upd re r9 (nI q9)), kI cI m4 9 (upd rn r9 (nI k_46)), kI cI m5 27 gx, kX7 m0 (nI z) m1 (nI (r9 + 1)) m2 m3 m4 m5 (nI n9) (nI v) m6 k1 k2 k3 (nI q9) m7 (nI w9) k6b_6 k7b_7 k8 m8 m9 m10 k9 m11 m12 m13 hv, kI cI m1 16 pf, kI cI m7 5 ne2_8] := hD
                refine lv_aload_n hx hb dX7_rule_159 rfl (lv_at hl 0 rfl) ?_
                refine lv_iconst (v := 0) hx hb dX7_rule_160 (by decide) ?_
                refine va_put (D := D) (ci := 7) (v := .int 0) (ty := .int) (C := RX7) (T := TX7) (N := 27) hx hb hts iT_X7 tyX7 tyX7_ok nmX7 hown hK1 hP hD hS 4 rfl rfl 0 (by decide) (hts _ t_551) (fun _ h9 => h9) rfl (by decide +kernel) rfl rfl (Nat.le_of_ble_eq_true rfl) dX7_rule_161 (fun H locs hP hD hS => ?_)
                have hP : va_P D vwCl [kI cI m2 9 (upd ro r9 (nI (o9 - 65))), kI cI m3 9 (upd re r9 (nI q9)), kI cI m4 9 (upd rn r9 (nI k_46)), kI cI m5 27 gx, kX7 m0 0 m1 (nI (r9 + 1)) m2 m3 m4 m5 (nI n9) (nI v) m6 k1 k2 k3 (nI q9) m7 (nI w9) k6b_6 k7b_7 k8 m8 m9 m10 k9 m11 m12 m13 hv, kI cI m1 16 pf, kI cI m7 5 ne2_8] H := hP
                have hD : va_D A [kI cI m2 9 (upd ro r9 (nI (o9 - 65))), kI cI m3 9 (upd re r9 (nI q9)), kI cI m4 9 (upd rn r9 (nI k_46)), kI cI m5 27 gx, kX7 m0 0 m1 (nI (r9 + 1)) m2 m3 m4 m5 (nI n9) (nI v) m6 k1 k2 k3 (nI q9) m7 (nI w9) k6b_6 k7b_7 k8 m8 m9 m10 k9 m11 m12 m13 hv, kI cI m1 16 pf, kI cI m7 5 ne2_8] := hD
                refine lv_aload_n hx hb dX7_rule_164 rfl (lv_at hl 0 rfl) ?_
                refine xc_v (wc := [kX7 m0 0 m1 (nI (r9 + 1)) m2 m3 m4 m5 (nI n9) (nI v) m6 k1 k2 k3 (nI q9) m7 (nI w9) k6b_6 k7b_7 k8 m8 m9 m10 k9 m11 m12 m13 hv]) (wr := [kI cI m2 9 (upd ro r9 (nI (o9 - 65))), kI cI m3 9 (upd re r9 (nI q9)), kI cI m4 9 (upd rn r9 (nI k_46)), kI cI m5 27 gx, kI cI m1 16 pf, kI cI m7 5 ne2_8]) (xrV (n := 0) (As := []) (rest := []) (ci := 7) (q0 := 4) hd hK hP hD (c_X7_altered l D cI cJ cZ cR _ m0 m1 m2 m3 m4 m5 m6 m7 m8 m9 m10 m11 m12 m13 0 (r9 + 1) n9 v k1 k2 k3 (nI q9) (nI w9) k6b_6 k7b_7 k8 k9 hv ) (gV t_677 mV_X7_altered) hV_X7_altered ⟨(Nat.le_of_ble_eq_true rfl), (Nat.le_of_ble_eq_true rfl)⟩ rfl rfl [4] rfl rfl rfl hl.1 rfl (Nat.le_of_ble_eq_true rfl) dX7_rule_165 ⟨(Nat.le_of_ble_eq_true rfl), (Nat.le_of_ble_eq_true rfl)⟩) hP hD hS hA [4] [0, 1, 2, 3, 5, 6] rfl rfl rfl (by decide) (fun u_53 H locs hw_54 hP hD hS => ?_)
                have hP : va_P D vwCl [kI cI m2 9 (upd ro r9 (nI (o9 - 65))), kI cI m3 9 (upd re r9 (nI q9)), kI cI m4 9 (upd rn r9 (nI k_46)), kI cI m5 27 gx, kI cI m1 16 pf, kI cI m7 5 ne2_8, kX7 m0 (nI 0) m1 (nI (r9 + 1)) m2 m3 m4 m5 (nI n9) (nI v) m6 k1 k2 k3 (nI q9) m7 (nI w9) k6b_6 k7b_7 0 m8 m9 m10 0 m11 m12 m13 hv] H := hP
                have hD : va_D A [kI cI m2 9 (upd ro r9 (nI (o9 - 65))), kI cI m3 9 (upd re r9 (nI q9)), kI cI m4 9 (upd rn r9 (nI k_46)), kI cI m5 27 gx, kI cI m1 16 pf, kI cI m7 5 ne2_8, kX7 m0 (nI 0) m1 (nI (r9 + 1)) m2 m3 m4 m5 (nI n9) (nI v) m6 k1 k2 k3 (nI q9) m7 (nI w9) k6b_6 k7b_7 0 m8 m9 m10 0 m11 m12 m13 hv] := hD
                refine lv_aload_n hx hb dX7_rule_168 rfl (lv_at hl 0 rfl) ?_
                refine va_get (D := D) (ci := 7) (v := .int (nI (r9 + 1))) (C := RX7) (T := TX7) (N := 27) hx hb hts iT_X7 hown hK1 hP 6 rfl rfl 2 (by decide) (hts _ t_553) (fun _ h9 => h9) rfl dX7_rule_169 ?_
                refine lv_iconst (v := 1) hx hb dX7_rule_172 (by decide) ?_
                refine lv_isub hx hb dX7_rule_173 ?_
                refine lv_nmi (show _ = (nI r9 : Int32) from pk_sub (a := r9 + 1) (b := 1) (by omega)) ?_
                exact hret _ _ _ _ _ _ (nI r9) (nI q9, nI w9, k6b_6, k7b_7, 0, 0, 0, (r9 + 1), ne2_8, upd ro r9 (nI (o9 - 65)), upd re r9 (nI q9), upd rn r9 (nI k_46), gx) dX7_rule_174 rfl hS (Nat.le_of_ble_eq_true rfl) (Nat.le_of_ble_eq_true rfl) ⟨Nat.zero_le _, (show r9 + 1 ≤ 9 by omega), MRI_add hmr (by omega) hq1 hq3 (ab_2 hkhi hw3) (ab_4 hklo hw16 hk5) (fun j hj => (show EV 4 (gx (3 * r9 + j)) from by rw [hg1 j (by omega)]; exact EX_EV (hTX.2.2.2.2.2.2.2.1 j (by omega)))) hg2, Or.inr (Or.inr ⟨hRO, hr8, rfl, rfl, rfl, by rw [eo8], by rw [hqz], by rw [nd_ab hTX hRO hklo hkhi hk5], fun j hj => (show EX pf (2 + 3 * j) 4 (gx (3 * r9 + j)) from by rw [hg1 j (by omega)]; exact hTX.2.2.2.2.2.2.2.1 j (by omega)), hg2⟩), Or.inl rfl⟩ (hP.sub [6, 4, 5, 0, 1, 2, 3] rfl) (hD.sub [6, 4, 5, 0, 1, 2, 3] rfl rfl)
              | succ n ih_116 =>
                intro i gx hi hg1 hg2 H locs ls hP hD hS hl
                refine lv_iload_n hx hb dX7_rule_116 rfl (lv_at hl 1 rfl) ?_
                refine lv_aload_n hx hb dX7_rule_117 rfl (lv_at hl 0 rfl) ?_
                refine va_get (D := D) (ci := 7) (v := .int (nI q9)) (C := RX7) (T := TX7) (N := 27) hx hb hts iT_X7 hown hK1 hP 4 rfl rfl 13 (by decide) (hts _ t_564) (fun _ h9 => h9) rfl dX7_rule_118 ?_
                refine lv_icmp_ge (tgt := 149) hx hb dX7_rule_121 (by decide) (fun c_55 => ?_) (fun c_55 => ?_)
                · exact absurd c_55 (nI_ge (a := i) (b := q9) (by omega) (by omega))
                refine lv_aload_n hx hb dX7_rule_124 rfl (lv_at hl 0 rfl) ?_
                refine va_get (D := D) (ci := 7) (v := .ref m5) (C := RX7) (T := TX7) (N := 27) hx hb hts iT_X7 hown hK1 hP 4 rfl rfl 6 (by decide) (hts _ t_557) (fun _ h9 => h9) rfl dX7_rule_125 ?_
                refine lv_iconst (v := 3) hx hb dX7_rule_128 (by decide) ?_
                refine lv_aload_n hx hb dX7_rule_129 rfl (lv_at hl 0 rfl) ?_
                refine va_get (D := D) (ci := 7) (v := .int (nI r9)) (C := RX7) (T := TX7) (N := 27) hx hb hts iT_X7 hown hK1 hP 4 rfl rfl 2 (by decide) (hts _ t_553) (fun _ h9 => h9) rfl dX7_rule_130 ?_
                refine lv_imul hx hb dX7_rule_133 ?_
                refine lv_nmi (show _ = (nI (3 * r9)) from pk_mul (3) (r9)) ?_
                refine lv_iload_n hx hb dX7_rule_134 rfl (lv_at hl 1 rfl) ?_
                refine lv_iadd hx hb dX7_rule_135 ?_
                refine lv_nmi (show _ = (nI ((3 * r9) + i)) from nI_add ((3 * r9)) (i)) ?_
                refine lv_aload_n hx hb dX7_rule_136 rfl (lv_at hl 0 rfl) ?_
                refine va_get (D := D) (ci := 7) (v := .ref m7) (C := RX7) (T := TX7) (N := 27) hx hb hts iT_X7 hown hK1 hP 4 rfl rfl 14 (by decide) (hts _ t_565) (fun _ h9 => h9) rfl dX7_rule_137 ?_
                refine lv_iload_n hx hb dX7_rule_140 rfl (lv_at hl 1 rfl) ?_
                refine va_iald hx hb hK1 hP 6 0 rfl rfl (vp_in_nI (by omega) (by omega)) dX7_rule_141 ?_
                refine lv_nmi (show _ = ne2_8 i from by rw [nI_clamp (n := i) (by omega)]) ?_
                refine va_iast hx hb hK1 hP hD hS 3 0 rfl rfl (vp_in_nI (by omega) (by omega)) dX7_rule_142 (fun H locs hP hD hS => ?_)
                rw [nI_clamp (n := ((3 * r9) + i)) (by omega)] at hP hD
                have hP : va_P D vwCl [kI cI m2 9 (upd ro r9 (nI (o9 - 65))), kI cI m3 9 (upd re r9 (nI q9)), kI cI m4 9 (upd rn r9 (nI k_46)), kI cI m5 27 (upd gx ((3 * r9) + i) (ne2_8 i)), kX7 m0 (nI z) m1 (nI r9) m2 m3 m4 m5 (nI n9) (nI v) m6 k1 k2 k3 (nI q9) m7 (nI w9) k6b_6 k7b_7 k8 m8 m9 m10 k9 m11 m12 m13 hv, kI cI m1 16 pf, kI cI m7 5 ne2_8] H := hP
                have hD : va_D A [kI cI m2 9 (upd ro r9 (nI (o9 - 65))), kI cI m3 9 (upd re r9 (nI q9)), kI cI m4 9 (upd rn r9 (nI k_46)), kI cI m5 27 (upd gx ((3 * r9) + i) (ne2_8 i)), kX7 m0 (nI z) m1 (nI r9) m2 m3 m4 m5 (nI n9) (nI v) m6 k1 k2 k3 (nI q9) m7 (nI w9) k6b_6 k7b_7 k8 m8 m9 m10 k9 m11 m12 m13 hv, kI cI m1 16 pf, kI cI m7 5 ne2_8] := hD
                refine lv_iinc (v := nI (i + 1)) (lv' := [(2, .int (nI (i + 1))), (0, .ref m0)]) hx hb dX7_rule_143 hl (k := 1) rfl (nI_1 i) (by decide) rfl (fun ls hl => ?_)
                refine lv_goto (tgt := 116) hx hb dX7_rule_146 (by decide) ?_
                exact ih_116 (i + 1) (upd gx ((3 * r9) + i) (ne2_8 i)) (by omega) (fun j hj => by by_cases h9 : j = i; subst h9; exact pk_us; rw [pk_un (by omega)]; exact hg1 j (by omega)) (fun j hj => by rw [pk_un (by omega)]; exact hg2 j hj) _ _ _ (hP.sub [0, 1, 2, 3, 4, 5, 6] rfl) (hD.sub [0, 1, 2, 3, 4, 5, 6] rfl rfl) hS (lv_sub hl [1, 0] rfl)
            exact LOOP_116 q9 0 rg (by omega) (fun j hj => absurd hj (by omega)) (fun _ _ => rfl) _ _ _ (hP.sub [0, 1, 2, 3, 4, 5, 6] rfl) (hD.sub [0, 1, 2, 3, 4, 5, 6] rfl rfl) hS (lv_sub hl [2, 0] rfl)
          · skip
            refine lv_sipush (v := -1004) hx hb dX7_rule_63 (by decide) ?_
            exact hret _ _ _ _ _ _ (-1004) (nI q9, nI w9, k6b_6, k7b_7, k8, k9, z, r9, ne2_8, ro, re, rn, rg) dX7_rule_66 rfl hS (Nat.le_of_ble_eq_true rfl) (Nat.le_of_ble_eq_true rfl) ⟨hz, hr9, hmr, Or.inr (Or.inl ⟨hRO, (lt9e hr9 c_42), rfl, rfl, rfl, rfl, rfl, rfl, rfl⟩), Or.inr ⟨rfl, rfl, rfl, rfl, rfl, rfl⟩⟩ (hP.sub [4, 5, 6, 0, 1, 2, 3] rfl) (hD.sub [4, 5, 6, 0, 1, 2, 3] rfl rfl)
set_option maxHeartbeats 4000000 in
set_option maxRecDepth 100000 in
theorem c_X7_drop (sz : Nat) (m0 : Nat) (m1 : Nat) (m2 : Nat) (m3 : Nat) (m4 : Nat) (m5 : Nat) (m6 : Nat) (m7 : Nat) (m8 : Nat) (m9 : Nat) (m10 : Nat) (m11 : Nat) (m12 : Nat) (m13 : Nat) (z : Nat) (r9 : Nat) (n9 : Nat) (v : Nat) (k1 : Int32) (k2 : Int32) (k3 : Int32) (k4 : Int32) (k5 : Int32) (k6 : Int32) (k7 : Int32) (k8 : Int32) (k9 : Int32) (hv : Int64) (ro : Nat → Int32) (re : Nat → Int32) (rn : Nat → Int32) (rg : Nat → Int32) (p0 : Int32) (hr9 : r9 ≤ 9) (hmr : MRI ro re rn rg r9) : CTi l D cI cJ cZ cR yX7_drop cX7_drop 4 (some .int) 2 43 0 0 sz [.ref m0, .int p0] [kX7 m0 (nI z) m1 (nI r9) m2 m3 m4 m5 (nI n9) (nI v) m6 k1 k2 k3 k4 m7 k5 k6 k7 k8 m8 m9 m10 k9 m11 m12 m13 hv, kI cI m2 9 ro, kI cI m3 9 re, kI cI m4 9 rn, kI cI m5 27 rg] (fun (r : Int32) (u : Int32 × Int32 × Nat × (Nat → Int32) × (Nat → Int32) × (Nat → Int32) × (Nat → Int32)) => (u.2.2.1 ≤ 9) ∧ (MRI u.2.2.2.1 u.2.2.2.2.1 u.2.2.2.2.2.1 u.2.2.2.2.2.2 u.2.2.1) ∧ (MDrP p0 r9 ro re rn rg r u.2.2.1 u.2.2.2.1 u.2.2.2.2.1 u.2.2.2.2.2.1 u.2.2.2.2.2.2) ∧ (u.1 = 0 ∨ (u.1 = k8 ∧ u.2.2.1 = r9 ∧ u.2.2.2.1 = ro ∧ u.2.2.2.2.1 = re ∧ u.2.2.2.2.2.1 = rn ∧ u.2.2.2.2.2.2 = rg))) (fun (u : Int32 × Int32 × Nat × (Nat → Int32) × (Nat → Int32) × (Nat → Int32) × (Nat → Int32)) => [kX7 m0 (nI z) m1 (nI u.2.2.1) m2 m3 m4 m5 (nI n9) (nI v) m6 k1 k2 k3 k4 m7 k5 k6 k7 u.1 m8 m9 m10 u.2.1 m11 m12 m13 hv, kI cI m2 9 u.2.2.2.1, kI cI m3 9 u.2.2.2.2.1, kI cI m4 9 u.2.2.2.2.2.1, kI cI m5 27 u.2.2.2.2.2.2]) := by
  refine CTi.of (ty := .int) (by decide) (Nat.le_of_ble_eq_true rfl) rfl ?_
  intro p e s m below meth c A Q ls hd hin hK hsz hP hD hA hS hl hret
  obtain ⟨hx, hb, hml, hown, hts⟩ := id hd
  have hK1 := hK.1
  have hown : s.vm.findClass RX7 = some m.cls := hown
  have hl : lv_has ls 4 [(0, .ref m0), (1, .int p0)] := hl
  refine lv_aload_n hx hb dX7_drop_0 rfl (lv_at hl 0 rfl) ?_
  refine lv_iload_n hx hb dX7_drop_1 rfl (lv_at hl 1 rfl) ?_
  refine xc_i (wc := [kX7 m0 (nI z) m1 (nI r9) m2 m3 m4 m5 (nI n9) (nI v) m6 k1 k2 k3 k4 m7 k5 k6 k7 k8 m8 m9 m10 k9 m11 m12 m13 hv]) (wr := [kI cI m2 9 ro, kI cI m3 9 re, kI cI m4 9 rn, kI cI m5 27 rg]) (xrV (n := 1) (As := [.int p0]) (rest := []) (ci := 7) (q0 := 0) hd hK hP hD (c_X7_isRule l D cI cJ cZ cR _ m0 m1 m2 m3 m4 m5 m6 m7 m8 m9 m10 m11 m12 m13 z r9 n9 v k1 k2 k3 k4 k5 k6 k7 k8 k9 hv p0 ) (gV t_685 mV_X7_isRule) hV_X7_isRule ⟨(Nat.le_of_ble_eq_true rfl), (Nat.le_of_ble_eq_true rfl)⟩ rfl rfl [0] rfl rfl rfl hl.1 rfl (Nat.le_of_ble_eq_true rfl) dX7_drop_2 ⟨(Nat.le_of_ble_eq_true rfl), (Nat.le_of_ble_eq_true rfl)⟩) hP hD hS hA [0] [1, 2, 3, 4] rfl rfl rfl (by decide) (fun r_1 u_2 H locs hw_3 hP hD hS => ?_)
  have hw_4 : r_1 = (wi p0 0 (nI r9 - 1)) := hw_3
  subst hw_4
  have hP : va_P D vwCl [kI cI m2 9 ro, kI cI m3 9 re, kI cI m4 9 rn, kI cI m5 27 rg, kX7 m0 (nI z) m1 (nI r9) m2 m3 m4 m5 (nI n9) (nI v) m6 k1 k2 k3 k4 m7 k5 k6 k7 k8 m8 m9 m10 k9 m11 m12 m13 hv] H := hP
  have hD : va_D A [kI cI m2 9 ro, kI cI m3 9 re, kI cI m4 9 rn, kI cI m5 27 rg, kX7 m0 (nI z) m1 (nI r9) m2 m3 m4 m5 (nI n9) (nI v) m6 k1 k2 k3 k4 m7 k5 k6 k7 k8 m8 m9 m10 k9 m11 m12 m13 hv] := hD
  refine lv_if_ne (tgt := 12) hx hb dX7_drop_5 (by decide) (fun c_5 => ?_) (fun c_5 => ?_)
  · skip
    obtain ⟨j9, hj9, ej9⟩ := wi_ix (by omega) c_5
    refine lv_aload_n hx hb dX7_drop_12 rfl (lv_at hl 0 rfl) ?_
    refine lv_dup hx hb dX7_drop_13 rfl ?_
    refine va_get (D := D) (ci := 7) (v := .int (nI r9)) (C := RX7) (T := TX7) (N := 27) hx hb hts iT_X7 hown hK1 hP 4 rfl rfl 2 (by decide) (hts _ t_553) (fun _ h9 => h9) rfl dX7_drop_14 ?_
    refine lv_iconst (v := 1) hx hb dX7_drop_17 (by decide) ?_
    refine lv_isub hx hb dX7_drop_18 ?_
    refine lv_nmi (show _ = (nI (r9 - 1) : Int32) from pk_sub (a := r9) (b := 1) (by omega)) ?_
    refine va_put (D := D) (ci := 7) (v := .int (nI (r9 - 1))) (ty := .int) (C := RX7) (T := TX7) (N := 27) hx hb hts iT_X7 tyX7 tyX7_ok nmX7 hown hK1 hP hD hS 4 rfl rfl 2 (by decide) (hts _ t_553) (fun _ h9 => h9) rfl (by decide +kernel) rfl rfl (Nat.le_of_ble_eq_true rfl) dX7_drop_19 (fun H locs hP hD hS => ?_)
    have hP : va_P D vwCl [kI cI m2 9 ro, kI cI m3 9 re, kI cI m4 9 rn, kI cI m5 27 rg, kX7 m0 (nI z) m1 (nI (r9 - 1)) m2 m3 m4 m5 (nI n9) (nI v) m6 k1 k2 k3 k4 m7 k5 k6 k7 k8 m8 m9 m10 k9 m11 m12 m13 hv] H := hP
    have hD : va_D A [kI cI m2 9 ro, kI cI m3 9 re, kI cI m4 9 rn, kI cI m5 27 rg, kX7 m0 (nI z) m1 (nI (r9 - 1)) m2 m3 m4 m5 (nI n9) (nI v) m6 k1 k2 k3 k4 m7 k5 k6 k7 k8 m8 m9 m10 k9 m11 m12 m13 hv] := hD
    refine lv_iload_n hx hb dX7_drop_22 rfl (lv_at hl 1 rfl) ?_
    refine lv_nmi (show _ = (nI j9 : Int32) from ej9) ?_
    refine lv_istore_n (lv' := [(2, .int (nI j9)), (0, .ref m0), (1, .int p0)]) hx hb dX7_drop_23 rfl hl (by decide) rfl (fun ls hl => ?_)
    have LOOP_24 : ∀ (n : Nat) (i : Nat) (qo : Nat → Int32) (qe : Nat → Int32) (qn : Nat → Int32) (qg : Nat → Int32), (i + n = r9 - 1) → (j9 ≤ i) → (SHf ro qo j9 i) → (SHf re qe j9 i) → (SHf rn qn j9 i) → (SH3 rg qg j9 i) → ∀ (H : Heap) (locs : List Loc) (ls : Array Slot), va_P D vwCl [kI cI m2 9 qo, kI cI m3 9 qe, kI cI m4 9 qn, kI cI m5 27 qg, kX7 m0 (nI z) m1 (nI (r9 - 1)) m2 m3 m4 m5 (nI n9) (nI v) m6 k1 k2 k3 k4 m7 k5 k6 k7 k8 m8 m9 m10 k9 m11 m12 m13 hv] H → va_D A [kI cI m2 9 qo, kI cI m3 9 qe, kI cI m4 9 qn, kI cI m5 27 qg, kX7 m0 (nI z) m1 (nI (r9 - 1)) m2 m3 m4 m5 (nI n9) (nI v) m6 k1 k2 k3 k4 m7 k5 k6 k7 k8 m8 m9 m10 k9 m11 m12 m13 hv] → va_S A s.heap H locs → lv_has ls 4 [(0, .ref m0), (1, .int p0), (2, .int (nI i))] → W p l e (rM 2 0 0 43) s m ([.ref m0, .int p0] : List Value).toArray below meth c H locs 0 0 Q (F0 m 24 ls []) := by
      intro n
      induction n with
      | zero =>
        intro i qo qe qn qg hi hji h1 h2 h3 h4 H locs ls hP hD hS hl
        refine lv_iload_n hx hb dX7_drop_24 rfl (lv_at hl 2 rfl) ?_
        refine lv_aload_n hx hb dX7_drop_25 rfl (lv_at hl 0 rfl) ?_
        refine va_get (D := D) (ci := 7) (v := .int (nI (r9 - 1))) (C := RX7) (T := TX7) (N := 27) hx hb hts iT_X7 hown hK1 hP 4 rfl rfl 2 (by decide) (hts _ t_553) (fun _ h9 => h9) rfl dX7_drop_26 ?_
        refine lv_icmp_ge (tgt := 115) hx hb dX7_drop_29 (by decide) (fun c_6 => ?_) (fun c_6 => ?_)
        rotate_left
        · exact absurd (nI_le (a := (r9 - 1)) (b := i) (by omega) (by omega)) c_6
        refine lv_aload_n hx hb dX7_drop_115 rfl (lv_at hl 0 rfl) ?_
        refine xc_v (wc := [kX7 m0 (nI z) m1 (nI (r9 - 1)) m2 m3 m4 m5 (nI n9) (nI v) m6 k1 k2 k3 k4 m7 k5 k6 k7 k8 m8 m9 m10 k9 m11 m12 m13 hv]) (wr := [kI cI m2 9 qo, kI cI m3 9 qe, kI cI m4 9 qn, kI cI m5 27 qg]) (xrV (n := 0) (As := []) (rest := []) (ci := 7) (q0 := 4) hd hK hP hD (c_X7_altered l D cI cJ cZ cR _ m0 m1 m2 m3 m4 m5 m6 m7 m8 m9 m10 m11 m12 m13 z (r9 - 1) n9 v k1 k2 k3 k4 k5 k6 k7 k8 k9 hv ) (gV t_677 mV_X7_altered) hV_X7_altered ⟨(Nat.le_of_ble_eq_true rfl), (Nat.le_of_ble_eq_true rfl)⟩ rfl rfl [4] rfl rfl rfl hl.1 rfl (Nat.le_of_ble_eq_true rfl) dX7_drop_116 ⟨(Nat.le_of_ble_eq_true rfl), (Nat.le_of_ble_eq_true rfl)⟩) hP hD hS hA [4] [0, 1, 2, 3] rfl rfl rfl (by decide) (fun u_8 H locs hw_9 hP hD hS => ?_)
        have hP : va_P D vwCl [kI cI m2 9 qo, kI cI m3 9 qe, kI cI m4 9 qn, kI cI m5 27 qg, kX7 m0 (nI z) m1 (nI (r9 - 1)) m2 m3 m4 m5 (nI n9) (nI v) m6 k1 k2 k3 k4 m7 k5 k6 k7 0 m8 m9 m10 0 m11 m12 m13 hv] H := hP
        have hD : va_D A [kI cI m2 9 qo, kI cI m3 9 qe, kI cI m4 9 qn, kI cI m5 27 qg, kX7 m0 (nI z) m1 (nI (r9 - 1)) m2 m3 m4 m5 (nI n9) (nI v) m6 k1 k2 k3 k4 m7 k5 k6 k7 0 m8 m9 m10 0 m11 m12 m13 hv] := hD
        refine lv_aload_n hx hb dX7_drop_119 rfl (lv_at hl 0 rfl) ?_
        refine va_get (D := D) (ci := 7) (v := .int (nI (r9 - 1))) (C := RX7) (T := TX7) (N := 27) hx hb hts iT_X7 hown hK1 hP 4 rfl rfl 2 (by decide) (hts _ t_553) (fun _ h9 => h9) rfl dX7_drop_120 ?_
        exact hret _ _ _ _ _ _ (nI (r9 - 1)) (0, 0, (r9 - 1), qo, qe, qn, qg) dX7_drop_123 rfl hS (Nat.le_of_ble_eq_true rfl) (Nat.le_of_ble_eq_true rfl) ⟨(show r9 - 1 ≤ 9 by omega), MRI_drop hmr hr9 hj9 (by rw [show r9 - 1 = i by omega]; exact h1) (by rw [show r9 - 1 = i by omega]; exact h2) (by rw [show r9 - 1 = i by omega]; exact h3) (by rw [show r9 - 1 = i by omega]; exact h4), Or.inr ⟨j9, hj9, ej9, rfl, rfl, (by rw [show r9 - 1 = i by omega]; exact h1), (by rw [show r9 - 1 = i by omega]; exact h2), (by rw [show r9 - 1 = i by omega]; exact h3), (by rw [show r9 - 1 = i by omega]; exact h4)⟩, Or.inl rfl⟩ (hP.sub [4, 0, 1, 2, 3] rfl) (hD.sub [4, 0, 1, 2, 3] rfl rfl)
      | succ n ih_24 =>
        intro i qo qe qn qg hi hji h1 h2 h3 h4 H locs ls hP hD hS hl
        refine lv_iload_n hx hb dX7_drop_24 rfl (lv_at hl 2 rfl) ?_
        refine lv_aload_n hx hb dX7_drop_25 rfl (lv_at hl 0 rfl) ?_
        refine va_get (D := D) (ci := 7) (v := .int (nI (r9 - 1))) (C := RX7) (T := TX7) (N := 27) hx hb hts iT_X7 hown hK1 hP 4 rfl rfl 2 (by decide) (hts _ t_553) (fun _ h9 => h9) rfl dX7_drop_26 ?_
        refine lv_icmp_ge (tgt := 115) hx hb dX7_drop_29 (by decide) (fun c_10 => ?_) (fun c_10 => ?_)
        · exact absurd c_10 (nI_ge (a := i) (b := (r9 - 1)) (by omega) (by omega))
        refine lv_aload_n hx hb dX7_drop_32 rfl (lv_at hl 0 rfl) ?_
        refine va_get (D := D) (ci := 7) (v := .ref m2) (C := RX7) (T := TX7) (N := 27) hx hb hts iT_X7 hown hK1 hP 4 rfl rfl 3 (by decide) (hts _ t_554) (fun _ h9 => h9) rfl dX7_drop_33 ?_
        refine lv_iload_n hx hb dX7_drop_36 rfl (lv_at hl 2 rfl) ?_
        refine lv_aload_n hx hb dX7_drop_37 rfl (lv_at hl 0 rfl) ?_
        refine va_get (D := D) (ci := 7) (v := .ref m2) (C := RX7) (T := TX7) (N := 27) hx hb hts iT_X7 hown hK1 hP 4 rfl rfl 3 (by decide) (hts _ t_554) (fun _ h9 => h9) rfl dX7_drop_38 ?_
        refine lv_iload_n hx hb dX7_drop_41 rfl (lv_at hl 2 rfl) ?_
        refine lv_iconst (v := 1) hx hb dX7_drop_42 (by decide) ?_
        refine lv_iadd hx hb dX7_drop_43 ?_
        refine lv_nmi (show _ = (nI (i + 1)) from nI_add (i) (1)) ?_
        refine va_iald hx hb hK1 hP 0 0 rfl rfl (vp_in_nI (by omega) (by omega)) dX7_drop_44 ?_
        refine lv_nmi (show _ = qo (i + 1) from by rw [nI_clamp (n := (i + 1)) (by omega)]) ?_
        refine va_iast hx hb hK1 hP hD hS 0 0 rfl rfl (vp_in_nI (by omega) (by omega)) dX7_drop_45 (fun H locs hP hD hS => ?_)
        rw [nI_clamp (n := i) (by omega)] at hP hD
        have hP : va_P D vwCl [kI cI m2 9 (upd qo i (qo (i + 1))), kI cI m3 9 qe, kI cI m4 9 qn, kI cI m5 27 qg, kX7 m0 (nI z) m1 (nI (r9 - 1)) m2 m3 m4 m5 (nI n9) (nI v) m6 k1 k2 k3 k4 m7 k5 k6 k7 k8 m8 m9 m10 k9 m11 m12 m13 hv] H := hP
        have hD : va_D A [kI cI m2 9 (upd qo i (qo (i + 1))), kI cI m3 9 qe, kI cI m4 9 qn, kI cI m5 27 qg, kX7 m0 (nI z) m1 (nI (r9 - 1)) m2 m3 m4 m5 (nI n9) (nI v) m6 k1 k2 k3 k4 m7 k5 k6 k7 k8 m8 m9 m10 k9 m11 m12 m13 hv] := hD
        refine lv_aload_n hx hb dX7_drop_46 rfl (lv_at hl 0 rfl) ?_
        refine va_get (D := D) (ci := 7) (v := .ref m3) (C := RX7) (T := TX7) (N := 27) hx hb hts iT_X7 hown hK1 hP 4 rfl rfl 4 (by decide) (hts _ t_555) (fun _ h9 => h9) rfl dX7_drop_47 ?_
        refine lv_iload_n hx hb dX7_drop_50 rfl (lv_at hl 2 rfl) ?_
        refine lv_aload_n hx hb dX7_drop_51 rfl (lv_at hl 0 rfl) ?_
        refine va_get (D := D) (ci := 7) (v := .ref m3) (C := RX7) (T := TX7) (N := 27) hx hb hts iT_X7 hown hK1 hP 4 rfl rfl 4 (by decide) (hts _ t_555) (fun _ h9 => h9) rfl dX7_drop_52 ?_
        refine lv_iload_n hx hb dX7_drop_55 rfl (lv_at hl 2 rfl) ?_
        refine lv_iconst (v := 1) hx hb dX7_drop_56 (by decide) ?_
        refine lv_iadd hx hb dX7_drop_57 ?_
        refine lv_nmi (show _ = (nI (i + 1)) from nI_add (i) (1)) ?_
        refine va_iald hx hb hK1 hP 1 0 rfl rfl (vp_in_nI (by omega) (by omega)) dX7_drop_58 ?_
        refine lv_nmi (show _ = qe (i + 1) from by rw [nI_clamp (n := (i + 1)) (by omega)]) ?_
        refine va_iast hx hb hK1 hP hD hS 1 0 rfl rfl (vp_in_nI (by omega) (by omega)) dX7_drop_59 (fun H locs hP hD hS => ?_)
        rw [nI_clamp (n := i) (by omega)] at hP hD
        have hP : va_P D vwCl [kI cI m2 9 (upd qo i (qo (i + 1))), kI cI m3 9 (upd qe i (qe (i + 1))), kI cI m4 9 qn, kI cI m5 27 qg, kX7 m0 (nI z) m1 (nI (r9 - 1)) m2 m3 m4 m5 (nI n9) (nI v) m6 k1 k2 k3 k4 m7 k5 k6 k7 k8 m8 m9 m10 k9 m11 m12 m13 hv] H := hP
        have hD : va_D A [kI cI m2 9 (upd qo i (qo (i + 1))), kI cI m3 9 (upd qe i (qe (i + 1))), kI cI m4 9 qn, kI cI m5 27 qg, kX7 m0 (nI z) m1 (nI (r9 - 1)) m2 m3 m4 m5 (nI n9) (nI v) m6 k1 k2 k3 k4 m7 k5 k6 k7 k8 m8 m9 m10 k9 m11 m12 m13 hv] := hD
        refine lv_aload_n hx hb dX7_drop_60 rfl (lv_at hl 0 rfl) ?_
        refine va_get (D := D) (ci := 7) (v := .ref m4) (C := RX7) (T := TX7) (N := 27) hx hb hts iT_X7 hown hK1 hP 4 rfl rfl 5 (by decide) (hts _ t_556) (fun _ h9 => h9) rfl dX7_drop_61 ?_
        refine lv_iload_n hx hb dX7_drop_64 rfl (lv_at hl 2 rfl) ?_
        refine lv_aload_n hx hb dX7_drop_65 rfl (lv_at hl 0 rfl) ?_
        refine va_get (D := D) (ci := 7) (v := .ref m4) (C := RX7) (T := TX7) (N := 27) hx hb hts iT_X7 hown hK1 hP 4 rfl rfl 5 (by decide) (hts _ t_556) (fun _ h9 => h9) rfl dX7_drop_66 ?_
        refine lv_iload_n hx hb dX7_drop_69 rfl (lv_at hl 2 rfl) ?_
        refine lv_iconst (v := 1) hx hb dX7_drop_70 (by decide) ?_
        refine lv_iadd hx hb dX7_drop_71 ?_
        refine lv_nmi (show _ = (nI (i + 1)) from nI_add (i) (1)) ?_
        refine va_iald hx hb hK1 hP 2 0 rfl rfl (vp_in_nI (by omega) (by omega)) dX7_drop_72 ?_
        refine lv_nmi (show _ = qn (i + 1) from by rw [nI_clamp (n := (i + 1)) (by omega)]) ?_
        refine va_iast hx hb hK1 hP hD hS 2 0 rfl rfl (vp_in_nI (by omega) (by omega)) dX7_drop_73 (fun H locs hP hD hS => ?_)
        rw [nI_clamp (n := i) (by omega)] at hP hD
        have hP : va_P D vwCl [kI cI m2 9 (upd qo i (qo (i + 1))), kI cI m3 9 (upd qe i (qe (i + 1))), kI cI m4 9 (upd qn i (qn (i + 1))), kI cI m5 27 qg, kX7 m0 (nI z) m1 (nI (r9 - 1)) m2 m3 m4 m5 (nI n9) (nI v) m6 k1 k2 k3 k4 m7 k5 k6 k7 k8 m8 m9 m10 k9 m11 m12 m13 hv] H := hP
        have hD : va_D A [kI cI m2 9 (upd qo i (qo (i + 1))), kI cI m3 9 (upd qe i (qe (i + 1))), kI cI m4 9 (upd qn i (qn (i + 1))), kI cI m5 27 qg, kX7 m0 (nI z) m1 (nI (r9 - 1)) m2 m3 m4 m5 (nI n9) (nI v) m6 k1 k2 k3 k4 m7 k5 k6 k7 k8 m8 m9 m10 k9 m11 m12 m13 hv] := hD
        refine lv_iconst (v := 0) hx hb dX7_drop_74 (by decide) ?_
        refine lv_istore_n (lv' := [(3, .int 0), (0, .ref m0), (1, .int p0), (2, .int (nI i))]) hx hb dX7_drop_75 rfl hl (by decide) rfl (fun ls hl => ?_)
        refine lv_iload_n hx hb dX7_drop_76 rfl (lv_at hl 0 rfl) ?_
        refine lv_iconst (v := 3) hx hb dX7_drop_77 (by decide) ?_
        refine lv_icmp_ge (tgt := 109) hx hb dX7_drop_78 (by decide) (fun c_11 => ?_) (fun c_11 => ?_)
        · exact absurd c_11 (by decide)
        refine lv_aload_n hx hb dX7_drop_81 rfl (lv_at hl 1 rfl) ?_
        refine va_get (D := D) (ci := 7) (v := .ref m5) (C := RX7) (T := TX7) (N := 27) hx hb hts iT_X7 hown hK1 hP 4 rfl rfl 6 (by decide) (hts _ t_557) (fun _ h9 => h9) rfl dX7_drop_82 ?_
        refine lv_iconst (v := 3) hx hb dX7_drop_85 (by decide) ?_
        refine lv_iload_n hx hb dX7_drop_86 rfl (lv_at hl 3 rfl) ?_
        refine lv_imul hx hb dX7_drop_87 ?_
        refine lv_nmi (show _ = (nI (3 * i)) from pk_mul (3) (i)) ?_
        refine lv_iload_n hx hb dX7_drop_88 rfl (lv_at hl 0 rfl) ?_
        refine lv_iadd hx hb dX7_drop_89 ?_
        refine lv_nmi (show _ = (nI ((3 * i) + 0)) from nI_add ((3 * i)) (0)) ?_
        refine lv_aload_n hx hb dX7_drop_90 rfl (lv_at hl 1 rfl) ?_
        refine va_get (D := D) (ci := 7) (v := .ref m5) (C := RX7) (T := TX7) (N := 27) hx hb hts iT_X7 hown hK1 hP 4 rfl rfl 6 (by decide) (hts _ t_557) (fun _ h9 => h9) rfl dX7_drop_91 ?_
        refine lv_iconst (v := 3) hx hb dX7_drop_94 (by decide) ?_
        refine lv_iload_n hx hb dX7_drop_95 rfl (lv_at hl 3 rfl) ?_
        refine lv_imul hx hb dX7_drop_96 ?_
        refine lv_nmi (show _ = (nI (3 * i)) from pk_mul (3) (i)) ?_
        refine lv_iconst (v := 3) hx hb dX7_drop_97 (by decide) ?_
        refine lv_iadd hx hb dX7_drop_98 ?_
        refine lv_nmi (show _ = (nI ((3 * i) + 3)) from nI_add ((3 * i)) (3)) ?_
        refine lv_iload_n hx hb dX7_drop_99 rfl (lv_at hl 0 rfl) ?_
        refine lv_iadd hx hb dX7_drop_100 ?_
        refine lv_nmi (show _ = (nI (((3 * i) + 3) + 0)) from nI_add (((3 * i) + 3)) (0)) ?_
        refine va_iald hx hb hK1 hP 3 0 rfl rfl (vp_in_nI (by omega) (by omega)) dX7_drop_101 ?_
        refine lv_nmi (show _ = qg (((3 * i) + 3) + 0) from by rw [nI_clamp (n := (((3 * i) + 3) + 0)) (by omega)]) ?_
        refine va_iast hx hb hK1 hP hD hS 3 0 rfl rfl (vp_in_nI (by omega) (by omega)) dX7_drop_102 (fun H locs hP hD hS => ?_)
        rw [nI_clamp (n := ((3 * i) + 0)) (by omega)] at hP hD
        have hP : va_P D vwCl [kI cI m2 9 (upd qo i (qo (i + 1))), kI cI m3 9 (upd qe i (qe (i + 1))), kI cI m4 9 (upd qn i (qn (i + 1))), kI cI m5 27 (upd qg ((3 * i) + 0) (qg (((3 * i) + 3) + 0))), kX7 m0 (nI z) m1 (nI (r9 - 1)) m2 m3 m4 m5 (nI n9) (nI v) m6 k1 k2 k3 k4 m7 k5 k6 k7 k8 m8 m9 m10 k9 m11 m12 m13 hv] H := hP
        have hD : va_D A [kI cI m2 9 (upd qo i (qo (i + 1))), kI cI m3 9 (upd qe i (qe (i + 1))), kI cI m4 9 (upd qn i (qn (i + 1))), kI cI m5 27 (upd qg ((3 * i) + 0) (qg (((3 * i) + 3) + 0))), kX7 m0 (nI z) m1 (nI (r9 - 1)) m2 m3 m4 m5 (nI n9) (nI v) m6 k1 k2 k3 k4 m7 k5 k6 k7 k8 m8 m9 m10 k9 m11 m12 m13 hv] := hD
        refine lv_iinc (v := 1) (lv' := [(3, .int 1), (0, .ref m0), (1, .int p0), (2, .int (nI i))]) hx hb dX7_drop_103 hl (k := 0) rfl (by decide) (by decide) rfl (fun ls hl => ?_)
        refine lv_goto (tgt := 76) hx hb dX7_drop_106 (by decide) ?_
        refine lv_iload_n hx hb dX7_drop_76 rfl (lv_at hl 0 rfl) ?_
        refine lv_iconst (v := 3) hx hb dX7_drop_77 (by decide) ?_
        refine lv_icmp_ge (tgt := 109) hx hb dX7_drop_78 (by decide) (fun c_12 => ?_) (fun c_12 => ?_)
        · exact absurd c_12 (by decide)
        refine lv_aload_n hx hb dX7_drop_81 rfl (lv_at hl 1 rfl) ?_
        refine va_get (D := D) (ci := 7) (v := .ref m5) (C := RX7) (T := TX7) (N := 27) hx hb hts iT_X7 hown hK1 hP 4 rfl rfl 6 (by decide) (hts _ t_557) (fun _ h9 => h9) rfl dX7_drop_82 ?_
        refine lv_iconst (v := 3) hx hb dX7_drop_85 (by decide) ?_
        refine lv_iload_n hx hb dX7_drop_86 rfl (lv_at hl 3 rfl) ?_
        refine lv_imul hx hb dX7_drop_87 ?_
        refine lv_nmi (show _ = (nI (3 * i)) from pk_mul (3) (i)) ?_
        refine lv_iload_n hx hb dX7_drop_88 rfl (lv_at hl 0 rfl) ?_
        refine lv_iadd hx hb dX7_drop_89 ?_
        refine lv_nmi (show _ = (nI ((3 * i) + 1)) from nI_add ((3 * i)) (1)) ?_
        refine lv_aload_n hx hb dX7_drop_90 rfl (lv_at hl 1 rfl) ?_
        refine va_get (D := D) (ci := 7) (v := .ref m5) (C := RX7) (T := TX7) (N := 27) hx hb hts iT_X7 hown hK1 hP 4 rfl rfl 6 (by decide) (hts _ t_557) (fun _ h9 => h9) rfl dX7_drop_91 ?_
        refine lv_iconst (v := 3) hx hb dX7_drop_94 (by decide) ?_
        refine lv_iload_n hx hb dX7_drop_95 rfl (lv_at hl 3 rfl) ?_
        refine lv_imul hx hb dX7_drop_96 ?_
        refine lv_nmi (show _ = (nI (3 * i)) from pk_mul (3) (i)) ?_
        refine lv_iconst (v := 3) hx hb dX7_drop_97 (by decide) ?_
        refine lv_iadd hx hb dX7_drop_98 ?_
        refine lv_nmi (show _ = (nI ((3 * i) + 3)) from nI_add ((3 * i)) (3)) ?_
        refine lv_iload_n hx hb dX7_drop_99 rfl (lv_at hl 0 rfl) ?_
        refine lv_iadd hx hb dX7_drop_100 ?_
        refine lv_nmi (show _ = (nI (((3 * i) + 3) + 1)) from nI_add (((3 * i) + 3)) (1)) ?_
        refine va_iald hx hb hK1 hP 3 0 rfl rfl (vp_in_nI (by omega) (by omega)) dX7_drop_101 ?_
        refine lv_nmi (show _ = (upd qg ((3 * i) + 0) (qg (((3 * i) + 3) + 0))) (((3 * i) + 3) + 1) from by rw [nI_clamp (n := (((3 * i) + 3) + 1)) (by omega)]) ?_
        refine va_iast hx hb hK1 hP hD hS 3 0 rfl rfl (vp_in_nI (by omega) (by omega)) dX7_drop_102 (fun H locs hP hD hS => ?_)
        rw [nI_clamp (n := ((3 * i) + 1)) (by omega)] at hP hD
        have hP : va_P D vwCl [kI cI m2 9 (upd qo i (qo (i + 1))), kI cI m3 9 (upd qe i (qe (i + 1))), kI cI m4 9 (upd qn i (qn (i + 1))), kI cI m5 27 (upd (upd qg ((3 * i) + 0) (qg (((3 * i) + 3) + 0))) ((3 * i) + 1) ((upd qg ((3 * i) + 0) (qg (((3 * i) + 3) + 0))) (((3 * i) + 3) + 1))), kX7 m0 (nI z) m1 (nI (r9 - 1)) m2 m3 m4 m5 (nI n9) (nI v) m6 k1 k2 k3 k4 m7 k5 k6 k7 k8 m8 m9 m10 k9 m11 m12 m13 hv] H := hP
        have hD : va_D A [kI cI m2 9 (upd qo i (qo (i + 1))), kI cI m3 9 (upd qe i (qe (i + 1))), kI cI m4 9 (upd qn i (qn (i + 1))), kI cI m5 27 (upd (upd qg ((3 * i) + 0) (qg (((3 * i) + 3) + 0))) ((3 * i) + 1) ((upd qg ((3 * i) + 0) (qg (((3 * i) + 3) + 0))) (((3 * i) + 3) + 1))), kX7 m0 (nI z) m1 (nI (r9 - 1)) m2 m3 m4 m5 (nI n9) (nI v) m6 k1 k2 k3 k4 m7 k5 k6 k7 k8 m8 m9 m10 k9 m11 m12 m13 hv] := hD
        refine lv_iinc (v := 2) (lv' := [(3, .int 2), (0, .ref m0), (1, .int p0), (2, .int (nI i))]) hx hb dX7_drop_103 hl (k := 0) rfl (by decide) (by decide) rfl (fun ls hl => ?_)
        refine lv_goto (tgt := 76) hx hb dX7_drop_106 (by decide) ?_
        refine lv_iload_n hx hb dX7_drop_76 rfl (lv_at hl 0 rfl) ?_
        refine lv_iconst (v := 3) hx hb dX7_drop_77 (by decide) ?_
        refine lv_icmp_ge (tgt := 109) hx hb dX7_drop_78 (by decide) (fun c_13 => ?_) (fun c_13 => ?_)
        · exact absurd c_13 (by decide)
        refine lv_aload_n hx hb dX7_drop_81 rfl (lv_at hl 1 rfl) ?_
        refine va_get (D := D) (ci := 7) (v := .ref m5) (C := RX7) (T := TX7) (N := 27) hx hb hts iT_X7 hown hK1 hP 4 rfl rfl 6 (by decide) (hts _ t_557) (fun _ h9 => h9) rfl dX7_drop_82 ?_
        refine lv_iconst (v := 3) hx hb dX7_drop_85 (by decide) ?_
        refine lv_iload_n hx hb dX7_drop_86 rfl (lv_at hl 3 rfl) ?_
        refine lv_imul hx hb dX7_drop_87 ?_
        refine lv_nmi (show _ = (nI (3 * i)) from pk_mul (3) (i)) ?_
        refine lv_iload_n hx hb dX7_drop_88 rfl (lv_at hl 0 rfl) ?_
        refine lv_iadd hx hb dX7_drop_89 ?_
        refine lv_nmi (show _ = (nI ((3 * i) + 2)) from nI_add ((3 * i)) (2)) ?_
        refine lv_aload_n hx hb dX7_drop_90 rfl (lv_at hl 1 rfl) ?_
        refine va_get (D := D) (ci := 7) (v := .ref m5) (C := RX7) (T := TX7) (N := 27) hx hb hts iT_X7 hown hK1 hP 4 rfl rfl 6 (by decide) (hts _ t_557) (fun _ h9 => h9) rfl dX7_drop_91 ?_
        refine lv_iconst (v := 3) hx hb dX7_drop_94 (by decide) ?_
        refine lv_iload_n hx hb dX7_drop_95 rfl (lv_at hl 3 rfl) ?_
        refine lv_imul hx hb dX7_drop_96 ?_
        refine lv_nmi (show _ = (nI (3 * i)) from pk_mul (3) (i)) ?_
        refine lv_iconst (v := 3) hx hb dX7_drop_97 (by decide) ?_
        refine lv_iadd hx hb dX7_drop_98 ?_
        refine lv_nmi (show _ = (nI ((3 * i) + 3)) from nI_add ((3 * i)) (3)) ?_
        refine lv_iload_n hx hb dX7_drop_99 rfl (lv_at hl 0 rfl) ?_
        refine lv_iadd hx hb dX7_drop_100 ?_
        refine lv_nmi (show _ = (nI (((3 * i) + 3) + 2)) from nI_add (((3 * i) + 3)) (2)) ?_
        refine va_iald hx hb hK1 hP 3 0 rfl rfl (vp_in_nI (by omega) (by omega)) dX7_drop_101 ?_
        refine lv_nmi (show _ = (upd (upd qg ((3 * i) + 0) (qg (((3 * i) + 3) + 0))) ((3 * i) + 1) ((upd qg ((3 * i) + 0) (qg (((3 * i) + 3) + 0))) (((3 * i) + 3) + 1))) (((3 * i) + 3) + 2) from by rw [nI_clamp (n := (((3 * i) + 3) + 2)) (by omega)]) ?_
        refine va_iast hx hb hK1 hP hD hS 3 0 rfl rfl (vp_in_nI (by omega) (by omega)) dX7_drop_102 (fun H locs hP hD hS => ?_)
        rw [nI_clamp (n := ((3 * i) + 2)) (by omega)] at hP hD
        have hP : va_P D vwCl [kI cI m2 9 (upd qo i (qo (i + 1))), kI cI m3 9 (upd qe i (qe (i + 1))), kI cI m4 9 (upd qn i (qn (i + 1))), kI cI m5 27 (upd (upd (upd qg ((3 * i) + 0) (qg (((3 * i) + 3) + 0))) ((3 * i) + 1) ((upd qg ((3 * i) + 0) (qg (((3 * i) + 3) + 0))) (((3 * i) + 3) + 1))) ((3 * i) + 2) ((upd (upd qg ((3 * i) + 0) (qg (((3 * i) + 3) + 0))) ((3 * i) + 1) ((upd qg ((3 * i) + 0) (qg (((3 * i) + 3) + 0))) (((3 * i) + 3) + 1))) (((3 * i) + 3) + 2))), kX7 m0 (nI z) m1 (nI (r9 - 1)) m2 m3 m4 m5 (nI n9) (nI v) m6 k1 k2 k3 k4 m7 k5 k6 k7 k8 m8 m9 m10 k9 m11 m12 m13 hv] H := hP
        have hD : va_D A [kI cI m2 9 (upd qo i (qo (i + 1))), kI cI m3 9 (upd qe i (qe (i + 1))), kI cI m4 9 (upd qn i (qn (i + 1))), kI cI m5 27 (upd (upd (upd qg ((3 * i) + 0) (qg (((3 * i) + 3) + 0))) ((3 * i) + 1) ((upd qg ((3 * i) + 0) (qg (((3 * i) + 3) + 0))) (((3 * i) + 3) + 1))) ((3 * i) + 2) ((upd (upd qg ((3 * i) + 0) (qg (((3 * i) + 3) + 0))) ((3 * i) + 1) ((upd qg ((3 * i) + 0) (qg (((3 * i) + 3) + 0))) (((3 * i) + 3) + 1))) (((3 * i) + 3) + 2))), kX7 m0 (nI z) m1 (nI (r9 - 1)) m2 m3 m4 m5 (nI n9) (nI v) m6 k1 k2 k3 k4 m7 k5 k6 k7 k8 m8 m9 m10 k9 m11 m12 m13 hv] := hD
        refine lv_iinc (v := 3) (lv' := [(3, .int 3), (0, .ref m0), (1, .int p0), (2, .int (nI i))]) hx hb dX7_drop_103 hl (k := 0) rfl (by decide) (by decide) rfl (fun ls hl => ?_)
        refine lv_goto (tgt := 76) hx hb dX7_drop_106 (by decide) ?_
        refine lv_iload_n hx hb dX7_drop_76 rfl (lv_at hl 0 rfl) ?_
        refine lv_iconst (v := 3) hx hb dX7_drop_77 (by decide) ?_
        refine lv_icmp_ge (tgt := 109) hx hb dX7_drop_78 (by decide) (fun c_14 => ?_) (fun c_14 => ?_)
        rotate_left
        · exact absurd c_14 (by decide)
        refine lv_iinc (v := nI (i + 1)) (lv' := [(2, .int (nI (i + 1))), (3, .int 3), (0, .ref m0), (1, .int p0)]) hx hb dX7_drop_109 hl (k := 3) rfl (nI_1 i) (by decide) rfl (fun ls hl => ?_)
        refine lv_goto (tgt := 24) hx hb dX7_drop_112 (by decide) ?_
        exact ih_24 (i + 1) (upd qo i (qo (i + 1))) (upd qe i (qe (i + 1))) (upd qn i (qn (i + 1))) (upd (upd (upd qg ((3 * i) + 0) (qg (((3 * i) + 3) + 0))) ((3 * i) + 1) ((upd qg ((3 * i) + 0) (qg (((3 * i) + 3) + 0))) (((3 * i) + 3) + 1))) ((3 * i) + 2) ((upd (upd qg ((3 * i) + 0) (qg (((3 * i) + 3) + 0))) ((3 * i) + 1) ((upd qg ((3 * i) + 0) (qg (((3 * i) + 3) + 0))) (((3 * i) + 3) + 1))) (((3 * i) + 3) + 2))) (by omega) (by omega) (SHf_s hji (by omega) h1) (SHf_s hji (by omega) h2) (SHf_s hji (by omega) h3) (SH3_s hji (by omega) h4) _ _ _ (hP.sub [0, 1, 2, 3, 4] rfl) (hD.sub [0, 1, 2, 3, 4] rfl rfl) hS (lv_sub hl [2, 3, 0] rfl)
    exact LOOP_24 (r9 - 1 - j9) j9 ro re rn rg (by omega) (by omega) SHf_0 SHf_0 SHf_0 SH3_0 _ _ _ (hP.sub [0, 1, 2, 3, 4] rfl) (hD.sub [0, 1, 2, 3, 4] rfl rfl) hS (lv_sub hl [1, 2, 0] rfl)
  · skip
    refine lv_sipush (v := -1001) hx hb dX7_drop_8 (by decide) ?_
    exact hret _ _ _ _ _ _ (-1001) (k8, k9, r9, ro, re, rn, rg) dX7_drop_11 rfl hS (Nat.le_of_ble_eq_true rfl) (Nat.le_of_ble_eq_true rfl) ⟨hr9, hmr, Or.inl ⟨c_5, rfl, rfl, rfl, rfl, rfl, rfl⟩, Or.inr ⟨rfl, rfl, rfl, rfl, rfl, rfl⟩⟩ (hP.sub [4, 0, 1, 2, 3] rfl) (hD.sub [4, 0, 1, 2, 3] rfl rfl)
set_option maxHeartbeats 4000000 in
set_option maxRecDepth 100000 in
theorem c_X7_graph (sz : Nat) (m0 : Nat) (m1 : Nat) (m2 : Nat) (m3 : Nat) (m4 : Nat) (m5 : Nat) (m6 : Nat) (m7 : Nat) (m8 : Nat) (m9 : Nat) (m10 : Nat) (m11 : Nat) (m12 : Nat) (m13 : Nat) (z : Nat) (r9 : Nat) (n9 : Nat) (v : Nat) (k1 : Int32) (k2 : Int32) (k3 : Int32) (k4 : Int32) (k5 : Int32) (k6 : Int32) (k7 : Int32) (k8 : Int32) (k9 : Int32) (hv : Int64) (pf : Nat → Int32) (ne : Nat → Int32) (ea : Nat → Int32) (hz : z ≤ 16) (hf : FgI n9 v) : CTi l D cI cJ cZ cR yX7_graph cX7_graph 3 (some .int) 5 111 0 0 sz [.ref m0] [kX7 m0 (nI z) m1 (nI r9) m2 m3 m4 m5 (nI n9) (nI v) m6 k1 k2 k3 k4 m7 k5 k6 k7 k8 m8 m9 m10 k9 m11 m12 m13 hv, kI cI m1 16 pf, kI cI m7 5 ne, kI cI m6 12 ea] (fun (r : Int32) (u : Int32 × Int32 × Int32 × Int32 × Int32 × Int32 × Int32 × Int32 × Nat × Nat × Nat × (Nat → Int32) × (Nat → Int32)) => (u.2.2.2.2.2.2.2.2.1 ≤ 16) ∧ (FgI u.2.2.2.2.2.2.2.2.2.1 u.2.2.2.2.2.2.2.2.2.2.1) ∧ (MGrP pf z n9 v ea k1 k3 r u.2.2.2.2.2.2.2.2.1 u.2.2.2.2.2.2.2.2.2.1 u.2.2.2.2.2.2.2.2.2.2.1 u.2.2.2.2.2.2.2.2.2.2.2.2 u.2.2.2.2.2.2.1 u.2.2.2.2.2.2.2.1) ∧ (u.2.2.2.2.1 = 0 ∨ (u.2.2.2.2.1 = k8 ∧ u.2.2.2.2.2.2.2.2.2.1 = n9 ∧ u.2.2.2.2.2.2.2.2.2.2.1 = v ∧ u.2.2.2.2.2.2.2.2.2.2.2.2 = ea))) (fun (u : Int32 × Int32 × Int32 × Int32 × Int32 × Int32 × Int32 × Int32 × Nat × Nat × Nat × (Nat → Int32) × (Nat → Int32)) => [kX7 m0 (nI u.2.2.2.2.2.2.2.2.1) m1 (nI r9) m2 m3 m4 m5 (nI u.2.2.2.2.2.2.2.2.2.1) (nI u.2.2.2.2.2.2.2.2.2.2.1) m6 u.2.2.2.2.2.2.1 k2 u.2.2.2.2.2.2.2.1 u.1 m7 u.2.1 u.2.2.1 u.2.2.2.1 u.2.2.2.2.1 m8 m9 m10 u.2.2.2.2.2.1 m11 m12 m13 hv, kI cI m1 16 pf, kI cI m7 5 u.2.2.2.2.2.2.2.2.2.2.2.1, kI cI m6 12 u.2.2.2.2.2.2.2.2.2.2.2.2]) := by
  refine CTi.of (ty := .int) (by decide) (Nat.le_of_ble_eq_true rfl) rfl ?_
  intro p e s m below meth c A Q ls hd hin hK hsz hP hD hA hS hl hret
  obtain ⟨hx, hb, hml, hown, hts⟩ := id hd
  have hK1 := hK.1
  have hown : s.vm.findClass RX7 = some m.cls := hown
  have hl : lv_has ls 3 [(0, .ref m0)] := hl
  refine lv_aload_n hx hb dX7_graph_0 rfl (lv_at hl 0 rfl) ?_
  refine lv_iconst (v := 1) hx hb dX7_graph_1 (by decide) ?_
  refine xc_i (wc := [kX7 m0 (nI z) m1 (nI r9) m2 m3 m4 m5 (nI n9) (nI v) m6 k1 k2 k3 k4 m7 k5 k6 k7 k8 m8 m9 m10 k9 m11 m12 m13 hv, kI cI m1 16 pf, kI cI m7 5 ne]) (wr := [kI cI m6 12 ea]) (xrV (n := 1) (As := [.int 1]) (rest := []) (ci := 7) (q0 := 0) hd hK hP hD (g_misWhole_1 l D cI cJ cZ cR _ m0 m1 m2 m3 m4 m5 m6 m7 m8 m9 m10 m11 m12 m13 z r9 n9 v k1 k2 k3 k4 k5 k6 k7 k8 k9 hv pf ne hz) (gV t_667 mV_X7_isWhole) hV_X7_isWhole ⟨(Nat.le_of_ble_eq_true rfl), (Nat.le_of_ble_eq_true rfl)⟩ rfl rfl [0, 1, 2] rfl rfl rfl hl.1 rfl (Nat.le_of_ble_eq_true rfl) dX7_graph_2 ⟨(Nat.le_of_ble_eq_true rfl), (Nat.le_of_ble_eq_true rfl)⟩) hP hD hS hA [0, 1, 2] [3] rfl rfl rfl (by decide) (fun r_1 u_2 H locs hw_3 hP hD hS => ?_)
  obtain ⟨k4b_4, k5b_5, k6b_6, k7b_7, ne2_8⟩ := u_2
  obtain ⟨hw_9, hw_10⟩ : (YN r_1 (WH1 pf z)) ∧ (¬ r_1 = 0 → ∃ q w, k4b_4 = nI q ∧ k5b_5 = nI w ∧ 0 < q ∧ z = 0 + 3 * q ∧ TX 0 5 5 pf z q 0 w k7b_7 ne2_8) := hw_3
  have hWH := hw_9
  have hW1 := hw_10
  have hP : va_P D vwCl [kI cI m6 12 ea, kX7 m0 (nI z) m1 (nI r9) m2 m3 m4 m5 (nI n9) (nI v) m6 k1 k2 k3 k4b_4 m7 k5b_5 k6b_6 k7b_7 k8 m8 m9 m10 k9 m11 m12 m13 hv, kI cI m1 16 pf, kI cI m7 5 ne2_8] H := hP
  have hD : va_D A [kI cI m6 12 ea, kX7 m0 (nI z) m1 (nI r9) m2 m3 m4 m5 (nI n9) (nI v) m6 k1 k2 k3 k4b_4 m7 k5b_5 k6b_6 k7b_7 k8 m8 m9 m10 k9 m11 m12 m13 hv, kI cI m1 16 pf, kI cI m7 5 ne2_8] := hD
  refine lv_if_eq (tgt := 20) hx hb dX7_graph_5 (by decide) (fun c_11 => ?_) (fun c_11 => ?_)
  · skip
    refine lv_iconst (v := 0) hx hb dX7_graph_20 (by decide) ?_
    refine lv_istore_n (lv' := [(1, .int 0), (0, .ref m0)]) hx hb dX7_graph_21 rfl hl (by decide) rfl (fun ls hl => ?_)
    refine lv_iload_n hx hb dX7_graph_22 rfl (lv_at hl 0 rfl) ?_
    refine lv_if_eq (tgt := 40) hx hb dX7_graph_23 (by decide) (fun c_12 => ?_) (fun c_12 => ?_)
    rotate_left
    · exact absurd c_12 (by decide)
    refine lv_sipush (v := -1003) hx hb dX7_graph_40 (by decide) ?_
    exact hret _ _ _ _ _ _ (-1003) (k4b_4, k5b_5, k6b_6, k7b_7, k8, k9, k1, k3, z, n9, v, ne2_8, ea) dX7_graph_43 rfl hS (Nat.le_of_ble_eq_true rfl) (Nat.le_of_ble_eq_true rfl) ⟨hz, hf, Or.inl ⟨(fun q => hWH.no c_11 ⟨q.1, q.2.1⟩), rfl, rfl, rfl, rfl, rfl, rfl, rfl⟩, Or.inr ⟨rfl, rfl, rfl, rfl⟩⟩ (hP.sub [1, 2, 3, 0] rfl) (hD.sub [1, 2, 3, 0] rfl rfl)
  · skip
    have hW := hWH.of c_11
    obtain ⟨q9, w9, eq9, ew9, hq1, hzq, hTX⟩ := hW1 c_11
    have hq5 : q9 ≤ 5 := hTX.2.2.1
    have hw32 : w9 < 2 ^ 5 := hTX.2.2.2.2.1
    obtain ⟨w8, hw8, hw3, ew8, ex8⟩ := or3x (show w9 < 32 from hw32)
    have hqz : z / 3 = q9 := by omega
    rw [eq9] at hP hD
    have hP : va_P D vwCl [kI cI m6 12 ea, kX7 m0 (nI z) m1 (nI r9) m2 m3 m4 m5 (nI n9) (nI v) m6 k1 k2 k3 (nI q9) m7 k5b_5 k6b_6 k7b_7 k8 m8 m9 m10 k9 m11 m12 m13 hv, kI cI m1 16 pf, kI cI m7 5 ne2_8] H := hP
    have hD : va_D A [kI cI m6 12 ea, kX7 m0 (nI z) m1 (nI r9) m2 m3 m4 m5 (nI n9) (nI v) m6 k1 k2 k3 (nI q9) m7 k5b_5 k6b_6 k7b_7 k8 m8 m9 m10 k9 m11 m12 m13 hv, kI cI m1 16 pf, kI cI m7 5 ne2_8] := hD
    rw [ew9] at hP hD
    have hP : va_P D vwCl [kI cI m6 12 ea, kX7 m0 (nI z) m1 (nI r9) m2 m3 m4 m5 (nI n9) (nI v) m6 k1 k2 k3 (nI q9) m7 (nI w9) k6b_6 k7b_7 k8 m8 m9 m10 k9 m11 m12 m13 hv, kI cI m1 16 pf, kI cI m7 5 ne2_8] H := hP
    have hD : va_D A [kI cI m6 12 ea, kX7 m0 (nI z) m1 (nI r9) m2 m3 m4 m5 (nI n9) (nI v) m6 k1 k2 k3 (nI q9) m7 (nI w9) k6b_6 k7b_7 k8 m8 m9 m10 k9 m11 m12 m13 hv, kI cI m1 16 pf, kI cI m7 5 ne2_8] := hD
    refine lv_aload_n hx hb dX7_graph_8 rfl (lv_at hl 0 rfl) ?_
    refine va_get (D := D) (ci := 7) (v := .int (nI w9)) (C := RX7) (T := TX7) (N := 27) hx hb hts iT_X7 hown hK1 hP 1 rfl rfl 15 (by decide) (hts _ t_566) (fun _ h9 => h9) rfl dX7_graph_9 ?_
    refine lv_iconst (v := 3) hx hb dX7_graph_12 (by decide) ?_
    refine lv_ior hx hb dX7_graph_13 ?_
    refine lv_nmi (show _ = (nI w8 : Int32) from ex8) ?_
    refine xc_i (wc := []) (wr := [kI cI m6 12 ea, kX7 m0 (nI z) m1 (nI r9) m2 m3 m4 m5 (nI n9) (nI v) m6 k1 k2 k3 (nI q9) m7 (nI w9) k6b_6 k7b_7 k8 m8 m9 m10 k9 m11 m12 m13 hv, kI cI m1 16 pf, kI cI m7 5 ne2_8]) (xrS (n := 1) (As := [.int (nI w8)]) (rest := []) hd hK hP hD (c_X7_above l D cI cJ cZ cR _ w8 hw8) (gS t_674 mS_X7_above) hS_X7_above ⟨(Nat.le_of_ble_eq_true rfl), (Nat.le_of_ble_eq_true rfl)⟩ [] rfl rfl rfl hl.1 rfl (Nat.le_of_ble_eq_true rfl) dX7_graph_14 ⟨(Nat.le_of_ble_eq_true rfl), (Nat.le_of_ble_eq_true rfl)⟩) hP hD hS hA [] [0, 1, 2, 3] rfl rfl rfl (by decide) (fun r_13 u_14 H locs hw_15 hP hD hS => ?_)
    obtain ⟨k_16, rfl⟩ : ∃ z9, z9 = u_14 := ⟨_, rfl⟩
    obtain ⟨hw_17, hw_18, hw_19, hw_20⟩ : (r_13 = (nI k_16)) ∧ (k_16 ≤ 5) ∧ (k_16 = 0 ∨ 2 ^ (k_16 - 1) ≤ w8) ∧ (w8 < 2 ^ k_16) := hw_15
    subst hw_17
    have hk5 := hw_18
    have hklo := hw_19
    have hkhi := hw_20
    have hP : va_P D vwCl [kI cI m6 12 ea, kX7 m0 (nI z) m1 (nI r9) m2 m3 m4 m5 (nI n9) (nI v) m6 k1 k2 k3 (nI q9) m7 (nI w9) k6b_6 k7b_7 k8 m8 m9 m10 k9 m11 m12 m13 hv, kI cI m1 16 pf, kI cI m7 5 ne2_8] H := hP
    have hD : va_D A [kI cI m6 12 ea, kX7 m0 (nI z) m1 (nI r9) m2 m3 m4 m5 (nI n9) (nI v) m6 k1 k2 k3 (nI q9) m7 (nI w9) k6b_6 k7b_7 k8 m8 m9 m10 k9 m11 m12 m13 hv, kI cI m1 16 pf, kI cI m7 5 ne2_8] := hD
    refine lv_goto (tgt := 21) hx hb dX7_graph_17 (by decide) ?_
    refine lv_istore_n (lv' := [(1, .int (nI k_16)), (0, .ref m0)]) hx hb dX7_graph_21 rfl hl (by decide) rfl (fun ls hl => ?_)
    refine lv_iload_n hx hb dX7_graph_22 rfl (lv_at hl 0 rfl) ?_
    refine lv_if_eq (tgt := 40) hx hb dX7_graph_23 (by decide) (fun c_21 => ?_) (fun c_21 => ?_)
    · exact absurd c_21 (ab_n0 hkhi hw3 hk5)
    refine lv_aload_n hx hb dX7_graph_26 rfl (lv_at hl 1 rfl) ?_
    refine va_get (D := D) (ci := 7) (v := .int (nI w9)) (C := RX7) (T := TX7) (N := 27) hx hb hts iT_X7 hown hK1 hP 1 rfl rfl 15 (by decide) (hts _ t_566) (fun _ h9 => h9) rfl dX7_graph_27 ?_
    refine lv_iconst (v := 3) hx hb dX7_graph_30 (by decide) ?_
    refine lv_ior hx hb dX7_graph_31 ?_
    refine lv_nmi (show _ = (nI w8 : Int32) from ex8) ?_
    refine lv_iconst (v := 1) hx hb dX7_graph_32 (by decide) ?_
    refine lv_iload_n hx hb dX7_graph_33 rfl (lv_at hl 0 rfl) ?_
    refine lv_ishl hx hb dX7_graph_34 ?_
    refine lv_nmi (show _ = (nI (2 ^ k_16) : Int32) from shl1 (by omega)) ?_
    refine lv_iconst (v := 1) hx hb dX7_graph_35 (by decide) ?_
    refine lv_isub hx hb dX7_graph_36 ?_
    refine lv_nmi (show _ = (nI (2 ^ k_16 - 1) : Int32) from pk_sub (a := 2 ^ k_16) (b := 1) (Nat.two_pow_pos _)) ?_
    refine lv_icmp_eq (tgt := 44) hx hb dX7_graph_37 (by decide) (fun c_22 => ?_) (fun c_22 => ?_)
    · skip
      have hGO : GraphOK pf z := gr_okx hW hTX hk5 ew8 c_22
      refine lv_aload_n hx hb dX7_graph_44 rfl (lv_at hl 1 rfl) ?_
      refine lv_aload_n hx hb dX7_graph_45 rfl (lv_at hl 1 rfl) ?_
      refine va_get (D := D) (ci := 7) (v := .int (nI q9)) (C := RX7) (T := TX7) (N := 27) hx hb hts iT_X7 hown hK1 hP 1 rfl rfl 13 (by decide) (hts _ t_564) (fun _ h9 => h9) rfl dX7_graph_46 ?_
      refine va_put (D := D) (ci := 7) (v := .int (nI q9)) (ty := .int) (C := RX7) (T := TX7) (N := 27) hx hb hts iT_X7 tyX7 tyX7_ok nmX7 hown hK1 hP hD hS 1 rfl rfl 7 (by decide) (hts _ t_558) (fun _ h9 => h9) rfl (by decide +kernel) rfl rfl (Nat.le_of_ble_eq_true rfl) dX7_graph_49 (fun H locs hP hD hS => ?_)
      have hP : va_P D vwCl [kI cI m6 12 ea, kX7 m0 (nI z) m1 (nI r9) m2 m3 m4 m5 (nI q9) (nI v) m6 k1 k2 k3 (nI q9) m7 (nI w9) k6b_6 k7b_7 k8 m8 m9 m10 k9 m11 m12 m13 hv, kI cI m1 16 pf, kI cI m7 5 ne2_8] H := hP
      have hD : va_D A [kI cI m6 12 ea, kX7 m0 (nI z) m1 (nI r9) m2 m3 m4 m5 (nI q9) (nI v) m6 k1 k2 k3 (nI q9) m7 (nI w9) k6b_6 k7b_7 k8 m8 m9 m10 k9 m11 m12 m13 hv, kI cI m1 16 pf, kI cI m7 5 ne2_8] := hD
      refine lv_aload_n hx hb dX7_graph_52 rfl (lv_at hl 1 rfl) ?_
      refine lv_iload_n hx hb dX7_graph_53 rfl (lv_at hl 0 rfl) ?_
      refine va_put (D := D) (ci := 7) (v := .int (nI k_16)) (ty := .int) (C := RX7) (T := TX7) (N := 27) hx hb hts iT_X7 tyX7 tyX7_ok nmX7 hown hK1 hP hD hS 1 rfl rfl 8 (by decide) (hts _ t_559) (fun _ h9 => h9) rfl (by decide +kernel) rfl rfl (Nat.le_of_ble_eq_true rfl) dX7_graph_54 (fun H locs hP hD hS => ?_)
      have hP : va_P D vwCl [kI cI m6 12 ea, kX7 m0 (nI z) m1 (nI r9) m2 m3 m4 m5 (nI q9) (nI k_16) m6 k1 k2 k3 (nI q9) m7 (nI w9) k6b_6 k7b_7 k8 m8 m9 m10 k9 m11 m12 m13 hv, kI cI m1 16 pf, kI cI m7 5 ne2_8] H := hP
      have hD : va_D A [kI cI m6 12 ea, kX7 m0 (nI z) m1 (nI r9) m2 m3 m4 m5 (nI q9) (nI k_16) m6 k1 k2 k3 (nI q9) m7 (nI w9) k6b_6 k7b_7 k8 m8 m9 m10 k9 m11 m12 m13 hv, kI cI m1 16 pf, kI cI m7 5 ne2_8] := hD
      refine lv_iconst (v := 0) hx hb dX7_graph_57 (by decide) ?_
      refine lv_istore_n (lv' := [(2, .int 0), (1, .int (nI k_16)), (0, .ref m0)]) hx hb dX7_graph_58 rfl hl (by decide) rfl (fun ls hl => ?_)
      have LOOP_59 : ∀ (n : Nat) (i : Nat) (gx : Nat → Int32), (i + n = q9) → (∀ j, j < i → gx j = ne2_8 j) → ∀ (H : Heap) (locs : List Loc) (ls : Array Slot), va_P D vwCl [kI cI m6 12 gx, kX7 m0 (nI z) m1 (nI r9) m2 m3 m4 m5 (nI q9) (nI k_16) m6 k1 k2 k3 (nI q9) m7 (nI w9) k6b_6 k7b_7 k8 m8 m9 m10 k9 m11 m12 m13 hv, kI cI m1 16 pf, kI cI m7 5 ne2_8] H → va_D A [kI cI m6 12 gx, kX7 m0 (nI z) m1 (nI r9) m2 m3 m4 m5 (nI q9) (nI k_16) m6 k1 k2 k3 (nI q9) m7 (nI w9) k6b_6 k7b_7 k8 m8 m9 m10 k9 m11 m12 m13 hv, kI cI m1 16 pf, kI cI m7 5 ne2_8] → va_S A s.heap H locs → lv_has ls 3 [(0, .ref m0), (1, .int (nI k_16)), (2, .int (nI i))] → W p l e (rM 5 0 0 111) s m ([.ref m0] : List Value).toArray below meth c H locs 0 0 Q (F0 m 59 ls []) := by
        intro n
        induction n with
        | zero =>
          intro i gx hi hg1 H locs ls hP hD hS hl
          refine lv_iload_n hx hb dX7_graph_59 rfl (lv_at hl 2 rfl) ?_
          refine lv_aload_n hx hb dX7_graph_60 rfl (lv_at hl 0 rfl) ?_
          refine va_get (D := D) (ci := 7) (v := .int (nI q9)) (C := RX7) (T := TX7) (N := 27) hx hb hts iT_X7 hown hK1 hP 1 rfl rfl 13 (by decide) (hts _ t_564) (fun _ h9 => h9) rfl dX7_graph_61 ?_
          refine lv_icmp_ge (tgt := 85) hx hb dX7_graph_64 (by decide) (fun c_23 => ?_) (fun c_23 => ?_)
          rotate_left
          · exact absurd (nI_le (a := q9) (b := i) (by omega) (by omega)) c_23
          refine lv_aload_n hx hb dX7_graph_85 rfl (lv_at hl 0 rfl) ?_
          refine lv_iconst (v := 0) hx hb dX7_graph_86 (by decide) ?_
          refine va_put (D := D) (ci := 7) (v := .int 0) (ty := .int) (C := RX7) (T := TX7) (N := 27) hx hb hts iT_X7 tyX7 tyX7_ok nmX7 hown hK1 hP hD hS 1 rfl rfl 10 (by decide) (hts _ t_561) (fun _ h9 => h9) rfl (by decide +kernel) rfl rfl (Nat.le_of_ble_eq_true rfl) dX7_graph_87 (fun H locs hP hD hS => ?_)
          have hP : va_P D vwCl [kI cI m6 12 gx, kX7 m0 (nI z) m1 (nI r9) m2 m3 m4 m5 (nI q9) (nI k_16) m6 0 k2 k3 (nI q9) m7 (nI w9) k6b_6 k7b_7 k8 m8 m9 m10 k9 m11 m12 m13 hv, kI cI m1 16 pf, kI cI m7 5 ne2_8] H := hP
          have hD : va_D A [kI cI m6 12 gx, kX7 m0 (nI z) m1 (nI r9) m2 m3 m4 m5 (nI q9) (nI k_16) m6 0 k2 k3 (nI q9) m7 (nI w9) k6b_6 k7b_7 k8 m8 m9 m10 k9 m11 m12 m13 hv, kI cI m1 16 pf, kI cI m7 5 ne2_8] := hD
          refine lv_aload_n hx hb dX7_graph_90 rfl (lv_at hl 0 rfl) ?_
          refine lv_dup hx hb dX7_graph_91 rfl ?_
          refine va_get (D := D) (ci := 7) (v := .int k3) (C := RX7) (T := TX7) (N := 27) hx hb hts iT_X7 hown hK1 hP 1 rfl rfl 12 (by decide) (hts _ t_563) (fun _ h9 => h9) rfl dX7_graph_92 ?_
          refine lv_iconst (v := 1) hx hb dX7_graph_95 (by decide) ?_
          refine lv_iadd hx hb dX7_graph_96 ?_
          refine va_put (D := D) (ci := 7) (v := .int (k3 + 1)) (ty := .int) (C := RX7) (T := TX7) (N := 27) hx hb hts iT_X7 tyX7 tyX7_ok nmX7 hown hK1 hP hD hS 1 rfl rfl 12 (by decide) (hts _ t_563) (fun _ h9 => h9) rfl (by decide +kernel) rfl rfl (Nat.le_of_ble_eq_true rfl) dX7_graph_97 (fun H locs hP hD hS => ?_)
          have hP : va_P D vwCl [kI cI m6 12 gx, kX7 m0 (nI z) m1 (nI r9) m2 m3 m4 m5 (nI q9) (nI k_16) m6 0 k2 (k3 + 1) (nI q9) m7 (nI w9) k6b_6 k7b_7 k8 m8 m9 m10 k9 m11 m12 m13 hv, kI cI m1 16 pf, kI cI m7 5 ne2_8] H := hP
          have hD : va_D A [kI cI m6 12 gx, kX7 m0 (nI z) m1 (nI r9) m2 m3 m4 m5 (nI q9) (nI k_16) m6 0 k2 (k3 + 1) (nI q9) m7 (nI w9) k6b_6 k7b_7 k8 m8 m9 m10 k9 m11 m12 m13 hv, kI cI m1 16 pf, kI cI m7 5 ne2_8] := hD
          refine lv_aload_n hx hb dX7_graph_100 rfl (lv_at hl 0 rfl) ?_
          refine lv_iconst (v := 0) hx hb dX7_graph_101 (by decide) ?_
          refine va_put (D := D) (ci := 7) (v := .int 0) (ty := .int) (C := RX7) (T := TX7) (N := 27) hx hb hts iT_X7 tyX7 tyX7_ok nmX7 hown hK1 hP hD hS 1 rfl rfl 0 (by decide) (hts _ t_551) (fun _ h9 => h9) rfl (by decide +kernel) rfl rfl (Nat.le_of_ble_eq_true rfl) dX7_graph_102 (fun H locs hP hD hS => ?_)
          have hP : va_P D vwCl [kI cI m6 12 gx, kX7 m0 0 m1 (nI r9) m2 m3 m4 m5 (nI q9) (nI k_16) m6 0 k2 (k3 + 1) (nI q9) m7 (nI w9) k6b_6 k7b_7 k8 m8 m9 m10 k9 m11 m12 m13 hv, kI cI m1 16 pf, kI cI m7 5 ne2_8] H := hP
          have hD : va_D A [kI cI m6 12 gx, kX7 m0 0 m1 (nI r9) m2 m3 m4 m5 (nI q9) (nI k_16) m6 0 k2 (k3 + 1) (nI q9) m7 (nI w9) k6b_6 k7b_7 k8 m8 m9 m10 k9 m11 m12 m13 hv, kI cI m1 16 pf, kI cI m7 5 ne2_8] := hD
          refine lv_aload_n hx hb dX7_graph_105 rfl (lv_at hl 0 rfl) ?_
          refine xc_v (wc := [kX7 m0 0 m1 (nI r9) m2 m3 m4 m5 (nI q9) (nI k_16) m6 0 k2 (k3 + 1) (nI q9) m7 (nI w9) k6b_6 k7b_7 k8 m8 m9 m10 k9 m11 m12 m13 hv]) (wr := [kI cI m6 12 gx, kI cI m1 16 pf, kI cI m7 5 ne2_8]) (xrV (n := 0) (As := []) (rest := []) (ci := 7) (q0 := 1) hd hK hP hD (c_X7_altered l D cI cJ cZ cR _ m0 m1 m2 m3 m4 m5 m6 m7 m8 m9 m10 m11 m12 m13 0 r9 q9 k_16 0 k2 (k3 + 1) (nI q9) (nI w9) k6b_6 k7b_7 k8 k9 hv ) (gV t_677 mV_X7_altered) hV_X7_altered ⟨(Nat.le_of_ble_eq_true rfl), (Nat.le_of_ble_eq_true rfl)⟩ rfl rfl [1] rfl rfl rfl hl.1 rfl (Nat.le_of_ble_eq_true rfl) dX7_graph_106 ⟨(Nat.le_of_ble_eq_true rfl), (Nat.le_of_ble_eq_true rfl)⟩) hP hD hS hA [1] [0, 2, 3] rfl rfl rfl (by decide) (fun u_25 H locs hw_26 hP hD hS => ?_)
          have hP : va_P D vwCl [kI cI m6 12 gx, kI cI m1 16 pf, kI cI m7 5 ne2_8, kX7 m0 (nI 0) m1 (nI r9) m2 m3 m4 m5 (nI q9) (nI k_16) m6 0 k2 (k3 + 1) (nI q9) m7 (nI w9) k6b_6 k7b_7 0 m8 m9 m10 0 m11 m12 m13 hv] H := hP
          have hD : va_D A [kI cI m6 12 gx, kI cI m1 16 pf, kI cI m7 5 ne2_8, kX7 m0 (nI 0) m1 (nI r9) m2 m3 m4 m5 (nI q9) (nI k_16) m6 0 k2 (k3 + 1) (nI q9) m7 (nI w9) k6b_6 k7b_7 0 m8 m9 m10 0 m11 m12 m13 hv] := hD
          refine lv_aload_n hx hb dX7_graph_109 rfl (lv_at hl 0 rfl) ?_
          refine va_get (D := D) (ci := 7) (v := .int (nI q9)) (C := RX7) (T := TX7) (N := 27) hx hb hts iT_X7 hown hK1 hP 3 rfl rfl 7 (by decide) (hts _ t_558) (fun _ h9 => h9) rfl dX7_graph_110 ?_
          exact hret _ _ _ _ _ _ (nI q9) (nI q9, nI w9, k6b_6, k7b_7, 0, 0, 0, k3 + 1, 0, q9, k_16, ne2_8, gx) dX7_graph_113 rfl hS (Nat.le_of_ble_eq_true rfl) (Nat.le_of_ble_eq_true rfl) ⟨Nat.zero_le _, (show FgI q9 k_16 from ⟨by omega, by omega, Or.inr (ab_2 hkhi hw3)⟩), Or.inr ⟨hGO, by rw [hqz], rfl, hqz.symm, (gr_nd hTX hGO hk5 hklo hkhi ew8).symm, fun j hj => (show EX pf (0 + 3 * j) 5 (gx j) from by rw [hg1 j (by omega)]; exact hTX.2.2.2.2.2.2.2.1 j (by omega)), rfl, rfl⟩, Or.inl rfl⟩ (hP.sub [3, 1, 2, 0] rfl) (hD.sub [3, 1, 2, 0] rfl rfl)
        | succ n ih_59 =>
          intro i gx hi hg1 H locs ls hP hD hS hl
          refine lv_iload_n hx hb dX7_graph_59 rfl (lv_at hl 2 rfl) ?_
          refine lv_aload_n hx hb dX7_graph_60 rfl (lv_at hl 0 rfl) ?_
          refine va_get (D := D) (ci := 7) (v := .int (nI q9)) (C := RX7) (T := TX7) (N := 27) hx hb hts iT_X7 hown hK1 hP 1 rfl rfl 13 (by decide) (hts _ t_564) (fun _ h9 => h9) rfl dX7_graph_61 ?_
          refine lv_icmp_ge (tgt := 85) hx hb dX7_graph_64 (by decide) (fun c_27 => ?_) (fun c_27 => ?_)
          · exact absurd c_27 (nI_ge (a := i) (b := q9) (by omega) (by omega))
          refine lv_aload_n hx hb dX7_graph_67 rfl (lv_at hl 0 rfl) ?_
          refine va_get (D := D) (ci := 7) (v := .ref m6) (C := RX7) (T := TX7) (N := 27) hx hb hts iT_X7 hown hK1 hP 1 rfl rfl 9 (by decide) (hts _ t_560) (fun _ h9 => h9) rfl dX7_graph_68 ?_
          refine lv_iload_n hx hb dX7_graph_71 rfl (lv_at hl 2 rfl) ?_
          refine lv_aload_n hx hb dX7_graph_72 rfl (lv_at hl 0 rfl) ?_
          refine va_get (D := D) (ci := 7) (v := .ref m7) (C := RX7) (T := TX7) (N := 27) hx hb hts iT_X7 hown hK1 hP 1 rfl rfl 14 (by decide) (hts _ t_565) (fun _ h9 => h9) rfl dX7_graph_73 ?_
          refine lv_iload_n hx hb dX7_graph_76 rfl (lv_at hl 2 rfl) ?_
          refine va_iald hx hb hK1 hP 3 0 rfl rfl (vp_in_nI (by omega) (by omega)) dX7_graph_77 ?_
          refine lv_nmi (show _ = ne2_8 i from by rw [nI_clamp (n := i) (by omega)]) ?_
          refine va_iast hx hb hK1 hP hD hS 0 0 rfl rfl (vp_in_nI (by omega) (by omega)) dX7_graph_78 (fun H locs hP hD hS => ?_)
          rw [nI_clamp (n := i) (by omega)] at hP hD
          have hP : va_P D vwCl [kI cI m6 12 (upd gx i (ne2_8 i)), kX7 m0 (nI z) m1 (nI r9) m2 m3 m4 m5 (nI q9) (nI k_16) m6 k1 k2 k3 (nI q9) m7 (nI w9) k6b_6 k7b_7 k8 m8 m9 m10 k9 m11 m12 m13 hv, kI cI m1 16 pf, kI cI m7 5 ne2_8] H := hP
          have hD : va_D A [kI cI m6 12 (upd gx i (ne2_8 i)), kX7 m0 (nI z) m1 (nI r9) m2 m3 m4 m5 (nI q9) (nI k_16) m6 k1 k2 k3 (nI q9) m7 (nI w9) k6b_6 k7b_7 k8 m8 m9 m10 k9 m11 m12 m13 hv, kI cI m1 16 pf, kI cI m7 5 ne2_8] := hD
          refine lv_iinc (v := nI (i + 1)) (lv' := [(2, .int (nI (i + 1))), (0, .ref m0), (1, .int (nI k_16))]) hx hb dX7_graph_79 hl (k := 2) rfl (nI_1 i) (by decide) rfl (fun ls hl => ?_)
          refine lv_goto (tgt := 59) hx hb dX7_graph_82 (by decide) ?_
          exact ih_59 (i + 1) (upd gx i (ne2_8 i)) (by omega) (fun j hj => by by_cases h9 : j = i; subst h9; exact pk_us; rw [pk_un (by omega)]; exact hg1 j (by omega)) _ _ _ (hP.sub [0, 1, 2, 3] rfl) (hD.sub [0, 1, 2, 3] rfl rfl) hS (lv_sub hl [1, 2, 0] rfl)
      exact LOOP_59 q9 0 ea (by omega) (fun j hj => absurd hj (by omega)) _ _ _ (hP.sub [0, 1, 2, 3] rfl) (hD.sub [0, 1, 2, 3] rfl rfl) hS (lv_sub hl [2, 1, 0] rfl)
    · skip
      refine lv_sipush (v := -1003) hx hb dX7_graph_40 (by decide) ?_
      exact hret _ _ _ _ _ _ (-1003) (nI q9, nI w9, k6b_6, k7b_7, k8, k9, k1, k3, z, n9, v, ne2_8, ea) dX7_graph_43 rfl hS (Nat.le_of_ble_eq_true rfl) (Nat.le_of_ble_eq_true rfl) ⟨hz, hf, Or.inl ⟨(fun q => c_22 (gr_eq hTX q hk5 hklo hkhi ew8)), rfl, rfl, rfl, rfl, rfl, rfl, rfl⟩, Or.inr ⟨rfl, rfl, rfl, rfl⟩⟩ (hP.sub [1, 2, 3, 0] rfl) (hD.sub [1, 2, 3, 0] rfl rfl)
set_option maxHeartbeats 4000000 in
set_option maxRecDepth 100000 in
theorem c_X7_ruleNow (sz : Nat) (m0 : Nat) (m1 : Nat) (m2 : Nat) (m3 : Nat) (m4 : Nat) (m5 : Nat) (m6 : Nat) (m7 : Nat) (m8 : Nat) (m9 : Nat) (m10 : Nat) (m11 : Nat) (m12 : Nat) (m13 : Nat) (z : Nat) (r9 : Nat) (n9 : Nat) (v : Nat) (k1 : Int32) (k2 : Int32) (k3 : Int32) (k4 : Int32) (k5 : Int32) (k6 : Int32) (k7 : Int32) (k8 : Int32) (k9 : Int32) (hv : Int64) (ro : Nat → Int32) (re : Nat → Int32) (rn : Nat → Int32) (rg : Nat → Int32) (j : Nat) (w : Nat) (hj : j < 9) (hww : w < 3 ∨ (10 ≤ w ∧ w ≤ 12)) : CTi l D cI cJ cZ cR yX7_ruleNow cX7_ruleNow 3 (some .int) 0 0 0 0 sz [.ref m0, .int (nI j), .int (nI w)] [kX7 m0 (nI z) m1 (nI r9) m2 m3 m4 m5 (nI n9) (nI v) m6 k1 k2 k3 k4 m7 k5 k6 k7 k8 m8 m9 m10 k9 m11 m12 m13 hv, kI cI m2 9 ro, kI cI m3 9 re, kI cI m4 9 rn, kI cI m5 27 rg] (fun (r : Int32) (u : Unit) => (r = (rnow ro re rn rg j w))) (fun (u : Unit) => [kX7 m0 (nI z) m1 (nI r9) m2 m3 m4 m5 (nI n9) (nI v) m6 k1 k2 k3 k4 m7 k5 k6 k7 k8 m8 m9 m10 k9 m11 m12 m13 hv, kI cI m2 9 ro, kI cI m3 9 re, kI cI m4 9 rn, kI cI m5 27 rg]) := by
  refine CTi.of (ty := .int) (by decide) (Nat.le_of_ble_eq_true rfl) rfl ?_
  intro p e s m below meth c A Q ls hd hin hK hsz hP hD hA hS hl hret
  obtain ⟨hx, hb, hml, hown, hts⟩ := id hd
  have hK1 := hK.1
  have hown : s.vm.findClass RX7 = some m.cls := hown
  have hl : lv_has ls 3 [(0, .ref m0), (1, .int (nI j)), (2, .int (nI w))] := hl
  refine lv_iload_n hx hb dX7_ruleNow_0 rfl (lv_at hl 2 rfl) ?_
  rcases sw_2 (nI w) with c_1 | c_1 | c_1 | c_1
  · refine lv_nmi c_1 ?_
    refine lv_tableIn (off := 27) (tgt := 28) hx hb dX7_ruleNow_1 (by decide) (by decide) (by decide) (by decide) ?_
    refine lv_aload_n hx hb dX7_ruleNow_28 rfl (lv_at hl 0 rfl) ?_
    refine va_get (D := D) (ci := 7) (v := .ref m2) (C := RX7) (T := TX7) (N := 27) hx hb hts iT_X7 hown hK1 hP 0 rfl rfl 3 (by decide) (hts _ t_554) (fun _ h9 => h9) rfl dX7_ruleNow_29 ?_
    refine lv_iload_n hx hb dX7_ruleNow_32 rfl (lv_at hl 1 rfl) ?_
    refine va_iald hx hb hK1 hP 1 0 rfl rfl (vp_in_nI (by omega) (by omega)) dX7_ruleNow_33 ?_
    refine lv_nmi (show _ = ro j from by rw [nI_clamp (n := j) (by omega)]) ?_
    exact hret _ _ _ _ _ _ (ro j) () dX7_ruleNow_34 rfl hS (Nat.le_of_ble_eq_true rfl) (Nat.le_of_ble_eq_true rfl) (rn_0 c_1 (by omega)) (hP.sub [0, 1, 2, 3, 4] rfl) (hD.sub [0, 1, 2, 3, 4] rfl rfl)
  · refine lv_nmi c_1 ?_
    refine lv_tableIn (off := 34) (tgt := 35) hx hb dX7_ruleNow_1 (by decide) (by decide) (by decide) (by decide) ?_
    refine lv_aload_n hx hb dX7_ruleNow_35 rfl (lv_at hl 0 rfl) ?_
    refine va_get (D := D) (ci := 7) (v := .ref m3) (C := RX7) (T := TX7) (N := 27) hx hb hts iT_X7 hown hK1 hP 0 rfl rfl 4 (by decide) (hts _ t_555) (fun _ h9 => h9) rfl dX7_ruleNow_36 ?_
    refine lv_iload_n hx hb dX7_ruleNow_39 rfl (lv_at hl 1 rfl) ?_
    refine va_iald hx hb hK1 hP 2 0 rfl rfl (vp_in_nI (by omega) (by omega)) dX7_ruleNow_40 ?_
    refine lv_nmi (show _ = re j from by rw [nI_clamp (n := j) (by omega)]) ?_
    exact hret _ _ _ _ _ _ (re j) () dX7_ruleNow_41 rfl hS (Nat.le_of_ble_eq_true rfl) (Nat.le_of_ble_eq_true rfl) (rn_1 c_1 (by omega)) (hP.sub [0, 1, 2, 3, 4] rfl) (hD.sub [0, 1, 2, 3, 4] rfl rfl)
  · refine lv_nmi c_1 ?_
    refine lv_tableIn (off := 41) (tgt := 42) hx hb dX7_ruleNow_1 (by decide) (by decide) (by decide) (by decide) ?_
    refine lv_aload_n hx hb dX7_ruleNow_42 rfl (lv_at hl 0 rfl) ?_
    refine va_get (D := D) (ci := 7) (v := .ref m4) (C := RX7) (T := TX7) (N := 27) hx hb hts iT_X7 hown hK1 hP 0 rfl rfl 5 (by decide) (hts _ t_556) (fun _ h9 => h9) rfl dX7_ruleNow_43 ?_
    refine lv_iload_n hx hb dX7_ruleNow_46 rfl (lv_at hl 1 rfl) ?_
    refine va_iald hx hb hK1 hP 3 0 rfl rfl (vp_in_nI (by omega) (by omega)) dX7_ruleNow_47 ?_
    refine lv_nmi (show _ = rn j from by rw [nI_clamp (n := j) (by omega)]) ?_
    exact hret _ _ _ _ _ _ (rn j) () dX7_ruleNow_48 rfl hS (Nat.le_of_ble_eq_true rfl) (Nat.le_of_ble_eq_true rfl) (rn_2 c_1 (by omega)) (hP.sub [0, 1, 2, 3, 4] rfl) (hD.sub [0, 1, 2, 3, 4] rfl rfl)
  · refine lv_tableOut (tgt := 49) hx hb dX7_ruleNow_1 c_1 (by decide) ?_
    have hw10 := sw2_ge hww c_1
    refine lv_iload_n hx hb dX7_ruleNow_49 rfl (lv_at hl 2 rfl) ?_
    refine lv_bipush (v := 10) hx hb dX7_ruleNow_50 (by decide) ?_
    refine lv_isub hx hb dX7_ruleNow_52 ?_
    refine lv_nmi (show _ = (nI (w - 10) : Int32) from pk_sub (a := w) (b := 10) hw10) ?_
    refine lv_aload_n hx hb dX7_ruleNow_53 rfl (lv_at hl 0 rfl) ?_
    refine va_get (D := D) (ci := 7) (v := .ref m3) (C := RX7) (T := TX7) (N := 27) hx hb hts iT_X7 hown hK1 hP 0 rfl rfl 4 (by decide) (hts _ t_555) (fun _ h9 => h9) rfl dX7_ruleNow_54 ?_
    refine lv_iload_n hx hb dX7_ruleNow_57 rfl (lv_at hl 1 rfl) ?_
    refine va_iald hx hb hK1 hP 2 0 rfl rfl (vp_in_nI (by omega) (by omega)) dX7_ruleNow_58 ?_
    refine lv_nmi (show _ = re j from by rw [nI_clamp (n := j) (by omega)]) ?_
    refine lv_icmp_ge (tgt := 78) hx hb dX7_ruleNow_59 (by decide) (fun c_2 => ?_) (fun c_2 => ?_)
    · skip
      refine lv_iconst (v := -1) hx hb dX7_ruleNow_78 (by decide) ?_
      exact hret _ _ _ _ _ _ (-1) () dX7_ruleNow_79 rfl hS (Nat.le_of_ble_eq_true rfl) (Nat.le_of_ble_eq_true rfl) (rn_b hw10 c_2) (hP.sub [0, 1, 2, 3, 4] rfl) (hD.sub [0, 1, 2, 3, 4] rfl rfl)
    · skip
      refine lv_aload_n hx hb dX7_ruleNow_62 rfl (lv_at hl 0 rfl) ?_
      refine va_get (D := D) (ci := 7) (v := .ref m5) (C := RX7) (T := TX7) (N := 27) hx hb hts iT_X7 hown hK1 hP 0 rfl rfl 6 (by decide) (hts _ t_557) (fun _ h9 => h9) rfl dX7_ruleNow_63 ?_
      refine lv_iconst (v := 3) hx hb dX7_ruleNow_66 (by decide) ?_
      refine lv_iload_n hx hb dX7_ruleNow_67 rfl (lv_at hl 1 rfl) ?_
      refine lv_imul hx hb dX7_ruleNow_68 ?_
      refine lv_nmi (show _ = (nI (3 * j)) from pk_mul (3) (j)) ?_
      refine lv_iload_n hx hb dX7_ruleNow_69 rfl (lv_at hl 2 rfl) ?_
      refine lv_iadd hx hb dX7_ruleNow_70 ?_
      refine lv_nmi (show _ = (nI ((3 * j) + w)) from nI_add ((3 * j)) (w)) ?_
      refine lv_bipush (v := 10) hx hb dX7_ruleNow_71 (by decide) ?_
      refine lv_isub hx hb dX7_ruleNow_73 ?_
      refine lv_nmi (show _ = (nI ((3 * j) + w - 10) : Int32) from pk_sub (a := (3 * j) + w) (b := 10) (by omega)) ?_
      refine va_iald hx hb hK1 hP 4 0 rfl rfl (vp_in_nI (by omega) (by omega)) dX7_ruleNow_74 ?_
      refine lv_nmi (show _ = rg ((3 * j) + w - 10) from by rw [nI_clamp (n := ((3 * j) + w - 10)) (by omega)]) ?_
      refine lv_goto (tgt := 79) hx hb dX7_ruleNow_75 (by decide) ?_
      exact hret _ _ _ _ _ _ (rg ((3 * j) + w - 10)) () dX7_ruleNow_79 rfl hS (Nat.le_of_ble_eq_true rfl) (Nat.le_of_ble_eq_true rfl) (rn_a hw10 c_2) (hP.sub [0, 1, 2, 3, 4] rfl) (hD.sub [0, 1, 2, 3, 4] rfl rfl)
set_option maxHeartbeats 4000000 in
set_option maxRecDepth 100000 in
theorem c_X7_of (sz : Nat) (m0 : Nat) (m1 : Nat) (m2 : Nat) (m3 : Nat) (m4 : Nat) (m5 : Nat) (m6 : Nat) (m7 : Nat) (m8 : Nat) (m9 : Nat) (m10 : Nat) (m11 : Nat) (m12 : Nat) (m13 : Nat) (z : Nat) (r9 : Nat) (n9 : Nat) (v : Nat) (k1 : Int32) (k2 : Int32) (k3 : Int32) (k4 : Int32) (k5 : Int32) (k6 : Int32) (k7 : Int32) (k8 : Int32) (k9 : Int32) (hv : Int64) (ro : Nat → Int32) (re : Nat → Int32) (rn : Nat → Int32) (rg : Nat → Int32) (p0 : Int32) (p1 : Int32) (hr9 : r9 ≤ 9) : CTi l D cI cJ cZ cR yX7_of cX7_of 3 (some .int) 2 43 0 0 sz [.ref m0, .int p0, .int p1] [kX7 m0 (nI z) m1 (nI r9) m2 m3 m4 m5 (nI n9) (nI v) m6 k1 k2 k3 k4 m7 k5 k6 k7 k8 m8 m9 m10 k9 m11 m12 m13 hv, kI cI m2 9 ro, kI cI m3 9 re, kI cI m4 9 rn, kI cI m5 27 rg] (fun (r : Int32) (u : Unit) => (MOf p0 p1 r9 ro re rn rg r)) (fun (u : Unit) => [kX7 m0 (nI z) m1 (nI r9) m2 m3 m4 m5 (nI n9) (nI v) m6 k1 k2 k3 k4 m7 k5 k6 k7 k8 m8 m9 m10 k9 m11 m12 m13 hv, kI cI m2 9 ro, kI cI m3 9 re, kI cI m4 9 rn, kI cI m5 27 rg]) := by
  refine CTi.of (ty := .int) (by decide) (Nat.le_of_ble_eq_true rfl) rfl ?_
  intro p e s m below meth c A Q ls hd hin hK hsz hP hD hA hS hl hret
  obtain ⟨hx, hb, hml, hown, hts⟩ := id hd
  have hK1 := hK.1
  have hown : s.vm.findClass RX7 = some m.cls := hown
  have hl : lv_has ls 3 [(0, .ref m0), (1, .int p0), (2, .int p1)] := hl
  refine lv_aload_n hx hb dX7_of_0 rfl (lv_at hl 0 rfl) ?_
  refine lv_iload_n hx hb dX7_of_1 rfl (lv_at hl 1 rfl) ?_
  refine xc_i (wc := [kX7 m0 (nI z) m1 (nI r9) m2 m3 m4 m5 (nI n9) (nI v) m6 k1 k2 k3 k4 m7 k5 k6 k7 k8 m8 m9 m10 k9 m11 m12 m13 hv]) (wr := [kI cI m2 9 ro, kI cI m3 9 re, kI cI m4 9 rn, kI cI m5 27 rg]) (xrV (n := 1) (As := [.int p0]) (rest := []) (ci := 7) (q0 := 0) hd hK hP hD (c_X7_isRule l D cI cJ cZ cR _ m0 m1 m2 m3 m4 m5 m6 m7 m8 m9 m10 m11 m12 m13 z r9 n9 v k1 k2 k3 k4 k5 k6 k7 k8 k9 hv p0 ) (gV t_685 mV_X7_isRule) hV_X7_isRule ⟨(Nat.le_of_ble_eq_true rfl), (Nat.le_of_ble_eq_true rfl)⟩ rfl rfl [0] rfl rfl rfl hl.1 rfl (Nat.le_of_ble_eq_true rfl) dX7_of_2 ⟨(Nat.le_of_ble_eq_true rfl), (Nat.le_of_ble_eq_true rfl)⟩) hP hD hS hA [0] [1, 2, 3, 4] rfl rfl rfl (by decide) (fun r_1 u_2 H locs hw_3 hP hD hS => ?_)
  have hw_4 : r_1 = (wi p0 0 (nI r9 - 1)) := hw_3
  subst hw_4
  have hP : va_P D vwCl [kI cI m2 9 ro, kI cI m3 9 re, kI cI m4 9 rn, kI cI m5 27 rg, kX7 m0 (nI z) m1 (nI r9) m2 m3 m4 m5 (nI n9) (nI v) m6 k1 k2 k3 k4 m7 k5 k6 k7 k8 m8 m9 m10 k9 m11 m12 m13 hv] H := hP
  have hD : va_D A [kI cI m2 9 ro, kI cI m3 9 re, kI cI m4 9 rn, kI cI m5 27 rg, kX7 m0 (nI z) m1 (nI r9) m2 m3 m4 m5 (nI n9) (nI v) m6 k1 k2 k3 k4 m7 k5 k6 k7 k8 m8 m9 m10 k9 m11 m12 m13 hv] := hD
  refine lv_if_ne (tgt := 12) hx hb dX7_of_5 (by decide) (fun c_5 => ?_) (fun c_5 => ?_)
  · skip
    obtain ⟨j9, hj9, ej9⟩ := wi_ix (by omega) c_5
    refine lv_iload_n hx hb dX7_of_12 rfl (lv_at hl 2 rfl) ?_
    refine lv_iconst (v := 0) hx hb dX7_of_13 (by decide) ?_
    refine lv_iconst (v := 2) hx hb dX7_of_14 (by decide) ?_
    refine xc_i (wc := []) (wr := [kI cI m2 9 ro, kI cI m3 9 re, kI cI m4 9 rn, kI cI m5 27 rg, kX7 m0 (nI z) m1 (nI r9) m2 m3 m4 m5 (nI n9) (nI v) m6 k1 k2 k3 k4 m7 k5 k6 k7 k8 m8 m9 m10 k9 m11 m12 m13 hv]) (xrS (n := 3) (As := [.int p1, .int 0, .int 2]) (rest := []) hd hK hP hD (c_X7_within l D cI cJ cZ cR _ p1 0 2 ) (gS t_637 mS_X7_within) hS_X7_within ⟨(Nat.le_of_ble_eq_true rfl), (Nat.le_of_ble_eq_true rfl)⟩ [] rfl rfl rfl hl.1 rfl (Nat.le_of_ble_eq_true rfl) dX7_of_15 ⟨(Nat.le_of_ble_eq_true rfl), (Nat.le_of_ble_eq_true rfl)⟩) hP hD hS hA [] [0, 1, 2, 3, 4] rfl rfl rfl (by decide) (fun r_6 u_7 H locs hw_8 hP hD hS => ?_)
    have hw_9 : r_6 = (wi p1 0 2) := hw_8
    subst hw_9
    have hP : va_P D vwCl [kI cI m2 9 ro, kI cI m3 9 re, kI cI m4 9 rn, kI cI m5 27 rg, kX7 m0 (nI z) m1 (nI r9) m2 m3 m4 m5 (nI n9) (nI v) m6 k1 k2 k3 k4 m7 k5 k6 k7 k8 m8 m9 m10 k9 m11 m12 m13 hv] H := hP
    have hD : va_D A [kI cI m2 9 ro, kI cI m3 9 re, kI cI m4 9 rn, kI cI m5 27 rg, kX7 m0 (nI z) m1 (nI r9) m2 m3 m4 m5 (nI n9) (nI v) m6 k1 k2 k3 k4 m7 k5 k6 k7 k8 m8 m9 m10 k9 m11 m12 m13 hv] := hD
    refine lv_if_ne (tgt := 32) hx hb dX7_of_18 (by decide) (fun c_10 => ?_) (fun c_10 => ?_)
    · skip
      obtain ⟨w9, hwa, hwb, ew9⟩ := wi_rng (a := 0) (b := 2) (by decide) (by decide) c_10
      refine lv_aload_n hx hb dX7_of_32 rfl (lv_at hl 0 rfl) ?_
      refine lv_iload_n hx hb dX7_of_33 rfl (lv_at hl 1 rfl) ?_
      refine lv_nmi (show _ = (nI j9 : Int32) from ej9) ?_
      refine lv_iload_n hx hb dX7_of_34 rfl (lv_at hl 2 rfl) ?_
      refine lv_nmi (show _ = (nI w9 : Int32) from ew9) ?_
      refine xc_i (wc := [kX7 m0 (nI z) m1 (nI r9) m2 m3 m4 m5 (nI n9) (nI v) m6 k1 k2 k3 k4 m7 k5 k6 k7 k8 m8 m9 m10 k9 m11 m12 m13 hv, kI cI m2 9 ro, kI cI m3 9 re, kI cI m4 9 rn, kI cI m5 27 rg]) (wr := []) (xrV (n := 2) (As := [.int (nI j9), .int (nI w9)]) (rest := []) (ci := 7) (q0 := 4) hd hK hP hD (c_X7_ruleNow l D cI cJ cZ cR _ m0 m1 m2 m3 m4 m5 m6 m7 m8 m9 m10 m11 m12 m13 z r9 n9 v k1 k2 k3 k4 k5 k6 k7 k8 k9 hv ro re rn rg j9 w9 (by omega) (by omega)) (gV t_697 mV_X7_ruleNow) hV_X7_ruleNow ⟨(Nat.le_of_ble_eq_true rfl), (Nat.le_of_ble_eq_true rfl)⟩ rfl rfl [4, 0, 1, 2, 3] rfl rfl rfl hl.1 rfl (Nat.le_of_ble_eq_true rfl) dX7_of_35 ⟨(Nat.le_of_ble_eq_true rfl), (Nat.le_of_ble_eq_true rfl)⟩) hP hD hS hA [4, 0, 1, 2, 3] [] rfl rfl rfl (by decide) (fun r_11 u_12 H locs hw_13 hP hD hS => ?_)
      have hw_14 : r_11 = (rnow ro re rn rg j9 w9) := hw_13
      subst hw_14
      have hP : va_P D vwCl [kX7 m0 (nI z) m1 (nI r9) m2 m3 m4 m5 (nI n9) (nI v) m6 k1 k2 k3 k4 m7 k5 k6 k7 k8 m8 m9 m10 k9 m11 m12 m13 hv, kI cI m2 9 ro, kI cI m3 9 re, kI cI m4 9 rn, kI cI m5 27 rg] H := hP
      have hD : va_D A [kX7 m0 (nI z) m1 (nI r9) m2 m3 m4 m5 (nI n9) (nI v) m6 k1 k2 k3 k4 m7 k5 k6 k7 k8 m8 m9 m10 k9 m11 m12 m13 hv, kI cI m2 9 ro, kI cI m3 9 re, kI cI m4 9 rn, kI cI m5 27 rg] := hD
      refine lv_goto (tgt := 44) hx hb dX7_of_38 (by decide) ?_
      exact hret _ _ _ _ _ _ (rnow ro re rn rg j9 w9) () dX7_of_44 rfl hS (Nat.le_of_ble_eq_true rfl) (Nat.le_of_ble_eq_true rfl) (Or.inr ⟨j9, hj9, ej9, Or.inr ⟨w9, by omega, ew9, rfl⟩⟩) (hP.sub [0, 1, 2, 3, 4] rfl) (hD.sub [0, 1, 2, 3, 4] rfl rfl)
    · skip
      refine lv_iload_n hx hb dX7_of_21 rfl (lv_at hl 2 rfl) ?_
      refine lv_bipush (v := 10) hx hb dX7_of_22 (by decide) ?_
      refine lv_bipush (v := 12) hx hb dX7_of_24 (by decide) ?_
      refine xc_i (wc := []) (wr := [kI cI m2 9 ro, kI cI m3 9 re, kI cI m4 9 rn, kI cI m5 27 rg, kX7 m0 (nI z) m1 (nI r9) m2 m3 m4 m5 (nI n9) (nI v) m6 k1 k2 k3 k4 m7 k5 k6 k7 k8 m8 m9 m10 k9 m11 m12 m13 hv]) (xrS (n := 3) (As := [.int p1, .int 10, .int 12]) (rest := []) hd hK hP hD (c_X7_within l D cI cJ cZ cR _ p1 10 12 ) (gS t_637 mS_X7_within) hS_X7_within ⟨(Nat.le_of_ble_eq_true rfl), (Nat.le_of_ble_eq_true rfl)⟩ [] rfl rfl rfl hl.1 rfl (Nat.le_of_ble_eq_true rfl) dX7_of_26 ⟨(Nat.le_of_ble_eq_true rfl), (Nat.le_of_ble_eq_true rfl)⟩) hP hD hS hA [] [0, 1, 2, 3, 4] rfl rfl rfl (by decide) (fun r_15 u_16 H locs hw_17 hP hD hS => ?_)
      have hw_18 : r_15 = (wi p1 10 12) := hw_17
      subst hw_18
      have hP : va_P D vwCl [kI cI m2 9 ro, kI cI m3 9 re, kI cI m4 9 rn, kI cI m5 27 rg, kX7 m0 (nI z) m1 (nI r9) m2 m3 m4 m5 (nI n9) (nI v) m6 k1 k2 k3 k4 m7 k5 k6 k7 k8 m8 m9 m10 k9 m11 m12 m13 hv] H := hP
      have hD : va_D A [kI cI m2 9 ro, kI cI m3 9 re, kI cI m4 9 rn, kI cI m5 27 rg, kX7 m0 (nI z) m1 (nI r9) m2 m3 m4 m5 (nI n9) (nI v) m6 k1 k2 k3 k4 m7 k5 k6 k7 k8 m8 m9 m10 k9 m11 m12 m13 hv] := hD
      refine lv_if_eq (tgt := 41) hx hb dX7_of_29 (by decide) (fun c_19 => ?_) (fun c_19 => ?_)
      · skip
        refine lv_sipush (v := -1002) hx hb dX7_of_41 (by decide) ?_
        exact hret _ _ _ _ _ _ (-1002) () dX7_of_44 rfl hS (Nat.le_of_ble_eq_true rfl) (Nat.le_of_ble_eq_true rfl) (Or.inr ⟨j9, hj9, ej9, Or.inl ⟨c_10, c_19, rfl⟩⟩) (hP.sub [4, 0, 1, 2, 3] rfl) (hD.sub [4, 0, 1, 2, 3] rfl rfl)
      · skip
        obtain ⟨w9, hwa, hwb, ew9⟩ := wi_rng (a := 10) (b := 12) (by decide) (by decide) c_19
        refine lv_aload_n hx hb dX7_of_32 rfl (lv_at hl 0 rfl) ?_
        refine lv_iload_n hx hb dX7_of_33 rfl (lv_at hl 1 rfl) ?_
        refine lv_nmi (show _ = (nI j9 : Int32) from ej9) ?_
        refine lv_iload_n hx hb dX7_of_34 rfl (lv_at hl 2 rfl) ?_
        refine lv_nmi (show _ = (nI w9 : Int32) from ew9) ?_
        refine xc_i (wc := [kX7 m0 (nI z) m1 (nI r9) m2 m3 m4 m5 (nI n9) (nI v) m6 k1 k2 k3 k4 m7 k5 k6 k7 k8 m8 m9 m10 k9 m11 m12 m13 hv, kI cI m2 9 ro, kI cI m3 9 re, kI cI m4 9 rn, kI cI m5 27 rg]) (wr := []) (xrV (n := 2) (As := [.int (nI j9), .int (nI w9)]) (rest := []) (ci := 7) (q0 := 4) hd hK hP hD (c_X7_ruleNow l D cI cJ cZ cR _ m0 m1 m2 m3 m4 m5 m6 m7 m8 m9 m10 m11 m12 m13 z r9 n9 v k1 k2 k3 k4 k5 k6 k7 k8 k9 hv ro re rn rg j9 w9 (by omega) (by omega)) (gV t_697 mV_X7_ruleNow) hV_X7_ruleNow ⟨(Nat.le_of_ble_eq_true rfl), (Nat.le_of_ble_eq_true rfl)⟩ rfl rfl [4, 0, 1, 2, 3] rfl rfl rfl hl.1 rfl (Nat.le_of_ble_eq_true rfl) dX7_of_35 ⟨(Nat.le_of_ble_eq_true rfl), (Nat.le_of_ble_eq_true rfl)⟩) hP hD hS hA [4, 0, 1, 2, 3] [] rfl rfl rfl (by decide) (fun r_20 u_21 H locs hw_22 hP hD hS => ?_)
        have hw_23 : r_20 = (rnow ro re rn rg j9 w9) := hw_22
        subst hw_23
        have hP : va_P D vwCl [kX7 m0 (nI z) m1 (nI r9) m2 m3 m4 m5 (nI n9) (nI v) m6 k1 k2 k3 k4 m7 k5 k6 k7 k8 m8 m9 m10 k9 m11 m12 m13 hv, kI cI m2 9 ro, kI cI m3 9 re, kI cI m4 9 rn, kI cI m5 27 rg] H := hP
        have hD : va_D A [kX7 m0 (nI z) m1 (nI r9) m2 m3 m4 m5 (nI n9) (nI v) m6 k1 k2 k3 k4 m7 k5 k6 k7 k8 m8 m9 m10 k9 m11 m12 m13 hv, kI cI m2 9 ro, kI cI m3 9 re, kI cI m4 9 rn, kI cI m5 27 rg] := hD
        refine lv_goto (tgt := 44) hx hb dX7_of_38 (by decide) ?_
        exact hret _ _ _ _ _ _ (rnow ro re rn rg j9 w9) () dX7_of_44 rfl hS (Nat.le_of_ble_eq_true rfl) (Nat.le_of_ble_eq_true rfl) (Or.inr ⟨j9, hj9, ej9, Or.inr ⟨w9, by omega, ew9, rfl⟩⟩) (hP.sub [0, 1, 2, 3, 4] rfl) (hD.sub [0, 1, 2, 3, 4] rfl rfl)
  · skip
    refine lv_sipush (v := -1001) hx hb dX7_of_8 (by decide) ?_
    exact hret _ _ _ _ _ _ (-1001) () dX7_of_11 rfl hS (Nat.le_of_ble_eq_true rfl) (Nat.le_of_ble_eq_true rfl) (Or.inl ⟨c_5, rfl⟩) (hP.sub [4, 0, 1, 2, 3] rfl) (hD.sub [4, 0, 1, 2, 3] rfl rfl)
set_option maxHeartbeats 4000000 in
set_option maxRecDepth 100000 in
theorem c_X7_begin (sz : Nat) (m0 : Nat) (m1 : Nat) (m2 : Nat) (m3 : Nat) (m4 : Nat) (m5 : Nat) (m6 : Nat) (m7 : Nat) (m8 : Nat) (m9 : Nat) (m10 : Nat) (m11 : Nat) (m12 : Nat) (m13 : Nat) (z : Nat) (r9 : Nat) (n9 : Nat) (v : Nat) (k1 : Int32) (k2 : Int32) (k3 : Int32) (k4 : Int32) (k5 : Int32) (k6 : Int32) (k7 : Int32) (k8 : Int32) (k9 : Int32) (hv : Int64) (ea : Nat → Int32) (p0 : Int32) (hf : FgI n9 v) : CTi l D cI cJ cZ cR yX7_begin cX7_begin 2 (some .int) 1 22 0 0 sz [.ref m0, .int p0] [kX7 m0 (nI z) m1 (nI r9) m2 m3 m4 m5 (nI n9) (nI v) m6 k1 k2 k3 k4 m7 k5 k6 k7 k8 m8 m9 m10 k9 m11 m12 m13 hv, kI cI m6 12 ea] (fun (r : Int32) (u : Int32 × Int32 × Int32 × Int32 × Nat × Nat × (Nat → Int32)) => (r = (if wi p0 0 2 = 0 then -1001 else 1)) ∧ (FgI u.2.2.2.2.1 u.2.2.2.2.2.1) ∧ ((wi p0 0 2 = 0 ∧ u.2.2.2.2.1 = n9 ∧ u.2.2.2.2.2.1 = v ∧ u.2.2.2.2.2.2 = ea ∧ u.1 = k1 ∧ u.2.1 = k3) ∨ (¬ wi p0 0 2 = 0 ∧ u.2.2.2.2.1 = 1 ∧ u.2.2.2.2.2.1 = 2 ∧ u.2.2.2.2.2.2 = upd ea 0 ((100 * p0) + 1) ∧ u.1 = 0 ∧ u.2.1 = k3 + 1)) ∧ (u.2.2.1 = 0 ∨ (u.2.2.1 = k8 ∧ u.2.2.2.2.1 = n9 ∧ u.2.2.2.2.2.1 = v ∧ u.2.2.2.2.2.2 = ea))) (fun (u : Int32 × Int32 × Int32 × Int32 × Nat × Nat × (Nat → Int32)) => [kX7 m0 (nI z) m1 (nI r9) m2 m3 m4 m5 (nI u.2.2.2.2.1) (nI u.2.2.2.2.2.1) m6 u.1 k2 u.2.1 k4 m7 k5 k6 k7 u.2.2.1 m8 m9 m10 u.2.2.2.1 m11 m12 m13 hv, kI cI m6 12 u.2.2.2.2.2.2]) := by
  refine CTi.of (ty := .int) (by decide) (Nat.le_of_ble_eq_true rfl) rfl ?_
  intro p e s m below meth c A Q ls hd hin hK hsz hP hD hA hS hl hret
  obtain ⟨hx, hb, hml, hown, hts⟩ := id hd
  have hK1 := hK.1
  have hown : s.vm.findClass RX7 = some m.cls := hown
  have hl : lv_has ls 2 [(0, .ref m0), (1, .int p0)] := hl
  refine lv_iload_n hx hb dX7_begin_0 rfl (lv_at hl 1 rfl) ?_
  refine lv_iconst (v := 0) hx hb dX7_begin_1 (by decide) ?_
  refine lv_iconst (v := 2) hx hb dX7_begin_2 (by decide) ?_
  refine xc_i (wc := []) (wr := [kX7 m0 (nI z) m1 (nI r9) m2 m3 m4 m5 (nI n9) (nI v) m6 k1 k2 k3 k4 m7 k5 k6 k7 k8 m8 m9 m10 k9 m11 m12 m13 hv, kI cI m6 12 ea]) (xrS (n := 3) (As := [.int p0, .int 0, .int 2]) (rest := []) hd hK hP hD (c_X7_within l D cI cJ cZ cR _ p0 0 2 ) (gS t_637 mS_X7_within) hS_X7_within ⟨(Nat.le_of_ble_eq_true rfl), (Nat.le_of_ble_eq_true rfl)⟩ [] rfl rfl rfl hl.1 rfl (Nat.le_of_ble_eq_true rfl) dX7_begin_3 ⟨(Nat.le_of_ble_eq_true rfl), (Nat.le_of_ble_eq_true rfl)⟩) hP hD hS hA [] [0, 1] rfl rfl rfl (by decide) (fun r_1 u_2 H locs hw_3 hP hD hS => ?_)
  have hw_4 : r_1 = (wi p0 0 2) := hw_3
  subst hw_4
  have hP : va_P D vwCl [kX7 m0 (nI z) m1 (nI r9) m2 m3 m4 m5 (nI n9) (nI v) m6 k1 k2 k3 k4 m7 k5 k6 k7 k8 m8 m9 m10 k9 m11 m12 m13 hv, kI cI m6 12 ea] H := hP
  have hD : va_D A [kX7 m0 (nI z) m1 (nI r9) m2 m3 m4 m5 (nI n9) (nI v) m6 k1 k2 k3 k4 m7 k5 k6 k7 k8 m8 m9 m10 k9 m11 m12 m13 hv, kI cI m6 12 ea] := hD
  refine lv_if_ne (tgt := 13) hx hb dX7_begin_6 (by decide) (fun c_5 => ?_) (fun c_5 => ?_)
  · skip
    refine lv_aload_n hx hb dX7_begin_13 rfl (lv_at hl 0 rfl) ?_
    refine lv_iconst (v := 1) hx hb dX7_begin_14 (by decide) ?_
    refine va_put (D := D) (ci := 7) (v := .int 1) (ty := .int) (C := RX7) (T := TX7) (N := 27) hx hb hts iT_X7 tyX7 tyX7_ok nmX7 hown hK1 hP hD hS 0 rfl rfl 7 (by decide) (hts _ t_558) (fun _ h9 => h9) rfl (by decide +kernel) rfl rfl (Nat.le_of_ble_eq_true rfl) dX7_begin_15 (fun H locs hP hD hS => ?_)
    have hP : va_P D vwCl [kX7 m0 (nI z) m1 (nI r9) m2 m3 m4 m5 1 (nI v) m6 k1 k2 k3 k4 m7 k5 k6 k7 k8 m8 m9 m10 k9 m11 m12 m13 hv, kI cI m6 12 ea] H := hP
    have hD : va_D A [kX7 m0 (nI z) m1 (nI r9) m2 m3 m4 m5 1 (nI v) m6 k1 k2 k3 k4 m7 k5 k6 k7 k8 m8 m9 m10 k9 m11 m12 m13 hv, kI cI m6 12 ea] := hD
    refine lv_aload_n hx hb dX7_begin_18 rfl (lv_at hl 0 rfl) ?_
    refine lv_iconst (v := 2) hx hb dX7_begin_19 (by decide) ?_
    refine va_put (D := D) (ci := 7) (v := .int 2) (ty := .int) (C := RX7) (T := TX7) (N := 27) hx hb hts iT_X7 tyX7 tyX7_ok nmX7 hown hK1 hP hD hS 0 rfl rfl 8 (by decide) (hts _ t_559) (fun _ h9 => h9) rfl (by decide +kernel) rfl rfl (Nat.le_of_ble_eq_true rfl) dX7_begin_20 (fun H locs hP hD hS => ?_)
    have hP : va_P D vwCl [kX7 m0 (nI z) m1 (nI r9) m2 m3 m4 m5 1 2 m6 k1 k2 k3 k4 m7 k5 k6 k7 k8 m8 m9 m10 k9 m11 m12 m13 hv, kI cI m6 12 ea] H := hP
    have hD : va_D A [kX7 m0 (nI z) m1 (nI r9) m2 m3 m4 m5 1 2 m6 k1 k2 k3 k4 m7 k5 k6 k7 k8 m8 m9 m10 k9 m11 m12 m13 hv, kI cI m6 12 ea] := hD
    refine lv_aload_n hx hb dX7_begin_23 rfl (lv_at hl 0 rfl) ?_
    refine va_get (D := D) (ci := 7) (v := .ref m6) (C := RX7) (T := TX7) (N := 27) hx hb hts iT_X7 hown hK1 hP 0 rfl rfl 9 (by decide) (hts _ t_560) (fun _ h9 => h9) rfl dX7_begin_24 ?_
    refine lv_iconst (v := 0) hx hb dX7_begin_27 (by decide) ?_
    refine lv_bipush (v := 100) hx hb dX7_begin_28 (by decide) ?_
    refine lv_iload_n hx hb dX7_begin_30 rfl (lv_at hl 1 rfl) ?_
    refine lv_imul hx hb dX7_begin_31 ?_
    refine lv_iconst (v := 1) hx hb dX7_begin_32 (by decide) ?_
    refine lv_iadd hx hb dX7_begin_33 ?_
    refine va_iast hx hb hK1 hP hD hS 1 0 rfl rfl (vin (by decide)) dX7_begin_34 (fun H locs hP hD hS => ?_)
    have hP : va_P D vwCl [kX7 m0 (nI z) m1 (nI r9) m2 m3 m4 m5 1 2 m6 k1 k2 k3 k4 m7 k5 k6 k7 k8 m8 m9 m10 k9 m11 m12 m13 hv, kI cI m6 12 (upd ea 0 ((100 * p0) + 1))] H := hP
    have hD : va_D A [kX7 m0 (nI z) m1 (nI r9) m2 m3 m4 m5 1 2 m6 k1 k2 k3 k4 m7 k5 k6 k7 k8 m8 m9 m10 k9 m11 m12 m13 hv, kI cI m6 12 (upd ea 0 ((100 * p0) + 1))] := hD
    refine lv_aload_n hx hb dX7_begin_35 rfl (lv_at hl 0 rfl) ?_
    refine lv_iconst (v := 0) hx hb dX7_begin_36 (by decide) ?_
    refine va_put (D := D) (ci := 7) (v := .int 0) (ty := .int) (C := RX7) (T := TX7) (N := 27) hx hb hts iT_X7 tyX7 tyX7_ok nmX7 hown hK1 hP hD hS 0 rfl rfl 10 (by decide) (hts _ t_561) (fun _ h9 => h9) rfl (by decide +kernel) rfl rfl (Nat.le_of_ble_eq_true rfl) dX7_begin_37 (fun H locs hP hD hS => ?_)
    have hP : va_P D vwCl [kX7 m0 (nI z) m1 (nI r9) m2 m3 m4 m5 1 2 m6 0 k2 k3 k4 m7 k5 k6 k7 k8 m8 m9 m10 k9 m11 m12 m13 hv, kI cI m6 12 (upd ea 0 ((100 * p0) + 1))] H := hP
    have hD : va_D A [kX7 m0 (nI z) m1 (nI r9) m2 m3 m4 m5 1 2 m6 0 k2 k3 k4 m7 k5 k6 k7 k8 m8 m9 m10 k9 m11 m12 m13 hv, kI cI m6 12 (upd ea 0 ((100 * p0) + 1))] := hD
    refine lv_aload_n hx hb dX7_begin_40 rfl (lv_at hl 0 rfl) ?_
    refine lv_dup hx hb dX7_begin_41 rfl ?_
    refine va_get (D := D) (ci := 7) (v := .int k3) (C := RX7) (T := TX7) (N := 27) hx hb hts iT_X7 hown hK1 hP 0 rfl rfl 12 (by decide) (hts _ t_563) (fun _ h9 => h9) rfl dX7_begin_42 ?_
    refine lv_iconst (v := 1) hx hb dX7_begin_45 (by decide) ?_
    refine lv_iadd hx hb dX7_begin_46 ?_
    refine va_put (D := D) (ci := 7) (v := .int (k3 + 1)) (ty := .int) (C := RX7) (T := TX7) (N := 27) hx hb hts iT_X7 tyX7 tyX7_ok nmX7 hown hK1 hP hD hS 0 rfl rfl 12 (by decide) (hts _ t_563) (fun _ h9 => h9) rfl (by decide +kernel) rfl rfl (Nat.le_of_ble_eq_true rfl) dX7_begin_47 (fun H locs hP hD hS => ?_)
    have hP : va_P D vwCl [kX7 m0 (nI z) m1 (nI r9) m2 m3 m4 m5 1 2 m6 0 k2 (k3 + 1) k4 m7 k5 k6 k7 k8 m8 m9 m10 k9 m11 m12 m13 hv, kI cI m6 12 (upd ea 0 ((100 * p0) + 1))] H := hP
    have hD : va_D A [kX7 m0 (nI z) m1 (nI r9) m2 m3 m4 m5 1 2 m6 0 k2 (k3 + 1) k4 m7 k5 k6 k7 k8 m8 m9 m10 k9 m11 m12 m13 hv, kI cI m6 12 (upd ea 0 ((100 * p0) + 1))] := hD
    refine lv_aload_n hx hb dX7_begin_50 rfl (lv_at hl 0 rfl) ?_
    refine xc_v (wc := [kX7 m0 (nI z) m1 (nI r9) m2 m3 m4 m5 1 2 m6 0 k2 (k3 + 1) k4 m7 k5 k6 k7 k8 m8 m9 m10 k9 m11 m12 m13 hv]) (wr := [kI cI m6 12 (upd ea 0 ((100 * p0) + 1))]) (xrV (n := 0) (As := []) (rest := []) (ci := 7) (q0 := 0) hd hK hP hD (c_X7_altered l D cI cJ cZ cR _ m0 m1 m2 m3 m4 m5 m6 m7 m8 m9 m10 m11 m12 m13 z r9 1 2 0 k2 (k3 + 1) k4 k5 k6 k7 k8 k9 hv ) (gV t_677 mV_X7_altered) hV_X7_altered ⟨(Nat.le_of_ble_eq_true rfl), (Nat.le_of_ble_eq_true rfl)⟩ rfl rfl [0] rfl rfl rfl hl.1 rfl (Nat.le_of_ble_eq_true rfl) dX7_begin_51 ⟨(Nat.le_of_ble_eq_true rfl), (Nat.le_of_ble_eq_true rfl)⟩) hP hD hS hA [0] [1] rfl rfl rfl (by decide) (fun u_7 H locs hw_8 hP hD hS => ?_)
    have hP : va_P D vwCl [kI cI m6 12 (upd ea 0 ((100 * p0) + 1)), kX7 m0 (nI z) m1 (nI r9) m2 m3 m4 m5 (nI 1) (nI 2) m6 0 k2 (k3 + 1) k4 m7 k5 k6 k7 0 m8 m9 m10 0 m11 m12 m13 hv] H := hP
    have hD : va_D A [kI cI m6 12 (upd ea 0 ((100 * p0) + 1)), kX7 m0 (nI z) m1 (nI r9) m2 m3 m4 m5 (nI 1) (nI 2) m6 0 k2 (k3 + 1) k4 m7 k5 k6 k7 0 m8 m9 m10 0 m11 m12 m13 hv] := hD
    refine lv_iconst (v := 1) hx hb dX7_begin_54 (by decide) ?_
    exact hret _ _ _ _ _ _ 1 (0, k3 + 1, 0, 0, 1, 2, upd ea 0 ((100 * p0) + 1)) dX7_begin_55 rfl hS (Nat.le_of_ble_eq_true rfl) (Nat.le_of_ble_eq_true rfl) ⟨by simp [c_5], (show FgI 1 2 from ⟨by decide, by decide, Or.inr (by decide)⟩), Or.inr ⟨c_5, rfl, rfl, rfl, rfl, rfl⟩, Or.inl rfl⟩ (hP.sub [1, 0] rfl) (hD.sub [1, 0] rfl rfl)
  · skip
    refine lv_sipush (v := -1001) hx hb dX7_begin_9 (by decide) ?_
    exact hret _ _ _ _ _ _ (-1001) (k1, k3, k8, k9, n9, v, ea) dX7_begin_12 rfl hS (Nat.le_of_ble_eq_true rfl) (Nat.le_of_ble_eq_true rfl) ⟨by simp [c_5], hf, Or.inl ⟨c_5, rfl, rfl, rfl, rfl, rfl⟩, Or.inr ⟨rfl, rfl, rfl, rfl⟩⟩ (hP.sub [0, 1] rfl) (hD.sub [0, 1] rfl rfl)
end
