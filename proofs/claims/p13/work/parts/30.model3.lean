theorem mV_X7_nodeFor : Cond.instanceMethod yX7_nodeFor ∈ gT ∧ Cond.selects RX7 yX7_nodeFor yX7_nodeFor ∈ gT ∧ Cond.initialized RX7 ∈ gT ∧ Cond.code yX7_nodeFor cX7_nodeFor 3 (some .int) ∈ gT := ⟨t_721, ts_36, t_8, t_722⟩
theorem hV_X7_nodeFor : yX7_nodeFor.cls = RX7 ∧ yX7_nodeFor.cls ≠ "java/lang/invoke/MethodHandle" ∧ yX7_nodeFor.cls ≠ "java/lang/invoke/VarHandle" ∧ (parseMethodDescriptor yX7_nodeFor.desc).map (fun d => d.parameters.length) = some 2 := by decide +kernel
theorem mV_X7_step : Cond.instanceMethod yX7_step ∈ gT ∧ Cond.selects RX7 yX7_step yX7_step ∈ gT ∧ Cond.initialized RX7 ∈ gT ∧ Cond.code yX7_step cX7_step 7 (some .int) ∈ gT := ⟨t_706, t_707, t_8, t_708⟩
theorem hV_X7_step : yX7_step.cls = RX7 ∧ yX7_step.cls ≠ "java/lang/invoke/MethodHandle" ∧ yX7_step.cls ≠ "java/lang/invoke/VarHandle" ∧ (parseMethodDescriptor yX7_step.desc).map (fun d => d.parameters.length) = some 2 := by decide +kernel
theorem mV_X7_edge : Cond.instanceMethod yX7_edge ∈ gT ∧ Cond.selects RX7 yX7_edge yX7_edge ∈ gT ∧ Cond.initialized RX7 ∈ gT ∧ Cond.code yX7_edge cX7_edge 2 (some .int) ∈ gT := ⟨t_727, t_728, t_8, t_729⟩
theorem hV_X7_edge : yX7_edge.cls = RX7 ∧ yX7_edge.cls ≠ "java/lang/invoke/MethodHandle" ∧ yX7_edge.cls ≠ "java/lang/invoke/VarHandle" ∧ (parseMethodDescriptor yX7_edge.desc).map (fun d => d.parameters.length) = some 1 := by decide +kernel
theorem mV_X7_opens : Cond.instanceMethod yX7_opens ∈ gT ∧ Cond.selects RX7 yX7_opens yX7_opens ∈ gT ∧ Cond.initialized RX7 ∈ gT ∧ Cond.code yX7_opens cX7_opens 3 (some .int) ∈ gT := ⟨t_740, ts_38, t_8, t_741⟩
theorem hV_X7_opens : yX7_opens.cls = RX7 ∧ yX7_opens.cls ≠ "java/lang/invoke/MethodHandle" ∧ yX7_opens.cls ≠ "java/lang/invoke/VarHandle" ∧ (parseMethodDescriptor yX7_opens.desc).map (fun d => d.parameters.length) = some 0 := by decide +kernel
theorem mV_X7_leadsTo : Cond.instanceMethod yX7_leadsTo ∈ gT ∧ Cond.selects RX7 yX7_leadsTo yX7_leadsTo ∈ gT ∧ Cond.initialized RX7 ∈ gT ∧ Cond.code yX7_leadsTo cX7_leadsTo 7 (some .boolean) ∈ gT := ⟨t_748, ts_40, t_8, t_749⟩
theorem hV_X7_leadsTo : yX7_leadsTo.cls = RX7 ∧ yX7_leadsTo.cls ≠ "java/lang/invoke/MethodHandle" ∧ yX7_leadsTo.cls ≠ "java/lang/invoke/VarHandle" ∧ (parseMethodDescriptor yX7_leadsTo.desc).map (fun d => d.parameters.length) = some 2 := by decide +kernel
theorem mV_X7_coloured : Cond.instanceMethod yX7_coloured ∈ gT ∧ Cond.selects RX7 yX7_coloured yX7_coloured ∈ gT ∧ Cond.initialized RX7 ∈ gT ∧ Cond.code yX7_coloured cX7_coloured 6 (some .int) ∈ gT := ⟨t_752, ts_41, t_8, t_753⟩
theorem hV_X7_coloured : yX7_coloured.cls = RX7 ∧ yX7_coloured.cls ≠ "java/lang/invoke/MethodHandle" ∧ yX7_coloured.cls ≠ "java/lang/invoke/VarHandle" ∧ (parseMethodDescriptor yX7_coloured.desc).map (fun d => d.parameters.length) = some 0 := by decide +kernel
theorem mV_X7_kindNow : Cond.instanceMethod yX7_kindNow ∈ gT ∧ Cond.selects RX7 yX7_kindNow yX7_kindNow ∈ gT ∧ Cond.initialized RX7 ∈ gT ∧ Cond.code yX7_kindNow cX7_kindNow 1 (some .int) ∈ gT := ⟨t_744, ts_39, t_8, t_745⟩
theorem hV_X7_kindNow : yX7_kindNow.cls = RX7 ∧ yX7_kindNow.cls ≠ "java/lang/invoke/MethodHandle" ∧ yX7_kindNow.cls ≠ "java/lang/invoke/VarHandle" ∧ (parseMethodDescriptor yX7_kindNow.desc).map (fun d => d.parameters.length) = some 0 := by decide +kernel
theorem mV_X7_isDone : Cond.instanceMethod yX7_isDone ∈ gT ∧ Cond.selects RX7 yX7_isDone yX7_isDone ∈ gT ∧ Cond.initialized RX7 ∈ gT ∧ Cond.code yX7_isDone cX7_isDone 1 (some .boolean) ∈ gT := ⟨t_736, ts_37, t_8, t_737⟩
theorem hV_X7_isDone : yX7_isDone.cls = RX7 ∧ yX7_isDone.cls ≠ "java/lang/invoke/MethodHandle" ∧ yX7_isDone.cls ≠ "java/lang/invoke/VarHandle" ∧ (parseMethodDescriptor yX7_isDone.desc).map (fun d => d.parameters.length) = some 0 := by decide +kernel
theorem mV_X7_kind : Cond.instanceMethod yX7_kind ∈ gT ∧ Cond.selects RX7 yX7_kind yX7_kind ∈ gT ∧ Cond.initialized RX7 ∈ gT ∧ Cond.code yX7_kind cX7_kind 1 (some .int) ∈ gT := ⟨t_731, t_732, t_8, t_733⟩
theorem hV_X7_kind : yX7_kind.cls = RX7 ∧ yX7_kind.cls ≠ "java/lang/invoke/MethodHandle" ∧ yX7_kind.cls ≠ "java/lang/invoke/VarHandle" ∧ (parseMethodDescriptor yX7_kind.desc).map (fun d => d.parameters.length) = some 0 := by decide +kernel
theorem mV_X7_howMany : Cond.instanceMethod yX7_howMany ∈ gT ∧ Cond.selects RX7 yX7_howMany yX7_howMany ∈ gT ∧ Cond.initialized RX7 ∈ gT ∧ Cond.code yX7_howMany cX7_howMany 2 (some .int) ∈ gT := ⟨t_856, ts_61, t_8, t_857⟩
theorem hV_X7_howMany : yX7_howMany.cls = RX7 ∧ yX7_howMany.cls ≠ "java/lang/invoke/MethodHandle" ∧ yX7_howMany.cls ≠ "java/lang/invoke/VarHandle" ∧ (parseMethodDescriptor yX7_howMany.desc).map (fun d => d.parameters.length) = some 1 := by decide +kernel
theorem mV_X7_count : Cond.instanceMethod yX7_count ∈ gT ∧ Cond.selects RX7 yX7_count yX7_count ∈ gT ∧ Cond.initialized RX7 ∈ gT ∧ Cond.code yX7_count cX7_count 2 (some .int) ∈ gT := ⟨t_851, t_852, t_8, t_853⟩
theorem hV_X7_count : yX7_count.cls = RX7 ∧ yX7_count.cls ≠ "java/lang/invoke/MethodHandle" ∧ yX7_count.cls ≠ "java/lang/invoke/VarHandle" ∧ (parseMethodDescriptor yX7_count.desc).map (fun d => d.parameters.length) = some 1 := by decide +kernel
theorem mV_X7_mix : Cond.instanceMethod yX7_mix ∈ gT ∧ Cond.selects RX7 yX7_mix yX7_mix ∈ gT ∧ Cond.initialized RX7 ∈ gT ∧ Cond.code yX7_mix cX7_mix 3 none ∈ gT := ⟨t_865, ts_62, t_8, t_866⟩
theorem hV_X7_mix : yX7_mix.cls = RX7 ∧ yX7_mix.cls ≠ "java/lang/invoke/MethodHandle" ∧ yX7_mix.cls ≠ "java/lang/invoke/VarHandle" ∧ (parseMethodDescriptor yX7_mix.desc).map (fun d => d.parameters.length) = some 1 := by decide +kernel
theorem dX7_coloured_0 : decode cX7_coloured 0 = .ok (.iconst 0, 1) := by decide +kernel
theorem dX7_coloured_1 : decode cX7_coloured 1 = .ok (.istore_n 1, 1) := by decide +kernel
theorem dX7_coloured_2 : decode cX7_coloured 2 = .ok (.iconst 0, 1) := by decide +kernel
theorem dX7_coloured_3 : decode cX7_coloured 3 = .ok (.istore_n 2, 1) := by decide +kernel
theorem dX7_coloured_4 : decode cX7_coloured 4 = .ok (.iload_n 2, 1) := by decide +kernel
theorem dX7_coloured_5 : decode cX7_coloured 5 = .ok (.iconst 1, 1) := by decide +kernel
theorem dX7_coloured_6 : decode cX7_coloured 6 = .ok (.aload_n 0, 1) := by decide +kernel
theorem dX7_coloured_7 : decode cX7_coloured 7 = .ok (.getfield 111, 3) := by decide +kernel
theorem dX7_coloured_10 : decode cX7_coloured 10 = .ok (.ishl, 1) := by decide +kernel
theorem dX7_coloured_11 : decode cX7_coloured 11 = .ok (.if_icmp .ge 108, 3) := by decide +kernel
theorem dX7_coloured_14 : decode cX7_coloured 14 = .ok (.iconst 1, 1) := by decide +kernel
theorem dX7_coloured_15 : decode cX7_coloured 15 = .ok (.istore_n 3, 1) := by decide +kernel
theorem dX7_coloured_16 : decode cX7_coloured 16 = .ok (.iconst 0, 1) := by decide +kernel
theorem dX7_coloured_17 : decode cX7_coloured 17 = .ok (.istore 4, 2) := by decide +kernel
theorem dX7_coloured_19 : decode cX7_coloured 19 = .ok (.iload 4, 2) := by decide +kernel
theorem dX7_coloured_21 : decode cX7_coloured 21 = .ok (.aload_n 0, 1) := by decide +kernel
theorem dX7_coloured_22 : decode cX7_coloured 22 = .ok (.getfield 108, 3) := by decide +kernel
theorem dX7_coloured_25 : decode cX7_coloured 25 = .ok (.if_icmp .ge 58, 3) := by decide +kernel
theorem dX7_coloured_28 : decode cX7_coloured 28 = .ok (.iload_n 3, 1) := by decide +kernel
theorem dX7_coloured_29 : decode cX7_coloured 29 = .ok (.ifCond .eq 54, 3) := by decide +kernel
theorem dX7_coloured_32 : decode cX7_coloured 32 = .ok (.aload_n 0, 1) := by decide +kernel
theorem dX7_coloured_33 : decode cX7_coloured 33 = .ok (.getfield 25, 3) := by decide +kernel
theorem dX7_coloured_36 : decode cX7_coloured 36 = .ok (.iload 4, 2) := by decide +kernel
theorem dX7_coloured_38 : decode cX7_coloured 38 = .ok (.iaload, 1) := by decide +kernel
theorem dX7_coloured_39 : decode cX7_coloured 39 = .ok (.istore 5, 2) := by decide +kernel
theorem dX7_coloured_41 : decode cX7_coloured 41 = .ok (.iload 5, 2) := by decide +kernel
theorem dX7_coloured_43 : decode cX7_coloured 43 = .ok (.invokestatic 127, 3) := by decide +kernel
theorem dX7_coloured_46 : decode cX7_coloured 46 = .ok (.iconst 4, 1) := by decide +kernel
theorem dX7_coloured_47 : decode cX7_coloured 47 = .ok (.if_icmp .eq 24, 3) := by decide +kernel
theorem dX7_coloured_50 : decode cX7_coloured 50 = .ok (.iload_n 2, 1) := by decide +kernel
theorem dX7_coloured_51 : decode cX7_coloured 51 = .ok (.iload 5, 2) := by decide +kernel
theorem dX7_coloured_53 : decode cX7_coloured 53 = .ok (.invokestatic 130, 3) := by decide +kernel
theorem dX7_coloured_56 : decode cX7_coloured 56 = .ok (.invokestatic 90, 3) := by decide +kernel
theorem dX7_coloured_59 : decode cX7_coloured 59 = .ok (.iload_n 2, 1) := by decide +kernel
theorem dX7_coloured_60 : decode cX7_coloured 60 = .ok (.iload 5, 2) := by decide +kernel
theorem dX7_coloured_62 : decode cX7_coloured 62 = .ok (.invokestatic 136, 3) := by decide +kernel
theorem dX7_coloured_65 : decode cX7_coloured 65 = .ok (.invokestatic 90, 3) := by decide +kernel
theorem dX7_coloured_68 : decode cX7_coloured 68 = .ok (.if_icmp .eq 7, 3) := by decide +kernel
theorem dX7_coloured_71 : decode cX7_coloured 71 = .ok (.iconst 1, 1) := by decide +kernel
theorem dX7_coloured_72 : decode cX7_coloured 72 = .ok (.goto 4, 3) := by decide +kernel
theorem dX7_coloured_75 : decode cX7_coloured 75 = .ok (.iconst 0, 1) := by decide +kernel
theorem dX7_coloured_76 : decode cX7_coloured 76 = .ok (.istore_n 3, 1) := by decide +kernel
theorem dX7_coloured_77 : decode cX7_coloured 77 = .ok (.iinc 4 1, 3) := by decide +kernel
theorem dX7_coloured_80 : decode cX7_coloured 80 = .ok (.goto (-61), 3) := by decide +kernel
theorem dX7_coloured_83 : decode cX7_coloured 83 = .ok (.iload_n 1, 1) := by decide +kernel
theorem dX7_coloured_84 : decode cX7_coloured 84 = .ok (.iload_n 3, 1) := by decide +kernel
theorem dX7_coloured_85 : decode cX7_coloured 85 = .ok (.ifCond .ne 7, 3) := by decide +kernel
theorem dX7_coloured_88 : decode cX7_coloured 88 = .ok (.iconst 0, 1) := by decide +kernel
theorem dX7_coloured_89 : decode cX7_coloured 89 = .ok (.goto 22, 3) := by decide +kernel
theorem dX7_coloured_92 : decode cX7_coloured 92 = .ok (.iload_n 2, 1) := by decide +kernel
theorem dX7_coloured_93 : decode cX7_coloured 93 = .ok (.iconst 0, 1) := by decide +kernel
theorem dX7_coloured_94 : decode cX7_coloured 94 = .ok (.invokestatic 90, 3) := by decide +kernel
theorem dX7_coloured_97 : decode cX7_coloured 97 = .ok (.iload_n 2, 1) := by decide +kernel
theorem dX7_coloured_98 : decode cX7_coloured 98 = .ok (.iconst 1, 1) := by decide +kernel
theorem dX7_coloured_99 : decode cX7_coloured 99 = .ok (.invokestatic 90, 3) := by decide +kernel
theorem dX7_coloured_102 : decode cX7_coloured 102 = .ok (.if_icmp .ne 7, 3) := by decide +kernel
theorem dX7_coloured_105 : decode cX7_coloured 105 = .ok (.iconst 4, 1) := by decide +kernel
theorem dX7_coloured_106 : decode cX7_coloured 106 = .ok (.goto 5, 3) := by decide +kernel
theorem dX7_coloured_109 : decode cX7_coloured 109 = .ok (.bipush 8, 2) := by decide +kernel
theorem dX7_coloured_111 : decode cX7_coloured 111 = .ok (.ior, 1) := by decide +kernel
theorem dX7_coloured_112 : decode cX7_coloured 112 = .ok (.istore_n 1, 1) := by decide +kernel
theorem dX7_coloured_113 : decode cX7_coloured 113 = .ok (.iinc 2 1, 3) := by decide +kernel
theorem dX7_coloured_116 : decode cX7_coloured 116 = .ok (.goto (-112), 3) := by decide +kernel
theorem dX7_coloured_119 : decode cX7_coloured 119 = .ok (.iload_n 1, 1) := by decide +kernel
theorem dX7_coloured_120 : decode cX7_coloured 120 = .ok (.ireturn, 1) := by decide +kernel
theorem dX7_count_0 : decode cX7_count 0 = .ok (.aload_n 0, 1) := by decide +kernel
theorem dX7_count_1 : decode cX7_count 1 = .ok (.iload_n 1, 1) := by decide +kernel
theorem dX7_count_2 : decode cX7_count 2 = .ok (.invokevirtual 238, 3) := by decide +kernel
theorem dX7_count_5 : decode cX7_count 5 = .ok (.ireturn, 1) := by decide +kernel
theorem dX7_edge_0 : decode cX7_edge 0 = .ok (.aload_n 0, 1) := by decide +kernel
theorem dX7_edge_1 : decode cX7_edge 1 = .ok (.iload_n 1, 1) := by decide +kernel
theorem dX7_edge_2 : decode cX7_edge 2 = .ok (.invokevirtual 124, 3) := by decide +kernel
theorem dX7_edge_5 : decode cX7_edge 5 = .ok (.ifCond .eq 12, 3) := by decide +kernel
theorem dX7_edge_8 : decode cX7_edge 8 = .ok (.aload_n 0, 1) := by decide +kernel
theorem dX7_edge_9 : decode cX7_edge 9 = .ok (.getfield 25, 3) := by decide +kernel
theorem dX7_edge_12 : decode cX7_edge 12 = .ok (.iload_n 1, 1) := by decide +kernel
theorem dX7_edge_13 : decode cX7_edge 13 = .ok (.iaload, 1) := by decide +kernel
theorem dX7_edge_14 : decode cX7_edge 14 = .ok (.goto 6, 3) := by decide +kernel
theorem dX7_edge_17 : decode cX7_edge 17 = .ok (.sipush (-1001), 3) := by decide +kernel
theorem dX7_edge_20 : decode cX7_edge 20 = .ok (.ireturn, 1) := by decide +kernel
theorem dX7_howMany_0 : decode cX7_howMany 0 = .ok (.iload_n 1, 1) := by decide +kernel
theorem dX7_howMany_1 : decode cX7_howMany 1 = .ok (.tableswitch 87 0 7 #[47, 52, 57, 62, 67, 72, 77, 82], 47) := by decide +kernel
theorem dX7_howMany_48 : decode cX7_howMany 48 = .ok (.aload_n 0, 1) := by decide +kernel
theorem dX7_howMany_49 : decode cX7_howMany 49 = .ok (.getfield 54, 3) := by decide +kernel
theorem dX7_howMany_52 : decode cX7_howMany 52 = .ok (.ireturn, 1) := by decide +kernel
theorem dX7_howMany_53 : decode cX7_howMany 53 = .ok (.aload_n 0, 1) := by decide +kernel
theorem dX7_howMany_54 : decode cX7_howMany 54 = .ok (.getfield 94, 3) := by decide +kernel
theorem dX7_howMany_57 : decode cX7_howMany 57 = .ok (.ireturn, 1) := by decide +kernel
theorem dX7_howMany_58 : decode cX7_howMany 58 = .ok (.aload_n 0, 1) := by decide +kernel
theorem dX7_howMany_59 : decode cX7_howMany 59 = .ok (.getfield 108, 3) := by decide +kernel
theorem dX7_howMany_62 : decode cX7_howMany 62 = .ok (.ireturn, 1) := by decide +kernel
theorem dX7_howMany_63 : decode cX7_howMany 63 = .ok (.aload_n 0, 1) := by decide +kernel
theorem dX7_howMany_64 : decode cX7_howMany 64 = .ok (.getfield 111, 3) := by decide +kernel
theorem dX7_howMany_67 : decode cX7_howMany 67 = .ok (.ireturn, 1) := by decide +kernel
theorem dX7_howMany_68 : decode cX7_howMany 68 = .ok (.aload_n 0, 1) := by decide +kernel
theorem dX7_howMany_69 : decode cX7_howMany 69 = .ok (.invokevirtual 149, 3) := by decide +kernel
theorem dX7_howMany_72 : decode cX7_howMany 72 = .ok (.ireturn, 1) := by decide +kernel
theorem dX7_howMany_73 : decode cX7_howMany 73 = .ok (.aload_n 0, 1) := by decide +kernel
theorem dX7_howMany_74 : decode cX7_howMany 74 = .ok (.getfield 114, 3) := by decide +kernel
theorem dX7_howMany_77 : decode cX7_howMany 77 = .ok (.ireturn, 1) := by decide +kernel
theorem dX7_howMany_78 : decode cX7_howMany 78 = .ok (.aload_n 0, 1) := by decide +kernel
theorem dX7_howMany_79 : decode cX7_howMany 79 = .ok (.getfield 139, 3) := by decide +kernel
theorem dX7_howMany_82 : decode cX7_howMany 82 = .ok (.ireturn, 1) := by decide +kernel
theorem dX7_howMany_83 : decode cX7_howMany 83 = .ok (.aload_n 0, 1) := by decide +kernel
theorem dX7_howMany_84 : decode cX7_howMany 84 = .ok (.getfield 117, 3) := by decide +kernel
theorem dX7_howMany_87 : decode cX7_howMany 87 = .ok (.ireturn, 1) := by decide +kernel
theorem dX7_howMany_88 : decode cX7_howMany 88 = .ok (.sipush (-1002), 3) := by decide +kernel
theorem dX7_howMany_91 : decode cX7_howMany 91 = .ok (.ireturn, 1) := by decide +kernel
theorem dX7_isDone_0 : decode cX7_isDone 0 = .ok (.aload_n 0, 1) := by decide +kernel
theorem dX7_isDone_1 : decode cX7_isDone 1 = .ok (.getfield 108, 3) := by decide +kernel
theorem dX7_isDone_4 : decode cX7_isDone 4 = .ok (.ifCond .le 14, 3) := by decide +kernel
theorem dX7_isDone_7 : decode cX7_isDone 7 = .ok (.aload_n 0, 1) := by decide +kernel
theorem dX7_isDone_8 : decode cX7_isDone 8 = .ok (.invokevirtual 149, 3) := by decide +kernel
theorem dX7_isDone_11 : decode cX7_isDone 11 = .ok (.ifCond .ne 7, 3) := by decide +kernel
theorem dX7_isDone_14 : decode cX7_isDone 14 = .ok (.iconst 1, 1) := by decide +kernel
theorem dX7_isDone_15 : decode cX7_isDone 15 = .ok (.goto 4, 3) := by decide +kernel
theorem dX7_isDone_18 : decode cX7_isDone 18 = .ok (.iconst 0, 1) := by decide +kernel
theorem dX7_isDone_19 : decode cX7_isDone 19 = .ok (.ireturn, 1) := by decide +kernel
theorem dX7_kind_0 : decode cX7_kind 0 = .ok (.aload_n 0, 1) := by decide +kernel
theorem dX7_kind_1 : decode cX7_kind 1 = .ok (.invokevirtual 152, 3) := by decide +kernel
theorem dX7_kind_4 : decode cX7_kind 4 = .ok (.ifCond .eq 10, 3) := by decide +kernel
theorem dX7_kind_7 : decode cX7_kind 7 = .ok (.aload_n 0, 1) := by decide +kernel
theorem dX7_kind_8 : decode cX7_kind 8 = .ok (.invokevirtual 156, 3) := by decide +kernel
theorem dX7_kind_11 : decode cX7_kind 11 = .ok (.goto 6, 3) := by decide +kernel
theorem dX7_kind_14 : decode cX7_kind 14 = .ok (.sipush (-1003), 3) := by decide +kernel
theorem dX7_kind_17 : decode cX7_kind 17 = .ok (.ireturn, 1) := by decide +kernel
theorem dX7_kindNow_0 : decode cX7_kindNow 0 = .ok (.aload_n 0, 1) := by decide +kernel
theorem dX7_kindNow_1 : decode cX7_kindNow 1 = .ok (.iconst 0, 1) := by decide +kernel
theorem dX7_kindNow_2 : decode cX7_kindNow 2 = .ok (.iconst 1, 1) := by decide +kernel
theorem dX7_kindNow_3 : decode cX7_kindNow 3 = .ok (.invokevirtual 142, 3) := by decide +kernel
theorem dX7_kindNow_6 : decode cX7_kindNow 6 = .ok (.ifCond .eq 7, 3) := by decide +kernel
theorem dX7_kindNow_9 : decode cX7_kindNow 9 = .ok (.iconst 1, 1) := by decide +kernel
theorem dX7_kindNow_10 : decode cX7_kindNow 10 = .ok (.goto 4, 3) := by decide +kernel
theorem dX7_kindNow_13 : decode cX7_kindNow 13 = .ok (.iconst 0, 1) := by decide +kernel
theorem dX7_kindNow_14 : decode cX7_kindNow 14 = .ok (.aload_n 0, 1) := by decide +kernel
theorem dX7_kindNow_15 : decode cX7_kindNow 15 = .ok (.iconst 1, 1) := by decide +kernel
theorem dX7_kindNow_16 : decode cX7_kindNow 16 = .ok (.iconst 0, 1) := by decide +kernel
theorem dX7_kindNow_17 : decode cX7_kindNow 17 = .ok (.invokevirtual 142, 3) := by decide +kernel
theorem dX7_kindNow_20 : decode cX7_kindNow 20 = .ok (.ifCond .eq 7, 3) := by decide +kernel
theorem dX7_kindNow_23 : decode cX7_kindNow 23 = .ok (.iconst 2, 1) := by decide +kernel
theorem dX7_kindNow_24 : decode cX7_kindNow 24 = .ok (.goto 4, 3) := by decide +kernel
theorem dX7_kindNow_27 : decode cX7_kindNow 27 = .ok (.iconst 0, 1) := by decide +kernel
theorem dX7_kindNow_28 : decode cX7_kindNow 28 = .ok (.ior, 1) := by decide +kernel
theorem dX7_kindNow_29 : decode cX7_kindNow 29 = .ok (.aload_n 0, 1) := by decide +kernel
theorem dX7_kindNow_30 : decode cX7_kindNow 30 = .ok (.invokevirtual 145, 3) := by decide +kernel
theorem dX7_kindNow_33 : decode cX7_kindNow 33 = .ok (.ior, 1) := by decide +kernel
theorem dX7_kindNow_34 : decode cX7_kindNow 34 = .ok (.ireturn, 1) := by decide +kernel
theorem dX7_leadsTo_0 : decode cX7_leadsTo 0 = .ok (.iconst 1, 1) := by decide +kernel
theorem dX7_leadsTo_1 : decode cX7_leadsTo 1 = .ok (.iload_n 1, 1) := by decide +kernel
theorem dX7_leadsTo_2 : decode cX7_leadsTo 2 = .ok (.ishl, 1) := by decide +kernel
theorem dX7_leadsTo_3 : decode cX7_leadsTo 3 = .ok (.istore_n 3, 1) := by decide +kernel
theorem dX7_leadsTo_4 : decode cX7_leadsTo 4 = .ok (.iconst 0, 1) := by decide +kernel
theorem dX7_leadsTo_5 : decode cX7_leadsTo 5 = .ok (.istore 4, 2) := by decide +kernel
theorem dX7_leadsTo_7 : decode cX7_leadsTo 7 = .ok (.iload 4, 2) := by decide +kernel
theorem dX7_leadsTo_9 : decode cX7_leadsTo 9 = .ok (.aload_n 0, 1) := by decide +kernel
theorem dX7_leadsTo_10 : decode cX7_leadsTo 10 = .ok (.getfield 111, 3) := by decide +kernel
theorem dX7_leadsTo_13 : decode cX7_leadsTo 13 = .ok (.if_icmp .ge 97, 3) := by decide +kernel
theorem dX7_leadsTo_16 : decode cX7_leadsTo 16 = .ok (.iconst 0, 1) := by decide +kernel
theorem dX7_leadsTo_17 : decode cX7_leadsTo 17 = .ok (.istore 5, 2) := by decide +kernel
theorem dX7_leadsTo_19 : decode cX7_leadsTo 19 = .ok (.iload 5, 2) := by decide +kernel
theorem dX7_leadsTo_21 : decode cX7_leadsTo 21 = .ok (.aload_n 0, 1) := by decide +kernel
theorem dX7_leadsTo_22 : decode cX7_leadsTo 22 = .ok (.getfield 108, 3) := by decide +kernel
theorem dX7_leadsTo_25 : decode cX7_leadsTo 25 = .ok (.if_icmp .ge 79, 3) := by decide +kernel
theorem dX7_leadsTo_28 : decode cX7_leadsTo 28 = .ok (.aload_n 0, 1) := by decide +kernel
theorem dX7_leadsTo_29 : decode cX7_leadsTo 29 = .ok (.getfield 25, 3) := by decide +kernel
theorem dX7_leadsTo_32 : decode cX7_leadsTo 32 = .ok (.iload 5, 2) := by decide +kernel
theorem dX7_leadsTo_34 : decode cX7_leadsTo 34 = .ok (.iaload, 1) := by decide +kernel
theorem dX7_leadsTo_35 : decode cX7_leadsTo 35 = .ok (.istore 6, 2) := by decide +kernel
theorem dX7_leadsTo_37 : decode cX7_leadsTo 37 = .ok (.iload_n 3, 1) := by decide +kernel
theorem dX7_leadsTo_38 : decode cX7_leadsTo 38 = .ok (.iload_n 3, 1) := by decide +kernel
theorem dX7_leadsTo_39 : decode cX7_leadsTo 39 = .ok (.iload 6, 2) := by decide +kernel
theorem dX7_leadsTo_41 : decode cX7_leadsTo 41 = .ok (.invokestatic 130, 3) := by decide +kernel
theorem dX7_leadsTo_44 : decode cX7_leadsTo 44 = .ok (.invokestatic 90, 3) := by decide +kernel
theorem dX7_leadsTo_47 : decode cX7_leadsTo 47 = .ok (.ifCond .eq 13, 3) := by decide +kernel
theorem dX7_leadsTo_50 : decode cX7_leadsTo 50 = .ok (.iconst 1, 1) := by decide +kernel
theorem dX7_leadsTo_51 : decode cX7_leadsTo 51 = .ok (.iload 6, 2) := by decide +kernel
theorem dX7_leadsTo_53 : decode cX7_leadsTo 53 = .ok (.invokestatic 136, 3) := by decide +kernel
theorem dX7_leadsTo_56 : decode cX7_leadsTo 56 = .ok (.ishl, 1) := by decide +kernel
theorem dX7_leadsTo_57 : decode cX7_leadsTo 57 = .ok (.goto 4, 3) := by decide +kernel
theorem dX7_leadsTo_60 : decode cX7_leadsTo 60 = .ok (.iconst 0, 1) := by decide +kernel
theorem dX7_leadsTo_61 : decode cX7_leadsTo 61 = .ok (.ior, 1) := by decide +kernel
theorem dX7_leadsTo_62 : decode cX7_leadsTo 62 = .ok (.istore_n 3, 1) := by decide +kernel
theorem dX7_leadsTo_63 : decode cX7_leadsTo 63 = .ok (.iload_n 3, 1) := by decide +kernel
theorem dX7_leadsTo_64 : decode cX7_leadsTo 64 = .ok (.iload_n 3, 1) := by decide +kernel
theorem dX7_leadsTo_65 : decode cX7_leadsTo 65 = .ok (.iload 6, 2) := by decide +kernel
theorem dX7_leadsTo_67 : decode cX7_leadsTo 67 = .ok (.invokestatic 136, 3) := by decide +kernel
theorem dX7_leadsTo_70 : decode cX7_leadsTo 70 = .ok (.invokestatic 90, 3) := by decide +kernel
theorem dX7_leadsTo_73 : decode cX7_leadsTo 73 = .ok (.ifCond .eq 22, 3) := by decide +kernel
theorem dX7_leadsTo_76 : decode cX7_leadsTo 76 = .ok (.iload 6, 2) := by decide +kernel
theorem dX7_leadsTo_78 : decode cX7_leadsTo 78 = .ok (.invokestatic 127, 3) := by decide +kernel
theorem dX7_leadsTo_81 : decode cX7_leadsTo 81 = .ok (.iconst 4, 1) := by decide +kernel
theorem dX7_leadsTo_82 : decode cX7_leadsTo 82 = .ok (.if_icmp .ne 13, 3) := by decide +kernel
theorem dX7_leadsTo_85 : decode cX7_leadsTo 85 = .ok (.iconst 1, 1) := by decide +kernel
theorem dX7_leadsTo_86 : decode cX7_leadsTo 86 = .ok (.iload 6, 2) := by decide +kernel
theorem dX7_leadsTo_88 : decode cX7_leadsTo 88 = .ok (.invokestatic 130, 3) := by decide +kernel
theorem dX7_leadsTo_91 : decode cX7_leadsTo 91 = .ok (.ishl, 1) := by decide +kernel
theorem dX7_leadsTo_92 : decode cX7_leadsTo 92 = .ok (.goto 4, 3) := by decide +kernel
theorem dX7_leadsTo_95 : decode cX7_leadsTo 95 = .ok (.iconst 0, 1) := by decide +kernel
theorem dX7_leadsTo_96 : decode cX7_leadsTo 96 = .ok (.ior, 1) := by decide +kernel
theorem dX7_leadsTo_97 : decode cX7_leadsTo 97 = .ok (.istore_n 3, 1) := by decide +kernel
theorem dX7_leadsTo_98 : decode cX7_leadsTo 98 = .ok (.iinc 5 1, 3) := by decide +kernel
theorem dX7_leadsTo_101 : decode cX7_leadsTo 101 = .ok (.goto (-82), 3) := by decide +kernel
theorem dX7_leadsTo_104 : decode cX7_leadsTo 104 = .ok (.iinc 4 1, 3) := by decide +kernel
theorem dX7_leadsTo_107 : decode cX7_leadsTo 107 = .ok (.goto (-100), 3) := by decide +kernel
theorem dX7_leadsTo_110 : decode cX7_leadsTo 110 = .ok (.iload_n 3, 1) := by decide +kernel
theorem dX7_leadsTo_111 : decode cX7_leadsTo 111 = .ok (.iload_n 2, 1) := by decide +kernel
theorem dX7_leadsTo_112 : decode cX7_leadsTo 112 = .ok (.invokestatic 90, 3) := by decide +kernel
theorem dX7_leadsTo_115 : decode cX7_leadsTo 115 = .ok (.ireturn, 1) := by decide +kernel
theorem dX7_mix_0 : decode cX7_mix 0 = .ok (.aload_n 0, 1) := by decide +kernel
theorem dX7_mix_1 : decode cX7_mix 1 = .ok (.ldc2_w 241, 3) := by decide +kernel
theorem dX7_mix_4 : decode cX7_mix 4 = .ok (.aload_n 0, 1) := by decide +kernel
theorem dX7_mix_5 : decode cX7_mix 5 = .ok (.getfield 243, 3) := by decide +kernel
theorem dX7_mix_8 : decode cX7_mix 8 = .ok (.lmul, 1) := by decide +kernel
theorem dX7_mix_9 : decode cX7_mix 9 = .ok (.lload_n 1, 1) := by decide +kernel
theorem dX7_mix_10 : decode cX7_mix 10 = .ok (.ladd, 1) := by decide +kernel
theorem dX7_mix_11 : decode cX7_mix 11 = .ok (.putfield 243, 3) := by decide +kernel
theorem dX7_mix_14 : decode cX7_mix 14 = .ok (.return_, 1) := by decide +kernel
theorem dX7_nodeFor_0 : decode cX7_nodeFor 0 = .ok (.iload_n 1, 1) := by decide +kernel
theorem dX7_nodeFor_1 : decode cX7_nodeFor 1 = .ok (.ifCond .ne 10, 3) := by decide +kernel
theorem dX7_nodeFor_4 : decode cX7_nodeFor 4 = .ok (.iload_n 2, 1) := by decide +kernel
theorem dX7_nodeFor_5 : decode cX7_nodeFor 5 = .ok (.invokestatic 130, 3) := by decide +kernel
theorem dX7_nodeFor_8 : decode cX7_nodeFor 8 = .ok (.goto 23, 3) := by decide +kernel
theorem dX7_nodeFor_11 : decode cX7_nodeFor 11 = .ok (.iload_n 1, 1) := by decide +kernel
theorem dX7_nodeFor_12 : decode cX7_nodeFor 12 = .ok (.iconst 1, 1) := by decide +kernel
theorem dX7_nodeFor_13 : decode cX7_nodeFor 13 = .ok (.if_icmp .ne 10, 3) := by decide +kernel
theorem dX7_nodeFor_16 : decode cX7_nodeFor 16 = .ok (.iload_n 2, 1) := by decide +kernel
theorem dX7_nodeFor_17 : decode cX7_nodeFor 17 = .ok (.invokestatic 136, 3) := by decide +kernel
theorem dX7_nodeFor_20 : decode cX7_nodeFor 20 = .ok (.goto 11, 3) := by decide +kernel
theorem dX7_nodeFor_23 : decode cX7_nodeFor 23 = .ok (.aload_n 0, 1) := by decide +kernel
theorem dX7_nodeFor_24 : decode cX7_nodeFor 24 = .ok (.getfield 111, 3) := by decide +kernel
theorem dX7_nodeFor_27 : decode cX7_nodeFor 27 = .ok (.iload_n 1, 1) := by decide +kernel
theorem dX7_nodeFor_28 : decode cX7_nodeFor 28 = .ok (.iadd, 1) := by decide +kernel
theorem dX7_nodeFor_29 : decode cX7_nodeFor 29 = .ok (.iconst 2, 1) := by decide +kernel
theorem dX7_nodeFor_30 : decode cX7_nodeFor 30 = .ok (.isub, 1) := by decide +kernel
theorem dX7_nodeFor_31 : decode cX7_nodeFor 31 = .ok (.ireturn, 1) := by decide +kernel
theorem dX7_opens_0 : decode cX7_opens 0 = .ok (.iconst 0, 1) := by decide +kernel
theorem dX7_opens_1 : decode cX7_opens 1 = .ok (.istore_n 1, 1) := by decide +kernel
theorem dX7_opens_2 : decode cX7_opens 2 = .ok (.iconst 0, 1) := by decide +kernel
theorem dX7_opens_3 : decode cX7_opens 3 = .ok (.istore_n 2, 1) := by decide +kernel
theorem dX7_opens_4 : decode cX7_opens 4 = .ok (.iload_n 2, 1) := by decide +kernel
theorem dX7_opens_5 : decode cX7_opens 5 = .ok (.aload_n 0, 1) := by decide +kernel
theorem dX7_opens_6 : decode cX7_opens 6 = .ok (.getfield 108, 3) := by decide +kernel
theorem dX7_opens_9 : decode cX7_opens 9 = .ok (.if_icmp .ge 30, 3) := by decide +kernel
theorem dX7_opens_12 : decode cX7_opens 12 = .ok (.iload_n 1, 1) := by decide +kernel
theorem dX7_opens_13 : decode cX7_opens 13 = .ok (.aload_n 0, 1) := by decide +kernel
theorem dX7_opens_14 : decode cX7_opens 14 = .ok (.getfield 25, 3) := by decide +kernel
theorem dX7_opens_17 : decode cX7_opens 17 = .ok (.iload_n 2, 1) := by decide +kernel
theorem dX7_opens_18 : decode cX7_opens 18 = .ok (.iaload, 1) := by decide +kernel
theorem dX7_opens_19 : decode cX7_opens 19 = .ok (.invokestatic 127, 3) := by decide +kernel
theorem dX7_opens_22 : decode cX7_opens 22 = .ok (.iconst 3, 1) := by decide +kernel
theorem dX7_opens_23 : decode cX7_opens 23 = .ok (.if_icmp .ge 7, 3) := by decide +kernel
theorem dX7_opens_26 : decode cX7_opens 26 = .ok (.iconst 1, 1) := by decide +kernel
theorem dX7_opens_27 : decode cX7_opens 27 = .ok (.goto 4, 3) := by decide +kernel
theorem dX7_opens_30 : decode cX7_opens 30 = .ok (.iconst 0, 1) := by decide +kernel
theorem dX7_opens_31 : decode cX7_opens 31 = .ok (.iadd, 1) := by decide +kernel
theorem dX7_opens_32 : decode cX7_opens 32 = .ok (.istore_n 1, 1) := by decide +kernel
theorem dX7_opens_33 : decode cX7_opens 33 = .ok (.iinc 2 1, 3) := by decide +kernel
theorem dX7_opens_36 : decode cX7_opens 36 = .ok (.goto (-32), 3) := by decide +kernel
theorem dX7_opens_39 : decode cX7_opens 39 = .ok (.iload_n 1, 1) := by decide +kernel
theorem dX7_opens_40 : decode cX7_opens 40 = .ok (.ireturn, 1) := by decide +kernel
theorem dX7_step_0 : decode cX7_step 0 = .ok (.aload_n 0, 1) := by decide +kernel
theorem dX7_step_1 : decode cX7_step 1 = .ok (.iload_n 1, 1) := by decide +kernel
theorem dX7_step_2 : decode cX7_step 2 = .ok (.invokevirtual 124, 3) := by decide +kernel
theorem dX7_step_5 : decode cX7_step 5 = .ok (.ifCond .eq 11, 3) := by decide +kernel
theorem dX7_step_8 : decode cX7_step 8 = .ok (.aload_n 0, 1) := by decide +kernel
theorem dX7_step_9 : decode cX7_step 9 = .ok (.iload_n 2, 1) := by decide +kernel
theorem dX7_step_10 : decode cX7_step 10 = .ok (.invokevirtual 104, 3) := by decide +kernel
theorem dX7_step_13 : decode cX7_step 13 = .ok (.ifCond .ne 7, 3) := by decide +kernel
theorem dX7_step_16 : decode cX7_step 16 = .ok (.sipush (-1001), 3) := by decide +kernel
theorem dX7_step_19 : decode cX7_step 19 = .ok (.ireturn, 1) := by decide +kernel
theorem dX7_step_20 : decode cX7_step 20 = .ok (.aload_n 0, 1) := by decide +kernel
theorem dX7_step_21 : decode cX7_step 21 = .ok (.getfield 25, 3) := by decide +kernel
theorem dX7_step_24 : decode cX7_step 24 = .ok (.iload_n 1, 1) := by decide +kernel
theorem dX7_step_25 : decode cX7_step 25 = .ok (.iaload, 1) := by decide +kernel
theorem dX7_step_26 : decode cX7_step 26 = .ok (.istore_n 3, 1) := by decide +kernel
theorem dX7_step_27 : decode cX7_step 27 = .ok (.iload_n 3, 1) := by decide +kernel
theorem dX7_step_28 : decode cX7_step 28 = .ok (.invokestatic 127, 3) := by decide +kernel
theorem dX7_step_31 : decode cX7_step 31 = .ok (.aload_n 0, 1) := by decide +kernel
theorem dX7_step_32 : decode cX7_step 32 = .ok (.getfield 13, 3) := by decide +kernel
theorem dX7_step_35 : decode cX7_step 35 = .ok (.iload_n 2, 1) := by decide +kernel
theorem dX7_step_36 : decode cX7_step 36 = .ok (.iaload, 1) := by decide +kernel
theorem dX7_step_37 : decode cX7_step 37 = .ok (.if_icmp .eq 7, 3) := by decide +kernel
theorem dX7_step_40 : decode cX7_step 40 = .ok (.sipush (-1003), 3) := by decide +kernel
theorem dX7_step_43 : decode cX7_step 43 = .ok (.ireturn, 1) := by decide +kernel
theorem dX7_step_44 : decode cX7_step 44 = .ok (.aload_n 0, 1) := by decide +kernel
theorem dX7_step_45 : decode cX7_step 45 = .ok (.getfield 16, 3) := by decide +kernel
theorem dX7_step_48 : decode cX7_step 48 = .ok (.iload_n 2, 1) := by decide +kernel
theorem dX7_step_49 : decode cX7_step 49 = .ok (.iaload, 1) := by decide +kernel
theorem dX7_step_50 : decode cX7_step 50 = .ok (.iconst 1, 1) := by decide +kernel
theorem dX7_step_51 : decode cX7_step 51 = .ok (.isub, 1) := by decide +kernel
theorem dX7_step_52 : decode cX7_step 52 = .ok (.istore 4, 2) := by decide +kernel
theorem dX7_step_54 : decode cX7_step 54 = .ok (.aload_n 0, 1) := by decide +kernel
theorem dX7_step_55 : decode cX7_step 55 = .ok (.getfield 108, 3) := by decide +kernel
theorem dX7_step_58 : decode cX7_step 58 = .ok (.iload 4, 2) := by decide +kernel
theorem dX7_step_60 : decode cX7_step 60 = .ok (.iadd, 1) := by decide +kernel
theorem dX7_step_61 : decode cX7_step 61 = .ok (.bipush 12, 2) := by decide +kernel
theorem dX7_step_63 : decode cX7_step 63 = .ok (.if_icmp .gt 21, 3) := by decide +kernel
theorem dX7_step_66 : decode cX7_step 66 = .ok (.aload_n 0, 1) := by decide +kernel
theorem dX7_step_67 : decode cX7_step 67 = .ok (.getfield 111, 3) := by decide +kernel
theorem dX7_step_70 : decode cX7_step 70 = .ok (.aload_n 0, 1) := by decide +kernel
theorem dX7_step_71 : decode cX7_step 71 = .ok (.getfield 19, 3) := by decide +kernel
theorem dX7_step_74 : decode cX7_step 74 = .ok (.iload_n 2, 1) := by decide +kernel
theorem dX7_step_75 : decode cX7_step 75 = .ok (.iaload, 1) := by decide +kernel
theorem dX7_step_76 : decode cX7_step 76 = .ok (.iadd, 1) := by decide +kernel
theorem dX7_step_77 : decode cX7_step 77 = .ok (.iconst 2, 1) := by decide +kernel
theorem dX7_step_78 : decode cX7_step 78 = .ok (.isub, 1) := by decide +kernel
theorem dX7_step_79 : decode cX7_step 79 = .ok (.bipush 9, 2) := by decide +kernel
theorem dX7_step_81 : decode cX7_step 81 = .ok (.if_icmp .le 7, 3) := by decide +kernel
theorem dX7_step_84 : decode cX7_step 84 = .ok (.sipush (-1004), 3) := by decide +kernel
theorem dX7_step_87 : decode cX7_step 87 = .ok (.ireturn, 1) := by decide +kernel
theorem dX7_step_88 : decode cX7_step 88 = .ok (.aload_n 0, 1) := by decide +kernel
theorem dX7_step_89 : decode cX7_step 89 = .ok (.getfield 108, 3) := by decide +kernel
theorem dX7_step_92 : decode cX7_step 92 = .ok (.iconst 1, 1) := by decide +kernel
theorem dX7_step_93 : decode cX7_step 93 = .ok (.isub, 1) := by decide +kernel
theorem dX7_step_94 : decode cX7_step 94 = .ok (.istore 5, 2) := by decide +kernel
theorem dX7_step_96 : decode cX7_step 96 = .ok (.iload 5, 2) := by decide +kernel
theorem dX7_step_98 : decode cX7_step 98 = .ok (.iload_n 1, 1) := by decide +kernel
theorem dX7_step_99 : decode cX7_step 99 = .ok (.if_icmp .le 26, 3) := by decide +kernel
theorem dX7_step_102 : decode cX7_step 102 = .ok (.aload_n 0, 1) := by decide +kernel
theorem dX7_step_103 : decode cX7_step 103 = .ok (.getfield 25, 3) := by decide +kernel
theorem dX7_step_106 : decode cX7_step 106 = .ok (.iload 5, 2) := by decide +kernel
theorem dX7_step_108 : decode cX7_step 108 = .ok (.iload 4, 2) := by decide +kernel
theorem dX7_step_110 : decode cX7_step 110 = .ok (.iadd, 1) := by decide +kernel
theorem dX7_step_111 : decode cX7_step 111 = .ok (.aload_n 0, 1) := by decide +kernel
theorem dX7_step_112 : decode cX7_step 112 = .ok (.getfield 25, 3) := by decide +kernel
theorem dX7_step_115 : decode cX7_step 115 = .ok (.iload 5, 2) := by decide +kernel
theorem dX7_step_117 : decode cX7_step 117 = .ok (.iaload, 1) := by decide +kernel
theorem dX7_step_118 : decode cX7_step 118 = .ok (.iastore, 1) := by decide +kernel
theorem dX7_step_119 : decode cX7_step 119 = .ok (.iinc 5 (-1), 3) := by decide +kernel
theorem dX7_step_122 : decode cX7_step 122 = .ok (.goto (-26), 3) := by decide +kernel
theorem dX7_step_125 : decode cX7_step 125 = .ok (.iconst 0, 1) := by decide +kernel
theorem dX7_step_126 : decode cX7_step 126 = .ok (.istore 5, 2) := by decide +kernel
theorem dX7_step_128 : decode cX7_step 128 = .ok (.iload 5, 2) := by decide +kernel
theorem dX7_step_130 : decode cX7_step 130 = .ok (.aload_n 0, 1) := by decide +kernel
theorem dX7_step_131 : decode cX7_step 131 = .ok (.getfield 16, 3) := by decide +kernel
theorem dX7_step_134 : decode cX7_step 134 = .ok (.iload_n 2, 1) := by decide +kernel
theorem dX7_step_135 : decode cX7_step 135 = .ok (.iaload, 1) := by decide +kernel
theorem dX7_step_136 : decode cX7_step 136 = .ok (.if_icmp .ge 64, 3) := by decide +kernel
theorem dX7_step_139 : decode cX7_step 139 = .ok (.aload_n 0, 1) := by decide +kernel
theorem dX7_step_140 : decode cX7_step 140 = .ok (.getfield 22, 3) := by decide +kernel
theorem dX7_step_143 : decode cX7_step 143 = .ok (.iconst 3, 1) := by decide +kernel
theorem dX7_step_144 : decode cX7_step 144 = .ok (.iload_n 2, 1) := by decide +kernel
theorem dX7_step_145 : decode cX7_step 145 = .ok (.imul, 1) := by decide +kernel
theorem dX7_step_146 : decode cX7_step 146 = .ok (.iload 5, 2) := by decide +kernel
theorem dX7_step_148 : decode cX7_step 148 = .ok (.iadd, 1) := by decide +kernel
theorem dX7_step_149 : decode cX7_step 149 = .ok (.iaload, 1) := by decide +kernel
theorem dX7_step_150 : decode cX7_step 150 = .ok (.istore 6, 2) := by decide +kernel
theorem dX7_step_152 : decode cX7_step 152 = .ok (.aload_n 0, 1) := by decide +kernel
theorem dX7_step_153 : decode cX7_step 153 = .ok (.getfield 25, 3) := by decide +kernel
theorem dX7_step_156 : decode cX7_step 156 = .ok (.iload_n 1, 1) := by decide +kernel
theorem dX7_step_157 : decode cX7_step 157 = .ok (.iload 5, 2) := by decide +kernel
theorem dX7_step_159 : decode cX7_step 159 = .ok (.iadd, 1) := by decide +kernel
theorem dX7_step_160 : decode cX7_step 160 = .ok (.bipush 100, 2) := by decide +kernel
theorem dX7_step_162 : decode cX7_step 162 = .ok (.iload 6, 2) := by decide +kernel
theorem dX7_step_164 : decode cX7_step 164 = .ok (.invokestatic 127, 3) := by decide +kernel
theorem dX7_step_167 : decode cX7_step 167 = .ok (.imul, 1) := by decide +kernel
theorem dX7_step_168 : decode cX7_step 168 = .ok (.bipush 10, 2) := by decide +kernel
theorem dX7_step_170 : decode cX7_step 170 = .ok (.aload_n 0, 1) := by decide +kernel
theorem dX7_step_171 : decode cX7_step 171 = .ok (.iload 6, 2) := by decide +kernel
theorem dX7_step_173 : decode cX7_step 173 = .ok (.invokestatic 130, 3) := by decide +kernel
theorem dX7_step_176 : decode cX7_step 176 = .ok (.iload_n 3, 1) := by decide +kernel
theorem dX7_step_177 : decode cX7_step 177 = .ok (.invokevirtual 133, 3) := by decide +kernel
theorem dX7_step_180 : decode cX7_step 180 = .ok (.imul, 1) := by decide +kernel
theorem dX7_step_181 : decode cX7_step 181 = .ok (.iadd, 1) := by decide +kernel
theorem dX7_step_182 : decode cX7_step 182 = .ok (.aload_n 0, 1) := by decide +kernel
theorem dX7_step_183 : decode cX7_step 183 = .ok (.iload 6, 2) := by decide +kernel
theorem dX7_step_185 : decode cX7_step 185 = .ok (.invokestatic 136, 3) := by decide +kernel
theorem dX7_step_188 : decode cX7_step 188 = .ok (.iload_n 3, 1) := by decide +kernel
theorem dX7_step_189 : decode cX7_step 189 = .ok (.invokevirtual 133, 3) := by decide +kernel
theorem dX7_step_192 : decode cX7_step 192 = .ok (.iadd, 1) := by decide +kernel
theorem dX7_step_193 : decode cX7_step 193 = .ok (.iastore, 1) := by decide +kernel
theorem dX7_step_194 : decode cX7_step 194 = .ok (.iinc 5 1, 3) := by decide +kernel
theorem dX7_step_197 : decode cX7_step 197 = .ok (.goto (-69), 3) := by decide +kernel
theorem dX7_step_200 : decode cX7_step 200 = .ok (.aload_n 0, 1) := by decide +kernel
theorem dX7_step_201 : decode cX7_step 201 = .ok (.dup, 1) := by decide +kernel
theorem dX7_step_202 : decode cX7_step 202 = .ok (.getfield 108, 3) := by decide +kernel
theorem dX7_step_205 : decode cX7_step 205 = .ok (.iload 4, 2) := by decide +kernel
theorem dX7_step_207 : decode cX7_step 207 = .ok (.iadd, 1) := by decide +kernel
theorem dX7_step_208 : decode cX7_step 208 = .ok (.putfield 108, 3) := by decide +kernel
theorem dX7_step_211 : decode cX7_step 211 = .ok (.aload_n 0, 1) := by decide +kernel
theorem dX7_step_212 : decode cX7_step 212 = .ok (.dup, 1) := by decide +kernel
theorem dX7_step_213 : decode cX7_step 213 = .ok (.getfield 111, 3) := by decide +kernel
theorem dX7_step_216 : decode cX7_step 216 = .ok (.aload_n 0, 1) := by decide +kernel
theorem dX7_step_217 : decode cX7_step 217 = .ok (.getfield 19, 3) := by decide +kernel
theorem dX7_step_220 : decode cX7_step 220 = .ok (.iload_n 2, 1) := by decide +kernel
theorem dX7_step_221 : decode cX7_step 221 = .ok (.iaload, 1) := by decide +kernel
theorem dX7_step_222 : decode cX7_step 222 = .ok (.iconst 2, 1) := by decide +kernel
theorem dX7_step_223 : decode cX7_step 223 = .ok (.isub, 1) := by decide +kernel
theorem dX7_step_224 : decode cX7_step 224 = .ok (.iadd, 1) := by decide +kernel
theorem dX7_step_225 : decode cX7_step 225 = .ok (.putfield 111, 3) := by decide +kernel
theorem dX7_step_228 : decode cX7_step 228 = .ok (.aload_n 0, 1) := by decide +kernel
theorem dX7_step_229 : decode cX7_step 229 = .ok (.dup, 1) := by decide +kernel
theorem dX7_step_230 : decode cX7_step 230 = .ok (.getfield 114, 3) := by decide +kernel
theorem dX7_step_233 : decode cX7_step 233 = .ok (.iconst 1, 1) := by decide +kernel
theorem dX7_step_234 : decode cX7_step 234 = .ok (.iadd, 1) := by decide +kernel
theorem dX7_step_235 : decode cX7_step 235 = .ok (.putfield 114, 3) := by decide +kernel
theorem dX7_step_238 : decode cX7_step 238 = .ok (.aload_n 0, 1) := by decide +kernel
theorem dX7_step_239 : decode cX7_step 239 = .ok (.dup, 1) := by decide +kernel
theorem dX7_step_240 : decode cX7_step 240 = .ok (.getfield 139, 3) := by decide +kernel
theorem dX7_step_243 : decode cX7_step 243 = .ok (.iconst 1, 1) := by decide +kernel
theorem dX7_step_244 : decode cX7_step 244 = .ok (.iadd, 1) := by decide +kernel
theorem dX7_step_245 : decode cX7_step 245 = .ok (.putfield 139, 3) := by decide +kernel
theorem dX7_step_248 : decode cX7_step 248 = .ok (.aload_n 0, 1) := by decide +kernel
theorem dX7_step_249 : decode cX7_step 249 = .ok (.invokevirtual 101, 3) := by decide +kernel
theorem dX7_step_252 : decode cX7_step 252 = .ok (.aload_n 0, 1) := by decide +kernel
theorem dX7_step_253 : decode cX7_step 253 = .ok (.getfield 108, 3) := by decide +kernel
theorem dX7_step_256 : decode cX7_step 256 = .ok (.ireturn, 1) := by decide +kernel
section
variable (l : Launch) (D : va_G) (cI cJ cZ cR : ClassId)
set_option maxHeartbeats 4000000 in
set_option maxRecDepth 100000 in
theorem c_X7_nodeFor (sz : Nat) (m0 : Nat) (m1 : Nat) (m2 : Nat) (m3 : Nat) (m4 : Nat) (m5 : Nat) (m6 : Nat) (m7 : Nat) (m8 : Nat) (m9 : Nat) (m10 : Nat) (m11 : Nat) (m12 : Nat) (m13 : Nat) (z : Nat) (r9 : Nat) (n9 : Nat) (v : Nat) (k1 : Int32) (k2 : Int32) (k3 : Int32) (k4 : Int32) (k5 : Int32) (k6 : Int32) (k7 : Int32) (k8 : Int32) (k9 : Int32) (hv : Int64) (p0 : Int32) (p1 : Int32)  : CTi l D cI cJ cZ cR yX7_nodeFor cX7_nodeFor 3 (some .int) 1 20 0 0 sz [.ref m0, .int p0, .int p1] [kX7 m0 (nI z) m1 (nI r9) m2 m3 m4 m5 (nI n9) (nI v) m6 k1 k2 k3 k4 m7 k5 k6 k7 k8 m8 m9 m10 k9 m11 m12 m13 hv] (fun (r : Int32) (u : Unit) => (r = (nF v p0 p1))) (fun (u : Unit) => [kX7 m0 (nI z) m1 (nI r9) m2 m3 m4 m5 (nI n9) (nI v) m6 k1 k2 k3 k4 m7 k5 k6 k7 k8 m8 m9 m10 k9 m11 m12 m13 hv]) := by
  refine CTi.of (ty := .int) (by decide) (Nat.le_of_ble_eq_true rfl) rfl ?_
  intro p e s m below meth c A Q ls hd hin hK hsz hP hD hA hS hl hret
  obtain ⟨hx, hb, hml, hown, hts⟩ := id hd
  have hK1 := hK.1
  have hown : s.vm.findClass RX7 = some m.cls := hown
  have hl : lv_has ls 3 [(0, .ref m0), (1, .int p0), (2, .int p1)] := hl
  refine lv_iload_n hx hb dX7_nodeFor_0 rfl (lv_at hl 1 rfl) ?_
  refine lv_if_ne (tgt := 11) hx hb dX7_nodeFor_1 (by decide) (fun c_1 => ?_) (fun c_1 => ?_)
  · skip
    refine lv_iload_n hx hb dX7_nodeFor_11 rfl (lv_at hl 1 rfl) ?_
    refine lv_iconst (v := 1) hx hb dX7_nodeFor_12 (by decide) ?_
    refine lv_icmp_ne (tgt := 23) hx hb dX7_nodeFor_13 (by decide) (fun c_2 => ?_) (fun c_2 => ?_)
    · skip
      refine lv_aload_n hx hb dX7_nodeFor_23 rfl (lv_at hl 0 rfl) ?_
      refine va_get (D := D) (ci := 7) (v := .int (nI v)) (C := RX7) (T := TX7) (N := 27) hx hb hts iT_X7 hown hK1 hP 0 rfl rfl 8 (by decide) (hts _ t_559) (fun _ h9 => h9) rfl dX7_nodeFor_24 ?_
      refine lv_iload_n hx hb dX7_nodeFor_27 rfl (lv_at hl 1 rfl) ?_
      refine lv_iadd hx hb dX7_nodeFor_28 ?_
      refine lv_iconst (v := 2) hx hb dX7_nodeFor_29 (by decide) ?_
      refine lv_isub hx hb dX7_nodeFor_30 ?_
      exact hret _ _ _ _ _ _ (((nI v) + p0) - 2) () dX7_nodeFor_31 rfl hS (Nat.le_of_ble_eq_true rfl) (Nat.le_of_ble_eq_true rfl) (by simp [nF, c_1, c_2]) (hP.sub [0] rfl) (hD.sub [0] rfl rfl)
    · skip
      refine lv_iload_n hx hb dX7_nodeFor_16 rfl (lv_at hl 2 rfl) ?_
      refine xc_i (wc := []) (wr := [kX7 m0 (nI z) m1 (nI r9) m2 m3 m4 m5 (nI n9) (nI v) m6 k1 k2 k3 k4 m7 k5 k6 k7 k8 m8 m9 m10 k9 m11 m12 m13 hv]) (xrS (n := 1) (As := [.int p1]) (rest := []) hd hK hP hD (c_X7_toOf l D cI cJ cZ cR _ p1 ) (gS t_723 mS_X7_toOf) hS_X7_toOf ⟨(Nat.le_of_ble_eq_true rfl), (Nat.le_of_ble_eq_true rfl)⟩ [] rfl rfl rfl hl.1 rfl (Nat.le_of_ble_eq_true rfl) dX7_nodeFor_17 ⟨(Nat.le_of_ble_eq_true rfl), (Nat.le_of_ble_eq_true rfl)⟩) hP hD hS hA [] [0] rfl rfl rfl (by decide) (fun r_3 u_4 H locs hw_5 hP hD hS => ?_)
      have hw_6 : r_3 = (tO p1) := hw_5
      subst hw_6
      have hP : va_P D vwCl [kX7 m0 (nI z) m1 (nI r9) m2 m3 m4 m5 (nI n9) (nI v) m6 k1 k2 k3 k4 m7 k5 k6 k7 k8 m8 m9 m10 k9 m11 m12 m13 hv] H := hP
      have hD : va_D A [kX7 m0 (nI z) m1 (nI r9) m2 m3 m4 m5 (nI n9) (nI v) m6 k1 k2 k3 k4 m7 k5 k6 k7 k8 m8 m9 m10 k9 m11 m12 m13 hv] := hD
      refine lv_goto (tgt := 31) hx hb dX7_nodeFor_20 (by decide) ?_
      exact hret _ _ _ _ _ _ (tO p1) () dX7_nodeFor_31 rfl hS (Nat.le_of_ble_eq_true rfl) (Nat.le_of_ble_eq_true rfl) (by simp [nF, c_1, c_2]) (hP.sub [0] rfl) (hD.sub [0] rfl rfl)
  · skip
    refine lv_iload_n hx hb dX7_nodeFor_4 rfl (lv_at hl 2 rfl) ?_
    refine xc_i (wc := []) (wr := [kX7 m0 (nI z) m1 (nI r9) m2 m3 m4 m5 (nI n9) (nI v) m6 k1 k2 k3 k4 m7 k5 k6 k7 k8 m8 m9 m10 k9 m11 m12 m13 hv]) (xrS (n := 1) (As := [.int p1]) (rest := []) hd hK hP hD (c_X7_fromOf l D cI cJ cZ cR _ p1 ) (gS t_716 mS_X7_fromOf) hS_X7_fromOf ⟨(Nat.le_of_ble_eq_true rfl), (Nat.le_of_ble_eq_true rfl)⟩ [] rfl rfl rfl hl.1 rfl (Nat.le_of_ble_eq_true rfl) dX7_nodeFor_5 ⟨(Nat.le_of_ble_eq_true rfl), (Nat.le_of_ble_eq_true rfl)⟩) hP hD hS hA [] [0] rfl rfl rfl (by decide) (fun r_7 u_8 H locs hw_9 hP hD hS => ?_)
    have hw_10 : r_7 = (fO p1) := hw_9
    subst hw_10
    have hP : va_P D vwCl [kX7 m0 (nI z) m1 (nI r9) m2 m3 m4 m5 (nI n9) (nI v) m6 k1 k2 k3 k4 m7 k5 k6 k7 k8 m8 m9 m10 k9 m11 m12 m13 hv] H := hP
    have hD : va_D A [kX7 m0 (nI z) m1 (nI r9) m2 m3 m4 m5 (nI n9) (nI v) m6 k1 k2 k3 k4 m7 k5 k6 k7 k8 m8 m9 m10 k9 m11 m12 m13 hv] := hD
    refine lv_goto (tgt := 31) hx hb dX7_nodeFor_8 (by decide) ?_
    exact hret _ _ _ _ _ _ (fO p1) () dX7_nodeFor_31 rfl hS (Nat.le_of_ble_eq_true rfl) (Nat.le_of_ble_eq_true rfl) (by simp [nF, c_1]) (hP.sub [0] rfl) (hD.sub [0] rfl rfl)
set_option maxHeartbeats 4000000 in
set_option maxRecDepth 100000 in
theorem c_X7_step (sz : Nat) (m0 : Nat) (m1 : Nat) (m2 : Nat) (m3 : Nat) (m4 : Nat) (m5 : Nat) (m6 : Nat) (m7 : Nat) (m8 : Nat) (m9 : Nat) (m10 : Nat) (m11 : Nat) (m12 : Nat) (m13 : Nat) (z : Nat) (r9 : Nat) (n9 : Nat) (v : Nat) (k1 : Int32) (k2 : Int32) (k3 : Int32) (k4 : Int32) (k5 : Int32) (k6 : Int32) (k7 : Int32) (k8 : Int32) (k9 : Int32) (hv : Int64) (ea : Nat → Int32) (ro : Nat → Int32) (re : Nat → Int32) (rn : Nat → Int32) (rg : Nat → Int32) (p0 : Int32) (p1 : Int32) (hr9 : r9 ≤ 9) (hmr : MRI ro re rn rg r9) (hf : FgI n9 v) : CTi l D cI cJ cZ cR yX7_step cX7_step 7 (some .int) 2 43 0 0 sz [.ref m0, .int p0, .int p1] [kX7 m0 (nI z) m1 (nI r9) m2 m3 m4 m5 (nI n9) (nI v) m6 k1 k2 k3 k4 m7 k5 k6 k7 k8 m8 m9 m10 k9 m11 m12 m13 hv, kI cI m6 12 ea, kI cI m2 9 ro, kI cI m3 9 re, kI cI m4 9 rn, kI cI m5 27 rg] (fun (r : Int32) (u : Int32 × Int32 × Int32 × Int32 × Nat × Nat × (Nat → Int32)) => (FgI u.2.2.2.2.1 u.2.2.2.2.2.1) ∧ (MStP p0 p1 r9 n9 v ea ro re rn rg k1 k2 r u.2.2.2.2.1 u.2.2.2.2.2.1 u.2.2.2.2.2.2 u.1 u.2.1) ∧ (u.2.2.1 = 0 ∨ (u.2.2.1 = k8 ∧ u.2.2.2.2.1 = n9 ∧ u.2.2.2.2.2.1 = v ∧ u.2.2.2.2.2.2 = ea))) (fun (u : Int32 × Int32 × Int32 × Int32 × Nat × Nat × (Nat → Int32)) => [kX7 m0 (nI z) m1 (nI r9) m2 m3 m4 m5 (nI u.2.2.2.2.1) (nI u.2.2.2.2.2.1) m6 u.1 u.2.1 k3 k4 m7 k5 k6 k7 u.2.2.1 m8 m9 m10 u.2.2.2.1 m11 m12 m13 hv, kI cI m6 12 u.2.2.2.2.2.2, kI cI m2 9 ro, kI cI m3 9 re, kI cI m4 9 rn, kI cI m5 27 rg]) := by
  refine CTi.of (ty := .int) (by decide) (Nat.le_of_ble_eq_true rfl) rfl ?_
  intro p e s m below meth c A Q ls hd hin hK hsz hP hD hA hS hl hret
  obtain ⟨hx, hb, hml, hown, hts⟩ := id hd
  have hK1 := hK.1
  have hown : s.vm.findClass RX7 = some m.cls := hown
  have hl : lv_has ls 7 [(0, .ref m0), (1, .int p0), (2, .int p1)] := hl
  refine lv_aload_n hx hb dX7_step_0 rfl (lv_at hl 0 rfl) ?_
  refine lv_iload_n hx hb dX7_step_1 rfl (lv_at hl 1 rfl) ?_
  refine xc_i (wc := [kX7 m0 (nI z) m1 (nI r9) m2 m3 m4 m5 (nI n9) (nI v) m6 k1 k2 k3 k4 m7 k5 k6 k7 k8 m8 m9 m10 k9 m11 m12 m13 hv]) (wr := [kI cI m6 12 ea, kI cI m2 9 ro, kI cI m3 9 re, kI cI m4 9 rn, kI cI m5 27 rg]) (xrV (n := 1) (As := [.int p0]) (rest := []) (ci := 7) (q0 := 0) hd hK hP hD (c_X7_isEdge l D cI cJ cZ cR _ m0 m1 m2 m3 m4 m5 m6 m7 m8 m9 m10 m11 m12 m13 z r9 n9 v k1 k2 k3 k4 k5 k6 k7 k8 k9 hv p0 ) (gV t_709 mV_X7_isEdge) hV_X7_isEdge ⟨(Nat.le_of_ble_eq_true rfl), (Nat.le_of_ble_eq_true rfl)⟩ rfl rfl [0] rfl rfl rfl hl.1 rfl (Nat.le_of_ble_eq_true rfl) dX7_step_2 ⟨(Nat.le_of_ble_eq_true rfl), (Nat.le_of_ble_eq_true rfl)⟩) hP hD hS hA [0] [1, 2, 3, 4, 5] rfl rfl rfl (by decide) (fun r_1 u_2 H locs hw_3 hP hD hS => ?_)
  have hw_4 : r_1 = (wi p0 0 (nI n9 - 1)) := hw_3
  subst hw_4
  have hP : va_P D vwCl [kI cI m6 12 ea, kI cI m2 9 ro, kI cI m3 9 re, kI cI m4 9 rn, kI cI m5 27 rg, kX7 m0 (nI z) m1 (nI r9) m2 m3 m4 m5 (nI n9) (nI v) m6 k1 k2 k3 k4 m7 k5 k6 k7 k8 m8 m9 m10 k9 m11 m12 m13 hv] H := hP
  have hD : va_D A [kI cI m6 12 ea, kI cI m2 9 ro, kI cI m3 9 re, kI cI m4 9 rn, kI cI m5 27 rg, kX7 m0 (nI z) m1 (nI r9) m2 m3 m4 m5 (nI n9) (nI v) m6 k1 k2 k3 k4 m7 k5 k6 k7 k8 m8 m9 m10 k9 m11 m12 m13 hv] := hD
  refine lv_if_eq (tgt := 16) hx hb dX7_step_5 (by decide) (fun c_5 => ?_) (fun c_5 => ?_)
  · skip
    refine lv_sipush (v := -1001) hx hb dX7_step_16 (by decide) ?_
    exact hret _ _ _ _ _ _ (-1001) (k1, k2, k8, k9, n9, v, ea) dX7_step_19 rfl hS (Nat.le_of_ble_eq_true rfl) (Nat.le_of_ble_eq_true rfl) ⟨hf, Or.inl ⟨Or.inl c_5, rfl, rfl, rfl, rfl, rfl, rfl⟩, Or.inr ⟨rfl, rfl, rfl, rfl⟩⟩ (hP.sub [5, 0, 1, 2, 3, 4] rfl) (hD.sub [5, 0, 1, 2, 3, 4] rfl rfl)
  · skip
    refine lv_aload_n hx hb dX7_step_8 rfl (lv_at hl 0 rfl) ?_
    refine lv_iload_n hx hb dX7_step_9 rfl (lv_at hl 2 rfl) ?_
    refine xc_i (wc := [kX7 m0 (nI z) m1 (nI r9) m2 m3 m4 m5 (nI n9) (nI v) m6 k1 k2 k3 k4 m7 k5 k6 k7 k8 m8 m9 m10 k9 m11 m12 m13 hv]) (wr := [kI cI m6 12 ea, kI cI m2 9 ro, kI cI m3 9 re, kI cI m4 9 rn, kI cI m5 27 rg]) (xrV (n := 1) (As := [.int p1]) (rest := []) (ci := 7) (q0 := 5) hd hK hP hD (c_X7_isRule l D cI cJ cZ cR _ m0 m1 m2 m3 m4 m5 m6 m7 m8 m9 m10 m11 m12 m13 z r9 n9 v k1 k2 k3 k4 k5 k6 k7 k8 k9 hv p1 ) (gV t_685 mV_X7_isRule) hV_X7_isRule ⟨(Nat.le_of_ble_eq_true rfl), (Nat.le_of_ble_eq_true rfl)⟩ rfl rfl [5] rfl rfl rfl hl.1 rfl (Nat.le_of_ble_eq_true rfl) dX7_step_10 ⟨(Nat.le_of_ble_eq_true rfl), (Nat.le_of_ble_eq_true rfl)⟩) hP hD hS hA [5] [0, 1, 2, 3, 4] rfl rfl rfl (by decide) (fun r_6 u_7 H locs hw_8 hP hD hS => ?_)
    have hw_9 : r_6 = (wi p1 0 (nI r9 - 1)) := hw_8
    subst hw_9
    have hP : va_P D vwCl [kI cI m6 12 ea, kI cI m2 9 ro, kI cI m3 9 re, kI cI m4 9 rn, kI cI m5 27 rg, kX7 m0 (nI z) m1 (nI r9) m2 m3 m4 m5 (nI n9) (nI v) m6 k1 k2 k3 k4 m7 k5 k6 k7 k8 m8 m9 m10 k9 m11 m12 m13 hv] H := hP
    have hD : va_D A [kI cI m6 12 ea, kI cI m2 9 ro, kI cI m3 9 re, kI cI m4 9 rn, kI cI m5 27 rg, kX7 m0 (nI z) m1 (nI r9) m2 m3 m4 m5 (nI n9) (nI v) m6 k1 k2 k3 k4 m7 k5 k6 k7 k8 m8 m9 m10 k9 m11 m12 m13 hv] := hD
    refine lv_if_ne (tgt := 20) hx hb dX7_step_13 (by decide) (fun c_10 => ?_) (fun c_10 => ?_)
    · skip
      obtain ⟨j9, hj9, ej9⟩ := wi_ix (by have := hf.1; omega) c_5
      obtain ⟨kr, hk9, ek9⟩ := wi_ix (by omega) c_10
      obtain ⟨⟨o9, ho9, eo9⟩, e9, he1, he3, ee9, ⟨w9, hw2, hw4, ew9⟩, -⟩ := hmr kr hk9
      obtain ⟨hf1, hf2, hf3⟩ := hf
      have hl : lv_has ls 7 [(0, .ref m0), (1, .int (nI j9)), (2, .int p1)] := by rw [← ej9]; exact hl
      have hl : lv_has ls 7 [(0, .ref m0), (1, .int (nI j9)), (2, .int (nI kr))] := by rw [← ek9]; exact hl
      refine lv_aload_n hx hb dX7_step_20 rfl (lv_at hl 0 rfl) ?_
      refine va_get (D := D) (ci := 7) (v := .ref m6) (C := RX7) (T := TX7) (N := 27) hx hb hts iT_X7 hown hK1 hP 5 rfl rfl 9 (by decide) (hts _ t_560) (fun _ h9 => h9) rfl dX7_step_21 ?_
      refine lv_iload_n hx hb dX7_step_24 rfl (lv_at hl 1 rfl) ?_
      refine va_iald hx hb hK1 hP 0 0 rfl rfl (vp_in_nI (by omega) (by omega)) dX7_step_25 ?_
      refine lv_nmi (show _ = ea j9 from by rw [nI_clamp (n := j9) (by omega)]) ?_
      refine lv_istore_n (lv' := [(3, .int (ea j9)), (0, .ref m0), (1, .int (nI j9)), (2, .int (nI kr))]) hx hb dX7_step_26 rfl hl (by decide) rfl (fun ls hl => ?_)
      refine lv_iload_n hx hb dX7_step_27 rfl (lv_at hl 0 rfl) ?_
      refine xc_i (wc := []) (wr := [kI cI m6 12 ea, kI cI m2 9 ro, kI cI m3 9 re, kI cI m4 9 rn, kI cI m5 27 rg, kX7 m0 (nI z) m1 (nI r9) m2 m3 m4 m5 (nI n9) (nI v) m6 k1 k2 k3 k4 m7 k5 k6 k7 k8 m8 m9 m10 k9 m11 m12 m13 hv]) (xrS (n := 1) (As := [.int (ea j9)]) (rest := []) hd hK hP hD (c_X7_letterOf l D cI cJ cZ cR _ (ea j9) ) (gS t_713 mS_X7_letterOf) hS_X7_letterOf ⟨(Nat.le_of_ble_eq_true rfl), (Nat.le_of_ble_eq_true rfl)⟩ [] rfl rfl rfl hl.1 rfl (Nat.le_of_ble_eq_true rfl) dX7_step_28 ⟨(Nat.le_of_ble_eq_true rfl), (Nat.le_of_ble_eq_true rfl)⟩) hP hD hS hA [] [0, 1, 2, 3, 4, 5] rfl rfl rfl (by decide) (fun r_11 u_12 H locs hw_13 hP hD hS => ?_)
      have hw_14 : r_11 = (lO (ea j9)) := hw_13
      subst hw_14
      have hP : va_P D vwCl [kI cI m6 12 ea, kI cI m2 9 ro, kI cI m3 9 re, kI cI m4 9 rn, kI cI m5 27 rg, kX7 m0 (nI z) m1 (nI r9) m2 m3 m4 m5 (nI n9) (nI v) m6 k1 k2 k3 k4 m7 k5 k6 k7 k8 m8 m9 m10 k9 m11 m12 m13 hv] H := hP
      have hD : va_D A [kI cI m6 12 ea, kI cI m2 9 ro, kI cI m3 9 re, kI cI m4 9 rn, kI cI m5 27 rg, kX7 m0 (nI z) m1 (nI r9) m2 m3 m4 m5 (nI n9) (nI v) m6 k1 k2 k3 k4 m7 k5 k6 k7 k8 m8 m9 m10 k9 m11 m12 m13 hv] := hD
      refine lv_aload_n hx hb dX7_step_31 rfl (lv_at hl 1 rfl) ?_
      refine va_get (D := D) (ci := 7) (v := .ref m2) (C := RX7) (T := TX7) (N := 27) hx hb hts iT_X7 hown hK1 hP 5 rfl rfl 3 (by decide) (hts _ t_554) (fun _ h9 => h9) rfl dX7_step_32 ?_
      refine lv_iload_n hx hb dX7_step_35 rfl (lv_at hl 3 rfl) ?_
      refine va_iald hx hb hK1 hP 1 0 rfl rfl (vp_in_nI (by omega) (by omega)) dX7_step_36 ?_
      refine lv_nmi (show _ = ro kr from by rw [nI_clamp (n := kr) (by omega)]) ?_
      refine lv_icmp_eq (tgt := 44) hx hb dX7_step_37 (by decide) (fun c_15 => ?_) (fun c_15 => ?_)
      · skip
        have hst := c_15
        refine lv_aload_n hx hb dX7_step_44 rfl (lv_at hl 1 rfl) ?_
        refine va_get (D := D) (ci := 7) (v := .ref m3) (C := RX7) (T := TX7) (N := 27) hx hb hts iT_X7 hown hK1 hP 5 rfl rfl 4 (by decide) (hts _ t_555) (fun _ h9 => h9) rfl dX7_step_45 ?_
        refine lv_iload_n hx hb dX7_step_48 rfl (lv_at hl 3 rfl) ?_
        refine va_iald hx hb hK1 hP 2 0 rfl rfl (vp_in_nI (by omega) (by omega)) dX7_step_49 ?_
        refine lv_nmi (show _ = re kr from by rw [nI_clamp (n := kr) (by omega)]) ?_
        refine lv_nmi (show _ = (nI e9 : Int32) from ee9) ?_
        refine lv_iconst (v := 1) hx hb dX7_step_50 (by decide) ?_
        refine lv_isub hx hb dX7_step_51 ?_
        refine lv_nmi (show _ = (nI (e9 - 1) : Int32) from pk_sub (a := e9) (b := 1) (by omega)) ?_
        refine lv_istore (lv' := [(4, .int (nI (e9 - 1))), (3, .int (ea j9)), (0, .ref m0), (1, .int (nI j9)), (2, .int (nI kr))]) hx hb dX7_step_52 hl (by decide) rfl (fun ls hl => ?_)
        refine lv_aload_n hx hb dX7_step_54 rfl (lv_at hl 2 rfl) ?_
        refine va_get (D := D) (ci := 7) (v := .int (nI n9)) (C := RX7) (T := TX7) (N := 27) hx hb hts iT_X7 hown hK1 hP 5 rfl rfl 7 (by decide) (hts _ t_558) (fun _ h9 => h9) rfl dX7_step_55 ?_
        refine lv_iload hx hb dX7_step_58 (lv_at hl 0 rfl) ?_
        refine lv_iadd hx hb dX7_step_60 ?_
        refine lv_nmi (show _ = (nI (n9 + (e9 - 1))) from nI_add (n9) ((e9 - 1))) ?_
        refine lv_bipush (v := 12) hx hb dX7_step_61 (by decide) ?_
        refine lv_icmp_gt (tgt := 84) hx hb dX7_step_63 (by decide) (fun c_16 => ?_) (fun c_16 => ?_)
        · skip
          refine lv_sipush (v := -1004) hx hb dX7_step_84 (by decide) ?_
          exact hret _ _ _ _ _ _ (-1004) (k1, k2, k8, k9, n9, v, ea) dX7_step_87 rfl hS (Nat.le_of_ble_eq_true rfl) (Nat.le_of_ble_eq_true rfl) ⟨⟨hf1, hf2, hf3⟩, Or.inr ⟨j9, kr, hj9, hk9, ej9, ek9, Or.inr ⟨c_15, e9, w9, he1, he3, hw4, ee9, ew9, Or.inl ⟨Or.inl (by have := (nI_ltI (a := 12) (b := n9 + (e9 - 1)) (by omega) (by omega)).mp c_16; omega), rfl, rfl, rfl, rfl, rfl, rfl⟩⟩⟩, Or.inr ⟨rfl, rfl, rfl, rfl⟩⟩ (hP.sub [5, 0, 1, 2, 3, 4] rfl) (hD.sub [5, 0, 1, 2, 3, 4] rfl rfl)
        · skip
          refine lv_aload_n hx hb dX7_step_66 rfl (lv_at hl 2 rfl) ?_
          refine va_get (D := D) (ci := 7) (v := .int (nI v)) (C := RX7) (T := TX7) (N := 27) hx hb hts iT_X7 hown hK1 hP 5 rfl rfl 8 (by decide) (hts _ t_559) (fun _ h9 => h9) rfl dX7_step_67 ?_
          refine lv_aload_n hx hb dX7_step_70 rfl (lv_at hl 2 rfl) ?_
          refine va_get (D := D) (ci := 7) (v := .ref m4) (C := RX7) (T := TX7) (N := 27) hx hb hts iT_X7 hown hK1 hP 5 rfl rfl 5 (by decide) (hts _ t_556) (fun _ h9 => h9) rfl dX7_step_71 ?_
          refine lv_iload_n hx hb dX7_step_74 rfl (lv_at hl 4 rfl) ?_
          refine va_iald hx hb hK1 hP 3 0 rfl rfl (vp_in_nI (by omega) (by omega)) dX7_step_75 ?_
          refine lv_nmi (show _ = rn kr from by rw [nI_clamp (n := kr) (by omega)]) ?_
          refine lv_nmi (show _ = (nI w9 : Int32) from ew9) ?_
          refine lv_iadd hx hb dX7_step_76 ?_
          refine lv_nmi (show _ = (nI (v + w9)) from nI_add (v) (w9)) ?_
          refine lv_iconst (v := 2) hx hb dX7_step_77 (by decide) ?_
          refine lv_isub hx hb dX7_step_78 ?_
          refine lv_nmi (show _ = (nI (v + w9 - 2) : Int32) from pk_sub (a := v + w9) (b := 2) (by omega)) ?_
          refine lv_bipush (v := 9) hx hb dX7_step_79 (by decide) ?_
          refine lv_icmp_le (tgt := 88) hx hb dX7_step_81 (by decide) (fun c_17 => ?_) (fun c_17 => ?_)
          · skip
            have hc1 := nltN (a := 12) (b := n9 + (e9 - 1)) (by omega) (by omega) c_16
            have hc2 := leN (a := v + w9 - 2) (b := 9) (by omega) (by omega) c_17
            refine lv_aload_n hx hb dX7_step_88 rfl (lv_at hl 2 rfl) ?_
            refine va_get (D := D) (ci := 7) (v := .int (nI n9)) (C := RX7) (T := TX7) (N := 27) hx hb hts iT_X7 hown hK1 hP 5 rfl rfl 7 (by decide) (hts _ t_558) (fun _ h9 => h9) rfl dX7_step_89 ?_
            refine lv_iconst (v := 1) hx hb dX7_step_92 (by decide) ?_
            refine lv_isub hx hb dX7_step_93 ?_
            refine lv_nmi (show _ = (nI (n9 - 1) : Int32) from pk_sub (a := n9) (b := 1) (by omega)) ?_
            refine lv_istore (lv' := [(5, .int (nI (n9 - 1))), (4, .int (nI (e9 - 1))), (3, .int (ea j9)), (0, .ref m0), (1, .int (nI j9)), (2, .int (nI kr))]) hx hb dX7_step_94 hl (by decide) rfl (fun ls hl => ?_)
            have LOOP_96 : ∀ (n : Nat) (i : Nat) (ga : Nat → Int32), (j9 + n = i) → (i < n9) → (SHR ea ga (e9 - 1) n9 i) → ∀ (H : Heap) (locs : List Loc) (ls : Array Slot), va_P D vwCl [kI cI m6 12 ga, kI cI m2 9 ro, kI cI m3 9 re, kI cI m4 9 rn, kI cI m5 27 rg, kX7 m0 (nI z) m1 (nI r9) m2 m3 m4 m5 (nI n9) (nI v) m6 k1 k2 k3 k4 m7 k5 k6 k7 k8 m8 m9 m10 k9 m11 m12 m13 hv] H → va_D A [kI cI m6 12 ga, kI cI m2 9 ro, kI cI m3 9 re, kI cI m4 9 rn, kI cI m5 27 rg, kX7 m0 (nI z) m1 (nI r9) m2 m3 m4 m5 (nI n9) (nI v) m6 k1 k2 k3 k4 m7 k5 k6 k7 k8 m8 m9 m10 k9 m11 m12 m13 hv] → va_S A s.heap H locs → lv_has ls 7 [(0, .ref m0), (1, .int (nI j9)), (2, .int (nI kr)), (3, .int (ea j9)), (4, .int (nI (e9 - 1))), (5, .int (nI i))] → W p l e (rM 2 0 0 43) s m ([.ref m0, .int p0, .int p1] : List Value).toArray below meth c H locs 0 0 Q (F0 m 96 ls []) := by
              intro n
              induction n with
              | zero =>
                intro i ga hi hi9 hga H locs ls hP hD hS hl
                refine lv_iload hx hb dX7_step_96 (lv_at hl 5 rfl) ?_
                refine lv_iload_n hx hb dX7_step_98 rfl (lv_at hl 1 rfl) ?_
                refine lv_icmp_le (tgt := 125) hx hb dX7_step_99 (by decide) (fun c_18 => ?_) (fun c_18 => ?_)
                rotate_left
                · exact absurd (nI_le (a := i) (b := j9) (by omega) (by omega)) c_18
                refine lv_iconst (v := 0) hx hb dX7_step_125 (by decide) ?_
                refine lv_istore (lv' := [(5, .int 0), (0, .ref m0), (1, .int (nI j9)), (2, .int (nI kr)), (3, .int (ea j9)), (4, .int (nI (e9 - 1)))]) hx hb dX7_step_126 hl (by decide) rfl (fun ls hl => ?_)
                have LOOP_128 : ∀ (n : Nat) (t : Nat) (gb : Nat → Int32), (t + n = e9) → (RPT ea (fun t => ((100 * (lO (rg ((3 * kr) + t)))) + (10 * (nF v (fO (rg ((3 * kr) + t))) (ea j9)))) + (nF v (tO (rg ((3 * kr) + t))) (ea j9))) gb j9 e9 n9 t) → ∀ (H : Heap) (locs : List Loc) (ls : Array Slot), va_P D vwCl [kI cI m6 12 gb, kI cI m2 9 ro, kI cI m3 9 re, kI cI m4 9 rn, kI cI m5 27 rg, kX7 m0 (nI z) m1 (nI r9) m2 m3 m4 m5 (nI n9) (nI v) m6 k1 k2 k3 k4 m7 k5 k6 k7 k8 m8 m9 m10 k9 m11 m12 m13 hv] H → va_D A [kI cI m6 12 gb, kI cI m2 9 ro, kI cI m3 9 re, kI cI m4 9 rn, kI cI m5 27 rg, kX7 m0 (nI z) m1 (nI r9) m2 m3 m4 m5 (nI n9) (nI v) m6 k1 k2 k3 k4 m7 k5 k6 k7 k8 m8 m9 m10 k9 m11 m12 m13 hv] → va_S A s.heap H locs → lv_has ls 7 [(0, .ref m0), (1, .int (nI j9)), (2, .int (nI kr)), (3, .int (ea j9)), (4, .int (nI (e9 - 1))), (5, .int (nI t))] → W p l e (rM 2 0 0 43) s m ([.ref m0, .int p0, .int p1] : List Value).toArray below meth c H locs 0 0 Q (F0 m 128 ls []) := by
                  intro n
                  induction n with
                  | zero =>
                    intro t gb ht hgb H locs ls hP hD hS hl
                    refine lv_iload hx hb dX7_step_128 (lv_at hl 5 rfl) ?_
                    refine lv_aload_n hx hb dX7_step_130 rfl (lv_at hl 0 rfl) ?_
                    refine va_get (D := D) (ci := 7) (v := .ref m3) (C := RX7) (T := TX7) (N := 27) hx hb hts iT_X7 hown hK1 hP 5 rfl rfl 4 (by decide) (hts _ t_555) (fun _ h9 => h9) rfl dX7_step_131 ?_
                    refine lv_iload_n hx hb dX7_step_134 rfl (lv_at hl 2 rfl) ?_
                    refine va_iald hx hb hK1 hP 2 0 rfl rfl (vp_in_nI (by omega) (by omega)) dX7_step_135 ?_
                    refine lv_nmi (show _ = re kr from by rw [nI_clamp (n := kr) (by omega)]) ?_
                    refine lv_nmi (show _ = (nI e9 : Int32) from ee9) ?_
                    refine lv_icmp_ge (tgt := 200) hx hb dX7_step_136 (by decide) (fun c_19 => ?_) (fun c_19 => ?_)
                    rotate_left
                    · exact absurd (nI_le (a := e9) (b := t) (by omega) (by omega)) c_19
                    refine lv_aload_n hx hb dX7_step_200 rfl (lv_at hl 0 rfl) ?_
                    refine lv_dup hx hb dX7_step_201 rfl ?_
                    refine va_get (D := D) (ci := 7) (v := .int (nI n9)) (C := RX7) (T := TX7) (N := 27) hx hb hts iT_X7 hown hK1 hP 5 rfl rfl 7 (by decide) (hts _ t_558) (fun _ h9 => h9) rfl dX7_step_202 ?_
                    refine lv_iload hx hb dX7_step_205 (lv_at hl 4 rfl) ?_
                    refine lv_iadd hx hb dX7_step_207 ?_
                    refine lv_nmi (show _ = (nI (n9 + (e9 - 1))) from nI_add (n9) ((e9 - 1))) ?_
                    refine va_put (D := D) (ci := 7) (v := .int (nI (n9 + (e9 - 1)))) (ty := .int) (C := RX7) (T := TX7) (N := 27) hx hb hts iT_X7 tyX7 tyX7_ok nmX7 hown hK1 hP hD hS 5 rfl rfl 7 (by decide) (hts _ t_558) (fun _ h9 => h9) rfl (by decide +kernel) rfl rfl (Nat.le_of_ble_eq_true rfl) dX7_step_208 (fun H locs hP hD hS => ?_)
                    have hP : va_P D vwCl [kI cI m6 12 gb, kI cI m2 9 ro, kI cI m3 9 re, kI cI m4 9 rn, kI cI m5 27 rg, kX7 m0 (nI z) m1 (nI r9) m2 m3 m4 m5 (nI (n9 + (e9 - 1))) (nI v) m6 k1 k2 k3 k4 m7 k5 k6 k7 k8 m8 m9 m10 k9 m11 m12 m13 hv] H := hP
                    have hD : va_D A [kI cI m6 12 gb, kI cI m2 9 ro, kI cI m3 9 re, kI cI m4 9 rn, kI cI m5 27 rg, kX7 m0 (nI z) m1 (nI r9) m2 m3 m4 m5 (nI (n9 + (e9 - 1))) (nI v) m6 k1 k2 k3 k4 m7 k5 k6 k7 k8 m8 m9 m10 k9 m11 m12 m13 hv] := hD
                    refine lv_aload_n hx hb dX7_step_211 rfl (lv_at hl 0 rfl) ?_
                    refine lv_dup hx hb dX7_step_212 rfl ?_
                    refine va_get (D := D) (ci := 7) (v := .int (nI v)) (C := RX7) (T := TX7) (N := 27) hx hb hts iT_X7 hown hK1 hP 5 rfl rfl 8 (by decide) (hts _ t_559) (fun _ h9 => h9) rfl dX7_step_213 ?_
                    refine lv_aload_n hx hb dX7_step_216 rfl (lv_at hl 0 rfl) ?_
                    refine va_get (D := D) (ci := 7) (v := .ref m4) (C := RX7) (T := TX7) (N := 27) hx hb hts iT_X7 hown hK1 hP 5 rfl rfl 5 (by decide) (hts _ t_556) (fun _ h9 => h9) rfl dX7_step_217 ?_
                    refine lv_iload_n hx hb dX7_step_220 rfl (lv_at hl 2 rfl) ?_
                    refine va_iald hx hb hK1 hP 3 0 rfl rfl (vp_in_nI (by omega) (by omega)) dX7_step_221 ?_
                    refine lv_nmi (show _ = rn kr from by rw [nI_clamp (n := kr) (by omega)]) ?_
                    refine lv_nmi (show _ = (nI w9 : Int32) from ew9) ?_
                    refine lv_iconst (v := 2) hx hb dX7_step_222 (by decide) ?_
                    refine lv_isub hx hb dX7_step_223 ?_
                    refine lv_nmi (show _ = (nI (w9 - 2) : Int32) from pk_sub (a := w9) (b := 2) hw2) ?_
                    refine lv_iadd hx hb dX7_step_224 ?_
                    refine lv_nmi (show _ = (nI (v + (w9 - 2))) from nI_add (v) ((w9 - 2))) ?_
                    refine va_put (D := D) (ci := 7) (v := .int (nI (v + (w9 - 2)))) (ty := .int) (C := RX7) (T := TX7) (N := 27) hx hb hts iT_X7 tyX7 tyX7_ok nmX7 hown hK1 hP hD hS 5 rfl rfl 8 (by decide) (hts _ t_559) (fun _ h9 => h9) rfl (by decide +kernel) rfl rfl (Nat.le_of_ble_eq_true rfl) dX7_step_225 (fun H locs hP hD hS => ?_)
                    have hP : va_P D vwCl [kI cI m6 12 gb, kI cI m2 9 ro, kI cI m3 9 re, kI cI m4 9 rn, kI cI m5 27 rg, kX7 m0 (nI z) m1 (nI r9) m2 m3 m4 m5 (nI (n9 + (e9 - 1))) (nI (v + (w9 - 2))) m6 k1 k2 k3 k4 m7 k5 k6 k7 k8 m8 m9 m10 k9 m11 m12 m13 hv] H := hP
                    have hD : va_D A [kI cI m6 12 gb, kI cI m2 9 ro, kI cI m3 9 re, kI cI m4 9 rn, kI cI m5 27 rg, kX7 m0 (nI z) m1 (nI r9) m2 m3 m4 m5 (nI (n9 + (e9 - 1))) (nI (v + (w9 - 2))) m6 k1 k2 k3 k4 m7 k5 k6 k7 k8 m8 m9 m10 k9 m11 m12 m13 hv] := hD
                    refine lv_aload_n hx hb dX7_step_228 rfl (lv_at hl 0 rfl) ?_
                    refine lv_dup hx hb dX7_step_229 rfl ?_
                    refine va_get (D := D) (ci := 7) (v := .int k1) (C := RX7) (T := TX7) (N := 27) hx hb hts iT_X7 hown hK1 hP 5 rfl rfl 10 (by decide) (hts _ t_561) (fun _ h9 => h9) rfl dX7_step_230 ?_
                    refine lv_iconst (v := 1) hx hb dX7_step_233 (by decide) ?_
                    refine lv_iadd hx hb dX7_step_234 ?_
                    refine va_put (D := D) (ci := 7) (v := .int (k1 + 1)) (ty := .int) (C := RX7) (T := TX7) (N := 27) hx hb hts iT_X7 tyX7 tyX7_ok nmX7 hown hK1 hP hD hS 5 rfl rfl 10 (by decide) (hts _ t_561) (fun _ h9 => h9) rfl (by decide +kernel) rfl rfl (Nat.le_of_ble_eq_true rfl) dX7_step_235 (fun H locs hP hD hS => ?_)
                    have hP : va_P D vwCl [kI cI m6 12 gb, kI cI m2 9 ro, kI cI m3 9 re, kI cI m4 9 rn, kI cI m5 27 rg, kX7 m0 (nI z) m1 (nI r9) m2 m3 m4 m5 (nI (n9 + (e9 - 1))) (nI (v + (w9 - 2))) m6 (k1 + 1) k2 k3 k4 m7 k5 k6 k7 k8 m8 m9 m10 k9 m11 m12 m13 hv] H := hP
                    have hD : va_D A [kI cI m6 12 gb, kI cI m2 9 ro, kI cI m3 9 re, kI cI m4 9 rn, kI cI m5 27 rg, kX7 m0 (nI z) m1 (nI r9) m2 m3 m4 m5 (nI (n9 + (e9 - 1))) (nI (v + (w9 - 2))) m6 (k1 + 1) k2 k3 k4 m7 k5 k6 k7 k8 m8 m9 m10 k9 m11 m12 m13 hv] := hD
                    refine lv_aload_n hx hb dX7_step_238 rfl (lv_at hl 0 rfl) ?_
                    refine lv_dup hx hb dX7_step_239 rfl ?_
                    refine va_get (D := D) (ci := 7) (v := .int k2) (C := RX7) (T := TX7) (N := 27) hx hb hts iT_X7 hown hK1 hP 5 rfl rfl 11 (by decide) (hts _ t_562) (fun _ h9 => h9) rfl dX7_step_240 ?_
                    refine lv_iconst (v := 1) hx hb dX7_step_243 (by decide) ?_
                    refine lv_iadd hx hb dX7_step_244 ?_
                    refine va_put (D := D) (ci := 7) (v := .int (k2 + 1)) (ty := .int) (C := RX7) (T := TX7) (N := 27) hx hb hts iT_X7 tyX7 tyX7_ok nmX7 hown hK1 hP hD hS 5 rfl rfl 11 (by decide) (hts _ t_562) (fun _ h9 => h9) rfl (by decide +kernel) rfl rfl (Nat.le_of_ble_eq_true rfl) dX7_step_245 (fun H locs hP hD hS => ?_)
                    have hP : va_P D vwCl [kI cI m6 12 gb, kI cI m2 9 ro, kI cI m3 9 re, kI cI m4 9 rn, kI cI m5 27 rg, kX7 m0 (nI z) m1 (nI r9) m2 m3 m4 m5 (nI (n9 + (e9 - 1))) (nI (v + (w9 - 2))) m6 (k1 + 1) (k2 + 1) k3 k4 m7 k5 k6 k7 k8 m8 m9 m10 k9 m11 m12 m13 hv] H := hP
                    have hD : va_D A [kI cI m6 12 gb, kI cI m2 9 ro, kI cI m3 9 re, kI cI m4 9 rn, kI cI m5 27 rg, kX7 m0 (nI z) m1 (nI r9) m2 m3 m4 m5 (nI (n9 + (e9 - 1))) (nI (v + (w9 - 2))) m6 (k1 + 1) (k2 + 1) k3 k4 m7 k5 k6 k7 k8 m8 m9 m10 k9 m11 m12 m13 hv] := hD
                    refine lv_aload_n hx hb dX7_step_248 rfl (lv_at hl 0 rfl) ?_
                    refine xc_v (wc := [kX7 m0 (nI z) m1 (nI r9) m2 m3 m4 m5 (nI (n9 + (e9 - 1))) (nI (v + (w9 - 2))) m6 (k1 + 1) (k2 + 1) k3 k4 m7 k5 k6 k7 k8 m8 m9 m10 k9 m11 m12 m13 hv]) (wr := [kI cI m6 12 gb, kI cI m2 9 ro, kI cI m3 9 re, kI cI m4 9 rn, kI cI m5 27 rg]) (xrV (n := 0) (As := []) (rest := []) (ci := 7) (q0 := 5) hd hK hP hD (c_X7_altered l D cI cJ cZ cR _ m0 m1 m2 m3 m4 m5 m6 m7 m8 m9 m10 m11 m12 m13 z r9 (n9 + (e9 - 1)) (v + (w9 - 2)) (k1 + 1) (k2 + 1) k3 k4 k5 k6 k7 k8 k9 hv ) (gV t_677 mV_X7_altered) hV_X7_altered ⟨(Nat.le_of_ble_eq_true rfl), (Nat.le_of_ble_eq_true rfl)⟩ rfl rfl [5] rfl rfl rfl hl.1 rfl (Nat.le_of_ble_eq_true rfl) dX7_step_249 ⟨(Nat.le_of_ble_eq_true rfl), (Nat.le_of_ble_eq_true rfl)⟩) hP hD hS hA [5] [0, 1, 2, 3, 4] rfl rfl rfl (by decide) (fun u_21 H locs hw_22 hP hD hS => ?_)
                    have hP : va_P D vwCl [kI cI m6 12 gb, kI cI m2 9 ro, kI cI m3 9 re, kI cI m4 9 rn, kI cI m5 27 rg, kX7 m0 (nI z) m1 (nI r9) m2 m3 m4 m5 (nI (n9 + (e9 - 1))) (nI (v + (w9 - 2))) m6 (k1 + 1) (k2 + 1) k3 k4 m7 k5 k6 k7 0 m8 m9 m10 0 m11 m12 m13 hv] H := hP
                    have hD : va_D A [kI cI m6 12 gb, kI cI m2 9 ro, kI cI m3 9 re, kI cI m4 9 rn, kI cI m5 27 rg, kX7 m0 (nI z) m1 (nI r9) m2 m3 m4 m5 (nI (n9 + (e9 - 1))) (nI (v + (w9 - 2))) m6 (k1 + 1) (k2 + 1) k3 k4 m7 k5 k6 k7 0 m8 m9 m10 0 m11 m12 m13 hv] := hD
                    refine lv_aload_n hx hb dX7_step_252 rfl (lv_at hl 0 rfl) ?_
                    refine va_get (D := D) (ci := 7) (v := .int (nI (n9 + (e9 - 1)))) (C := RX7) (T := TX7) (N := 27) hx hb hts iT_X7 hown hK1 hP 5 rfl rfl 7 (by decide) (hts _ t_558) (fun _ h9 => h9) rfl dX7_step_253 ?_
                    exact hret _ _ _ _ _ _ (nI (n9 + (e9 - 1))) (k1 + 1, k2 + 1, 0, 0, (n9 + (e9 - 1)), (v + (w9 - 2)), gb) dX7_step_256 rfl hS (Nat.le_of_ble_eq_true rfl) (Nat.le_of_ble_eq_true rfl) ⟨(show FgI (n9 + (e9 - 1)) (v + (w9 - 2)) from ⟨by omega, by omega, by omega⟩), Or.inr ⟨j9, kr, hj9, hk9, ej9, ek9, Or.inr ⟨hst, e9, w9, he1, he3, hw4, ee9, ew9, Or.inr ⟨by omega, by omega, rfl, rfl, rfl, rfl, rfl, RPL_end (by omega) (by omega) hgb⟩⟩⟩, Or.inl rfl⟩ (hP.sub [5, 0, 1, 2, 3, 4] rfl) (hD.sub [5, 0, 1, 2, 3, 4] rfl rfl)
                  | succ n ih_128 =>
                    intro t gb ht hgb H locs ls hP hD hS hl
                    refine lv_iload hx hb dX7_step_128 (lv_at hl 5 rfl) ?_
                    refine lv_aload_n hx hb dX7_step_130 rfl (lv_at hl 0 rfl) ?_
                    refine va_get (D := D) (ci := 7) (v := .ref m3) (C := RX7) (T := TX7) (N := 27) hx hb hts iT_X7 hown hK1 hP 5 rfl rfl 4 (by decide) (hts _ t_555) (fun _ h9 => h9) rfl dX7_step_131 ?_
                    refine lv_iload_n hx hb dX7_step_134 rfl (lv_at hl 2 rfl) ?_
                    refine va_iald hx hb hK1 hP 2 0 rfl rfl (vp_in_nI (by omega) (by omega)) dX7_step_135 ?_
                    refine lv_nmi (show _ = re kr from by rw [nI_clamp (n := kr) (by omega)]) ?_
                    refine lv_nmi (show _ = (nI e9 : Int32) from ee9) ?_
                    refine lv_icmp_ge (tgt := 200) hx hb dX7_step_136 (by decide) (fun c_23 => ?_) (fun c_23 => ?_)
                    · exact absurd c_23 (nI_ge (a := t) (b := e9) (by omega) (by omega))
                    refine lv_aload_n hx hb dX7_step_139 rfl (lv_at hl 0 rfl) ?_
                    refine va_get (D := D) (ci := 7) (v := .ref m5) (C := RX7) (T := TX7) (N := 27) hx hb hts iT_X7 hown hK1 hP 5 rfl rfl 6 (by decide) (hts _ t_557) (fun _ h9 => h9) rfl dX7_step_140 ?_
                    refine lv_iconst (v := 3) hx hb dX7_step_143 (by decide) ?_
                    refine lv_iload_n hx hb dX7_step_144 rfl (lv_at hl 2 rfl) ?_
                    refine lv_imul hx hb dX7_step_145 ?_
                    refine lv_nmi (show _ = (nI (3 * kr)) from pk_mul (3) (kr)) ?_
                    refine lv_iload hx hb dX7_step_146 (lv_at hl 5 rfl) ?_
                    refine lv_iadd hx hb dX7_step_148 ?_
                    refine lv_nmi (show _ = (nI ((3 * kr) + t)) from nI_add ((3 * kr)) (t)) ?_
                    refine va_iald hx hb hK1 hP 4 0 rfl rfl (vp_in_nI (by omega) (by omega)) dX7_step_149 ?_
                    refine lv_nmi (show _ = rg ((3 * kr) + t) from by rw [nI_clamp (n := ((3 * kr) + t)) (by omega)]) ?_
                    refine lv_istore (lv' := [(6, .int (rg ((3 * kr) + t))), (0, .ref m0), (1, .int (nI j9)), (2, .int (nI kr)), (3, .int (ea j9)), (4, .int (nI (e9 - 1))), (5, .int (nI t))]) hx hb dX7_step_150 hl (by decide) rfl (fun ls hl => ?_)
                    refine lv_aload_n hx hb dX7_step_152 rfl (lv_at hl 1 rfl) ?_
                    refine va_get (D := D) (ci := 7) (v := .ref m6) (C := RX7) (T := TX7) (N := 27) hx hb hts iT_X7 hown hK1 hP 5 rfl rfl 9 (by decide) (hts _ t_560) (fun _ h9 => h9) rfl dX7_step_153 ?_
                    refine lv_iload_n hx hb dX7_step_156 rfl (lv_at hl 2 rfl) ?_
                    refine lv_iload hx hb dX7_step_157 (lv_at hl 6 rfl) ?_
                    refine lv_iadd hx hb dX7_step_159 ?_
                    refine lv_nmi (show _ = (nI (j9 + t)) from nI_add (j9) (t)) ?_
                    refine lv_bipush (v := 100) hx hb dX7_step_160 (by decide) ?_
                    refine lv_iload hx hb dX7_step_162 (lv_at hl 0 rfl) ?_
                    refine xc_i (wc := []) (wr := [kI cI m6 12 gb, kI cI m2 9 ro, kI cI m3 9 re, kI cI m4 9 rn, kI cI m5 27 rg, kX7 m0 (nI z) m1 (nI r9) m2 m3 m4 m5 (nI n9) (nI v) m6 k1 k2 k3 k4 m7 k5 k6 k7 k8 m8 m9 m10 k9 m11 m12 m13 hv]) (xrS (n := 1) (As := [.int (rg ((3 * kr) + t))]) (rest := [.int 100, .int (nI (j9 + t)), .ref m6]) hd hK hP hD (c_X7_letterOf l D cI cJ cZ cR _ (rg ((3 * kr) + t)) ) (gS t_713 mS_X7_letterOf) hS_X7_letterOf ⟨(Nat.le_of_ble_eq_true rfl), (Nat.le_of_ble_eq_true rfl)⟩ [] rfl rfl rfl hl.1 rfl (Nat.le_of_ble_eq_true rfl) dX7_step_164 ⟨(Nat.le_of_ble_eq_true rfl), (Nat.le_of_ble_eq_true rfl)⟩) hP hD hS hA [] [0, 1, 2, 3, 4, 5] rfl rfl rfl (by decide) (fun r_24 u_25 H locs hw_26 hP hD hS => ?_)
                    have hw_27 : r_24 = (lO (rg ((3 * kr) + t))) := hw_26
                    subst hw_27
                    have hP : va_P D vwCl [kI cI m6 12 gb, kI cI m2 9 ro, kI cI m3 9 re, kI cI m4 9 rn, kI cI m5 27 rg, kX7 m0 (nI z) m1 (nI r9) m2 m3 m4 m5 (nI n9) (nI v) m6 k1 k2 k3 k4 m7 k5 k6 k7 k8 m8 m9 m10 k9 m11 m12 m13 hv] H := hP
                    have hD : va_D A [kI cI m6 12 gb, kI cI m2 9 ro, kI cI m3 9 re, kI cI m4 9 rn, kI cI m5 27 rg, kX7 m0 (nI z) m1 (nI r9) m2 m3 m4 m5 (nI n9) (nI v) m6 k1 k2 k3 k4 m7 k5 k6 k7 k8 m8 m9 m10 k9 m11 m12 m13 hv] := hD
                    refine lv_imul hx hb dX7_step_167 ?_
                    refine lv_bipush (v := 10) hx hb dX7_step_168 (by decide) ?_
                    refine lv_aload_n hx hb dX7_step_170 rfl (lv_at hl 1 rfl) ?_
                    refine lv_iload hx hb dX7_step_171 (lv_at hl 0 rfl) ?_
                    refine xc_i (wc := []) (wr := [kI cI m6 12 gb, kI cI m2 9 ro, kI cI m3 9 re, kI cI m4 9 rn, kI cI m5 27 rg, kX7 m0 (nI z) m1 (nI r9) m2 m3 m4 m5 (nI n9) (nI v) m6 k1 k2 k3 k4 m7 k5 k6 k7 k8 m8 m9 m10 k9 m11 m12 m13 hv]) (xrS (n := 1) (As := [.int (rg ((3 * kr) + t))]) (rest := [.ref m0, .int 10, .int (100 * (lO (rg ((3 * kr) + t)))), .int (nI (j9 + t)), .ref m6]) hd hK hP hD (c_X7_fromOf l D cI cJ cZ cR _ (rg ((3 * kr) + t)) ) (gS t_716 mS_X7_fromOf) hS_X7_fromOf ⟨(Nat.le_of_ble_eq_true rfl), (Nat.le_of_ble_eq_true rfl)⟩ [] rfl rfl rfl hl.1 rfl (Nat.le_of_ble_eq_true rfl) dX7_step_173 ⟨(Nat.le_of_ble_eq_true rfl), (Nat.le_of_ble_eq_true rfl)⟩) hP hD hS hA [] [0, 1, 2, 3, 4, 5] rfl rfl rfl (by decide) (fun r_28 u_29 H locs hw_30 hP hD hS => ?_)
                    have hw_31 : r_28 = (fO (rg ((3 * kr) + t))) := hw_30
                    subst hw_31
                    have hP : va_P D vwCl [kI cI m6 12 gb, kI cI m2 9 ro, kI cI m3 9 re, kI cI m4 9 rn, kI cI m5 27 rg, kX7 m0 (nI z) m1 (nI r9) m2 m3 m4 m5 (nI n9) (nI v) m6 k1 k2 k3 k4 m7 k5 k6 k7 k8 m8 m9 m10 k9 m11 m12 m13 hv] H := hP
                    have hD : va_D A [kI cI m6 12 gb, kI cI m2 9 ro, kI cI m3 9 re, kI cI m4 9 rn, kI cI m5 27 rg, kX7 m0 (nI z) m1 (nI r9) m2 m3 m4 m5 (nI n9) (nI v) m6 k1 k2 k3 k4 m7 k5 k6 k7 k8 m8 m9 m10 k9 m11 m12 m13 hv] := hD
                    refine lv_iload_n hx hb dX7_step_176 rfl (lv_at hl 4 rfl) ?_
                    refine xc_i (wc := [kX7 m0 (nI z) m1 (nI r9) m2 m3 m4 m5 (nI n9) (nI v) m6 k1 k2 k3 k4 m7 k5 k6 k7 k8 m8 m9 m10 k9 m11 m12 m13 hv]) (wr := [kI cI m6 12 gb, kI cI m2 9 ro, kI cI m3 9 re, kI cI m4 9 rn, kI cI m5 27 rg]) (xrV (n := 2) (As := [.int (fO (rg ((3 * kr) + t))), .int (ea j9)]) (rest := [.int 10, .int (100 * (lO (rg ((3 * kr) + t)))), .int (nI (j9 + t)), .ref m6]) (ci := 7) (q0 := 5) hd hK hP hD (c_X7_nodeFor l D cI cJ cZ cR _ m0 m1 m2 m3 m4 m5 m6 m7 m8 m9 m10 m11 m12 m13 z r9 n9 v k1 k2 k3 k4 k5 k6 k7 k8 k9 hv (fO (rg ((3 * kr) + t))) (ea j9) ) (gV t_719 mV_X7_nodeFor) hV_X7_nodeFor ⟨(Nat.le_of_ble_eq_true rfl), (Nat.le_of_ble_eq_true rfl)⟩ rfl rfl [5] rfl rfl rfl hl.1 rfl (Nat.le_of_ble_eq_true rfl) dX7_step_177 ⟨(Nat.le_of_ble_eq_true rfl), (Nat.le_of_ble_eq_true rfl)⟩) hP hD hS hA [5] [0, 1, 2, 3, 4] rfl rfl rfl (by decide) (fun r_32 u_33 H locs hw_34 hP hD hS => ?_)
                    have hw_35 : r_32 = (nF v (fO (rg ((3 * kr) + t))) (ea j9)) := hw_34
                    subst hw_35
                    have hP : va_P D vwCl [kI cI m6 12 gb, kI cI m2 9 ro, kI cI m3 9 re, kI cI m4 9 rn, kI cI m5 27 rg, kX7 m0 (nI z) m1 (nI r9) m2 m3 m4 m5 (nI n9) (nI v) m6 k1 k2 k3 k4 m7 k5 k6 k7 k8 m8 m9 m10 k9 m11 m12 m13 hv] H := hP
                    have hD : va_D A [kI cI m6 12 gb, kI cI m2 9 ro, kI cI m3 9 re, kI cI m4 9 rn, kI cI m5 27 rg, kX7 m0 (nI z) m1 (nI r9) m2 m3 m4 m5 (nI n9) (nI v) m6 k1 k2 k3 k4 m7 k5 k6 k7 k8 m8 m9 m10 k9 m11 m12 m13 hv] := hD
                    refine lv_imul hx hb dX7_step_180 ?_
                    refine lv_iadd hx hb dX7_step_181 ?_
                    refine lv_aload_n hx hb dX7_step_182 rfl (lv_at hl 1 rfl) ?_
                    refine lv_iload hx hb dX7_step_183 (lv_at hl 0 rfl) ?_
                    refine xc_i (wc := []) (wr := [kI cI m6 12 gb, kI cI m2 9 ro, kI cI m3 9 re, kI cI m4 9 rn, kI cI m5 27 rg, kX7 m0 (nI z) m1 (nI r9) m2 m3 m4 m5 (nI n9) (nI v) m6 k1 k2 k3 k4 m7 k5 k6 k7 k8 m8 m9 m10 k9 m11 m12 m13 hv]) (xrS (n := 1) (As := [.int (rg ((3 * kr) + t))]) (rest := [.ref m0, .int ((100 * (lO (rg ((3 * kr) + t)))) + (10 * (nF v (fO (rg ((3 * kr) + t))) (ea j9)))), .int (nI (j9 + t)), .ref m6]) hd hK hP hD (c_X7_toOf l D cI cJ cZ cR _ (rg ((3 * kr) + t)) ) (gS t_723 mS_X7_toOf) hS_X7_toOf ⟨(Nat.le_of_ble_eq_true rfl), (Nat.le_of_ble_eq_true rfl)⟩ [] rfl rfl rfl hl.1 rfl (Nat.le_of_ble_eq_true rfl) dX7_step_185 ⟨(Nat.le_of_ble_eq_true rfl), (Nat.le_of_ble_eq_true rfl)⟩) hP hD hS hA [] [0, 1, 2, 3, 4, 5] rfl rfl rfl (by decide) (fun r_36 u_37 H locs hw_38 hP hD hS => ?_)
                    have hw_39 : r_36 = (tO (rg ((3 * kr) + t))) := hw_38
                    subst hw_39
                    have hP : va_P D vwCl [kI cI m6 12 gb, kI cI m2 9 ro, kI cI m3 9 re, kI cI m4 9 rn, kI cI m5 27 rg, kX7 m0 (nI z) m1 (nI r9) m2 m3 m4 m5 (nI n9) (nI v) m6 k1 k2 k3 k4 m7 k5 k6 k7 k8 m8 m9 m10 k9 m11 m12 m13 hv] H := hP
                    have hD : va_D A [kI cI m6 12 gb, kI cI m2 9 ro, kI cI m3 9 re, kI cI m4 9 rn, kI cI m5 27 rg, kX7 m0 (nI z) m1 (nI r9) m2 m3 m4 m5 (nI n9) (nI v) m6 k1 k2 k3 k4 m7 k5 k6 k7 k8 m8 m9 m10 k9 m11 m12 m13 hv] := hD
                    refine lv_iload_n hx hb dX7_step_188 rfl (lv_at hl 4 rfl) ?_
                    refine xc_i (wc := [kX7 m0 (nI z) m1 (nI r9) m2 m3 m4 m5 (nI n9) (nI v) m6 k1 k2 k3 k4 m7 k5 k6 k7 k8 m8 m9 m10 k9 m11 m12 m13 hv]) (wr := [kI cI m6 12 gb, kI cI m2 9 ro, kI cI m3 9 re, kI cI m4 9 rn, kI cI m5 27 rg]) (xrV (n := 2) (As := [.int (tO (rg ((3 * kr) + t))), .int (ea j9)]) (rest := [.int ((100 * (lO (rg ((3 * kr) + t)))) + (10 * (nF v (fO (rg ((3 * kr) + t))) (ea j9)))), .int (nI (j9 + t)), .ref m6]) (ci := 7) (q0 := 5) hd hK hP hD (c_X7_nodeFor l D cI cJ cZ cR _ m0 m1 m2 m3 m4 m5 m6 m7 m8 m9 m10 m11 m12 m13 z r9 n9 v k1 k2 k3 k4 k5 k6 k7 k8 k9 hv (tO (rg ((3 * kr) + t))) (ea j9) ) (gV t_719 mV_X7_nodeFor) hV_X7_nodeFor ⟨(Nat.le_of_ble_eq_true rfl), (Nat.le_of_ble_eq_true rfl)⟩ rfl rfl [5] rfl rfl rfl hl.1 rfl (Nat.le_of_ble_eq_true rfl) dX7_step_189 ⟨(Nat.le_of_ble_eq_true rfl), (Nat.le_of_ble_eq_true rfl)⟩) hP hD hS hA [5] [0, 1, 2, 3, 4] rfl rfl rfl (by decide) (fun r_40 u_41 H locs hw_42 hP hD hS => ?_)
                    have hw_43 : r_40 = (nF v (tO (rg ((3 * kr) + t))) (ea j9)) := hw_42
                    subst hw_43
                    have hP : va_P D vwCl [kI cI m6 12 gb, kI cI m2 9 ro, kI cI m3 9 re, kI cI m4 9 rn, kI cI m5 27 rg, kX7 m0 (nI z) m1 (nI r9) m2 m3 m4 m5 (nI n9) (nI v) m6 k1 k2 k3 k4 m7 k5 k6 k7 k8 m8 m9 m10 k9 m11 m12 m13 hv] H := hP
                    have hD : va_D A [kI cI m6 12 gb, kI cI m2 9 ro, kI cI m3 9 re, kI cI m4 9 rn, kI cI m5 27 rg, kX7 m0 (nI z) m1 (nI r9) m2 m3 m4 m5 (nI n9) (nI v) m6 k1 k2 k3 k4 m7 k5 k6 k7 k8 m8 m9 m10 k9 m11 m12 m13 hv] := hD
                    refine lv_iadd hx hb dX7_step_192 ?_
                    refine va_iast hx hb hK1 hP hD hS 0 0 rfl rfl (vp_in_nI (by omega) (by omega)) dX7_step_193 (fun H locs hP hD hS => ?_)
                    rw [nI_clamp (n := (j9 + t)) (by omega)] at hP hD
                    have hP : va_P D vwCl [kI cI m6 12 (upd gb (j9 + t) (((100 * (lO (rg ((3 * kr) + t)))) + (10 * (nF v (fO (rg ((3 * kr) + t))) (ea j9)))) + (nF v (tO (rg ((3 * kr) + t))) (ea j9)))), kI cI m2 9 ro, kI cI m3 9 re, kI cI m4 9 rn, kI cI m5 27 rg, kX7 m0 (nI z) m1 (nI r9) m2 m3 m4 m5 (nI n9) (nI v) m6 k1 k2 k3 k4 m7 k5 k6 k7 k8 m8 m9 m10 k9 m11 m12 m13 hv] H := hP
                    have hD : va_D A [kI cI m6 12 (upd gb (j9 + t) (((100 * (lO (rg ((3 * kr) + t)))) + (10 * (nF v (fO (rg ((3 * kr) + t))) (ea j9)))) + (nF v (tO (rg ((3 * kr) + t))) (ea j9)))), kI cI m2 9 ro, kI cI m3 9 re, kI cI m4 9 rn, kI cI m5 27 rg, kX7 m0 (nI z) m1 (nI r9) m2 m3 m4 m5 (nI n9) (nI v) m6 k1 k2 k3 k4 m7 k5 k6 k7 k8 m8 m9 m10 k9 m11 m12 m13 hv] := hD
                    refine lv_iinc (v := nI (t + 1)) (lv' := [(5, .int (nI (t + 1))), (6, .int (rg ((3 * kr) + t))), (0, .ref m0), (1, .int (nI j9)), (2, .int (nI kr)), (3, .int (ea j9)), (4, .int (nI (e9 - 1)))]) hx hb dX7_step_194 hl (k := 6) rfl (nI_1 t) (by decide) rfl (fun ls hl => ?_)
                    refine lv_goto (tgt := 128) hx hb dX7_step_197 (by decide) ?_
                    exact ih_128 (t + 1) (upd gb (j9 + t) (((100 * (lO (rg ((3 * kr) + t)))) + (10 * (nF v (fO (rg ((3 * kr) + t))) (ea j9)))) + (nF v (tO (rg ((3 * kr) + t))) (ea j9)))) (by omega) (RPT_s hgb) _ _ _ (hP.sub [0, 1, 2, 3, 4, 5] rfl) (hD.sub [0, 1, 2, 3, 4, 5] rfl rfl) hS (lv_sub hl [2, 3, 4, 5, 6, 0] rfl)
                exact LOOP_128 e9 0 ga (by omega) (RPT_0 (by rw [show j9 = i by omega]; exact hga)) _ _ _ (hP.sub [0, 1, 2, 3, 4, 5] rfl) (hD.sub [0, 1, 2, 3, 4, 5] rfl rfl) hS (lv_sub hl [1, 2, 3, 4, 5, 0] rfl)
              | succ n ih_96 =>
                intro i ga hi hi9 hga H locs ls hP hD hS hl
                refine lv_iload hx hb dX7_step_96 (lv_at hl 5 rfl) ?_
                refine lv_iload_n hx hb dX7_step_98 rfl (lv_at hl 1 rfl) ?_
                refine lv_icmp_le (tgt := 125) hx hb dX7_step_99 (by decide) (fun c_44 => ?_) (fun c_44 => ?_)
                · exact absurd c_44 (nI_ge (a := j9) (b := i) (by omega) (by omega))
                refine lv_aload_n hx hb dX7_step_102 rfl (lv_at hl 0 rfl) ?_
                refine va_get (D := D) (ci := 7) (v := .ref m6) (C := RX7) (T := TX7) (N := 27) hx hb hts iT_X7 hown hK1 hP 5 rfl rfl 9 (by decide) (hts _ t_560) (fun _ h9 => h9) rfl dX7_step_103 ?_
                refine lv_iload hx hb dX7_step_106 (lv_at hl 5 rfl) ?_
                refine lv_iload hx hb dX7_step_108 (lv_at hl 4 rfl) ?_
                refine lv_iadd hx hb dX7_step_110 ?_
                refine lv_nmi (show _ = (nI (i + (e9 - 1))) from nI_add (i) ((e9 - 1))) ?_
                refine lv_aload_n hx hb dX7_step_111 rfl (lv_at hl 0 rfl) ?_
                refine va_get (D := D) (ci := 7) (v := .ref m6) (C := RX7) (T := TX7) (N := 27) hx hb hts iT_X7 hown hK1 hP 5 rfl rfl 9 (by decide) (hts _ t_560) (fun _ h9 => h9) rfl dX7_step_112 ?_
                refine lv_iload hx hb dX7_step_115 (lv_at hl 5 rfl) ?_
                refine va_iald hx hb hK1 hP 0 0 rfl rfl (vp_in_nI (by omega) (by omega)) dX7_step_117 ?_
                refine lv_nmi (show _ = ga i from by rw [nI_clamp (n := i) (by omega)]) ?_
                refine va_iast hx hb hK1 hP hD hS 0 0 rfl rfl (vp_in_nI (by omega) (by omega)) dX7_step_118 (fun H locs hP hD hS => ?_)
                rw [nI_clamp (n := (i + (e9 - 1))) (by omega)] at hP hD
                have hP : va_P D vwCl [kI cI m6 12 (upd ga (i + (e9 - 1)) (ga i)), kI cI m2 9 ro, kI cI m3 9 re, kI cI m4 9 rn, kI cI m5 27 rg, kX7 m0 (nI z) m1 (nI r9) m2 m3 m4 m5 (nI n9) (nI v) m6 k1 k2 k3 k4 m7 k5 k6 k7 k8 m8 m9 m10 k9 m11 m12 m13 hv] H := hP
                have hD : va_D A [kI cI m6 12 (upd ga (i + (e9 - 1)) (ga i)), kI cI m2 9 ro, kI cI m3 9 re, kI cI m4 9 rn, kI cI m5 27 rg, kX7 m0 (nI z) m1 (nI r9) m2 m3 m4 m5 (nI n9) (nI v) m6 k1 k2 k3 k4 m7 k5 k6 k7 k8 m8 m9 m10 k9 m11 m12 m13 hv] := hD
                refine lv_iinc (v := nI (i - 1)) (lv' := [(5, .int (nI (i - 1))), (0, .ref m0), (1, .int (nI j9)), (2, .int (nI kr)), (3, .int (ea j9)), (4, .int (nI (e9 - 1)))]) hx hb dX7_step_119 hl (k := 5) rfl (dec1 (by omega)) (by decide) rfl (fun ls hl => ?_)
                refine lv_goto (tgt := 96) hx hb dX7_step_122 (by decide) ?_
                exact ih_96 (i - 1) (upd ga (i + (e9 - 1)) (ga i)) (by omega) (by omega) (SHR_s hga (by omega) (by omega)) _ _ _ (hP.sub [0, 1, 2, 3, 4, 5] rfl) (hD.sub [0, 1, 2, 3, 4, 5] rfl rfl) hS (lv_sub hl [1, 2, 3, 4, 5, 0] rfl)
            exact LOOP_96 (n9 - 1 - j9) (n9 - 1) ea (by omega) (by omega) SHR_0 _ _ _ (hP.sub [0, 1, 2, 3, 4, 5] rfl) (hD.sub [0, 1, 2, 3, 4, 5] rfl rfl) hS (lv_sub hl [3, 4, 5, 2, 1, 0] rfl)
          · skip
            refine lv_sipush (v := -1004) hx hb dX7_step_84 (by decide) ?_
            exact hret _ _ _ _ _ _ (-1004) (k1, k2, k8, k9, n9, v, ea) dX7_step_87 rfl hS (Nat.le_of_ble_eq_true rfl) (Nat.le_of_ble_eq_true rfl) ⟨⟨hf1, hf2, hf3⟩, Or.inr ⟨j9, kr, hj9, hk9, ej9, ek9, Or.inr ⟨c_15, e9, w9, he1, he3, hw4, ee9, ew9, Or.inl ⟨Or.inr (by have := nleN (a := v + w9 - 2) (b := 9) (by omega) (by omega) c_17; omega), rfl, rfl, rfl, rfl, rfl, rfl⟩⟩⟩, Or.inr ⟨rfl, rfl, rfl, rfl⟩⟩ (hP.sub [5, 0, 1, 2, 3, 4] rfl) (hD.sub [5, 0, 1, 2, 3, 4] rfl rfl)
      · skip
        refine lv_sipush (v := -1003) hx hb dX7_step_40 (by decide) ?_
        exact hret _ _ _ _ _ _ (-1003) (k1, k2, k8, k9, n9, v, ea) dX7_step_43 rfl hS (Nat.le_of_ble_eq_true rfl) (Nat.le_of_ble_eq_true rfl) ⟨⟨hf1, hf2, hf3⟩, Or.inr ⟨j9, kr, hj9, hk9, ej9, ek9, Or.inl ⟨c_15, rfl, rfl, rfl, rfl, rfl, rfl⟩⟩, Or.inr ⟨rfl, rfl, rfl, rfl⟩⟩ (hP.sub [5, 0, 1, 2, 3, 4] rfl) (hD.sub [5, 0, 1, 2, 3, 4] rfl rfl)
    · skip
      refine lv_sipush (v := -1001) hx hb dX7_step_16 (by decide) ?_
      exact hret _ _ _ _ _ _ (-1001) (k1, k2, k8, k9, n9, v, ea) dX7_step_19 rfl hS (Nat.le_of_ble_eq_true rfl) (Nat.le_of_ble_eq_true rfl) ⟨hf, Or.inl ⟨Or.inr c_10, rfl, rfl, rfl, rfl, rfl, rfl⟩, Or.inr ⟨rfl, rfl, rfl, rfl⟩⟩ (hP.sub [5, 0, 1, 2, 3, 4] rfl) (hD.sub [5, 0, 1, 2, 3, 4] rfl rfl)
set_option maxHeartbeats 4000000 in
set_option maxRecDepth 100000 in
theorem c_X7_edge (sz : Nat) (m0 : Nat) (m1 : Nat) (m2 : Nat) (m3 : Nat) (m4 : Nat) (m5 : Nat) (m6 : Nat) (m7 : Nat) (m8 : Nat) (m9 : Nat) (m10 : Nat) (m11 : Nat) (m12 : Nat) (m13 : Nat) (z : Nat) (r9 : Nat) (n9 : Nat) (v : Nat) (k1 : Int32) (k2 : Int32) (k3 : Int32) (k4 : Int32) (k5 : Int32) (k6 : Int32) (k7 : Int32) (k8 : Int32) (k9 : Int32) (hv : Int64) (ea : Nat → Int32) (p0 : Int32) (hf : FgI n9 v) : CTi l D cI cJ cZ cR yX7_edge cX7_edge 2 (some .int) 2 43 0 0 sz [.ref m0, .int p0] [kX7 m0 (nI z) m1 (nI r9) m2 m3 m4 m5 (nI n9) (nI v) m6 k1 k2 k3 k4 m7 k5 k6 k7 k8 m8 m9 m10 k9 m11 m12 m13 hv, kI cI m6 12 ea] (fun (r : Int32) (u : Unit) => ((wi p0 0 (nI n9 - 1) = 0 ∧ r = -1001) ∨ ∃ j, j < n9 ∧ p0 = nI j ∧ r = ea j)) (fun (u : Unit) => [kX7 m0 (nI z) m1 (nI r9) m2 m3 m4 m5 (nI n9) (nI v) m6 k1 k2 k3 k4 m7 k5 k6 k7 k8 m8 m9 m10 k9 m11 m12 m13 hv, kI cI m6 12 ea]) := by
  refine CTi.of (ty := .int) (by decide) (Nat.le_of_ble_eq_true rfl) rfl ?_
  intro p e s m below meth c A Q ls hd hin hK hsz hP hD hA hS hl hret
  obtain ⟨hx, hb, hml, hown, hts⟩ := id hd
  have hK1 := hK.1
  have hown : s.vm.findClass RX7 = some m.cls := hown
  have hl : lv_has ls 2 [(0, .ref m0), (1, .int p0)] := hl
  refine lv_aload_n hx hb dX7_edge_0 rfl (lv_at hl 0 rfl) ?_
  refine lv_iload_n hx hb dX7_edge_1 rfl (lv_at hl 1 rfl) ?_
  refine xc_i (wc := [kX7 m0 (nI z) m1 (nI r9) m2 m3 m4 m5 (nI n9) (nI v) m6 k1 k2 k3 k4 m7 k5 k6 k7 k8 m8 m9 m10 k9 m11 m12 m13 hv]) (wr := [kI cI m6 12 ea]) (xrV (n := 1) (As := [.int p0]) (rest := []) (ci := 7) (q0 := 0) hd hK hP hD (c_X7_isEdge l D cI cJ cZ cR _ m0 m1 m2 m3 m4 m5 m6 m7 m8 m9 m10 m11 m12 m13 z r9 n9 v k1 k2 k3 k4 k5 k6 k7 k8 k9 hv p0 ) (gV t_709 mV_X7_isEdge) hV_X7_isEdge ⟨(Nat.le_of_ble_eq_true rfl), (Nat.le_of_ble_eq_true rfl)⟩ rfl rfl [0] rfl rfl rfl hl.1 rfl (Nat.le_of_ble_eq_true rfl) dX7_edge_2 ⟨(Nat.le_of_ble_eq_true rfl), (Nat.le_of_ble_eq_true rfl)⟩) hP hD hS hA [0] [1] rfl rfl rfl (by decide) (fun r_1 u_2 H locs hw_3 hP hD hS => ?_)
  have hw_4 : r_1 = (wi p0 0 (nI n9 - 1)) := hw_3
  subst hw_4
  have hP : va_P D vwCl [kI cI m6 12 ea, kX7 m0 (nI z) m1 (nI r9) m2 m3 m4 m5 (nI n9) (nI v) m6 k1 k2 k3 k4 m7 k5 k6 k7 k8 m8 m9 m10 k9 m11 m12 m13 hv] H := hP
  have hD : va_D A [kI cI m6 12 ea, kX7 m0 (nI z) m1 (nI r9) m2 m3 m4 m5 (nI n9) (nI v) m6 k1 k2 k3 k4 m7 k5 k6 k7 k8 m8 m9 m10 k9 m11 m12 m13 hv] := hD
  refine lv_if_eq (tgt := 17) hx hb dX7_edge_5 (by decide) (fun c_5 => ?_) (fun c_5 => ?_)
  · skip
    refine lv_sipush (v := -1001) hx hb dX7_edge_17 (by decide) ?_
    exact hret _ _ _ _ _ _ (-1001) () dX7_edge_20 rfl hS (Nat.le_of_ble_eq_true rfl) (Nat.le_of_ble_eq_true rfl) (Or.inl ⟨c_5, rfl⟩) (hP.sub [1, 0] rfl) (hD.sub [1, 0] rfl rfl)
  · skip
    obtain ⟨j9, hj9, ej9⟩ := wi_ix (by have := hf.1; omega) c_5
    refine lv_aload_n hx hb dX7_edge_8 rfl (lv_at hl 0 rfl) ?_
    refine va_get (D := D) (ci := 7) (v := .ref m6) (C := RX7) (T := TX7) (N := 27) hx hb hts iT_X7 hown hK1 hP 1 rfl rfl 9 (by decide) (hts _ t_560) (fun _ h9 => h9) rfl dX7_edge_9 ?_
    refine lv_iload_n hx hb dX7_edge_12 rfl (lv_at hl 1 rfl) ?_
    refine lv_nmi (show _ = (nI j9 : Int32) from ej9) ?_
    refine va_iald hx hb hK1 hP 0 0 rfl rfl (vp_in_nI (by have := hf.1; omega) (by decide)) dX7_edge_13 ?_
    refine lv_nmi (show _ = ea j9 from by rw [nI_clamp (n := j9) (by have := hf.1; omega)]) ?_
    refine lv_goto (tgt := 20) hx hb dX7_edge_14 (by decide) ?_
    exact hret _ _ _ _ _ _ (ea j9) () dX7_edge_20 rfl hS (Nat.le_of_ble_eq_true rfl) (Nat.le_of_ble_eq_true rfl) (Or.inr ⟨j9, hj9, ej9, rfl⟩) (hP.sub [1, 0] rfl) (hD.sub [1, 0] rfl rfl)
set_option maxHeartbeats 4000000 in
set_option maxRecDepth 100000 in
theorem c_X7_opens (sz : Nat) (m0 : Nat) (m1 : Nat) (m2 : Nat) (m3 : Nat) (m4 : Nat) (m5 : Nat) (m6 : Nat) (m7 : Nat) (m8 : Nat) (m9 : Nat) (m10 : Nat) (m11 : Nat) (m12 : Nat) (m13 : Nat) (z : Nat) (r9 : Nat) (n9 : Nat) (v : Nat) (k1 : Int32) (k2 : Int32) (k3 : Int32) (k4 : Int32) (k5 : Int32) (k6 : Int32) (k7 : Int32) (k8 : Int32) (k9 : Int32) (hv : Int64) (ea : Nat → Int32) (hf : FgI n9 v) : CTi l D cI cJ cZ cR yX7_opens cX7_opens 3 (some .int) 1 20 0 0 sz [.ref m0] [kX7 m0 (nI z) m1 (nI r9) m2 m3 m4 m5 (nI n9) (nI v) m6 k1 k2 k3 k4 m7 k5 k6 k7 k8 m8 m9 m10 k9 m11 m12 m13 hv, kI cI m6 12 ea] (fun (r : Int32) (u : Unit) => (r = (mop ea n9))) (fun (u : Unit) => [kX7 m0 (nI z) m1 (nI r9) m2 m3 m4 m5 (nI n9) (nI v) m6 k1 k2 k3 k4 m7 k5 k6 k7 k8 m8 m9 m10 k9 m11 m12 m13 hv, kI cI m6 12 ea]) := by
  refine CTi.of (ty := .int) (by decide) (Nat.le_of_ble_eq_true rfl) rfl ?_
  intro p e s m below meth c A Q ls hd hin hK hsz hP hD hA hS hl hret
  obtain ⟨hx, hb, hml, hown, hts⟩ := id hd
  have hK1 := hK.1
  have hown : s.vm.findClass RX7 = some m.cls := hown
  have hl : lv_has ls 3 [(0, .ref m0)] := hl
  have hf1 := hf.1
  refine lv_iconst (v := 0) hx hb dX7_opens_0 (by decide) ?_
  refine lv_istore_n (lv' := [(1, .int 0), (0, .ref m0)]) hx hb dX7_opens_1 rfl hl (by decide) rfl (fun ls hl => ?_)
  refine lv_iconst (v := 0) hx hb dX7_opens_2 (by decide) ?_
  refine lv_istore_n (lv' := [(2, .int 0), (1, .int 0), (0, .ref m0)]) hx hb dX7_opens_3 rfl hl (by decide) rfl (fun ls hl => ?_)
  have LOOP_4 : ∀ (n : Nat) (i : Nat), (i + n = n9) → ∀ (H : Heap) (locs : List Loc) (ls : Array Slot), va_P D vwCl [kX7 m0 (nI z) m1 (nI r9) m2 m3 m4 m5 (nI n9) (nI v) m6 k1 k2 k3 k4 m7 k5 k6 k7 k8 m8 m9 m10 k9 m11 m12 m13 hv, kI cI m6 12 ea] H → va_D A [kX7 m0 (nI z) m1 (nI r9) m2 m3 m4 m5 (nI n9) (nI v) m6 k1 k2 k3 k4 m7 k5 k6 k7 k8 m8 m9 m10 k9 m11 m12 m13 hv, kI cI m6 12 ea] → va_S A s.heap H locs → lv_has ls 3 [(0, .ref m0), (1, .int (mop ea i)), (2, .int (nI i))] → W p l e (rM 1 0 0 20) s m ([.ref m0] : List Value).toArray below meth c H locs 0 0 Q (F0 m 4 ls []) := by
    intro n
    induction n with
    | zero =>
      intro i hi H locs ls hP hD hS hl
      refine lv_iload_n hx hb dX7_opens_4 rfl (lv_at hl 2 rfl) ?_
      refine lv_aload_n hx hb dX7_opens_5 rfl (lv_at hl 0 rfl) ?_
      refine va_get (D := D) (ci := 7) (v := .int (nI n9)) (C := RX7) (T := TX7) (N := 27) hx hb hts iT_X7 hown hK1 hP 0 rfl rfl 7 (by decide) (hts _ t_558) (fun _ h9 => h9) rfl dX7_opens_6 ?_
      refine lv_icmp_ge (tgt := 39) hx hb dX7_opens_9 (by decide) (fun c_1 => ?_) (fun c_1 => ?_)
      rotate_left
      · exact absurd (nI_le (a := n9) (b := i) (by omega) (by omega)) c_1
      refine lv_iload_n hx hb dX7_opens_39 rfl (lv_at hl 1 rfl) ?_
      exact hret _ _ _ _ _ _ (mop ea i) () dX7_opens_40 rfl hS (Nat.le_of_ble_eq_true rfl) (Nat.le_of_ble_eq_true rfl) (by rw [show i = n9 by omega]) (hP.sub [0, 1] rfl) (hD.sub [0, 1] rfl rfl)
    | succ n ih_4 =>
      intro i hi H locs ls hP hD hS hl
      refine lv_iload_n hx hb dX7_opens_4 rfl (lv_at hl 2 rfl) ?_
      refine lv_aload_n hx hb dX7_opens_5 rfl (lv_at hl 0 rfl) ?_
      refine va_get (D := D) (ci := 7) (v := .int (nI n9)) (C := RX7) (T := TX7) (N := 27) hx hb hts iT_X7 hown hK1 hP 0 rfl rfl 7 (by decide) (hts _ t_558) (fun _ h9 => h9) rfl dX7_opens_6 ?_
      refine lv_icmp_ge (tgt := 39) hx hb dX7_opens_9 (by decide) (fun c_2 => ?_) (fun c_2 => ?_)
      · exact absurd c_2 (nI_ge (a := i) (b := n9) (by omega) (by omega))
      refine lv_iload_n hx hb dX7_opens_12 rfl (lv_at hl 1 rfl) ?_
      refine lv_aload_n hx hb dX7_opens_13 rfl (lv_at hl 0 rfl) ?_
      refine va_get (D := D) (ci := 7) (v := .ref m6) (C := RX7) (T := TX7) (N := 27) hx hb hts iT_X7 hown hK1 hP 0 rfl rfl 9 (by decide) (hts _ t_560) (fun _ h9 => h9) rfl dX7_opens_14 ?_
      refine lv_iload_n hx hb dX7_opens_17 rfl (lv_at hl 2 rfl) ?_
      refine va_iald hx hb hK1 hP 1 0 rfl rfl (vp_in_nI (by omega) (by omega)) dX7_opens_18 ?_
      refine lv_nmi (show _ = ea i from by rw [nI_clamp (n := i) (by omega)]) ?_
      refine xc_i (wc := []) (wr := [kX7 m0 (nI z) m1 (nI r9) m2 m3 m4 m5 (nI n9) (nI v) m6 k1 k2 k3 k4 m7 k5 k6 k7 k8 m8 m9 m10 k9 m11 m12 m13 hv, kI cI m6 12 ea]) (xrS (n := 1) (As := [.int (ea i)]) (rest := [.int (mop ea i)]) hd hK hP hD (c_X7_letterOf l D cI cJ cZ cR _ (ea i) ) (gS t_713 mS_X7_letterOf) hS_X7_letterOf ⟨(Nat.le_of_ble_eq_true rfl), (Nat.le_of_ble_eq_true rfl)⟩ [] rfl rfl rfl hl.1 rfl (Nat.le_of_ble_eq_true rfl) dX7_opens_19 ⟨(Nat.le_of_ble_eq_true rfl), (Nat.le_of_ble_eq_true rfl)⟩) hP hD hS hA [] [0, 1] rfl rfl rfl (by decide) (fun r_3 u_4 H locs hw_5 hP hD hS => ?_)
      have hw_6 : r_3 = (lO (ea i)) := hw_5
      subst hw_6
      have hP : va_P D vwCl [kX7 m0 (nI z) m1 (nI r9) m2 m3 m4 m5 (nI n9) (nI v) m6 k1 k2 k3 k4 m7 k5 k6 k7 k8 m8 m9 m10 k9 m11 m12 m13 hv, kI cI m6 12 ea] H := hP
      have hD : va_D A [kX7 m0 (nI z) m1 (nI r9) m2 m3 m4 m5 (nI n9) (nI v) m6 k1 k2 k3 k4 m7 k5 k6 k7 k8 m8 m9 m10 k9 m11 m12 m13 hv, kI cI m6 12 ea] := hD
      refine lv_iconst (v := 3) hx hb dX7_opens_22 (by decide) ?_
      refine lv_icmp_ge (tgt := 30) hx hb dX7_opens_23 (by decide) (fun c_7 => ?_) (fun c_7 => ?_)
      · skip
        refine lv_iconst (v := 0) hx hb dX7_opens_30 (by decide) ?_
        refine lv_iadd hx hb dX7_opens_31 ?_
        refine lv_istore_n (lv' := [(1, .int ((mop ea i) + 0)), (0, .ref m0), (2, .int (nI i))]) hx hb dX7_opens_32 rfl hl (by decide) rfl (fun ls hl => ?_)
        refine lv_iinc (v := nI (i + 1)) (lv' := [(2, .int (nI (i + 1))), (1, .int ((mop ea i) + 0)), (0, .ref m0)]) hx hb dX7_opens_33 hl (k := 2) rfl (nI_1 i) (by decide) rfl (fun ls hl => ?_)
        refine lv_goto (tgt := 4) hx hb dX7_opens_36 (by decide) ?_
        exact ih_4 (i + 1) (by omega) _ _ _ (hP.sub [0, 1] rfl) (hD.sub [0, 1] rfl rfl) hS (lv_sub hl [2, 1, 0] (by rw [mop_b c_7]; rfl))
      · skip
        refine lv_iconst (v := 1) hx hb dX7_opens_26 (by decide) ?_
        refine lv_goto (tgt := 31) hx hb dX7_opens_27 (by decide) ?_
        refine lv_iadd hx hb dX7_opens_31 ?_
        refine lv_istore_n (lv' := [(1, .int ((mop ea i) + 1)), (0, .ref m0), (2, .int (nI i))]) hx hb dX7_opens_32 rfl hl (by decide) rfl (fun ls hl => ?_)
        refine lv_iinc (v := nI (i + 1)) (lv' := [(2, .int (nI (i + 1))), (1, .int ((mop ea i) + 1)), (0, .ref m0)]) hx hb dX7_opens_33 hl (k := 2) rfl (nI_1 i) (by decide) rfl (fun ls hl => ?_)
        refine lv_goto (tgt := 4) hx hb dX7_opens_36 (by decide) ?_
        exact ih_4 (i + 1) (by omega) _ _ _ (hP.sub [0, 1] rfl) (hD.sub [0, 1] rfl rfl) hS (lv_sub hl [2, 1, 0] (by rw [mop_a c_7]; rfl))
  exact LOOP_4 n9 0 (by omega) _ _ _ (hP.sub [0, 1] rfl) (hD.sub [0, 1] rfl rfl) hS (lv_sub hl [2, 1, 0] rfl)
set_option maxHeartbeats 4000000 in
set_option maxRecDepth 100000 in
theorem c_X7_leadsTo (sz : Nat) (m0 : Nat) (m1 : Nat) (m2 : Nat) (m3 : Nat) (m4 : Nat) (m5 : Nat) (m6 : Nat) (m7 : Nat) (m8 : Nat) (m9 : Nat) (m10 : Nat) (m11 : Nat) (m12 : Nat) (m13 : Nat) (z : Nat) (r9 : Nat) (n9 : Nat) (v : Nat) (k1 : Int32) (k2 : Int32) (k3 : Int32) (k4 : Int32) (k5 : Int32) (k6 : Int32) (k7 : Int32) (k8 : Int32) (k9 : Int32) (hv : Int64) (ea : Nat → Int32) (p0 : Int32) (p1 : Int32) (hf : FgI n9 v) : CTi l D cI cJ cZ cR yX7_leadsTo cX7_leadsTo 7 (some .boolean) 1 21 0 0 sz [.ref m0, .int p0, .int p1] [kX7 m0 (nI z) m1 (nI r9) m2 m3 m4 m5 (nI n9) (nI v) m6 k1 k2 k3 k4 m7 k5 k6 k7 k8 m8 m9 m10 k9 m11 m12 m13 hv, kI cI m6 12 ea] (fun (r : Int32) (u : Unit) => (r = (hR (mdR ea n9 v ((1 : Int32) <<< (p0 &&& 31))) p1))) (fun (u : Unit) => [kX7 m0 (nI z) m1 (nI r9) m2 m3 m4 m5 (nI n9) (nI v) m6 k1 k2 k3 k4 m7 k5 k6 k7 k8 m8 m9 m10 k9 m11 m12 m13 hv, kI cI m6 12 ea]) := by
  refine CTi.of (ty := .boolean) (by decide) (Nat.le_of_ble_eq_true rfl) rfl ?_
  intro p e s m below meth c A Q ls hd hin hK hsz hP hD hA hS hl hret
  obtain ⟨hx, hb, hml, hown, hts⟩ := id hd
  have hK1 := hK.1
  have hown : s.vm.findClass RX7 = some m.cls := hown
  have hl : lv_has ls 7 [(0, .ref m0), (1, .int p0), (2, .int p1)] := hl
  have hf1 := hf.1
  have hf2 := hf.2.1
  refine lv_iconst (v := 1) hx hb dX7_leadsTo_0 (by decide) ?_
  refine lv_iload_n hx hb dX7_leadsTo_1 rfl (lv_at hl 1 rfl) ?_
  refine lv_ishl hx hb dX7_leadsTo_2 ?_
  refine lv_istore_n (lv' := [(3, .int ((1 : Int32) <<< (p0 &&& 31))), (0, .ref m0), (1, .int p0), (2, .int p1)]) hx hb dX7_leadsTo_3 rfl hl (by decide) rfl (fun ls hl => ?_)
  refine lv_iconst (v := 0) hx hb dX7_leadsTo_4 (by decide) ?_
  refine lv_istore (lv' := [(4, .int 0), (3, .int ((1 : Int32) <<< (p0 &&& 31))), (0, .ref m0), (1, .int p0), (2, .int p1)]) hx hb dX7_leadsTo_5 hl (by decide) rfl (fun ls hl => ?_)
  have LOOP_7 : ∀ (n : Nat) (q : Nat) (me : Int32), (q + n = v) → (me = mdR ea n9 q ((1 : Int32) <<< (p0 &&& 31))) → ∀ (H : Heap) (locs : List Loc) (ls : Array Slot), va_P D vwCl [kX7 m0 (nI z) m1 (nI r9) m2 m3 m4 m5 (nI n9) (nI v) m6 k1 k2 k3 k4 m7 k5 k6 k7 k8 m8 m9 m10 k9 m11 m12 m13 hv, kI cI m6 12 ea] H → va_D A [kX7 m0 (nI z) m1 (nI r9) m2 m3 m4 m5 (nI n9) (nI v) m6 k1 k2 k3 k4 m7 k5 k6 k7 k8 m8 m9 m10 k9 m11 m12 m13 hv, kI cI m6 12 ea] → va_S A s.heap H locs → lv_has ls 7 [(0, .ref m0), (1, .int p0), (2, .int p1), (3, .int me), (4, .int (nI q))] → W p l e (rM 1 0 0 21) s m ([.ref m0, .int p0, .int p1] : List Value).toArray below meth c H locs 0 0 Q (F0 m 7 ls []) := by
    intro n
    induction n with
    | zero =>
      intro q me hq hme H locs ls hP hD hS hl
      refine lv_iload hx hb dX7_leadsTo_7 (lv_at hl 4 rfl) ?_
      refine lv_aload_n hx hb dX7_leadsTo_9 rfl (lv_at hl 0 rfl) ?_
      refine va_get (D := D) (ci := 7) (v := .int (nI v)) (C := RX7) (T := TX7) (N := 27) hx hb hts iT_X7 hown hK1 hP 0 rfl rfl 8 (by decide) (hts _ t_559) (fun _ h9 => h9) rfl dX7_leadsTo_10 ?_
      refine lv_icmp_ge (tgt := 110) hx hb dX7_leadsTo_13 (by decide) (fun c_1 => ?_) (fun c_1 => ?_)
      rotate_left
      · exact absurd (nI_le (a := v) (b := q) (by omega) (by omega)) c_1
      refine lv_iload_n hx hb dX7_leadsTo_110 rfl (lv_at hl 3 rfl) ?_
      refine lv_iload_n hx hb dX7_leadsTo_111 rfl (lv_at hl 2 rfl) ?_
      refine xc_i (wc := []) (wr := [kX7 m0 (nI z) m1 (nI r9) m2 m3 m4 m5 (nI n9) (nI v) m6 k1 k2 k3 k4 m7 k5 k6 k7 k8 m8 m9 m10 k9 m11 m12 m13 hv, kI cI m6 12 ea]) (xrS (n := 2) (As := [.int me, .int p1]) (rest := []) hd hK hP hD (c_X7_has l D cI cJ cZ cR _ me p1 ) (gS t_671 mS_X7_has) hS_X7_has ⟨(Nat.le_of_ble_eq_true rfl), (Nat.le_of_ble_eq_true rfl)⟩ [] rfl rfl rfl hl.1 rfl (Nat.le_of_ble_eq_true rfl) dX7_leadsTo_112 ⟨(Nat.le_of_ble_eq_true rfl), (Nat.le_of_ble_eq_true rfl)⟩) hP hD hS hA [] [0, 1] rfl rfl rfl (by decide) (fun r_2 u_3 H locs hw_4 hP hD hS => ?_)
      have hw_5 : r_2 = (hR me p1) := hw_4
      subst hw_5
      have hP : va_P D vwCl [kX7 m0 (nI z) m1 (nI r9) m2 m3 m4 m5 (nI n9) (nI v) m6 k1 k2 k3 k4 m7 k5 k6 k7 k8 m8 m9 m10 k9 m11 m12 m13 hv, kI cI m6 12 ea] H := hP
      have hD : va_D A [kX7 m0 (nI z) m1 (nI r9) m2 m3 m4 m5 (nI n9) (nI v) m6 k1 k2 k3 k4 m7 k5 k6 k7 k8 m8 m9 m10 k9 m11 m12 m13 hv, kI cI m6 12 ea] := hD
      exact hret _ _ _ _ _ _ (hR me p1) () dX7_leadsTo_115 (nar_01 (hR_01 _ _)) hS (Nat.le_of_ble_eq_true rfl) (Nat.le_of_ble_eq_true rfl) (by rw [show v = q by omega, ← hme]) (hP.sub [0, 1] rfl) (hD.sub [0, 1] rfl rfl)
    | succ n ih_7 =>
      intro q me hq hme H locs ls hP hD hS hl
      refine lv_iload hx hb dX7_leadsTo_7 (lv_at hl 4 rfl) ?_
      refine lv_aload_n hx hb dX7_leadsTo_9 rfl (lv_at hl 0 rfl) ?_
      refine va_get (D := D) (ci := 7) (v := .int (nI v)) (C := RX7) (T := TX7) (N := 27) hx hb hts iT_X7 hown hK1 hP 0 rfl rfl 8 (by decide) (hts _ t_559) (fun _ h9 => h9) rfl dX7_leadsTo_10 ?_
      refine lv_icmp_ge (tgt := 110) hx hb dX7_leadsTo_13 (by decide) (fun c_6 => ?_) (fun c_6 => ?_)
      · exact absurd c_6 (nI_ge (a := q) (b := v) (by omega) (by omega))
      refine lv_iconst (v := 0) hx hb dX7_leadsTo_16 (by decide) ?_
      refine lv_istore (lv' := [(5, .int 0), (0, .ref m0), (1, .int p0), (2, .int p1), (3, .int me), (4, .int (nI q))]) hx hb dX7_leadsTo_17 hl (by decide) rfl (fun ls hl => ?_)
      have LOOP_19 : ∀ (n : Nat) (i : Nat) (mf : Int32), (i + n = n9) → (mf = mdN ea i me) → ∀ (H : Heap) (locs : List Loc) (ls : Array Slot), va_P D vwCl [kX7 m0 (nI z) m1 (nI r9) m2 m3 m4 m5 (nI n9) (nI v) m6 k1 k2 k3 k4 m7 k5 k6 k7 k8 m8 m9 m10 k9 m11 m12 m13 hv, kI cI m6 12 ea] H → va_D A [kX7 m0 (nI z) m1 (nI r9) m2 m3 m4 m5 (nI n9) (nI v) m6 k1 k2 k3 k4 m7 k5 k6 k7 k8 m8 m9 m10 k9 m11 m12 m13 hv, kI cI m6 12 ea] → va_S A s.heap H locs → lv_has ls 7 [(0, .ref m0), (1, .int p0), (2, .int p1), (3, .int mf), (4, .int (nI q)), (5, .int (nI i))] → W p l e (rM 1 0 0 21) s m ([.ref m0, .int p0, .int p1] : List Value).toArray below meth c H locs 0 0 Q (F0 m 19 ls []) := by
        intro n
        induction n with
        | zero =>
          intro i mf hi hmf H locs ls hP hD hS hl
          refine lv_iload hx hb dX7_leadsTo_19 (lv_at hl 5 rfl) ?_
          refine lv_aload_n hx hb dX7_leadsTo_21 rfl (lv_at hl 0 rfl) ?_
          refine va_get (D := D) (ci := 7) (v := .int (nI n9)) (C := RX7) (T := TX7) (N := 27) hx hb hts iT_X7 hown hK1 hP 0 rfl rfl 7 (by decide) (hts _ t_558) (fun _ h9 => h9) rfl dX7_leadsTo_22 ?_
          refine lv_icmp_ge (tgt := 104) hx hb dX7_leadsTo_25 (by decide) (fun c_7 => ?_) (fun c_7 => ?_)
          rotate_left
          · exact absurd (nI_le (a := n9) (b := i) (by omega) (by omega)) c_7
          refine lv_iinc (v := nI (q + 1)) (lv' := [(4, .int (nI (q + 1))), (0, .ref m0), (1, .int p0), (2, .int p1), (3, .int mf), (5, .int (nI i))]) hx hb dX7_leadsTo_104 hl (k := 4) rfl (nI_1 q) (by decide) rfl (fun ls hl => ?_)
          refine lv_goto (tgt := 7) hx hb dX7_leadsTo_107 (by decide) ?_
          exact ih_7 (q + 1) mf (by omega) (by rw [mdR, ← hme, hmf, show i = n9 by omega]) _ _ _ (hP.sub [0, 1] rfl) (hD.sub [0, 1] rfl rfl) hS (lv_sub hl [1, 2, 3, 4, 0] rfl)
        | succ n ih_19 =>
          intro i mf hi hmf H locs ls hP hD hS hl
          refine lv_iload hx hb dX7_leadsTo_19 (lv_at hl 5 rfl) ?_
          refine lv_aload_n hx hb dX7_leadsTo_21 rfl (lv_at hl 0 rfl) ?_
          refine va_get (D := D) (ci := 7) (v := .int (nI n9)) (C := RX7) (T := TX7) (N := 27) hx hb hts iT_X7 hown hK1 hP 0 rfl rfl 7 (by decide) (hts _ t_558) (fun _ h9 => h9) rfl dX7_leadsTo_22 ?_
          refine lv_icmp_ge (tgt := 104) hx hb dX7_leadsTo_25 (by decide) (fun c_8 => ?_) (fun c_8 => ?_)
          · exact absurd c_8 (nI_ge (a := i) (b := n9) (by omega) (by omega))
          refine lv_aload_n hx hb dX7_leadsTo_28 rfl (lv_at hl 0 rfl) ?_
          refine va_get (D := D) (ci := 7) (v := .ref m6) (C := RX7) (T := TX7) (N := 27) hx hb hts iT_X7 hown hK1 hP 0 rfl rfl 9 (by decide) (hts _ t_560) (fun _ h9 => h9) rfl dX7_leadsTo_29 ?_
          refine lv_iload hx hb dX7_leadsTo_32 (lv_at hl 5 rfl) ?_
          refine va_iald hx hb hK1 hP 1 0 rfl rfl (vp_in_nI (by omega) (by omega)) dX7_leadsTo_34 ?_
          refine lv_nmi (show _ = ea i from by rw [nI_clamp (n := i) (by omega)]) ?_
          refine lv_istore (lv' := [(6, .int (ea i)), (0, .ref m0), (1, .int p0), (2, .int p1), (3, .int mf), (4, .int (nI q)), (5, .int (nI i))]) hx hb dX7_leadsTo_35 hl (by decide) rfl (fun ls hl => ?_)
          refine lv_iload_n hx hb dX7_leadsTo_37 rfl (lv_at hl 4 rfl) ?_
          refine lv_iload_n hx hb dX7_leadsTo_38 rfl (lv_at hl 4 rfl) ?_
          refine lv_iload hx hb dX7_leadsTo_39 (lv_at hl 0 rfl) ?_
          refine xc_i (wc := []) (wr := [kX7 m0 (nI z) m1 (nI r9) m2 m3 m4 m5 (nI n9) (nI v) m6 k1 k2 k3 k4 m7 k5 k6 k7 k8 m8 m9 m10 k9 m11 m12 m13 hv, kI cI m6 12 ea]) (xrS (n := 1) (As := [.int (ea i)]) (rest := [.int mf, .int mf]) hd hK hP hD (c_X7_fromOf l D cI cJ cZ cR _ (ea i) ) (gS t_716 mS_X7_fromOf) hS_X7_fromOf ⟨(Nat.le_of_ble_eq_true rfl), (Nat.le_of_ble_eq_true rfl)⟩ [] rfl rfl rfl hl.1 rfl (Nat.le_of_ble_eq_true rfl) dX7_leadsTo_41 ⟨(Nat.le_of_ble_eq_true rfl), (Nat.le_of_ble_eq_true rfl)⟩) hP hD hS hA [] [0, 1] rfl rfl rfl (by decide) (fun r_9 u_10 H locs hw_11 hP hD hS => ?_)
          have hw_12 : r_9 = (fO (ea i)) := hw_11
          subst hw_12
          have hP : va_P D vwCl [kX7 m0 (nI z) m1 (nI r9) m2 m3 m4 m5 (nI n9) (nI v) m6 k1 k2 k3 k4 m7 k5 k6 k7 k8 m8 m9 m10 k9 m11 m12 m13 hv, kI cI m6 12 ea] H := hP
          have hD : va_D A [kX7 m0 (nI z) m1 (nI r9) m2 m3 m4 m5 (nI n9) (nI v) m6 k1 k2 k3 k4 m7 k5 k6 k7 k8 m8 m9 m10 k9 m11 m12 m13 hv, kI cI m6 12 ea] := hD
          refine xc_i (wc := []) (wr := [kX7 m0 (nI z) m1 (nI r9) m2 m3 m4 m5 (nI n9) (nI v) m6 k1 k2 k3 k4 m7 k5 k6 k7 k8 m8 m9 m10 k9 m11 m12 m13 hv, kI cI m6 12 ea]) (xrS (n := 2) (As := [.int mf, .int (fO (ea i))]) (rest := [.int mf]) hd hK hP hD (c_X7_has l D cI cJ cZ cR _ mf (fO (ea i)) ) (gS t_671 mS_X7_has) hS_X7_has ⟨(Nat.le_of_ble_eq_true rfl), (Nat.le_of_ble_eq_true rfl)⟩ [] rfl rfl rfl hl.1 rfl (Nat.le_of_ble_eq_true rfl) dX7_leadsTo_44 ⟨(Nat.le_of_ble_eq_true rfl), (Nat.le_of_ble_eq_true rfl)⟩) hP hD hS hA [] [0, 1] rfl rfl rfl (by decide) (fun r_13 u_14 H locs hw_15 hP hD hS => ?_)
          have hw_16 : r_13 = (hR mf (fO (ea i))) := hw_15
          subst hw_16
          have hP : va_P D vwCl [kX7 m0 (nI z) m1 (nI r9) m2 m3 m4 m5 (nI n9) (nI v) m6 k1 k2 k3 k4 m7 k5 k6 k7 k8 m8 m9 m10 k9 m11 m12 m13 hv, kI cI m6 12 ea] H := hP
          have hD : va_D A [kX7 m0 (nI z) m1 (nI r9) m2 m3 m4 m5 (nI n9) (nI v) m6 k1 k2 k3 k4 m7 k5 k6 k7 k8 m8 m9 m10 k9 m11 m12 m13 hv, kI cI m6 12 ea] := hD
          refine lv_if_eq (tgt := 60) hx hb dX7_leadsTo_47 (by decide) (fun c_17 => ?_) (fun c_17 => ?_)
          · skip
            refine lv_iconst (v := 0) hx hb dX7_leadsTo_60 (by decide) ?_
            refine lv_ior hx hb dX7_leadsTo_61 ?_
            refine lv_istore_n (lv' := [(3, .int (mf ||| 0)), (6, .int (ea i)), (0, .ref m0), (1, .int p0), (2, .int p1), (4, .int (nI q)), (5, .int (nI i))]) hx hb dX7_leadsTo_62 rfl hl (by decide) rfl (fun ls hl => ?_)
            refine lv_iload_n hx hb dX7_leadsTo_63 rfl (lv_at hl 0 rfl) ?_
            refine lv_iload_n hx hb dX7_leadsTo_64 rfl (lv_at hl 0 rfl) ?_
            refine lv_iload hx hb dX7_leadsTo_65 (lv_at hl 1 rfl) ?_
            refine xc_i (wc := []) (wr := [kX7 m0 (nI z) m1 (nI r9) m2 m3 m4 m5 (nI n9) (nI v) m6 k1 k2 k3 k4 m7 k5 k6 k7 k8 m8 m9 m10 k9 m11 m12 m13 hv, kI cI m6 12 ea]) (xrS (n := 1) (As := [.int (ea i)]) (rest := [.int (mf ||| 0), .int (mf ||| 0)]) hd hK hP hD (c_X7_toOf l D cI cJ cZ cR _ (ea i) ) (gS t_723 mS_X7_toOf) hS_X7_toOf ⟨(Nat.le_of_ble_eq_true rfl), (Nat.le_of_ble_eq_true rfl)⟩ [] rfl rfl rfl hl.1 rfl (Nat.le_of_ble_eq_true rfl) dX7_leadsTo_67 ⟨(Nat.le_of_ble_eq_true rfl), (Nat.le_of_ble_eq_true rfl)⟩) hP hD hS hA [] [0, 1] rfl rfl rfl (by decide) (fun r_18 u_19 H locs hw_20 hP hD hS => ?_)
            have hw_21 : r_18 = (tO (ea i)) := hw_20
            subst hw_21
            have hP : va_P D vwCl [kX7 m0 (nI z) m1 (nI r9) m2 m3 m4 m5 (nI n9) (nI v) m6 k1 k2 k3 k4 m7 k5 k6 k7 k8 m8 m9 m10 k9 m11 m12 m13 hv, kI cI m6 12 ea] H := hP
            have hD : va_D A [kX7 m0 (nI z) m1 (nI r9) m2 m3 m4 m5 (nI n9) (nI v) m6 k1 k2 k3 k4 m7 k5 k6 k7 k8 m8 m9 m10 k9 m11 m12 m13 hv, kI cI m6 12 ea] := hD
            refine xc_i (wc := []) (wr := [kX7 m0 (nI z) m1 (nI r9) m2 m3 m4 m5 (nI n9) (nI v) m6 k1 k2 k3 k4 m7 k5 k6 k7 k8 m8 m9 m10 k9 m11 m12 m13 hv, kI cI m6 12 ea]) (xrS (n := 2) (As := [.int (mf ||| 0), .int (tO (ea i))]) (rest := [.int (mf ||| 0)]) hd hK hP hD (c_X7_has l D cI cJ cZ cR _ (mf ||| 0) (tO (ea i)) ) (gS t_671 mS_X7_has) hS_X7_has ⟨(Nat.le_of_ble_eq_true rfl), (Nat.le_of_ble_eq_true rfl)⟩ [] rfl rfl rfl hl.1 rfl (Nat.le_of_ble_eq_true rfl) dX7_leadsTo_70 ⟨(Nat.le_of_ble_eq_true rfl), (Nat.le_of_ble_eq_true rfl)⟩) hP hD hS hA [] [0, 1] rfl rfl rfl (by decide) (fun r_22 u_23 H locs hw_24 hP hD hS => ?_)
            have hw_25 : r_22 = (hR (mf ||| 0) (tO (ea i))) := hw_24
            subst hw_25
            have hP : va_P D vwCl [kX7 m0 (nI z) m1 (nI r9) m2 m3 m4 m5 (nI n9) (nI v) m6 k1 k2 k3 k4 m7 k5 k6 k7 k8 m8 m9 m10 k9 m11 m12 m13 hv, kI cI m6 12 ea] H := hP
            have hD : va_D A [kX7 m0 (nI z) m1 (nI r9) m2 m3 m4 m5 (nI n9) (nI v) m6 k1 k2 k3 k4 m7 k5 k6 k7 k8 m8 m9 m10 k9 m11 m12 m13 hv, kI cI m6 12 ea] := hD
            refine lv_if_eq (tgt := 95) hx hb dX7_leadsTo_73 (by decide) (fun c_26 => ?_) (fun c_26 => ?_)
            · skip
              refine lv_iconst (v := 0) hx hb dX7_leadsTo_95 (by decide) ?_
              refine lv_ior hx hb dX7_leadsTo_96 ?_
              refine lv_istore_n (lv' := [(3, .int ((mf ||| 0) ||| 0)), (6, .int (ea i)), (0, .ref m0), (1, .int p0), (2, .int p1), (4, .int (nI q)), (5, .int (nI i))]) hx hb dX7_leadsTo_97 rfl hl (by decide) rfl (fun ls hl => ?_)
              refine lv_iinc (v := nI (i + 1)) (lv' := [(5, .int (nI (i + 1))), (3, .int ((mf ||| 0) ||| 0)), (6, .int (ea i)), (0, .ref m0), (1, .int p0), (2, .int p1), (4, .int (nI q))]) hx hb dX7_leadsTo_98 hl (k := 6) rfl (nI_1 i) (by decide) rfl (fun ls hl => ?_)
              refine lv_goto (tgt := 19) hx hb dX7_leadsTo_101 (by decide) ?_
              exact ih_19 (i + 1) ((mf ||| 0) ||| 0) (by omega) (by rw [mdN, ← hmf, md, md1_a c_17, md2_a c_26]) _ _ _ (hP.sub [0, 1] rfl) (hD.sub [0, 1] rfl rfl) hS (lv_sub hl [3, 4, 5, 1, 6, 0] rfl)
            · skip
              refine lv_iload hx hb dX7_leadsTo_76 (lv_at hl 1 rfl) ?_
              refine xc_i (wc := []) (wr := [kX7 m0 (nI z) m1 (nI r9) m2 m3 m4 m5 (nI n9) (nI v) m6 k1 k2 k3 k4 m7 k5 k6 k7 k8 m8 m9 m10 k9 m11 m12 m13 hv, kI cI m6 12 ea]) (xrS (n := 1) (As := [.int (ea i)]) (rest := [.int (mf ||| 0)]) hd hK hP hD (c_X7_letterOf l D cI cJ cZ cR _ (ea i) ) (gS t_713 mS_X7_letterOf) hS_X7_letterOf ⟨(Nat.le_of_ble_eq_true rfl), (Nat.le_of_ble_eq_true rfl)⟩ [] rfl rfl rfl hl.1 rfl (Nat.le_of_ble_eq_true rfl) dX7_leadsTo_78 ⟨(Nat.le_of_ble_eq_true rfl), (Nat.le_of_ble_eq_true rfl)⟩) hP hD hS hA [] [0, 1] rfl rfl rfl (by decide) (fun r_27 u_28 H locs hw_29 hP hD hS => ?_)
              have hw_30 : r_27 = (lO (ea i)) := hw_29
              subst hw_30
              have hP : va_P D vwCl [kX7 m0 (nI z) m1 (nI r9) m2 m3 m4 m5 (nI n9) (nI v) m6 k1 k2 k3 k4 m7 k5 k6 k7 k8 m8 m9 m10 k9 m11 m12 m13 hv, kI cI m6 12 ea] H := hP
              have hD : va_D A [kX7 m0 (nI z) m1 (nI r9) m2 m3 m4 m5 (nI n9) (nI v) m6 k1 k2 k3 k4 m7 k5 k6 k7 k8 m8 m9 m10 k9 m11 m12 m13 hv, kI cI m6 12 ea] := hD
              refine lv_iconst (v := 4) hx hb dX7_leadsTo_81 (by decide) ?_
              refine lv_icmp_ne (tgt := 95) hx hb dX7_leadsTo_82 (by decide) (fun c_31 => ?_) (fun c_31 => ?_)
              · skip
                refine lv_iconst (v := 0) hx hb dX7_leadsTo_95 (by decide) ?_
                refine lv_ior hx hb dX7_leadsTo_96 ?_
                refine lv_istore_n (lv' := [(3, .int ((mf ||| 0) ||| 0)), (6, .int (ea i)), (0, .ref m0), (1, .int p0), (2, .int p1), (4, .int (nI q)), (5, .int (nI i))]) hx hb dX7_leadsTo_97 rfl hl (by decide) rfl (fun ls hl => ?_)
                refine lv_iinc (v := nI (i + 1)) (lv' := [(5, .int (nI (i + 1))), (3, .int ((mf ||| 0) ||| 0)), (6, .int (ea i)), (0, .ref m0), (1, .int p0), (2, .int p1), (4, .int (nI q))]) hx hb dX7_leadsTo_98 hl (k := 6) rfl (nI_1 i) (by decide) rfl (fun ls hl => ?_)
                refine lv_goto (tgt := 19) hx hb dX7_leadsTo_101 (by decide) ?_
                exact ih_19 (i + 1) ((mf ||| 0) ||| 0) (by omega) (by rw [mdN, ← hmf, md, md1_a c_17, md2_b c_26 c_31]) _ _ _ (hP.sub [0, 1] rfl) (hD.sub [0, 1] rfl rfl) hS (lv_sub hl [3, 4, 5, 1, 6, 0] rfl)
              · skip
                refine lv_iconst (v := 1) hx hb dX7_leadsTo_85 (by decide) ?_
                refine lv_iload hx hb dX7_leadsTo_86 (lv_at hl 1 rfl) ?_
                refine xc_i (wc := []) (wr := [kX7 m0 (nI z) m1 (nI r9) m2 m3 m4 m5 (nI n9) (nI v) m6 k1 k2 k3 k4 m7 k5 k6 k7 k8 m8 m9 m10 k9 m11 m12 m13 hv, kI cI m6 12 ea]) (xrS (n := 1) (As := [.int (ea i)]) (rest := [.int 1, .int (mf ||| 0)]) hd hK hP hD (c_X7_fromOf l D cI cJ cZ cR _ (ea i) ) (gS t_716 mS_X7_fromOf) hS_X7_fromOf ⟨(Nat.le_of_ble_eq_true rfl), (Nat.le_of_ble_eq_true rfl)⟩ [] rfl rfl rfl hl.1 rfl (Nat.le_of_ble_eq_true rfl) dX7_leadsTo_88 ⟨(Nat.le_of_ble_eq_true rfl), (Nat.le_of_ble_eq_true rfl)⟩) hP hD hS hA [] [0, 1] rfl rfl rfl (by decide) (fun r_32 u_33 H locs hw_34 hP hD hS => ?_)
                have hw_35 : r_32 = (fO (ea i)) := hw_34
                subst hw_35
                have hP : va_P D vwCl [kX7 m0 (nI z) m1 (nI r9) m2 m3 m4 m5 (nI n9) (nI v) m6 k1 k2 k3 k4 m7 k5 k6 k7 k8 m8 m9 m10 k9 m11 m12 m13 hv, kI cI m6 12 ea] H := hP
                have hD : va_D A [kX7 m0 (nI z) m1 (nI r9) m2 m3 m4 m5 (nI n9) (nI v) m6 k1 k2 k3 k4 m7 k5 k6 k7 k8 m8 m9 m10 k9 m11 m12 m13 hv, kI cI m6 12 ea] := hD
                refine lv_ishl hx hb dX7_leadsTo_91 ?_
                refine lv_goto (tgt := 96) hx hb dX7_leadsTo_92 (by decide) ?_
                refine lv_ior hx hb dX7_leadsTo_96 ?_
                refine lv_istore_n (lv' := [(3, .int ((mf ||| 0) ||| ((1 : Int32) <<< ((fO (ea i)) &&& 31)))), (6, .int (ea i)), (0, .ref m0), (1, .int p0), (2, .int p1), (4, .int (nI q)), (5, .int (nI i))]) hx hb dX7_leadsTo_97 rfl hl (by decide) rfl (fun ls hl => ?_)
                refine lv_iinc (v := nI (i + 1)) (lv' := [(5, .int (nI (i + 1))), (3, .int ((mf ||| 0) ||| ((1 : Int32) <<< ((fO (ea i)) &&& 31)))), (6, .int (ea i)), (0, .ref m0), (1, .int p0), (2, .int p1), (4, .int (nI q))]) hx hb dX7_leadsTo_98 hl (k := 6) rfl (nI_1 i) (by decide) rfl (fun ls hl => ?_)
                refine lv_goto (tgt := 19) hx hb dX7_leadsTo_101 (by decide) ?_
                exact ih_19 (i + 1) ((mf ||| 0) ||| ((1 : Int32) <<< ((fO (ea i)) &&& 31))) (by omega) (by rw [mdN, ← hmf, md, md1_a c_17, md2_c c_26 c_31]) _ _ _ (hP.sub [0, 1] rfl) (hD.sub [0, 1] rfl rfl) hS (lv_sub hl [3, 4, 5, 1, 6, 0] rfl)
          · skip
            refine lv_iconst (v := 1) hx hb dX7_leadsTo_50 (by decide) ?_
            refine lv_iload hx hb dX7_leadsTo_51 (lv_at hl 0 rfl) ?_
            refine xc_i (wc := []) (wr := [kX7 m0 (nI z) m1 (nI r9) m2 m3 m4 m5 (nI n9) (nI v) m6 k1 k2 k3 k4 m7 k5 k6 k7 k8 m8 m9 m10 k9 m11 m12 m13 hv, kI cI m6 12 ea]) (xrS (n := 1) (As := [.int (ea i)]) (rest := [.int 1, .int mf]) hd hK hP hD (c_X7_toOf l D cI cJ cZ cR _ (ea i) ) (gS t_723 mS_X7_toOf) hS_X7_toOf ⟨(Nat.le_of_ble_eq_true rfl), (Nat.le_of_ble_eq_true rfl)⟩ [] rfl rfl rfl hl.1 rfl (Nat.le_of_ble_eq_true rfl) dX7_leadsTo_53 ⟨(Nat.le_of_ble_eq_true rfl), (Nat.le_of_ble_eq_true rfl)⟩) hP hD hS hA [] [0, 1] rfl rfl rfl (by decide) (fun r_36 u_37 H locs hw_38 hP hD hS => ?_)
            have hw_39 : r_36 = (tO (ea i)) := hw_38
            subst hw_39
            have hP : va_P D vwCl [kX7 m0 (nI z) m1 (nI r9) m2 m3 m4 m5 (nI n9) (nI v) m6 k1 k2 k3 k4 m7 k5 k6 k7 k8 m8 m9 m10 k9 m11 m12 m13 hv, kI cI m6 12 ea] H := hP
            have hD : va_D A [kX7 m0 (nI z) m1 (nI r9) m2 m3 m4 m5 (nI n9) (nI v) m6 k1 k2 k3 k4 m7 k5 k6 k7 k8 m8 m9 m10 k9 m11 m12 m13 hv, kI cI m6 12 ea] := hD
            refine lv_ishl hx hb dX7_leadsTo_56 ?_
            refine lv_goto (tgt := 61) hx hb dX7_leadsTo_57 (by decide) ?_
            refine lv_ior hx hb dX7_leadsTo_61 ?_
            refine lv_istore_n (lv' := [(3, .int (mf ||| ((1 : Int32) <<< ((tO (ea i)) &&& 31)))), (6, .int (ea i)), (0, .ref m0), (1, .int p0), (2, .int p1), (4, .int (nI q)), (5, .int (nI i))]) hx hb dX7_leadsTo_62 rfl hl (by decide) rfl (fun ls hl => ?_)
            refine lv_iload_n hx hb dX7_leadsTo_63 rfl (lv_at hl 0 rfl) ?_
            refine lv_iload_n hx hb dX7_leadsTo_64 rfl (lv_at hl 0 rfl) ?_
            refine lv_iload hx hb dX7_leadsTo_65 (lv_at hl 1 rfl) ?_
            refine xc_i (wc := []) (wr := [kX7 m0 (nI z) m1 (nI r9) m2 m3 m4 m5 (nI n9) (nI v) m6 k1 k2 k3 k4 m7 k5 k6 k7 k8 m8 m9 m10 k9 m11 m12 m13 hv, kI cI m6 12 ea]) (xrS (n := 1) (As := [.int (ea i)]) (rest := [.int (mf ||| ((1 : Int32) <<< ((tO (ea i)) &&& 31))), .int (mf ||| ((1 : Int32) <<< ((tO (ea i)) &&& 31)))]) hd hK hP hD (c_X7_toOf l D cI cJ cZ cR _ (ea i) ) (gS t_723 mS_X7_toOf) hS_X7_toOf ⟨(Nat.le_of_ble_eq_true rfl), (Nat.le_of_ble_eq_true rfl)⟩ [] rfl rfl rfl hl.1 rfl (Nat.le_of_ble_eq_true rfl) dX7_leadsTo_67 ⟨(Nat.le_of_ble_eq_true rfl), (Nat.le_of_ble_eq_true rfl)⟩) hP hD hS hA [] [0, 1] rfl rfl rfl (by decide) (fun r_40 u_41 H locs hw_42 hP hD hS => ?_)
            have hw_43 : r_40 = (tO (ea i)) := hw_42
            subst hw_43
            have hP : va_P D vwCl [kX7 m0 (nI z) m1 (nI r9) m2 m3 m4 m5 (nI n9) (nI v) m6 k1 k2 k3 k4 m7 k5 k6 k7 k8 m8 m9 m10 k9 m11 m12 m13 hv, kI cI m6 12 ea] H := hP
            have hD : va_D A [kX7 m0 (nI z) m1 (nI r9) m2 m3 m4 m5 (nI n9) (nI v) m6 k1 k2 k3 k4 m7 k5 k6 k7 k8 m8 m9 m10 k9 m11 m12 m13 hv, kI cI m6 12 ea] := hD
            refine xc_i (wc := []) (wr := [kX7 m0 (nI z) m1 (nI r9) m2 m3 m4 m5 (nI n9) (nI v) m6 k1 k2 k3 k4 m7 k5 k6 k7 k8 m8 m9 m10 k9 m11 m12 m13 hv, kI cI m6 12 ea]) (xrS (n := 2) (As := [.int (mf ||| ((1 : Int32) <<< ((tO (ea i)) &&& 31))), .int (tO (ea i))]) (rest := [.int (mf ||| ((1 : Int32) <<< ((tO (ea i)) &&& 31)))]) hd hK hP hD (c_X7_has l D cI cJ cZ cR _ (mf ||| ((1 : Int32) <<< ((tO (ea i)) &&& 31))) (tO (ea i)) ) (gS t_671 mS_X7_has) hS_X7_has ⟨(Nat.le_of_ble_eq_true rfl), (Nat.le_of_ble_eq_true rfl)⟩ [] rfl rfl rfl hl.1 rfl (Nat.le_of_ble_eq_true rfl) dX7_leadsTo_70 ⟨(Nat.le_of_ble_eq_true rfl), (Nat.le_of_ble_eq_true rfl)⟩) hP hD hS hA [] [0, 1] rfl rfl rfl (by decide) (fun r_44 u_45 H locs hw_46 hP hD hS => ?_)
            have hw_47 : r_44 = (hR (mf ||| ((1 : Int32) <<< ((tO (ea i)) &&& 31))) (tO (ea i))) := hw_46
            subst hw_47
            have hP : va_P D vwCl [kX7 m0 (nI z) m1 (nI r9) m2 m3 m4 m5 (nI n9) (nI v) m6 k1 k2 k3 k4 m7 k5 k6 k7 k8 m8 m9 m10 k9 m11 m12 m13 hv, kI cI m6 12 ea] H := hP
            have hD : va_D A [kX7 m0 (nI z) m1 (nI r9) m2 m3 m4 m5 (nI n9) (nI v) m6 k1 k2 k3 k4 m7 k5 k6 k7 k8 m8 m9 m10 k9 m11 m12 m13 hv, kI cI m6 12 ea] := hD
            refine lv_if_eq (tgt := 95) hx hb dX7_leadsTo_73 (by decide) (fun c_48 => ?_) (fun c_48 => ?_)
            · skip
              refine lv_iconst (v := 0) hx hb dX7_leadsTo_95 (by decide) ?_
              refine lv_ior hx hb dX7_leadsTo_96 ?_
              refine lv_istore_n (lv' := [(3, .int ((mf ||| ((1 : Int32) <<< ((tO (ea i)) &&& 31))) ||| 0)), (6, .int (ea i)), (0, .ref m0), (1, .int p0), (2, .int p1), (4, .int (nI q)), (5, .int (nI i))]) hx hb dX7_leadsTo_97 rfl hl (by decide) rfl (fun ls hl => ?_)
              refine lv_iinc (v := nI (i + 1)) (lv' := [(5, .int (nI (i + 1))), (3, .int ((mf ||| ((1 : Int32) <<< ((tO (ea i)) &&& 31))) ||| 0)), (6, .int (ea i)), (0, .ref m0), (1, .int p0), (2, .int p1), (4, .int (nI q))]) hx hb dX7_leadsTo_98 hl (k := 6) rfl (nI_1 i) (by decide) rfl (fun ls hl => ?_)
              refine lv_goto (tgt := 19) hx hb dX7_leadsTo_101 (by decide) ?_
              exact ih_19 (i + 1) ((mf ||| ((1 : Int32) <<< ((tO (ea i)) &&& 31))) ||| 0) (by omega) (by rw [mdN, ← hmf, md, md1_b c_17, md2_a c_48]) _ _ _ (hP.sub [0, 1] rfl) (hD.sub [0, 1] rfl rfl) hS (lv_sub hl [3, 4, 5, 1, 6, 0] rfl)
            · skip
              refine lv_iload hx hb dX7_leadsTo_76 (lv_at hl 1 rfl) ?_
              refine xc_i (wc := []) (wr := [kX7 m0 (nI z) m1 (nI r9) m2 m3 m4 m5 (nI n9) (nI v) m6 k1 k2 k3 k4 m7 k5 k6 k7 k8 m8 m9 m10 k9 m11 m12 m13 hv, kI cI m6 12 ea]) (xrS (n := 1) (As := [.int (ea i)]) (rest := [.int (mf ||| ((1 : Int32) <<< ((tO (ea i)) &&& 31)))]) hd hK hP hD (c_X7_letterOf l D cI cJ cZ cR _ (ea i) ) (gS t_713 mS_X7_letterOf) hS_X7_letterOf ⟨(Nat.le_of_ble_eq_true rfl), (Nat.le_of_ble_eq_true rfl)⟩ [] rfl rfl rfl hl.1 rfl (Nat.le_of_ble_eq_true rfl) dX7_leadsTo_78 ⟨(Nat.le_of_ble_eq_true rfl), (Nat.le_of_ble_eq_true rfl)⟩) hP hD hS hA [] [0, 1] rfl rfl rfl (by decide) (fun r_49 u_50 H locs hw_51 hP hD hS => ?_)
              have hw_52 : r_49 = (lO (ea i)) := hw_51
              subst hw_52
              have hP : va_P D vwCl [kX7 m0 (nI z) m1 (nI r9) m2 m3 m4 m5 (nI n9) (nI v) m6 k1 k2 k3 k4 m7 k5 k6 k7 k8 m8 m9 m10 k9 m11 m12 m13 hv, kI cI m6 12 ea] H := hP
              have hD : va_D A [kX7 m0 (nI z) m1 (nI r9) m2 m3 m4 m5 (nI n9) (nI v) m6 k1 k2 k3 k4 m7 k5 k6 k7 k8 m8 m9 m10 k9 m11 m12 m13 hv, kI cI m6 12 ea] := hD
              refine lv_iconst (v := 4) hx hb dX7_leadsTo_81 (by decide) ?_
              refine lv_icmp_ne (tgt := 95) hx hb dX7_leadsTo_82 (by decide) (fun c_53 => ?_) (fun c_53 => ?_)
              · skip
                refine lv_iconst (v := 0) hx hb dX7_leadsTo_95 (by decide) ?_
                refine lv_ior hx hb dX7_leadsTo_96 ?_
                refine lv_istore_n (lv' := [(3, .int ((mf ||| ((1 : Int32) <<< ((tO (ea i)) &&& 31))) ||| 0)), (6, .int (ea i)), (0, .ref m0), (1, .int p0), (2, .int p1), (4, .int (nI q)), (5, .int (nI i))]) hx hb dX7_leadsTo_97 rfl hl (by decide) rfl (fun ls hl => ?_)
                refine lv_iinc (v := nI (i + 1)) (lv' := [(5, .int (nI (i + 1))), (3, .int ((mf ||| ((1 : Int32) <<< ((tO (ea i)) &&& 31))) ||| 0)), (6, .int (ea i)), (0, .ref m0), (1, .int p0), (2, .int p1), (4, .int (nI q))]) hx hb dX7_leadsTo_98 hl (k := 6) rfl (nI_1 i) (by decide) rfl (fun ls hl => ?_)
                refine lv_goto (tgt := 19) hx hb dX7_leadsTo_101 (by decide) ?_
                exact ih_19 (i + 1) ((mf ||| ((1 : Int32) <<< ((tO (ea i)) &&& 31))) ||| 0) (by omega) (by rw [mdN, ← hmf, md, md1_b c_17, md2_b c_48 c_53]) _ _ _ (hP.sub [0, 1] rfl) (hD.sub [0, 1] rfl rfl) hS (lv_sub hl [3, 4, 5, 1, 6, 0] rfl)
              · skip
                refine lv_iconst (v := 1) hx hb dX7_leadsTo_85 (by decide) ?_
                refine lv_iload hx hb dX7_leadsTo_86 (lv_at hl 1 rfl) ?_
                refine xc_i (wc := []) (wr := [kX7 m0 (nI z) m1 (nI r9) m2 m3 m4 m5 (nI n9) (nI v) m6 k1 k2 k3 k4 m7 k5 k6 k7 k8 m8 m9 m10 k9 m11 m12 m13 hv, kI cI m6 12 ea]) (xrS (n := 1) (As := [.int (ea i)]) (rest := [.int 1, .int (mf ||| ((1 : Int32) <<< ((tO (ea i)) &&& 31)))]) hd hK hP hD (c_X7_fromOf l D cI cJ cZ cR _ (ea i) ) (gS t_716 mS_X7_fromOf) hS_X7_fromOf ⟨(Nat.le_of_ble_eq_true rfl), (Nat.le_of_ble_eq_true rfl)⟩ [] rfl rfl rfl hl.1 rfl (Nat.le_of_ble_eq_true rfl) dX7_leadsTo_88 ⟨(Nat.le_of_ble_eq_true rfl), (Nat.le_of_ble_eq_true rfl)⟩) hP hD hS hA [] [0, 1] rfl rfl rfl (by decide) (fun r_54 u_55 H locs hw_56 hP hD hS => ?_)
                have hw_57 : r_54 = (fO (ea i)) := hw_56
                subst hw_57
                have hP : va_P D vwCl [kX7 m0 (nI z) m1 (nI r9) m2 m3 m4 m5 (nI n9) (nI v) m6 k1 k2 k3 k4 m7 k5 k6 k7 k8 m8 m9 m10 k9 m11 m12 m13 hv, kI cI m6 12 ea] H := hP
                have hD : va_D A [kX7 m0 (nI z) m1 (nI r9) m2 m3 m4 m5 (nI n9) (nI v) m6 k1 k2 k3 k4 m7 k5 k6 k7 k8 m8 m9 m10 k9 m11 m12 m13 hv, kI cI m6 12 ea] := hD
                refine lv_ishl hx hb dX7_leadsTo_91 ?_
                refine lv_goto (tgt := 96) hx hb dX7_leadsTo_92 (by decide) ?_
                refine lv_ior hx hb dX7_leadsTo_96 ?_
                refine lv_istore_n (lv' := [(3, .int ((mf ||| ((1 : Int32) <<< ((tO (ea i)) &&& 31))) ||| ((1 : Int32) <<< ((fO (ea i)) &&& 31)))), (6, .int (ea i)), (0, .ref m0), (1, .int p0), (2, .int p1), (4, .int (nI q)), (5, .int (nI i))]) hx hb dX7_leadsTo_97 rfl hl (by decide) rfl (fun ls hl => ?_)
                refine lv_iinc (v := nI (i + 1)) (lv' := [(5, .int (nI (i + 1))), (3, .int ((mf ||| ((1 : Int32) <<< ((tO (ea i)) &&& 31))) ||| ((1 : Int32) <<< ((fO (ea i)) &&& 31)))), (6, .int (ea i)), (0, .ref m0), (1, .int p0), (2, .int p1), (4, .int (nI q))]) hx hb dX7_leadsTo_98 hl (k := 6) rfl (nI_1 i) (by decide) rfl (fun ls hl => ?_)
                refine lv_goto (tgt := 19) hx hb dX7_leadsTo_101 (by decide) ?_
                exact ih_19 (i + 1) ((mf ||| ((1 : Int32) <<< ((tO (ea i)) &&& 31))) ||| ((1 : Int32) <<< ((fO (ea i)) &&& 31))) (by omega) (by rw [mdN, ← hmf, md, md1_b c_17, md2_c c_48 c_53]) _ _ _ (hP.sub [0, 1] rfl) (hD.sub [0, 1] rfl rfl) hS (lv_sub hl [3, 4, 5, 1, 6, 0] rfl)
      exact LOOP_19 n9 0 me (by omega) rfl _ _ _ (hP.sub [0, 1] rfl) (hD.sub [0, 1] rfl rfl) hS (lv_sub hl [1, 2, 3, 4, 5, 0] rfl)
  exact LOOP_7 v 0 ((1 : Int32) <<< (p0 &&& 31)) (by omega) rfl _ _ _ (hP.sub [0, 1] rfl) (hD.sub [0, 1] rfl rfl) hS (lv_sub hl [2, 3, 4, 1, 0] rfl)
set_option maxHeartbeats 4000000 in
set_option maxRecDepth 100000 in
theorem c_X7_coloured (sz : Nat) (m0 : Nat) (m1 : Nat) (m2 : Nat) (m3 : Nat) (m4 : Nat) (m5 : Nat) (m6 : Nat) (m7 : Nat) (m8 : Nat) (m9 : Nat) (m10 : Nat) (m11 : Nat) (m12 : Nat) (m13 : Nat) (z : Nat) (r9 : Nat) (n9 : Nat) (v : Nat) (k1 : Int32) (k2 : Int32) (k3 : Int32) (k4 : Int32) (k5 : Int32) (k6 : Int32) (k7 : Int32) (k8 : Int32) (k9 : Int32) (hv : Int64) (ea : Nat → Int32) (hf : FgI n9 v) : CTi l D cI cJ cZ cR yX7_coloured cX7_coloured 6 (some .int) 1 21 0 0 sz [.ref m0] [kX7 m0 (nI z) m1 (nI r9) m2 m3 m4 m5 (nI n9) (nI v) m6 k1 k2 k3 k4 m7 k5 k6 k7 k8 m8 m9 m10 k9 m11 m12 m13 hv, kI cI m6 12 ea] (fun (r : Int32) (u : Unit) => (MCq ea n9 (2 ^ v) r)) (fun (u : Unit) => [kX7 m0 (nI z) m1 (nI r9) m2 m3 m4 m5 (nI n9) (nI v) m6 k1 k2 k3 k4 m7 k5 k6 k7 k8 m8 m9 m10 k9 m11 m12 m13 hv, kI cI m6 12 ea]) := by
  refine CTi.of (ty := .int) (by decide) (Nat.le_of_ble_eq_true rfl) rfl ?_
  intro p e s m below meth c A Q ls hd hin hK hsz hP hD hA hS hl hret
  obtain ⟨hx, hb, hml, hown, hts⟩ := id hd
  have hK1 := hK.1
  have hown : s.vm.findClass RX7 = some m.cls := hown
  have hl : lv_has ls 6 [(0, .ref m0)] := hl
  have hf1 := hf.1
  have hf2 := hf.2.1
  have h5v := pow_le9 hf2
  refine lv_iconst (v := 0) hx hb dX7_coloured_0 (by decide) ?_
  refine lv_istore_n (lv' := [(1, .int 0), (0, .ref m0)]) hx hb dX7_coloured_1 rfl hl (by decide) rfl (fun ls hl => ?_)
  refine lv_iconst (v := 0) hx hb dX7_coloured_2 (by decide) ?_
  refine lv_istore_n (lv' := [(2, .int 0), (1, .int 0), (0, .ref m0)]) hx hb dX7_coloured_3 rfl hl (by decide) rfl (fun ls hl => ?_)
  have LOOP_4 : ∀ (n : Nat) (q : Nat) (bi : Int32), (q + n = 2 ^ v) → (MCq ea n9 q bi) → ∀ (H : Heap) (locs : List Loc) (ls : Array Slot), va_P D vwCl [kX7 m0 (nI z) m1 (nI r9) m2 m3 m4 m5 (nI n9) (nI v) m6 k1 k2 k3 k4 m7 k5 k6 k7 k8 m8 m9 m10 k9 m11 m12 m13 hv, kI cI m6 12 ea] H → va_D A [kX7 m0 (nI z) m1 (nI r9) m2 m3 m4 m5 (nI n9) (nI v) m6 k1 k2 k3 k4 m7 k5 k6 k7 k8 m8 m9 m10 k9 m11 m12 m13 hv, kI cI m6 12 ea] → va_S A s.heap H locs → lv_has ls 6 [(0, .ref m0), (1, .int bi), (2, .int (nI q))] → W p l e (rM 1 0 0 21) s m ([.ref m0] : List Value).toArray below meth c H locs 0 0 Q (F0 m 4 ls []) := by
    intro n
    induction n with
    | zero =>
      intro q bi hq hbi H locs ls hP hD hS hl
      refine lv_iload_n hx hb dX7_coloured_4 rfl (lv_at hl 2 rfl) ?_
      refine lv_iconst (v := 1) hx hb dX7_coloured_5 (by decide) ?_
      refine lv_aload_n hx hb dX7_coloured_6 rfl (lv_at hl 0 rfl) ?_
      refine va_get (D := D) (ci := 7) (v := .int (nI v)) (C := RX7) (T := TX7) (N := 27) hx hb hts iT_X7 hown hK1 hP 0 rfl rfl 8 (by decide) (hts _ t_559) (fun _ h9 => h9) rfl dX7_coloured_7 ?_
      refine lv_ishl hx hb dX7_coloured_10 ?_
      refine lv_nmi (show _ = (nI (2 ^ v) : Int32) from shl1 hf2) ?_
      refine lv_icmp_ge (tgt := 119) hx hb dX7_coloured_11 (by decide) (fun c_1 => ?_) (fun c_1 => ?_)
      rotate_left
      · exact absurd (nI_le (a := (2 ^ v)) (b := q) (by omega) (by omega)) c_1
      refine lv_iload_n hx hb dX7_coloured_119 rfl (lv_at hl 1 rfl) ?_
      exact hret _ _ _ _ _ _ bi () dX7_coloured_120 rfl hS (Nat.le_of_ble_eq_true rfl) (Nat.le_of_ble_eq_true rfl) (by rw [show 2 ^ v = q by omega]; exact hbi) (hP.sub [0, 1] rfl) (hD.sub [0, 1] rfl rfl)
    | succ n ih_4 =>
      intro q bi hq hbi H locs ls hP hD hS hl
      refine lv_iload_n hx hb dX7_coloured_4 rfl (lv_at hl 2 rfl) ?_
      refine lv_iconst (v := 1) hx hb dX7_coloured_5 (by decide) ?_
      refine lv_aload_n hx hb dX7_coloured_6 rfl (lv_at hl 0 rfl) ?_
      refine va_get (D := D) (ci := 7) (v := .int (nI v)) (C := RX7) (T := TX7) (N := 27) hx hb hts iT_X7 hown hK1 hP 0 rfl rfl 8 (by decide) (hts _ t_559) (fun _ h9 => h9) rfl dX7_coloured_7 ?_
      refine lv_ishl hx hb dX7_coloured_10 ?_
      refine lv_nmi (show _ = (nI (2 ^ v) : Int32) from shl1 hf2) ?_
      refine lv_icmp_ge (tgt := 119) hx hb dX7_coloured_11 (by decide) (fun c_2 => ?_) (fun c_2 => ?_)
      · exact absurd c_2 (nI_ge (a := q) (b := (2 ^ v)) (by omega) (by omega))
      refine lv_iconst (v := 1) hx hb dX7_coloured_14 (by decide) ?_
      refine lv_istore_n (lv' := [(3, .int 1), (0, .ref m0), (1, .int bi), (2, .int (nI q))]) hx hb dX7_coloured_15 rfl hl (by decide) rfl (fun ls hl => ?_)
      refine lv_iconst (v := 0) hx hb dX7_coloured_16 (by decide) ?_
      refine lv_istore (lv' := [(4, .int 0), (3, .int 1), (0, .ref m0), (1, .int bi), (2, .int (nI q))]) hx hb dX7_coloured_17 hl (by decide) rfl (fun ls hl => ?_)
      have LOOP_19 : ∀ (n : Nat) (i : Nat) (is : Int32) (bj : Int32), (i + n = n9) → (YN is (mcP (nI q) ea i)) → (MCq ea n9 q bj) → ∀ (H : Heap) (locs : List Loc) (ls : Array Slot), va_P D vwCl [kX7 m0 (nI z) m1 (nI r9) m2 m3 m4 m5 (nI n9) (nI v) m6 k1 k2 k3 k4 m7 k5 k6 k7 k8 m8 m9 m10 k9 m11 m12 m13 hv, kI cI m6 12 ea] H → va_D A [kX7 m0 (nI z) m1 (nI r9) m2 m3 m4 m5 (nI n9) (nI v) m6 k1 k2 k3 k4 m7 k5 k6 k7 k8 m8 m9 m10 k9 m11 m12 m13 hv, kI cI m6 12 ea] → va_S A s.heap H locs → lv_has ls 6 [(0, .ref m0), (1, .int bj), (2, .int (nI q)), (3, .int is), (4, .int (nI i))] → W p l e (rM 1 0 0 21) s m ([.ref m0] : List Value).toArray below meth c H locs 0 0 Q (F0 m 19 ls []) := by
        intro n
        induction n with
        | zero =>
          intro i is bj hi his hbj H locs ls hP hD hS hl
          refine lv_iload hx hb dX7_coloured_19 (lv_at hl 4 rfl) ?_
          refine lv_aload_n hx hb dX7_coloured_21 rfl (lv_at hl 0 rfl) ?_
          refine va_get (D := D) (ci := 7) (v := .int (nI n9)) (C := RX7) (T := TX7) (N := 27) hx hb hts iT_X7 hown hK1 hP 0 rfl rfl 7 (by decide) (hts _ t_558) (fun _ h9 => h9) rfl dX7_coloured_22 ?_
          refine lv_icmp_ge (tgt := 83) hx hb dX7_coloured_25 (by decide) (fun c_3 => ?_) (fun c_3 => ?_)
          rotate_left
          · exact absurd (nI_le (a := n9) (b := i) (by omega) (by omega)) c_3
          refine lv_iload_n hx hb dX7_coloured_83 rfl (lv_at hl 1 rfl) ?_
          refine lv_iload_n hx hb dX7_coloured_84 rfl (lv_at hl 3 rfl) ?_
          refine lv_if_ne (tgt := 92) hx hb dX7_coloured_85 (by decide) (fun c_4 => ?_) (fun c_4 => ?_)
          · skip
            refine lv_iload_n hx hb dX7_coloured_92 rfl (lv_at hl 2 rfl) ?_
            refine lv_iconst (v := 0) hx hb dX7_coloured_93 (by decide) ?_
            refine xc_i (wc := []) (wr := [kX7 m0 (nI z) m1 (nI r9) m2 m3 m4 m5 (nI n9) (nI v) m6 k1 k2 k3 k4 m7 k5 k6 k7 k8 m8 m9 m10 k9 m11 m12 m13 hv, kI cI m6 12 ea]) (xrS (n := 2) (As := [.int (nI q), .int 0]) (rest := [.int bj]) hd hK hP hD (c_X7_has l D cI cJ cZ cR _ (nI q) 0 ) (gS t_671 mS_X7_has) hS_X7_has ⟨(Nat.le_of_ble_eq_true rfl), (Nat.le_of_ble_eq_true rfl)⟩ [] rfl rfl rfl hl.1 rfl (Nat.le_of_ble_eq_true rfl) dX7_coloured_94 ⟨(Nat.le_of_ble_eq_true rfl), (Nat.le_of_ble_eq_true rfl)⟩) hP hD hS hA [] [0, 1] rfl rfl rfl (by decide) (fun r_5 u_6 H locs hw_7 hP hD hS => ?_)
            have hw_8 : r_5 = (hR (nI q) 0) := hw_7
            subst hw_8
            have hP : va_P D vwCl [kX7 m0 (nI z) m1 (nI r9) m2 m3 m4 m5 (nI n9) (nI v) m6 k1 k2 k3 k4 m7 k5 k6 k7 k8 m8 m9 m10 k9 m11 m12 m13 hv, kI cI m6 12 ea] H := hP
            have hD : va_D A [kX7 m0 (nI z) m1 (nI r9) m2 m3 m4 m5 (nI n9) (nI v) m6 k1 k2 k3 k4 m7 k5 k6 k7 k8 m8 m9 m10 k9 m11 m12 m13 hv, kI cI m6 12 ea] := hD
            refine lv_iload_n hx hb dX7_coloured_97 rfl (lv_at hl 2 rfl) ?_
            refine lv_iconst (v := 1) hx hb dX7_coloured_98 (by decide) ?_
            refine xc_i (wc := []) (wr := [kX7 m0 (nI z) m1 (nI r9) m2 m3 m4 m5 (nI n9) (nI v) m6 k1 k2 k3 k4 m7 k5 k6 k7 k8 m8 m9 m10 k9 m11 m12 m13 hv, kI cI m6 12 ea]) (xrS (n := 2) (As := [.int (nI q), .int 1]) (rest := [.int (hR (nI q) 0), .int bj]) hd hK hP hD (c_X7_has l D cI cJ cZ cR _ (nI q) 1 ) (gS t_671 mS_X7_has) hS_X7_has ⟨(Nat.le_of_ble_eq_true rfl), (Nat.le_of_ble_eq_true rfl)⟩ [] rfl rfl rfl hl.1 rfl (Nat.le_of_ble_eq_true rfl) dX7_coloured_99 ⟨(Nat.le_of_ble_eq_true rfl), (Nat.le_of_ble_eq_true rfl)⟩) hP hD hS hA [] [0, 1] rfl rfl rfl (by decide) (fun r_9 u_10 H locs hw_11 hP hD hS => ?_)
            have hw_12 : r_9 = (hR (nI q) 1) := hw_11
            subst hw_12
            have hP : va_P D vwCl [kX7 m0 (nI z) m1 (nI r9) m2 m3 m4 m5 (nI n9) (nI v) m6 k1 k2 k3 k4 m7 k5 k6 k7 k8 m8 m9 m10 k9 m11 m12 m13 hv, kI cI m6 12 ea] H := hP
            have hD : va_D A [kX7 m0 (nI z) m1 (nI r9) m2 m3 m4 m5 (nI n9) (nI v) m6 k1 k2 k3 k4 m7 k5 k6 k7 k8 m8 m9 m10 k9 m11 m12 m13 hv, kI cI m6 12 ea] := hD
            refine lv_icmp_ne (tgt := 109) hx hb dX7_coloured_102 (by decide) (fun c_13 => ?_) (fun c_13 => ?_)
            · skip
              refine lv_bipush (v := 8) hx hb dX7_coloured_109 (by decide) ?_
              refine lv_ior hx hb dX7_coloured_111 ?_
              refine lv_istore_n (lv' := [(1, .int (bj ||| 8)), (0, .ref m0), (2, .int (nI q)), (3, .int is), (4, .int (nI i))]) hx hb dX7_coloured_112 rfl hl (by decide) rfl (fun ls hl => ?_)
              refine lv_iinc (v := nI (q + 1)) (lv' := [(2, .int (nI (q + 1))), (1, .int (bj ||| 8)), (0, .ref m0), (3, .int is), (4, .int (nI i))]) hx hb dX7_coloured_113 hl (k := 2) rfl (nI_1 q) (by decide) rfl (fun ls hl => ?_)
              refine lv_goto (tgt := 4) hx hb dX7_coloured_116 (by decide) ?_
              exact ih_4 (q + 1) (bj ||| 8) (by omega) (MC_8 hbj (by have w := his.of c_4; rw [show i = n9 by omega] at w; exact w) c_13) _ _ _ (hP.sub [0, 1] rfl) (hD.sub [0, 1] rfl rfl) hS (lv_sub hl [2, 1, 0] rfl)
            · skip
              refine lv_iconst (v := 4) hx hb dX7_coloured_105 (by decide) ?_
              refine lv_goto (tgt := 111) hx hb dX7_coloured_106 (by decide) ?_
              refine lv_ior hx hb dX7_coloured_111 ?_
              refine lv_istore_n (lv' := [(1, .int (bj ||| 4)), (0, .ref m0), (2, .int (nI q)), (3, .int is), (4, .int (nI i))]) hx hb dX7_coloured_112 rfl hl (by decide) rfl (fun ls hl => ?_)
              refine lv_iinc (v := nI (q + 1)) (lv' := [(2, .int (nI (q + 1))), (1, .int (bj ||| 4)), (0, .ref m0), (3, .int is), (4, .int (nI i))]) hx hb dX7_coloured_113 hl (k := 2) rfl (nI_1 q) (by decide) rfl (fun ls hl => ?_)
              refine lv_goto (tgt := 4) hx hb dX7_coloured_116 (by decide) ?_
              exact ih_4 (q + 1) (bj ||| 4) (by omega) (MC_4 hbj (by have w := his.of c_4; rw [show i = n9 by omega] at w; exact w) c_13) _ _ _ (hP.sub [0, 1] rfl) (hD.sub [0, 1] rfl rfl) hS (lv_sub hl [2, 1, 0] rfl)
          · skip
            refine lv_iconst (v := 0) hx hb dX7_coloured_88 (by decide) ?_
            refine lv_goto (tgt := 111) hx hb dX7_coloured_89 (by decide) ?_
            refine lv_ior hx hb dX7_coloured_111 ?_
            refine lv_istore_n (lv' := [(1, .int (bj ||| 0)), (0, .ref m0), (2, .int (nI q)), (3, .int is), (4, .int (nI i))]) hx hb dX7_coloured_112 rfl hl (by decide) rfl (fun ls hl => ?_)
            refine lv_iinc (v := nI (q + 1)) (lv' := [(2, .int (nI (q + 1))), (1, .int (bj ||| 0)), (0, .ref m0), (3, .int is), (4, .int (nI i))]) hx hb dX7_coloured_113 hl (k := 2) rfl (nI_1 q) (by decide) rfl (fun ls hl => ?_)
            refine lv_goto (tgt := 4) hx hb dX7_coloured_116 (by decide) ?_
            exact ih_4 (q + 1) (bj ||| 0) (by omega) (MC_n hbj (fun w => his.no c_4 (by rw [show i = n9 by omega]; exact w))) _ _ _ (hP.sub [0, 1] rfl) (hD.sub [0, 1] rfl rfl) hS (lv_sub hl [2, 1, 0] rfl)
        | succ n ih_19 =>
          intro i is bj hi his hbj H locs ls hP hD hS hl
          refine lv_iload hx hb dX7_coloured_19 (lv_at hl 4 rfl) ?_
          refine lv_aload_n hx hb dX7_coloured_21 rfl (lv_at hl 0 rfl) ?_
          refine va_get (D := D) (ci := 7) (v := .int (nI n9)) (C := RX7) (T := TX7) (N := 27) hx hb hts iT_X7 hown hK1 hP 0 rfl rfl 7 (by decide) (hts _ t_558) (fun _ h9 => h9) rfl dX7_coloured_22 ?_
          refine lv_icmp_ge (tgt := 83) hx hb dX7_coloured_25 (by decide) (fun c_14 => ?_) (fun c_14 => ?_)
          · exact absurd c_14 (nI_ge (a := i) (b := n9) (by omega) (by omega))
          refine lv_iload_n hx hb dX7_coloured_28 rfl (lv_at hl 3 rfl) ?_
          refine lv_if_eq (tgt := 83) hx hb dX7_coloured_29 (by decide) (fun c_15 => ?_) (fun c_15 => ?_)
          · skip
            have hno9 := fun w : mcP (nI q) ea n9 => his.no c_15 (fun j hj => w j (by omega))
            refine lv_iload_n hx hb dX7_coloured_83 rfl (lv_at hl 1 rfl) ?_
            refine lv_iload_n hx hb dX7_coloured_84 rfl (lv_at hl 3 rfl) ?_
            refine lv_if_ne (tgt := 92) hx hb dX7_coloured_85 (by decide) (fun c_16 => ?_) (fun c_16 => ?_)
            · exact absurd c_15 c_16
            refine lv_iconst (v := 0) hx hb dX7_coloured_88 (by decide) ?_
            refine lv_goto (tgt := 111) hx hb dX7_coloured_89 (by decide) ?_
            refine lv_ior hx hb dX7_coloured_111 ?_
            refine lv_istore_n (lv' := [(1, .int (bj ||| 0)), (0, .ref m0), (2, .int (nI q)), (3, .int is), (4, .int (nI i))]) hx hb dX7_coloured_112 rfl hl (by decide) rfl (fun ls hl => ?_)
            refine lv_iinc (v := nI (q + 1)) (lv' := [(2, .int (nI (q + 1))), (1, .int (bj ||| 0)), (0, .ref m0), (3, .int is), (4, .int (nI i))]) hx hb dX7_coloured_113 hl (k := 2) rfl (nI_1 q) (by decide) rfl (fun ls hl => ?_)
            refine lv_goto (tgt := 4) hx hb dX7_coloured_116 (by decide) ?_
            exact ih_4 (q + 1) (bj ||| 0) (by omega) (MC_n hbj hno9) _ _ _ (hP.sub [0, 1] rfl) (hD.sub [0, 1] rfl rfl) hS (lv_sub hl [2, 1, 0] rfl)
          · skip
            refine lv_aload_n hx hb dX7_coloured_32 rfl (lv_at hl 0 rfl) ?_
            refine va_get (D := D) (ci := 7) (v := .ref m6) (C := RX7) (T := TX7) (N := 27) hx hb hts iT_X7 hown hK1 hP 0 rfl rfl 9 (by decide) (hts _ t_560) (fun _ h9 => h9) rfl dX7_coloured_33 ?_
            refine lv_iload hx hb dX7_coloured_36 (lv_at hl 4 rfl) ?_
            refine va_iald hx hb hK1 hP 1 0 rfl rfl (vp_in_nI (by omega) (by omega)) dX7_coloured_38 ?_
            refine lv_nmi (show _ = ea i from by rw [nI_clamp (n := i) (by omega)]) ?_
            refine lv_istore (lv' := [(5, .int (ea i)), (0, .ref m0), (1, .int bj), (2, .int (nI q)), (3, .int is), (4, .int (nI i))]) hx hb dX7_coloured_39 hl (by decide) rfl (fun ls hl => ?_)
            refine lv_iload hx hb dX7_coloured_41 (lv_at hl 0 rfl) ?_
            refine xc_i (wc := []) (wr := [kX7 m0 (nI z) m1 (nI r9) m2 m3 m4 m5 (nI n9) (nI v) m6 k1 k2 k3 k4 m7 k5 k6 k7 k8 m8 m9 m10 k9 m11 m12 m13 hv, kI cI m6 12 ea]) (xrS (n := 1) (As := [.int (ea i)]) (rest := []) hd hK hP hD (c_X7_letterOf l D cI cJ cZ cR _ (ea i) ) (gS t_713 mS_X7_letterOf) hS_X7_letterOf ⟨(Nat.le_of_ble_eq_true rfl), (Nat.le_of_ble_eq_true rfl)⟩ [] rfl rfl rfl hl.1 rfl (Nat.le_of_ble_eq_true rfl) dX7_coloured_43 ⟨(Nat.le_of_ble_eq_true rfl), (Nat.le_of_ble_eq_true rfl)⟩) hP hD hS hA [] [0, 1] rfl rfl rfl (by decide) (fun r_17 u_18 H locs hw_19 hP hD hS => ?_)
            have hw_20 : r_17 = (lO (ea i)) := hw_19
            subst hw_20
            have hP : va_P D vwCl [kX7 m0 (nI z) m1 (nI r9) m2 m3 m4 m5 (nI n9) (nI v) m6 k1 k2 k3 k4 m7 k5 k6 k7 k8 m8 m9 m10 k9 m11 m12 m13 hv, kI cI m6 12 ea] H := hP
            have hD : va_D A [kX7 m0 (nI z) m1 (nI r9) m2 m3 m4 m5 (nI n9) (nI v) m6 k1 k2 k3 k4 m7 k5 k6 k7 k8 m8 m9 m10 k9 m11 m12 m13 hv, kI cI m6 12 ea] := hD
            refine lv_iconst (v := 4) hx hb dX7_coloured_46 (by decide) ?_
            refine lv_icmp_eq (tgt := 71) hx hb dX7_coloured_47 (by decide) (fun c_21 => ?_) (fun c_21 => ?_)
            · skip
              refine lv_iconst (v := 1) hx hb dX7_coloured_71 (by decide) ?_
              refine lv_goto (tgt := 76) hx hb dX7_coloured_72 (by decide) ?_
              refine lv_istore_n (lv' := [(3, .int 1), (5, .int (ea i)), (0, .ref m0), (1, .int bj), (2, .int (nI q)), (4, .int (nI i))]) hx hb dX7_coloured_76 rfl hl (by decide) rfl (fun ls hl => ?_)
              refine lv_iinc (v := nI (i + 1)) (lv' := [(4, .int (nI (i + 1))), (3, .int 1), (5, .int (ea i)), (0, .ref m0), (1, .int bj), (2, .int (nI q))]) hx hb dX7_coloured_77 hl (k := 5) rfl (nI_1 i) (by decide) rfl (fun ls hl => ?_)
              refine lv_goto (tgt := 19) hx hb dX7_coloured_80 (by decide) ?_
              exact ih_19 (i + 1) 1 bj (by omega) (YN_y (mcP_s (his.of c_15) (Or.inl c_21))) hbj _ _ _ (hP.sub [0, 1] rfl) (hD.sub [0, 1] rfl rfl) hS (lv_sub hl [3, 4, 5, 1, 0] rfl)
            · skip
              refine lv_iload_n hx hb dX7_coloured_50 rfl (lv_at hl 3 rfl) ?_
              refine lv_iload hx hb dX7_coloured_51 (lv_at hl 0 rfl) ?_
              refine xc_i (wc := []) (wr := [kX7 m0 (nI z) m1 (nI r9) m2 m3 m4 m5 (nI n9) (nI v) m6 k1 k2 k3 k4 m7 k5 k6 k7 k8 m8 m9 m10 k9 m11 m12 m13 hv, kI cI m6 12 ea]) (xrS (n := 1) (As := [.int (ea i)]) (rest := [.int (nI q)]) hd hK hP hD (c_X7_fromOf l D cI cJ cZ cR _ (ea i) ) (gS t_716 mS_X7_fromOf) hS_X7_fromOf ⟨(Nat.le_of_ble_eq_true rfl), (Nat.le_of_ble_eq_true rfl)⟩ [] rfl rfl rfl hl.1 rfl (Nat.le_of_ble_eq_true rfl) dX7_coloured_53 ⟨(Nat.le_of_ble_eq_true rfl), (Nat.le_of_ble_eq_true rfl)⟩) hP hD hS hA [] [0, 1] rfl rfl rfl (by decide) (fun r_22 u_23 H locs hw_24 hP hD hS => ?_)
              have hw_25 : r_22 = (fO (ea i)) := hw_24
              subst hw_25
              have hP : va_P D vwCl [kX7 m0 (nI z) m1 (nI r9) m2 m3 m4 m5 (nI n9) (nI v) m6 k1 k2 k3 k4 m7 k5 k6 k7 k8 m8 m9 m10 k9 m11 m12 m13 hv, kI cI m6 12 ea] H := hP
              have hD : va_D A [kX7 m0 (nI z) m1 (nI r9) m2 m3 m4 m5 (nI n9) (nI v) m6 k1 k2 k3 k4 m7 k5 k6 k7 k8 m8 m9 m10 k9 m11 m12 m13 hv, kI cI m6 12 ea] := hD
              refine xc_i (wc := []) (wr := [kX7 m0 (nI z) m1 (nI r9) m2 m3 m4 m5 (nI n9) (nI v) m6 k1 k2 k3 k4 m7 k5 k6 k7 k8 m8 m9 m10 k9 m11 m12 m13 hv, kI cI m6 12 ea]) (xrS (n := 2) (As := [.int (nI q), .int (fO (ea i))]) (rest := []) hd hK hP hD (c_X7_has l D cI cJ cZ cR _ (nI q) (fO (ea i)) ) (gS t_671 mS_X7_has) hS_X7_has ⟨(Nat.le_of_ble_eq_true rfl), (Nat.le_of_ble_eq_true rfl)⟩ [] rfl rfl rfl hl.1 rfl (Nat.le_of_ble_eq_true rfl) dX7_coloured_56 ⟨(Nat.le_of_ble_eq_true rfl), (Nat.le_of_ble_eq_true rfl)⟩) hP hD hS hA [] [0, 1] rfl rfl rfl (by decide) (fun r_26 u_27 H locs hw_28 hP hD hS => ?_)
              have hw_29 : r_26 = (hR (nI q) (fO (ea i))) := hw_28
              subst hw_29
              have hP : va_P D vwCl [kX7 m0 (nI z) m1 (nI r9) m2 m3 m4 m5 (nI n9) (nI v) m6 k1 k2 k3 k4 m7 k5 k6 k7 k8 m8 m9 m10 k9 m11 m12 m13 hv, kI cI m6 12 ea] H := hP
              have hD : va_D A [kX7 m0 (nI z) m1 (nI r9) m2 m3 m4 m5 (nI n9) (nI v) m6 k1 k2 k3 k4 m7 k5 k6 k7 k8 m8 m9 m10 k9 m11 m12 m13 hv, kI cI m6 12 ea] := hD
              refine lv_iload_n hx hb dX7_coloured_59 rfl (lv_at hl 3 rfl) ?_
              refine lv_iload hx hb dX7_coloured_60 (lv_at hl 0 rfl) ?_
              refine xc_i (wc := []) (wr := [kX7 m0 (nI z) m1 (nI r9) m2 m3 m4 m5 (nI n9) (nI v) m6 k1 k2 k3 k4 m7 k5 k6 k7 k8 m8 m9 m10 k9 m11 m12 m13 hv, kI cI m6 12 ea]) (xrS (n := 1) (As := [.int (ea i)]) (rest := [.int (nI q), .int (hR (nI q) (fO (ea i)))]) hd hK hP hD (c_X7_toOf l D cI cJ cZ cR _ (ea i) ) (gS t_723 mS_X7_toOf) hS_X7_toOf ⟨(Nat.le_of_ble_eq_true rfl), (Nat.le_of_ble_eq_true rfl)⟩ [] rfl rfl rfl hl.1 rfl (Nat.le_of_ble_eq_true rfl) dX7_coloured_62 ⟨(Nat.le_of_ble_eq_true rfl), (Nat.le_of_ble_eq_true rfl)⟩) hP hD hS hA [] [0, 1] rfl rfl rfl (by decide) (fun r_30 u_31 H locs hw_32 hP hD hS => ?_)
              have hw_33 : r_30 = (tO (ea i)) := hw_32
              subst hw_33
              have hP : va_P D vwCl [kX7 m0 (nI z) m1 (nI r9) m2 m3 m4 m5 (nI n9) (nI v) m6 k1 k2 k3 k4 m7 k5 k6 k7 k8 m8 m9 m10 k9 m11 m12 m13 hv, kI cI m6 12 ea] H := hP
              have hD : va_D A [kX7 m0 (nI z) m1 (nI r9) m2 m3 m4 m5 (nI n9) (nI v) m6 k1 k2 k3 k4 m7 k5 k6 k7 k8 m8 m9 m10 k9 m11 m12 m13 hv, kI cI m6 12 ea] := hD
              refine xc_i (wc := []) (wr := [kX7 m0 (nI z) m1 (nI r9) m2 m3 m4 m5 (nI n9) (nI v) m6 k1 k2 k3 k4 m7 k5 k6 k7 k8 m8 m9 m10 k9 m11 m12 m13 hv, kI cI m6 12 ea]) (xrS (n := 2) (As := [.int (nI q), .int (tO (ea i))]) (rest := [.int (hR (nI q) (fO (ea i)))]) hd hK hP hD (c_X7_has l D cI cJ cZ cR _ (nI q) (tO (ea i)) ) (gS t_671 mS_X7_has) hS_X7_has ⟨(Nat.le_of_ble_eq_true rfl), (Nat.le_of_ble_eq_true rfl)⟩ [] rfl rfl rfl hl.1 rfl (Nat.le_of_ble_eq_true rfl) dX7_coloured_65 ⟨(Nat.le_of_ble_eq_true rfl), (Nat.le_of_ble_eq_true rfl)⟩) hP hD hS hA [] [0, 1] rfl rfl rfl (by decide) (fun r_34 u_35 H locs hw_36 hP hD hS => ?_)
              have hw_37 : r_34 = (hR (nI q) (tO (ea i))) := hw_36
              subst hw_37
              have hP : va_P D vwCl [kX7 m0 (nI z) m1 (nI r9) m2 m3 m4 m5 (nI n9) (nI v) m6 k1 k2 k3 k4 m7 k5 k6 k7 k8 m8 m9 m10 k9 m11 m12 m13 hv, kI cI m6 12 ea] H := hP
              have hD : va_D A [kX7 m0 (nI z) m1 (nI r9) m2 m3 m4 m5 (nI n9) (nI v) m6 k1 k2 k3 k4 m7 k5 k6 k7 k8 m8 m9 m10 k9 m11 m12 m13 hv, kI cI m6 12 ea] := hD
              refine lv_icmp_eq (tgt := 75) hx hb dX7_coloured_68 (by decide) (fun c_38 => ?_) (fun c_38 => ?_)
              · skip
                refine lv_iconst (v := 0) hx hb dX7_coloured_75 (by decide) ?_
                refine lv_istore_n (lv' := [(3, .int 0), (5, .int (ea i)), (0, .ref m0), (1, .int bj), (2, .int (nI q)), (4, .int (nI i))]) hx hb dX7_coloured_76 rfl hl (by decide) rfl (fun ls hl => ?_)
                refine lv_iinc (v := nI (i + 1)) (lv' := [(4, .int (nI (i + 1))), (3, .int 0), (5, .int (ea i)), (0, .ref m0), (1, .int bj), (2, .int (nI q))]) hx hb dX7_coloured_77 hl (k := 5) rfl (nI_1 i) (by decide) rfl (fun ls hl => ?_)
                refine lv_goto (tgt := 19) hx hb dX7_coloured_80 (by decide) ?_
                exact ih_19 (i + 1) 0 bj (by omega) (YN_n (fun w => (w i (by omega)).elim (fun z => c_21 z) (fun z => z c_38))) hbj _ _ _ (hP.sub [0, 1] rfl) (hD.sub [0, 1] rfl rfl) hS (lv_sub hl [3, 4, 5, 1, 0] rfl)
              · skip
                refine lv_iconst (v := 1) hx hb dX7_coloured_71 (by decide) ?_
                refine lv_goto (tgt := 76) hx hb dX7_coloured_72 (by decide) ?_
                refine lv_istore_n (lv' := [(3, .int 1), (5, .int (ea i)), (0, .ref m0), (1, .int bj), (2, .int (nI q)), (4, .int (nI i))]) hx hb dX7_coloured_76 rfl hl (by decide) rfl (fun ls hl => ?_)
                refine lv_iinc (v := nI (i + 1)) (lv' := [(4, .int (nI (i + 1))), (3, .int 1), (5, .int (ea i)), (0, .ref m0), (1, .int bj), (2, .int (nI q))]) hx hb dX7_coloured_77 hl (k := 5) rfl (nI_1 i) (by decide) rfl (fun ls hl => ?_)
                refine lv_goto (tgt := 19) hx hb dX7_coloured_80 (by decide) ?_
                exact ih_19 (i + 1) 1 bj (by omega) (YN_y (mcP_s (his.of c_15) (Or.inr c_38))) hbj _ _ _ (hP.sub [0, 1] rfl) (hD.sub [0, 1] rfl rfl) hS (lv_sub hl [3, 4, 5, 1, 0] rfl)
      exact LOOP_19 n9 0 1 bi (by omega) (YN_y (fun j hj => absurd hj (by omega))) hbi _ _ _ (hP.sub [0, 1] rfl) (hD.sub [0, 1] rfl rfl) hS (lv_sub hl [2, 3, 4, 1, 0] rfl)
  exact LOOP_4 (2 ^ v) 0 0 (by omega) MC_0 _ _ _ (hP.sub [0, 1] rfl) (hD.sub [0, 1] rfl rfl) hS (lv_sub hl [2, 1, 0] rfl)
set_option maxHeartbeats 4000000 in
set_option maxRecDepth 100000 in
theorem c_X7_kindNow (sz : Nat) (m0 : Nat) (m1 : Nat) (m2 : Nat) (m3 : Nat) (m4 : Nat) (m5 : Nat) (m6 : Nat) (m7 : Nat) (m8 : Nat) (m9 : Nat) (m10 : Nat) (m11 : Nat) (m12 : Nat) (m13 : Nat) (z : Nat) (r9 : Nat) (n9 : Nat) (v : Nat) (k1 : Int32) (k2 : Int32) (k3 : Int32) (k4 : Int32) (k5 : Int32) (k6 : Int32) (k7 : Int32) (k8 : Int32) (k9 : Int32) (hv : Int64) (ea : Nat → Int32) (hf : FgI n9 v) : CTi l D cI cJ cZ cR yX7_kindNow cX7_kindNow 1 (some .int) 2 47 0 0 sz [.ref m0] [kX7 m0 (nI z) m1 (nI r9) m2 m3 m4 m5 (nI n9) (nI v) m6 k1 k2 k3 k4 m7 k5 k6 k7 k8 m8 m9 m10 k9 m11 m12 m13 hv, kI cI m6 12 ea] (fun (r : Int32) (u : Unit) => (MKd ea n9 v r)) (fun (u : Unit) => [kX7 m0 (nI z) m1 (nI r9) m2 m3 m4 m5 (nI n9) (nI v) m6 k1 k2 k3 k4 m7 k5 k6 k7 k8 m8 m9 m10 k9 m11 m12 m13 hv, kI cI m6 12 ea]) := by
  refine CTi.of (ty := .int) (by decide) (Nat.le_of_ble_eq_true rfl) rfl ?_
  intro p e s m below meth c A Q ls hd hin hK hsz hP hD hA hS hl hret
  obtain ⟨hx, hb, hml, hown, hts⟩ := id hd
  have hK1 := hK.1
  have hown : s.vm.findClass RX7 = some m.cls := hown
  have hl : lv_has ls 1 [(0, .ref m0)] := hl
  refine lv_aload_n hx hb dX7_kindNow_0 rfl (lv_at hl 0 rfl) ?_
  refine lv_iconst (v := 0) hx hb dX7_kindNow_1 (by decide) ?_
  refine lv_iconst (v := 1) hx hb dX7_kindNow_2 (by decide) ?_
  refine xc_i (wc := [kX7 m0 (nI z) m1 (nI r9) m2 m3 m4 m5 (nI n9) (nI v) m6 k1 k2 k3 k4 m7 k5 k6 k7 k8 m8 m9 m10 k9 m11 m12 m13 hv, kI cI m6 12 ea]) (wr := []) (xrV (n := 2) (As := [.int 0, .int 1]) (rest := []) (ci := 7) (q0 := 0) hd hK hP hD (c_X7_leadsTo l D cI cJ cZ cR _ m0 m1 m2 m3 m4 m5 m6 m7 m8 m9 m10 m11 m12 m13 z r9 n9 v k1 k2 k3 k4 k5 k6 k7 k8 k9 hv ea 0 1 hf) (gV t_746 mV_X7_leadsTo) hV_X7_leadsTo ⟨(Nat.le_of_ble_eq_true rfl), (Nat.le_of_ble_eq_true rfl)⟩ rfl rfl [0, 1] rfl rfl rfl hl.1 rfl (Nat.le_of_ble_eq_true rfl) dX7_kindNow_3 ⟨(Nat.le_of_ble_eq_true rfl), (Nat.le_of_ble_eq_true rfl)⟩) hP hD hS hA [0, 1] [] rfl rfl rfl (by decide) (fun r_1 u_2 H locs hw_3 hP hD hS => ?_)
  have hw_4 : r_1 = (hR (mdR ea n9 v ((1 : Int32) <<< (0 &&& 31))) 1) := hw_3
  subst hw_4
  have hP : va_P D vwCl [kX7 m0 (nI z) m1 (nI r9) m2 m3 m4 m5 (nI n9) (nI v) m6 k1 k2 k3 k4 m7 k5 k6 k7 k8 m8 m9 m10 k9 m11 m12 m13 hv, kI cI m6 12 ea] H := hP
  have hD : va_D A [kX7 m0 (nI z) m1 (nI r9) m2 m3 m4 m5 (nI n9) (nI v) m6 k1 k2 k3 k4 m7 k5 k6 k7 k8 m8 m9 m10 k9 m11 m12 m13 hv, kI cI m6 12 ea] := hD
  refine lv_if_eq (tgt := 13) hx hb dX7_kindNow_6 (by decide) (fun c_5 => ?_) (fun c_5 => ?_)
  · skip
    refine lv_iconst (v := 0) hx hb dX7_kindNow_13 (by decide) ?_
    refine lv_aload_n hx hb dX7_kindNow_14 rfl (lv_at hl 0 rfl) ?_
    refine lv_iconst (v := 1) hx hb dX7_kindNow_15 (by decide) ?_
    refine lv_iconst (v := 0) hx hb dX7_kindNow_16 (by decide) ?_
    refine xc_i (wc := [kX7 m0 (nI z) m1 (nI r9) m2 m3 m4 m5 (nI n9) (nI v) m6 k1 k2 k3 k4 m7 k5 k6 k7 k8 m8 m9 m10 k9 m11 m12 m13 hv, kI cI m6 12 ea]) (wr := []) (xrV (n := 2) (As := [.int 1, .int 0]) (rest := [.int 0]) (ci := 7) (q0 := 0) hd hK hP hD (c_X7_leadsTo l D cI cJ cZ cR _ m0 m1 m2 m3 m4 m5 m6 m7 m8 m9 m10 m11 m12 m13 z r9 n9 v k1 k2 k3 k4 k5 k6 k7 k8 k9 hv ea 1 0 hf) (gV t_746 mV_X7_leadsTo) hV_X7_leadsTo ⟨(Nat.le_of_ble_eq_true rfl), (Nat.le_of_ble_eq_true rfl)⟩ rfl rfl [0, 1] rfl rfl rfl hl.1 rfl (Nat.le_of_ble_eq_true rfl) dX7_kindNow_17 ⟨(Nat.le_of_ble_eq_true rfl), (Nat.le_of_ble_eq_true rfl)⟩) hP hD hS hA [0, 1] [] rfl rfl rfl (by decide) (fun r_6 u_7 H locs hw_8 hP hD hS => ?_)
    have hw_9 : r_6 = (hR (mdR ea n9 v ((1 : Int32) <<< (1 &&& 31))) 0) := hw_8
    subst hw_9
    have hP : va_P D vwCl [kX7 m0 (nI z) m1 (nI r9) m2 m3 m4 m5 (nI n9) (nI v) m6 k1 k2 k3 k4 m7 k5 k6 k7 k8 m8 m9 m10 k9 m11 m12 m13 hv, kI cI m6 12 ea] H := hP
    have hD : va_D A [kX7 m0 (nI z) m1 (nI r9) m2 m3 m4 m5 (nI n9) (nI v) m6 k1 k2 k3 k4 m7 k5 k6 k7 k8 m8 m9 m10 k9 m11 m12 m13 hv, kI cI m6 12 ea] := hD
    refine lv_if_eq (tgt := 27) hx hb dX7_kindNow_20 (by decide) (fun c_10 => ?_) (fun c_10 => ?_)
    · skip
      refine lv_iconst (v := 0) hx hb dX7_kindNow_27 (by decide) ?_
      refine lv_ior hx hb dX7_kindNow_28 ?_
      refine lv_nmi (show _ = (0 : Int32) from by decide +kernel) ?_
      refine lv_aload_n hx hb dX7_kindNow_29 rfl (lv_at hl 0 rfl) ?_
      refine xc_i (wc := [kX7 m0 (nI z) m1 (nI r9) m2 m3 m4 m5 (nI n9) (nI v) m6 k1 k2 k3 k4 m7 k5 k6 k7 k8 m8 m9 m10 k9 m11 m12 m13 hv, kI cI m6 12 ea]) (wr := []) (xrV (n := 0) (As := []) (rest := [.int 0]) (ci := 7) (q0 := 0) hd hK hP hD (c_X7_coloured l D cI cJ cZ cR _ m0 m1 m2 m3 m4 m5 m6 m7 m8 m9 m10 m11 m12 m13 z r9 n9 v k1 k2 k3 k4 k5 k6 k7 k8 k9 hv ea hf) (gV t_750 mV_X7_coloured) hV_X7_coloured ⟨(Nat.le_of_ble_eq_true rfl), (Nat.le_of_ble_eq_true rfl)⟩ rfl rfl [0, 1] rfl rfl rfl hl.1 rfl (Nat.le_of_ble_eq_true rfl) dX7_kindNow_30 ⟨(Nat.le_of_ble_eq_true rfl), (Nat.le_of_ble_eq_true rfl)⟩) hP hD hS hA [0, 1] [] rfl rfl rfl (by decide) (fun r_11 u_12 H locs hw_13 hP hD hS => ?_)
      have hw_14 : MCq ea n9 (2 ^ v) r_11 := hw_13
      have hP : va_P D vwCl [kX7 m0 (nI z) m1 (nI r9) m2 m3 m4 m5 (nI n9) (nI v) m6 k1 k2 k3 k4 m7 k5 k6 k7 k8 m8 m9 m10 k9 m11 m12 m13 hv, kI cI m6 12 ea] H := hP
      have hD : va_D A [kX7 m0 (nI z) m1 (nI r9) m2 m3 m4 m5 (nI n9) (nI v) m6 k1 k2 k3 k4 m7 k5 k6 k7 k8 m8 m9 m10 k9 m11 m12 m13 hv, kI cI m6 12 ea] := hD
      refine lv_ior hx hb dX7_kindNow_33 ?_
      exact hret _ _ _ _ _ _ (0 ||| r_11) () dX7_kindNow_34 rfl hS (Nat.le_of_ble_eq_true rfl) (Nat.le_of_ble_eq_true rfl) ⟨_, hw_14, by rw [mlF_0 c_5 c_10]⟩ (hP.sub [0, 1] rfl) (hD.sub [0, 1] rfl rfl)
    · skip
      refine lv_iconst (v := 2) hx hb dX7_kindNow_23 (by decide) ?_
      refine lv_goto (tgt := 28) hx hb dX7_kindNow_24 (by decide) ?_
      refine lv_ior hx hb dX7_kindNow_28 ?_
      refine lv_nmi (show _ = (2 : Int32) from by decide +kernel) ?_
      refine lv_aload_n hx hb dX7_kindNow_29 rfl (lv_at hl 0 rfl) ?_
      refine xc_i (wc := [kX7 m0 (nI z) m1 (nI r9) m2 m3 m4 m5 (nI n9) (nI v) m6 k1 k2 k3 k4 m7 k5 k6 k7 k8 m8 m9 m10 k9 m11 m12 m13 hv, kI cI m6 12 ea]) (wr := []) (xrV (n := 0) (As := []) (rest := [.int 2]) (ci := 7) (q0 := 0) hd hK hP hD (c_X7_coloured l D cI cJ cZ cR _ m0 m1 m2 m3 m4 m5 m6 m7 m8 m9 m10 m11 m12 m13 z r9 n9 v k1 k2 k3 k4 k5 k6 k7 k8 k9 hv ea hf) (gV t_750 mV_X7_coloured) hV_X7_coloured ⟨(Nat.le_of_ble_eq_true rfl), (Nat.le_of_ble_eq_true rfl)⟩ rfl rfl [0, 1] rfl rfl rfl hl.1 rfl (Nat.le_of_ble_eq_true rfl) dX7_kindNow_30 ⟨(Nat.le_of_ble_eq_true rfl), (Nat.le_of_ble_eq_true rfl)⟩) hP hD hS hA [0, 1] [] rfl rfl rfl (by decide) (fun r_15 u_16 H locs hw_17 hP hD hS => ?_)
      have hw_18 : MCq ea n9 (2 ^ v) r_15 := hw_17
      have hP : va_P D vwCl [kX7 m0 (nI z) m1 (nI r9) m2 m3 m4 m5 (nI n9) (nI v) m6 k1 k2 k3 k4 m7 k5 k6 k7 k8 m8 m9 m10 k9 m11 m12 m13 hv, kI cI m6 12 ea] H := hP
      have hD : va_D A [kX7 m0 (nI z) m1 (nI r9) m2 m3 m4 m5 (nI n9) (nI v) m6 k1 k2 k3 k4 m7 k5 k6 k7 k8 m8 m9 m10 k9 m11 m12 m13 hv, kI cI m6 12 ea] := hD
      refine lv_ior hx hb dX7_kindNow_33 ?_
      exact hret _ _ _ _ _ _ (2 ||| r_15) () dX7_kindNow_34 rfl hS (Nat.le_of_ble_eq_true rfl) (Nat.le_of_ble_eq_true rfl) ⟨_, hw_18, by rw [mlF_2 c_5 c_10]⟩ (hP.sub [0, 1] rfl) (hD.sub [0, 1] rfl rfl)
  · skip
    refine lv_iconst (v := 1) hx hb dX7_kindNow_9 (by decide) ?_
    refine lv_goto (tgt := 14) hx hb dX7_kindNow_10 (by decide) ?_
    refine lv_aload_n hx hb dX7_kindNow_14 rfl (lv_at hl 0 rfl) ?_
    refine lv_iconst (v := 1) hx hb dX7_kindNow_15 (by decide) ?_
    refine lv_iconst (v := 0) hx hb dX7_kindNow_16 (by decide) ?_
    refine xc_i (wc := [kX7 m0 (nI z) m1 (nI r9) m2 m3 m4 m5 (nI n9) (nI v) m6 k1 k2 k3 k4 m7 k5 k6 k7 k8 m8 m9 m10 k9 m11 m12 m13 hv, kI cI m6 12 ea]) (wr := []) (xrV (n := 2) (As := [.int 1, .int 0]) (rest := [.int 1]) (ci := 7) (q0 := 0) hd hK hP hD (c_X7_leadsTo l D cI cJ cZ cR _ m0 m1 m2 m3 m4 m5 m6 m7 m8 m9 m10 m11 m12 m13 z r9 n9 v k1 k2 k3 k4 k5 k6 k7 k8 k9 hv ea 1 0 hf) (gV t_746 mV_X7_leadsTo) hV_X7_leadsTo ⟨(Nat.le_of_ble_eq_true rfl), (Nat.le_of_ble_eq_true rfl)⟩ rfl rfl [0, 1] rfl rfl rfl hl.1 rfl (Nat.le_of_ble_eq_true rfl) dX7_kindNow_17 ⟨(Nat.le_of_ble_eq_true rfl), (Nat.le_of_ble_eq_true rfl)⟩) hP hD hS hA [0, 1] [] rfl rfl rfl (by decide) (fun r_19 u_20 H locs hw_21 hP hD hS => ?_)
    have hw_22 : r_19 = (hR (mdR ea n9 v ((1 : Int32) <<< (1 &&& 31))) 0) := hw_21
    subst hw_22
    have hP : va_P D vwCl [kX7 m0 (nI z) m1 (nI r9) m2 m3 m4 m5 (nI n9) (nI v) m6 k1 k2 k3 k4 m7 k5 k6 k7 k8 m8 m9 m10 k9 m11 m12 m13 hv, kI cI m6 12 ea] H := hP
    have hD : va_D A [kX7 m0 (nI z) m1 (nI r9) m2 m3 m4 m5 (nI n9) (nI v) m6 k1 k2 k3 k4 m7 k5 k6 k7 k8 m8 m9 m10 k9 m11 m12 m13 hv, kI cI m6 12 ea] := hD
    refine lv_if_eq (tgt := 27) hx hb dX7_kindNow_20 (by decide) (fun c_23 => ?_) (fun c_23 => ?_)
    · skip
      refine lv_iconst (v := 0) hx hb dX7_kindNow_27 (by decide) ?_
      refine lv_ior hx hb dX7_kindNow_28 ?_
      refine lv_nmi (show _ = (1 : Int32) from by decide +kernel) ?_
      refine lv_aload_n hx hb dX7_kindNow_29 rfl (lv_at hl 0 rfl) ?_
      refine xc_i (wc := [kX7 m0 (nI z) m1 (nI r9) m2 m3 m4 m5 (nI n9) (nI v) m6 k1 k2 k3 k4 m7 k5 k6 k7 k8 m8 m9 m10 k9 m11 m12 m13 hv, kI cI m6 12 ea]) (wr := []) (xrV (n := 0) (As := []) (rest := [.int 1]) (ci := 7) (q0 := 0) hd hK hP hD (c_X7_coloured l D cI cJ cZ cR _ m0 m1 m2 m3 m4 m5 m6 m7 m8 m9 m10 m11 m12 m13 z r9 n9 v k1 k2 k3 k4 k5 k6 k7 k8 k9 hv ea hf) (gV t_750 mV_X7_coloured) hV_X7_coloured ⟨(Nat.le_of_ble_eq_true rfl), (Nat.le_of_ble_eq_true rfl)⟩ rfl rfl [0, 1] rfl rfl rfl hl.1 rfl (Nat.le_of_ble_eq_true rfl) dX7_kindNow_30 ⟨(Nat.le_of_ble_eq_true rfl), (Nat.le_of_ble_eq_true rfl)⟩) hP hD hS hA [0, 1] [] rfl rfl rfl (by decide) (fun r_24 u_25 H locs hw_26 hP hD hS => ?_)
      have hw_27 : MCq ea n9 (2 ^ v) r_24 := hw_26
      have hP : va_P D vwCl [kX7 m0 (nI z) m1 (nI r9) m2 m3 m4 m5 (nI n9) (nI v) m6 k1 k2 k3 k4 m7 k5 k6 k7 k8 m8 m9 m10 k9 m11 m12 m13 hv, kI cI m6 12 ea] H := hP
      have hD : va_D A [kX7 m0 (nI z) m1 (nI r9) m2 m3 m4 m5 (nI n9) (nI v) m6 k1 k2 k3 k4 m7 k5 k6 k7 k8 m8 m9 m10 k9 m11 m12 m13 hv, kI cI m6 12 ea] := hD
      refine lv_ior hx hb dX7_kindNow_33 ?_
      exact hret _ _ _ _ _ _ (1 ||| r_24) () dX7_kindNow_34 rfl hS (Nat.le_of_ble_eq_true rfl) (Nat.le_of_ble_eq_true rfl) ⟨_, hw_27, by rw [mlF_1 c_5 c_23]⟩ (hP.sub [0, 1] rfl) (hD.sub [0, 1] rfl rfl)
    · skip
      refine lv_iconst (v := 2) hx hb dX7_kindNow_23 (by decide) ?_
      refine lv_goto (tgt := 28) hx hb dX7_kindNow_24 (by decide) ?_
      refine lv_ior hx hb dX7_kindNow_28 ?_
      refine lv_nmi (show _ = (3 : Int32) from by decide +kernel) ?_
      refine lv_aload_n hx hb dX7_kindNow_29 rfl (lv_at hl 0 rfl) ?_
      refine xc_i (wc := [kX7 m0 (nI z) m1 (nI r9) m2 m3 m4 m5 (nI n9) (nI v) m6 k1 k2 k3 k4 m7 k5 k6 k7 k8 m8 m9 m10 k9 m11 m12 m13 hv, kI cI m6 12 ea]) (wr := []) (xrV (n := 0) (As := []) (rest := [.int 3]) (ci := 7) (q0 := 0) hd hK hP hD (c_X7_coloured l D cI cJ cZ cR _ m0 m1 m2 m3 m4 m5 m6 m7 m8 m9 m10 m11 m12 m13 z r9 n9 v k1 k2 k3 k4 k5 k6 k7 k8 k9 hv ea hf) (gV t_750 mV_X7_coloured) hV_X7_coloured ⟨(Nat.le_of_ble_eq_true rfl), (Nat.le_of_ble_eq_true rfl)⟩ rfl rfl [0, 1] rfl rfl rfl hl.1 rfl (Nat.le_of_ble_eq_true rfl) dX7_kindNow_30 ⟨(Nat.le_of_ble_eq_true rfl), (Nat.le_of_ble_eq_true rfl)⟩) hP hD hS hA [0, 1] [] rfl rfl rfl (by decide) (fun r_28 u_29 H locs hw_30 hP hD hS => ?_)
      have hw_31 : MCq ea n9 (2 ^ v) r_28 := hw_30
      have hP : va_P D vwCl [kX7 m0 (nI z) m1 (nI r9) m2 m3 m4 m5 (nI n9) (nI v) m6 k1 k2 k3 k4 m7 k5 k6 k7 k8 m8 m9 m10 k9 m11 m12 m13 hv, kI cI m6 12 ea] H := hP
      have hD : va_D A [kX7 m0 (nI z) m1 (nI r9) m2 m3 m4 m5 (nI n9) (nI v) m6 k1 k2 k3 k4 m7 k5 k6 k7 k8 m8 m9 m10 k9 m11 m12 m13 hv, kI cI m6 12 ea] := hD
      refine lv_ior hx hb dX7_kindNow_33 ?_
      exact hret _ _ _ _ _ _ (3 ||| r_28) () dX7_kindNow_34 rfl hS (Nat.le_of_ble_eq_true rfl) (Nat.le_of_ble_eq_true rfl) ⟨_, hw_31, by rw [mlF_3 c_5 c_23]⟩ (hP.sub [0, 1] rfl) (hD.sub [0, 1] rfl rfl)
set_option maxHeartbeats 4000000 in
set_option maxRecDepth 100000 in
theorem c_X7_isDone (sz : Nat) (m0 : Nat) (m1 : Nat) (m2 : Nat) (m3 : Nat) (m4 : Nat) (m5 : Nat) (m6 : Nat) (m7 : Nat) (m8 : Nat) (m9 : Nat) (m10 : Nat) (m11 : Nat) (m12 : Nat) (m13 : Nat) (z : Nat) (r9 : Nat) (n9 : Nat) (v : Nat) (k1 : Int32) (k2 : Int32) (k3 : Int32) (k4 : Int32) (k5 : Int32) (k6 : Int32) (k7 : Int32) (k8 : Int32) (k9 : Int32) (hv : Int64) (ea : Nat → Int32) (hf : FgI n9 v) : CTi l D cI cJ cZ cR yX7_isDone cX7_isDone 1 (some .boolean) 2 42 0 0 sz [.ref m0] [kX7 m0 (nI z) m1 (nI r9) m2 m3 m4 m5 (nI n9) (nI v) m6 k1 k2 k3 k4 m7 k5 k6 k7 k8 m8 m9 m10 k9 m11 m12 m13 hv, kI cI m6 12 ea] (fun (r : Int32) (u : Unit) => (r = (mDn ea n9)) ∧ (mDn ea n9 = 0 ∨ ¬ n9 = 0)) (fun (u : Unit) => [kX7 m0 (nI z) m1 (nI r9) m2 m3 m4 m5 (nI n9) (nI v) m6 k1 k2 k3 k4 m7 k5 k6 k7 k8 m8 m9 m10 k9 m11 m12 m13 hv, kI cI m6 12 ea]) := by
  refine CTi.of (ty := .boolean) (by decide) (Nat.le_of_ble_eq_true rfl) rfl ?_
  intro p e s m below meth c A Q ls hd hin hK hsz hP hD hA hS hl hret
  obtain ⟨hx, hb, hml, hown, hts⟩ := id hd
  have hK1 := hK.1
  have hown : s.vm.findClass RX7 = some m.cls := hown
  have hl : lv_has ls 1 [(0, .ref m0)] := hl
  refine lv_aload_n hx hb dX7_isDone_0 rfl (lv_at hl 0 rfl) ?_
  refine va_get (D := D) (ci := 7) (v := .int (nI n9)) (C := RX7) (T := TX7) (N := 27) hx hb hts iT_X7 hown hK1 hP 0 rfl rfl 7 (by decide) (hts _ t_558) (fun _ h9 => h9) rfl dX7_isDone_1 ?_
  refine lv_if_le (tgt := 18) hx hb dX7_isDone_4 (by decide) (fun c_1 => ?_) (fun c_1 => ?_)
  · skip
    refine lv_iconst (v := 0) hx hb dX7_isDone_18 (by decide) ?_
    exact hret _ _ _ _ _ _ 0 () dX7_isDone_19 rfl hS (Nat.le_of_ble_eq_true rfl) (Nat.le_of_ble_eq_true rfl) ⟨by simp [mDn, c_1], Or.inl (by simp [mDn, c_1])⟩ (hP.sub [0, 1] rfl) (hD.sub [0, 1] rfl rfl)
  · skip
    refine lv_aload_n hx hb dX7_isDone_7 rfl (lv_at hl 0 rfl) ?_
    refine xc_i (wc := [kX7 m0 (nI z) m1 (nI r9) m2 m3 m4 m5 (nI n9) (nI v) m6 k1 k2 k3 k4 m7 k5 k6 k7 k8 m8 m9 m10 k9 m11 m12 m13 hv, kI cI m6 12 ea]) (wr := []) (xrV (n := 0) (As := []) (rest := []) (ci := 7) (q0 := 0) hd hK hP hD (c_X7_opens l D cI cJ cZ cR _ m0 m1 m2 m3 m4 m5 m6 m7 m8 m9 m10 m11 m12 m13 z r9 n9 v k1 k2 k3 k4 k5 k6 k7 k8 k9 hv ea hf) (gV t_738 mV_X7_opens) hV_X7_opens ⟨(Nat.le_of_ble_eq_true rfl), (Nat.le_of_ble_eq_true rfl)⟩ rfl rfl [0, 1] rfl rfl rfl hl.1 rfl (Nat.le_of_ble_eq_true rfl) dX7_isDone_8 ⟨(Nat.le_of_ble_eq_true rfl), (Nat.le_of_ble_eq_true rfl)⟩) hP hD hS hA [0, 1] [] rfl rfl rfl (by decide) (fun r_2 u_3 H locs hw_4 hP hD hS => ?_)
    have hw_5 : r_2 = (mop ea n9) := hw_4
    subst hw_5
    have hP : va_P D vwCl [kX7 m0 (nI z) m1 (nI r9) m2 m3 m4 m5 (nI n9) (nI v) m6 k1 k2 k3 k4 m7 k5 k6 k7 k8 m8 m9 m10 k9 m11 m12 m13 hv, kI cI m6 12 ea] H := hP
    have hD : va_D A [kX7 m0 (nI z) m1 (nI r9) m2 m3 m4 m5 (nI n9) (nI v) m6 k1 k2 k3 k4 m7 k5 k6 k7 k8 m8 m9 m10 k9 m11 m12 m13 hv, kI cI m6 12 ea] := hD
    refine lv_if_ne (tgt := 18) hx hb dX7_isDone_11 (by decide) (fun c_6 => ?_) (fun c_6 => ?_)
    · skip
      refine lv_iconst (v := 0) hx hb dX7_isDone_18 (by decide) ?_
      exact hret _ _ _ _ _ _ 0 () dX7_isDone_19 rfl hS (Nat.le_of_ble_eq_true rfl) (Nat.le_of_ble_eq_true rfl) ⟨by simp [mDn, c_1, c_6], Or.inl (by simp [mDn, c_1, c_6])⟩ (hP.sub [0, 1] rfl) (hD.sub [0, 1] rfl rfl)
    · skip
      refine lv_iconst (v := 1) hx hb dX7_isDone_14 (by decide) ?_
      refine lv_goto (tgt := 19) hx hb dX7_isDone_15 (by decide) ?_
      exact hret _ _ _ _ _ _ 1 () dX7_isDone_19 rfl hS (Nat.le_of_ble_eq_true rfl) (Nat.le_of_ble_eq_true rfl) ⟨by simp [mDn, c_1, c_6], Or.inr (fun q => c_1 (by rw [q]; decide))⟩ (hP.sub [0, 1] rfl) (hD.sub [0, 1] rfl rfl)
set_option maxHeartbeats 4000000 in
set_option maxRecDepth 100000 in
theorem c_X7_kind (sz : Nat) (m0 : Nat) (m1 : Nat) (m2 : Nat) (m3 : Nat) (m4 : Nat) (m5 : Nat) (m6 : Nat) (m7 : Nat) (m8 : Nat) (m9 : Nat) (m10 : Nat) (m11 : Nat) (m12 : Nat) (m13 : Nat) (z : Nat) (r9 : Nat) (n9 : Nat) (v : Nat) (k1 : Int32) (k2 : Int32) (k3 : Int32) (k4 : Int32) (k5 : Int32) (k6 : Int32) (k7 : Int32) (k8 : Int32) (k9 : Int32) (hv : Int64) (ea : Nat → Int32) (hf : FgI n9 v) : CTi l D cI cJ cZ cR yX7_kind cX7_kind 1 (some .int) 3 67 0 0 sz [.ref m0] [kX7 m0 (nI z) m1 (nI r9) m2 m3 m4 m5 (nI n9) (nI v) m6 k1 k2 k3 k4 m7 k5 k6 k7 k8 m8 m9 m10 k9 m11 m12 m13 hv, kI cI m6 12 ea] (fun (r : Int32) (u : Unit) => (KdM ea n9 v r)) (fun (u : Unit) => [kX7 m0 (nI z) m1 (nI r9) m2 m3 m4 m5 (nI n9) (nI v) m6 k1 k2 k3 k4 m7 k5 k6 k7 k8 m8 m9 m10 k9 m11 m12 m13 hv, kI cI m6 12 ea]) := by
  refine CTi.of (ty := .int) (by decide) (Nat.le_of_ble_eq_true rfl) rfl ?_
  intro p e s m below meth c A Q ls hd hin hK hsz hP hD hA hS hl hret
  obtain ⟨hx, hb, hml, hown, hts⟩ := id hd
  have hK1 := hK.1
  have hown : s.vm.findClass RX7 = some m.cls := hown
  have hl : lv_has ls 1 [(0, .ref m0)] := hl
  refine lv_aload_n hx hb dX7_kind_0 rfl (lv_at hl 0 rfl) ?_
  refine xc_i (wc := [kX7 m0 (nI z) m1 (nI r9) m2 m3 m4 m5 (nI n9) (nI v) m6 k1 k2 k3 k4 m7 k5 k6 k7 k8 m8 m9 m10 k9 m11 m12 m13 hv, kI cI m6 12 ea]) (wr := []) (xrV (n := 0) (As := []) (rest := []) (ci := 7) (q0 := 0) hd hK hP hD (c_X7_isDone l D cI cJ cZ cR _ m0 m1 m2 m3 m4 m5 m6 m7 m8 m9 m10 m11 m12 m13 z r9 n9 v k1 k2 k3 k4 k5 k6 k7 k8 k9 hv ea hf) (gV t_734 mV_X7_isDone) hV_X7_isDone ⟨(Nat.le_of_ble_eq_true rfl), (Nat.le_of_ble_eq_true rfl)⟩ rfl rfl [0, 1] rfl rfl rfl hl.1 rfl (Nat.le_of_ble_eq_true rfl) dX7_kind_1 ⟨(Nat.le_of_ble_eq_true rfl), (Nat.le_of_ble_eq_true rfl)⟩) hP hD hS hA [0, 1] [] rfl rfl rfl (by decide) (fun r_1 u_2 H locs hw_3 hP hD hS => ?_)
  obtain ⟨hw_4, hw_5⟩ : (r_1 = (mDn ea n9)) ∧ (mDn ea n9 = 0 ∨ ¬ n9 = 0) := hw_3
  subst hw_4
  have hP : va_P D vwCl [kX7 m0 (nI z) m1 (nI r9) m2 m3 m4 m5 (nI n9) (nI v) m6 k1 k2 k3 k4 m7 k5 k6 k7 k8 m8 m9 m10 k9 m11 m12 m13 hv, kI cI m6 12 ea] H := hP
  have hD : va_D A [kX7 m0 (nI z) m1 (nI r9) m2 m3 m4 m5 (nI n9) (nI v) m6 k1 k2 k3 k4 m7 k5 k6 k7 k8 m8 m9 m10 k9 m11 m12 m13 hv, kI cI m6 12 ea] := hD
  refine lv_if_eq (tgt := 14) hx hb dX7_kind_4 (by decide) (fun c_6 => ?_) (fun c_6 => ?_)
  · skip
    refine lv_sipush (v := -1003) hx hb dX7_kind_14 (by decide) ?_
    exact hret _ _ _ _ _ _ (-1003) () dX7_kind_17 rfl hS (Nat.le_of_ble_eq_true rfl) (Nat.le_of_ble_eq_true rfl) (Or.inl ⟨c_6, rfl⟩) (hP.sub [0, 1] rfl) (hD.sub [0, 1] rfl rfl)
  · skip
    refine lv_aload_n hx hb dX7_kind_7 rfl (lv_at hl 0 rfl) ?_
    refine xc_i (wc := [kX7 m0 (nI z) m1 (nI r9) m2 m3 m4 m5 (nI n9) (nI v) m6 k1 k2 k3 k4 m7 k5 k6 k7 k8 m8 m9 m10 k9 m11 m12 m13 hv, kI cI m6 12 ea]) (wr := []) (xrV (n := 0) (As := []) (rest := []) (ci := 7) (q0 := 0) hd hK hP hD (c_X7_kindNow l D cI cJ cZ cR _ m0 m1 m2 m3 m4 m5 m6 m7 m8 m9 m10 m11 m12 m13 z r9 n9 v k1 k2 k3 k4 k5 k6 k7 k8 k9 hv ea hf) (gV t_742 mV_X7_kindNow) hV_X7_kindNow ⟨(Nat.le_of_ble_eq_true rfl), (Nat.le_of_ble_eq_true rfl)⟩ rfl rfl [0, 1] rfl rfl rfl hl.1 rfl (Nat.le_of_ble_eq_true rfl) dX7_kind_8 ⟨(Nat.le_of_ble_eq_true rfl), (Nat.le_of_ble_eq_true rfl)⟩) hP hD hS hA [0, 1] [] rfl rfl rfl (by decide) (fun r_7 u_8 H locs hw_9 hP hD hS => ?_)
    have hw_10 : MKd ea n9 v r_7 := hw_9
    have hP : va_P D vwCl [kX7 m0 (nI z) m1 (nI r9) m2 m3 m4 m5 (nI n9) (nI v) m6 k1 k2 k3 k4 m7 k5 k6 k7 k8 m8 m9 m10 k9 m11 m12 m13 hv, kI cI m6 12 ea] H := hP
    have hD : va_D A [kX7 m0 (nI z) m1 (nI r9) m2 m3 m4 m5 (nI n9) (nI v) m6 k1 k2 k3 k4 m7 k5 k6 k7 k8 m8 m9 m10 k9 m11 m12 m13 hv, kI cI m6 12 ea] := hD
    refine lv_goto (tgt := 17) hx hb dX7_kind_11 (by decide) ?_
    exact hret _ _ _ _ _ _ r_7 () dX7_kind_17 rfl hS (Nat.le_of_ble_eq_true rfl) (Nat.le_of_ble_eq_true rfl) (Or.inr ⟨c_6, hw_10⟩) (hP.sub [0, 1] rfl) (hD.sub [0, 1] rfl rfl)
set_option maxHeartbeats 4000000 in
set_option maxRecDepth 100000 in
theorem c_X7_howMany (sz : Nat) (m0 : Nat) (m1 : Nat) (m2 : Nat) (m3 : Nat) (m4 : Nat) (m5 : Nat) (m6 : Nat) (m7 : Nat) (m8 : Nat) (m9 : Nat) (m10 : Nat) (m11 : Nat) (m12 : Nat) (m13 : Nat) (z : Nat) (r9 : Nat) (n9 : Nat) (v : Nat) (k1 : Int32) (k2 : Int32) (k3 : Int32) (k4 : Int32) (k5 : Int32) (k6 : Int32) (k7 : Int32) (k8 : Int32) (k9 : Int32) (hv : Int64) (ea : Nat → Int32) (p0 : Int32) (hf : FgI n9 v) : CTi l D cI cJ cZ cR yX7_howMany cX7_howMany 2 (some .int) 2 42 0 0 sz [.ref m0, .int p0] [kX7 m0 (nI z) m1 (nI r9) m2 m3 m4 m5 (nI n9) (nI v) m6 k1 k2 k3 k4 m7 k5 k6 k7 k8 m8 m9 m10 k9 m11 m12 m13 hv, kI cI m6 12 ea] (fun (r : Int32) (u : Unit) => (r = (cntF p0 (nI z) (nI r9) (nI n9) (nI v) (mop ea n9) k1 k2 k3))) (fun (u : Unit) => [kX7 m0 (nI z) m1 (nI r9) m2 m3 m4 m5 (nI n9) (nI v) m6 k1 k2 k3 k4 m7 k5 k6 k7 k8 m8 m9 m10 k9 m11 m12 m13 hv, kI cI m6 12 ea]) := by
  refine CTi.of (ty := .int) (by decide) (Nat.le_of_ble_eq_true rfl) rfl ?_
  intro p e s m below meth c A Q ls hd hin hK hsz hP hD hA hS hl hret
  obtain ⟨hx, hb, hml, hown, hts⟩ := id hd
  have hK1 := hK.1
  have hown : s.vm.findClass RX7 = some m.cls := hown
  have hl : lv_has ls 2 [(0, .ref m0), (1, .int p0)] := hl
  refine lv_iload_n hx hb dX7_howMany_0 rfl (lv_at hl 1 rfl) ?_
  rcases sw_7 p0 with c_1 | c_1 | c_1 | c_1 | c_1 | c_1 | c_1 | c_1 | c_1
  · refine lv_nmi c_1 ?_
    refine lv_tableIn (off := 47) (tgt := 48) hx hb dX7_howMany_1 (by decide) (by decide) (by decide) (by decide) ?_
    refine lv_aload_n hx hb dX7_howMany_48 rfl (lv_at hl 0 rfl) ?_
    refine va_get (D := D) (ci := 7) (v := .int (nI z)) (C := RX7) (T := TX7) (N := 27) hx hb hts iT_X7 hown hK1 hP 0 rfl rfl 0 (by decide) (hts _ t_551) (fun _ h9 => h9) rfl dX7_howMany_49 ?_
    exact hret _ _ _ _ _ _ (nI z) () dX7_howMany_52 rfl hS (Nat.le_of_ble_eq_true rfl) (Nat.le_of_ble_eq_true rfl) (by rw [c_1]; rfl) (hP.sub [0, 1] rfl) (hD.sub [0, 1] rfl rfl)
  · refine lv_nmi c_1 ?_
    refine lv_tableIn (off := 52) (tgt := 53) hx hb dX7_howMany_1 (by decide) (by decide) (by decide) (by decide) ?_
    refine lv_aload_n hx hb dX7_howMany_53 rfl (lv_at hl 0 rfl) ?_
    refine va_get (D := D) (ci := 7) (v := .int (nI r9)) (C := RX7) (T := TX7) (N := 27) hx hb hts iT_X7 hown hK1 hP 0 rfl rfl 2 (by decide) (hts _ t_553) (fun _ h9 => h9) rfl dX7_howMany_54 ?_
    exact hret _ _ _ _ _ _ (nI r9) () dX7_howMany_57 rfl hS (Nat.le_of_ble_eq_true rfl) (Nat.le_of_ble_eq_true rfl) (by rw [c_1]; rfl) (hP.sub [0, 1] rfl) (hD.sub [0, 1] rfl rfl)
  · refine lv_nmi c_1 ?_
    refine lv_tableIn (off := 57) (tgt := 58) hx hb dX7_howMany_1 (by decide) (by decide) (by decide) (by decide) ?_
    refine lv_aload_n hx hb dX7_howMany_58 rfl (lv_at hl 0 rfl) ?_
    refine va_get (D := D) (ci := 7) (v := .int (nI n9)) (C := RX7) (T := TX7) (N := 27) hx hb hts iT_X7 hown hK1 hP 0 rfl rfl 7 (by decide) (hts _ t_558) (fun _ h9 => h9) rfl dX7_howMany_59 ?_
    exact hret _ _ _ _ _ _ (nI n9) () dX7_howMany_62 rfl hS (Nat.le_of_ble_eq_true rfl) (Nat.le_of_ble_eq_true rfl) (by rw [c_1]; rfl) (hP.sub [0, 1] rfl) (hD.sub [0, 1] rfl rfl)
  · refine lv_nmi c_1 ?_
    refine lv_tableIn (off := 62) (tgt := 63) hx hb dX7_howMany_1 (by decide) (by decide) (by decide) (by decide) ?_
    refine lv_aload_n hx hb dX7_howMany_63 rfl (lv_at hl 0 rfl) ?_
    refine va_get (D := D) (ci := 7) (v := .int (nI v)) (C := RX7) (T := TX7) (N := 27) hx hb hts iT_X7 hown hK1 hP 0 rfl rfl 8 (by decide) (hts _ t_559) (fun _ h9 => h9) rfl dX7_howMany_64 ?_
    exact hret _ _ _ _ _ _ (nI v) () dX7_howMany_67 rfl hS (Nat.le_of_ble_eq_true rfl) (Nat.le_of_ble_eq_true rfl) (by rw [c_1]; rfl) (hP.sub [0, 1] rfl) (hD.sub [0, 1] rfl rfl)
  · refine lv_nmi c_1 ?_
    refine lv_tableIn (off := 67) (tgt := 68) hx hb dX7_howMany_1 (by decide) (by decide) (by decide) (by decide) ?_
    refine lv_aload_n hx hb dX7_howMany_68 rfl (lv_at hl 0 rfl) ?_
    refine xc_i (wc := [kX7 m0 (nI z) m1 (nI r9) m2 m3 m4 m5 (nI n9) (nI v) m6 k1 k2 k3 k4 m7 k5 k6 k7 k8 m8 m9 m10 k9 m11 m12 m13 hv, kI cI m6 12 ea]) (wr := []) (xrV (n := 0) (As := []) (rest := []) (ci := 7) (q0 := 0) hd hK hP hD (c_X7_opens l D cI cJ cZ cR _ m0 m1 m2 m3 m4 m5 m6 m7 m8 m9 m10 m11 m12 m13 z r9 n9 v k1 k2 k3 k4 k5 k6 k7 k8 k9 hv ea hf) (gV t_738 mV_X7_opens) hV_X7_opens ⟨(Nat.le_of_ble_eq_true rfl), (Nat.le_of_ble_eq_true rfl)⟩ rfl rfl [0, 1] rfl rfl rfl hl.1 rfl (Nat.le_of_ble_eq_true rfl) dX7_howMany_69 ⟨(Nat.le_of_ble_eq_true rfl), (Nat.le_of_ble_eq_true rfl)⟩) hP hD hS hA [0, 1] [] rfl rfl rfl (by decide) (fun r_2 u_3 H locs hw_4 hP hD hS => ?_)
    have hw_5 : r_2 = (mop ea n9) := hw_4
    subst hw_5
    have hP : va_P D vwCl [kX7 m0 (nI z) m1 (nI r9) m2 m3 m4 m5 (nI n9) (nI v) m6 k1 k2 k3 k4 m7 k5 k6 k7 k8 m8 m9 m10 k9 m11 m12 m13 hv, kI cI m6 12 ea] H := hP
    have hD : va_D A [kX7 m0 (nI z) m1 (nI r9) m2 m3 m4 m5 (nI n9) (nI v) m6 k1 k2 k3 k4 m7 k5 k6 k7 k8 m8 m9 m10 k9 m11 m12 m13 hv, kI cI m6 12 ea] := hD
    exact hret _ _ _ _ _ _ (mop ea n9) () dX7_howMany_72 rfl hS (Nat.le_of_ble_eq_true rfl) (Nat.le_of_ble_eq_true rfl) (by rw [c_1]; rfl) (hP.sub [0, 1] rfl) (hD.sub [0, 1] rfl rfl)
  · refine lv_nmi c_1 ?_
    refine lv_tableIn (off := 72) (tgt := 73) hx hb dX7_howMany_1 (by decide) (by decide) (by decide) (by decide) ?_
    refine lv_aload_n hx hb dX7_howMany_73 rfl (lv_at hl 0 rfl) ?_
    refine va_get (D := D) (ci := 7) (v := .int k1) (C := RX7) (T := TX7) (N := 27) hx hb hts iT_X7 hown hK1 hP 0 rfl rfl 10 (by decide) (hts _ t_561) (fun _ h9 => h9) rfl dX7_howMany_74 ?_
    exact hret _ _ _ _ _ _ k1 () dX7_howMany_77 rfl hS (Nat.le_of_ble_eq_true rfl) (Nat.le_of_ble_eq_true rfl) (by rw [c_1]; rfl) (hP.sub [0, 1] rfl) (hD.sub [0, 1] rfl rfl)
  · refine lv_nmi c_1 ?_
    refine lv_tableIn (off := 77) (tgt := 78) hx hb dX7_howMany_1 (by decide) (by decide) (by decide) (by decide) ?_
    refine lv_aload_n hx hb dX7_howMany_78 rfl (lv_at hl 0 rfl) ?_
    refine va_get (D := D) (ci := 7) (v := .int k2) (C := RX7) (T := TX7) (N := 27) hx hb hts iT_X7 hown hK1 hP 0 rfl rfl 11 (by decide) (hts _ t_562) (fun _ h9 => h9) rfl dX7_howMany_79 ?_
    exact hret _ _ _ _ _ _ k2 () dX7_howMany_82 rfl hS (Nat.le_of_ble_eq_true rfl) (Nat.le_of_ble_eq_true rfl) (by rw [c_1]; rfl) (hP.sub [0, 1] rfl) (hD.sub [0, 1] rfl rfl)
  · refine lv_nmi c_1 ?_
    refine lv_tableIn (off := 82) (tgt := 83) hx hb dX7_howMany_1 (by decide) (by decide) (by decide) (by decide) ?_
    refine lv_aload_n hx hb dX7_howMany_83 rfl (lv_at hl 0 rfl) ?_
    refine va_get (D := D) (ci := 7) (v := .int k3) (C := RX7) (T := TX7) (N := 27) hx hb hts iT_X7 hown hK1 hP 0 rfl rfl 12 (by decide) (hts _ t_563) (fun _ h9 => h9) rfl dX7_howMany_84 ?_
    exact hret _ _ _ _ _ _ k3 () dX7_howMany_87 rfl hS (Nat.le_of_ble_eq_true rfl) (Nat.le_of_ble_eq_true rfl) (by rw [c_1]; rfl) (hP.sub [0, 1] rfl) (hD.sub [0, 1] rfl rfl)
  · refine lv_tableOut (tgt := 88) hx hb dX7_howMany_1 c_1 (by decide) ?_
    refine lv_sipush (v := -1002) hx hb dX7_howMany_88 (by decide) ?_
    exact hret _ _ _ _ _ _ (-1002) () dX7_howMany_91 rfl hS (Nat.le_of_ble_eq_true rfl) (Nat.le_of_ble_eq_true rfl) (cnt_o c_1).symm (hP.sub [0, 1] rfl) (hD.sub [0, 1] rfl rfl)
set_option maxHeartbeats 4000000 in
set_option maxRecDepth 100000 in
theorem c_X7_count (sz : Nat) (m0 : Nat) (m1 : Nat) (m2 : Nat) (m3 : Nat) (m4 : Nat) (m5 : Nat) (m6 : Nat) (m7 : Nat) (m8 : Nat) (m9 : Nat) (m10 : Nat) (m11 : Nat) (m12 : Nat) (m13 : Nat) (z : Nat) (r9 : Nat) (n9 : Nat) (v : Nat) (k1 : Int32) (k2 : Int32) (k3 : Int32) (k4 : Int32) (k5 : Int32) (k6 : Int32) (k7 : Int32) (k8 : Int32) (k9 : Int32) (hv : Int64) (ea : Nat → Int32) (p0 : Int32) (hf : FgI n9 v) : CTi l D cI cJ cZ cR yX7_count cX7_count 2 (some .int) 3 63 0 0 sz [.ref m0, .int p0] [kX7 m0 (nI z) m1 (nI r9) m2 m3 m4 m5 (nI n9) (nI v) m6 k1 k2 k3 k4 m7 k5 k6 k7 k8 m8 m9 m10 k9 m11 m12 m13 hv, kI cI m6 12 ea] (fun (r : Int32) (u : Unit) => (r = (cntF p0 (nI z) (nI r9) (nI n9) (nI v) (mop ea n9) k1 k2 k3))) (fun (u : Unit) => [kX7 m0 (nI z) m1 (nI r9) m2 m3 m4 m5 (nI n9) (nI v) m6 k1 k2 k3 k4 m7 k5 k6 k7 k8 m8 m9 m10 k9 m11 m12 m13 hv, kI cI m6 12 ea]) := by
  refine CTi.of (ty := .int) (by decide) (Nat.le_of_ble_eq_true rfl) rfl ?_
  intro p e s m below meth c A Q ls hd hin hK hsz hP hD hA hS hl hret
  obtain ⟨hx, hb, hml, hown, hts⟩ := id hd
  have hK1 := hK.1
  have hown : s.vm.findClass RX7 = some m.cls := hown
  have hl : lv_has ls 2 [(0, .ref m0), (1, .int p0)] := hl
  refine lv_aload_n hx hb dX7_count_0 rfl (lv_at hl 0 rfl) ?_
  refine lv_iload_n hx hb dX7_count_1 rfl (lv_at hl 1 rfl) ?_
  refine xc_i (wc := [kX7 m0 (nI z) m1 (nI r9) m2 m3 m4 m5 (nI n9) (nI v) m6 k1 k2 k3 k4 m7 k5 k6 k7 k8 m8 m9 m10 k9 m11 m12 m13 hv, kI cI m6 12 ea]) (wr := []) (xrV (n := 1) (As := [.int p0]) (rest := []) (ci := 7) (q0 := 0) hd hK hP hD (c_X7_howMany l D cI cJ cZ cR _ m0 m1 m2 m3 m4 m5 m6 m7 m8 m9 m10 m11 m12 m13 z r9 n9 v k1 k2 k3 k4 k5 k6 k7 k8 k9 hv ea p0 hf) (gV t_854 mV_X7_howMany) hV_X7_howMany ⟨(Nat.le_of_ble_eq_true rfl), (Nat.le_of_ble_eq_true rfl)⟩ rfl rfl [0, 1] rfl rfl rfl hl.1 rfl (Nat.le_of_ble_eq_true rfl) dX7_count_2 ⟨(Nat.le_of_ble_eq_true rfl), (Nat.le_of_ble_eq_true rfl)⟩) hP hD hS hA [0, 1] [] rfl rfl rfl (by decide) (fun r_1 u_2 H locs hw_3 hP hD hS => ?_)
  have hw_4 : r_1 = (cntF p0 (nI z) (nI r9) (nI n9) (nI v) (mop ea n9) k1 k2 k3) := hw_3
  subst hw_4
  have hP : va_P D vwCl [kX7 m0 (nI z) m1 (nI r9) m2 m3 m4 m5 (nI n9) (nI v) m6 k1 k2 k3 k4 m7 k5 k6 k7 k8 m8 m9 m10 k9 m11 m12 m13 hv, kI cI m6 12 ea] H := hP
  have hD : va_D A [kX7 m0 (nI z) m1 (nI r9) m2 m3 m4 m5 (nI n9) (nI v) m6 k1 k2 k3 k4 m7 k5 k6 k7 k8 m8 m9 m10 k9 m11 m12 m13 hv, kI cI m6 12 ea] := hD
  exact hret _ _ _ _ _ _ (cntF p0 (nI z) (nI r9) (nI n9) (nI v) (mop ea n9) k1 k2 k3) () dX7_count_5 rfl hS (Nat.le_of_ble_eq_true rfl) (Nat.le_of_ble_eq_true rfl) rfl (hP.sub [0, 1] rfl) (hD.sub [0, 1] rfl rfl)
set_option maxHeartbeats 4000000 in
set_option maxRecDepth 100000 in
theorem c_X7_mix (sz : Nat) (m0 : Nat) (m1 : Nat) (m2 : Nat) (m3 : Nat) (m4 : Nat) (m5 : Nat) (m6 : Nat) (m7 : Nat) (m8 : Nat) (m9 : Nat) (m10 : Nat) (m11 : Nat) (m12 : Nat) (m13 : Nat) (z : Nat) (r9 : Nat) (n9 : Nat) (v : Nat) (k1 : Int32) (k2 : Int32) (k3 : Int32) (k4 : Int32) (k5 : Int32) (k6 : Int32) (k7 : Int32) (k8 : Int32) (k9 : Int32) (hv : Int64) (p0 : Int64)  : CTv l D cI cJ cZ cR yX7_mix cX7_mix 3 none 0 0 0 0 sz [.ref m0, .long p0] [kX7 m0 (nI z) m1 (nI r9) m2 m3 m4 m5 (nI n9) (nI v) m6 k1 k2 k3 k4 m7 k5 k6 k7 k8 m8 m9 m10 k9 m11 m12 m13 hv] (fun (u : Int64) => True) (fun (u : Int64) => [kX7 m0 (nI z) m1 (nI r9) m2 m3 m4 m5 (nI n9) (nI v) m6 k1 k2 k3 k4 m7 k5 k6 k7 k8 m8 m9 m10 k9 m11 m12 m13 u]) := by
  refine CTv.of (by decide) (Nat.le_of_ble_eq_true rfl) rfl ?_
  intro p e s m below meth c A Q ls hd hin hK hsz hP hD hA hS hl hret
  obtain ⟨hx, hb, hml, hown, hts⟩ := id hd
  have hK1 := hK.1
  have hown : s.vm.findClass RX7 = some m.cls := hown
  have hl : lv_has ls 3 [(0, .ref m0), (1, .long p0)] := hl
  refine lv_aload_n hx hb dX7_mix_0 rfl (lv_at hl 0 rfl) ?_
  refine lv_ldc2 hx hb hown (hts _ t_867) dX7_mix_1 ?_
  refine lv_aload_n hx hb dX7_mix_4 rfl (lv_at hl 0 rfl) ?_
  refine va_get (D := D) (ci := 7) (v := .long hv) (C := RX7) (T := TX7) (N := 27) hx hb hts iT_X7 hown hK1 hP 0 rfl rfl 26 (by decide) (hts _ t_577) (fun _ h9 => h9) rfl dX7_mix_5 ?_
  refine lv_lmul hx hb dX7_mix_8 ?_
  refine lv_lload_n hx hb dX7_mix_9 rfl (lv_at hl 1 rfl) ?_
  refine lv_ladd hx hb dX7_mix_10 ?_
  refine va_put (D := D) (ci := 7) (v := .long ((31 * hv) + p0)) (ty := .long) (C := RX7) (T := TX7) (N := 27) hx hb hts iT_X7 tyX7 tyX7_ok nmX7 hown hK1 hP hD hS 0 rfl rfl 26 (by decide) (hts _ t_577) (fun _ h9 => h9) rfl (by decide +kernel) rfl rfl (Nat.le_of_ble_eq_true rfl) dX7_mix_11 (fun H locs hP hD hS => ?_)
  have hP : va_P D vwCl [kX7 m0 (nI z) m1 (nI r9) m2 m3 m4 m5 (nI n9) (nI v) m6 k1 k2 k3 k4 m7 k5 k6 k7 k8 m8 m9 m10 k9 m11 m12 m13 ((31 * hv) + p0)] H := hP
  have hD : va_D A [kX7 m0 (nI z) m1 (nI r9) m2 m3 m4 m5 (nI n9) (nI v) m6 k1 k2 k3 k4 m7 k5 k6 k7 k8 m8 m9 m10 k9 m11 m12 m13 ((31 * hv) + p0)] := hD
  exact hret _ _ _ _ _ _ ((31 * hv) + p0) dX7_mix_14 hS (Nat.le_of_ble_eq_true rfl) (Nat.le_of_ble_eq_true rfl) trivial (hP.sub [0] rfl) (hD.sub [0] rfl rfl)
end
