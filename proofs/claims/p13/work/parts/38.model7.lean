theorem mV_X7_at : Cond.instanceMethod yX7_at ∈ gT ∧ Cond.selects RX7 yX7_at yX7_at ∈ gT ∧ Cond.initialized RX7 ∈ gT ∧ Cond.code yX7_at cX7_at 5 (some .int) ∈ gT := ⟨t_779, ts_46, t_8, t_780⟩
theorem hV_X7_at : yX7_at.cls = RX7 ∧ yX7_at.cls ≠ "java/lang/invoke/MethodHandle" ∧ yX7_at.cls ≠ "java/lang/invoke/VarHandle" ∧ (parseMethodDescriptor yX7_at.desc).map (fun d => d.parameters.length) = some 4 := by decide +kernel
theorem mV_X7_stepsOf : Cond.instanceMethod yX7_stepsOf ∈ gT ∧ Cond.selects RX7 yX7_stepsOf yX7_stepsOf ∈ gT ∧ Cond.initialized RX7 ∈ gT ∧ Cond.code yX7_stepsOf cX7_stepsOf 7 (some .int) ∈ gT := ⟨t_800, ts_51, t_8, t_801⟩
theorem hV_X7_stepsOf : yX7_stepsOf.cls = RX7 ∧ yX7_stepsOf.cls ≠ "java/lang/invoke/MethodHandle" ∧ yX7_stepsOf.cls ≠ "java/lang/invoke/VarHandle" ∧ (parseMethodDescriptor yX7_stepsOf.desc).map (fun d => d.parameters.length) = some 4 := by decide +kernel
theorem mV_X7_stepsFor : Cond.instanceMethod yX7_stepsFor ∈ gT ∧ Cond.selects RX7 yX7_stepsFor yX7_stepsFor ∈ gT ∧ Cond.initialized RX7 ∈ gT ∧ Cond.code yX7_stepsFor cX7_stepsFor 3 (some .int) ∈ gT := ⟨t_796, ts_50, t_8, t_797⟩
theorem hV_X7_stepsFor : yX7_stepsFor.cls = RX7 ∧ yX7_stepsFor.cls ≠ "java/lang/invoke/MethodHandle" ∧ yX7_stepsFor.cls ≠ "java/lang/invoke/VarHandle" ∧ (parseMethodDescriptor yX7_stepsFor.desc).map (fun d => d.parameters.length) = some 2 := by decide +kernel
theorem mV_X7_areApart : Cond.instanceMethod yX7_areApart ∈ gT ∧ Cond.selects RX7 yX7_areApart yX7_areApart ∈ gT ∧ Cond.initialized RX7 ∈ gT ∧ Cond.code yX7_areApart cX7_areApart 7 (some .boolean) ∈ gT := ⟨t_804, ts_52, t_8, t_805⟩
theorem hV_X7_areApart : yX7_areApart.cls = RX7 ∧ yX7_areApart.cls ≠ "java/lang/invoke/MethodHandle" ∧ yX7_areApart.cls ≠ "java/lang/invoke/VarHandle" ∧ (parseMethodDescriptor yX7_areApart.desc).map (fun d => d.parameters.length) = some 4 := by decide +kernel
theorem mV_X7_areUnlike : Cond.instanceMethod yX7_areUnlike ∈ gT ∧ Cond.selects RX7 yX7_areUnlike yX7_areUnlike ∈ gT ∧ Cond.initialized RX7 ∈ gT ∧ Cond.code yX7_areUnlike cX7_areUnlike 5 (some .boolean) ∈ gT := ⟨t_788, ts_48, t_8, t_789⟩
theorem hV_X7_areUnlike : yX7_areUnlike.cls = RX7 ∧ yX7_areUnlike.cls ≠ "java/lang/invoke/MethodHandle" ∧ yX7_areUnlike.cls ≠ "java/lang/invoke/VarHandle" ∧ (parseMethodDescriptor yX7_areUnlike.desc).map (fun d => d.parameters.length) = some 1 := by decide +kernel
theorem mS_X7_ones : Cond.static yX7_ones ∈ gT ∧ Cond.initialized yX7_ones.cls ∈ gT ∧ Cond.code yX7_ones cX7_ones 3 (some .int) ∈ gT := ⟨t_767, t_8, t_768⟩
theorem hS_X7_ones : yX7_ones.cls ≠ "java/lang/invoke/MethodHandle" ∧ yX7_ones.cls ≠ "java/lang/invoke/VarHandle" ∧ (parseMethodDescriptor yX7_ones.desc).map (fun d => d.parameters.length) = some 1 := by decide +kernel
theorem dX7_areApart_0 : decode cX7_areApart 0 = .ok (.iconst 1, 1) := by decide +kernel
theorem dX7_areApart_1 : decode cX7_areApart 1 = .ok (.aload_n 0, 1) := by decide +kernel
theorem dX7_areApart_2 : decode cX7_areApart 2 = .ok (.getfield 37, 3) := by decide +kernel
theorem dX7_areApart_5 : decode cX7_areApart 5 = .ok (.iload_n 1, 1) := by decide +kernel
theorem dX7_areApart_6 : decode cX7_areApart 6 = .ok (.invokestatic 130, 3) := by decide +kernel
theorem dX7_areApart_9 : decode cX7_areApart 9 = .ok (.iaload, 1) := by decide +kernel
theorem dX7_areApart_10 : decode cX7_areApart 10 = .ok (.ishl, 1) := by decide +kernel
theorem dX7_areApart_11 : decode cX7_areApart 11 = .ok (.iconst 1, 1) := by decide +kernel
theorem dX7_areApart_12 : decode cX7_areApart 12 = .ok (.aload_n 0, 1) := by decide +kernel
theorem dX7_areApart_13 : decode cX7_areApart 13 = .ok (.getfield 37, 3) := by decide +kernel
theorem dX7_areApart_16 : decode cX7_areApart 16 = .ok (.iload_n 1, 1) := by decide +kernel
theorem dX7_areApart_17 : decode cX7_areApart 17 = .ok (.invokestatic 136, 3) := by decide +kernel
theorem dX7_areApart_20 : decode cX7_areApart 20 = .ok (.iaload, 1) := by decide +kernel
theorem dX7_areApart_21 : decode cX7_areApart 21 = .ok (.ishl, 1) := by decide +kernel
theorem dX7_areApart_22 : decode cX7_areApart 22 = .ok (.ior, 1) := by decide +kernel
theorem dX7_areApart_23 : decode cX7_areApart 23 = .ok (.istore 5, 2) := by decide +kernel
theorem dX7_areApart_25 : decode cX7_areApart 25 = .ok (.iconst 1, 1) := by decide +kernel
theorem dX7_areApart_26 : decode cX7_areApart 26 = .ok (.aload_n 0, 1) := by decide +kernel
theorem dX7_areApart_27 : decode cX7_areApart 27 = .ok (.getfield 37, 3) := by decide +kernel
theorem dX7_areApart_30 : decode cX7_areApart 30 = .ok (.iload_n 3, 1) := by decide +kernel
theorem dX7_areApart_31 : decode cX7_areApart 31 = .ok (.invokestatic 130, 3) := by decide +kernel
theorem dX7_areApart_34 : decode cX7_areApart 34 = .ok (.iaload, 1) := by decide +kernel
theorem dX7_areApart_35 : decode cX7_areApart 35 = .ok (.ishl, 1) := by decide +kernel
theorem dX7_areApart_36 : decode cX7_areApart 36 = .ok (.iconst 1, 1) := by decide +kernel
theorem dX7_areApart_37 : decode cX7_areApart 37 = .ok (.aload_n 0, 1) := by decide +kernel
theorem dX7_areApart_38 : decode cX7_areApart 38 = .ok (.getfield 37, 3) := by decide +kernel
theorem dX7_areApart_41 : decode cX7_areApart 41 = .ok (.iload_n 3, 1) := by decide +kernel
theorem dX7_areApart_42 : decode cX7_areApart 42 = .ok (.invokestatic 136, 3) := by decide +kernel
theorem dX7_areApart_45 : decode cX7_areApart 45 = .ok (.iaload, 1) := by decide +kernel
theorem dX7_areApart_46 : decode cX7_areApart 46 = .ok (.ishl, 1) := by decide +kernel
theorem dX7_areApart_47 : decode cX7_areApart 47 = .ok (.ior, 1) := by decide +kernel
theorem dX7_areApart_48 : decode cX7_areApart 48 = .ok (.istore 6, 2) := by decide +kernel
theorem dX7_areApart_50 : decode cX7_areApart 50 = .ok (.aload_n 0, 1) := by decide +kernel
theorem dX7_areApart_51 : decode cX7_areApart 51 = .ok (.getfield 34, 3) := by decide +kernel
theorem dX7_areApart_54 : decode cX7_areApart 54 = .ok (.iload_n 2, 1) := by decide +kernel
theorem dX7_areApart_55 : decode cX7_areApart 55 = .ok (.iaload, 1) := by decide +kernel
theorem dX7_areApart_56 : decode cX7_areApart 56 = .ok (.aload_n 0, 1) := by decide +kernel
theorem dX7_areApart_57 : decode cX7_areApart 57 = .ok (.getfield 34, 3) := by decide +kernel
theorem dX7_areApart_60 : decode cX7_areApart 60 = .ok (.iload 4, 2) := by decide +kernel
theorem dX7_areApart_62 : decode cX7_areApart 62 = .ok (.iaload, 1) := by decide +kernel
theorem dX7_areApart_63 : decode cX7_areApart 63 = .ok (.iand, 1) := by decide +kernel
theorem dX7_areApart_64 : decode cX7_areApart 64 = .ok (.iload 5, 2) := by decide +kernel
theorem dX7_areApart_66 : decode cX7_areApart 66 = .ok (.iload 6, 2) := by decide +kernel
theorem dX7_areApart_68 : decode cX7_areApart 68 = .ok (.iand, 1) := by decide +kernel
theorem dX7_areApart_69 : decode cX7_areApart 69 = .ok (.iconst (-1), 1) := by decide +kernel
theorem dX7_areApart_70 : decode cX7_areApart 70 = .ok (.ixor, 1) := by decide +kernel
theorem dX7_areApart_71 : decode cX7_areApart 71 = .ok (.iand, 1) := by decide +kernel
theorem dX7_areApart_72 : decode cX7_areApart 72 = .ok (.ifCond .ne 7, 3) := by decide +kernel
theorem dX7_areApart_75 : decode cX7_areApart 75 = .ok (.iconst 1, 1) := by decide +kernel
theorem dX7_areApart_76 : decode cX7_areApart 76 = .ok (.goto 4, 3) := by decide +kernel
theorem dX7_areApart_79 : decode cX7_areApart 79 = .ok (.iconst 0, 1) := by decide +kernel
theorem dX7_areApart_80 : decode cX7_areApart 80 = .ok (.ireturn, 1) := by decide +kernel
theorem dX7_areUnlike_0 : decode cX7_areUnlike 0 = .ok (.iconst 1, 1) := by decide +kernel
theorem dX7_areUnlike_1 : decode cX7_areUnlike 1 = .ok (.istore_n 2, 1) := by decide +kernel
theorem dX7_areUnlike_2 : decode cX7_areUnlike 2 = .ok (.iconst 2, 1) := by decide +kernel
theorem dX7_areUnlike_3 : decode cX7_areUnlike 3 = .ok (.istore_n 3, 1) := by decide +kernel
theorem dX7_areUnlike_4 : decode cX7_areUnlike 4 = .ok (.iload_n 3, 1) := by decide +kernel
theorem dX7_areUnlike_5 : decode cX7_areUnlike 5 = .ok (.iload_n 1, 1) := by decide +kernel
theorem dX7_areUnlike_6 : decode cX7_areUnlike 6 = .ok (.if_icmp .ge 50, 3) := by decide +kernel
theorem dX7_areUnlike_9 : decode cX7_areUnlike 9 = .ok (.iconst 0, 1) := by decide +kernel
theorem dX7_areUnlike_10 : decode cX7_areUnlike 10 = .ok (.istore 4, 2) := by decide +kernel
theorem dX7_areUnlike_12 : decode cX7_areUnlike 12 = .ok (.iload 4, 2) := by decide +kernel
theorem dX7_areUnlike_14 : decode cX7_areUnlike 14 = .ok (.iload_n 3, 1) := by decide +kernel
theorem dX7_areUnlike_15 : decode cX7_areUnlike 15 = .ok (.if_icmp .ge 35, 3) := by decide +kernel
theorem dX7_areUnlike_18 : decode cX7_areUnlike 18 = .ok (.iload_n 2, 1) := by decide +kernel
theorem dX7_areUnlike_19 : decode cX7_areUnlike 19 = .ok (.ifCond .eq 23, 3) := by decide +kernel
theorem dX7_areUnlike_22 : decode cX7_areUnlike 22 = .ok (.aload_n 0, 1) := by decide +kernel
theorem dX7_areUnlike_23 : decode cX7_areUnlike 23 = .ok (.getfield 37, 3) := by decide +kernel
theorem dX7_areUnlike_26 : decode cX7_areUnlike 26 = .ok (.iload_n 3, 1) := by decide +kernel
theorem dX7_areUnlike_27 : decode cX7_areUnlike 27 = .ok (.iaload, 1) := by decide +kernel
theorem dX7_areUnlike_28 : decode cX7_areUnlike 28 = .ok (.aload_n 0, 1) := by decide +kernel
theorem dX7_areUnlike_29 : decode cX7_areUnlike 29 = .ok (.getfield 37, 3) := by decide +kernel
theorem dX7_areUnlike_32 : decode cX7_areUnlike 32 = .ok (.iload 4, 2) := by decide +kernel
theorem dX7_areUnlike_34 : decode cX7_areUnlike 34 = .ok (.iaload, 1) := by decide +kernel
theorem dX7_areUnlike_35 : decode cX7_areUnlike 35 = .ok (.if_icmp .eq 7, 3) := by decide +kernel
theorem dX7_areUnlike_38 : decode cX7_areUnlike 38 = .ok (.iconst 1, 1) := by decide +kernel
theorem dX7_areUnlike_39 : decode cX7_areUnlike 39 = .ok (.goto 4, 3) := by decide +kernel
theorem dX7_areUnlike_42 : decode cX7_areUnlike 42 = .ok (.iconst 0, 1) := by decide +kernel
theorem dX7_areUnlike_43 : decode cX7_areUnlike 43 = .ok (.istore_n 2, 1) := by decide +kernel
theorem dX7_areUnlike_44 : decode cX7_areUnlike 44 = .ok (.iinc 4 1, 3) := by decide +kernel
theorem dX7_areUnlike_47 : decode cX7_areUnlike 47 = .ok (.goto (-35), 3) := by decide +kernel
theorem dX7_areUnlike_50 : decode cX7_areUnlike 50 = .ok (.iinc 3 1, 3) := by decide +kernel
theorem dX7_areUnlike_53 : decode cX7_areUnlike 53 = .ok (.goto (-49), 3) := by decide +kernel
theorem dX7_areUnlike_56 : decode cX7_areUnlike 56 = .ok (.iload_n 2, 1) := by decide +kernel
theorem dX7_areUnlike_57 : decode cX7_areUnlike 57 = .ok (.ireturn, 1) := by decide +kernel
theorem dX7_at_0 : decode cX7_at 0 = .ok (.iload_n 1, 1) := by decide +kernel
theorem dX7_at_1 : decode cX7_at 1 = .ok (.iconst 5, 1) := by decide +kernel
theorem dX7_at_2 : decode cX7_at 2 = .ok (.imul, 1) := by decide +kernel
theorem dX7_at_3 : decode cX7_at 3 = .ok (.iload_n 2, 1) := by decide +kernel
theorem dX7_at_4 : decode cX7_at 4 = .ok (.iadd, 1) := by decide +kernel
theorem dX7_at_5 : decode cX7_at 5 = .ok (.iconst 5, 1) := by decide +kernel
theorem dX7_at_6 : decode cX7_at 6 = .ok (.imul, 1) := by decide +kernel
theorem dX7_at_7 : decode cX7_at 7 = .ok (.iload_n 3, 1) := by decide +kernel
theorem dX7_at_8 : decode cX7_at 8 = .ok (.iadd, 1) := by decide +kernel
theorem dX7_at_9 : decode cX7_at 9 = .ok (.bipush 32, 2) := by decide +kernel
theorem dX7_at_11 : decode cX7_at 11 = .ok (.imul, 1) := by decide +kernel
theorem dX7_at_12 : decode cX7_at 12 = .ok (.iload 4, 2) := by decide +kernel
theorem dX7_at_14 : decode cX7_at 14 = .ok (.iadd, 1) := by decide +kernel
theorem dX7_at_15 : decode cX7_at 15 = .ok (.ireturn, 1) := by decide +kernel
theorem dX7_ones_0 : decode cX7_ones 0 = .ok (.iconst 0, 1) := by decide +kernel
theorem dX7_ones_1 : decode cX7_ones 1 = .ok (.istore_n 1, 1) := by decide +kernel
theorem dX7_ones_2 : decode cX7_ones 2 = .ok (.iconst 0, 1) := by decide +kernel
theorem dX7_ones_3 : decode cX7_ones 3 = .ok (.istore_n 2, 1) := by decide +kernel
theorem dX7_ones_4 : decode cX7_ones 4 = .ok (.iload_n 2, 1) := by decide +kernel
theorem dX7_ones_5 : decode cX7_ones 5 = .ok (.iconst 5, 1) := by decide +kernel
theorem dX7_ones_6 : decode cX7_ones 6 = .ok (.if_icmp .ge 17, 3) := by decide +kernel
theorem dX7_ones_9 : decode cX7_ones 9 = .ok (.iload_n 1, 1) := by decide +kernel
theorem dX7_ones_10 : decode cX7_ones 10 = .ok (.iload_n 0, 1) := by decide +kernel
theorem dX7_ones_11 : decode cX7_ones 11 = .ok (.iload_n 2, 1) := by decide +kernel
theorem dX7_ones_12 : decode cX7_ones 12 = .ok (.ishr, 1) := by decide +kernel
theorem dX7_ones_13 : decode cX7_ones 13 = .ok (.iconst 1, 1) := by decide +kernel
theorem dX7_ones_14 : decode cX7_ones 14 = .ok (.iand, 1) := by decide +kernel
theorem dX7_ones_15 : decode cX7_ones 15 = .ok (.iadd, 1) := by decide +kernel
theorem dX7_ones_16 : decode cX7_ones 16 = .ok (.istore_n 1, 1) := by decide +kernel
theorem dX7_ones_17 : decode cX7_ones 17 = .ok (.iinc 2 1, 3) := by decide +kernel
theorem dX7_ones_20 : decode cX7_ones 20 = .ok (.goto (-16), 3) := by decide +kernel
theorem dX7_ones_23 : decode cX7_ones 23 = .ok (.iload_n 1, 1) := by decide +kernel
theorem dX7_ones_24 : decode cX7_ones 24 = .ok (.ireturn, 1) := by decide +kernel
theorem dX7_stepsFor_0 : decode cX7_stepsFor 0 = .ok (.aload_n 0, 1) := by decide +kernel
theorem dX7_stepsFor_1 : decode cX7_stepsFor 1 = .ok (.iload_n 1, 1) := by decide +kernel
theorem dX7_stepsFor_2 : decode cX7_stepsFor 2 = .ok (.invokestatic 127, 3) := by decide +kernel
theorem dX7_stepsFor_5 : decode cX7_stepsFor 5 = .ok (.aload_n 0, 1) := by decide +kernel
theorem dX7_stepsFor_6 : decode cX7_stepsFor 6 = .ok (.getfield 37, 3) := by decide +kernel
theorem dX7_stepsFor_9 : decode cX7_stepsFor 9 = .ok (.iload_n 1, 1) := by decide +kernel
theorem dX7_stepsFor_10 : decode cX7_stepsFor 10 = .ok (.invokestatic 130, 3) := by decide +kernel
theorem dX7_stepsFor_13 : decode cX7_stepsFor 13 = .ok (.iaload, 1) := by decide +kernel
theorem dX7_stepsFor_14 : decode cX7_stepsFor 14 = .ok (.aload_n 0, 1) := by decide +kernel
theorem dX7_stepsFor_15 : decode cX7_stepsFor 15 = .ok (.getfield 37, 3) := by decide +kernel
theorem dX7_stepsFor_18 : decode cX7_stepsFor 18 = .ok (.iload_n 1, 1) := by decide +kernel
theorem dX7_stepsFor_19 : decode cX7_stepsFor 19 = .ok (.invokestatic 136, 3) := by decide +kernel
theorem dX7_stepsFor_22 : decode cX7_stepsFor 22 = .ok (.iaload, 1) := by decide +kernel
theorem dX7_stepsFor_23 : decode cX7_stepsFor 23 = .ok (.iload_n 2, 1) := by decide +kernel
theorem dX7_stepsFor_24 : decode cX7_stepsFor 24 = .ok (.invokevirtual 171, 3) := by decide +kernel
theorem dX7_stepsFor_27 : decode cX7_stepsFor 27 = .ok (.ireturn, 1) := by decide +kernel
theorem dX7_stepsOf_0 : decode cX7_stepsOf 0 = .ok (.iload_n 1, 1) := by decide +kernel
theorem dX7_stepsOf_1 : decode cX7_stepsOf 1 = .ok (.iconst 3, 1) := by decide +kernel
theorem dX7_stepsOf_2 : decode cX7_stepsOf 2 = .ok (.if_icmp .ge 18, 3) := by decide +kernel
theorem dX7_stepsOf_5 : decode cX7_stepsOf 5 = .ok (.aload_n 0, 1) := by decide +kernel
theorem dX7_stepsOf_6 : decode cX7_stepsOf 6 = .ok (.getfield 31, 3) := by decide +kernel
theorem dX7_stepsOf_9 : decode cX7_stepsOf 9 = .ok (.aload_n 0, 1) := by decide +kernel
theorem dX7_stepsOf_10 : decode cX7_stepsOf 10 = .ok (.iload_n 1, 1) := by decide +kernel
theorem dX7_stepsOf_11 : decode cX7_stepsOf 11 = .ok (.iload_n 2, 1) := by decide +kernel
theorem dX7_stepsOf_12 : decode cX7_stepsOf 12 = .ok (.iload_n 3, 1) := by decide +kernel
theorem dX7_stepsOf_13 : decode cX7_stepsOf 13 = .ok (.iload 4, 2) := by decide +kernel
theorem dX7_stepsOf_15 : decode cX7_stepsOf 15 = .ok (.invokevirtual 166, 3) := by decide +kernel
theorem dX7_stepsOf_18 : decode cX7_stepsOf 18 = .ok (.iaload, 1) := by decide +kernel
theorem dX7_stepsOf_19 : decode cX7_stepsOf 19 = .ok (.ireturn, 1) := by decide +kernel
theorem dX7_stepsOf_20 : decode cX7_stepsOf 20 = .ok (.iconst 0, 1) := by decide +kernel
theorem dX7_stepsOf_21 : decode cX7_stepsOf 21 = .ok (.istore 5, 2) := by decide +kernel
theorem dX7_stepsOf_23 : decode cX7_stepsOf 23 = .ok (.iconst 0, 1) := by decide +kernel
theorem dX7_stepsOf_24 : decode cX7_stepsOf 24 = .ok (.istore 6, 2) := by decide +kernel
theorem dX7_stepsOf_26 : decode cX7_stepsOf 26 = .ok (.iload 6, 2) := by decide +kernel
theorem dX7_stepsOf_28 : decode cX7_stepsOf 28 = .ok (.aload_n 0, 1) := by decide +kernel
theorem dX7_stepsOf_29 : decode cX7_stepsOf 29 = .ok (.getfield 108, 3) := by decide +kernel
theorem dX7_stepsOf_32 : decode cX7_stepsOf 32 = .ok (.if_icmp .ge 51, 3) := by decide +kernel
theorem dX7_stepsOf_35 : decode cX7_stepsOf 35 = .ok (.iload 5, 2) := by decide +kernel
theorem dX7_stepsOf_37 : decode cX7_stepsOf 37 = .ok (.ifCond .ne 33, 3) := by decide +kernel
theorem dX7_stepsOf_40 : decode cX7_stepsOf 40 = .ok (.iload 4, 2) := by decide +kernel
theorem dX7_stepsOf_42 : decode cX7_stepsOf 42 = .ok (.iconst 1, 1) := by decide +kernel
theorem dX7_stepsOf_43 : decode cX7_stepsOf 43 = .ok (.iload 6, 2) := by decide +kernel
theorem dX7_stepsOf_45 : decode cX7_stepsOf 45 = .ok (.ishl, 1) := by decide +kernel
theorem dX7_stepsOf_46 : decode cX7_stepsOf 46 = .ok (.if_icmp .ne 28, 3) := by decide +kernel
theorem dX7_stepsOf_49 : decode cX7_stepsOf 49 = .ok (.aload_n 0, 1) := by decide +kernel
theorem dX7_stepsOf_50 : decode cX7_stepsOf 50 = .ok (.getfield 25, 3) := by decide +kernel
theorem dX7_stepsOf_53 : decode cX7_stepsOf 53 = .ok (.iload 6, 2) := by decide +kernel
theorem dX7_stepsOf_55 : decode cX7_stepsOf 55 = .ok (.iaload, 1) := by decide +kernel
theorem dX7_stepsOf_56 : decode cX7_stepsOf 56 = .ok (.bipush 100, 2) := by decide +kernel
theorem dX7_stepsOf_58 : decode cX7_stepsOf 58 = .ok (.iload_n 1, 1) := by decide +kernel
theorem dX7_stepsOf_59 : decode cX7_stepsOf 59 = .ok (.imul, 1) := by decide +kernel
theorem dX7_stepsOf_60 : decode cX7_stepsOf 60 = .ok (.bipush 10, 2) := by decide +kernel
theorem dX7_stepsOf_62 : decode cX7_stepsOf 62 = .ok (.iload_n 2, 1) := by decide +kernel
theorem dX7_stepsOf_63 : decode cX7_stepsOf 63 = .ok (.imul, 1) := by decide +kernel
theorem dX7_stepsOf_64 : decode cX7_stepsOf 64 = .ok (.iadd, 1) := by decide +kernel
theorem dX7_stepsOf_65 : decode cX7_stepsOf 65 = .ok (.iload_n 3, 1) := by decide +kernel
theorem dX7_stepsOf_66 : decode cX7_stepsOf 66 = .ok (.iadd, 1) := by decide +kernel
theorem dX7_stepsOf_67 : decode cX7_stepsOf 67 = .ok (.if_icmp .ne 7, 3) := by decide +kernel
theorem dX7_stepsOf_70 : decode cX7_stepsOf 70 = .ok (.iconst 1, 1) := by decide +kernel
theorem dX7_stepsOf_71 : decode cX7_stepsOf 71 = .ok (.goto 4, 3) := by decide +kernel
theorem dX7_stepsOf_74 : decode cX7_stepsOf 74 = .ok (.iconst 0, 1) := by decide +kernel
theorem dX7_stepsOf_75 : decode cX7_stepsOf 75 = .ok (.istore 5, 2) := by decide +kernel
theorem dX7_stepsOf_77 : decode cX7_stepsOf 77 = .ok (.iinc 6 1, 3) := by decide +kernel
theorem dX7_stepsOf_80 : decode cX7_stepsOf 80 = .ok (.goto (-54), 3) := by decide +kernel
theorem dX7_stepsOf_83 : decode cX7_stepsOf 83 = .ok (.iload 5, 2) := by decide +kernel
theorem dX7_stepsOf_85 : decode cX7_stepsOf 85 = .ok (.ifCond .eq 7, 3) := by decide +kernel
theorem dX7_stepsOf_88 : decode cX7_stepsOf 88 = .ok (.iconst 0, 1) := by decide +kernel
theorem dX7_stepsOf_89 : decode cX7_stepsOf 89 = .ok (.goto 5, 3) := by decide +kernel
theorem dX7_stepsOf_92 : decode cX7_stepsOf 92 = .ok (.ldc 170, 2) := by decide +kernel
theorem dX7_stepsOf_94 : decode cX7_stepsOf 94 = .ok (.ireturn, 1) := by decide +kernel
section
variable (l : Launch) (D : va_G) (cI cJ cZ cR : ClassId)
set_option maxHeartbeats 4000000 in
set_option maxRecDepth 100000 in
theorem c_X7_at (sz : Nat) (m0 : Nat) (m1 : Nat) (m2 : Nat) (m3 : Nat) (m4 : Nat) (m5 : Nat) (m6 : Nat) (m7 : Nat) (m8 : Nat) (m9 : Nat) (m10 : Nat) (m11 : Nat) (m12 : Nat) (m13 : Nat) (z : Nat) (r9 : Nat) (n9 : Nat) (v : Nat) (k1 : Int32) (k2 : Int32) (k3 : Int32) (k4 : Int32) (k5 : Int32) (k6 : Int32) (k7 : Int32) (k8 : Int32) (k9 : Int32) (hv : Int64) (a : Nat) (b : Nat) (c1 : Nat) (d : Nat)  : CTi l D cI cJ cZ cR yX7_at cX7_at 5 (some .int) 0 0 0 0 sz [.ref m0, .int (nI a), .int (nI b), .int (nI c1), .int (nI d)] [kX7 m0 (nI z) m1 (nI r9) m2 m3 m4 m5 (nI n9) (nI v) m6 k1 k2 k3 k4 m7 k5 k6 k7 k8 m8 m9 m10 k9 m11 m12 m13 hv] (fun (r : Int32) (u : Unit) => (r = (nI ((((((a * 5) + b) * 5) + c1) * 32) + d)))) (fun (u : Unit) => [kX7 m0 (nI z) m1 (nI r9) m2 m3 m4 m5 (nI n9) (nI v) m6 k1 k2 k3 k4 m7 k5 k6 k7 k8 m8 m9 m10 k9 m11 m12 m13 hv]) := by
  refine CTi.of (ty := .int) (by decide) (Nat.le_of_ble_eq_true rfl) rfl ?_
  intro p e s m below meth c A Q ls hd hin hK hsz hP hD hA hS hl hret
  obtain ⟨hx, hb, hml, hown, hts⟩ := id hd
  have hK1 := hK.1
  have hown : s.vm.findClass RX7 = some m.cls := hown
  have hl : lv_has ls 5 [(0, .ref m0), (1, .int (nI a)), (2, .int (nI b)), (3, .int (nI c1)), (4, .int (nI d))] := hl
  refine lv_iload_n hx hb dX7_at_0 rfl (lv_at hl 1 rfl) ?_
  refine lv_iconst (v := 5) hx hb dX7_at_1 (by decide) ?_
  refine lv_imul hx hb dX7_at_2 ?_
  refine lv_nmi (show _ = (nI (a * 5)) from pk_mul (a) (5)) ?_
  refine lv_iload_n hx hb dX7_at_3 rfl (lv_at hl 2 rfl) ?_
  refine lv_iadd hx hb dX7_at_4 ?_
  refine lv_nmi (show _ = (nI ((a * 5) + b)) from nI_add ((a * 5)) (b)) ?_
  refine lv_iconst (v := 5) hx hb dX7_at_5 (by decide) ?_
  refine lv_imul hx hb dX7_at_6 ?_
  refine lv_nmi (show _ = (nI (((a * 5) + b) * 5)) from pk_mul (((a * 5) + b)) (5)) ?_
  refine lv_iload_n hx hb dX7_at_7 rfl (lv_at hl 3 rfl) ?_
  refine lv_iadd hx hb dX7_at_8 ?_
  refine lv_nmi (show _ = (nI ((((a * 5) + b) * 5) + c1)) from nI_add ((((a * 5) + b) * 5)) (c1)) ?_
  refine lv_bipush (v := 32) hx hb dX7_at_9 (by decide) ?_
  refine lv_imul hx hb dX7_at_11 ?_
  refine lv_nmi (show _ = (nI (((((a * 5) + b) * 5) + c1) * 32)) from pk_mul (((((a * 5) + b) * 5) + c1)) (32)) ?_
  refine lv_iload hx hb dX7_at_12 (lv_at hl 4 rfl) ?_
  refine lv_iadd hx hb dX7_at_14 ?_
  refine lv_nmi (show _ = (nI ((((((a * 5) + b) * 5) + c1) * 32) + d)) from nI_add ((((((a * 5) + b) * 5) + c1) * 32)) (d)) ?_
  exact hret _ _ _ _ _ _ (nI ((((((a * 5) + b) * 5) + c1) * 32) + d)) () dX7_at_15 rfl hS (Nat.le_of_ble_eq_true rfl) (Nat.le_of_ble_eq_true rfl) rfl (hP.sub [0] rfl) (hD.sub [0] rfl rfl)
set_option maxHeartbeats 4000000 in
set_option maxRecDepth 100000 in
theorem c_X7_stepsOf (sz : Nat) (m0 : Nat) (m1 : Nat) (m2 : Nat) (m3 : Nat) (m4 : Nat) (m5 : Nat) (m6 : Nat) (m7 : Nat) (m8 : Nat) (m9 : Nat) (m10 : Nat) (m11 : Nat) (m12 : Nat) (m13 : Nat) (z : Nat) (r9 : Nat) (n9 : Nat) (v : Nat) (k1 : Int32) (k2 : Int32) (k3 : Int32) (k4 : Int32) (k5 : Int32) (k6 : Int32) (k7 : Int32) (k8 : Int32) (k9 : Int32) (hv : Int64) (ea : Nat → Int32) (fw : Nat → Int32) (a : Nat) (b : Nat) (c1 : Nat) (d : Nat) (hFW : FWI fw) (hn5 : n9 ≤ 5) (hv5 : v ≤ 5) (hEA : EAI n9 v ea) (ha5 : a < 5) (hb5 : b < 5) (hc5 : c1 < 5) (hd32 : d < 32) : CTi l D cI cJ cZ cR yX7_stepsOf cX7_stepsOf 7 (some .int) 1 24 0 0 sz [.ref m0, .int (nI a), .int (nI b), .int (nI c1), .int (nI d)] [kX7 m0 (nI z) m1 (nI r9) m2 m3 m4 m5 (nI n9) (nI v) m6 k1 k2 k3 k4 m7 k5 k6 k7 k8 m8 m9 m10 k9 m11 m12 m13 hv, kI cI m6 12 ea, kI cI m8 2400 fw] (fun (r : Int32) (u : Nat) => (r = (nI u)) ∧ (zLs zM9 (zSv (gM n9 v ea) (TD zM9 (trb fw)) a d b c1) u)) (fun (u : Nat) => [kX7 m0 (nI z) m1 (nI r9) m2 m3 m4 m5 (nI n9) (nI v) m6 k1 k2 k3 k4 m7 k5 k6 k7 k8 m8 m9 m10 k9 m11 m12 m13 hv, kI cI m6 12 ea, kI cI m8 2400 fw]) := by
  refine CTi.of (ty := .int) (by decide) (Nat.le_of_ble_eq_true rfl) rfl ?_
  intro p e s m below meth c A Q ls hd hin hK hsz hP hD hA hS hl hret
  obtain ⟨hx, hb, hml, hown, hts⟩ := id hd
  have hK1 := hK.1
  have hown : s.vm.findClass RX7 = some m.cls := hown
  have hl : lv_has ls 7 [(0, .ref m0), (1, .int (nI a)), (2, .int (nI b)), (3, .int (nI c1)), (4, .int (nI d))] := hl
  refine lv_iload_n hx hb dX7_stepsOf_0 rfl (lv_at hl 1 rfl) ?_
  refine lv_iconst (v := 3) hx hb dX7_stepsOf_1 (by decide) ?_
  refine lv_icmp_ge (tgt := 20) hx hb dX7_stepsOf_2 (by decide) (fun c_1 => ?_) (fun c_1 => ?_)
  · skip
    refine lv_iconst (v := 0) hx hb dX7_stepsOf_20 (by decide) ?_
    refine lv_istore (lv' := [(5, .int 0), (0, .ref m0), (1, .int (nI a)), (2, .int (nI b)), (3, .int (nI c1)), (4, .int (nI d))]) hx hb dX7_stepsOf_21 hl (by decide) rfl (fun ls hl => ?_)
    refine lv_iconst (v := 0) hx hb dX7_stepsOf_23 (by decide) ?_
    refine lv_istore (lv' := [(6, .int 0), (5, .int 0), (0, .ref m0), (1, .int (nI a)), (2, .int (nI b)), (3, .int (nI c1)), (4, .int (nI d))]) hx hb dX7_stepsOf_24 hl (by decide) rfl (fun ls hl => ?_)
    have LOOP_26 : ∀ (n : Nat) (i : Nat) (is : Int32), (i + n = n9) → (sIs n9 v ea a d b c1 i is) → ∀ (H : Heap) (locs : List Loc) (ls : Array Slot), va_P D vwCl [kX7 m0 (nI z) m1 (nI r9) m2 m3 m4 m5 (nI n9) (nI v) m6 k1 k2 k3 k4 m7 k5 k6 k7 k8 m8 m9 m10 k9 m11 m12 m13 hv, kI cI m6 12 ea, kI cI m8 2400 fw] H → va_D A [kX7 m0 (nI z) m1 (nI r9) m2 m3 m4 m5 (nI n9) (nI v) m6 k1 k2 k3 k4 m7 k5 k6 k7 k8 m8 m9 m10 k9 m11 m12 m13 hv, kI cI m6 12 ea, kI cI m8 2400 fw] → va_S A s.heap H locs → lv_has ls 7 [(0, .ref m0), (1, .int (nI a)), (2, .int (nI b)), (3, .int (nI c1)), (4, .int (nI d)), (5, .int is), (6, .int (nI i))] → W p l e (rM 1 0 0 24) s m ([.ref m0, .int (nI a), .int (nI b), .int (nI c1), .int (nI d)] : List Value).toArray below meth c H locs 0 0 Q (F0 m 26 ls []) := by
      intro n
      induction n with
      | zero =>
        intro i is hi hIs H locs ls hP hD hS hl
        refine lv_iload hx hb dX7_stepsOf_26 (lv_at hl 6 rfl) ?_
        refine lv_aload_n hx hb dX7_stepsOf_28 rfl (lv_at hl 0 rfl) ?_
        refine va_get (D := D) (ci := 7) (v := .int (nI n9)) (C := RX7) (T := TX7) (N := 27) hx hb hts iT_X7 hown hK1 hP 0 rfl rfl 7 (by decide) (hts _ t_558) (fun _ h9 => h9) rfl dX7_stepsOf_29 ?_
        refine lv_icmp_ge (tgt := 83) hx hb dX7_stepsOf_32 (by decide) (fun c_2 => ?_) (fun c_2 => ?_)
        rotate_left
        · exact absurd (nI_le (a := n9) (b := i) (by omega) (by omega)) c_2
        refine lv_iload hx hb dX7_stepsOf_83 (lv_at hl 5 rfl) ?_
        refine lv_if_eq (tgt := 92) hx hb dX7_stepsOf_85 (by decide) (fun c_3 => ?_) (fun c_3 => ?_)
        · skip
          refine lv_ldc hx hb hown (hts _ t_781) dX7_stepsOf_92 ?_
          exact hret _ _ _ _ _ _ 1000000 1000000 dX7_stepsOf_94 rfl hS (Nat.le_of_ble_eq_true rfl) (Nat.le_of_ble_eq_true rfl) ⟨rfl, (sIs_e hEA hv5 (leN (a := 3) (by omega) (by decide) c_1) hb5 hc5 (by omega) hIs).2 c_3⟩ (hP.sub [0, 1, 2] rfl) (hD.sub [0, 1, 2] rfl rfl)
        · skip
          refine lv_iconst (v := 0) hx hb dX7_stepsOf_88 (by decide) ?_
          refine lv_goto (tgt := 94) hx hb dX7_stepsOf_89 (by decide) ?_
          exact hret _ _ _ _ _ _ 0 0 dX7_stepsOf_94 rfl hS (Nat.le_of_ble_eq_true rfl) (Nat.le_of_ble_eq_true rfl) ⟨rfl, (sIs_e hEA hv5 (leN (a := 3) (by omega) (by decide) c_1) hb5 hc5 (by omega) hIs).1 c_3⟩ (hP.sub [0, 1, 2] rfl) (hD.sub [0, 1, 2] rfl rfl)
      | succ n ih_26 =>
        intro i is hi hIs H locs ls hP hD hS hl
        refine lv_iload hx hb dX7_stepsOf_26 (lv_at hl 6 rfl) ?_
        refine lv_aload_n hx hb dX7_stepsOf_28 rfl (lv_at hl 0 rfl) ?_
        refine va_get (D := D) (ci := 7) (v := .int (nI n9)) (C := RX7) (T := TX7) (N := 27) hx hb hts iT_X7 hown hK1 hP 0 rfl rfl 7 (by decide) (hts _ t_558) (fun _ h9 => h9) rfl dX7_stepsOf_29 ?_
        refine lv_icmp_ge (tgt := 83) hx hb dX7_stepsOf_32 (by decide) (fun c_4 => ?_) (fun c_4 => ?_)
        · exact absurd c_4 (nI_ge (a := i) (b := n9) (by omega) (by omega))
        refine lv_iload hx hb dX7_stepsOf_35 (lv_at hl 5 rfl) ?_
        refine lv_if_ne (tgt := 70) hx hb dX7_stepsOf_37 (by decide) (fun c_5 => ?_) (fun c_5 => ?_)
        · skip
          refine lv_iconst (v := 1) hx hb dX7_stepsOf_70 (by decide) ?_
          refine lv_goto (tgt := 75) hx hb dX7_stepsOf_71 (by decide) ?_
          refine lv_istore (lv' := [(5, .int 1), (0, .ref m0), (1, .int (nI a)), (2, .int (nI b)), (3, .int (nI c1)), (4, .int (nI d)), (6, .int (nI i))]) hx hb dX7_stepsOf_75 hl (by decide) rfl (fun ls hl => ?_)
          refine lv_iinc (v := nI (i + 1)) (lv' := [(6, .int (nI (i + 1))), (5, .int 1), (0, .ref m0), (1, .int (nI a)), (2, .int (nI b)), (3, .int (nI c1)), (4, .int (nI d))]) hx hb dX7_stepsOf_77 hl (k := 6) rfl (nI_1 i) (by decide) rfl (fun ls hl => ?_)
          refine lv_goto (tgt := 26) hx hb dX7_stepsOf_80 (by decide) ?_
          exact ih_26 (i + 1) 1 (by omega) (sIs_k hIs c_5) _ _ _ (hP.sub [0, 1, 2] rfl) (hD.sub [0, 1, 2] rfl rfl) hS (lv_sub hl [2, 3, 4, 5, 6, 1, 0] rfl)
        · skip
          refine lv_iload hx hb dX7_stepsOf_40 (lv_at hl 4 rfl) ?_
          refine lv_iconst (v := 1) hx hb dX7_stepsOf_42 (by decide) ?_
          refine lv_iload hx hb dX7_stepsOf_43 (lv_at hl 6 rfl) ?_
          refine lv_ishl hx hb dX7_stepsOf_45 ?_
          refine lv_icmp_ne (tgt := 74) hx hb dX7_stepsOf_46 (by decide) (fun c_6 => ?_) (fun c_6 => ?_)
          · skip
            refine lv_iconst (v := 0) hx hb dX7_stepsOf_74 (by decide) ?_
            refine lv_istore (lv' := [(5, .int 0), (0, .ref m0), (1, .int (nI a)), (2, .int (nI b)), (3, .int (nI c1)), (4, .int (nI d)), (6, .int (nI i))]) hx hb dX7_stepsOf_75 hl (by decide) rfl (fun ls hl => ?_)
            refine lv_iinc (v := nI (i + 1)) (lv' := [(6, .int (nI (i + 1))), (5, .int 0), (0, .ref m0), (1, .int (nI a)), (2, .int (nI b)), (3, .int (nI c1)), (4, .int (nI d))]) hx hb dX7_stepsOf_77 hl (k := 6) rfl (nI_1 i) (by decide) rfl (fun ls hl => ?_)
            refine lv_goto (tgt := 26) hx hb dX7_stepsOf_80 (by decide) ?_
            exact ih_26 (i + 1) 0 (by omega) (sIs_n hIs c_5 (fun q => c_6 ((ie_sh hd32 (by omega)).mpr q.1))) _ _ _ (hP.sub [0, 1, 2] rfl) (hD.sub [0, 1, 2] rfl rfl) hS (lv_sub hl [2, 3, 4, 5, 6, 1, 0] rfl)
          · skip
            refine lv_aload_n hx hb dX7_stepsOf_49 rfl (lv_at hl 0 rfl) ?_
            refine va_get (D := D) (ci := 7) (v := .ref m6) (C := RX7) (T := TX7) (N := 27) hx hb hts iT_X7 hown hK1 hP 0 rfl rfl 9 (by decide) (hts _ t_560) (fun _ h9 => h9) rfl dX7_stepsOf_50 ?_
            refine lv_iload hx hb dX7_stepsOf_53 (lv_at hl 6 rfl) ?_
            refine va_iald hx hb hK1 hP 1 0 rfl rfl (vp_in_nI (by omega) (by omega)) dX7_stepsOf_55 ?_
            refine lv_nmi (show _ = ea i from by rw [nI_clamp (n := i) (by omega)]) ?_
            refine lv_bipush (v := 100) hx hb dX7_stepsOf_56 (by decide) ?_
            refine lv_iload_n hx hb dX7_stepsOf_58 rfl (lv_at hl 1 rfl) ?_
            refine lv_imul hx hb dX7_stepsOf_59 ?_
            refine lv_nmi (show _ = (nI (100 * a)) from pk_mul (100) (a)) ?_
            refine lv_bipush (v := 10) hx hb dX7_stepsOf_60 (by decide) ?_
            refine lv_iload_n hx hb dX7_stepsOf_62 rfl (lv_at hl 2 rfl) ?_
            refine lv_imul hx hb dX7_stepsOf_63 ?_
            refine lv_nmi (show _ = (nI (10 * b)) from pk_mul (10) (b)) ?_
            refine lv_iadd hx hb dX7_stepsOf_64 ?_
            refine lv_nmi (show _ = (nI ((100 * a) + (10 * b))) from nI_add ((100 * a)) ((10 * b))) ?_
            refine lv_iload_n hx hb dX7_stepsOf_65 rfl (lv_at hl 3 rfl) ?_
            refine lv_iadd hx hb dX7_stepsOf_66 ?_
            refine lv_nmi (show _ = (nI (((100 * a) + (10 * b)) + c1)) from nI_add (((100 * a) + (10 * b))) (c1)) ?_
            refine lv_icmp_ne (tgt := 74) hx hb dX7_stepsOf_67 (by decide) (fun c_7 => ?_) (fun c_7 => ?_)
            · skip
              refine lv_iconst (v := 0) hx hb dX7_stepsOf_74 (by decide) ?_
              refine lv_istore (lv' := [(5, .int 0), (0, .ref m0), (1, .int (nI a)), (2, .int (nI b)), (3, .int (nI c1)), (4, .int (nI d)), (6, .int (nI i))]) hx hb dX7_stepsOf_75 hl (by decide) rfl (fun ls hl => ?_)
              refine lv_iinc (v := nI (i + 1)) (lv' := [(6, .int (nI (i + 1))), (5, .int 0), (0, .ref m0), (1, .int (nI a)), (2, .int (nI b)), (3, .int (nI c1)), (4, .int (nI d))]) hx hb dX7_stepsOf_77 hl (k := 6) rfl (nI_1 i) (by decide) rfl (fun ls hl => ?_)
              refine lv_goto (tgt := 26) hx hb dX7_stepsOf_80 (by decide) ?_
              exact ih_26 (i + 1) 0 (by omega) (sIs_n hIs c_5 (fun q => c_7 q.2)) _ _ _ (hP.sub [0, 1, 2] rfl) (hD.sub [0, 1, 2] rfl rfl) hS (lv_sub hl [2, 3, 4, 5, 6, 1, 0] rfl)
            · skip
              refine lv_iconst (v := 1) hx hb dX7_stepsOf_70 (by decide) ?_
              refine lv_goto (tgt := 75) hx hb dX7_stepsOf_71 (by decide) ?_
              refine lv_istore (lv' := [(5, .int 1), (0, .ref m0), (1, .int (nI a)), (2, .int (nI b)), (3, .int (nI c1)), (4, .int (nI d)), (6, .int (nI i))]) hx hb dX7_stepsOf_75 hl (by decide) rfl (fun ls hl => ?_)
              refine lv_iinc (v := nI (i + 1)) (lv' := [(6, .int (nI (i + 1))), (5, .int 1), (0, .ref m0), (1, .int (nI a)), (2, .int (nI b)), (3, .int (nI c1)), (4, .int (nI d))]) hx hb dX7_stepsOf_77 hl (k := 6) rfl (nI_1 i) (by decide) rfl (fun ls hl => ?_)
              refine lv_goto (tgt := 26) hx hb dX7_stepsOf_80 (by decide) ?_
              exact ih_26 (i + 1) 1 (by omega) (sIs_y hEA hv5 (by omega) ha5 hb5 hc5 ((ie_sh hd32 (by omega)).mp c_6) c_7) _ _ _ (hP.sub [0, 1, 2] rfl) (hD.sub [0, 1, 2] rfl rfl) hS (lv_sub hl [2, 3, 4, 5, 6, 1, 0] rfl)
    exact LOOP_26 n9 0 0 (by omega) (Or.inr ⟨rfl, fun j hj => absurd hj (by omega)⟩) _ _ _ (hP.sub [0, 1, 2] rfl) (hD.sub [0, 1, 2] rfl rfl) hS (lv_sub hl [2, 3, 4, 5, 6, 1, 0] rfl)
  · skip
    have ha3 := ltN (a := a) (b := 3) (by decide) (by omega) (Int32.not_le.mp c_1)
    refine lv_aload_n hx hb dX7_stepsOf_5 rfl (lv_at hl 0 rfl) ?_
    refine va_get (D := D) (ci := 7) (v := .ref m8) (C := RX7) (T := TX7) (N := 27) hx hb hts iT_X7 hown hK1 hP 0 rfl rfl 19 (by decide) (hts _ t_570) (fun _ h9 => h9) rfl dX7_stepsOf_6 ?_
    refine lv_aload_n hx hb dX7_stepsOf_9 rfl (lv_at hl 0 rfl) ?_
    refine lv_iload_n hx hb dX7_stepsOf_10 rfl (lv_at hl 1 rfl) ?_
    refine lv_iload_n hx hb dX7_stepsOf_11 rfl (lv_at hl 2 rfl) ?_
    refine lv_iload_n hx hb dX7_stepsOf_12 rfl (lv_at hl 3 rfl) ?_
    refine lv_iload hx hb dX7_stepsOf_13 (lv_at hl 4 rfl) ?_
    refine xc_i (wc := [kX7 m0 (nI z) m1 (nI r9) m2 m3 m4 m5 (nI n9) (nI v) m6 k1 k2 k3 k4 m7 k5 k6 k7 k8 m8 m9 m10 k9 m11 m12 m13 hv]) (wr := [kI cI m6 12 ea, kI cI m8 2400 fw]) (xrV (n := 4) (As := [.int (nI a), .int (nI b), .int (nI c1), .int (nI d)]) (rest := [.ref m8]) (ci := 7) (q0 := 0) hd hK hP hD (c_X7_at l D cI cJ cZ cR _ m0 m1 m2 m3 m4 m5 m6 m7 m8 m9 m10 m11 m12 m13 z r9 n9 v k1 k2 k3 k4 k5 k6 k7 k8 k9 hv a b c1 d ) (gV t_777 mV_X7_at) hV_X7_at ⟨(Nat.le_of_ble_eq_true rfl), (Nat.le_of_ble_eq_true rfl)⟩ rfl rfl [0] rfl rfl rfl hl.1 rfl (Nat.le_of_ble_eq_true rfl) dX7_stepsOf_15 ⟨(Nat.le_of_ble_eq_true rfl), (Nat.le_of_ble_eq_true rfl)⟩) hP hD hS hA [0] [1, 2] rfl rfl rfl (by decide) (fun r_8 u_9 H locs hw_10 hP hD hS => ?_)
    have hw_11 : r_8 = (nI ((((((a * 5) + b) * 5) + c1) * 32) + d)) := hw_10
    subst hw_11
    have hP : va_P D vwCl [kI cI m6 12 ea, kI cI m8 2400 fw, kX7 m0 (nI z) m1 (nI r9) m2 m3 m4 m5 (nI n9) (nI v) m6 k1 k2 k3 k4 m7 k5 k6 k7 k8 m8 m9 m10 k9 m11 m12 m13 hv] H := hP
    have hD : va_D A [kI cI m6 12 ea, kI cI m8 2400 fw, kX7 m0 (nI z) m1 (nI r9) m2 m3 m4 m5 (nI n9) (nI v) m6 k1 k2 k3 k4 m7 k5 k6 k7 k8 m8 m9 m10 k9 m11 m12 m13 hv] := hD
    refine va_iald hx hb hK1 hP 1 0 rfl rfl (vp_in_nI (by omega) (by omega)) dX7_stepsOf_18 ?_
    refine lv_nmi (show _ = fw ((((((a * 5) + b) * 5) + c1) * 32) + d) from by rw [nI_clamp (n := ((((((a * 5) + b) * 5) + c1) * 32) + d)) (by omega)]) ?_
    refine lv_nmi (show _ = (nI (trb fw a d b c1) : Int32) from (FWI_at hFW (by omega)).1) ?_
    exact hret _ _ _ _ _ _ (nI (trb fw a d b c1)) (trb fw a d b c1) dX7_stepsOf_19 rfl hS (Nat.le_of_ble_eq_true rfl) (Nat.le_of_ble_eq_true rfl) ⟨rfl, so_a ha3 hd32 hb5 hc5 (FWI_at hFW (by omega)).2⟩ (hP.sub [2, 0, 1] rfl) (hD.sub [2, 0, 1] rfl rfl)
set_option maxHeartbeats 4000000 in
set_option maxRecDepth 100000 in
theorem c_X7_stepsFor (sz : Nat) (m0 : Nat) (m1 : Nat) (m2 : Nat) (m3 : Nat) (m4 : Nat) (m5 : Nat) (m6 : Nat) (m7 : Nat) (m8 : Nat) (m9 : Nat) (m10 : Nat) (m11 : Nat) (m12 : Nat) (m13 : Nat) (z : Nat) (r9 : Nat) (n9 : Nat) (v : Nat) (k1 : Int32) (k2 : Int32) (k3 : Int32) (k4 : Int32) (k5 : Int32) (k6 : Int32) (k7 : Int32) (k8 : Int32) (k9 : Int32) (hv : Int64) (ea : Nat → Int32) (fw : Nat → Int32) (na : Nat → Int32) (x : Nat) (d : Nat) (hFW : FWI fw) (hn5 : n9 ≤ 5) (hv5 : v ≤ 5) (hEA : EAI n9 v ea) (hsd : SDn 4 na) (hx9 : x < 500) (hxa : x / 10 % 10 < 4) (hxb : x % 10 < 4) (hd32 : d < 32) : CTi l D cI cJ cZ cR yX7_stepsFor cX7_stepsFor 3 (some .int) 2 50 0 0 sz [.ref m0, .int (nI x), .int (nI d)] [kX7 m0 (nI z) m1 (nI r9) m2 m3 m4 m5 (nI n9) (nI v) m6 k1 k2 k3 k4 m7 k5 k6 k7 k8 m8 m9 m10 k9 m11 m12 m13 hv, kI cI m6 12 ea, kI cI m8 2400 fw, kI cI m10 4 na] (fun (r : Int32) (u : Nat) => (r = (nI u)) ∧ (zLs zM9 (zSv (gM n9 v ea) (TD zM9 (trb fw)) (x / 100) d (tn (na (x / 10 % 10))) (tn (na (x % 10)))) u)) (fun (u : Nat) => [kX7 m0 (nI z) m1 (nI r9) m2 m3 m4 m5 (nI n9) (nI v) m6 k1 k2 k3 k4 m7 k5 k6 k7 k8 m8 m9 m10 k9 m11 m12 m13 hv, kI cI m6 12 ea, kI cI m8 2400 fw, kI cI m10 4 na]) := by
  refine CTi.of (ty := .int) (by decide) (Nat.le_of_ble_eq_true rfl) rfl ?_
  intro p e s m below meth c A Q ls hd hin hK hsz hP hD hA hS hl hret
  obtain ⟨hx, hb, hml, hown, hts⟩ := id hd
  have hK1 := hK.1
  have hown : s.vm.findClass RX7 = some m.cls := hown
  have hl : lv_has ls 3 [(0, .ref m0), (1, .int (nI x)), (2, .int (nI d))] := hl
  obtain ⟨ew1, hw1⟩ := SDn_tn hsd hxa
  obtain ⟨ew2, hw2⟩ := SDn_tn hsd hxb
  refine lv_aload_n hx hb dX7_stepsFor_0 rfl (lv_at hl 0 rfl) ?_
  refine lv_iload_n hx hb dX7_stepsFor_1 rfl (lv_at hl 1 rfl) ?_
  refine xc_i (wc := []) (wr := [kX7 m0 (nI z) m1 (nI r9) m2 m3 m4 m5 (nI n9) (nI v) m6 k1 k2 k3 k4 m7 k5 k6 k7 k8 m8 m9 m10 k9 m11 m12 m13 hv, kI cI m6 12 ea, kI cI m8 2400 fw, kI cI m10 4 na]) (xrS (n := 1) (As := [.int (nI x)]) (rest := [.ref m0]) hd hK hP hD (n_letterOf l D cI cJ cZ cR _ x (by omega)) (gS t_713 mS_X7_letterOf) hS_X7_letterOf ⟨(Nat.le_of_ble_eq_true rfl), (Nat.le_of_ble_eq_true rfl)⟩ [] rfl rfl rfl hl.1 rfl (Nat.le_of_ble_eq_true rfl) dX7_stepsFor_2 ⟨(Nat.le_of_ble_eq_true rfl), (Nat.le_of_ble_eq_true rfl)⟩) hP hD hS hA [] [0, 1, 2, 3] rfl rfl rfl (by decide) (fun r_1 u_2 H locs hw_3 hP hD hS => ?_)
  have hw_4 : r_1 = (nI (x / 100)) := hw_3
  subst hw_4
  have hP : va_P D vwCl [kX7 m0 (nI z) m1 (nI r9) m2 m3 m4 m5 (nI n9) (nI v) m6 k1 k2 k3 k4 m7 k5 k6 k7 k8 m8 m9 m10 k9 m11 m12 m13 hv, kI cI m6 12 ea, kI cI m8 2400 fw, kI cI m10 4 na] H := hP
  have hD : va_D A [kX7 m0 (nI z) m1 (nI r9) m2 m3 m4 m5 (nI n9) (nI v) m6 k1 k2 k3 k4 m7 k5 k6 k7 k8 m8 m9 m10 k9 m11 m12 m13 hv, kI cI m6 12 ea, kI cI m8 2400 fw, kI cI m10 4 na] := hD
  refine lv_aload_n hx hb dX7_stepsFor_5 rfl (lv_at hl 0 rfl) ?_
  refine va_get (D := D) (ci := 7) (v := .ref m10) (C := RX7) (T := TX7) (N := 27) hx hb hts iT_X7 hown hK1 hP 0 rfl rfl 21 (by decide) (hts _ t_572) (fun _ h9 => h9) rfl dX7_stepsFor_6 ?_
  refine lv_iload_n hx hb dX7_stepsFor_9 rfl (lv_at hl 1 rfl) ?_
  refine xc_i (wc := []) (wr := [kX7 m0 (nI z) m1 (nI r9) m2 m3 m4 m5 (nI n9) (nI v) m6 k1 k2 k3 k4 m7 k5 k6 k7 k8 m8 m9 m10 k9 m11 m12 m13 hv, kI cI m6 12 ea, kI cI m8 2400 fw, kI cI m10 4 na]) (xrS (n := 1) (As := [.int (nI x)]) (rest := [.ref m10, .int (nI (x / 100)), .ref m0]) hd hK hP hD (n_fromOf l D cI cJ cZ cR _ x (by omega)) (gS t_716 mS_X7_fromOf) hS_X7_fromOf ⟨(Nat.le_of_ble_eq_true rfl), (Nat.le_of_ble_eq_true rfl)⟩ [] rfl rfl rfl hl.1 rfl (Nat.le_of_ble_eq_true rfl) dX7_stepsFor_10 ⟨(Nat.le_of_ble_eq_true rfl), (Nat.le_of_ble_eq_true rfl)⟩) hP hD hS hA [] [0, 1, 2, 3] rfl rfl rfl (by decide) (fun r_5 u_6 H locs hw_7 hP hD hS => ?_)
  have hw_8 : r_5 = (nI (x / 10 % 10)) := hw_7
  subst hw_8
  have hP : va_P D vwCl [kX7 m0 (nI z) m1 (nI r9) m2 m3 m4 m5 (nI n9) (nI v) m6 k1 k2 k3 k4 m7 k5 k6 k7 k8 m8 m9 m10 k9 m11 m12 m13 hv, kI cI m6 12 ea, kI cI m8 2400 fw, kI cI m10 4 na] H := hP
  have hD : va_D A [kX7 m0 (nI z) m1 (nI r9) m2 m3 m4 m5 (nI n9) (nI v) m6 k1 k2 k3 k4 m7 k5 k6 k7 k8 m8 m9 m10 k9 m11 m12 m13 hv, kI cI m6 12 ea, kI cI m8 2400 fw, kI cI m10 4 na] := hD
  refine va_iald hx hb hK1 hP 3 0 rfl rfl (vp_in_nI (by omega) (by omega)) dX7_stepsFor_13 ?_
  refine lv_nmi (show _ = na (x / 10 % 10) from by rw [nI_clamp (n := (x / 10 % 10)) (by omega)]) ?_
  refine lv_nmi (show _ = (nI (tn (na (x / 10 % 10))) : Int32) from ew1) ?_
  refine lv_aload_n hx hb dX7_stepsFor_14 rfl (lv_at hl 0 rfl) ?_
  refine va_get (D := D) (ci := 7) (v := .ref m10) (C := RX7) (T := TX7) (N := 27) hx hb hts iT_X7 hown hK1 hP 0 rfl rfl 21 (by decide) (hts _ t_572) (fun _ h9 => h9) rfl dX7_stepsFor_15 ?_
  refine lv_iload_n hx hb dX7_stepsFor_18 rfl (lv_at hl 1 rfl) ?_
  refine xc_i (wc := []) (wr := [kX7 m0 (nI z) m1 (nI r9) m2 m3 m4 m5 (nI n9) (nI v) m6 k1 k2 k3 k4 m7 k5 k6 k7 k8 m8 m9 m10 k9 m11 m12 m13 hv, kI cI m6 12 ea, kI cI m8 2400 fw, kI cI m10 4 na]) (xrS (n := 1) (As := [.int (nI x)]) (rest := [.ref m10, .int (nI (tn (na (x / 10 % 10)))), .int (nI (x / 100)), .ref m0]) hd hK hP hD (n_toOf l D cI cJ cZ cR _ x (by omega)) (gS t_723 mS_X7_toOf) hS_X7_toOf ⟨(Nat.le_of_ble_eq_true rfl), (Nat.le_of_ble_eq_true rfl)⟩ [] rfl rfl rfl hl.1 rfl (Nat.le_of_ble_eq_true rfl) dX7_stepsFor_19 ⟨(Nat.le_of_ble_eq_true rfl), (Nat.le_of_ble_eq_true rfl)⟩) hP hD hS hA [] [0, 1, 2, 3] rfl rfl rfl (by decide) (fun r_9 u_10 H locs hw_11 hP hD hS => ?_)
  have hw_12 : r_9 = (nI (x % 10)) := hw_11
  subst hw_12
  have hP : va_P D vwCl [kX7 m0 (nI z) m1 (nI r9) m2 m3 m4 m5 (nI n9) (nI v) m6 k1 k2 k3 k4 m7 k5 k6 k7 k8 m8 m9 m10 k9 m11 m12 m13 hv, kI cI m6 12 ea, kI cI m8 2400 fw, kI cI m10 4 na] H := hP
  have hD : va_D A [kX7 m0 (nI z) m1 (nI r9) m2 m3 m4 m5 (nI n9) (nI v) m6 k1 k2 k3 k4 m7 k5 k6 k7 k8 m8 m9 m10 k9 m11 m12 m13 hv, kI cI m6 12 ea, kI cI m8 2400 fw, kI cI m10 4 na] := hD
  refine va_iald hx hb hK1 hP 3 0 rfl rfl (vp_in_nI (by omega) (by omega)) dX7_stepsFor_22 ?_
  refine lv_nmi (show _ = na (x % 10) from by rw [nI_clamp (n := (x % 10)) (by omega)]) ?_
  refine lv_nmi (show _ = (nI (tn (na (x % 10))) : Int32) from ew2) ?_
  refine lv_iload_n hx hb dX7_stepsFor_23 rfl (lv_at hl 2 rfl) ?_
  refine xc_i (wc := [kX7 m0 (nI z) m1 (nI r9) m2 m3 m4 m5 (nI n9) (nI v) m6 k1 k2 k3 k4 m7 k5 k6 k7 k8 m8 m9 m10 k9 m11 m12 m13 hv, kI cI m6 12 ea, kI cI m8 2400 fw]) (wr := [kI cI m10 4 na]) (xrV (n := 4) (As := [.int (nI (x / 100)), .int (nI (tn (na (x / 10 % 10)))), .int (nI (tn (na (x % 10)))), .int (nI d)]) (rest := []) (ci := 7) (q0 := 0) hd hK hP hD (c_X7_stepsOf l D cI cJ cZ cR _ m0 m1 m2 m3 m4 m5 m6 m7 m8 m9 m10 m11 m12 m13 z r9 n9 v k1 k2 k3 k4 k5 k6 k7 k8 k9 hv ea fw (x / 100) (tn (na (x / 10 % 10))) (tn (na (x % 10))) d hFW hn5 hv5 hEA (by omega) hw1 hw2 hd32) (gV t_798 mV_X7_stepsOf) hV_X7_stepsOf ⟨(Nat.le_of_ble_eq_true rfl), (Nat.le_of_ble_eq_true rfl)⟩ rfl rfl [0, 1, 2] rfl rfl rfl hl.1 rfl (Nat.le_of_ble_eq_true rfl) dX7_stepsFor_24 ⟨(Nat.le_of_ble_eq_true rfl), (Nat.le_of_ble_eq_true rfl)⟩) hP hD hS hA [0, 1, 2] [3] rfl rfl rfl (by decide) (fun r_13 u_14 H locs hw_15 hP hD hS => ?_)
  obtain ⟨q_16, rfl⟩ : ∃ z9, z9 = u_14 := ⟨_, rfl⟩
  obtain ⟨hw_17, hw_18⟩ : (r_13 = (nI q_16)) ∧ (zLs zM9 (zSv (gM n9 v ea) (TD zM9 (trb fw)) (x / 100) d (tn (na (x / 10 % 10))) (tn (na (x % 10)))) q_16) := hw_15
  subst hw_17
  have hq9 := hw_18
  have hP : va_P D vwCl [kI cI m10 4 na, kX7 m0 (nI z) m1 (nI r9) m2 m3 m4 m5 (nI n9) (nI v) m6 k1 k2 k3 k4 m7 k5 k6 k7 k8 m8 m9 m10 k9 m11 m12 m13 hv, kI cI m6 12 ea, kI cI m8 2400 fw] H := hP
  have hD : va_D A [kI cI m10 4 na, kX7 m0 (nI z) m1 (nI r9) m2 m3 m4 m5 (nI n9) (nI v) m6 k1 k2 k3 k4 m7 k5 k6 k7 k8 m8 m9 m10 k9 m11 m12 m13 hv, kI cI m6 12 ea, kI cI m8 2400 fw] := hD
  exact hret _ _ _ _ _ _ (nI q_16) q_16 dX7_stepsFor_27 rfl hS (Nat.le_of_ble_eq_true rfl) (Nat.le_of_ble_eq_true rfl) ⟨rfl, hq9⟩ (hP.sub [1, 2, 3, 0] rfl) (hD.sub [1, 2, 3, 0] rfl rfl)
set_option maxHeartbeats 4000000 in
set_option maxRecDepth 100000 in
theorem c_X7_areApart (sz : Nat) (m0 : Nat) (m1 : Nat) (m2 : Nat) (m3 : Nat) (m4 : Nat) (m5 : Nat) (m6 : Nat) (m7 : Nat) (m8 : Nat) (m9 : Nat) (m10 : Nat) (m11 : Nat) (m12 : Nat) (m13 : Nat) (z : Nat) (r9 : Nat) (n9 : Nat) (v : Nat) (k1 : Int32) (k2 : Int32) (k3 : Int32) (k4 : Int32) (k5 : Int32) (k6 : Int32) (k7 : Int32) (k8 : Int32) (k9 : Int32) (hv : Int64) (ea : Nat → Int32) (nf : Nat → Int32) (na : Nat → Int32) (x : Nat) (d : Nat) (y : Nat) (d2 : Nat) (hn5 : n9 ≤ 5) (hv5 : v ≤ 5) (hEA : EAI n9 v ea) (hNF : NFI n9 ea nf (2 ^ n9)) (hsd : SDn 4 na) (hx9 : x < 500) (hxa : x / 10 % 10 < 4) (hxb : x % 10 < 4) (hy9 : y < 500) (hya : y / 10 % 10 < 4) (hyb : y % 10 < 4) (hd9 : d < 2 ^ n9) (hd29 : d2 < 2 ^ n9) : CTi l D cI cJ cZ cR yX7_areApart cX7_areApart 7 (some .boolean) 1 20 0 0 sz [.ref m0, .int (nI x), .int (nI d), .int (nI y), .int (nI d2)] [kX7 m0 (nI z) m1 (nI r9) m2 m3 m4 m5 (nI n9) (nI v) m6 k1 k2 k3 k4 m7 k5 k6 k7 k8 m8 m9 m10 k9 m11 m12 m13 hv, kI cI m9 32 nf, kI cI m10 4 na] (fun (r : Int32) (u : Unit) => (YN r (zAq (gM n9 v ea) d d2 (tn (na (x / 10 % 10))) (tn (na (x % 10))) (tn (na (y / 10 % 10))) (tn (na (y % 10)))))) (fun (u : Unit) => [kX7 m0 (nI z) m1 (nI r9) m2 m3 m4 m5 (nI n9) (nI v) m6 k1 k2 k3 k4 m7 k5 k6 k7 k8 m8 m9 m10 k9 m11 m12 m13 hv, kI cI m9 32 nf, kI cI m10 4 na]) := by
  refine CTi.of (ty := .boolean) (by decide) (Nat.le_of_ble_eq_true rfl) rfl ?_
  intro p e s m below meth c A Q ls hd hin hK hsz hP hD hA hS hl hret
  obtain ⟨hx, hb, hml, hown, hts⟩ := id hd
  have hK1 := hK.1
  have hown : s.vm.findClass RX7 = some m.cls := hown
  have hl : lv_has ls 7 [(0, .ref m0), (1, .int (nI x)), (2, .int (nI d)), (3, .int (nI y)), (4, .int (nI d2))] := hl
  obtain ⟨ew1, hw1⟩ := SDn_tn hsd hxa
  obtain ⟨ew2, hw2⟩ := SDn_tn hsd hxb
  obtain ⟨ew3, hw3⟩ := SDn_tn hsd hya
  obtain ⟨ew4, hw4⟩ := SDn_tn hsd hyb
  have h32 := pow_le5 hn5
  refine lv_iconst (v := 1) hx hb dX7_areApart_0 (by decide) ?_
  refine lv_aload_n hx hb dX7_areApart_1 rfl (lv_at hl 0 rfl) ?_
  refine va_get (D := D) (ci := 7) (v := .ref m10) (C := RX7) (T := TX7) (N := 27) hx hb hts iT_X7 hown hK1 hP 0 rfl rfl 21 (by decide) (hts _ t_572) (fun _ h9 => h9) rfl dX7_areApart_2 ?_
  refine lv_iload_n hx hb dX7_areApart_5 rfl (lv_at hl 1 rfl) ?_
  refine xc_i (wc := []) (wr := [kX7 m0 (nI z) m1 (nI r9) m2 m3 m4 m5 (nI n9) (nI v) m6 k1 k2 k3 k4 m7 k5 k6 k7 k8 m8 m9 m10 k9 m11 m12 m13 hv, kI cI m9 32 nf, kI cI m10 4 na]) (xrS (n := 1) (As := [.int (nI x)]) (rest := [.ref m10, .int 1]) hd hK hP hD (n_fromOf l D cI cJ cZ cR _ x (by omega)) (gS t_716 mS_X7_fromOf) hS_X7_fromOf ⟨(Nat.le_of_ble_eq_true rfl), (Nat.le_of_ble_eq_true rfl)⟩ [] rfl rfl rfl hl.1 rfl (Nat.le_of_ble_eq_true rfl) dX7_areApart_6 ⟨(Nat.le_of_ble_eq_true rfl), (Nat.le_of_ble_eq_true rfl)⟩) hP hD hS hA [] [0, 1, 2] rfl rfl rfl (by decide) (fun r_1 u_2 H locs hw_3 hP hD hS => ?_)
  have hw_4 : r_1 = (nI (x / 10 % 10)) := hw_3
  subst hw_4
  have hP : va_P D vwCl [kX7 m0 (nI z) m1 (nI r9) m2 m3 m4 m5 (nI n9) (nI v) m6 k1 k2 k3 k4 m7 k5 k6 k7 k8 m8 m9 m10 k9 m11 m12 m13 hv, kI cI m9 32 nf, kI cI m10 4 na] H := hP
  have hD : va_D A [kX7 m0 (nI z) m1 (nI r9) m2 m3 m4 m5 (nI n9) (nI v) m6 k1 k2 k3 k4 m7 k5 k6 k7 k8 m8 m9 m10 k9 m11 m12 m13 hv, kI cI m9 32 nf, kI cI m10 4 na] := hD
  refine va_iald hx hb hK1 hP 2 0 rfl rfl (vp_in_nI (by omega) (by omega)) dX7_areApart_9 ?_
  refine lv_nmi (show _ = na (x / 10 % 10) from by rw [nI_clamp (n := (x / 10 % 10)) (by omega)]) ?_
  refine lv_nmi (show _ = (nI (tn (na (x / 10 % 10))) : Int32) from ew1) ?_
  refine lv_ishl hx hb dX7_areApart_10 ?_
  refine lv_iconst (v := 1) hx hb dX7_areApart_11 (by decide) ?_
  refine lv_aload_n hx hb dX7_areApart_12 rfl (lv_at hl 0 rfl) ?_
  refine va_get (D := D) (ci := 7) (v := .ref m10) (C := RX7) (T := TX7) (N := 27) hx hb hts iT_X7 hown hK1 hP 0 rfl rfl 21 (by decide) (hts _ t_572) (fun _ h9 => h9) rfl dX7_areApart_13 ?_
  refine lv_iload_n hx hb dX7_areApart_16 rfl (lv_at hl 1 rfl) ?_
  refine xc_i (wc := []) (wr := [kX7 m0 (nI z) m1 (nI r9) m2 m3 m4 m5 (nI n9) (nI v) m6 k1 k2 k3 k4 m7 k5 k6 k7 k8 m8 m9 m10 k9 m11 m12 m13 hv, kI cI m9 32 nf, kI cI m10 4 na]) (xrS (n := 1) (As := [.int (nI x)]) (rest := [.ref m10, .int 1, .int ((1 : Int32) <<< ((nI (tn (na (x / 10 % 10)))) &&& 31))]) hd hK hP hD (n_toOf l D cI cJ cZ cR _ x (by omega)) (gS t_723 mS_X7_toOf) hS_X7_toOf ⟨(Nat.le_of_ble_eq_true rfl), (Nat.le_of_ble_eq_true rfl)⟩ [] rfl rfl rfl hl.1 rfl (Nat.le_of_ble_eq_true rfl) dX7_areApart_17 ⟨(Nat.le_of_ble_eq_true rfl), (Nat.le_of_ble_eq_true rfl)⟩) hP hD hS hA [] [0, 1, 2] rfl rfl rfl (by decide) (fun r_5 u_6 H locs hw_7 hP hD hS => ?_)
  have hw_8 : r_5 = (nI (x % 10)) := hw_7
  subst hw_8
  have hP : va_P D vwCl [kX7 m0 (nI z) m1 (nI r9) m2 m3 m4 m5 (nI n9) (nI v) m6 k1 k2 k3 k4 m7 k5 k6 k7 k8 m8 m9 m10 k9 m11 m12 m13 hv, kI cI m9 32 nf, kI cI m10 4 na] H := hP
  have hD : va_D A [kX7 m0 (nI z) m1 (nI r9) m2 m3 m4 m5 (nI n9) (nI v) m6 k1 k2 k3 k4 m7 k5 k6 k7 k8 m8 m9 m10 k9 m11 m12 m13 hv, kI cI m9 32 nf, kI cI m10 4 na] := hD
  refine va_iald hx hb hK1 hP 2 0 rfl rfl (vp_in_nI (by omega) (by omega)) dX7_areApart_20 ?_
  refine lv_nmi (show _ = na (x % 10) from by rw [nI_clamp (n := (x % 10)) (by omega)]) ?_
  refine lv_nmi (show _ = (nI (tn (na (x % 10))) : Int32) from ew2) ?_
  refine lv_ishl hx hb dX7_areApart_21 ?_
  refine lv_ior hx hb dX7_areApart_22 ?_
  refine lv_nmi (show _ = (nI (2 ^ (tn (na (x / 10 % 10))) ||| 2 ^ (tn (na (x % 10)))) : Int32) from (np_pair hw1 hw2).1) ?_
  refine lv_istore (lv' := [(5, .int (nI (2 ^ (tn (na (x / 10 % 10))) ||| 2 ^ (tn (na (x % 10)))))), (0, .ref m0), (1, .int (nI x)), (2, .int (nI d)), (3, .int (nI y)), (4, .int (nI d2))]) hx hb dX7_areApart_23 hl (by decide) rfl (fun ls hl => ?_)
  refine lv_iconst (v := 1) hx hb dX7_areApart_25 (by decide) ?_
  refine lv_aload_n hx hb dX7_areApart_26 rfl (lv_at hl 1 rfl) ?_
  refine va_get (D := D) (ci := 7) (v := .ref m10) (C := RX7) (T := TX7) (N := 27) hx hb hts iT_X7 hown hK1 hP 0 rfl rfl 21 (by decide) (hts _ t_572) (fun _ h9 => h9) rfl dX7_areApart_27 ?_
  refine lv_iload_n hx hb dX7_areApart_30 rfl (lv_at hl 4 rfl) ?_
  refine xc_i (wc := []) (wr := [kX7 m0 (nI z) m1 (nI r9) m2 m3 m4 m5 (nI n9) (nI v) m6 k1 k2 k3 k4 m7 k5 k6 k7 k8 m8 m9 m10 k9 m11 m12 m13 hv, kI cI m9 32 nf, kI cI m10 4 na]) (xrS (n := 1) (As := [.int (nI y)]) (rest := [.ref m10, .int 1]) hd hK hP hD (n_fromOf l D cI cJ cZ cR _ y (by omega)) (gS t_716 mS_X7_fromOf) hS_X7_fromOf ⟨(Nat.le_of_ble_eq_true rfl), (Nat.le_of_ble_eq_true rfl)⟩ [] rfl rfl rfl hl.1 rfl (Nat.le_of_ble_eq_true rfl) dX7_areApart_31 ⟨(Nat.le_of_ble_eq_true rfl), (Nat.le_of_ble_eq_true rfl)⟩) hP hD hS hA [] [0, 1, 2] rfl rfl rfl (by decide) (fun r_9 u_10 H locs hw_11 hP hD hS => ?_)
  have hw_12 : r_9 = (nI (y / 10 % 10)) := hw_11
  subst hw_12
  have hP : va_P D vwCl [kX7 m0 (nI z) m1 (nI r9) m2 m3 m4 m5 (nI n9) (nI v) m6 k1 k2 k3 k4 m7 k5 k6 k7 k8 m8 m9 m10 k9 m11 m12 m13 hv, kI cI m9 32 nf, kI cI m10 4 na] H := hP
  have hD : va_D A [kX7 m0 (nI z) m1 (nI r9) m2 m3 m4 m5 (nI n9) (nI v) m6 k1 k2 k3 k4 m7 k5 k6 k7 k8 m8 m9 m10 k9 m11 m12 m13 hv, kI cI m9 32 nf, kI cI m10 4 na] := hD
  refine va_iald hx hb hK1 hP 2 0 rfl rfl (vp_in_nI (by omega) (by omega)) dX7_areApart_34 ?_
  refine lv_nmi (show _ = na (y / 10 % 10) from by rw [nI_clamp (n := (y / 10 % 10)) (by omega)]) ?_
  refine lv_nmi (show _ = (nI (tn (na (y / 10 % 10))) : Int32) from ew3) ?_
  refine lv_ishl hx hb dX7_areApart_35 ?_
  refine lv_iconst (v := 1) hx hb dX7_areApart_36 (by decide) ?_
  refine lv_aload_n hx hb dX7_areApart_37 rfl (lv_at hl 1 rfl) ?_
  refine va_get (D := D) (ci := 7) (v := .ref m10) (C := RX7) (T := TX7) (N := 27) hx hb hts iT_X7 hown hK1 hP 0 rfl rfl 21 (by decide) (hts _ t_572) (fun _ h9 => h9) rfl dX7_areApart_38 ?_
  refine lv_iload_n hx hb dX7_areApart_41 rfl (lv_at hl 4 rfl) ?_
  refine xc_i (wc := []) (wr := [kX7 m0 (nI z) m1 (nI r9) m2 m3 m4 m5 (nI n9) (nI v) m6 k1 k2 k3 k4 m7 k5 k6 k7 k8 m8 m9 m10 k9 m11 m12 m13 hv, kI cI m9 32 nf, kI cI m10 4 na]) (xrS (n := 1) (As := [.int (nI y)]) (rest := [.ref m10, .int 1, .int ((1 : Int32) <<< ((nI (tn (na (y / 10 % 10)))) &&& 31))]) hd hK hP hD (n_toOf l D cI cJ cZ cR _ y (by omega)) (gS t_723 mS_X7_toOf) hS_X7_toOf ⟨(Nat.le_of_ble_eq_true rfl), (Nat.le_of_ble_eq_true rfl)⟩ [] rfl rfl rfl hl.1 rfl (Nat.le_of_ble_eq_true rfl) dX7_areApart_42 ⟨(Nat.le_of_ble_eq_true rfl), (Nat.le_of_ble_eq_true rfl)⟩) hP hD hS hA [] [0, 1, 2] rfl rfl rfl (by decide) (fun r_13 u_14 H locs hw_15 hP hD hS => ?_)
  have hw_16 : r_13 = (nI (y % 10)) := hw_15
  subst hw_16
  have hP : va_P D vwCl [kX7 m0 (nI z) m1 (nI r9) m2 m3 m4 m5 (nI n9) (nI v) m6 k1 k2 k3 k4 m7 k5 k6 k7 k8 m8 m9 m10 k9 m11 m12 m13 hv, kI cI m9 32 nf, kI cI m10 4 na] H := hP
  have hD : va_D A [kX7 m0 (nI z) m1 (nI r9) m2 m3 m4 m5 (nI n9) (nI v) m6 k1 k2 k3 k4 m7 k5 k6 k7 k8 m8 m9 m10 k9 m11 m12 m13 hv, kI cI m9 32 nf, kI cI m10 4 na] := hD
  refine va_iald hx hb hK1 hP 2 0 rfl rfl (vp_in_nI (by omega) (by omega)) dX7_areApart_45 ?_
  refine lv_nmi (show _ = na (y % 10) from by rw [nI_clamp (n := (y % 10)) (by omega)]) ?_
  refine lv_nmi (show _ = (nI (tn (na (y % 10))) : Int32) from ew4) ?_
  refine lv_ishl hx hb dX7_areApart_46 ?_
  refine lv_ior hx hb dX7_areApart_47 ?_
  refine lv_nmi (show _ = (nI (2 ^ (tn (na (y / 10 % 10))) ||| 2 ^ (tn (na (y % 10)))) : Int32) from (np_pair hw3 hw4).1) ?_
  refine lv_istore (lv' := [(6, .int (nI (2 ^ (tn (na (y / 10 % 10))) ||| 2 ^ (tn (na (y % 10)))))), (5, .int (nI (2 ^ (tn (na (x / 10 % 10))) ||| 2 ^ (tn (na (x % 10)))))), (0, .ref m0), (1, .int (nI x)), (2, .int (nI d)), (3, .int (nI y)), (4, .int (nI d2))]) hx hb dX7_areApart_48 hl (by decide) rfl (fun ls hl => ?_)
  refine lv_aload_n hx hb dX7_areApart_50 rfl (lv_at hl 2 rfl) ?_
  refine va_get (D := D) (ci := 7) (v := .ref m9) (C := RX7) (T := TX7) (N := 27) hx hb hts iT_X7 hown hK1 hP 0 rfl rfl 20 (by decide) (hts _ t_571) (fun _ h9 => h9) rfl dX7_areApart_51 ?_
  refine lv_iload_n hx hb dX7_areApart_54 rfl (lv_at hl 4 rfl) ?_
  refine va_iald hx hb hK1 hP 1 0 rfl rfl (vp_in_nI (by omega) (by omega)) dX7_areApart_55 ?_
  refine lv_nmi (show _ = nf d from by rw [nI_clamp (n := d) (by omega)]) ?_
  refine lv_nmi (show _ = (nI (NMm ea d n9) : Int32) from hNF d hd9) ?_
  refine lv_aload_n hx hb dX7_areApart_56 rfl (lv_at hl 2 rfl) ?_
  refine va_get (D := D) (ci := 7) (v := .ref m9) (C := RX7) (T := TX7) (N := 27) hx hb hts iT_X7 hown hK1 hP 0 rfl rfl 20 (by decide) (hts _ t_571) (fun _ h9 => h9) rfl dX7_areApart_57 ?_
  refine lv_iload hx hb dX7_areApart_60 (lv_at hl 6 rfl) ?_
  refine va_iald hx hb hK1 hP 1 0 rfl rfl (vp_in_nI (by omega) (by omega)) dX7_areApart_62 ?_
  refine lv_nmi (show _ = nf d2 from by rw [nI_clamp (n := d2) (by omega)]) ?_
  refine lv_nmi (show _ = (nI (NMm ea d2 n9) : Int32) from hNF d2 hd29) ?_
  refine lv_iand hx hb dX7_areApart_63 ?_
  refine lv_nmi (show _ = (nI (NMm ea d n9 &&& NMm ea d2 n9) : Int32) from (np_and (NMm_lt hEA hv5 (Nat.le_refl n9)) (NMm_lt hEA hv5 (Nat.le_refl n9))).1) ?_
  refine lv_iload hx hb dX7_areApart_64 (lv_at hl 1 rfl) ?_
  refine lv_iload hx hb dX7_areApart_66 (lv_at hl 0 rfl) ?_
  refine lv_iand hx hb dX7_areApart_68 ?_
  refine lv_nmi (show _ = (nI ((2 ^ (tn (na (x / 10 % 10))) ||| 2 ^ (tn (na (x % 10)))) &&& (2 ^ (tn (na (y / 10 % 10))) ||| 2 ^ (tn (na (y % 10))))) : Int32) from (np_and (np_pair hw1 hw2).2 (np_pair hw3 hw4).2).1) ?_
  refine lv_iconst (v := -1) hx hb dX7_areApart_69 (by decide) ?_
  refine lv_ixor hx hb dX7_areApart_70 ?_
  refine lv_iand hx hb dX7_areApart_71 ?_
  refine lv_if_ne (tgt := 79) hx hb dX7_areApart_72 (by decide) (fun c_17 => ?_) (fun c_17 => ?_)
  · skip
    refine lv_iconst (v := 0) hx hb dX7_areApart_79 (by decide) ?_
    exact hret _ _ _ _ _ _ 0 () dX7_areApart_80 rfl hS (Nat.le_of_ble_eq_true rfl) (Nat.le_of_ble_eq_true rfl) (YN_n (fun q => c_17 ((aa_iff hEA hv5 hw1 hw2 hw3 hw4).mpr q))) (hP.sub [0, 1, 2] rfl) (hD.sub [0, 1, 2] rfl rfl)
  · skip
    refine lv_iconst (v := 1) hx hb dX7_areApart_75 (by decide) ?_
    refine lv_goto (tgt := 80) hx hb dX7_areApart_76 (by decide) ?_
    exact hret _ _ _ _ _ _ 1 () dX7_areApart_80 rfl hS (Nat.le_of_ble_eq_true rfl) (Nat.le_of_ble_eq_true rfl) (YN_y ((aa_iff hEA hv5 hw1 hw2 hw3 hw4).mp c_17)) (hP.sub [0, 1, 2] rfl) (hD.sub [0, 1, 2] rfl rfl)
set_option maxHeartbeats 4000000 in
set_option maxRecDepth 100000 in
theorem c_X7_areUnlike (sz : Nat) (m0 : Nat) (m1 : Nat) (m2 : Nat) (m3 : Nat) (m4 : Nat) (m5 : Nat) (m6 : Nat) (m7 : Nat) (m8 : Nat) (m9 : Nat) (m10 : Nat) (m11 : Nat) (m12 : Nat) (m13 : Nat) (z : Nat) (r9 : Nat) (n9 : Nat) (v : Nat) (k1 : Int32) (k2 : Int32) (k3 : Int32) (k4 : Int32) (k5 : Int32) (k6 : Int32) (k7 : Int32) (k8 : Int32) (k9 : Int32) (hv : Int64) (na : Nat → Int32) (w : Nat) (hw4 : w ≤ 4) (hw2 : 2 ≤ w) : CTi l D cI cJ cZ cR yX7_areUnlike cX7_areUnlike 5 (some .boolean) 0 0 0 0 sz [.ref m0, .int (nI w)] [kX7 m0 (nI z) m1 (nI r9) m2 m3 m4 m5 (nI n9) (nI v) m6 k1 k2 k3 k4 m7 k5 k6 k7 k8 m8 m9 m10 k9 m11 m12 m13 hv, kI cI m10 4 na] (fun (r : Int32) (u : Unit) => (YN r (uLk w na))) (fun (u : Unit) => [kX7 m0 (nI z) m1 (nI r9) m2 m3 m4 m5 (nI n9) (nI v) m6 k1 k2 k3 k4 m7 k5 k6 k7 k8 m8 m9 m10 k9 m11 m12 m13 hv, kI cI m10 4 na]) := by
  refine CTi.of (ty := .boolean) (by decide) (Nat.le_of_ble_eq_true rfl) rfl ?_
  intro p e s m below meth c A Q ls hd hin hK hsz hP hD hA hS hl hret
  obtain ⟨hx, hb, hml, hown, hts⟩ := id hd
  have hK1 := hK.1
  have hown : s.vm.findClass RX7 = some m.cls := hown
  have hl : lv_has ls 5 [(0, .ref m0), (1, .int (nI w))] := hl
  refine lv_iconst (v := 1) hx hb dX7_areUnlike_0 (by decide) ?_
  refine lv_istore_n (lv' := [(2, .int 1), (0, .ref m0), (1, .int (nI w))]) hx hb dX7_areUnlike_1 rfl hl (by decide) rfl (fun ls hl => ?_)
  refine lv_iconst (v := 2) hx hb dX7_areUnlike_2 (by decide) ?_
  refine lv_istore_n (lv' := [(3, .int 2), (2, .int 1), (0, .ref m0), (1, .int (nI w))]) hx hb dX7_areUnlike_3 rfl hl (by decide) rfl (fun ls hl => ?_)
  have LOOP_4 : ∀ (n : Nat) (k : Nat) (ar : Int32), (k + n = w) → (2 ≤ k) → (uLi k 0 na ar) → ∀ (H : Heap) (locs : List Loc) (ls : Array Slot), va_P D vwCl [kX7 m0 (nI z) m1 (nI r9) m2 m3 m4 m5 (nI n9) (nI v) m6 k1 k2 k3 k4 m7 k5 k6 k7 k8 m8 m9 m10 k9 m11 m12 m13 hv, kI cI m10 4 na] H → va_D A [kX7 m0 (nI z) m1 (nI r9) m2 m3 m4 m5 (nI n9) (nI v) m6 k1 k2 k3 k4 m7 k5 k6 k7 k8 m8 m9 m10 k9 m11 m12 m13 hv, kI cI m10 4 na] → va_S A s.heap H locs → lv_has ls 5 [(0, .ref m0), (1, .int (nI w)), (2, .int ar), (3, .int (nI k))] → W p l e (rM 0 0 0 0) s m ([.ref m0, .int (nI w)] : List Value).toArray below meth c H locs 0 0 Q (F0 m 4 ls []) := by
    intro n
    induction n with
    | zero =>
      intro k ar hk hk2 hr1 H locs ls hP hD hS hl
      refine lv_iload_n hx hb dX7_areUnlike_4 rfl (lv_at hl 3 rfl) ?_
      refine lv_iload_n hx hb dX7_areUnlike_5 rfl (lv_at hl 1 rfl) ?_
      refine lv_icmp_ge (tgt := 56) hx hb dX7_areUnlike_6 (by decide) (fun c_1 => ?_) (fun c_1 => ?_)
      rotate_left
      · exact absurd (nI_le (a := w) (b := k) (by omega) (by omega)) c_1
      refine lv_iload_n hx hb dX7_areUnlike_56 rfl (lv_at hl 2 rfl) ?_
      exact hret _ _ _ _ _ _ ar () dX7_areUnlike_57 (nar_01 hr1.b01) hS (Nat.le_of_ble_eq_true rfl) (Nat.le_of_ble_eq_true rfl) (uLi_E (by omega) hr1) (hP.sub [0, 1] rfl) (hD.sub [0, 1] rfl rfl)
    | succ n ih_4 =>
      intro k ar hk hk2 hr1 H locs ls hP hD hS hl
      refine lv_iload_n hx hb dX7_areUnlike_4 rfl (lv_at hl 3 rfl) ?_
      refine lv_iload_n hx hb dX7_areUnlike_5 rfl (lv_at hl 1 rfl) ?_
      refine lv_icmp_ge (tgt := 56) hx hb dX7_areUnlike_6 (by decide) (fun c_2 => ?_) (fun c_2 => ?_)
      · exact absurd c_2 (nI_ge (a := k) (b := w) (by omega) (by omega))
      refine lv_iconst (v := 0) hx hb dX7_areUnlike_9 (by decide) ?_
      refine lv_istore (lv' := [(4, .int 0), (0, .ref m0), (1, .int (nI w)), (2, .int ar), (3, .int (nI k))]) hx hb dX7_areUnlike_10 hl (by decide) rfl (fun ls hl => ?_)
      have LOOP_12 : ∀ (n : Nat) (j : Nat) (as : Int32), (j + n = k) → (uLi k j na as) → ∀ (H : Heap) (locs : List Loc) (ls : Array Slot), va_P D vwCl [kX7 m0 (nI z) m1 (nI r9) m2 m3 m4 m5 (nI n9) (nI v) m6 k1 k2 k3 k4 m7 k5 k6 k7 k8 m8 m9 m10 k9 m11 m12 m13 hv, kI cI m10 4 na] H → va_D A [kX7 m0 (nI z) m1 (nI r9) m2 m3 m4 m5 (nI n9) (nI v) m6 k1 k2 k3 k4 m7 k5 k6 k7 k8 m8 m9 m10 k9 m11 m12 m13 hv, kI cI m10 4 na] → va_S A s.heap H locs → lv_has ls 5 [(0, .ref m0), (1, .int (nI w)), (2, .int as), (3, .int (nI k)), (4, .int (nI j))] → W p l e (rM 0 0 0 0) s m ([.ref m0, .int (nI w)] : List Value).toArray below meth c H locs 0 0 Q (F0 m 12 ls []) := by
        intro n
        induction n with
        | zero =>
          intro j as hj hr2 H locs ls hP hD hS hl
          refine lv_iload hx hb dX7_areUnlike_12 (lv_at hl 4 rfl) ?_
          refine lv_iload_n hx hb dX7_areUnlike_14 rfl (lv_at hl 3 rfl) ?_
          refine lv_icmp_ge (tgt := 50) hx hb dX7_areUnlike_15 (by decide) (fun c_3 => ?_) (fun c_3 => ?_)
          rotate_left
          · exact absurd (nI_le (a := k) (b := j) (by omega) (by omega)) c_3
          refine lv_iinc (v := nI (k + 1)) (lv' := [(3, .int (nI (k + 1))), (0, .ref m0), (1, .int (nI w)), (2, .int as), (4, .int (nI j))]) hx hb dX7_areUnlike_50 hl (k := 3) rfl (nI_1 k) (by decide) rfl (fun ls hl => ?_)
          refine lv_goto (tgt := 4) hx hb dX7_areUnlike_53 (by decide) ?_
          exact ih_4 (k + 1) as (by omega) (by omega) (uLi_s hk2 (by omega) hr2) _ _ _ (hP.sub [0, 1] rfl) (hD.sub [0, 1] rfl rfl) hS (lv_sub hl [1, 2, 3, 0] rfl)
        | succ n ih_12 =>
          intro j as hj hr2 H locs ls hP hD hS hl
          refine lv_iload hx hb dX7_areUnlike_12 (lv_at hl 4 rfl) ?_
          refine lv_iload_n hx hb dX7_areUnlike_14 rfl (lv_at hl 3 rfl) ?_
          refine lv_icmp_ge (tgt := 50) hx hb dX7_areUnlike_15 (by decide) (fun c_4 => ?_) (fun c_4 => ?_)
          · exact absurd c_4 (nI_ge (a := j) (b := k) (by omega) (by omega))
          refine lv_iload_n hx hb dX7_areUnlike_18 rfl (lv_at hl 2 rfl) ?_
          refine lv_if_eq (tgt := 42) hx hb dX7_areUnlike_19 (by decide) (fun c_5 => ?_) (fun c_5 => ?_)
          · skip
            refine lv_iconst (v := 0) hx hb dX7_areUnlike_42 (by decide) ?_
            refine lv_istore_n (lv' := [(2, .int 0), (0, .ref m0), (1, .int (nI w)), (3, .int (nI k)), (4, .int (nI j))]) hx hb dX7_areUnlike_43 rfl hl (by decide) rfl (fun ls hl => ?_)
            refine lv_iinc (v := nI (j + 1)) (lv' := [(4, .int (nI (j + 1))), (2, .int 0), (0, .ref m0), (1, .int (nI w)), (3, .int (nI k))]) hx hb dX7_areUnlike_44 hl (k := 4) rfl (nI_1 j) (by decide) rfl (fun ls hl => ?_)
            refine lv_goto (tgt := 12) hx hb dX7_areUnlike_47 (by decide) ?_
            exact ih_12 (j + 1) 0 (by omega) (uLi_n hr2 c_5) _ _ _ (hP.sub [0, 1] rfl) (hD.sub [0, 1] rfl rfl) hS (lv_sub hl [2, 3, 1, 4, 0] rfl)
          · skip
            refine lv_aload_n hx hb dX7_areUnlike_22 rfl (lv_at hl 0 rfl) ?_
            refine va_get (D := D) (ci := 7) (v := .ref m10) (C := RX7) (T := TX7) (N := 27) hx hb hts iT_X7 hown hK1 hP 0 rfl rfl 21 (by decide) (hts _ t_572) (fun _ h9 => h9) rfl dX7_areUnlike_23 ?_
            refine lv_iload_n hx hb dX7_areUnlike_26 rfl (lv_at hl 3 rfl) ?_
            refine va_iald hx hb hK1 hP 1 0 rfl rfl (vp_in_nI (by omega) (by omega)) dX7_areUnlike_27 ?_
            refine lv_nmi (show _ = na k from by rw [nI_clamp (n := k) (by omega)]) ?_
            refine lv_aload_n hx hb dX7_areUnlike_28 rfl (lv_at hl 0 rfl) ?_
            refine va_get (D := D) (ci := 7) (v := .ref m10) (C := RX7) (T := TX7) (N := 27) hx hb hts iT_X7 hown hK1 hP 0 rfl rfl 21 (by decide) (hts _ t_572) (fun _ h9 => h9) rfl dX7_areUnlike_29 ?_
            refine lv_iload hx hb dX7_areUnlike_32 (lv_at hl 4 rfl) ?_
            refine va_iald hx hb hK1 hP 1 0 rfl rfl (vp_in_nI (by omega) (by omega)) dX7_areUnlike_34 ?_
            refine lv_nmi (show _ = na j from by rw [nI_clamp (n := j) (by omega)]) ?_
            refine lv_icmp_eq (tgt := 42) hx hb dX7_areUnlike_35 (by decide) (fun c_6 => ?_) (fun c_6 => ?_)
            · skip
              refine lv_iconst (v := 0) hx hb dX7_areUnlike_42 (by decide) ?_
              refine lv_istore_n (lv' := [(2, .int 0), (0, .ref m0), (1, .int (nI w)), (3, .int (nI k)), (4, .int (nI j))]) hx hb dX7_areUnlike_43 rfl hl (by decide) rfl (fun ls hl => ?_)
              refine lv_iinc (v := nI (j + 1)) (lv' := [(4, .int (nI (j + 1))), (2, .int 0), (0, .ref m0), (1, .int (nI w)), (3, .int (nI k))]) hx hb dX7_areUnlike_44 hl (k := 4) rfl (nI_1 j) (by decide) rfl (fun ls hl => ?_)
              refine lv_goto (tgt := 12) hx hb dX7_areUnlike_47 (by decide) ?_
              exact ih_12 (j + 1) 0 (by omega) (uLi_e (x := 0) c_6) _ _ _ (hP.sub [0, 1] rfl) (hD.sub [0, 1] rfl rfl) hS (lv_sub hl [2, 3, 1, 4, 0] rfl)
            · skip
              refine lv_iconst (v := 1) hx hb dX7_areUnlike_38 (by decide) ?_
              refine lv_goto (tgt := 43) hx hb dX7_areUnlike_39 (by decide) ?_
              refine lv_istore_n (lv' := [(2, .int 1), (0, .ref m0), (1, .int (nI w)), (3, .int (nI k)), (4, .int (nI j))]) hx hb dX7_areUnlike_43 rfl hl (by decide) rfl (fun ls hl => ?_)
              refine lv_iinc (v := nI (j + 1)) (lv' := [(4, .int (nI (j + 1))), (2, .int 1), (0, .ref m0), (1, .int (nI w)), (3, .int (nI k))]) hx hb dX7_areUnlike_44 hl (k := 4) rfl (nI_1 j) (by decide) rfl (fun ls hl => ?_)
              refine lv_goto (tgt := 12) hx hb dX7_areUnlike_47 (by decide) ?_
              exact ih_12 (j + 1) 1 (by omega) (uLi_y hr2 c_5 c_6) _ _ _ (hP.sub [0, 1] rfl) (hD.sub [0, 1] rfl rfl) hS (lv_sub hl [2, 3, 1, 4, 0] rfl)
      exact LOOP_12 k 0 ar (by omega) hr1 _ _ _ (hP.sub [0, 1] rfl) (hD.sub [0, 1] rfl rfl) hS (lv_sub hl [1, 2, 3, 4, 0] rfl)
  exact LOOP_4 (w - 2) 2 1 (by omega) (by omega) uLi_0 _ _ _ (hP.sub [0, 1] rfl) (hD.sub [0, 1] rfl rfl) hS (lv_sub hl [2, 3, 1, 0] rfl)
set_option maxHeartbeats 4000000 in
set_option maxRecDepth 100000 in
theorem c_X7_ones (sz : Nat) (d : Nat) (hd32 : d < 32) : CTi l D cI cJ cZ cR yX7_ones cX7_ones 3 (some .int) 0 0 0 0 sz [.int (nI d)] [] (fun (r : Int32) (u : Unit) => (r = (nI (zpc d)))) (fun (u : Unit) => []) := by
  refine CTi.of (ty := .int) (by decide) (Nat.le_of_ble_eq_true rfl) rfl ?_
  intro p e s m below meth c A Q ls hd hin hK hsz hP hD hA hS hl hret
  obtain ⟨hx, hb, hml, hown, hts⟩ := id hd
  have hK1 := hK.1
  have hown : s.vm.findClass RX7 = some m.cls := hown
  have hl : lv_has ls 3 [(0, .int (nI d))] := hl
  refine lv_iconst (v := 0) hx hb dX7_ones_0 (by decide) ?_
  refine lv_istore_n (lv' := [(1, .int 0), (0, .int (nI d))]) hx hb dX7_ones_1 rfl hl (by decide) rfl (fun ls hl => ?_)
  refine lv_iconst (v := 0) hx hb dX7_ones_2 (by decide) ?_
  refine lv_istore_n (lv' := [(2, .int 0), (1, .int 0), (0, .int (nI d))]) hx hb dX7_ones_3 rfl hl (by decide) rfl (fun ls hl => ?_)
  refine lv_iload_n hx hb dX7_ones_4 rfl (lv_at hl 0 rfl) ?_
  refine lv_iconst (v := 5) hx hb dX7_ones_5 (by decide) ?_
  refine lv_icmp_ge (tgt := 23) hx hb dX7_ones_6 (by decide) (fun c_1 => ?_) (fun c_1 => ?_)
  · exact absurd c_1 (by decide)
  refine lv_iload_n hx hb dX7_ones_9 rfl (lv_at hl 1 rfl) ?_
  refine lv_iload_n hx hb dX7_ones_10 rfl (lv_at hl 2 rfl) ?_
  refine lv_iload_n hx hb dX7_ones_11 rfl (lv_at hl 0 rfl) ?_
  refine lv_ishr hx hb dX7_ones_12 ?_
  refine lv_nmi (show _ = ((nI d) >>> ((0 : Int32) &&& 31) : Int32) from rfl) ?_
  refine lv_iconst (v := 1) hx hb dX7_ones_13 (by decide) ?_
  refine lv_iand hx hb dX7_ones_14 ?_
  refine lv_nmi (show _ = (((nI d) >>> ((0 : Int32) &&& 31)) &&& (1 : Int32) : Int32) from rfl) ?_
  refine lv_iadd hx hb dX7_ones_15 ?_
  refine lv_nmi (show _ = ((0 : Int32) + (((nI d) >>> ((0 : Int32) &&& 31)) &&& (1 : Int32)) : Int32) from rfl) ?_
  refine lv_istore_n (lv' := [(1, .int ((0 : Int32) + (((nI d) >>> ((0 : Int32) &&& 31)) &&& (1 : Int32)))), (2, .int 0), (0, .int (nI d))]) hx hb dX7_ones_16 rfl hl (by decide) rfl (fun ls hl => ?_)
  refine lv_iinc (v := 1) (lv' := [(2, .int 1), (1, .int ((0 : Int32) + (((nI d) >>> ((0 : Int32) &&& 31)) &&& (1 : Int32)))), (0, .int (nI d))]) hx hb dX7_ones_17 hl (k := 1) rfl (by decide) (by decide) rfl (fun ls hl => ?_)
  refine lv_goto (tgt := 4) hx hb dX7_ones_20 (by decide) ?_
  refine lv_iload_n hx hb dX7_ones_4 rfl (lv_at hl 0 rfl) ?_
  refine lv_iconst (v := 5) hx hb dX7_ones_5 (by decide) ?_
  refine lv_icmp_ge (tgt := 23) hx hb dX7_ones_6 (by decide) (fun c_2 => ?_) (fun c_2 => ?_)
  · exact absurd c_2 (by decide)
  refine lv_iload_n hx hb dX7_ones_9 rfl (lv_at hl 1 rfl) ?_
  refine lv_iload_n hx hb dX7_ones_10 rfl (lv_at hl 2 rfl) ?_
  refine lv_iload_n hx hb dX7_ones_11 rfl (lv_at hl 0 rfl) ?_
  refine lv_ishr hx hb dX7_ones_12 ?_
  refine lv_nmi (show _ = ((nI d) >>> ((1 : Int32) &&& 31) : Int32) from rfl) ?_
  refine lv_iconst (v := 1) hx hb dX7_ones_13 (by decide) ?_
  refine lv_iand hx hb dX7_ones_14 ?_
  refine lv_nmi (show _ = (((nI d) >>> ((1 : Int32) &&& 31)) &&& (1 : Int32) : Int32) from rfl) ?_
  refine lv_iadd hx hb dX7_ones_15 ?_
  refine lv_nmi (show _ = (((0 : Int32) + (((nI d) >>> ((0 : Int32) &&& 31)) &&& (1 : Int32))) + (((nI d) >>> ((1 : Int32) &&& 31)) &&& (1 : Int32)) : Int32) from rfl) ?_
  refine lv_istore_n (lv' := [(1, .int (((0 : Int32) + (((nI d) >>> ((0 : Int32) &&& 31)) &&& (1 : Int32))) + (((nI d) >>> ((1 : Int32) &&& 31)) &&& (1 : Int32)))), (2, .int 1), (0, .int (nI d))]) hx hb dX7_ones_16 rfl hl (by decide) rfl (fun ls hl => ?_)
  refine lv_iinc (v := 2) (lv' := [(2, .int 2), (1, .int (((0 : Int32) + (((nI d) >>> ((0 : Int32) &&& 31)) &&& (1 : Int32))) + (((nI d) >>> ((1 : Int32) &&& 31)) &&& (1 : Int32)))), (0, .int (nI d))]) hx hb dX7_ones_17 hl (k := 1) rfl (by decide) (by decide) rfl (fun ls hl => ?_)
  refine lv_goto (tgt := 4) hx hb dX7_ones_20 (by decide) ?_
  refine lv_iload_n hx hb dX7_ones_4 rfl (lv_at hl 0 rfl) ?_
  refine lv_iconst (v := 5) hx hb dX7_ones_5 (by decide) ?_
  refine lv_icmp_ge (tgt := 23) hx hb dX7_ones_6 (by decide) (fun c_3 => ?_) (fun c_3 => ?_)
  · exact absurd c_3 (by decide)
  refine lv_iload_n hx hb dX7_ones_9 rfl (lv_at hl 1 rfl) ?_
  refine lv_iload_n hx hb dX7_ones_10 rfl (lv_at hl 2 rfl) ?_
  refine lv_iload_n hx hb dX7_ones_11 rfl (lv_at hl 0 rfl) ?_
  refine lv_ishr hx hb dX7_ones_12 ?_
  refine lv_nmi (show _ = ((nI d) >>> ((2 : Int32) &&& 31) : Int32) from rfl) ?_
  refine lv_iconst (v := 1) hx hb dX7_ones_13 (by decide) ?_
  refine lv_iand hx hb dX7_ones_14 ?_
  refine lv_nmi (show _ = (((nI d) >>> ((2 : Int32) &&& 31)) &&& (1 : Int32) : Int32) from rfl) ?_
  refine lv_iadd hx hb dX7_ones_15 ?_
  refine lv_nmi (show _ = ((((0 : Int32) + (((nI d) >>> ((0 : Int32) &&& 31)) &&& (1 : Int32))) + (((nI d) >>> ((1 : Int32) &&& 31)) &&& (1 : Int32))) + (((nI d) >>> ((2 : Int32) &&& 31)) &&& (1 : Int32)) : Int32) from rfl) ?_
  refine lv_istore_n (lv' := [(1, .int ((((0 : Int32) + (((nI d) >>> ((0 : Int32) &&& 31)) &&& (1 : Int32))) + (((nI d) >>> ((1 : Int32) &&& 31)) &&& (1 : Int32))) + (((nI d) >>> ((2 : Int32) &&& 31)) &&& (1 : Int32)))), (2, .int 2), (0, .int (nI d))]) hx hb dX7_ones_16 rfl hl (by decide) rfl (fun ls hl => ?_)
  refine lv_iinc (v := 3) (lv' := [(2, .int 3), (1, .int ((((0 : Int32) + (((nI d) >>> ((0 : Int32) &&& 31)) &&& (1 : Int32))) + (((nI d) >>> ((1 : Int32) &&& 31)) &&& (1 : Int32))) + (((nI d) >>> ((2 : Int32) &&& 31)) &&& (1 : Int32)))), (0, .int (nI d))]) hx hb dX7_ones_17 hl (k := 1) rfl (by decide) (by decide) rfl (fun ls hl => ?_)
  refine lv_goto (tgt := 4) hx hb dX7_ones_20 (by decide) ?_
  refine lv_iload_n hx hb dX7_ones_4 rfl (lv_at hl 0 rfl) ?_
  refine lv_iconst (v := 5) hx hb dX7_ones_5 (by decide) ?_
  refine lv_icmp_ge (tgt := 23) hx hb dX7_ones_6 (by decide) (fun c_4 => ?_) (fun c_4 => ?_)
  · exact absurd c_4 (by decide)
  refine lv_iload_n hx hb dX7_ones_9 rfl (lv_at hl 1 rfl) ?_
  refine lv_iload_n hx hb dX7_ones_10 rfl (lv_at hl 2 rfl) ?_
  refine lv_iload_n hx hb dX7_ones_11 rfl (lv_at hl 0 rfl) ?_
  refine lv_ishr hx hb dX7_ones_12 ?_
  refine lv_nmi (show _ = ((nI d) >>> ((3 : Int32) &&& 31) : Int32) from rfl) ?_
  refine lv_iconst (v := 1) hx hb dX7_ones_13 (by decide) ?_
  refine lv_iand hx hb dX7_ones_14 ?_
  refine lv_nmi (show _ = (((nI d) >>> ((3 : Int32) &&& 31)) &&& (1 : Int32) : Int32) from rfl) ?_
  refine lv_iadd hx hb dX7_ones_15 ?_
  refine lv_nmi (show _ = (((((0 : Int32) + (((nI d) >>> ((0 : Int32) &&& 31)) &&& (1 : Int32))) + (((nI d) >>> ((1 : Int32) &&& 31)) &&& (1 : Int32))) + (((nI d) >>> ((2 : Int32) &&& 31)) &&& (1 : Int32))) + (((nI d) >>> ((3 : Int32) &&& 31)) &&& (1 : Int32)) : Int32) from rfl) ?_
  refine lv_istore_n (lv' := [(1, .int (((((0 : Int32) + (((nI d) >>> ((0 : Int32) &&& 31)) &&& (1 : Int32))) + (((nI d) >>> ((1 : Int32) &&& 31)) &&& (1 : Int32))) + (((nI d) >>> ((2 : Int32) &&& 31)) &&& (1 : Int32))) + (((nI d) >>> ((3 : Int32) &&& 31)) &&& (1 : Int32)))), (2, .int 3), (0, .int (nI d))]) hx hb dX7_ones_16 rfl hl (by decide) rfl (fun ls hl => ?_)
  refine lv_iinc (v := 4) (lv' := [(2, .int 4), (1, .int (((((0 : Int32) + (((nI d) >>> ((0 : Int32) &&& 31)) &&& (1 : Int32))) + (((nI d) >>> ((1 : Int32) &&& 31)) &&& (1 : Int32))) + (((nI d) >>> ((2 : Int32) &&& 31)) &&& (1 : Int32))) + (((nI d) >>> ((3 : Int32) &&& 31)) &&& (1 : Int32)))), (0, .int (nI d))]) hx hb dX7_ones_17 hl (k := 1) rfl (by decide) (by decide) rfl (fun ls hl => ?_)
  refine lv_goto (tgt := 4) hx hb dX7_ones_20 (by decide) ?_
  refine lv_iload_n hx hb dX7_ones_4 rfl (lv_at hl 0 rfl) ?_
  refine lv_iconst (v := 5) hx hb dX7_ones_5 (by decide) ?_
  refine lv_icmp_ge (tgt := 23) hx hb dX7_ones_6 (by decide) (fun c_5 => ?_) (fun c_5 => ?_)
  · exact absurd c_5 (by decide)
  refine lv_iload_n hx hb dX7_ones_9 rfl (lv_at hl 1 rfl) ?_
  refine lv_iload_n hx hb dX7_ones_10 rfl (lv_at hl 2 rfl) ?_
  refine lv_iload_n hx hb dX7_ones_11 rfl (lv_at hl 0 rfl) ?_
  refine lv_ishr hx hb dX7_ones_12 ?_
  refine lv_nmi (show _ = ((nI d) >>> ((4 : Int32) &&& 31) : Int32) from rfl) ?_
  refine lv_iconst (v := 1) hx hb dX7_ones_13 (by decide) ?_
  refine lv_iand hx hb dX7_ones_14 ?_
  refine lv_nmi (show _ = (((nI d) >>> ((4 : Int32) &&& 31)) &&& (1 : Int32) : Int32) from rfl) ?_
  refine lv_iadd hx hb dX7_ones_15 ?_
  refine lv_nmi (show _ = ((((((0 : Int32) + (((nI d) >>> ((0 : Int32) &&& 31)) &&& (1 : Int32))) + (((nI d) >>> ((1 : Int32) &&& 31)) &&& (1 : Int32))) + (((nI d) >>> ((2 : Int32) &&& 31)) &&& (1 : Int32))) + (((nI d) >>> ((3 : Int32) &&& 31)) &&& (1 : Int32))) + (((nI d) >>> ((4 : Int32) &&& 31)) &&& (1 : Int32)) : Int32) from rfl) ?_
  refine lv_istore_n (lv' := [(1, .int ((((((0 : Int32) + (((nI d) >>> ((0 : Int32) &&& 31)) &&& (1 : Int32))) + (((nI d) >>> ((1 : Int32) &&& 31)) &&& (1 : Int32))) + (((nI d) >>> ((2 : Int32) &&& 31)) &&& (1 : Int32))) + (((nI d) >>> ((3 : Int32) &&& 31)) &&& (1 : Int32))) + (((nI d) >>> ((4 : Int32) &&& 31)) &&& (1 : Int32)))), (2, .int 4), (0, .int (nI d))]) hx hb dX7_ones_16 rfl hl (by decide) rfl (fun ls hl => ?_)
  refine lv_iinc (v := 5) (lv' := [(2, .int 5), (1, .int ((((((0 : Int32) + (((nI d) >>> ((0 : Int32) &&& 31)) &&& (1 : Int32))) + (((nI d) >>> ((1 : Int32) &&& 31)) &&& (1 : Int32))) + (((nI d) >>> ((2 : Int32) &&& 31)) &&& (1 : Int32))) + (((nI d) >>> ((3 : Int32) &&& 31)) &&& (1 : Int32))) + (((nI d) >>> ((4 : Int32) &&& 31)) &&& (1 : Int32)))), (0, .int (nI d))]) hx hb dX7_ones_17 hl (k := 1) rfl (by decide) (by decide) rfl (fun ls hl => ?_)
  refine lv_goto (tgt := 4) hx hb dX7_ones_20 (by decide) ?_
  refine lv_iload_n hx hb dX7_ones_4 rfl (lv_at hl 0 rfl) ?_
  refine lv_iconst (v := 5) hx hb dX7_ones_5 (by decide) ?_
  refine lv_icmp_ge (tgt := 23) hx hb dX7_ones_6 (by decide) (fun c_6 => ?_) (fun c_6 => ?_)
  rotate_left
  · exact absurd c_6 (by decide)
  refine lv_iload_n hx hb dX7_ones_23 rfl (lv_at hl 1 rfl) ?_
  exact hret _ _ _ _ _ _ ((((((0 : Int32) + (((nI d) >>> ((0 : Int32) &&& 31)) &&& (1 : Int32))) + (((nI d) >>> ((1 : Int32) &&& 31)) &&& (1 : Int32))) + (((nI d) >>> ((2 : Int32) &&& 31)) &&& (1 : Int32))) + (((nI d) >>> ((3 : Int32) &&& 31)) &&& (1 : Int32))) + (((nI d) >>> ((4 : Int32) &&& 31)) &&& (1 : Int32))) () dX7_ones_24 rfl hS (Nat.le_of_ble_eq_true rfl) (Nat.le_of_ble_eq_true rfl) ((by decide +kernel : ∀ d, d < 32 → ((((((0 : Int32) + (((nI d) >>> ((0 : Int32) &&& 31)) &&& (1 : Int32))) + (((nI d) >>> ((1 : Int32) &&& 31)) &&& (1 : Int32))) + (((nI d) >>> ((2 : Int32) &&& 31)) &&& (1 : Int32))) + (((nI d) >>> ((3 : Int32) &&& 31)) &&& (1 : Int32))) + (((nI d) >>> ((4 : Int32) &&& 31)) &&& (1 : Int32))) = nI (zpc d)) d hd32) (hP.sub [] rfl) (hD.sub [] rfl rfl)
end
