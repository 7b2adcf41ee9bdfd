theorem mS_X7_within : Cond.static yX7_within ∈ gT ∧ Cond.initialized yX7_within.cls ∈ gT ∧ Cond.code yX7_within cX7_within 3 (some .boolean) ∈ gT := ⟨t_638, t_8, t_639⟩
theorem hS_X7_within : yX7_within.cls ≠ "java/lang/invoke/MethodHandle" ∧ yX7_within.cls ≠ "java/lang/invoke/VarHandle" ∧ (parseMethodDescriptor yX7_within.desc).map (fun d => d.parameters.length) = some 3 := by decide +kernel
theorem mS_X7_has : Cond.static yX7_has ∈ gT ∧ Cond.initialized yX7_has.cls ∈ gT ∧ Cond.code yX7_has cX7_has 2 (some .boolean) ∈ gT := ⟨t_672, t_8, t_673⟩
theorem hS_X7_has : yX7_has.cls ≠ "java/lang/invoke/MethodHandle" ∧ yX7_has.cls ≠ "java/lang/invoke/VarHandle" ∧ (parseMethodDescriptor yX7_has.desc).map (fun d => d.parameters.length) = some 2 := by decide +kernel
theorem mS_X7_letterOf : Cond.static yX7_letterOf ∈ gT ∧ Cond.initialized yX7_letterOf.cls ∈ gT ∧ Cond.code yX7_letterOf cX7_letterOf 1 (some .int) ∈ gT := ⟨t_714, t_8, t_715⟩
theorem hS_X7_letterOf : yX7_letterOf.cls ≠ "java/lang/invoke/MethodHandle" ∧ yX7_letterOf.cls ≠ "java/lang/invoke/VarHandle" ∧ (parseMethodDescriptor yX7_letterOf.desc).map (fun d => d.parameters.length) = some 1 := by decide +kernel
theorem mS_X7_fromOf : Cond.static yX7_fromOf ∈ gT ∧ Cond.initialized yX7_fromOf.cls ∈ gT ∧ Cond.code yX7_fromOf cX7_fromOf 1 (some .int) ∈ gT := ⟨t_717, t_8, t_718⟩
theorem hS_X7_fromOf : yX7_fromOf.cls ≠ "java/lang/invoke/MethodHandle" ∧ yX7_fromOf.cls ≠ "java/lang/invoke/VarHandle" ∧ (parseMethodDescriptor yX7_fromOf.desc).map (fun d => d.parameters.length) = some 1 := by decide +kernel
theorem mS_X7_toOf : Cond.static yX7_toOf ∈ gT ∧ Cond.initialized yX7_toOf.cls ∈ gT ∧ Cond.code yX7_toOf cX7_toOf 1 (some .int) ∈ gT := ⟨t_724, t_8, t_725⟩
theorem hS_X7_toOf : yX7_toOf.cls ≠ "java/lang/invoke/MethodHandle" ∧ yX7_toOf.cls ≠ "java/lang/invoke/VarHandle" ∧ (parseMethodDescriptor yX7_toOf.desc).map (fun d => d.parameters.length) = some 1 := by decide +kernel
theorem mV_X7_letter : Cond.instanceMethod yX7_letter ∈ gT ∧ Cond.selects RX7 yX7_letter yX7_letter ∈ gT ∧ Cond.initialized RX7 ∈ gT ∧ Cond.code yX7_letter cX7_letter 2 (some .int) ∈ gT := ⟨t_634, t_635, t_8, t_636⟩
theorem hV_X7_letter : yX7_letter.cls = RX7 ∧ yX7_letter.cls ≠ "java/lang/invoke/MethodHandle" ∧ yX7_letter.cls ≠ "java/lang/invoke/VarHandle" ∧ (parseMethodDescriptor yX7_letter.desc).map (fun d => d.parameters.length) = some 1 := by decide +kernel
theorem mV_X7_blank : Cond.instanceMethod yX7_blank ∈ gT ∧ Cond.selects RX7 yX7_blank yX7_blank ∈ gT ∧ Cond.initialized RX7 ∈ gT ∧ Cond.code yX7_blank cX7_blank 2 (some .int) ∈ gT := ⟨t_641, t_642, t_8, t_643⟩
theorem hV_X7_blank : yX7_blank.cls = RX7 ∧ yX7_blank.cls ≠ "java/lang/invoke/MethodHandle" ∧ yX7_blank.cls ≠ "java/lang/invoke/VarHandle" ∧ (parseMethodDescriptor yX7_blank.desc).map (fun d => d.parameters.length) = some 0 := by decide +kernel
theorem mS_X7_letterAt : Cond.static yX7_letterAt ∈ gT ∧ Cond.initialized yX7_letterAt.cls ∈ gT ∧ Cond.code yX7_letterAt cX7_letterAt 2 (some .int) ∈ gT := ⟨t_661, t_8, t_662⟩
theorem hS_X7_letterAt : yX7_letterAt.cls ≠ "java/lang/invoke/MethodHandle" ∧ yX7_letterAt.cls ≠ "java/lang/invoke/VarHandle" ∧ (parseMethodDescriptor yX7_letterAt.desc).map (fun d => d.parameters.length) = some 2 := by decide +kernel
theorem mV_X7_takesEdge : Cond.instanceMethod yX7_takesEdge ∈ gT ∧ Cond.selects RX7 yX7_takesEdge yX7_takesEdge ∈ gT ∧ Cond.initialized RX7 ∈ gT ∧ Cond.code yX7_takesEdge cX7_takesEdge 4 (some .boolean) ∈ gT := ⟨t_658, ts_30, t_8, t_659⟩
theorem hV_X7_takesEdge : yX7_takesEdge.cls = RX7 ∧ yX7_takesEdge.cls ≠ "java/lang/invoke/MethodHandle" ∧ yX7_takesEdge.cls ≠ "java/lang/invoke/VarHandle" ∧ (parseMethodDescriptor yX7_takesEdge.desc).map (fun d => d.parameters.length) = some 2 := by decide +kernel
theorem mV_X7_takes : Cond.instanceMethod yX7_takes ∈ gT ∧ Cond.selects RX7 yX7_takes yX7_takes ∈ gT ∧ Cond.initialized RX7 ∈ gT ∧ Cond.code yX7_takes cX7_takes 4 (some .boolean) ∈ gT := ⟨t_654, ts_29, t_8, t_655⟩
theorem hV_X7_takes : yX7_takes.cls = RX7 ∧ yX7_takes.cls ≠ "java/lang/invoke/MethodHandle" ∧ yX7_takes.cls ≠ "java/lang/invoke/VarHandle" ∧ (parseMethodDescriptor yX7_takes.desc).map (fun d => d.parameters.length) = some 3 := by decide +kernel
theorem mV_X7_read : Cond.instanceMethod yX7_read ∈ gT ∧ Cond.selects RX7 yX7_read yX7_read ∈ gT ∧ Cond.initialized RX7 ∈ gT ∧ Cond.code yX7_read cX7_read 3 (some .int) ∈ gT := ⟨t_650, ts_28, t_8, t_651⟩
theorem hV_X7_read : yX7_read.cls = RX7 ∧ yX7_read.cls ≠ "java/lang/invoke/MethodHandle" ∧ yX7_read.cls ≠ "java/lang/invoke/VarHandle" ∧ (parseMethodDescriptor yX7_read.desc).map (fun d => d.parameters.length) = some 1 := by decide +kernel
theorem mV_X7_isWhole : Cond.instanceMethod yX7_isWhole ∈ gT ∧ Cond.selects RX7 yX7_isWhole yX7_isWhole ∈ gT ∧ Cond.initialized RX7 ∈ gT ∧ Cond.code yX7_isWhole cX7_isWhole 2 (some .boolean) ∈ gT := ⟨t_669, ts_31, t_8, t_670⟩
theorem hV_X7_isWhole : yX7_isWhole.cls = RX7 ∧ yX7_isWhole.cls ≠ "java/lang/invoke/MethodHandle" ∧ yX7_isWhole.cls ≠ "java/lang/invoke/VarHandle" ∧ (parseMethodDescriptor yX7_isWhole.desc).map (fun d => d.parameters.length) = some 1 := by decide +kernel
theorem mV_X7_fault : Cond.instanceMethod yX7_fault ∈ gT ∧ Cond.selects RX7 yX7_fault yX7_fault ∈ gT ∧ Cond.initialized RX7 ∈ gT ∧ Cond.code yX7_fault cX7_fault 2 (some .int) ∈ gT := ⟨t_645, t_646, t_8, t_647⟩
theorem hV_X7_fault : yX7_fault.cls = RX7 ∧ yX7_fault.cls ≠ "java/lang/invoke/MethodHandle" ∧ yX7_fault.cls ≠ "java/lang/invoke/VarHandle" ∧ (parseMethodDescriptor yX7_fault.desc).map (fun d => d.parameters.length) = some 1 := by decide +kernel
theorem mS_X7_above : Cond.static yX7_above ∈ gT ∧ Cond.initialized yX7_above.cls ∈ gT ∧ Cond.code yX7_above cX7_above 2 (some .int) ∈ gT := ⟨t_675, t_8, t_676⟩
theorem hS_X7_above : yX7_above.cls ≠ "java/lang/invoke/MethodHandle" ∧ yX7_above.cls ≠ "java/lang/invoke/VarHandle" ∧ (parseMethodDescriptor yX7_above.desc).map (fun d => d.parameters.length) = some 1 := by decide +kernel
theorem dX7_above_0 : decode cX7_above 0 = .ok (.iconst 0, 1) := by decide +kernel
theorem dX7_above_1 : decode cX7_above 1 = .ok (.istore_n 1, 1) := by decide +kernel
theorem dX7_above_2 : decode cX7_above 2 = .ok (.iload_n 0, 1) := by decide +kernel
theorem dX7_above_3 : decode cX7_above 3 = .ok (.iload_n 1, 1) := by decide +kernel
theorem dX7_above_4 : decode cX7_above 4 = .ok (.ishr, 1) := by decide +kernel
theorem dX7_above_5 : decode cX7_above 5 = .ok (.ifCond .eq 9, 3) := by decide +kernel
theorem dX7_above_8 : decode cX7_above 8 = .ok (.iinc 1 1, 3) := by decide +kernel
theorem dX7_above_11 : decode cX7_above 11 = .ok (.goto (-9), 3) := by decide +kernel
theorem dX7_above_14 : decode cX7_above 14 = .ok (.iload_n 1, 1) := by decide +kernel
theorem dX7_above_15 : decode cX7_above 15 = .ok (.ireturn, 1) := by decide +kernel
theorem dX7_blank_0 : decode cX7_blank 0 = .ok (.aload_n 0, 1) := by decide +kernel
theorem dX7_blank_1 : decode cX7_blank 1 = .ok (.getfield 54, 3) := by decide +kernel
theorem dX7_blank_4 : decode cX7_blank 4 = .ok (.istore_n 1, 1) := by decide +kernel
theorem dX7_blank_5 : decode cX7_blank 5 = .ok (.aload_n 0, 1) := by decide +kernel
theorem dX7_blank_6 : decode cX7_blank 6 = .ok (.iconst 0, 1) := by decide +kernel
theorem dX7_blank_7 : decode cX7_blank 7 = .ok (.putfield 54, 3) := by decide +kernel
theorem dX7_blank_10 : decode cX7_blank 10 = .ok (.iload_n 1, 1) := by decide +kernel
theorem dX7_blank_11 : decode cX7_blank 11 = .ok (.ireturn, 1) := by decide +kernel
theorem dX7_fault_0 : decode cX7_fault 0 = .ok (.aload_n 0, 1) := by decide +kernel
theorem dX7_fault_1 : decode cX7_fault 1 = .ok (.iload_n 1, 1) := by decide +kernel
theorem dX7_fault_2 : decode cX7_fault 2 = .ok (.invokevirtual 82, 3) := by decide +kernel
theorem dX7_fault_5 : decode cX7_fault 5 = .ok (.ireturn, 1) := by decide +kernel
theorem dX7_fromOf_0 : decode cX7_fromOf 0 = .ok (.iload_n 0, 1) := by decide +kernel
theorem dX7_fromOf_1 : decode cX7_fromOf 1 = .ok (.bipush 10, 2) := by decide +kernel
theorem dX7_fromOf_3 : decode cX7_fromOf 3 = .ok (.idiv, 1) := by decide +kernel
theorem dX7_fromOf_4 : decode cX7_fromOf 4 = .ok (.bipush 10, 2) := by decide +kernel
theorem dX7_fromOf_6 : decode cX7_fromOf 6 = .ok (.irem, 1) := by decide +kernel
theorem dX7_fromOf_7 : decode cX7_fromOf 7 = .ok (.ireturn, 1) := by decide +kernel
theorem dX7_has_0 : decode cX7_has 0 = .ok (.iload_n 0, 1) := by decide +kernel
theorem dX7_has_1 : decode cX7_has 1 = .ok (.iload_n 1, 1) := by decide +kernel
theorem dX7_has_2 : decode cX7_has 2 = .ok (.ishr, 1) := by decide +kernel
theorem dX7_has_3 : decode cX7_has 3 = .ok (.iconst 1, 1) := by decide +kernel
theorem dX7_has_4 : decode cX7_has 4 = .ok (.iand, 1) := by decide +kernel
theorem dX7_has_5 : decode cX7_has 5 = .ok (.iconst 1, 1) := by decide +kernel
theorem dX7_has_6 : decode cX7_has 6 = .ok (.if_icmp .ne 7, 3) := by decide +kernel
theorem dX7_has_9 : decode cX7_has 9 = .ok (.iconst 1, 1) := by decide +kernel
theorem dX7_has_10 : decode cX7_has 10 = .ok (.goto 4, 3) := by decide +kernel
theorem dX7_has_13 : decode cX7_has 13 = .ok (.iconst 0, 1) := by decide +kernel
theorem dX7_has_14 : decode cX7_has 14 = .ok (.ireturn, 1) := by decide +kernel
theorem dX7_isWhole_0 : decode cX7_isWhole 0 = .ok (.aload_n 0, 1) := by decide +kernel
theorem dX7_isWhole_1 : decode cX7_isWhole 1 = .ok (.iload_n 1, 1) := by decide +kernel
theorem dX7_isWhole_2 : decode cX7_isWhole 2 = .ok (.invokevirtual 82, 3) := by decide +kernel
theorem dX7_isWhole_5 : decode cX7_isWhole 5 = .ok (.aload_n 0, 1) := by decide +kernel
theorem dX7_isWhole_6 : decode cX7_isWhole 6 = .ok (.getfield 54, 3) := by decide +kernel
theorem dX7_isWhole_9 : decode cX7_isWhole 9 = .ok (.if_icmp .ne 21, 3) := by decide +kernel
theorem dX7_isWhole_12 : decode cX7_isWhole 12 = .ok (.aload_n 0, 1) := by decide +kernel
theorem dX7_isWhole_13 : decode cX7_isWhole 13 = .ok (.getfield 68, 3) := by decide +kernel
theorem dX7_isWhole_16 : decode cX7_isWhole 16 = .ok (.ifCond .le 14, 3) := by decide +kernel
theorem dX7_isWhole_19 : decode cX7_isWhole 19 = .ok (.aload_n 0, 1) := by decide +kernel
theorem dX7_isWhole_20 : decode cX7_isWhole 20 = .ok (.getfield 58, 3) := by decide +kernel
theorem dX7_isWhole_23 : decode cX7_isWhole 23 = .ok (.ifCond .ne 7, 3) := by decide +kernel
theorem dX7_isWhole_26 : decode cX7_isWhole 26 = .ok (.iconst 1, 1) := by decide +kernel
theorem dX7_isWhole_27 : decode cX7_isWhole 27 = .ok (.goto 4, 3) := by decide +kernel
theorem dX7_isWhole_30 : decode cX7_isWhole 30 = .ok (.iconst 0, 1) := by decide +kernel
theorem dX7_isWhole_31 : decode cX7_isWhole 31 = .ok (.ireturn, 1) := by decide +kernel
theorem dX7_letter_0 : decode cX7_letter 0 = .ok (.iload_n 1, 1) := by decide +kernel
theorem dX7_letter_1 : decode cX7_letter 1 = .ok (.bipush 32, 2) := by decide +kernel
theorem dX7_letter_3 : decode cX7_letter 3 = .ok (.bipush 126, 2) := by decide +kernel
theorem dX7_letter_5 : decode cX7_letter 5 = .ok (.invokestatic 50, 3) := by decide +kernel
theorem dX7_letter_8 : decode cX7_letter 8 = .ok (.ifCond .ne 7, 3) := by decide +kernel
theorem dX7_letter_11 : decode cX7_letter 11 = .ok (.sipush (-1002), 3) := by decide +kernel
theorem dX7_letter_14 : decode cX7_letter 14 = .ok (.ireturn, 1) := by decide +kernel
theorem dX7_letter_15 : decode cX7_letter 15 = .ok (.aload_n 0, 1) := by decide +kernel
theorem dX7_letter_16 : decode cX7_letter 16 = .ok (.getfield 54, 3) := by decide +kernel
theorem dX7_letter_19 : decode cX7_letter 19 = .ok (.bipush 16, 2) := by decide +kernel
theorem dX7_letter_21 : decode cX7_letter 21 = .ok (.if_icmp .ne 7, 3) := by decide +kernel
theorem dX7_letter_24 : decode cX7_letter 24 = .ok (.sipush (-1004), 3) := by decide +kernel
theorem dX7_letter_27 : decode cX7_letter 27 = .ok (.ireturn, 1) := by decide +kernel
theorem dX7_letter_28 : decode cX7_letter 28 = .ok (.aload_n 0, 1) := by decide +kernel
theorem dX7_letter_29 : decode cX7_letter 29 = .ok (.getfield 7, 3) := by decide +kernel
theorem dX7_letter_32 : decode cX7_letter 32 = .ok (.aload_n 0, 1) := by decide +kernel
theorem dX7_letter_33 : decode cX7_letter 33 = .ok (.getfield 54, 3) := by decide +kernel
theorem dX7_letter_36 : decode cX7_letter 36 = .ok (.iload_n 1, 1) := by decide +kernel
theorem dX7_letter_37 : decode cX7_letter 37 = .ok (.iastore, 1) := by decide +kernel
theorem dX7_letter_38 : decode cX7_letter 38 = .ok (.aload_n 0, 1) := by decide +kernel
theorem dX7_letter_39 : decode cX7_letter 39 = .ok (.dup, 1) := by decide +kernel
theorem dX7_letter_40 : decode cX7_letter 40 = .ok (.getfield 54, 3) := by decide +kernel
theorem dX7_letter_43 : decode cX7_letter 43 = .ok (.iconst 1, 1) := by decide +kernel
theorem dX7_letter_44 : decode cX7_letter 44 = .ok (.iadd, 1) := by decide +kernel
theorem dX7_letter_45 : decode cX7_letter 45 = .ok (.putfield 54, 3) := by decide +kernel
theorem dX7_letter_48 : decode cX7_letter 48 = .ok (.aload_n 0, 1) := by decide +kernel
theorem dX7_letter_49 : decode cX7_letter 49 = .ok (.getfield 54, 3) := by decide +kernel
theorem dX7_letter_52 : decode cX7_letter 52 = .ok (.ireturn, 1) := by decide +kernel
theorem dX7_letterAt_0 : decode cX7_letterAt 0 = .ok (.iload_n 0, 1) := by decide +kernel
theorem dX7_letterAt_1 : decode cX7_letterAt 1 = .ok (.bipush 97, 2) := by decide +kernel
theorem dX7_letterAt_3 : decode cX7_letterAt 3 = .ok (.if_icmp .eq 9, 3) := by decide +kernel
theorem dX7_letterAt_6 : decode cX7_letterAt 6 = .ok (.iload_n 0, 1) := by decide +kernel
theorem dX7_letterAt_7 : decode cX7_letterAt 7 = .ok (.bipush 98, 2) := by decide +kernel
theorem dX7_letterAt_9 : decode cX7_letterAt 9 = .ok (.if_icmp .ne 10, 3) := by decide +kernel
theorem dX7_letterAt_12 : decode cX7_letterAt 12 = .ok (.iload_n 0, 1) := by decide +kernel
theorem dX7_letterAt_13 : decode cX7_letterAt 13 = .ok (.bipush 97, 2) := by decide +kernel
theorem dX7_letterAt_15 : decode cX7_letterAt 15 = .ok (.isub, 1) := by decide +kernel
theorem dX7_letterAt_16 : decode cX7_letterAt 16 = .ok (.iconst 3, 1) := by decide +kernel
theorem dX7_letterAt_17 : decode cX7_letterAt 17 = .ok (.iadd, 1) := by decide +kernel
theorem dX7_letterAt_18 : decode cX7_letterAt 18 = .ok (.ireturn, 1) := by decide +kernel
theorem dX7_letterAt_19 : decode cX7_letterAt 19 = .ok (.iload_n 1, 1) := by decide +kernel
theorem dX7_letterAt_20 : decode cX7_letterAt 20 = .ok (.ifCond .ne 21, 3) := by decide +kernel
theorem dX7_letterAt_23 : decode cX7_letterAt 23 = .ok (.iload_n 0, 1) := by decide +kernel
theorem dX7_letterAt_24 : decode cX7_letterAt 24 = .ok (.bipush 65, 2) := by decide +kernel
theorem dX7_letterAt_26 : decode cX7_letterAt 26 = .ok (.bipush 67, 2) := by decide +kernel
theorem dX7_letterAt_28 : decode cX7_letterAt 28 = .ok (.invokestatic 50, 3) := by decide +kernel
theorem dX7_letterAt_31 : decode cX7_letterAt 31 = .ok (.ifCond .eq 10, 3) := by decide +kernel
theorem dX7_letterAt_34 : decode cX7_letterAt 34 = .ok (.iload_n 0, 1) := by decide +kernel
theorem dX7_letterAt_35 : decode cX7_letterAt 35 = .ok (.bipush 65, 2) := by decide +kernel
theorem dX7_letterAt_37 : decode cX7_letterAt 37 = .ok (.isub, 1) := by decide +kernel
theorem dX7_letterAt_38 : decode cX7_letterAt 38 = .ok (.goto 4, 3) := by decide +kernel
theorem dX7_letterAt_41 : decode cX7_letterAt 41 = .ok (.iconst (-1), 1) := by decide +kernel
theorem dX7_letterAt_42 : decode cX7_letterAt 42 = .ok (.ireturn, 1) := by decide +kernel
theorem dX7_letterOf_0 : decode cX7_letterOf 0 = .ok (.iload_n 0, 1) := by decide +kernel
theorem dX7_letterOf_1 : decode cX7_letterOf 1 = .ok (.bipush 100, 2) := by decide +kernel
theorem dX7_letterOf_3 : decode cX7_letterOf 3 = .ok (.idiv, 1) := by decide +kernel
theorem dX7_letterOf_4 : decode cX7_letterOf 4 = .ok (.ireturn, 1) := by decide +kernel
theorem dX7_read_0 : decode cX7_read 0 = .ok (.aload_n 0, 1) := by decide +kernel
theorem dX7_read_1 : decode cX7_read 1 = .ok (.iconst 0, 1) := by decide +kernel
theorem dX7_read_2 : decode cX7_read 2 = .ok (.putfield 68, 3) := by decide +kernel
theorem dX7_read_5 : decode cX7_read 5 = .ok (.aload_n 0, 1) := by decide +kernel
theorem dX7_read_6 : decode cX7_read 6 = .ok (.iconst 0, 1) := by decide +kernel
theorem dX7_read_7 : decode cX7_read 7 = .ok (.putfield 71, 3) := by decide +kernel
theorem dX7_read_10 : decode cX7_read 10 = .ok (.aload_n 0, 1) := by decide +kernel
theorem dX7_read_11 : decode cX7_read 11 = .ok (.iconst 0, 1) := by decide +kernel
theorem dX7_read_12 : decode cX7_read 12 = .ok (.putfield 58, 3) := by decide +kernel
theorem dX7_read_15 : decode cX7_read 15 = .ok (.iconst 0, 1) := by decide +kernel
theorem dX7_read_16 : decode cX7_read 16 = .ok (.istore_n 2, 1) := by decide +kernel
theorem dX7_read_17 : decode cX7_read 17 = .ok (.iload_n 2, 1) := by decide +kernel
theorem dX7_read_18 : decode cX7_read 18 = .ok (.aload_n 0, 1) := by decide +kernel
theorem dX7_read_19 : decode cX7_read 19 = .ok (.getfield 54, 3) := by decide +kernel
theorem dX7_read_22 : decode cX7_read 22 = .ok (.if_icmp .ge 24, 3) := by decide +kernel
theorem dX7_read_25 : decode cX7_read 25 = .ok (.aload_n 0, 1) := by decide +kernel
theorem dX7_read_26 : decode cX7_read 26 = .ok (.aload_n 0, 1) := by decide +kernel
theorem dX7_read_27 : decode cX7_read 27 = .ok (.getfield 7, 3) := by decide +kernel
theorem dX7_read_30 : decode cX7_read 30 = .ok (.iload_n 2, 1) := by decide +kernel
theorem dX7_read_31 : decode cX7_read 31 = .ok (.iaload, 1) := by decide +kernel
theorem dX7_read_32 : decode cX7_read 32 = .ok (.iload_n 2, 1) := by decide +kernel
theorem dX7_read_33 : decode cX7_read 33 = .ok (.iload_n 1, 1) := by decide +kernel
theorem dX7_read_34 : decode cX7_read 34 = .ok (.invokevirtual 78, 3) := by decide +kernel
theorem dX7_read_37 : decode cX7_read 37 = .ok (.ifCond .eq 9, 3) := by decide +kernel
theorem dX7_read_40 : decode cX7_read 40 = .ok (.iinc 2 1, 3) := by decide +kernel
theorem dX7_read_43 : decode cX7_read 43 = .ok (.goto (-26), 3) := by decide +kernel
theorem dX7_read_46 : decode cX7_read 46 = .ok (.iload_n 2, 1) := by decide +kernel
theorem dX7_read_47 : decode cX7_read 47 = .ok (.ireturn, 1) := by decide +kernel
theorem dX7_takes_0 : decode cX7_takes 0 = .ok (.iload_n 3, 1) := by decide +kernel
theorem dX7_takes_1 : decode cX7_takes 1 = .ok (.ifCond .ne 35, 3) := by decide +kernel
theorem dX7_takes_4 : decode cX7_takes 4 = .ok (.iload_n 2, 1) := by decide +kernel
theorem dX7_takes_5 : decode cX7_takes 5 = .ok (.iconst 2, 1) := by decide +kernel
theorem dX7_takes_6 : decode cX7_takes 6 = .ok (.if_icmp .ge 30, 3) := by decide +kernel
theorem dX7_takes_9 : decode cX7_takes 9 = .ok (.iload_n 2, 1) := by decide +kernel
theorem dX7_takes_10 : decode cX7_takes 10 = .ok (.ifCond .ne 14, 3) := by decide +kernel
theorem dX7_takes_13 : decode cX7_takes 13 = .ok (.iload_n 1, 1) := by decide +kernel
theorem dX7_takes_14 : decode cX7_takes 14 = .ok (.bipush 65, 2) := by decide +kernel
theorem dX7_takes_16 : decode cX7_takes 16 = .ok (.bipush 67, 2) := by decide +kernel
theorem dX7_takes_18 : decode cX7_takes 18 = .ok (.invokestatic 50, 3) := by decide +kernel
theorem dX7_takes_21 : decode cX7_takes 21 = .ok (.goto 14, 3) := by decide +kernel
theorem dX7_takes_24 : decode cX7_takes 24 = .ok (.iload_n 1, 1) := by decide +kernel
theorem dX7_takes_25 : decode cX7_takes 25 = .ok (.bipush 61, 2) := by decide +kernel
theorem dX7_takes_27 : decode cX7_takes 27 = .ok (.if_icmp .ne 7, 3) := by decide +kernel
theorem dX7_takes_30 : decode cX7_takes 30 = .ok (.iconst 1, 1) := by decide +kernel
theorem dX7_takes_31 : decode cX7_takes 31 = .ok (.goto 4, 3) := by decide +kernel
theorem dX7_takes_34 : decode cX7_takes 34 = .ok (.iconst 0, 1) := by decide +kernel
theorem dX7_takes_35 : decode cX7_takes 35 = .ok (.ireturn, 1) := by decide +kernel
theorem dX7_takes_36 : decode cX7_takes 36 = .ok (.aload_n 0, 1) := by decide +kernel
theorem dX7_takes_37 : decode cX7_takes 37 = .ok (.iload_n 1, 1) := by decide +kernel
theorem dX7_takes_38 : decode cX7_takes 38 = .ok (.iload_n 3, 1) := by decide +kernel
theorem dX7_takes_39 : decode cX7_takes 39 = .ok (.invokevirtual 74, 3) := by decide +kernel
theorem dX7_takes_42 : decode cX7_takes 42 = .ok (.ireturn, 1) := by decide +kernel
theorem dX7_takesEdge_0 : decode cX7_takesEdge 0 = .ok (.aload_n 0, 1) := by decide +kernel
theorem dX7_takesEdge_1 : decode cX7_takesEdge 1 = .ok (.getfield 58, 3) := by decide +kernel
theorem dX7_takesEdge_4 : decode cX7_takesEdge 4 = .ok (.ifCond .ne 46, 3) := by decide +kernel
theorem dX7_takesEdge_7 : decode cX7_takesEdge 7 = .ok (.iload_n 1, 1) := by decide +kernel
theorem dX7_takesEdge_8 : decode cX7_takesEdge 8 = .ok (.iload_n 2, 1) := by decide +kernel
theorem dX7_takesEdge_9 : decode cX7_takesEdge 9 = .ok (.invokestatic 61, 3) := by decide +kernel
theorem dX7_takesEdge_12 : decode cX7_takesEdge 12 = .ok (.istore_n 3, 1) := by decide +kernel
theorem dX7_takesEdge_13 : decode cX7_takesEdge 13 = .ok (.aload_n 0, 1) := by decide +kernel
theorem dX7_takesEdge_14 : decode cX7_takesEdge 14 = .ok (.iload_n 3, 1) := by decide +kernel
theorem dX7_takesEdge_15 : decode cX7_takesEdge 15 = .ok (.putfield 65, 3) := by decide +kernel
theorem dX7_takesEdge_18 : decode cX7_takesEdge 18 = .ok (.aload_n 0, 1) := by decide +kernel
theorem dX7_takesEdge_19 : decode cX7_takesEdge 19 = .ok (.iconst 1, 1) := by decide +kernel
theorem dX7_takesEdge_20 : decode cX7_takesEdge 20 = .ok (.putfield 58, 3) := by decide +kernel
theorem dX7_takesEdge_23 : decode cX7_takesEdge 23 = .ok (.iload_n 3, 1) := by decide +kernel
theorem dX7_takesEdge_24 : decode cX7_takesEdge 24 = .ok (.iconst (-1), 1) := by decide +kernel
theorem dX7_takesEdge_25 : decode cX7_takesEdge 25 = .ok (.if_icmp .eq 23, 3) := by decide +kernel
theorem dX7_takesEdge_28 : decode cX7_takesEdge 28 = .ok (.aload_n 0, 1) := by decide +kernel
theorem dX7_takesEdge_29 : decode cX7_takesEdge 29 = .ok (.getfield 68, 3) := by decide +kernel
theorem dX7_takesEdge_32 : decode cX7_takesEdge 32 = .ok (.iload_n 2, 1) := by decide +kernel
theorem dX7_takesEdge_33 : decode cX7_takesEdge 33 = .ok (.ifCond .eq 7, 3) := by decide +kernel
theorem dX7_takesEdge_36 : decode cX7_takesEdge 36 = .ok (.iconst 5, 1) := by decide +kernel
theorem dX7_takesEdge_37 : decode cX7_takesEdge 37 = .ok (.goto 4, 3) := by decide +kernel
theorem dX7_takesEdge_40 : decode cX7_takesEdge 40 = .ok (.iconst 3, 1) := by decide +kernel
theorem dX7_takesEdge_41 : decode cX7_takesEdge 41 = .ok (.if_icmp .ge 7, 3) := by decide +kernel
theorem dX7_takesEdge_44 : decode cX7_takesEdge 44 = .ok (.iconst 1, 1) := by decide +kernel
theorem dX7_takesEdge_45 : decode cX7_takesEdge 45 = .ok (.goto 4, 3) := by decide +kernel
theorem dX7_takesEdge_48 : decode cX7_takesEdge 48 = .ok (.iconst 0, 1) := by decide +kernel
theorem dX7_takesEdge_49 : decode cX7_takesEdge 49 = .ok (.ireturn, 1) := by decide +kernel
theorem dX7_takesEdge_50 : decode cX7_takesEdge 50 = .ok (.iload_n 1, 1) := by decide +kernel
theorem dX7_takesEdge_51 : decode cX7_takesEdge 51 = .ok (.bipush 48, 2) := by decide +kernel
theorem dX7_takesEdge_53 : decode cX7_takesEdge 53 = .ok (.iload_n 2, 1) := by decide +kernel
theorem dX7_takesEdge_54 : decode cX7_takesEdge 54 = .ok (.ifCond .eq 8, 3) := by decide +kernel
theorem dX7_takesEdge_57 : decode cX7_takesEdge 57 = .ok (.bipush 52, 2) := by decide +kernel
theorem dX7_takesEdge_59 : decode cX7_takesEdge 59 = .ok (.goto 5, 3) := by decide +kernel
theorem dX7_takesEdge_62 : decode cX7_takesEdge 62 = .ok (.bipush 51, 2) := by decide +kernel
theorem dX7_takesEdge_64 : decode cX7_takesEdge 64 = .ok (.invokestatic 50, 3) := by decide +kernel
theorem dX7_takesEdge_67 : decode cX7_takesEdge 67 = .ok (.ifCond .eq 10, 3) := by decide +kernel
theorem dX7_takesEdge_70 : decode cX7_takesEdge 70 = .ok (.iload_n 1, 1) := by decide +kernel
theorem dX7_takesEdge_71 : decode cX7_takesEdge 71 = .ok (.bipush 48, 2) := by decide +kernel
theorem dX7_takesEdge_73 : decode cX7_takesEdge 73 = .ok (.isub, 1) := by decide +kernel
theorem dX7_takesEdge_74 : decode cX7_takesEdge 74 = .ok (.goto 4, 3) := by decide +kernel
theorem dX7_takesEdge_77 : decode cX7_takesEdge 77 = .ok (.iconst (-1), 1) := by decide +kernel
theorem dX7_takesEdge_78 : decode cX7_takesEdge 78 = .ok (.istore_n 3, 1) := by decide +kernel
theorem dX7_takesEdge_79 : decode cX7_takesEdge 79 = .ok (.iload_n 3, 1) := by decide +kernel
theorem dX7_takesEdge_80 : decode cX7_takesEdge 80 = .ok (.iconst (-1), 1) := by decide +kernel
theorem dX7_takesEdge_81 : decode cX7_takesEdge 81 = .ok (.if_icmp .eq 22, 3) := by decide +kernel
theorem dX7_takesEdge_84 : decode cX7_takesEdge 84 = .ok (.aload_n 0, 1) := by decide +kernel
theorem dX7_takesEdge_85 : decode cX7_takesEdge 85 = .ok (.getfield 58, 3) := by decide +kernel
theorem dX7_takesEdge_88 : decode cX7_takesEdge 88 = .ok (.iconst 2, 1) := by decide +kernel
theorem dX7_takesEdge_89 : decode cX7_takesEdge 89 = .ok (.if_icmp .ne 16, 3) := by decide +kernel
theorem dX7_takesEdge_92 : decode cX7_takesEdge 92 = .ok (.iload_n 3, 1) := by decide +kernel
theorem dX7_takesEdge_93 : decode cX7_takesEdge 93 = .ok (.aload_n 0, 1) := by decide +kernel
theorem dX7_takesEdge_94 : decode cX7_takesEdge 94 = .ok (.getfield 65, 3) := by decide +kernel
theorem dX7_takesEdge_97 : decode cX7_takesEdge 97 = .ok (.bipush 10, 2) := by decide +kernel
theorem dX7_takesEdge_99 : decode cX7_takesEdge 99 = .ok (.irem, 1) := by decide +kernel
theorem dX7_takesEdge_100 : decode cX7_takesEdge 100 = .ok (.if_icmp .ne 5, 3) := by decide +kernel
theorem dX7_takesEdge_103 : decode cX7_takesEdge 103 = .ok (.iconst 0, 1) := by decide +kernel
theorem dX7_takesEdge_104 : decode cX7_takesEdge 104 = .ok (.ireturn, 1) := by decide +kernel
theorem dX7_takesEdge_105 : decode cX7_takesEdge 105 = .ok (.aload_n 0, 1) := by decide +kernel
theorem dX7_takesEdge_106 : decode cX7_takesEdge 106 = .ok (.bipush 10, 2) := by decide +kernel
theorem dX7_takesEdge_108 : decode cX7_takesEdge 108 = .ok (.aload_n 0, 1) := by decide +kernel
theorem dX7_takesEdge_109 : decode cX7_takesEdge 109 = .ok (.getfield 65, 3) := by decide +kernel
theorem dX7_takesEdge_112 : decode cX7_takesEdge 112 = .ok (.imul, 1) := by decide +kernel
theorem dX7_takesEdge_113 : decode cX7_takesEdge 113 = .ok (.iload_n 3, 1) := by decide +kernel
theorem dX7_takesEdge_114 : decode cX7_takesEdge 114 = .ok (.iadd, 1) := by decide +kernel
theorem dX7_takesEdge_115 : decode cX7_takesEdge 115 = .ok (.putfield 65, 3) := by decide +kernel
theorem dX7_takesEdge_118 : decode cX7_takesEdge 118 = .ok (.aload_n 0, 1) := by decide +kernel
theorem dX7_takesEdge_119 : decode cX7_takesEdge 119 = .ok (.dup, 1) := by decide +kernel
theorem dX7_takesEdge_120 : decode cX7_takesEdge 120 = .ok (.getfield 71, 3) := by decide +kernel
theorem dX7_takesEdge_123 : decode cX7_takesEdge 123 = .ok (.iconst 1, 1) := by decide +kernel
theorem dX7_takesEdge_124 : decode cX7_takesEdge 124 = .ok (.iload_n 3, 1) := by decide +kernel
theorem dX7_takesEdge_125 : decode cX7_takesEdge 125 = .ok (.ishl, 1) := by decide +kernel
theorem dX7_takesEdge_126 : decode cX7_takesEdge 126 = .ok (.ior, 1) := by decide +kernel
theorem dX7_takesEdge_127 : decode cX7_takesEdge 127 = .ok (.putfield 71, 3) := by decide +kernel
theorem dX7_takesEdge_130 : decode cX7_takesEdge 130 = .ok (.aload_n 0, 1) := by decide +kernel
theorem dX7_takesEdge_131 : decode cX7_takesEdge 131 = .ok (.dup, 1) := by decide +kernel
theorem dX7_takesEdge_132 : decode cX7_takesEdge 132 = .ok (.getfield 58, 3) := by decide +kernel
theorem dX7_takesEdge_135 : decode cX7_takesEdge 135 = .ok (.iconst 1, 1) := by decide +kernel
theorem dX7_takesEdge_136 : decode cX7_takesEdge 136 = .ok (.iadd, 1) := by decide +kernel
theorem dX7_takesEdge_137 : decode cX7_takesEdge 137 = .ok (.putfield 58, 3) := by decide +kernel
theorem dX7_takesEdge_140 : decode cX7_takesEdge 140 = .ok (.aload_n 0, 1) := by decide +kernel
theorem dX7_takesEdge_141 : decode cX7_takesEdge 141 = .ok (.getfield 58, 3) := by decide +kernel
theorem dX7_takesEdge_144 : decode cX7_takesEdge 144 = .ok (.iconst 3, 1) := by decide +kernel
theorem dX7_takesEdge_145 : decode cX7_takesEdge 145 = .ok (.if_icmp .ne 31, 3) := by decide +kernel
theorem dX7_takesEdge_148 : decode cX7_takesEdge 148 = .ok (.aload_n 0, 1) := by decide +kernel
theorem dX7_takesEdge_149 : decode cX7_takesEdge 149 = .ok (.getfield 28, 3) := by decide +kernel
theorem dX7_takesEdge_152 : decode cX7_takesEdge 152 = .ok (.aload_n 0, 1) := by decide +kernel
theorem dX7_takesEdge_153 : decode cX7_takesEdge 153 = .ok (.getfield 68, 3) := by decide +kernel
theorem dX7_takesEdge_156 : decode cX7_takesEdge 156 = .ok (.aload_n 0, 1) := by decide +kernel
theorem dX7_takesEdge_157 : decode cX7_takesEdge 157 = .ok (.getfield 65, 3) := by decide +kernel
theorem dX7_takesEdge_160 : decode cX7_takesEdge 160 = .ok (.iastore, 1) := by decide +kernel
theorem dX7_takesEdge_161 : decode cX7_takesEdge 161 = .ok (.aload_n 0, 1) := by decide +kernel
theorem dX7_takesEdge_162 : decode cX7_takesEdge 162 = .ok (.dup, 1) := by decide +kernel
theorem dX7_takesEdge_163 : decode cX7_takesEdge 163 = .ok (.getfield 68, 3) := by decide +kernel
theorem dX7_takesEdge_166 : decode cX7_takesEdge 166 = .ok (.iconst 1, 1) := by decide +kernel
theorem dX7_takesEdge_167 : decode cX7_takesEdge 167 = .ok (.iadd, 1) := by decide +kernel
theorem dX7_takesEdge_168 : decode cX7_takesEdge 168 = .ok (.putfield 68, 3) := by decide +kernel
theorem dX7_takesEdge_171 : decode cX7_takesEdge 171 = .ok (.aload_n 0, 1) := by decide +kernel
theorem dX7_takesEdge_172 : decode cX7_takesEdge 172 = .ok (.iconst 0, 1) := by decide +kernel
theorem dX7_takesEdge_173 : decode cX7_takesEdge 173 = .ok (.putfield 58, 3) := by decide +kernel
theorem dX7_takesEdge_176 : decode cX7_takesEdge 176 = .ok (.iconst 1, 1) := by decide +kernel
theorem dX7_takesEdge_177 : decode cX7_takesEdge 177 = .ok (.ireturn, 1) := by decide +kernel
theorem dX7_toOf_0 : decode cX7_toOf 0 = .ok (.iload_n 0, 1) := by decide +kernel
theorem dX7_toOf_1 : decode cX7_toOf 1 = .ok (.bipush 10, 2) := by decide +kernel
theorem dX7_toOf_3 : decode cX7_toOf 3 = .ok (.irem, 1) := by decide +kernel
theorem dX7_toOf_4 : decode cX7_toOf 4 = .ok (.ireturn, 1) := by decide +kernel
theorem dX7_within_0 : decode cX7_within 0 = .ok (.iload_n 0, 1) := by decide +kernel
theorem dX7_within_1 : decode cX7_within 1 = .ok (.iload_n 1, 1) := by decide +kernel
theorem dX7_within_2 : decode cX7_within 2 = .ok (.if_icmp .lt 12, 3) := by decide +kernel
theorem dX7_within_5 : decode cX7_within 5 = .ok (.iload_n 0, 1) := by decide +kernel
theorem dX7_within_6 : decode cX7_within 6 = .ok (.iload_n 2, 1) := by decide +kernel
theorem dX7_within_7 : decode cX7_within 7 = .ok (.if_icmp .gt 7, 3) := by decide +kernel
theorem dX7_within_10 : decode cX7_within 10 = .ok (.iconst 1, 1) := by decide +kernel
theorem dX7_within_11 : decode cX7_within 11 = .ok (.goto 4, 3) := by decide +kernel
theorem dX7_within_14 : decode cX7_within 14 = .ok (.iconst 0, 1) := by decide +kernel
theorem dX7_within_15 : decode cX7_within 15 = .ok (.ireturn, 1) := by decide +kernel
section
variable (l : Launch) (D : va_G) (cI cJ cZ cR : ClassId)
set_option maxHeartbeats 4000000 in
set_option maxRecDepth 100000 in
theorem c_X7_within (sz : Nat) (p0 : Int32) (p1 : Int32) (p2 : Int32)  : CTi l D cI cJ cZ cR yX7_within cX7_within 3 (some .boolean) 0 0 0 0 sz [.int p0, .int p1, .int p2] [] (fun (r : Int32) (u : Unit) => (r = (wi p0 p1 p2))) (fun (u : Unit) => []) := by
  refine CTi.of (ty := .boolean) (by decide) (Nat.le_of_ble_eq_true rfl) rfl ?_
  intro p e s m below meth c A Q ls hd hin hK hsz hP hD hA hS hl hret
  obtain ⟨hx, hb, hml, hown, hts⟩ := id hd
  have hK1 := hK.1
  have hown : s.vm.findClass RX7 = some m.cls := hown
  have hl : lv_has ls 3 [(0, .int p0), (1, .int p1), (2, .int p2)] := hl
  refine lv_iload_n hx hb dX7_within_0 rfl (lv_at hl 0 rfl) ?_
  refine lv_iload_n hx hb dX7_within_1 rfl (lv_at hl 1 rfl) ?_
  refine lv_icmp_lt (tgt := 14) hx hb dX7_within_2 (by decide) (fun c_1 => ?_) (fun c_1 => ?_)
  · skip
    refine lv_iconst (v := 0) hx hb dX7_within_14 (by decide) ?_
    exact hret _ _ _ _ _ _ 0 () dX7_within_15 rfl hS (Nat.le_of_ble_eq_true rfl) (Nat.le_of_ble_eq_true rfl) (by simp [wi, c_1]) (hP.sub [] rfl) (hD.sub [] rfl rfl)
  · skip
    refine lv_iload_n hx hb dX7_within_5 rfl (lv_at hl 0 rfl) ?_
    refine lv_iload_n hx hb dX7_within_6 rfl (lv_at hl 2 rfl) ?_
    refine lv_icmp_gt (tgt := 14) hx hb dX7_within_7 (by decide) (fun c_2 => ?_) (fun c_2 => ?_)
    · skip
      refine lv_iconst (v := 0) hx hb dX7_within_14 (by decide) ?_
      exact hret _ _ _ _ _ _ 0 () dX7_within_15 rfl hS (Nat.le_of_ble_eq_true rfl) (Nat.le_of_ble_eq_true rfl) (by simp [wi, c_1, c_2]) (hP.sub [] rfl) (hD.sub [] rfl rfl)
    · skip
      refine lv_iconst (v := 1) hx hb dX7_within_10 (by decide) ?_
      refine lv_goto (tgt := 15) hx hb dX7_within_11 (by decide) ?_
      exact hret _ _ _ _ _ _ 1 () dX7_within_15 rfl hS (Nat.le_of_ble_eq_true rfl) (Nat.le_of_ble_eq_true rfl) (by simp [wi, c_1, c_2]) (hP.sub [] rfl) (hD.sub [] rfl rfl)
set_option maxHeartbeats 4000000 in
set_option maxRecDepth 100000 in
theorem c_X7_has (sz : Nat) (p0 : Int32) (p1 : Int32)  : CTi l D cI cJ cZ cR yX7_has cX7_has 2 (some .boolean) 0 0 0 0 sz [.int p0, .int p1] [] (fun (r : Int32) (u : Unit) => (r = (hR p0 p1))) (fun (u : Unit) => []) := by
  refine CTi.of (ty := .boolean) (by decide) (Nat.le_of_ble_eq_true rfl) rfl ?_
  intro p e s m below meth c A Q ls hd hin hK hsz hP hD hA hS hl hret
  obtain ⟨hx, hb, hml, hown, hts⟩ := id hd
  have hK1 := hK.1
  have hown : s.vm.findClass RX7 = some m.cls := hown
  have hl : lv_has ls 2 [(0, .int p0), (1, .int p1)] := hl
  refine lv_iload_n hx hb dX7_has_0 rfl (lv_at hl 0 rfl) ?_
  refine lv_iload_n hx hb dX7_has_1 rfl (lv_at hl 1 rfl) ?_
  refine lv_ishr hx hb dX7_has_2 ?_
  refine lv_iconst (v := 1) hx hb dX7_has_3 (by decide) ?_
  refine lv_iand hx hb dX7_has_4 ?_
  refine lv_iconst (v := 1) hx hb dX7_has_5 (by decide) ?_
  refine lv_icmp_ne (tgt := 13) hx hb dX7_has_6 (by decide) (fun c_1 => ?_) (fun c_1 => ?_)
  · skip
    refine lv_iconst (v := 0) hx hb dX7_has_13 (by decide) ?_
    exact hret _ _ _ _ _ _ 0 () dX7_has_14 rfl hS (Nat.le_of_ble_eq_true rfl) (Nat.le_of_ble_eq_true rfl) (by simp [hR, c_1]) (hP.sub [] rfl) (hD.sub [] rfl rfl)
  · skip
    refine lv_iconst (v := 1) hx hb dX7_has_9 (by decide) ?_
    refine lv_goto (tgt := 14) hx hb dX7_has_10 (by decide) ?_
    exact hret _ _ _ _ _ _ 1 () dX7_has_14 rfl hS (Nat.le_of_ble_eq_true rfl) (Nat.le_of_ble_eq_true rfl) (by simp [hR, c_1]) (hP.sub [] rfl) (hD.sub [] rfl rfl)
set_option maxHeartbeats 4000000 in
set_option maxRecDepth 100000 in
theorem c_X7_letterOf (sz : Nat) (p0 : Int32)  : CTi l D cI cJ cZ cR yX7_letterOf cX7_letterOf 1 (some .int) 0 0 0 0 sz [.int p0] [] (fun (r : Int32) (u : Unit) => (r = (lO p0))) (fun (u : Unit) => []) := by
  refine CTi.of (ty := .int) (by decide) (Nat.le_of_ble_eq_true rfl) rfl ?_
  intro p e s m below meth c A Q ls hd hin hK hsz hP hD hA hS hl hret
  obtain ⟨hx, hb, hml, hown, hts⟩ := id hd
  have hK1 := hK.1
  have hown : s.vm.findClass RX7 = some m.cls := hown
  have hl : lv_has ls 1 [(0, .int p0)] := hl
  refine lv_iload_n hx hb dX7_letterOf_0 rfl (lv_at hl 0 rfl) ?_
  refine lv_bipush (v := 100) hx hb dX7_letterOf_1 (by decide) ?_
  refine lv_idiv hx hb dX7_letterOf_3 (by decide) ?_
  exact hret _ _ _ _ _ _ (p0 / 100) () dX7_letterOf_4 rfl hS (Nat.le_of_ble_eq_true rfl) (Nat.le_of_ble_eq_true rfl) rfl (hP.sub [] rfl) (hD.sub [] rfl rfl)
set_option maxHeartbeats 4000000 in
set_option maxRecDepth 100000 in
theorem c_X7_fromOf (sz : Nat) (p0 : Int32)  : CTi l D cI cJ cZ cR yX7_fromOf cX7_fromOf 1 (some .int) 0 0 0 0 sz [.int p0] [] (fun (r : Int32) (u : Unit) => (r = (fO p0))) (fun (u : Unit) => []) := by
  refine CTi.of (ty := .int) (by decide) (Nat.le_of_ble_eq_true rfl) rfl ?_
  intro p e s m below meth c A Q ls hd hin hK hsz hP hD hA hS hl hret
  obtain ⟨hx, hb, hml, hown, hts⟩ := id hd
  have hK1 := hK.1
  have hown : s.vm.findClass RX7 = some m.cls := hown
  have hl : lv_has ls 1 [(0, .int p0)] := hl
  refine lv_iload_n hx hb dX7_fromOf_0 rfl (lv_at hl 0 rfl) ?_
  refine lv_bipush (v := 10) hx hb dX7_fromOf_1 (by decide) ?_
  refine lv_idiv hx hb dX7_fromOf_3 (by decide) ?_
  refine lv_bipush (v := 10) hx hb dX7_fromOf_4 (by decide) ?_
  refine lv_irem hx hb dX7_fromOf_6 (by decide) ?_
  exact hret _ _ _ _ _ _ ((p0 / 10) - (p0 / 10) / 10 * 10) () dX7_fromOf_7 rfl hS (Nat.le_of_ble_eq_true rfl) (Nat.le_of_ble_eq_true rfl) rfl (hP.sub [] rfl) (hD.sub [] rfl rfl)
set_option maxHeartbeats 4000000 in
set_option maxRecDepth 100000 in
theorem c_X7_toOf (sz : Nat) (p0 : Int32)  : CTi l D cI cJ cZ cR yX7_toOf cX7_toOf 1 (some .int) 0 0 0 0 sz [.int p0] [] (fun (r : Int32) (u : Unit) => (r = (tO p0))) (fun (u : Unit) => []) := by
  refine CTi.of (ty := .int) (by decide) (Nat.le_of_ble_eq_true rfl) rfl ?_
  intro p e s m below meth c A Q ls hd hin hK hsz hP hD hA hS hl hret
  obtain ⟨hx, hb, hml, hown, hts⟩ := id hd
  have hK1 := hK.1
  have hown : s.vm.findClass RX7 = some m.cls := hown
  have hl : lv_has ls 1 [(0, .int p0)] := hl
  refine lv_iload_n hx hb dX7_toOf_0 rfl (lv_at hl 0 rfl) ?_
  refine lv_bipush (v := 10) hx hb dX7_toOf_1 (by decide) ?_
  refine lv_irem hx hb dX7_toOf_3 (by decide) ?_
  exact hret _ _ _ _ _ _ (p0 - p0 / 10 * 10) () dX7_toOf_4 rfl hS (Nat.le_of_ble_eq_true rfl) (Nat.le_of_ble_eq_true rfl) rfl (hP.sub [] rfl) (hD.sub [] rfl rfl)
set_option maxHeartbeats 4000000 in
set_option maxRecDepth 100000 in
theorem n_letterOf (sz : Nat) (x : Nat) (hx9 : x < 1000) : CTi l D cI cJ cZ cR yX7_letterOf cX7_letterOf 1 (some .int) 0 0 0 0 sz [.int (nI x)] [] (fun (r : Int32) (u : Unit) => (r = (nI (x / 100)))) (fun (u : Unit) => []) := by
  refine CTi.of (ty := .int) (by decide) (Nat.le_of_ble_eq_true rfl) rfl ?_
  intro p e s m below meth c A Q ls hd hin hK hsz hP hD hA hS hl hret
  obtain ⟨hx, hb, hml, hown, hts⟩ := id hd
  have hK1 := hK.1
  have hown : s.vm.findClass RX7 = some m.cls := hown
  have hl : lv_has ls 1 [(0, .int (nI x))] := hl
  refine lv_iload_n hx hb dX7_letterOf_0 rfl (lv_at hl 0 rfl) ?_
  refine lv_bipush (v := 100) hx hb dX7_letterOf_1 (by decide) ?_
  refine lv_idiv hx hb dX7_letterOf_3 (by decide) ?_
  refine lv_nmi (show _ = (nI (x / 100) : Int32) from pk_div (d := 100) (by omega) (by decide) (by decide)) ?_
  exact hret _ _ _ _ _ _ (nI (x / 100)) () dX7_letterOf_4 rfl hS (Nat.le_of_ble_eq_true rfl) (Nat.le_of_ble_eq_true rfl) rfl (hP.sub [] rfl) (hD.sub [] rfl rfl)
set_option maxHeartbeats 4000000 in
set_option maxRecDepth 100000 in
theorem n_fromOf (sz : Nat) (x : Nat) (hx9 : x < 1000) : CTi l D cI cJ cZ cR yX7_fromOf cX7_fromOf 1 (some .int) 0 0 0 0 sz [.int (nI x)] [] (fun (r : Int32) (u : Unit) => (r = (nI (x / 10 % 10)))) (fun (u : Unit) => []) := by
  refine CTi.of (ty := .int) (by decide) (Nat.le_of_ble_eq_true rfl) rfl ?_
  intro p e s m below meth c A Q ls hd hin hK hsz hP hD hA hS hl hret
  obtain ⟨hx, hb, hml, hown, hts⟩ := id hd
  have hK1 := hK.1
  have hown : s.vm.findClass RX7 = some m.cls := hown
  have hl : lv_has ls 1 [(0, .int (nI x))] := hl
  refine lv_iload_n hx hb dX7_fromOf_0 rfl (lv_at hl 0 rfl) ?_
  refine lv_bipush (v := 10) hx hb dX7_fromOf_1 (by decide) ?_
  refine lv_idiv hx hb dX7_fromOf_3 (by decide) ?_
  refine lv_nmi (show _ = (nI (x / 10) : Int32) from pk_div (d := 10) (by omega) (by decide) (by decide)) ?_
  refine lv_bipush (v := 10) hx hb dX7_fromOf_4 (by decide) ?_
  refine lv_irem hx hb dX7_fromOf_6 (by decide) ?_
  refine lv_nmi (show _ = (nI (x / 10 % 10) : Int32) from pk_rem (d := 10) (by omega) (by decide) (by decide)) ?_
  exact hret _ _ _ _ _ _ (nI (x / 10 % 10)) () dX7_fromOf_7 rfl hS (Nat.le_of_ble_eq_true rfl) (Nat.le_of_ble_eq_true rfl) rfl (hP.sub [] rfl) (hD.sub [] rfl rfl)
set_option maxHeartbeats 4000000 in
set_option maxRecDepth 100000 in
theorem n_toOf (sz : Nat) (x : Nat) (hx9 : x < 1000) : CTi l D cI cJ cZ cR yX7_toOf cX7_toOf 1 (some .int) 0 0 0 0 sz [.int (nI x)] [] (fun (r : Int32) (u : Unit) => (r = (nI (x % 10)))) (fun (u : Unit) => []) := by
  refine CTi.of (ty := .int) (by decide) (Nat.le_of_ble_eq_true rfl) rfl ?_
  intro p e s m below meth c A Q ls hd hin hK hsz hP hD hA hS hl hret
  obtain ⟨hx, hb, hml, hown, hts⟩ := id hd
  have hK1 := hK.1
  have hown : s.vm.findClass RX7 = some m.cls := hown
  have hl : lv_has ls 1 [(0, .int (nI x))] := hl
  refine lv_iload_n hx hb dX7_toOf_0 rfl (lv_at hl 0 rfl) ?_
  refine lv_bipush (v := 10) hx hb dX7_toOf_1 (by decide) ?_
  refine lv_irem hx hb dX7_toOf_3 (by decide) ?_
  refine lv_nmi (show _ = (nI (x % 10) : Int32) from pk_rem (d := 10) (by omega) (by decide) (by decide)) ?_
  exact hret _ _ _ _ _ _ (nI (x % 10)) () dX7_toOf_4 rfl hS (Nat.le_of_ble_eq_true rfl) (Nat.le_of_ble_eq_true rfl) rfl (hP.sub [] rfl) (hD.sub [] rfl rfl)
set_option maxHeartbeats 4000000 in
set_option maxRecDepth 100000 in
theorem c_X7_letter (sz : Nat) (m0 : Nat) (m1 : Nat) (m2 : Nat) (m3 : Nat) (m4 : Nat) (m5 : Nat) (m6 : Nat) (m7 : Nat) (m8 : Nat) (m9 : Nat) (m10 : Nat) (m11 : Nat) (m12 : Nat) (m13 : Nat) (z : Nat) (r9 : Nat) (n9 : Nat) (v : Nat) (k1 : Int32) (k2 : Int32) (k3 : Int32) (k4 : Int32) (k5 : Int32) (k6 : Int32) (k7 : Int32) (k8 : Int32) (k9 : Int32) (hv : Int64) (pf : Nat → Int32) (p0 : Int32) (hz : z ≤ 16) : CTi l D cI cJ cZ cR yX7_letter cX7_letter 2 (some .int) 1 22 0 0 sz [.ref m0, .int p0] [kX7 m0 (nI z) m1 (nI r9) m2 m3 m4 m5 (nI n9) (nI v) m6 k1 k2 k3 k4 m7 k5 k6 k7 k8 m8 m9 m10 k9 m11 m12 m13 hv, kI cI m1 16 pf] (fun (r : Int32) (u : Nat × (Nat → Int32)) => (r = (if wi p0 32 126 = 0 then -1002 else if nI z = 16 then -1004 else nI (z + 1))) ∧ ((¬ wi p0 32 126 = 0 ∧ ¬ nI z = 16 ∧ u.1 = z + 1 ∧ u.2 = upd pf z p0) ∨ ((wi p0 32 126 = 0 ∨ nI z = 16) ∧ u.1 = z ∧ u.2 = pf))) (fun (u : Nat × (Nat → Int32)) => [kX7 m0 (nI u.1) m1 (nI r9) m2 m3 m4 m5 (nI n9) (nI v) m6 k1 k2 k3 k4 m7 k5 k6 k7 k8 m8 m9 m10 k9 m11 m12 m13 hv, kI cI m1 16 u.2]) := by
  refine CTi.of (ty := .int) (by decide) (Nat.le_of_ble_eq_true rfl) rfl ?_
  intro p e s m below meth c A Q ls hd hin hK hsz hP hD hA hS hl hret
  obtain ⟨hx, hb, hml, hown, hts⟩ := id hd
  have hK1 := hK.1
  have hown : s.vm.findClass RX7 = some m.cls := hown
  have hl : lv_has ls 2 [(0, .ref m0), (1, .int p0)] := hl
  refine lv_iload_n hx hb dX7_letter_0 rfl (lv_at hl 1 rfl) ?_
  refine lv_bipush (v := 32) hx hb dX7_letter_1 (by decide) ?_
  refine lv_bipush (v := 126) hx hb dX7_letter_3 (by decide) ?_
  refine xc_i (wc := []) (wr := [kX7 m0 (nI z) m1 (nI r9) m2 m3 m4 m5 (nI n9) (nI v) m6 k1 k2 k3 k4 m7 k5 k6 k7 k8 m8 m9 m10 k9 m11 m12 m13 hv, kI cI m1 16 pf]) (xrS (n := 3) (As := [.int p0, .int 32, .int 126]) (rest := []) hd hK hP hD (c_X7_within l D cI cJ cZ cR _ p0 32 126 ) (gS t_637 mS_X7_within) hS_X7_within ⟨(Nat.le_of_ble_eq_true rfl), (Nat.le_of_ble_eq_true rfl)⟩ [] rfl rfl rfl hl.1 rfl (Nat.le_of_ble_eq_true rfl) dX7_letter_5 ⟨(Nat.le_of_ble_eq_true rfl), (Nat.le_of_ble_eq_true rfl)⟩) hP hD hS hA [] [0, 1] rfl rfl rfl (by decide) (fun r_1 u_2 H locs hw_3 hP hD hS => ?_)
  have hw_4 : r_1 = (wi p0 32 126) := hw_3
  subst hw_4
  have hP : va_P D vwCl [kX7 m0 (nI z) m1 (nI r9) m2 m3 m4 m5 (nI n9) (nI v) m6 k1 k2 k3 k4 m7 k5 k6 k7 k8 m8 m9 m10 k9 m11 m12 m13 hv, kI cI m1 16 pf] H := hP
  have hD : va_D A [kX7 m0 (nI z) m1 (nI r9) m2 m3 m4 m5 (nI n9) (nI v) m6 k1 k2 k3 k4 m7 k5 k6 k7 k8 m8 m9 m10 k9 m11 m12 m13 hv, kI cI m1 16 pf] := hD
  refine lv_if_ne (tgt := 15) hx hb dX7_letter_8 (by decide) (fun c_5 => ?_) (fun c_5 => ?_)
  · skip
    refine lv_aload_n hx hb dX7_letter_15 rfl (lv_at hl 0 rfl) ?_
    refine va_get (D := D) (ci := 7) (v := .int (nI z)) (C := RX7) (T := TX7) (N := 27) hx hb hts iT_X7 hown hK1 hP 0 rfl rfl 0 (by decide) (hts _ t_551) (fun _ h9 => h9) rfl dX7_letter_16 ?_
    refine lv_bipush (v := 16) hx hb dX7_letter_19 (by decide) ?_
    refine lv_icmp_ne (tgt := 28) hx hb dX7_letter_21 (by decide) (fun c_6 => ?_) (fun c_6 => ?_)
    · skip
      refine lv_aload_n hx hb dX7_letter_28 rfl (lv_at hl 0 rfl) ?_
      refine va_get (D := D) (ci := 7) (v := .ref m1) (C := RX7) (T := TX7) (N := 27) hx hb hts iT_X7 hown hK1 hP 0 rfl rfl 1 (by decide) (hts _ t_552) (fun _ h9 => h9) rfl dX7_letter_29 ?_
      refine lv_aload_n hx hb dX7_letter_32 rfl (lv_at hl 0 rfl) ?_
      refine va_get (D := D) (ci := 7) (v := .int (nI z)) (C := RX7) (T := TX7) (N := 27) hx hb hts iT_X7 hown hK1 hP 0 rfl rfl 0 (by decide) (hts _ t_551) (fun _ h9 => h9) rfl dX7_letter_33 ?_
      refine lv_iload_n hx hb dX7_letter_36 rfl (lv_at hl 1 rfl) ?_
      refine va_iast hx hb hK1 hP hD hS 1 0 rfl rfl (vp_in_nI (lt16z hz c_6) (by decide)) dX7_letter_37 (fun H locs hP hD hS => ?_)
      rw [nI_clamp (n := z) (by omega)] at hP hD
      have hP : va_P D vwCl [kX7 m0 (nI z) m1 (nI r9) m2 m3 m4 m5 (nI n9) (nI v) m6 k1 k2 k3 k4 m7 k5 k6 k7 k8 m8 m9 m10 k9 m11 m12 m13 hv, kI cI m1 16 (upd pf z p0)] H := hP
      have hD : va_D A [kX7 m0 (nI z) m1 (nI r9) m2 m3 m4 m5 (nI n9) (nI v) m6 k1 k2 k3 k4 m7 k5 k6 k7 k8 m8 m9 m10 k9 m11 m12 m13 hv, kI cI m1 16 (upd pf z p0)] := hD
      refine lv_aload_n hx hb dX7_letter_38 rfl (lv_at hl 0 rfl) ?_
      refine lv_dup hx hb dX7_letter_39 rfl ?_
      refine va_get (D := D) (ci := 7) (v := .int (nI z)) (C := RX7) (T := TX7) (N := 27) hx hb hts iT_X7 hown hK1 hP 0 rfl rfl 0 (by decide) (hts _ t_551) (fun _ h9 => h9) rfl dX7_letter_40 ?_
      refine lv_iconst (v := 1) hx hb dX7_letter_43 (by decide) ?_
      refine lv_iadd hx hb dX7_letter_44 ?_
      refine lv_nmi (show _ = (nI (z + 1)) from nI_add (z) (1)) ?_
      refine va_put (D := D) (ci := 7) (v := .int (nI (z + 1))) (ty := .int) (C := RX7) (T := TX7) (N := 27) hx hb hts iT_X7 tyX7 tyX7_ok nmX7 hown hK1 hP hD hS 0 rfl rfl 0 (by decide) (hts _ t_551) (fun _ h9 => h9) rfl (by decide +kernel) rfl rfl (Nat.le_of_ble_eq_true rfl) dX7_letter_45 (fun H locs hP hD hS => ?_)
      have hP : va_P D vwCl [kX7 m0 (nI (z + 1)) m1 (nI r9) m2 m3 m4 m5 (nI n9) (nI v) m6 k1 k2 k3 k4 m7 k5 k6 k7 k8 m8 m9 m10 k9 m11 m12 m13 hv, kI cI m1 16 (upd pf z p0)] H := hP
      have hD : va_D A [kX7 m0 (nI (z + 1)) m1 (nI r9) m2 m3 m4 m5 (nI n9) (nI v) m6 k1 k2 k3 k4 m7 k5 k6 k7 k8 m8 m9 m10 k9 m11 m12 m13 hv, kI cI m1 16 (upd pf z p0)] := hD
      refine lv_aload_n hx hb dX7_letter_48 rfl (lv_at hl 0 rfl) ?_
      refine va_get (D := D) (ci := 7) (v := .int (nI (z + 1))) (C := RX7) (T := TX7) (N := 27) hx hb hts iT_X7 hown hK1 hP 0 rfl rfl 0 (by decide) (hts _ t_551) (fun _ h9 => h9) rfl dX7_letter_49 ?_
      exact hret _ _ _ _ _ _ (nI (z + 1)) ((z + 1), upd pf z p0) dX7_letter_52 rfl hS (Nat.le_of_ble_eq_true rfl) (Nat.le_of_ble_eq_true rfl) ⟨by simp [c_5, c_6], by simp [c_5, c_6]⟩ (hP.sub [0, 1] rfl) (hD.sub [0, 1] rfl rfl)
    · skip
      refine lv_sipush (v := -1004) hx hb dX7_letter_24 (by decide) ?_
      exact hret _ _ _ _ _ _ (-1004) (z, pf) dX7_letter_27 rfl hS (Nat.le_of_ble_eq_true rfl) (Nat.le_of_ble_eq_true rfl) ⟨by simp [c_5, c_6], by simp [c_5, c_6]⟩ (hP.sub [0, 1] rfl) (hD.sub [0, 1] rfl rfl)
  · skip
    refine lv_sipush (v := -1002) hx hb dX7_letter_11 (by decide) ?_
    exact hret _ _ _ _ _ _ (-1002) (z, pf) dX7_letter_14 rfl hS (Nat.le_of_ble_eq_true rfl) (Nat.le_of_ble_eq_true rfl) ⟨by simp [c_5], by simp [c_5]⟩ (hP.sub [0, 1] rfl) (hD.sub [0, 1] rfl rfl)
set_option maxHeartbeats 4000000 in
set_option maxRecDepth 100000 in
theorem c_X7_blank (sz : Nat) (m0 : Nat) (m1 : Nat) (m2 : Nat) (m3 : Nat) (m4 : Nat) (m5 : Nat) (m6 : Nat) (m7 : Nat) (m8 : Nat) (m9 : Nat) (m10 : Nat) (m11 : Nat) (m12 : Nat) (m13 : Nat) (z : Nat) (r9 : Nat) (n9 : Nat) (v : Nat) (k1 : Int32) (k2 : Int32) (k3 : Int32) (k4 : Int32) (k5 : Int32) (k6 : Int32) (k7 : Int32) (k8 : Int32) (k9 : Int32) (hv : Int64)  : CTi l D cI cJ cZ cR yX7_blank cX7_blank 2 (some .int) 0 0 0 0 sz [.ref m0] [kX7 m0 (nI z) m1 (nI r9) m2 m3 m4 m5 (nI n9) (nI v) m6 k1 k2 k3 k4 m7 k5 k6 k7 k8 m8 m9 m10 k9 m11 m12 m13 hv] (fun (r : Int32) (u : Unit) => (r = (nI z))) (fun (u : Unit) => [kX7 m0 0 m1 (nI r9) m2 m3 m4 m5 (nI n9) (nI v) m6 k1 k2 k3 k4 m7 k5 k6 k7 k8 m8 m9 m10 k9 m11 m12 m13 hv]) := by
  refine CTi.of (ty := .int) (by decide) (Nat.le_of_ble_eq_true rfl) rfl ?_
  intro p e s m below meth c A Q ls hd hin hK hsz hP hD hA hS hl hret
  obtain ⟨hx, hb, hml, hown, hts⟩ := id hd
  have hK1 := hK.1
  have hown : s.vm.findClass RX7 = some m.cls := hown
  have hl : lv_has ls 2 [(0, .ref m0)] := hl
  refine lv_aload_n hx hb dX7_blank_0 rfl (lv_at hl 0 rfl) ?_
  refine va_get (D := D) (ci := 7) (v := .int (nI z)) (C := RX7) (T := TX7) (N := 27) hx hb hts iT_X7 hown hK1 hP 0 rfl rfl 0 (by decide) (hts _ t_551) (fun _ h9 => h9) rfl dX7_blank_1 ?_
  refine lv_istore_n (lv' := [(1, .int (nI z)), (0, .ref m0)]) hx hb dX7_blank_4 rfl hl (by decide) rfl (fun ls hl => ?_)
  refine lv_aload_n hx hb dX7_blank_5 rfl (lv_at hl 1 rfl) ?_
  refine lv_iconst (v := 0) hx hb dX7_blank_6 (by decide) ?_
  refine va_put (D := D) (ci := 7) (v := .int 0) (ty := .int) (C := RX7) (T := TX7) (N := 27) hx hb hts iT_X7 tyX7 tyX7_ok nmX7 hown hK1 hP hD hS 0 rfl rfl 0 (by decide) (hts _ t_551) (fun _ h9 => h9) rfl (by decide +kernel) rfl rfl (Nat.le_of_ble_eq_true rfl) dX7_blank_7 (fun H locs hP hD hS => ?_)
  have hP : va_P D vwCl [kX7 m0 0 m1 (nI r9) m2 m3 m4 m5 (nI n9) (nI v) m6 k1 k2 k3 k4 m7 k5 k6 k7 k8 m8 m9 m10 k9 m11 m12 m13 hv] H := hP
  have hD : va_D A [kX7 m0 0 m1 (nI r9) m2 m3 m4 m5 (nI n9) (nI v) m6 k1 k2 k3 k4 m7 k5 k6 k7 k8 m8 m9 m10 k9 m11 m12 m13 hv] := hD
  refine lv_iload_n hx hb dX7_blank_10 rfl (lv_at hl 0 rfl) ?_
  exact hret _ _ _ _ _ _ (nI z) () dX7_blank_11 rfl hS (Nat.le_of_ble_eq_true rfl) (Nat.le_of_ble_eq_true rfl) rfl (hP.sub [0] rfl) (hD.sub [0] rfl rfl)
set_option maxHeartbeats 4000000 in
set_option maxRecDepth 100000 in
theorem g_letterAt_0 (sz : Nat) (p0 : Int32)  : CTi l D cI cJ cZ cR yX7_letterAt cX7_letterAt 2 (some .int) 1 22 0 0 sz [.int p0, .int 0] [] (fun (r : Int32) (u : Unit) => (r = (cL p0))) (fun (u : Unit) => []) := by
  refine CTi.of (ty := .int) (by decide) (Nat.le_of_ble_eq_true rfl) rfl ?_
  intro p e s m below meth c A Q ls hd hin hK hsz hP hD hA hS hl hret
  obtain ⟨hx, hb, hml, hown, hts⟩ := id hd
  have hK1 := hK.1
  have hown : s.vm.findClass RX7 = some m.cls := hown
  have hl : lv_has ls 2 [(0, .int p0), (1, .int 0)] := hl
  refine lv_iload_n hx hb dX7_letterAt_0 rfl (lv_at hl 0 rfl) ?_
  refine lv_bipush (v := 97) hx hb dX7_letterAt_1 (by decide) ?_
  refine lv_icmp_eq (tgt := 12) hx hb dX7_letterAt_3 (by decide) (fun c_1 => ?_) (fun c_1 => ?_)
  · skip
    refine lv_iload_n hx hb dX7_letterAt_12 rfl (lv_at hl 0 rfl) ?_
    refine lv_bipush (v := 97) hx hb dX7_letterAt_13 (by decide) ?_
    refine lv_isub hx hb dX7_letterAt_15 ?_
    refine lv_iconst (v := 3) hx hb dX7_letterAt_16 (by decide) ?_
    refine lv_iadd hx hb dX7_letterAt_17 ?_
    exact hret _ _ _ _ _ _ ((p0 - 97) + 3) () dX7_letterAt_18 rfl hS (Nat.le_of_ble_eq_true rfl) (Nat.le_of_ble_eq_true rfl) (by rw [c_1]; decide) (hP.sub [] rfl) (hD.sub [] rfl rfl)
  · skip
    refine lv_iload_n hx hb dX7_letterAt_6 rfl (lv_at hl 0 rfl) ?_
    refine lv_bipush (v := 98) hx hb dX7_letterAt_7 (by decide) ?_
    refine lv_icmp_ne (tgt := 19) hx hb dX7_letterAt_9 (by decide) (fun c_2 => ?_) (fun c_2 => ?_)
    · skip
      refine lv_iload_n hx hb dX7_letterAt_19 rfl (lv_at hl 1 rfl) ?_
      refine lv_if_ne (tgt := 41) hx hb dX7_letterAt_20 (by decide) (fun c_3 => ?_) (fun c_3 => ?_)
      · exact absurd c_3 (by decide)
      refine lv_iload_n hx hb dX7_letterAt_23 rfl (lv_at hl 0 rfl) ?_
      refine lv_bipush (v := 65) hx hb dX7_letterAt_24 (by decide) ?_
      refine lv_bipush (v := 67) hx hb dX7_letterAt_26 (by decide) ?_
      refine xc_i (wc := []) (wr := []) (xrS (n := 3) (As := [.int p0, .int 65, .int 67]) (rest := []) hd hK hP hD (c_X7_within l D cI cJ cZ cR _ p0 65 67 ) (gS t_637 mS_X7_within) hS_X7_within ⟨(Nat.le_of_ble_eq_true rfl), (Nat.le_of_ble_eq_true rfl)⟩ [] rfl rfl rfl hl.1 rfl (Nat.le_of_ble_eq_true rfl) dX7_letterAt_28 ⟨(Nat.le_of_ble_eq_true rfl), (Nat.le_of_ble_eq_true rfl)⟩) hP hD hS hA [] [] rfl rfl rfl (by decide) (fun r_4 u_5 H locs hw_6 hP hD hS => ?_)
      have hw_7 : r_4 = (wi p0 65 67) := hw_6
      subst hw_7
      have hP : va_P D vwCl [] H := hP
      have hD : va_D A [] := hD
      refine lv_if_eq (tgt := 41) hx hb dX7_letterAt_31 (by decide) (fun c_8 => ?_) (fun c_8 => ?_)
      · skip
        refine lv_iconst (v := -1) hx hb dX7_letterAt_41 (by decide) ?_
        exact hret _ _ _ _ _ _ (-1) () dX7_letterAt_42 rfl hS (Nat.le_of_ble_eq_true rfl) (Nat.le_of_ble_eq_true rfl) (cL_nwi c_8 c_1 c_2).symm (hP.sub [] rfl) (hD.sub [] rfl rfl)
      · skip
        refine lv_iload_n hx hb dX7_letterAt_34 rfl (lv_at hl 0 rfl) ?_
        refine lv_bipush (v := 65) hx hb dX7_letterAt_35 (by decide) ?_
        refine lv_isub hx hb dX7_letterAt_37 ?_
        refine lv_goto (tgt := 42) hx hb dX7_letterAt_38 (by decide) ?_
        exact hret _ _ _ _ _ _ (p0 - 65) () dX7_letterAt_42 rfl hS (Nat.le_of_ble_eq_true rfl) (Nat.le_of_ble_eq_true rfl) (cL_wi c_8).symm (hP.sub [] rfl) (hD.sub [] rfl rfl)
    · skip
      refine lv_iload_n hx hb dX7_letterAt_12 rfl (lv_at hl 0 rfl) ?_
      refine lv_bipush (v := 97) hx hb dX7_letterAt_13 (by decide) ?_
      refine lv_isub hx hb dX7_letterAt_15 ?_
      refine lv_iconst (v := 3) hx hb dX7_letterAt_16 (by decide) ?_
      refine lv_iadd hx hb dX7_letterAt_17 ?_
      exact hret _ _ _ _ _ _ ((p0 - 97) + 3) () dX7_letterAt_18 rfl hS (Nat.le_of_ble_eq_true rfl) (Nat.le_of_ble_eq_true rfl) (by rw [c_2]; decide) (hP.sub [] rfl) (hD.sub [] rfl rfl)
set_option maxHeartbeats 4000000 in
set_option maxRecDepth 100000 in
theorem g_letterAt_1 (sz : Nat) (p0 : Int32)  : CTi l D cI cJ cZ cR yX7_letterAt cX7_letterAt 2 (some .int) 0 0 0 0 sz [.int p0, .int 1] [] (fun (r : Int32) (u : Unit) => (r = (lA1 p0))) (fun (u : Unit) => []) := by
  refine CTi.of (ty := .int) (by decide) (Nat.le_of_ble_eq_true rfl) rfl ?_
  intro p e s m below meth c A Q ls hd hin hK hsz hP hD hA hS hl hret
  obtain ⟨hx, hb, hml, hown, hts⟩ := id hd
  have hK1 := hK.1
  have hown : s.vm.findClass RX7 = some m.cls := hown
  have hl : lv_has ls 2 [(0, .int p0), (1, .int 1)] := hl
  refine lv_iload_n hx hb dX7_letterAt_0 rfl (lv_at hl 0 rfl) ?_
  refine lv_bipush (v := 97) hx hb dX7_letterAt_1 (by decide) ?_
  refine lv_icmp_eq (tgt := 12) hx hb dX7_letterAt_3 (by decide) (fun c_1 => ?_) (fun c_1 => ?_)
  · skip
    refine lv_iload_n hx hb dX7_letterAt_12 rfl (lv_at hl 0 rfl) ?_
    refine lv_bipush (v := 97) hx hb dX7_letterAt_13 (by decide) ?_
    refine lv_isub hx hb dX7_letterAt_15 ?_
    refine lv_iconst (v := 3) hx hb dX7_letterAt_16 (by decide) ?_
    refine lv_iadd hx hb dX7_letterAt_17 ?_
    exact hret _ _ _ _ _ _ ((p0 - 97) + 3) () dX7_letterAt_18 rfl hS (Nat.le_of_ble_eq_true rfl) (Nat.le_of_ble_eq_true rfl) (by rw [c_1]; decide) (hP.sub [] rfl) (hD.sub [] rfl rfl)
  · skip
    refine lv_iload_n hx hb dX7_letterAt_6 rfl (lv_at hl 0 rfl) ?_
    refine lv_bipush (v := 98) hx hb dX7_letterAt_7 (by decide) ?_
    refine lv_icmp_ne (tgt := 19) hx hb dX7_letterAt_9 (by decide) (fun c_2 => ?_) (fun c_2 => ?_)
    · skip
      refine lv_iload_n hx hb dX7_letterAt_19 rfl (lv_at hl 1 rfl) ?_
      refine lv_if_ne (tgt := 41) hx hb dX7_letterAt_20 (by decide) (fun c_3 => ?_) (fun c_3 => ?_)
      rotate_left
      · exact absurd c_3 (by decide)
      refine lv_iconst (v := -1) hx hb dX7_letterAt_41 (by decide) ?_
      exact hret _ _ _ _ _ _ (-1) () dX7_letterAt_42 rfl hS (Nat.le_of_ble_eq_true rfl) (Nat.le_of_ble_eq_true rfl) (lA1_n c_1 c_2).symm (hP.sub [] rfl) (hD.sub [] rfl rfl)
    · skip
      refine lv_iload_n hx hb dX7_letterAt_12 rfl (lv_at hl 0 rfl) ?_
      refine lv_bipush (v := 97) hx hb dX7_letterAt_13 (by decide) ?_
      refine lv_isub hx hb dX7_letterAt_15 ?_
      refine lv_iconst (v := 3) hx hb dX7_letterAt_16 (by decide) ?_
      refine lv_iadd hx hb dX7_letterAt_17 ?_
      exact hret _ _ _ _ _ _ ((p0 - 97) + 3) () dX7_letterAt_18 rfl hS (Nat.le_of_ble_eq_true rfl) (Nat.le_of_ble_eq_true rfl) (by rw [c_2]; decide) (hP.sub [] rfl) (hD.sub [] rfl rfl)
set_option maxHeartbeats 4000000 in
set_option maxRecDepth 100000 in
theorem n_has (sz : Nat) (w : Nat) (k : Nat) (hw : w < 512) (hk : k < 9) : CTi l D cI cJ cZ cR yX7_has cX7_has 2 (some .boolean) 0 0 0 0 sz [.int (nI w), .int (nI k)] [] (fun (r : Int32) (u : Unit) => (r = (tB w k))) (fun (u : Unit) => []) := by
  refine CTi.of (ty := .boolean) (by decide) (Nat.le_of_ble_eq_true rfl) rfl ?_
  intro p e s m below meth c A Q ls hd hin hK hsz hP hD hA hS hl hret
  obtain ⟨hx, hb, hml, hown, hts⟩ := id hd
  have hK1 := hK.1
  have hown : s.vm.findClass RX7 = some m.cls := hown
  have hl : lv_has ls 2 [(0, .int (nI w)), (1, .int (nI k))] := hl
  refine lv_iload_n hx hb dX7_has_0 rfl (lv_at hl 0 rfl) ?_
  refine lv_iload_n hx hb dX7_has_1 rfl (lv_at hl 1 rfl) ?_
  refine lv_ishr hx hb dX7_has_2 ?_
  refine lv_nmi (show _ = (nI (w / 2 ^ k) : Int32) from shr_n (by omega) (by omega)) ?_
  refine lv_iconst (v := 1) hx hb dX7_has_3 (by decide) ?_
  refine lv_iand hx hb dX7_has_4 ?_
  refine lv_nmi (show _ = (nI (w / 2 ^ k % 2) : Int32) from and1_n _) ?_
  refine lv_iconst (v := 1) hx hb dX7_has_5 (by decide) ?_
  refine lv_icmp_ne (tgt := 13) hx hb dX7_has_6 (by decide) (fun c_1 => ?_) (fun c_1 => ?_)
  · skip
    refine lv_iconst (v := 0) hx hb dX7_has_13 (by decide) ?_
    exact hret _ _ _ _ _ _ 0 () dX7_has_14 rfl hS (Nat.le_of_ble_eq_true rfl) (Nat.le_of_ble_eq_true rfl) (tB_0 c_1) (hP.sub [] rfl) (hD.sub [] rfl rfl)
  · skip
    refine lv_iconst (v := 1) hx hb dX7_has_9 (by decide) ?_
    refine lv_goto (tgt := 14) hx hb dX7_has_10 (by decide) ?_
    exact hret _ _ _ _ _ _ 1 () dX7_has_14 rfl hS (Nat.le_of_ble_eq_true rfl) (Nat.le_of_ble_eq_true rfl) (tB_1 c_1) (hP.sub [] rfl) (hD.sub [] rfl rfl)
set_option maxHeartbeats 4000000 in
set_option maxRecDepth 100000 in
theorem g_takesEdge_0 (sz : Nat) (m0 : Nat) (m1 : Nat) (m2 : Nat) (m3 : Nat) (m4 : Nat) (m5 : Nat) (m6 : Nat) (m7 : Nat) (m8 : Nat) (m9 : Nat) (m10 : Nat) (m11 : Nat) (m12 : Nat) (m13 : Nat) (z : Nat) (r9 : Nat) (n9 : Nat) (v : Nat) (k1 : Int32) (k2 : Int32) (k3 : Int32) (k7 : Int32) (k8 : Int32) (k9 : Int32) (hv : Int64) (q9 : Nat) (s9 : Nat) (w9 : Nat) (ne : Nat → Int32) (pf : Nat → Int32) (i : Nat) (hX : TX 2 3 4 pf i q9 s9 w9 k7 ne) (hhi : 2 ≤ i) : CTi l D cI cJ cZ cR yX7_takesEdge cX7_takesEdge 4 (some .boolean) 2 43 0 0 sz [.ref m0, .int (pf i), .int 0] [kX7 m0 (nI z) m1 (nI r9) m2 m3 m4 m5 (nI n9) (nI v) m6 k1 k2 k3 (nI q9) m7 (nI w9) (nI s9) k7 k8 m8 m9 m10 k9 m11 m12 m13 hv, kI cI m7 5 ne] (fun (r : Int32) (u : Int32 × Int32 × Int32 × Int32 × (Nat → Int32)) => (YN r (okF0 pf i)) ∧ (¬ r = 0 → TXo 2 3 4 pf (i + 1) u.1 u.2.2.1 u.2.1 u.2.2.2.1 u.2.2.2.2)) (fun (u : Int32 × Int32 × Int32 × Int32 × (Nat → Int32)) => [kX7 m0 (nI z) m1 (nI r9) m2 m3 m4 m5 (nI n9) (nI v) m6 k1 k2 k3 u.1 m7 u.2.1 u.2.2.1 u.2.2.2.1 k8 m8 m9 m10 k9 m11 m12 m13 hv, kI cI m7 5 u.2.2.2.2]) := by
  refine CTi.of (ty := .boolean) (by decide) (Nat.le_of_ble_eq_true rfl) rfl ?_
  intro p e s m below meth c A Q ls hd hin hK hsz hP hD hA hS hl hret
  obtain ⟨hx, hb, hml, hown, hts⟩ := id hd
  have hK1 := hK.1
  have hown : s.vm.findClass RX7 = some m.cls := hown
  have hl : lv_has ls 4 [(0, .ref m0), (1, .int (pf i)), (2, .int 0)] := hl
  obtain ⟨hps, hs2, hqL, hsq, hw9, -⟩ := id hX
  have hiq : i = 2 + 3 * q9 + s9 := by omega
  clear hps
  refine lv_aload_n hx hb dX7_takesEdge_0 rfl (lv_at hl 0 rfl) ?_
  refine va_get (D := D) (ci := 7) (v := .int (nI s9)) (C := RX7) (T := TX7) (N := 27) hx hb hts iT_X7 hown hK1 hP 0 rfl rfl 16 (by decide) (hts _ t_567) (fun _ h9 => h9) rfl dX7_takesEdge_1 ?_
  refine lv_if_ne (tgt := 50) hx hb dX7_takesEdge_4 (by decide) (fun c_1 => ?_) (fun c_1 => ?_)
  · skip
    refine lv_iload_n hx hb dX7_takesEdge_50 rfl (lv_at hl 1 rfl) ?_
    refine lv_bipush (v := 48) hx hb dX7_takesEdge_51 (by decide) ?_
    refine lv_iload_n hx hb dX7_takesEdge_53 rfl (lv_at hl 2 rfl) ?_
    refine lv_if_eq (tgt := 62) hx hb dX7_takesEdge_54 (by decide) (fun c_2 => ?_) (fun c_2 => ?_)
    rotate_left
    · exact absurd c_2 (by decide)
    refine lv_bipush (v := 51) hx hb dX7_takesEdge_62 (by decide) ?_
    refine xc_i (wc := []) (wr := [kX7 m0 (nI z) m1 (nI r9) m2 m3 m4 m5 (nI n9) (nI v) m6 k1 k2 k3 (nI q9) m7 (nI w9) (nI s9) k7 k8 m8 m9 m10 k9 m11 m12 m13 hv, kI cI m7 5 ne]) (xrS (n := 3) (As := [.int (pf i), .int 48, .int 51]) (rest := []) hd hK hP hD (c_X7_within l D cI cJ cZ cR _ (pf i) 48 51 ) (gS t_637 mS_X7_within) hS_X7_within ⟨(Nat.le_of_ble_eq_true rfl), (Nat.le_of_ble_eq_true rfl)⟩ [] rfl rfl rfl hl.1 rfl (Nat.le_of_ble_eq_true rfl) dX7_takesEdge_64 ⟨(Nat.le_of_ble_eq_true rfl), (Nat.le_of_ble_eq_true rfl)⟩) hP hD hS hA [] [0, 1] rfl rfl rfl (by decide) (fun r_3 u_4 H locs hw_5 hP hD hS => ?_)
    have hw_6 : r_3 = (wi (pf i) 48 51) := hw_5
    subst hw_6
    have hP : va_P D vwCl [kX7 m0 (nI z) m1 (nI r9) m2 m3 m4 m5 (nI n9) (nI v) m6 k1 k2 k3 (nI q9) m7 (nI w9) (nI s9) k7 k8 m8 m9 m10 k9 m11 m12 m13 hv, kI cI m7 5 ne] H := hP
    have hD : va_D A [kX7 m0 (nI z) m1 (nI r9) m2 m3 m4 m5 (nI n9) (nI v) m6 k1 k2 k3 (nI q9) m7 (nI w9) (nI s9) k7 k8 m8 m9 m10 k9 m11 m12 m13 hv, kI cI m7 5 ne] := hD
    refine lv_if_eq (tgt := 77) hx hb dX7_takesEdge_67 (by decide) (fun c_7 => ?_) (fun c_7 => ?_)
    · skip
      refine lv_iconst (v := -1) hx hb dX7_takesEdge_77 (by decide) ?_
      refine lv_istore_n (lv' := [(3, .int (-1)), (0, .ref m0), (1, .int (pf i)), (2, .int 0)]) hx hb dX7_takesEdge_78 rfl hl (by decide) rfl (fun ls hl => ?_)
      refine lv_iload_n hx hb dX7_takesEdge_79 rfl (lv_at hl 0 rfl) ?_
      refine lv_iconst (v := -1) hx hb dX7_takesEdge_80 (by decide) ?_
      refine lv_icmp_eq (tgt := 103) hx hb dX7_takesEdge_81 (by decide) (fun c_8 => ?_) (fun c_8 => ?_)
      rotate_left
      · exact absurd c_8 (by decide)
      refine lv_iconst (v := 0) hx hb dX7_takesEdge_103 (by decide) ?_
      exact hret _ _ _ _ _ _ 0 (nI q9, nI w9, nI s9, k7, ne) dX7_takesEdge_104 rfl hS (Nat.le_of_ble_eq_true rfl) (Nat.le_of_ble_eq_true rfl) ⟨YN_n (fun q => (show s9 = 1 ∨ s9 = 2 by have := s9_ne c_1; omega).elim (fun e9 => by subst e9; exact ((okE0_1 (q := q9) (by omega) (by omega)).mp q) c_7) (fun e9 => by subst e9; exact ((okE0_2 (q := q9) (by omega) (by omega)).mp q).1 c_7)), fun q => absurd rfl q⟩ (hP.sub [0, 1] rfl) (hD.sub [0, 1] rfl rfl)
    · skip
      obtain ⟨d9, hd1, hd2, ed9⟩ := wi_rng (a := 48) (b := 51) (by decide) (by decide) c_7
      refine lv_iload_n hx hb dX7_takesEdge_70 rfl (lv_at hl 1 rfl) ?_
      refine lv_nmi (show _ = (nI d9 : Int32) from ed9) ?_
      refine lv_bipush (v := 48) hx hb dX7_takesEdge_71 (by decide) ?_
      refine lv_isub hx hb dX7_takesEdge_73 ?_
      refine lv_nmi (show _ = (nI (d9 - 48) : Int32) from pk_sub (a := d9) (b := 48) hd1) ?_
      refine lv_goto (tgt := 78) hx hb dX7_takesEdge_74 (by decide) ?_
      refine lv_istore_n (lv' := [(3, .int (nI (d9 - 48))), (0, .ref m0), (1, .int (pf i)), (2, .int 0)]) hx hb dX7_takesEdge_78 rfl hl (by decide) rfl (fun ls hl => ?_)
      refine lv_iload_n hx hb dX7_takesEdge_79 rfl (lv_at hl 0 rfl) ?_
      refine lv_iconst (v := -1) hx hb dX7_takesEdge_80 (by decide) ?_
      refine lv_icmp_eq (tgt := 103) hx hb dX7_takesEdge_81 (by decide) (fun c_9 => ?_) (fun c_9 => ?_)
      · exact absurd c_9 (nI_nm1 (by omega))
      refine lv_aload_n hx hb dX7_takesEdge_84 rfl (lv_at hl 1 rfl) ?_
      refine va_get (D := D) (ci := 7) (v := .int (nI s9)) (C := RX7) (T := TX7) (N := 27) hx hb hts iT_X7 hown hK1 hP 0 rfl rfl 16 (by decide) (hts _ t_567) (fun _ h9 => h9) rfl dX7_takesEdge_85 ?_
      refine lv_iconst (v := 2) hx hb dX7_takesEdge_88 (by decide) ?_
      refine lv_icmp_ne (tgt := 105) hx hb dX7_takesEdge_89 (by decide) (fun c_10 => ?_) (fun c_10 => ?_)
      · skip
        have hs9 := st_1 hs2 c_1 c_10
        obtain ⟨x9, hx9, -, ex9⟩ := hX.2.2.2.2.2.1 hs9
        have ew8 := or_shlx (d := 4) (k := d9 - 48) hw9 (by decide) (by omega)
        have ei9 : pf i = nI (48 + (d9 - 48)) := by rw [ed9]; congr 1; omega
        refine lv_aload_n hx hb dX7_takesEdge_105 rfl (lv_at hl 1 rfl) ?_
        refine lv_bipush (v := 10) hx hb dX7_takesEdge_106 (by decide) ?_
        refine lv_aload_n hx hb dX7_takesEdge_108 rfl (lv_at hl 1 rfl) ?_
        refine va_get (D := D) (ci := 7) (v := .int k7) (C := RX7) (T := TX7) (N := 27) hx hb hts iT_X7 hown hK1 hP 0 rfl rfl 17 (by decide) (hts _ t_568) (fun _ h9 => h9) rfl dX7_takesEdge_109 ?_
        refine lv_nmi (show _ = (nI x9 : Int32) from ex9) ?_
        refine lv_imul hx hb dX7_takesEdge_112 ?_
        refine lv_nmi (show _ = (nI (10 * x9)) from pk_mul (10) (x9)) ?_
        refine lv_iload_n hx hb dX7_takesEdge_113 rfl (lv_at hl 0 rfl) ?_
        refine lv_iadd hx hb dX7_takesEdge_114 ?_
        refine lv_nmi (show _ = (nI ((10 * x9) + (d9 - 48))) from nI_add ((10 * x9)) ((d9 - 48))) ?_
        refine va_put (D := D) (ci := 7) (v := .int (nI ((10 * x9) + (d9 - 48)))) (ty := .int) (C := RX7) (T := TX7) (N := 27) hx hb hts iT_X7 tyX7 tyX7_ok nmX7 hown hK1 hP hD hS 0 rfl rfl 17 (by decide) (hts _ t_568) (fun _ h9 => h9) rfl (by decide +kernel) rfl rfl (Nat.le_of_ble_eq_true rfl) dX7_takesEdge_115 (fun H locs hP hD hS => ?_)
        have hP : va_P D vwCl [kX7 m0 (nI z) m1 (nI r9) m2 m3 m4 m5 (nI n9) (nI v) m6 k1 k2 k3 (nI q9) m7 (nI w9) (nI s9) (nI ((10 * x9) + (d9 - 48))) k8 m8 m9 m10 k9 m11 m12 m13 hv, kI cI m7 5 ne] H := hP
        have hD : va_D A [kX7 m0 (nI z) m1 (nI r9) m2 m3 m4 m5 (nI n9) (nI v) m6 k1 k2 k3 (nI q9) m7 (nI w9) (nI s9) (nI ((10 * x9) + (d9 - 48))) k8 m8 m9 m10 k9 m11 m12 m13 hv, kI cI m7 5 ne] := hD
        refine lv_aload_n hx hb dX7_takesEdge_118 rfl (lv_at hl 1 rfl) ?_
        refine lv_dup hx hb dX7_takesEdge_119 rfl ?_
        refine va_get (D := D) (ci := 7) (v := .int (nI w9)) (C := RX7) (T := TX7) (N := 27) hx hb hts iT_X7 hown hK1 hP 0 rfl rfl 15 (by decide) (hts _ t_566) (fun _ h9 => h9) rfl dX7_takesEdge_120 ?_
        refine lv_iconst (v := 1) hx hb dX7_takesEdge_123 (by decide) ?_
        refine lv_iload_n hx hb dX7_takesEdge_124 rfl (lv_at hl 0 rfl) ?_
        refine lv_ishl hx hb dX7_takesEdge_125 ?_
        refine lv_ior hx hb dX7_takesEdge_126 ?_
        refine lv_nmi (show _ = (nI (w9 ||| 2 ^ (d9 - 48)) : Int32) from ew8) ?_
        refine va_put (D := D) (ci := 7) (v := .int (nI (w9 ||| 2 ^ (d9 - 48)))) (ty := .int) (C := RX7) (T := TX7) (N := 27) hx hb hts iT_X7 tyX7 tyX7_ok nmX7 hown hK1 hP hD hS 0 rfl rfl 15 (by decide) (hts _ t_566) (fun _ h9 => h9) rfl (by decide +kernel) rfl rfl (Nat.le_of_ble_eq_true rfl) dX7_takesEdge_127 (fun H locs hP hD hS => ?_)
        have hP : va_P D vwCl [kX7 m0 (nI z) m1 (nI r9) m2 m3 m4 m5 (nI n9) (nI v) m6 k1 k2 k3 (nI q9) m7 (nI (w9 ||| 2 ^ (d9 - 48))) (nI s9) (nI ((10 * x9) + (d9 - 48))) k8 m8 m9 m10 k9 m11 m12 m13 hv, kI cI m7 5 ne] H := hP
        have hD : va_D A [kX7 m0 (nI z) m1 (nI r9) m2 m3 m4 m5 (nI n9) (nI v) m6 k1 k2 k3 (nI q9) m7 (nI (w9 ||| 2 ^ (d9 - 48))) (nI s9) (nI ((10 * x9) + (d9 - 48))) k8 m8 m9 m10 k9 m11 m12 m13 hv, kI cI m7 5 ne] := hD
        refine lv_aload_n hx hb dX7_takesEdge_130 rfl (lv_at hl 1 rfl) ?_
        refine lv_dup hx hb dX7_takesEdge_131 rfl ?_
        refine va_get (D := D) (ci := 7) (v := .int (nI s9)) (C := RX7) (T := TX7) (N := 27) hx hb hts iT_X7 hown hK1 hP 0 rfl rfl 16 (by decide) (hts _ t_567) (fun _ h9 => h9) rfl dX7_takesEdge_132 ?_
        refine lv_iconst (v := 1) hx hb dX7_takesEdge_135 (by decide) ?_
        refine lv_iadd hx hb dX7_takesEdge_136 ?_
        refine lv_nmi (show _ = (nI (s9 + 1)) from nI_add (s9) (1)) ?_
        refine va_put (D := D) (ci := 7) (v := .int (nI (s9 + 1))) (ty := .int) (C := RX7) (T := TX7) (N := 27) hx hb hts iT_X7 tyX7 tyX7_ok nmX7 hown hK1 hP hD hS 0 rfl rfl 16 (by decide) (hts _ t_567) (fun _ h9 => h9) rfl (by decide +kernel) rfl rfl (Nat.le_of_ble_eq_true rfl) dX7_takesEdge_137 (fun H locs hP hD hS => ?_)
        have hP : va_P D vwCl [kX7 m0 (nI z) m1 (nI r9) m2 m3 m4 m5 (nI n9) (nI v) m6 k1 k2 k3 (nI q9) m7 (nI (w9 ||| 2 ^ (d9 - 48))) (nI (s9 + 1)) (nI ((10 * x9) + (d9 - 48))) k8 m8 m9 m10 k9 m11 m12 m13 hv, kI cI m7 5 ne] H := hP
        have hD : va_D A [kX7 m0 (nI z) m1 (nI r9) m2 m3 m4 m5 (nI n9) (nI v) m6 k1 k2 k3 (nI q9) m7 (nI (w9 ||| 2 ^ (d9 - 48))) (nI (s9 + 1)) (nI ((10 * x9) + (d9 - 48))) k8 m8 m9 m10 k9 m11 m12 m13 hv, kI cI m7 5 ne] := hD
        refine lv_aload_n hx hb dX7_takesEdge_140 rfl (lv_at hl 1 rfl) ?_
        refine va_get (D := D) (ci := 7) (v := .int (nI (s9 + 1))) (C := RX7) (T := TX7) (N := 27) hx hb hts iT_X7 hown hK1 hP 0 rfl rfl 16 (by decide) (hts _ t_567) (fun _ h9 => h9) rfl dX7_takesEdge_141 ?_
        refine lv_iconst (v := 3) hx hb dX7_takesEdge_144 (by decide) ?_
        refine lv_icmp_ne (tgt := 176) hx hb dX7_takesEdge_145 (by decide) (fun c_11 => ?_) (fun c_11 => ?_)
        rotate_left
        · exact absurd c_11 (fun q => absurd ((nI_eq (a := (s9 + 1)) (b := 3) (by omega) (by omega)).mp q) (by omega))
        refine lv_iconst (v := 1) hx hb dX7_takesEdge_176 (by decide) ?_
        exact hret _ _ _ _ _ _ 1 (nI q9, nI (w9 ||| 2 ^ (d9 - 48)), nI (s9 + 1), nI ((10 * x9) + (d9 - 48)), ne) dX7_takesEdge_177 rfl hS (Nat.le_of_ble_eq_true rfl) (Nat.le_of_ble_eq_true rfl) (by subst hs9; exact ⟨YN_y ((okE0_1 (q := q9) (by omega) (by omega)).mpr c_7), fun _ => ⟨q9, 2, w9 ||| 2 ^ (d9 - 48), rfl, rfl, rfl, TX_1 hX hhi (by decide) (by omega) hx9 ex9 ei9⟩⟩) (hP.sub [0, 1] rfl) (hD.sub [0, 1] rfl rfl)
      · skip
        have hs9 := st_2 hs2 c_10
        obtain ⟨x9, a9, hx9, ha9, -, ei9, ex9⟩ := hX.2.2.2.2.2.2.1 hs9
        refine lv_iload_n hx hb dX7_takesEdge_92 rfl (lv_at hl 0 rfl) ?_
        refine lv_aload_n hx hb dX7_takesEdge_93 rfl (lv_at hl 1 rfl) ?_
        refine va_get (D := D) (ci := 7) (v := .int k7) (C := RX7) (T := TX7) (N := 27) hx hb hts iT_X7 hown hK1 hP 0 rfl rfl 17 (by decide) (hts _ t_568) (fun _ h9 => h9) rfl dX7_takesEdge_94 ?_
        refine lv_nmi (show _ = (nI (10 * x9 + a9) : Int32) from ex9) ?_
        refine lv_bipush (v := 10) hx hb dX7_takesEdge_97 (by decide) ?_
        refine lv_irem hx hb dX7_takesEdge_99 (by decide) ?_
        refine lv_nmi (show _ = (nI a9 : Int32) from rem10 (by omega) (by omega)) ?_
        refine lv_icmp_ne (tgt := 105) hx hb dX7_takesEdge_100 (by decide) (fun c_12 => ?_) (fun c_12 => ?_)
        · skip
          have ew8 := or_shlx (d := 4) (k := d9 - 48) hw9 (by decide) (by omega)
          have ej9 := ei9
          have ei9 : pf i = nI (48 + (d9 - 48)) := by rw [ed9]; congr 1; omega
          refine lv_aload_n hx hb dX7_takesEdge_105 rfl (lv_at hl 1 rfl) ?_
          refine lv_bipush (v := 10) hx hb dX7_takesEdge_106 (by decide) ?_
          refine lv_aload_n hx hb dX7_takesEdge_108 rfl (lv_at hl 1 rfl) ?_
          refine va_get (D := D) (ci := 7) (v := .int k7) (C := RX7) (T := TX7) (N := 27) hx hb hts iT_X7 hown hK1 hP 0 rfl rfl 17 (by decide) (hts _ t_568) (fun _ h9 => h9) rfl dX7_takesEdge_109 ?_
          refine lv_nmi (show _ = (nI (10 * x9 + a9) : Int32) from ex9) ?_
          refine lv_imul hx hb dX7_takesEdge_112 ?_
          refine lv_nmi (show _ = (nI (10 * (10 * x9 + a9))) from pk_mul (10) ((10 * x9 + a9))) ?_
          refine lv_iload_n hx hb dX7_takesEdge_113 rfl (lv_at hl 0 rfl) ?_
          refine lv_iadd hx hb dX7_takesEdge_114 ?_
          refine lv_nmi (show _ = (nI ((10 * (10 * x9 + a9)) + (d9 - 48))) from nI_add ((10 * (10 * x9 + a9))) ((d9 - 48))) ?_
          refine va_put (D := D) (ci := 7) (v := .int (nI ((10 * (10 * x9 + a9)) + (d9 - 48)))) (ty := .int) (C := RX7) (T := TX7) (N := 27) hx hb hts iT_X7 tyX7 tyX7_ok nmX7 hown hK1 hP hD hS 0 rfl rfl 17 (by decide) (hts _ t_568) (fun _ h9 => h9) rfl (by decide +kernel) rfl rfl (Nat.le_of_ble_eq_true rfl) dX7_takesEdge_115 (fun H locs hP hD hS => ?_)
          have hP : va_P D vwCl [kX7 m0 (nI z) m1 (nI r9) m2 m3 m4 m5 (nI n9) (nI v) m6 k1 k2 k3 (nI q9) m7 (nI w9) (nI s9) (nI ((10 * (10 * x9 + a9)) + (d9 - 48))) k8 m8 m9 m10 k9 m11 m12 m13 hv, kI cI m7 5 ne] H := hP
          have hD : va_D A [kX7 m0 (nI z) m1 (nI r9) m2 m3 m4 m5 (nI n9) (nI v) m6 k1 k2 k3 (nI q9) m7 (nI w9) (nI s9) (nI ((10 * (10 * x9 + a9)) + (d9 - 48))) k8 m8 m9 m10 k9 m11 m12 m13 hv, kI cI m7 5 ne] := hD
          refine lv_aload_n hx hb dX7_takesEdge_118 rfl (lv_at hl 1 rfl) ?_
          refine lv_dup hx hb dX7_takesEdge_119 rfl ?_
          refine va_get (D := D) (ci := 7) (v := .int (nI w9)) (C := RX7) (T := TX7) (N := 27) hx hb hts iT_X7 hown hK1 hP 0 rfl rfl 15 (by decide) (hts _ t_566) (fun _ h9 => h9) rfl dX7_takesEdge_120 ?_
          refine lv_iconst (v := 1) hx hb dX7_takesEdge_123 (by decide) ?_
          refine lv_iload_n hx hb dX7_takesEdge_124 rfl (lv_at hl 0 rfl) ?_
          refine lv_ishl hx hb dX7_takesEdge_125 ?_
          refine lv_ior hx hb dX7_takesEdge_126 ?_
          refine lv_nmi (show _ = (nI (w9 ||| 2 ^ (d9 - 48)) : Int32) from ew8) ?_
          refine va_put (D := D) (ci := 7) (v := .int (nI (w9 ||| 2 ^ (d9 - 48)))) (ty := .int) (C := RX7) (T := TX7) (N := 27) hx hb hts iT_X7 tyX7 tyX7_ok nmX7 hown hK1 hP hD hS 0 rfl rfl 15 (by decide) (hts _ t_566) (fun _ h9 => h9) rfl (by decide +kernel) rfl rfl (Nat.le_of_ble_eq_true rfl) dX7_takesEdge_127 (fun H locs hP hD hS => ?_)
          have hP : va_P D vwCl [kX7 m0 (nI z) m1 (nI r9) m2 m3 m4 m5 (nI n9) (nI v) m6 k1 k2 k3 (nI q9) m7 (nI (w9 ||| 2 ^ (d9 - 48))) (nI s9) (nI ((10 * (10 * x9 + a9)) + (d9 - 48))) k8 m8 m9 m10 k9 m11 m12 m13 hv, kI cI m7 5 ne] H := hP
          have hD : va_D A [kX7 m0 (nI z) m1 (nI r9) m2 m3 m4 m5 (nI n9) (nI v) m6 k1 k2 k3 (nI q9) m7 (nI (w9 ||| 2 ^ (d9 - 48))) (nI s9) (nI ((10 * (10 * x9 + a9)) + (d9 - 48))) k8 m8 m9 m10 k9 m11 m12 m13 hv, kI cI m7 5 ne] := hD
          refine lv_aload_n hx hb dX7_takesEdge_130 rfl (lv_at hl 1 rfl) ?_
          refine lv_dup hx hb dX7_takesEdge_131 rfl ?_
          refine va_get (D := D) (ci := 7) (v := .int (nI s9)) (C := RX7) (T := TX7) (N := 27) hx hb hts iT_X7 hown hK1 hP 0 rfl rfl 16 (by decide) (hts _ t_567) (fun _ h9 => h9) rfl dX7_takesEdge_132 ?_
          refine lv_iconst (v := 1) hx hb dX7_takesEdge_135 (by decide) ?_
          refine lv_iadd hx hb dX7_takesEdge_136 ?_
          refine lv_nmi (show _ = (nI (s9 + 1)) from nI_add (s9) (1)) ?_
          refine va_put (D := D) (ci := 7) (v := .int (nI (s9 + 1))) (ty := .int) (C := RX7) (T := TX7) (N := 27) hx hb hts iT_X7 tyX7 tyX7_ok nmX7 hown hK1 hP hD hS 0 rfl rfl 16 (by decide) (hts _ t_567) (fun _ h9 => h9) rfl (by decide +kernel) rfl rfl (Nat.le_of_ble_eq_true rfl) dX7_takesEdge_137 (fun H locs hP hD hS => ?_)
          have hP : va_P D vwCl [kX7 m0 (nI z) m1 (nI r9) m2 m3 m4 m5 (nI n9) (nI v) m6 k1 k2 k3 (nI q9) m7 (nI (w9 ||| 2 ^ (d9 - 48))) (nI (s9 + 1)) (nI ((10 * (10 * x9 + a9)) + (d9 - 48))) k8 m8 m9 m10 k9 m11 m12 m13 hv, kI cI m7 5 ne] H := hP
          have hD : va_D A [kX7 m0 (nI z) m1 (nI r9) m2 m3 m4 m5 (nI n9) (nI v) m6 k1 k2 k3 (nI q9) m7 (nI (w9 ||| 2 ^ (d9 - 48))) (nI (s9 + 1)) (nI ((10 * (10 * x9 + a9)) + (d9 - 48))) k8 m8 m9 m10 k9 m11 m12 m13 hv, kI cI m7 5 ne] := hD
          refine lv_aload_n hx hb dX7_takesEdge_140 rfl (lv_at hl 1 rfl) ?_
          refine va_get (D := D) (ci := 7) (v := .int (nI (s9 + 1))) (C := RX7) (T := TX7) (N := 27) hx hb hts iT_X7 hown hK1 hP 0 rfl rfl 16 (by decide) (hts _ t_567) (fun _ h9 => h9) rfl dX7_takesEdge_141 ?_
          refine lv_iconst (v := 3) hx hb dX7_takesEdge_144 (by decide) ?_
          refine lv_icmp_ne (tgt := 176) hx hb dX7_takesEdge_145 (by decide) (fun c_13 => ?_) (fun c_13 => ?_)
          · exact absurd ((nI_eq (a := (s9 + 1)) (b := 3) (by omega) (by omega)).mpr (by omega)) c_13
          refine lv_aload_n hx hb dX7_takesEdge_148 rfl (lv_at hl 1 rfl) ?_
          refine va_get (D := D) (ci := 7) (v := .ref m7) (C := RX7) (T := TX7) (N := 27) hx hb hts iT_X7 hown hK1 hP 0 rfl rfl 14 (by decide) (hts _ t_565) (fun _ h9 => h9) rfl dX7_takesEdge_149 ?_
          refine lv_aload_n hx hb dX7_takesEdge_152 rfl (lv_at hl 1 rfl) ?_
          refine va_get (D := D) (ci := 7) (v := .int (nI q9)) (C := RX7) (T := TX7) (N := 27) hx hb hts iT_X7 hown hK1 hP 0 rfl rfl 13 (by decide) (hts _ t_564) (fun _ h9 => h9) rfl dX7_takesEdge_153 ?_
          refine lv_aload_n hx hb dX7_takesEdge_156 rfl (lv_at hl 1 rfl) ?_
          refine va_get (D := D) (ci := 7) (v := .int (nI ((10 * (10 * x9 + a9)) + (d9 - 48)))) (C := RX7) (T := TX7) (N := 27) hx hb hts iT_X7 hown hK1 hP 0 rfl rfl 17 (by decide) (hts _ t_568) (fun _ h9 => h9) rfl dX7_takesEdge_157 ?_
          refine va_iast hx hb hK1 hP hD hS 1 0 rfl rfl (vp_in_nI (by omega) (by omega)) dX7_takesEdge_160 (fun H locs hP hD hS => ?_)
          rw [nI_clamp (n := q9) (by omega)] at hP hD
          have hP : va_P D vwCl [kX7 m0 (nI z) m1 (nI r9) m2 m3 m4 m5 (nI n9) (nI v) m6 k1 k2 k3 (nI q9) m7 (nI (w9 ||| 2 ^ (d9 - 48))) (nI (s9 + 1)) (nI ((10 * (10 * x9 + a9)) + (d9 - 48))) k8 m8 m9 m10 k9 m11 m12 m13 hv, kI cI m7 5 (upd ne q9 (nI ((10 * (10 * x9 + a9)) + (d9 - 48))))] H := hP
          have hD : va_D A [kX7 m0 (nI z) m1 (nI r9) m2 m3 m4 m5 (nI n9) (nI v) m6 k1 k2 k3 (nI q9) m7 (nI (w9 ||| 2 ^ (d9 - 48))) (nI (s9 + 1)) (nI ((10 * (10 * x9 + a9)) + (d9 - 48))) k8 m8 m9 m10 k9 m11 m12 m13 hv, kI cI m7 5 (upd ne q9 (nI ((10 * (10 * x9 + a9)) + (d9 - 48))))] := hD
          refine lv_aload_n hx hb dX7_takesEdge_161 rfl (lv_at hl 1 rfl) ?_
          refine lv_dup hx hb dX7_takesEdge_162 rfl ?_
          refine va_get (D := D) (ci := 7) (v := .int (nI q9)) (C := RX7) (T := TX7) (N := 27) hx hb hts iT_X7 hown hK1 hP 0 rfl rfl 13 (by decide) (hts _ t_564) (fun _ h9 => h9) rfl dX7_takesEdge_163 ?_
          refine lv_iconst (v := 1) hx hb dX7_takesEdge_166 (by decide) ?_
          refine lv_iadd hx hb dX7_takesEdge_167 ?_
          refine lv_nmi (show _ = (nI (q9 + 1)) from nI_add (q9) (1)) ?_
          refine va_put (D := D) (ci := 7) (v := .int (nI (q9 + 1))) (ty := .int) (C := RX7) (T := TX7) (N := 27) hx hb hts iT_X7 tyX7 tyX7_ok nmX7 hown hK1 hP hD hS 0 rfl rfl 13 (by decide) (hts _ t_564) (fun _ h9 => h9) rfl (by decide +kernel) rfl rfl (Nat.le_of_ble_eq_true rfl) dX7_takesEdge_168 (fun H locs hP hD hS => ?_)
          have hP : va_P D vwCl [kX7 m0 (nI z) m1 (nI r9) m2 m3 m4 m5 (nI n9) (nI v) m6 k1 k2 k3 (nI (q9 + 1)) m7 (nI (w9 ||| 2 ^ (d9 - 48))) (nI (s9 + 1)) (nI ((10 * (10 * x9 + a9)) + (d9 - 48))) k8 m8 m9 m10 k9 m11 m12 m13 hv, kI cI m7 5 (upd ne q9 (nI ((10 * (10 * x9 + a9)) + (d9 - 48))))] H := hP
          have hD : va_D A [kX7 m0 (nI z) m1 (nI r9) m2 m3 m4 m5 (nI n9) (nI v) m6 k1 k2 k3 (nI (q9 + 1)) m7 (nI (w9 ||| 2 ^ (d9 - 48))) (nI (s9 + 1)) (nI ((10 * (10 * x9 + a9)) + (d9 - 48))) k8 m8 m9 m10 k9 m11 m12 m13 hv, kI cI m7 5 (upd ne q9 (nI ((10 * (10 * x9 + a9)) + (d9 - 48))))] := hD
          refine lv_aload_n hx hb dX7_takesEdge_171 rfl (lv_at hl 1 rfl) ?_
          refine lv_iconst (v := 0) hx hb dX7_takesEdge_172 (by decide) ?_
          refine va_put (D := D) (ci := 7) (v := .int 0) (ty := .int) (C := RX7) (T := TX7) (N := 27) hx hb hts iT_X7 tyX7 tyX7_ok nmX7 hown hK1 hP hD hS 0 rfl rfl 16 (by decide) (hts _ t_567) (fun _ h9 => h9) rfl (by decide +kernel) rfl rfl (Nat.le_of_ble_eq_true rfl) dX7_takesEdge_173 (fun H locs hP hD hS => ?_)
          have hP : va_P D vwCl [kX7 m0 (nI z) m1 (nI r9) m2 m3 m4 m5 (nI n9) (nI v) m6 k1 k2 k3 (nI (q9 + 1)) m7 (nI (w9 ||| 2 ^ (d9 - 48))) 0 (nI ((10 * (10 * x9 + a9)) + (d9 - 48))) k8 m8 m9 m10 k9 m11 m12 m13 hv, kI cI m7 5 (upd ne q9 (nI ((10 * (10 * x9 + a9)) + (d9 - 48))))] H := hP
          have hD : va_D A [kX7 m0 (nI z) m1 (nI r9) m2 m3 m4 m5 (nI n9) (nI v) m6 k1 k2 k3 (nI (q9 + 1)) m7 (nI (w9 ||| 2 ^ (d9 - 48))) 0 (nI ((10 * (10 * x9 + a9)) + (d9 - 48))) k8 m8 m9 m10 k9 m11 m12 m13 hv, kI cI m7 5 (upd ne q9 (nI ((10 * (10 * x9 + a9)) + (d9 - 48))))] := hD
          refine lv_iconst (v := 1) hx hb dX7_takesEdge_176 (by decide) ?_
          exact hret _ _ _ _ _ _ 1 (nI (q9 + 1), nI (w9 ||| 2 ^ (d9 - 48)), 0, nI ((10 * (10 * x9 + a9)) + (d9 - 48)), upd ne q9 (nI ((10 * (10 * x9 + a9)) + (d9 - 48)))) dX7_takesEdge_177 rfl hS (Nat.le_of_ble_eq_true rfl) (Nat.le_of_ble_eq_true rfl) (by subst hs9; exact ⟨YN_y ((okE0_2 (q := q9) (by omega) (by omega)).mpr ⟨c_7, fun q => c_12 (by rw [ed9, ej9] at q; have := (nI_eq (by omega) (by omega)).mp q; rw [this]; congr 1; omega)⟩), fun _ => ⟨q9 + 1, 0, w9 ||| 2 ^ (d9 - 48), rfl, rfl, rfl, TX_2 hX hhi (by decide) ha9 (by omega) hx9 ex9 ei9 (fun q => c_12 (by rw [q]))⟩⟩) (hP.sub [0, 1] rfl) (hD.sub [0, 1] rfl rfl)
        · skip
          refine lv_iconst (v := 0) hx hb dX7_takesEdge_103 (by decide) ?_
          exact hret _ _ _ _ _ _ 0 (nI q9, nI w9, nI s9, k7, ne) dX7_takesEdge_104 rfl hS (Nat.le_of_ble_eq_true rfl) (Nat.le_of_ble_eq_true rfl) (by subst hs9; exact ⟨YN_n (fun q => ((okE0_2 (q := q9) (by omega) (by omega)).mp q).2 (by rw [ed9, ei9]; have := (nI_eq (by omega) (by omega)).mp c_12; rw [← this, show 48 + (d9 - 48) = d9 by omega])), fun q => absurd rfl q⟩) (hP.sub [0, 1] rfl) (hD.sub [0, 1] rfl rfl)
  · skip
    refine lv_iload_n hx hb dX7_takesEdge_7 rfl (lv_at hl 1 rfl) ?_
    refine lv_iload_n hx hb dX7_takesEdge_8 rfl (lv_at hl 2 rfl) ?_
    refine xc_i (wc := []) (wr := [kX7 m0 (nI z) m1 (nI r9) m2 m3 m4 m5 (nI n9) (nI v) m6 k1 k2 k3 (nI q9) m7 (nI w9) (nI s9) k7 k8 m8 m9 m10 k9 m11 m12 m13 hv, kI cI m7 5 ne]) (xrS (n := 2) (As := [.int (pf i), .int 0]) (rest := []) hd hK hP hD (g_letterAt_0 l D cI cJ cZ cR _ (pf i) ) (gS t_660 mS_X7_letterAt) hS_X7_letterAt ⟨(Nat.le_of_ble_eq_true rfl), (Nat.le_of_ble_eq_true rfl)⟩ [] rfl rfl rfl hl.1 rfl (Nat.le_of_ble_eq_true rfl) dX7_takesEdge_9 ⟨(Nat.le_of_ble_eq_true rfl), (Nat.le_of_ble_eq_true rfl)⟩) hP hD hS hA [] [0, 1] rfl rfl rfl (by decide) (fun r_14 u_15 H locs hw_16 hP hD hS => ?_)
    have hw_17 : r_14 = (cL (pf i)) := hw_16
    subst hw_17
    have hP : va_P D vwCl [kX7 m0 (nI z) m1 (nI r9) m2 m3 m4 m5 (nI n9) (nI v) m6 k1 k2 k3 (nI q9) m7 (nI w9) (nI s9) k7 k8 m8 m9 m10 k9 m11 m12 m13 hv, kI cI m7 5 ne] H := hP
    have hD : va_D A [kX7 m0 (nI z) m1 (nI r9) m2 m3 m4 m5 (nI n9) (nI v) m6 k1 k2 k3 (nI q9) m7 (nI w9) (nI s9) k7 k8 m8 m9 m10 k9 m11 m12 m13 hv, kI cI m7 5 ne] := hD
    refine lv_istore_n (lv' := [(3, .int (cL (pf i))), (0, .ref m0), (1, .int (pf i)), (2, .int 0)]) hx hb dX7_takesEdge_12 rfl hl (by decide) rfl (fun ls hl => ?_)
    refine lv_aload_n hx hb dX7_takesEdge_13 rfl (lv_at hl 1 rfl) ?_
    refine lv_iload_n hx hb dX7_takesEdge_14 rfl (lv_at hl 0 rfl) ?_
    refine va_put (D := D) (ci := 7) (v := .int (cL (pf i))) (ty := .int) (C := RX7) (T := TX7) (N := 27) hx hb hts iT_X7 tyX7 tyX7_ok nmX7 hown hK1 hP hD hS 0 rfl rfl 17 (by decide) (hts _ t_568) (fun _ h9 => h9) rfl (by decide +kernel) rfl rfl (Nat.le_of_ble_eq_true rfl) dX7_takesEdge_15 (fun H locs hP hD hS => ?_)
    have hP : va_P D vwCl [kX7 m0 (nI z) m1 (nI r9) m2 m3 m4 m5 (nI n9) (nI v) m6 k1 k2 k3 (nI q9) m7 (nI w9) (nI s9) (cL (pf i)) k8 m8 m9 m10 k9 m11 m12 m13 hv, kI cI m7 5 ne] H := hP
    have hD : va_D A [kX7 m0 (nI z) m1 (nI r9) m2 m3 m4 m5 (nI n9) (nI v) m6 k1 k2 k3 (nI q9) m7 (nI w9) (nI s9) (cL (pf i)) k8 m8 m9 m10 k9 m11 m12 m13 hv, kI cI m7 5 ne] := hD
    refine lv_aload_n hx hb dX7_takesEdge_18 rfl (lv_at hl 1 rfl) ?_
    refine lv_iconst (v := 1) hx hb dX7_takesEdge_19 (by decide) ?_
    refine va_put (D := D) (ci := 7) (v := .int 1) (ty := .int) (C := RX7) (T := TX7) (N := 27) hx hb hts iT_X7 tyX7 tyX7_ok nmX7 hown hK1 hP hD hS 0 rfl rfl 16 (by decide) (hts _ t_567) (fun _ h9 => h9) rfl (by decide +kernel) rfl rfl (Nat.le_of_ble_eq_true rfl) dX7_takesEdge_20 (fun H locs hP hD hS => ?_)
    have hP : va_P D vwCl [kX7 m0 (nI z) m1 (nI r9) m2 m3 m4 m5 (nI n9) (nI v) m6 k1 k2 k3 (nI q9) m7 (nI w9) 1 (cL (pf i)) k8 m8 m9 m10 k9 m11 m12 m13 hv, kI cI m7 5 ne] H := hP
    have hD : va_D A [kX7 m0 (nI z) m1 (nI r9) m2 m3 m4 m5 (nI n9) (nI v) m6 k1 k2 k3 (nI q9) m7 (nI w9) 1 (cL (pf i)) k8 m8 m9 m10 k9 m11 m12 m13 hv, kI cI m7 5 ne] := hD
    refine lv_iload_n hx hb dX7_takesEdge_23 rfl (lv_at hl 0 rfl) ?_
    refine lv_iconst (v := -1) hx hb dX7_takesEdge_24 (by decide) ?_
    refine lv_icmp_eq (tgt := 48) hx hb dX7_takesEdge_25 (by decide) (fun c_18 => ?_) (fun c_18 => ?_)
    · skip
      refine lv_iconst (v := 0) hx hb dX7_takesEdge_48 (by decide) ?_
      exact hret _ _ _ _ _ _ 0 (nI q9, nI w9, 1, cL (pf i), ne) dX7_takesEdge_49 rfl hS (Nat.le_of_ble_eq_true rfl) (Nat.le_of_ble_eq_true rfl) (by have hs0 : s9 = 0 := (nI_eq (b := 0) (by omega) (by decide)).mp c_1; subst hs0; exact ⟨YN_n (fun q => ((okE0_0 (q := q9) (by omega)).mp q).1 c_18), fun q => absurd rfl q⟩) (hP.sub [0, 1] rfl) (hD.sub [0, 1] rfl rfl)
    · skip
      refine lv_aload_n hx hb dX7_takesEdge_28 rfl (lv_at hl 1 rfl) ?_
      refine va_get (D := D) (ci := 7) (v := .int (nI q9)) (C := RX7) (T := TX7) (N := 27) hx hb hts iT_X7 hown hK1 hP 0 rfl rfl 13 (by decide) (hts _ t_564) (fun _ h9 => h9) rfl dX7_takesEdge_29 ?_
      refine lv_iload_n hx hb dX7_takesEdge_32 rfl (lv_at hl 3 rfl) ?_
      refine lv_if_eq (tgt := 40) hx hb dX7_takesEdge_33 (by decide) (fun c_19 => ?_) (fun c_19 => ?_)
      rotate_left
      · exact absurd c_19 (by decide)
      refine lv_iconst (v := 3) hx hb dX7_takesEdge_40 (by decide) ?_
      refine lv_icmp_ge (tgt := 48) hx hb dX7_takesEdge_41 (by decide) (fun c_20 => ?_) (fun c_20 => ?_)
      · skip
        refine lv_iconst (v := 0) hx hb dX7_takesEdge_48 (by decide) ?_
        exact hret _ _ _ _ _ _ 0 (nI q9, nI w9, 1, cL (pf i), ne) dX7_takesEdge_49 rfl hS (Nat.le_of_ble_eq_true rfl) (Nat.le_of_ble_eq_true rfl) (by have hs0 : s9 = 0 := (nI_eq (b := 0) (by omega) (by decide)).mp c_1; subst hs0; exact ⟨YN_n (fun q => absurd ((okE0_0 (q := q9) (by omega)).mp q).2 (by have := leN (a := 3) (b := q9) (by omega) (by decide) c_20; omega)), fun q => absurd rfl q⟩) (hP.sub [0, 1] rfl) (hD.sub [0, 1] rfl rfl)
      · skip
        refine lv_iconst (v := 1) hx hb dX7_takesEdge_44 (by decide) ?_
        refine lv_goto (tgt := 49) hx hb dX7_takesEdge_45 (by decide) ?_
        exact hret _ _ _ _ _ _ 1 (nI q9, nI w9, 1, cL (pf i), ne) dX7_takesEdge_49 rfl hS (Nat.le_of_ble_eq_true rfl) (Nat.le_of_ble_eq_true rfl) (by have hs0 : s9 = 0 := (nI_eq (b := 0) (by omega) (by decide)).mp c_1; subst hs0; obtain ⟨k8, hk8, ek8⟩ := cL_k c_18; rw [ek8]; exact ⟨YN_y ((okE0_0 (q := q9) (by omega)).mpr ⟨c_18, (ltN (b := 3) (by decide) (by omega) (Int32.not_le.mp c_20))⟩), fun _ => ⟨q9, 1, w9, rfl, rfl, rfl, TX_0 hX hhi hk8 ek8 (ltN (b := 3) (by decide) (by omega) (Int32.not_le.mp c_20))⟩⟩) (hP.sub [0, 1] rfl) (hD.sub [0, 1] rfl rfl)
set_option maxHeartbeats 4000000 in
set_option maxRecDepth 100000 in
theorem g_takesEdge_1 (sz : Nat) (m0 : Nat) (m1 : Nat) (m2 : Nat) (m3 : Nat) (m4 : Nat) (m5 : Nat) (m6 : Nat) (m7 : Nat) (m8 : Nat) (m9 : Nat) (m10 : Nat) (m11 : Nat) (m12 : Nat) (m13 : Nat) (z : Nat) (r9 : Nat) (n9 : Nat) (v : Nat) (k1 : Int32) (k2 : Int32) (k3 : Int32) (k7 : Int32) (k8 : Int32) (k9 : Int32) (hv : Int64) (q9 : Nat) (s9 : Nat) (w9 : Nat) (ne : Nat → Int32) (pf : Nat → Int32) (i : Nat) (hX : TX 0 5 5 pf i q9 s9 w9 k7 ne) (hhi : 0 ≤ i) : CTi l D cI cJ cZ cR yX7_takesEdge cX7_takesEdge 4 (some .boolean) 1 22 0 0 sz [.ref m0, .int (pf i), .int 1] [kX7 m0 (nI z) m1 (nI r9) m2 m3 m4 m5 (nI n9) (nI v) m6 k1 k2 k3 (nI q9) m7 (nI w9) (nI s9) k7 k8 m8 m9 m10 k9 m11 m12 m13 hv, kI cI m7 5 ne] (fun (r : Int32) (u : Int32 × Int32 × Int32 × Int32 × (Nat → Int32)) => (YN r (okF1 pf i)) ∧ (¬ r = 0 → TXo 0 5 5 pf (i + 1) u.1 u.2.2.1 u.2.1 u.2.2.2.1 u.2.2.2.2)) (fun (u : Int32 × Int32 × Int32 × Int32 × (Nat → Int32)) => [kX7 m0 (nI z) m1 (nI r9) m2 m3 m4 m5 (nI n9) (nI v) m6 k1 k2 k3 u.1 m7 u.2.1 u.2.2.1 u.2.2.2.1 k8 m8 m9 m10 k9 m11 m12 m13 hv, kI cI m7 5 u.2.2.2.2]) := by
  refine CTi.of (ty := .boolean) (by decide) (Nat.le_of_ble_eq_true rfl) rfl ?_
  intro p e s m below meth c A Q ls hd hin hK hsz hP hD hA hS hl hret
  obtain ⟨hx, hb, hml, hown, hts⟩ := id hd
  have hK1 := hK.1
  have hown : s.vm.findClass RX7 = some m.cls := hown
  have hl : lv_has ls 4 [(0, .ref m0), (1, .int (pf i)), (2, .int 1)] := hl
  obtain ⟨hps, hs2, hqL, hsq, hw9, -⟩ := id hX
  have hiq : i = 0 + 3 * q9 + s9 := by omega
  clear hps
  refine lv_aload_n hx hb dX7_takesEdge_0 rfl (lv_at hl 0 rfl) ?_
  refine va_get (D := D) (ci := 7) (v := .int (nI s9)) (C := RX7) (T := TX7) (N := 27) hx hb hts iT_X7 hown hK1 hP 0 rfl rfl 16 (by decide) (hts _ t_567) (fun _ h9 => h9) rfl dX7_takesEdge_1 ?_
  refine lv_if_ne (tgt := 50) hx hb dX7_takesEdge_4 (by decide) (fun c_1 => ?_) (fun c_1 => ?_)
  · skip
    refine lv_iload_n hx hb dX7_takesEdge_50 rfl (lv_at hl 1 rfl) ?_
    refine lv_bipush (v := 48) hx hb dX7_takesEdge_51 (by decide) ?_
    refine lv_iload_n hx hb dX7_takesEdge_53 rfl (lv_at hl 2 rfl) ?_
    refine lv_if_eq (tgt := 62) hx hb dX7_takesEdge_54 (by decide) (fun c_2 => ?_) (fun c_2 => ?_)
    · exact absurd c_2 (by decide)
    refine lv_bipush (v := 52) hx hb dX7_takesEdge_57 (by decide) ?_
    refine lv_goto (tgt := 64) hx hb dX7_takesEdge_59 (by decide) ?_
    refine xc_i (wc := []) (wr := [kX7 m0 (nI z) m1 (nI r9) m2 m3 m4 m5 (nI n9) (nI v) m6 k1 k2 k3 (nI q9) m7 (nI w9) (nI s9) k7 k8 m8 m9 m10 k9 m11 m12 m13 hv, kI cI m7 5 ne]) (xrS (n := 3) (As := [.int (pf i), .int 48, .int 52]) (rest := []) hd hK hP hD (c_X7_within l D cI cJ cZ cR _ (pf i) 48 52 ) (gS t_637 mS_X7_within) hS_X7_within ⟨(Nat.le_of_ble_eq_true rfl), (Nat.le_of_ble_eq_true rfl)⟩ [] rfl rfl rfl hl.1 rfl (Nat.le_of_ble_eq_true rfl) dX7_takesEdge_64 ⟨(Nat.le_of_ble_eq_true rfl), (Nat.le_of_ble_eq_true rfl)⟩) hP hD hS hA [] [0, 1] rfl rfl rfl (by decide) (fun r_3 u_4 H locs hw_5 hP hD hS => ?_)
    have hw_6 : r_3 = (wi (pf i) 48 52) := hw_5
    subst hw_6
    have hP : va_P D vwCl [kX7 m0 (nI z) m1 (nI r9) m2 m3 m4 m5 (nI n9) (nI v) m6 k1 k2 k3 (nI q9) m7 (nI w9) (nI s9) k7 k8 m8 m9 m10 k9 m11 m12 m13 hv, kI cI m7 5 ne] H := hP
    have hD : va_D A [kX7 m0 (nI z) m1 (nI r9) m2 m3 m4 m5 (nI n9) (nI v) m6 k1 k2 k3 (nI q9) m7 (nI w9) (nI s9) k7 k8 m8 m9 m10 k9 m11 m12 m13 hv, kI cI m7 5 ne] := hD
    refine lv_if_eq (tgt := 77) hx hb dX7_takesEdge_67 (by decide) (fun c_7 => ?_) (fun c_7 => ?_)
    · skip
      refine lv_iconst (v := -1) hx hb dX7_takesEdge_77 (by decide) ?_
      refine lv_istore_n (lv' := [(3, .int (-1)), (0, .ref m0), (1, .int (pf i)), (2, .int 1)]) hx hb dX7_takesEdge_78 rfl hl (by decide) rfl (fun ls hl => ?_)
      refine lv_iload_n hx hb dX7_takesEdge_79 rfl (lv_at hl 0 rfl) ?_
      refine lv_iconst (v := -1) hx hb dX7_takesEdge_80 (by decide) ?_
      refine lv_icmp_eq (tgt := 103) hx hb dX7_takesEdge_81 (by decide) (fun c_8 => ?_) (fun c_8 => ?_)
      rotate_left
      · exact absurd c_8 (by decide)
      refine lv_iconst (v := 0) hx hb dX7_takesEdge_103 (by decide) ?_
      exact hret _ _ _ _ _ _ 0 (nI q9, nI w9, nI s9, k7, ne) dX7_takesEdge_104 rfl hS (Nat.le_of_ble_eq_true rfl) (Nat.le_of_ble_eq_true rfl) ⟨YN_n (fun q => (show s9 = 1 ∨ s9 = 2 by have := s9_ne c_1; omega).elim (fun e9 => by subst e9; exact ((okE1_1 (q := q9) (by omega) (by omega)).mp q) c_7) (fun e9 => by subst e9; exact ((okE1_2 (q := q9) (by omega) (by omega)).mp q).1 c_7)), fun q => absurd rfl q⟩ (hP.sub [0, 1] rfl) (hD.sub [0, 1] rfl rfl)
    · skip
      obtain ⟨d9, hd1, hd2, ed9⟩ := wi_rng (a := 48) (b := 52) (by decide) (by decide) c_7
      refine lv_iload_n hx hb dX7_takesEdge_70 rfl (lv_at hl 1 rfl) ?_
      refine lv_nmi (show _ = (nI d9 : Int32) from ed9) ?_
      refine lv_bipush (v := 48) hx hb dX7_takesEdge_71 (by decide) ?_
      refine lv_isub hx hb dX7_takesEdge_73 ?_
      refine lv_nmi (show _ = (nI (d9 - 48) : Int32) from pk_sub (a := d9) (b := 48) hd1) ?_
      refine lv_goto (tgt := 78) hx hb dX7_takesEdge_74 (by decide) ?_
      refine lv_istore_n (lv' := [(3, .int (nI (d9 - 48))), (0, .ref m0), (1, .int (pf i)), (2, .int 1)]) hx hb dX7_takesEdge_78 rfl hl (by decide) rfl (fun ls hl => ?_)
      refine lv_iload_n hx hb dX7_takesEdge_79 rfl (lv_at hl 0 rfl) ?_
      refine lv_iconst (v := -1) hx hb dX7_takesEdge_80 (by decide) ?_
      refine lv_icmp_eq (tgt := 103) hx hb dX7_takesEdge_81 (by decide) (fun c_9 => ?_) (fun c_9 => ?_)
      · exact absurd c_9 (nI_nm1 (by omega))
      refine lv_aload_n hx hb dX7_takesEdge_84 rfl (lv_at hl 1 rfl) ?_
      refine va_get (D := D) (ci := 7) (v := .int (nI s9)) (C := RX7) (T := TX7) (N := 27) hx hb hts iT_X7 hown hK1 hP 0 rfl rfl 16 (by decide) (hts _ t_567) (fun _ h9 => h9) rfl dX7_takesEdge_85 ?_
      refine lv_iconst (v := 2) hx hb dX7_takesEdge_88 (by decide) ?_
      refine lv_icmp_ne (tgt := 105) hx hb dX7_takesEdge_89 (by decide) (fun c_10 => ?_) (fun c_10 => ?_)
      · skip
        have hs9 := st_1 hs2 c_1 c_10
        obtain ⟨x9, hx9, -, ex9⟩ := hX.2.2.2.2.2.1 hs9
        have ew8 := or_shlx (d := 5) (k := d9 - 48) hw9 (by decide) (by omega)
        have ei9 : pf i = nI (48 + (d9 - 48)) := by rw [ed9]; congr 1; omega
        refine lv_aload_n hx hb dX7_takesEdge_105 rfl (lv_at hl 1 rfl) ?_
        refine lv_bipush (v := 10) hx hb dX7_takesEdge_106 (by decide) ?_
        refine lv_aload_n hx hb dX7_takesEdge_108 rfl (lv_at hl 1 rfl) ?_
        refine va_get (D := D) (ci := 7) (v := .int k7) (C := RX7) (T := TX7) (N := 27) hx hb hts iT_X7 hown hK1 hP 0 rfl rfl 17 (by decide) (hts _ t_568) (fun _ h9 => h9) rfl dX7_takesEdge_109 ?_
        refine lv_nmi (show _ = (nI x9 : Int32) from ex9) ?_
        refine lv_imul hx hb dX7_takesEdge_112 ?_
        refine lv_nmi (show _ = (nI (10 * x9)) from pk_mul (10) (x9)) ?_
        refine lv_iload_n hx hb dX7_takesEdge_113 rfl (lv_at hl 0 rfl) ?_
        refine lv_iadd hx hb dX7_takesEdge_114 ?_
        refine lv_nmi (show _ = (nI ((10 * x9) + (d9 - 48))) from nI_add ((10 * x9)) ((d9 - 48))) ?_
        refine va_put (D := D) (ci := 7) (v := .int (nI ((10 * x9) + (d9 - 48)))) (ty := .int) (C := RX7) (T := TX7) (N := 27) hx hb hts iT_X7 tyX7 tyX7_ok nmX7 hown hK1 hP hD hS 0 rfl rfl 17 (by decide) (hts _ t_568) (fun _ h9 => h9) rfl (by decide +kernel) rfl rfl (Nat.le_of_ble_eq_true rfl) dX7_takesEdge_115 (fun H locs hP hD hS => ?_)
        have hP : va_P D vwCl [kX7 m0 (nI z) m1 (nI r9) m2 m3 m4 m5 (nI n9) (nI v) m6 k1 k2 k3 (nI q9) m7 (nI w9) (nI s9) (nI ((10 * x9) + (d9 - 48))) k8 m8 m9 m10 k9 m11 m12 m13 hv, kI cI m7 5 ne] H := hP
        have hD : va_D A [kX7 m0 (nI z) m1 (nI r9) m2 m3 m4 m5 (nI n9) (nI v) m6 k1 k2 k3 (nI q9) m7 (nI w9) (nI s9) (nI ((10 * x9) + (d9 - 48))) k8 m8 m9 m10 k9 m11 m12 m13 hv, kI cI m7 5 ne] := hD
        refine lv_aload_n hx hb dX7_takesEdge_118 rfl (lv_at hl 1 rfl) ?_
        refine lv_dup hx hb dX7_takesEdge_119 rfl ?_
        refine va_get (D := D) (ci := 7) (v := .int (nI w9)) (C := RX7) (T := TX7) (N := 27) hx hb hts iT_X7 hown hK1 hP 0 rfl rfl 15 (by decide) (hts _ t_566) (fun _ h9 => h9) rfl dX7_takesEdge_120 ?_
        refine lv_iconst (v := 1) hx hb dX7_takesEdge_123 (by decide) ?_
        refine lv_iload_n hx hb dX7_takesEdge_124 rfl (lv_at hl 0 rfl) ?_
        refine lv_ishl hx hb dX7_takesEdge_125 ?_
        refine lv_ior hx hb dX7_takesEdge_126 ?_
        refine lv_nmi (show _ = (nI (w9 ||| 2 ^ (d9 - 48)) : Int32) from ew8) ?_
        refine va_put (D := D) (ci := 7) (v := .int (nI (w9 ||| 2 ^ (d9 - 48)))) (ty := .int) (C := RX7) (T := TX7) (N := 27) hx hb hts iT_X7 tyX7 tyX7_ok nmX7 hown hK1 hP hD hS 0 rfl rfl 15 (by decide) (hts _ t_566) (fun _ h9 => h9) rfl (by decide +kernel) rfl rfl (Nat.le_of_ble_eq_true rfl) dX7_takesEdge_127 (fun H locs hP hD hS => ?_)
        have hP : va_P D vwCl [kX7 m0 (nI z) m1 (nI r9) m2 m3 m4 m5 (nI n9) (nI v) m6 k1 k2 k3 (nI q9) m7 (nI (w9 ||| 2 ^ (d9 - 48))) (nI s9) (nI ((10 * x9) + (d9 - 48))) k8 m8 m9 m10 k9 m11 m12 m13 hv, kI cI m7 5 ne] H := hP
        have hD : va_D A [kX7 m0 (nI z) m1 (nI r9) m2 m3 m4 m5 (nI n9) (nI v) m6 k1 k2 k3 (nI q9) m7 (nI (w9 ||| 2 ^ (d9 - 48))) (nI s9) (nI ((10 * x9) + (d9 - 48))) k8 m8 m9 m10 k9 m11 m12 m13 hv, kI cI m7 5 ne] := hD
        refine lv_aload_n hx hb dX7_takesEdge_130 rfl (lv_at hl 1 rfl) ?_
        refine lv_dup hx hb dX7_takesEdge_131 rfl ?_
        refine va_get (D := D) (ci := 7) (v := .int (nI s9)) (C := RX7) (T := TX7) (N := 27) hx hb hts iT_X7 hown hK1 hP 0 rfl rfl 16 (by decide) (hts _ t_567) (fun _ h9 => h9) rfl dX7_takesEdge_132 ?_
        refine lv_iconst (v := 1) hx hb dX7_takesEdge_135 (by decide) ?_
        refine lv_iadd hx hb dX7_takesEdge_136 ?_
        refine lv_nmi (show _ = (nI (s9 + 1)) from nI_add (s9) (1)) ?_
        refine va_put (D := D) (ci := 7) (v := .int (nI (s9 + 1))) (ty := .int) (C := RX7) (T := TX7) (N := 27) hx hb hts iT_X7 tyX7 tyX7_ok nmX7 hown hK1 hP hD hS 0 rfl rfl 16 (by decide) (hts _ t_567) (fun _ h9 => h9) rfl (by decide +kernel) rfl rfl (Nat.le_of_ble_eq_true rfl) dX7_takesEdge_137 (fun H locs hP hD hS => ?_)
        have hP : va_P D vwCl [kX7 m0 (nI z) m1 (nI r9) m2 m3 m4 m5 (nI n9) (nI v) m6 k1 k2 k3 (nI q9) m7 (nI (w9 ||| 2 ^ (d9 - 48))) (nI (s9 + 1)) (nI ((10 * x9) + (d9 - 48))) k8 m8 m9 m10 k9 m11 m12 m13 hv, kI cI m7 5 ne] H := hP
        have hD : va_D A [kX7 m0 (nI z) m1 (nI r9) m2 m3 m4 m5 (nI n9) (nI v) m6 k1 k2 k3 (nI q9) m7 (nI (w9 ||| 2 ^ (d9 - 48))) (nI (s9 + 1)) (nI ((10 * x9) + (d9 - 48))) k8 m8 m9 m10 k9 m11 m12 m13 hv, kI cI m7 5 ne] := hD
        refine lv_aload_n hx hb dX7_takesEdge_140 rfl (lv_at hl 1 rfl) ?_
        refine va_get (D := D) (ci := 7) (v := .int (nI (s9 + 1))) (C := RX7) (T := TX7) (N := 27) hx hb hts iT_X7 hown hK1 hP 0 rfl rfl 16 (by decide) (hts _ t_567) (fun _ h9 => h9) rfl dX7_takesEdge_141 ?_
        refine lv_iconst (v := 3) hx hb dX7_takesEdge_144 (by decide) ?_
        refine lv_icmp_ne (tgt := 176) hx hb dX7_takesEdge_145 (by decide) (fun c_11 => ?_) (fun c_11 => ?_)
        rotate_left
        · exact absurd c_11 (fun q => absurd ((nI_eq (a := (s9 + 1)) (b := 3) (by omega) (by omega)).mp q) (by omega))
        refine lv_iconst (v := 1) hx hb dX7_takesEdge_176 (by decide) ?_
        exact hret _ _ _ _ _ _ 1 (nI q9, nI (w9 ||| 2 ^ (d9 - 48)), nI (s9 + 1), nI ((10 * x9) + (d9 - 48)), ne) dX7_takesEdge_177 rfl hS (Nat.le_of_ble_eq_true rfl) (Nat.le_of_ble_eq_true rfl) (by subst hs9; exact ⟨YN_y ((okE1_1 (q := q9) (by omega) (by omega)).mpr c_7), fun _ => ⟨q9, 2, w9 ||| 2 ^ (d9 - 48), rfl, rfl, rfl, TX_1 hX hhi (by decide) (by omega) hx9 ex9 ei9⟩⟩) (hP.sub [0, 1] rfl) (hD.sub [0, 1] rfl rfl)
      · skip
        have hs9 := st_2 hs2 c_10
        obtain ⟨x9, a9, hx9, ha9, -, ei9, ex9⟩ := hX.2.2.2.2.2.2.1 hs9
        refine lv_iload_n hx hb dX7_takesEdge_92 rfl (lv_at hl 0 rfl) ?_
        refine lv_aload_n hx hb dX7_takesEdge_93 rfl (lv_at hl 1 rfl) ?_
        refine va_get (D := D) (ci := 7) (v := .int k7) (C := RX7) (T := TX7) (N := 27) hx hb hts iT_X7 hown hK1 hP 0 rfl rfl 17 (by decide) (hts _ t_568) (fun _ h9 => h9) rfl dX7_takesEdge_94 ?_
        refine lv_nmi (show _ = (nI (10 * x9 + a9) : Int32) from ex9) ?_
        refine lv_bipush (v := 10) hx hb dX7_takesEdge_97 (by decide) ?_
        refine lv_irem hx hb dX7_takesEdge_99 (by decide) ?_
        refine lv_nmi (show _ = (nI a9 : Int32) from rem10 (by omega) (by omega)) ?_
        refine lv_icmp_ne (tgt := 105) hx hb dX7_takesEdge_100 (by decide) (fun c_12 => ?_) (fun c_12 => ?_)
        · skip
          have ew8 := or_shlx (d := 5) (k := d9 - 48) hw9 (by decide) (by omega)
          have ej9 := ei9
          have ei9 : pf i = nI (48 + (d9 - 48)) := by rw [ed9]; congr 1; omega
          refine lv_aload_n hx hb dX7_takesEdge_105 rfl (lv_at hl 1 rfl) ?_
          refine lv_bipush (v := 10) hx hb dX7_takesEdge_106 (by decide) ?_
          refine lv_aload_n hx hb dX7_takesEdge_108 rfl (lv_at hl 1 rfl) ?_
          refine va_get (D := D) (ci := 7) (v := .int k7) (C := RX7) (T := TX7) (N := 27) hx hb hts iT_X7 hown hK1 hP 0 rfl rfl 17 (by decide) (hts _ t_568) (fun _ h9 => h9) rfl dX7_takesEdge_109 ?_
          refine lv_nmi (show _ = (nI (10 * x9 + a9) : Int32) from ex9) ?_
          refine lv_imul hx hb dX7_takesEdge_112 ?_
          refine lv_nmi (show _ = (nI (10 * (10 * x9 + a9))) from pk_mul (10) ((10 * x9 + a9))) ?_
          refine lv_iload_n hx hb dX7_takesEdge_113 rfl (lv_at hl 0 rfl) ?_
          refine lv_iadd hx hb dX7_takesEdge_114 ?_
          refine lv_nmi (show _ = (nI ((10 * (10 * x9 + a9)) + (d9 - 48))) from nI_add ((10 * (10 * x9 + a9))) ((d9 - 48))) ?_
          refine va_put (D := D) (ci := 7) (v := .int (nI ((10 * (10 * x9 + a9)) + (d9 - 48)))) (ty := .int) (C := RX7) (T := TX7) (N := 27) hx hb hts iT_X7 tyX7 tyX7_ok nmX7 hown hK1 hP hD hS 0 rfl rfl 17 (by decide) (hts _ t_568) (fun _ h9 => h9) rfl (by decide +kernel) rfl rfl (Nat.le_of_ble_eq_true rfl) dX7_takesEdge_115 (fun H locs hP hD hS => ?_)
          have hP : va_P D vwCl [kX7 m0 (nI z) m1 (nI r9) m2 m3 m4 m5 (nI n9) (nI v) m6 k1 k2 k3 (nI q9) m7 (nI w9) (nI s9) (nI ((10 * (10 * x9 + a9)) + (d9 - 48))) k8 m8 m9 m10 k9 m11 m12 m13 hv, kI cI m7 5 ne] H := hP
          have hD : va_D A [kX7 m0 (nI z) m1 (nI r9) m2 m3 m4 m5 (nI n9) (nI v) m6 k1 k2 k3 (nI q9) m7 (nI w9) (nI s9) (nI ((10 * (10 * x9 + a9)) + (d9 - 48))) k8 m8 m9 m10 k9 m11 m12 m13 hv, kI cI m7 5 ne] := hD
          refine lv_aload_n hx hb dX7_takesEdge_118 rfl (lv_at hl 1 rfl) ?_
          refine lv_dup hx hb dX7_takesEdge_119 rfl ?_
          refine va_get (D := D) (ci := 7) (v := .int (nI w9)) (C := RX7) (T := TX7) (N := 27) hx hb hts iT_X7 hown hK1 hP 0 rfl rfl 15 (by decide) (hts _ t_566) (fun _ h9 => h9) rfl dX7_takesEdge_120 ?_
          refine lv_iconst (v := 1) hx hb dX7_takesEdge_123 (by decide) ?_
          refine lv_iload_n hx hb dX7_takesEdge_124 rfl (lv_at hl 0 rfl) ?_
          refine lv_ishl hx hb dX7_takesEdge_125 ?_
          refine lv_ior hx hb dX7_takesEdge_126 ?_
          refine lv_nmi (show _ = (nI (w9 ||| 2 ^ (d9 - 48)) : Int32) from ew8) ?_
          refine va_put (D := D) (ci := 7) (v := .int (nI (w9 ||| 2 ^ (d9 - 48)))) (ty := .int) (C := RX7) (T := TX7) (N := 27) hx hb hts iT_X7 tyX7 tyX7_ok nmX7 hown hK1 hP hD hS 0 rfl rfl 15 (by decide) (hts _ t_566) (fun _ h9 => h9) rfl (by decide +kernel) rfl rfl (Nat.le_of_ble_eq_true rfl) dX7_takesEdge_127 (fun H locs hP hD hS => ?_)
          have hP : va_P D vwCl [kX7 m0 (nI z) m1 (nI r9) m2 m3 m4 m5 (nI n9) (nI v) m6 k1 k2 k3 (nI q9) m7 (nI (w9 ||| 2 ^ (d9 - 48))) (nI s9) (nI ((10 * (10 * x9 + a9)) + (d9 - 48))) k8 m8 m9 m10 k9 m11 m12 m13 hv, kI cI m7 5 ne] H := hP
          have hD : va_D A [kX7 m0 (nI z) m1 (nI r9) m2 m3 m4 m5 (nI n9) (nI v) m6 k1 k2 k3 (nI q9) m7 (nI (w9 ||| 2 ^ (d9 - 48))) (nI s9) (nI ((10 * (10 * x9 + a9)) + (d9 - 48))) k8 m8 m9 m10 k9 m11 m12 m13 hv, kI cI m7 5 ne] := hD
          refine lv_aload_n hx hb dX7_takesEdge_130 rfl (lv_at hl 1 rfl) ?_
          refine lv_dup hx hb dX7_takesEdge_131 rfl ?_
          refine va_get (D := D) (ci := 7) (v := .int (nI s9)) (C := RX7) (T := TX7) (N := 27) hx hb hts iT_X7 hown hK1 hP 0 rfl rfl 16 (by decide) (hts _ t_567) (fun _ h9 => h9) rfl dX7_takesEdge_132 ?_
          refine lv_iconst (v := 1) hx hb dX7_takesEdge_135 (by decide) ?_
          refine lv_iadd hx hb dX7_takesEdge_136 ?_
          refine lv_nmi (show _ = (nI (s9 + 1)) from nI_add (s9) (1)) ?_
          refine va_put (D := D) (ci := 7) (v := .int (nI (s9 + 1))) (ty := .int) (C := RX7) (T := TX7) (N := 27) hx hb hts iT_X7 tyX7 tyX7_ok nmX7 hown hK1 hP hD hS 0 rfl rfl 16 (by decide) (hts _ t_567) (fun _ h9 => h9) rfl (by decide +kernel) rfl rfl (Nat.le_of_ble_eq_true rfl) dX7_takesEdge_137 (fun H locs hP hD hS => ?_)
          have hP : va_P D vwCl [kX7 m0 (nI z) m1 (nI r9) m2 m3 m4 m5 (nI n9) (nI v) m6 k1 k2 k3 (nI q9) m7 (nI (w9 ||| 2 ^ (d9 - 48))) (nI (s9 + 1)) (nI ((10 * (10 * x9 + a9)) + (d9 - 48))) k8 m8 m9 m10 k9 m11 m12 m13 hv, kI cI m7 5 ne] H := hP
          have hD : va_D A [kX7 m0 (nI z) m1 (nI r9) m2 m3 m4 m5 (nI n9) (nI v) m6 k1 k2 k3 (nI q9) m7 (nI (w9 ||| 2 ^ (d9 - 48))) (nI (s9 + 1)) (nI ((10 * (10 * x9 + a9)) + (d9 - 48))) k8 m8 m9 m10 k9 m11 m12 m13 hv, kI cI m7 5 ne] := hD
          refine lv_aload_n hx hb dX7_takesEdge_140 rfl (lv_at hl 1 rfl) ?_
          refine va_get (D := D) (ci := 7) (v := .int (nI (s9 + 1))) (C := RX7) (T := TX7) (N := 27) hx hb hts iT_X7 hown hK1 hP 0 rfl rfl 16 (by decide) (hts _ t_567) (fun _ h9 => h9) rfl dX7_takesEdge_141 ?_
          refine lv_iconst (v := 3) hx hb dX7_takesEdge_144 (by decide) ?_
          refine lv_icmp_ne (tgt := 176) hx hb dX7_takesEdge_145 (by decide) (fun c_13 => ?_) (fun c_13 => ?_)
          · exact absurd ((nI_eq (a := (s9 + 1)) (b := 3) (by omega) (by omega)).mpr (by omega)) c_13
          refine lv_aload_n hx hb dX7_takesEdge_148 rfl (lv_at hl 1 rfl) ?_
          refine va_get (D := D) (ci := 7) (v := .ref m7) (C := RX7) (T := TX7) (N := 27) hx hb hts iT_X7 hown hK1 hP 0 rfl rfl 14 (by decide) (hts _ t_565) (fun _ h9 => h9) rfl dX7_takesEdge_149 ?_
          refine lv_aload_n hx hb dX7_takesEdge_152 rfl (lv_at hl 1 rfl) ?_
          refine va_get (D := D) (ci := 7) (v := .int (nI q9)) (C := RX7) (T := TX7) (N := 27) hx hb hts iT_X7 hown hK1 hP 0 rfl rfl 13 (by decide) (hts _ t_564) (fun _ h9 => h9) rfl dX7_takesEdge_153 ?_
          refine lv_aload_n hx hb dX7_takesEdge_156 rfl (lv_at hl 1 rfl) ?_
          refine va_get (D := D) (ci := 7) (v := .int (nI ((10 * (10 * x9 + a9)) + (d9 - 48)))) (C := RX7) (T := TX7) (N := 27) hx hb hts iT_X7 hown hK1 hP 0 rfl rfl 17 (by decide) (hts _ t_568) (fun _ h9 => h9) rfl dX7_takesEdge_157 ?_
          refine va_iast hx hb hK1 hP hD hS 1 0 rfl rfl (vp_in_nI (by omega) (by omega)) dX7_takesEdge_160 (fun H locs hP hD hS => ?_)
          rw [nI_clamp (n := q9) (by omega)] at hP hD
          have hP : va_P D vwCl [kX7 m0 (nI z) m1 (nI r9) m2 m3 m4 m5 (nI n9) (nI v) m6 k1 k2 k3 (nI q9) m7 (nI (w9 ||| 2 ^ (d9 - 48))) (nI (s9 + 1)) (nI ((10 * (10 * x9 + a9)) + (d9 - 48))) k8 m8 m9 m10 k9 m11 m12 m13 hv, kI cI m7 5 (upd ne q9 (nI ((10 * (10 * x9 + a9)) + (d9 - 48))))] H := hP
          have hD : va_D A [kX7 m0 (nI z) m1 (nI r9) m2 m3 m4 m5 (nI n9) (nI v) m6 k1 k2 k3 (nI q9) m7 (nI (w9 ||| 2 ^ (d9 - 48))) (nI (s9 + 1)) (nI ((10 * (10 * x9 + a9)) + (d9 - 48))) k8 m8 m9 m10 k9 m11 m12 m13 hv, kI cI m7 5 (upd ne q9 (nI ((10 * (10 * x9 + a9)) + (d9 - 48))))] := hD
          refine lv_aload_n hx hb dX7_takesEdge_161 rfl (lv_at hl 1 rfl) ?_
          refine lv_dup hx hb dX7_takesEdge_162 rfl ?_
          refine va_get (D := D) (ci := 7) (v := .int (nI q9)) (C := RX7) (T := TX7) (N := 27) hx hb hts iT_X7 hown hK1 hP 0 rfl rfl 13 (by decide) (hts _ t_564) (fun _ h9 => h9) rfl dX7_takesEdge_163 ?_
          refine lv_iconst (v := 1) hx hb dX7_takesEdge_166 (by decide) ?_
          refine lv_iadd hx hb dX7_takesEdge_167 ?_
          refine lv_nmi (show _ = (nI (q9 + 1)) from nI_add (q9) (1)) ?_
          refine va_put (D := D) (ci := 7) (v := .int (nI (q9 + 1))) (ty := .int) (C := RX7) (T := TX7) (N := 27) hx hb hts iT_X7 tyX7 tyX7_ok nmX7 hown hK1 hP hD hS 0 rfl rfl 13 (by decide) (hts _ t_564) (fun _ h9 => h9) rfl (by decide +kernel) rfl rfl (Nat.le_of_ble_eq_true rfl) dX7_takesEdge_168 (fun H locs hP hD hS => ?_)
          have hP : va_P D vwCl [kX7 m0 (nI z) m1 (nI r9) m2 m3 m4 m5 (nI n9) (nI v) m6 k1 k2 k3 (nI (q9 + 1)) m7 (nI (w9 ||| 2 ^ (d9 - 48))) (nI (s9 + 1)) (nI ((10 * (10 * x9 + a9)) + (d9 - 48))) k8 m8 m9 m10 k9 m11 m12 m13 hv, kI cI m7 5 (upd ne q9 (nI ((10 * (10 * x9 + a9)) + (d9 - 48))))] H := hP
          have hD : va_D A [kX7 m0 (nI z) m1 (nI r9) m2 m3 m4 m5 (nI n9) (nI v) m6 k1 k2 k3 (nI (q9 + 1)) m7 (nI (w9 ||| 2 ^ (d9 - 48))) (nI (s9 + 1)) (nI ((10 * (10 * x9 + a9)) + (d9 - 48))) k8 m8 m9 m10 k9 m11 m12 m13 hv, kI cI m7 5 (upd ne q9 (nI ((10 * (10 * x9 + a9)) + (d9 - 48))))] := hD
          refine lv_aload_n hx hb dX7_takesEdge_171 rfl (lv_at hl 1 rfl) ?_
          refine lv_iconst (v := 0) hx hb dX7_takesEdge_172 (by decide) ?_
          refine va_put (D := D) (ci := 7) (v := .int 0) (ty := .int) (C := RX7) (T := TX7) (N := 27) hx hb hts iT_X7 tyX7 tyX7_ok nmX7 hown hK1 hP hD hS 0 rfl rfl 16 (by decide) (hts _ t_567) (fun _ h9 => h9) rfl (by decide +kernel) rfl rfl (Nat.le_of_ble_eq_true rfl) dX7_takesEdge_173 (fun H locs hP hD hS => ?_)
          have hP : va_P D vwCl [kX7 m0 (nI z) m1 (nI r9) m2 m3 m4 m5 (nI n9) (nI v) m6 k1 k2 k3 (nI (q9 + 1)) m7 (nI (w9 ||| 2 ^ (d9 - 48))) 0 (nI ((10 * (10 * x9 + a9)) + (d9 - 48))) k8 m8 m9 m10 k9 m11 m12 m13 hv, kI cI m7 5 (upd ne q9 (nI ((10 * (10 * x9 + a9)) + (d9 - 48))))] H := hP
          have hD : va_D A [kX7 m0 (nI z) m1 (nI r9) m2 m3 m4 m5 (nI n9) (nI v) m6 k1 k2 k3 (nI (q9 + 1)) m7 (nI (w9 ||| 2 ^ (d9 - 48))) 0 (nI ((10 * (10 * x9 + a9)) + (d9 - 48))) k8 m8 m9 m10 k9 m11 m12 m13 hv, kI cI m7 5 (upd ne q9 (nI ((10 * (10 * x9 + a9)) + (d9 - 48))))] := hD
          refine lv_iconst (v := 1) hx hb dX7_takesEdge_176 (by decide) ?_
          exact hret _ _ _ _ _ _ 1 (nI (q9 + 1), nI (w9 ||| 2 ^ (d9 - 48)), 0, nI ((10 * (10 * x9 + a9)) + (d9 - 48)), upd ne q9 (nI ((10 * (10 * x9 + a9)) + (d9 - 48)))) dX7_takesEdge_177 rfl hS (Nat.le_of_ble_eq_true rfl) (Nat.le_of_ble_eq_true rfl) (by subst hs9; exact ⟨YN_y ((okE1_2 (q := q9) (by omega) (by omega)).mpr ⟨c_7, fun q => c_12 (by rw [ed9, ej9] at q; have := (nI_eq (by omega) (by omega)).mp q; rw [this]; congr 1; omega)⟩), fun _ => ⟨q9 + 1, 0, w9 ||| 2 ^ (d9 - 48), rfl, rfl, rfl, TX_2 hX hhi (by decide) ha9 (by omega) hx9 ex9 ei9 (fun q => c_12 (by rw [q]))⟩⟩) (hP.sub [0, 1] rfl) (hD.sub [0, 1] rfl rfl)
        · skip
          refine lv_iconst (v := 0) hx hb dX7_takesEdge_103 (by decide) ?_
          exact hret _ _ _ _ _ _ 0 (nI q9, nI w9, nI s9, k7, ne) dX7_takesEdge_104 rfl hS (Nat.le_of_ble_eq_true rfl) (Nat.le_of_ble_eq_true rfl) (by subst hs9; exact ⟨YN_n (fun q => ((okE1_2 (q := q9) (by omega) (by omega)).mp q).2 (by rw [ed9, ei9]; have := (nI_eq (by omega) (by omega)).mp c_12; rw [← this, show 48 + (d9 - 48) = d9 by omega])), fun q => absurd rfl q⟩) (hP.sub [0, 1] rfl) (hD.sub [0, 1] rfl rfl)
  · skip
    refine lv_iload_n hx hb dX7_takesEdge_7 rfl (lv_at hl 1 rfl) ?_
    refine lv_iload_n hx hb dX7_takesEdge_8 rfl (lv_at hl 2 rfl) ?_
    refine xc_i (wc := []) (wr := [kX7 m0 (nI z) m1 (nI r9) m2 m3 m4 m5 (nI n9) (nI v) m6 k1 k2 k3 (nI q9) m7 (nI w9) (nI s9) k7 k8 m8 m9 m10 k9 m11 m12 m13 hv, kI cI m7 5 ne]) (xrS (n := 2) (As := [.int (pf i), .int 1]) (rest := []) hd hK hP hD (g_letterAt_1 l D cI cJ cZ cR _ (pf i) ) (gS t_660 mS_X7_letterAt) hS_X7_letterAt ⟨(Nat.le_of_ble_eq_true rfl), (Nat.le_of_ble_eq_true rfl)⟩ [] rfl rfl rfl hl.1 rfl (Nat.le_of_ble_eq_true rfl) dX7_takesEdge_9 ⟨(Nat.le_of_ble_eq_true rfl), (Nat.le_of_ble_eq_true rfl)⟩) hP hD hS hA [] [0, 1] rfl rfl rfl (by decide) (fun r_14 u_15 H locs hw_16 hP hD hS => ?_)
    have hw_17 : r_14 = (lA1 (pf i)) := hw_16
    subst hw_17
    have hP : va_P D vwCl [kX7 m0 (nI z) m1 (nI r9) m2 m3 m4 m5 (nI n9) (nI v) m6 k1 k2 k3 (nI q9) m7 (nI w9) (nI s9) k7 k8 m8 m9 m10 k9 m11 m12 m13 hv, kI cI m7 5 ne] H := hP
    have hD : va_D A [kX7 m0 (nI z) m1 (nI r9) m2 m3 m4 m5 (nI n9) (nI v) m6 k1 k2 k3 (nI q9) m7 (nI w9) (nI s9) k7 k8 m8 m9 m10 k9 m11 m12 m13 hv, kI cI m7 5 ne] := hD
    refine lv_istore_n (lv' := [(3, .int (lA1 (pf i))), (0, .ref m0), (1, .int (pf i)), (2, .int 1)]) hx hb dX7_takesEdge_12 rfl hl (by decide) rfl (fun ls hl => ?_)
    refine lv_aload_n hx hb dX7_takesEdge_13 rfl (lv_at hl 1 rfl) ?_
    refine lv_iload_n hx hb dX7_takesEdge_14 rfl (lv_at hl 0 rfl) ?_
    refine va_put (D := D) (ci := 7) (v := .int (lA1 (pf i))) (ty := .int) (C := RX7) (T := TX7) (N := 27) hx hb hts iT_X7 tyX7 tyX7_ok nmX7 hown hK1 hP hD hS 0 rfl rfl 17 (by decide) (hts _ t_568) (fun _ h9 => h9) rfl (by decide +kernel) rfl rfl (Nat.le_of_ble_eq_true rfl) dX7_takesEdge_15 (fun H locs hP hD hS => ?_)
    have hP : va_P D vwCl [kX7 m0 (nI z) m1 (nI r9) m2 m3 m4 m5 (nI n9) (nI v) m6 k1 k2 k3 (nI q9) m7 (nI w9) (nI s9) (lA1 (pf i)) k8 m8 m9 m10 k9 m11 m12 m13 hv, kI cI m7 5 ne] H := hP
    have hD : va_D A [kX7 m0 (nI z) m1 (nI r9) m2 m3 m4 m5 (nI n9) (nI v) m6 k1 k2 k3 (nI q9) m7 (nI w9) (nI s9) (lA1 (pf i)) k8 m8 m9 m10 k9 m11 m12 m13 hv, kI cI m7 5 ne] := hD
    refine lv_aload_n hx hb dX7_takesEdge_18 rfl (lv_at hl 1 rfl) ?_
    refine lv_iconst (v := 1) hx hb dX7_takesEdge_19 (by decide) ?_
    refine va_put (D := D) (ci := 7) (v := .int 1) (ty := .int) (C := RX7) (T := TX7) (N := 27) hx hb hts iT_X7 tyX7 tyX7_ok nmX7 hown hK1 hP hD hS 0 rfl rfl 16 (by decide) (hts _ t_567) (fun _ h9 => h9) rfl (by decide +kernel) rfl rfl (Nat.le_of_ble_eq_true rfl) dX7_takesEdge_20 (fun H locs hP hD hS => ?_)
    have hP : va_P D vwCl [kX7 m0 (nI z) m1 (nI r9) m2 m3 m4 m5 (nI n9) (nI v) m6 k1 k2 k3 (nI q9) m7 (nI w9) 1 (lA1 (pf i)) k8 m8 m9 m10 k9 m11 m12 m13 hv, kI cI m7 5 ne] H := hP
    have hD : va_D A [kX7 m0 (nI z) m1 (nI r9) m2 m3 m4 m5 (nI n9) (nI v) m6 k1 k2 k3 (nI q9) m7 (nI w9) 1 (lA1 (pf i)) k8 m8 m9 m10 k9 m11 m12 m13 hv, kI cI m7 5 ne] := hD
    refine lv_iload_n hx hb dX7_takesEdge_23 rfl (lv_at hl 0 rfl) ?_
    refine lv_iconst (v := -1) hx hb dX7_takesEdge_24 (by decide) ?_
    refine lv_icmp_eq (tgt := 48) hx hb dX7_takesEdge_25 (by decide) (fun c_18 => ?_) (fun c_18 => ?_)
    · skip
      refine lv_iconst (v := 0) hx hb dX7_takesEdge_48 (by decide) ?_
      exact hret _ _ _ _ _ _ 0 (nI q9, nI w9, 1, lA1 (pf i), ne) dX7_takesEdge_49 rfl hS (Nat.le_of_ble_eq_true rfl) (Nat.le_of_ble_eq_true rfl) (by have hs0 : s9 = 0 := (nI_eq (b := 0) (by omega) (by decide)).mp c_1; subst hs0; exact ⟨YN_n (fun q => ((okE1_0 (q := q9) (by omega)).mp q).1 c_18), fun q => absurd rfl q⟩) (hP.sub [0, 1] rfl) (hD.sub [0, 1] rfl rfl)
    · skip
      refine lv_aload_n hx hb dX7_takesEdge_28 rfl (lv_at hl 1 rfl) ?_
      refine va_get (D := D) (ci := 7) (v := .int (nI q9)) (C := RX7) (T := TX7) (N := 27) hx hb hts iT_X7 hown hK1 hP 0 rfl rfl 13 (by decide) (hts _ t_564) (fun _ h9 => h9) rfl dX7_takesEdge_29 ?_
      refine lv_iload_n hx hb dX7_takesEdge_32 rfl (lv_at hl 3 rfl) ?_
      refine lv_if_eq (tgt := 40) hx hb dX7_takesEdge_33 (by decide) (fun c_19 => ?_) (fun c_19 => ?_)
      · exact absurd c_19 (by decide)
      refine lv_iconst (v := 5) hx hb dX7_takesEdge_36 (by decide) ?_
      refine lv_goto (tgt := 41) hx hb dX7_takesEdge_37 (by decide) ?_
      refine lv_icmp_ge (tgt := 48) hx hb dX7_takesEdge_41 (by decide) (fun c_20 => ?_) (fun c_20 => ?_)
      · skip
        refine lv_iconst (v := 0) hx hb dX7_takesEdge_48 (by decide) ?_
        exact hret _ _ _ _ _ _ 0 (nI q9, nI w9, 1, lA1 (pf i), ne) dX7_takesEdge_49 rfl hS (Nat.le_of_ble_eq_true rfl) (Nat.le_of_ble_eq_true rfl) (by have hs0 : s9 = 0 := (nI_eq (b := 0) (by omega) (by decide)).mp c_1; subst hs0; exact ⟨YN_n (fun q => absurd ((okE1_0 (q := q9) (by omega)).mp q).2 (by have := leN (a := 5) (b := q9) (by omega) (by decide) c_20; omega)), fun q => absurd rfl q⟩) (hP.sub [0, 1] rfl) (hD.sub [0, 1] rfl rfl)
      · skip
        refine lv_iconst (v := 1) hx hb dX7_takesEdge_44 (by decide) ?_
        refine lv_goto (tgt := 49) hx hb dX7_takesEdge_45 (by decide) ?_
        exact hret _ _ _ _ _ _ 1 (nI q9, nI w9, 1, lA1 (pf i), ne) dX7_takesEdge_49 rfl hS (Nat.le_of_ble_eq_true rfl) (Nat.le_of_ble_eq_true rfl) (by have hs0 : s9 = 0 := (nI_eq (b := 0) (by omega) (by decide)).mp c_1; subst hs0; obtain ⟨el8, en8⟩ := lA1_y c_18; obtain ⟨k8, hk8, ek8⟩ := cL_k (fun q => en8 (by rw [q]; decide)); rw [el8, ek8]; exact ⟨YN_y ((okE1_0 (q := q9) (by omega)).mpr ⟨c_18, (ltN (b := 5) (by decide) (by omega) (Int32.not_le.mp c_20))⟩), fun _ => ⟨q9, 1, w9, rfl, rfl, rfl, TX_0 hX hhi hk8 ek8 (ltN (b := 5) (by decide) (by omega) (Int32.not_le.mp c_20))⟩⟩) (hP.sub [0, 1] rfl) (hD.sub [0, 1] rfl rfl)
set_option maxHeartbeats 4000000 in
set_option maxRecDepth 100000 in
theorem g_takes_0 (sz : Nat) (m0 : Nat) (m1 : Nat) (m2 : Nat) (m3 : Nat) (m4 : Nat) (m5 : Nat) (m6 : Nat) (m7 : Nat) (m8 : Nat) (m9 : Nat) (m10 : Nat) (m11 : Nat) (m12 : Nat) (m13 : Nat) (z : Nat) (r9 : Nat) (n9 : Nat) (v : Nat) (k1 : Int32) (k2 : Int32) (k3 : Int32) (k7 : Int32) (k8 : Int32) (k9 : Int32) (hv : Int64) (q9 : Nat) (s9 : Nat) (w9 : Nat) (ne : Nat → Int32) (pf : Nat → Int32) (i : Nat) (hX : TX 2 3 4 pf i q9 s9 w9 k7 ne) (hi16 : i < 16) : CTi l D cI cJ cZ cR yX7_takes cX7_takes 4 (some .boolean) 3 66 0 0 sz [.ref m0, .int (pf i), .int (nI i), .int 0] [kX7 m0 (nI z) m1 (nI r9) m2 m3 m4 m5 (nI n9) (nI v) m6 k1 k2 k3 (nI q9) m7 (nI w9) (nI s9) k7 k8 m8 m9 m10 k9 m11 m12 m13 hv, kI cI m7 5 ne] (fun (r : Int32) (u : Int32 × Int32 × Int32 × Int32 × (Nat → Int32)) => (YN r (okF0 pf i)) ∧ (¬ r = 0 → TXo 2 3 4 pf (i + 1) u.1 u.2.2.1 u.2.1 u.2.2.2.1 u.2.2.2.2)) (fun (u : Int32 × Int32 × Int32 × Int32 × (Nat → Int32)) => [kX7 m0 (nI z) m1 (nI r9) m2 m3 m4 m5 (nI n9) (nI v) m6 k1 k2 k3 u.1 m7 u.2.1 u.2.2.1 u.2.2.2.1 k8 m8 m9 m10 k9 m11 m12 m13 hv, kI cI m7 5 u.2.2.2.2]) := by
  refine CTi.of (ty := .boolean) (by decide) (Nat.le_of_ble_eq_true rfl) rfl ?_
  intro p e s m below meth c A Q ls hd hin hK hsz hP hD hA hS hl hret
  obtain ⟨hx, hb, hml, hown, hts⟩ := id hd
  have hK1 := hK.1
  have hown : s.vm.findClass RX7 = some m.cls := hown
  have hl : lv_has ls 4 [(0, .ref m0), (1, .int (pf i)), (2, .int (nI i)), (3, .int 0)] := hl
  refine lv_iload_n hx hb dX7_takes_0 rfl (lv_at hl 3 rfl) ?_
  refine lv_if_ne (tgt := 36) hx hb dX7_takes_1 (by decide) (fun c_1 => ?_) (fun c_1 => ?_)
  · exact absurd c_1 (by decide)
  refine lv_iload_n hx hb dX7_takes_4 rfl (lv_at hl 2 rfl) ?_
  refine lv_iconst (v := 2) hx hb dX7_takes_5 (by decide) ?_
  refine lv_icmp_ge (tgt := 36) hx hb dX7_takes_6 (by decide) (fun c_2 => ?_) (fun c_2 => ?_)
  · skip
    refine lv_aload_n hx hb dX7_takes_36 rfl (lv_at hl 0 rfl) ?_
    refine lv_iload_n hx hb dX7_takes_37 rfl (lv_at hl 1 rfl) ?_
    refine lv_iload_n hx hb dX7_takes_38 rfl (lv_at hl 3 rfl) ?_
    refine xc_i (wc := [kX7 m0 (nI z) m1 (nI r9) m2 m3 m4 m5 (nI n9) (nI v) m6 k1 k2 k3 (nI q9) m7 (nI w9) (nI s9) k7 k8 m8 m9 m10 k9 m11 m12 m13 hv, kI cI m7 5 ne]) (wr := []) (xrV (n := 2) (As := [.int (pf i), .int 0]) (rest := []) (ci := 7) (q0 := 0) hd hK hP hD (g_takesEdge_0 l D cI cJ cZ cR _ m0 m1 m2 m3 m4 m5 m6 m7 m8 m9 m10 m11 m12 m13 z r9 n9 v k1 k2 k3 k7 k8 k9 hv q9 s9 w9 ne pf i hX (leN (a := 2) (b := i) (by omega) (by decide) c_2)) (gV t_656 mV_X7_takesEdge) hV_X7_takesEdge ⟨(Nat.le_of_ble_eq_true rfl), (Nat.le_of_ble_eq_true rfl)⟩ rfl rfl [0, 1] rfl rfl rfl hl.1 rfl (Nat.le_of_ble_eq_true rfl) dX7_takes_39 ⟨(Nat.le_of_ble_eq_true rfl), (Nat.le_of_ble_eq_true rfl)⟩) hP hD hS hA [0, 1] [] rfl rfl rfl (by decide) (fun r_3 u_4 H locs hw_5 hP hD hS => ?_)
    obtain ⟨k4b_6, k5b_7, k6b_8, k7b_9, ne2_10⟩ := u_4
    obtain ⟨hw_11, hw_12⟩ : (YN r_3 (okF0 pf i)) ∧ (¬ r_3 = 0 → TXo 2 3 4 pf (i + 1) k4b_6 k6b_8 k5b_7 k7b_9 ne2_10) := hw_5
    have hP : va_P D vwCl [kX7 m0 (nI z) m1 (nI r9) m2 m3 m4 m5 (nI n9) (nI v) m6 k1 k2 k3 k4b_6 m7 k5b_7 k6b_8 k7b_9 k8 m8 m9 m10 k9 m11 m12 m13 hv, kI cI m7 5 ne2_10] H := hP
    have hD : va_D A [kX7 m0 (nI z) m1 (nI r9) m2 m3 m4 m5 (nI n9) (nI v) m6 k1 k2 k3 k4b_6 m7 k5b_7 k6b_8 k7b_9 k8 m8 m9 m10 k9 m11 m12 m13 hv, kI cI m7 5 ne2_10] := hD
    exact hret _ _ _ _ _ _ r_3 (k4b_6, k5b_7, k6b_8, k7b_9, ne2_10) dX7_takes_42 (nar_01 hw_11.b01) hS (Nat.le_of_ble_eq_true rfl) (Nat.le_of_ble_eq_true rfl) ⟨hw_11, hw_12⟩ (hP.sub [0, 1] rfl) (hD.sub [0, 1] rfl rfl)
  · skip
    refine lv_iload_n hx hb dX7_takes_9 rfl (lv_at hl 2 rfl) ?_
    refine lv_if_ne (tgt := 24) hx hb dX7_takes_10 (by decide) (fun c_13 => ?_) (fun c_13 => ?_)
    · skip
      refine lv_iload_n hx hb dX7_takes_24 rfl (lv_at hl 1 rfl) ?_
      refine lv_bipush (v := 61) hx hb dX7_takes_25 (by decide) ?_
      refine lv_icmp_ne (tgt := 34) hx hb dX7_takes_27 (by decide) (fun c_14 => ?_) (fun c_14 => ?_)
      · skip
        refine lv_iconst (v := 0) hx hb dX7_takes_34 (by decide) ?_
        exact hret _ _ _ _ _ _ 0 (nI q9, nI w9, nI s9, k7, ne) dX7_takes_35 rfl hS (Nat.le_of_ble_eq_true rfl) (Nat.le_of_ble_eq_true rfl) (by have hi1 : i = 1 := (by have := nleN (a := 2) (b := i) (by omega) (by decide) c_2; have := s9_ne c_13; omega); subst hi1; exact ⟨YN_n (fun q => c_14 (okH1.mp q)), fun q => absurd rfl q⟩) (hP.sub [0, 1] rfl) (hD.sub [0, 1] rfl rfl)
      · skip
        refine lv_iconst (v := 1) hx hb dX7_takes_30 (by decide) ?_
        refine lv_goto (tgt := 35) hx hb dX7_takes_31 (by decide) ?_
        exact hret _ _ _ _ _ _ 1 (nI q9, nI w9, nI s9, k7, ne) dX7_takes_35 rfl hS (Nat.le_of_ble_eq_true rfl) (Nat.le_of_ble_eq_true rfl) (by have hi1 : i = 1 := (by have := nleN (a := 2) (b := i) (by omega) (by decide) c_2; have := s9_ne c_13; omega); subst hi1; exact ⟨YN_y (okH1.mpr c_14), fun _ => ⟨q9, s9, w9, rfl, rfl, rfl, TX_h hX (by decide) (nd_61 c_14)⟩⟩) (hP.sub [0, 1] rfl) (hD.sub [0, 1] rfl rfl)
    · skip
      refine lv_iload_n hx hb dX7_takes_13 rfl (lv_at hl 1 rfl) ?_
      refine lv_bipush (v := 65) hx hb dX7_takes_14 (by decide) ?_
      refine lv_bipush (v := 67) hx hb dX7_takes_16 (by decide) ?_
      refine xc_i (wc := []) (wr := [kX7 m0 (nI z) m1 (nI r9) m2 m3 m4 m5 (nI n9) (nI v) m6 k1 k2 k3 (nI q9) m7 (nI w9) (nI s9) k7 k8 m8 m9 m10 k9 m11 m12 m13 hv, kI cI m7 5 ne]) (xrS (n := 3) (As := [.int (pf i), .int 65, .int 67]) (rest := []) hd hK hP hD (c_X7_within l D cI cJ cZ cR _ (pf i) 65 67 ) (gS t_637 mS_X7_within) hS_X7_within ⟨(Nat.le_of_ble_eq_true rfl), (Nat.le_of_ble_eq_true rfl)⟩ [] rfl rfl rfl hl.1 rfl (Nat.le_of_ble_eq_true rfl) dX7_takes_18 ⟨(Nat.le_of_ble_eq_true rfl), (Nat.le_of_ble_eq_true rfl)⟩) hP hD hS hA [] [0, 1] rfl rfl rfl (by decide) (fun r_15 u_16 H locs hw_17 hP hD hS => ?_)
      have hw_18 : r_15 = (wi (pf i) 65 67) := hw_17
      subst hw_18
      have hP : va_P D vwCl [kX7 m0 (nI z) m1 (nI r9) m2 m3 m4 m5 (nI n9) (nI v) m6 k1 k2 k3 (nI q9) m7 (nI w9) (nI s9) k7 k8 m8 m9 m10 k9 m11 m12 m13 hv, kI cI m7 5 ne] H := hP
      have hD : va_D A [kX7 m0 (nI z) m1 (nI r9) m2 m3 m4 m5 (nI n9) (nI v) m6 k1 k2 k3 (nI q9) m7 (nI w9) (nI s9) k7 k8 m8 m9 m10 k9 m11 m12 m13 hv, kI cI m7 5 ne] := hD
      refine lv_goto (tgt := 35) hx hb dX7_takes_21 (by decide) ?_
      exact hret _ _ _ _ _ _ (wi (pf i) 65 67) (nI q9, nI w9, nI s9, k7, ne) dX7_takes_35 (nar_01 (wi_01 _ _ _)) hS (Nat.le_of_ble_eq_true rfl) (Nat.le_of_ble_eq_true rfl) (by have hi0 : i = 0 := (nI_eq (b := 0) (by omega) (by decide)).mp c_13; subst hi0; exact ⟨YN_wi okH0, fun q => ⟨q9, s9, w9, rfl, rfl, rfl, TX_h hX (by decide) (nd_65 q)⟩⟩) (hP.sub [0, 1] rfl) (hD.sub [0, 1] rfl rfl)
set_option maxHeartbeats 4000000 in
set_option maxRecDepth 100000 in
theorem g_read_0 (sz : Nat) (m0 : Nat) (m1 : Nat) (m2 : Nat) (m3 : Nat) (m4 : Nat) (m5 : Nat) (m6 : Nat) (m7 : Nat) (m8 : Nat) (m9 : Nat) (m10 : Nat) (m11 : Nat) (m12 : Nat) (m13 : Nat) (z : Nat) (r9 : Nat) (n9 : Nat) (v : Nat) (k1 : Int32) (k2 : Int32) (k3 : Int32) (k4 : Int32) (k5 : Int32) (k6 : Int32) (k7 : Int32) (k8 : Int32) (k9 : Int32) (hv : Int64) (pf : Nat → Int32) (ne : Nat → Int32) (hz : z ≤ 16) : CTi l D cI cJ cZ cR yX7_read cX7_read 3 (some .int) 4 89 0 0 sz [.ref m0, .int 0] [kX7 m0 (nI z) m1 (nI r9) m2 m3 m4 m5 (nI n9) (nI v) m6 k1 k2 k3 k4 m7 k5 k6 k7 k8 m8 m9 m10 k9 m11 m12 m13 hv, kI cI m1 16 pf, kI cI m7 5 ne] (fun (r : Int32) (u : Int32 × Int32 × Int32 × Int32 × (Nat → Int32) × Nat) => (r = (nI u.2.2.2.2.2)) ∧ (FF (okF0 pf) z u.2.2.2.2.2) ∧ (u.2.2.2.2.2 = z → TXo 2 3 4 pf z u.1 u.2.2.1 u.2.1 u.2.2.2.1 u.2.2.2.2.1)) (fun (u : Int32 × Int32 × Int32 × Int32 × (Nat → Int32) × Nat) => [kX7 m0 (nI z) m1 (nI r9) m2 m3 m4 m5 (nI n9) (nI v) m6 k1 k2 k3 u.1 m7 u.2.1 u.2.2.1 u.2.2.2.1 k8 m8 m9 m10 k9 m11 m12 m13 hv, kI cI m1 16 pf, kI cI m7 5 u.2.2.2.2.1]) := by
  refine CTi.of (ty := .int) (by decide) (Nat.le_of_ble_eq_true rfl) rfl ?_
  intro p e s m below meth c A Q ls hd hin hK hsz hP hD hA hS hl hret
  obtain ⟨hx, hb, hml, hown, hts⟩ := id hd
  have hK1 := hK.1
  have hown : s.vm.findClass RX7 = some m.cls := hown
  have hl : lv_has ls 3 [(0, .ref m0), (1, .int 0)] := hl
  refine lv_aload_n hx hb dX7_read_0 rfl (lv_at hl 0 rfl) ?_
  refine lv_iconst (v := 0) hx hb dX7_read_1 (by decide) ?_
  refine va_put (D := D) (ci := 7) (v := .int 0) (ty := .int) (C := RX7) (T := TX7) (N := 27) hx hb hts iT_X7 tyX7 tyX7_ok nmX7 hown hK1 hP hD hS 0 rfl rfl 13 (by decide) (hts _ t_564) (fun _ h9 => h9) rfl (by decide +kernel) rfl rfl (Nat.le_of_ble_eq_true rfl) dX7_read_2 (fun H locs hP hD hS => ?_)
  have hP : va_P D vwCl [kX7 m0 (nI z) m1 (nI r9) m2 m3 m4 m5 (nI n9) (nI v) m6 k1 k2 k3 0 m7 k5 k6 k7 k8 m8 m9 m10 k9 m11 m12 m13 hv, kI cI m1 16 pf, kI cI m7 5 ne] H := hP
  have hD : va_D A [kX7 m0 (nI z) m1 (nI r9) m2 m3 m4 m5 (nI n9) (nI v) m6 k1 k2 k3 0 m7 k5 k6 k7 k8 m8 m9 m10 k9 m11 m12 m13 hv, kI cI m1 16 pf, kI cI m7 5 ne] := hD
  refine lv_aload_n hx hb dX7_read_5 rfl (lv_at hl 0 rfl) ?_
  refine lv_iconst (v := 0) hx hb dX7_read_6 (by decide) ?_
  refine va_put (D := D) (ci := 7) (v := .int 0) (ty := .int) (C := RX7) (T := TX7) (N := 27) hx hb hts iT_X7 tyX7 tyX7_ok nmX7 hown hK1 hP hD hS 0 rfl rfl 15 (by decide) (hts _ t_566) (fun _ h9 => h9) rfl (by decide +kernel) rfl rfl (Nat.le_of_ble_eq_true rfl) dX7_read_7 (fun H locs hP hD hS => ?_)
  have hP : va_P D vwCl [kX7 m0 (nI z) m1 (nI r9) m2 m3 m4 m5 (nI n9) (nI v) m6 k1 k2 k3 0 m7 0 k6 k7 k8 m8 m9 m10 k9 m11 m12 m13 hv, kI cI m1 16 pf, kI cI m7 5 ne] H := hP
  have hD : va_D A [kX7 m0 (nI z) m1 (nI r9) m2 m3 m4 m5 (nI n9) (nI v) m6 k1 k2 k3 0 m7 0 k6 k7 k8 m8 m9 m10 k9 m11 m12 m13 hv, kI cI m1 16 pf, kI cI m7 5 ne] := hD
  refine lv_aload_n hx hb dX7_read_10 rfl (lv_at hl 0 rfl) ?_
  refine lv_iconst (v := 0) hx hb dX7_read_11 (by decide) ?_
  refine va_put (D := D) (ci := 7) (v := .int 0) (ty := .int) (C := RX7) (T := TX7) (N := 27) hx hb hts iT_X7 tyX7 tyX7_ok nmX7 hown hK1 hP hD hS 0 rfl rfl 16 (by decide) (hts _ t_567) (fun _ h9 => h9) rfl (by decide +kernel) rfl rfl (Nat.le_of_ble_eq_true rfl) dX7_read_12 (fun H locs hP hD hS => ?_)
  have hP : va_P D vwCl [kX7 m0 (nI z) m1 (nI r9) m2 m3 m4 m5 (nI n9) (nI v) m6 k1 k2 k3 0 m7 0 0 k7 k8 m8 m9 m10 k9 m11 m12 m13 hv, kI cI m1 16 pf, kI cI m7 5 ne] H := hP
  have hD : va_D A [kX7 m0 (nI z) m1 (nI r9) m2 m3 m4 m5 (nI n9) (nI v) m6 k1 k2 k3 0 m7 0 0 k7 k8 m8 m9 m10 k9 m11 m12 m13 hv, kI cI m1 16 pf, kI cI m7 5 ne] := hD
  refine lv_iconst (v := 0) hx hb dX7_read_15 (by decide) ?_
  refine lv_istore_n (lv' := [(2, .int 0), (0, .ref m0), (1, .int 0)]) hx hb dX7_read_16 rfl hl (by decide) rfl (fun ls hl => ?_)
  have LOOP_17 : ∀ (n : Nat) (i : Nat) (qa : Nat) (sa : Nat) (wa : Nat) (ka : Int32) (na2 : Nat → Int32), (i + n = z) → (TX 2 3 4 pf i qa sa wa ka na2) → (∀ j, j < i → okF0 pf j) → ∀ (H : Heap) (locs : List Loc) (ls : Array Slot), va_P D vwCl [kX7 m0 (nI z) m1 (nI r9) m2 m3 m4 m5 (nI n9) (nI v) m6 k1 k2 k3 (nI qa) m7 (nI wa) (nI sa) ka k8 m8 m9 m10 k9 m11 m12 m13 hv, kI cI m1 16 pf, kI cI m7 5 na2] H → va_D A [kX7 m0 (nI z) m1 (nI r9) m2 m3 m4 m5 (nI n9) (nI v) m6 k1 k2 k3 (nI qa) m7 (nI wa) (nI sa) ka k8 m8 m9 m10 k9 m11 m12 m13 hv, kI cI m1 16 pf, kI cI m7 5 na2] → va_S A s.heap H locs → lv_has ls 3 [(0, .ref m0), (1, .int 0), (2, .int (nI i))] → W p l e (rM 4 0 0 89) s m ([.ref m0, .int 0] : List Value).toArray below meth c H locs 0 0 Q (F0 m 17 ls []) := by
    intro n
    induction n with
    | zero =>
      intro i qa sa wa ka na2 hi hX hok H locs ls hP hD hS hl
      refine lv_iload_n hx hb dX7_read_17 rfl (lv_at hl 2 rfl) ?_
      refine lv_aload_n hx hb dX7_read_18 rfl (lv_at hl 0 rfl) ?_
      refine va_get (D := D) (ci := 7) (v := .int (nI z)) (C := RX7) (T := TX7) (N := 27) hx hb hts iT_X7 hown hK1 hP 0 rfl rfl 0 (by decide) (hts _ t_551) (fun _ h9 => h9) rfl dX7_read_19 ?_
      refine lv_icmp_ge (tgt := 46) hx hb dX7_read_22 (by decide) (fun c_1 => ?_) (fun c_1 => ?_)
      rotate_left
      · exact absurd (nI_le (a := z) (b := i) (by omega) (by omega)) c_1
      refine lv_iload_n hx hb dX7_read_46 rfl (lv_at hl 2 rfl) ?_
      exact hret _ _ _ _ _ _ (nI i) (nI qa, nI wa, nI sa, ka, na2, i) dX7_read_47 rfl hS (Nat.le_of_ble_eq_true rfl) (Nat.le_of_ble_eq_true rfl) ⟨rfl, rd_end hok (by omega), fun _ => ⟨qa, sa, wa, rfl, rfl, rfl, (show i = z by omega) ▸ hX⟩⟩ (hP.sub [0, 1, 2] rfl) (hD.sub [0, 1, 2] rfl rfl)
    | succ n ih_17 =>
      intro i qa sa wa ka na2 hi hX hok H locs ls hP hD hS hl
      refine lv_iload_n hx hb dX7_read_17 rfl (lv_at hl 2 rfl) ?_
      refine lv_aload_n hx hb dX7_read_18 rfl (lv_at hl 0 rfl) ?_
      refine va_get (D := D) (ci := 7) (v := .int (nI z)) (C := RX7) (T := TX7) (N := 27) hx hb hts iT_X7 hown hK1 hP 0 rfl rfl 0 (by decide) (hts _ t_551) (fun _ h9 => h9) rfl dX7_read_19 ?_
      refine lv_icmp_ge (tgt := 46) hx hb dX7_read_22 (by decide) (fun c_2 => ?_) (fun c_2 => ?_)
      · exact absurd c_2 (nI_ge (a := i) (b := z) (by omega) (by omega))
      refine lv_aload_n hx hb dX7_read_25 rfl (lv_at hl 0 rfl) ?_
      refine lv_aload_n hx hb dX7_read_26 rfl (lv_at hl 0 rfl) ?_
      refine va_get (D := D) (ci := 7) (v := .ref m1) (C := RX7) (T := TX7) (N := 27) hx hb hts iT_X7 hown hK1 hP 0 rfl rfl 1 (by decide) (hts _ t_552) (fun _ h9 => h9) rfl dX7_read_27 ?_
      refine lv_iload_n hx hb dX7_read_30 rfl (lv_at hl 2 rfl) ?_
      refine va_iald hx hb hK1 hP 1 0 rfl rfl (vp_in_nI (by omega) (by omega)) dX7_read_31 ?_
      refine lv_nmi (show _ = pf i from by rw [nI_clamp (n := i) (by omega)]) ?_
      refine lv_iload_n hx hb dX7_read_32 rfl (lv_at hl 2 rfl) ?_
      refine lv_iload_n hx hb dX7_read_33 rfl (lv_at hl 1 rfl) ?_
      refine xc_i (wc := [kX7 m0 (nI z) m1 (nI r9) m2 m3 m4 m5 (nI n9) (nI v) m6 k1 k2 k3 (nI qa) m7 (nI wa) (nI sa) ka k8 m8 m9 m10 k9 m11 m12 m13 hv, kI cI m7 5 na2]) (wr := [kI cI m1 16 pf]) (xrV (n := 3) (As := [.int (pf i), .int (nI i), .int 0]) (rest := []) (ci := 7) (q0 := 0) hd hK hP hD (g_takes_0 l D cI cJ cZ cR _ m0 m1 m2 m3 m4 m5 m6 m7 m8 m9 m10 m11 m12 m13 z r9 n9 v k1 k2 k3 ka k8 k9 hv qa sa wa na2 pf i hX (by omega)) (gV t_652 mV_X7_takes) hV_X7_takes ⟨(Nat.le_of_ble_eq_true rfl), (Nat.le_of_ble_eq_true rfl)⟩ rfl rfl [0, 2] rfl rfl rfl hl.1 rfl (Nat.le_of_ble_eq_true rfl) dX7_read_34 ⟨(Nat.le_of_ble_eq_true rfl), (Nat.le_of_ble_eq_true rfl)⟩) hP hD hS hA [0, 2] [1] rfl rfl rfl (by decide) (fun r_3 u_4 H locs hw_5 hP hD hS => ?_)
      obtain ⟨k4b_6, k5b_7, k6b_8, k7b_9, ne2_10⟩ := u_4
      obtain ⟨hw_11, hw_12⟩ : (YN r_3 (okF0 pf i)) ∧ (¬ r_3 = 0 → TXo 2 3 4 pf (i + 1) k4b_6 k6b_8 k5b_7 k7b_9 ne2_10) := hw_5
      have hT0 := hw_11
      have hT1 := hw_12
      have hP : va_P D vwCl [kI cI m1 16 pf, kX7 m0 (nI z) m1 (nI r9) m2 m3 m4 m5 (nI n9) (nI v) m6 k1 k2 k3 k4b_6 m7 k5b_7 k6b_8 k7b_9 k8 m8 m9 m10 k9 m11 m12 m13 hv, kI cI m7 5 ne2_10] H := hP
      have hD : va_D A [kI cI m1 16 pf, kX7 m0 (nI z) m1 (nI r9) m2 m3 m4 m5 (nI n9) (nI v) m6 k1 k2 k3 k4b_6 m7 k5b_7 k6b_8 k7b_9 k8 m8 m9 m10 k9 m11 m12 m13 hv, kI cI m7 5 ne2_10] := hD
      refine lv_if_eq (tgt := 46) hx hb dX7_read_37 (by decide) (fun c_13 => ?_) (fun c_13 => ?_)
      · skip
        refine lv_iload_n hx hb dX7_read_46 rfl (lv_at hl 2 rfl) ?_
        exact hret _ _ _ _ _ _ (nI i) (k4b_6, k5b_7, k6b_8, k7b_9, ne2_10, i) dX7_read_47 rfl hS (Nat.le_of_ble_eq_true rfl) (Nat.le_of_ble_eq_true rfl) ⟨rfl, FF_bad (i := i) hok (by omega) (hT0.no c_13), fun q => absurd (show i = z from q) (by omega)⟩ (hP.sub [1, 0, 2] rfl) (hD.sub [1, 0, 2] rfl rfl)
      · skip
        obtain ⟨q2, s2, w2, eq2, es2, ew2, hX2⟩ := hT1 c_13
        rw [eq2] at hP hD
        have hP : va_P D vwCl [kI cI m1 16 pf, kX7 m0 (nI z) m1 (nI r9) m2 m3 m4 m5 (nI n9) (nI v) m6 k1 k2 k3 (nI q2) m7 k5b_7 k6b_8 k7b_9 k8 m8 m9 m10 k9 m11 m12 m13 hv, kI cI m7 5 ne2_10] H := hP
        have hD : va_D A [kI cI m1 16 pf, kX7 m0 (nI z) m1 (nI r9) m2 m3 m4 m5 (nI n9) (nI v) m6 k1 k2 k3 (nI q2) m7 k5b_7 k6b_8 k7b_9 k8 m8 m9 m10 k9 m11 m12 m13 hv, kI cI m7 5 ne2_10] := hD
        rw [es2] at hP hD
        have hP : va_P D vwCl [kI cI m1 16 pf, kX7 m0 (nI z) m1 (nI r9) m2 m3 m4 m5 (nI n9) (nI v) m6 k1 k2 k3 (nI q2) m7 k5b_7 (nI s2) k7b_9 k8 m8 m9 m10 k9 m11 m12 m13 hv, kI cI m7 5 ne2_10] H := hP
        have hD : va_D A [kI cI m1 16 pf, kX7 m0 (nI z) m1 (nI r9) m2 m3 m4 m5 (nI n9) (nI v) m6 k1 k2 k3 (nI q2) m7 k5b_7 (nI s2) k7b_9 k8 m8 m9 m10 k9 m11 m12 m13 hv, kI cI m7 5 ne2_10] := hD
        rw [ew2] at hP hD
        have hP : va_P D vwCl [kI cI m1 16 pf, kX7 m0 (nI z) m1 (nI r9) m2 m3 m4 m5 (nI n9) (nI v) m6 k1 k2 k3 (nI q2) m7 (nI w2) (nI s2) k7b_9 k8 m8 m9 m10 k9 m11 m12 m13 hv, kI cI m7 5 ne2_10] H := hP
        have hD : va_D A [kI cI m1 16 pf, kX7 m0 (nI z) m1 (nI r9) m2 m3 m4 m5 (nI n9) (nI v) m6 k1 k2 k3 (nI q2) m7 (nI w2) (nI s2) k7b_9 k8 m8 m9 m10 k9 m11 m12 m13 hv, kI cI m7 5 ne2_10] := hD
        refine lv_iinc (v := nI (i + 1)) (lv' := [(2, .int (nI (i + 1))), (0, .ref m0), (1, .int 0)]) hx hb dX7_read_40 hl (k := 2) rfl (nI_1 i) (by decide) rfl (fun ls hl => ?_)
        refine lv_goto (tgt := 17) hx hb dX7_read_43 (by decide) ?_
        exact ih_17 (i + 1) q2 s2 w2 k7b_9 ne2_10 (by omega) hX2 (FF_step hok (hT0.of c_13)) _ _ _ (hP.sub [1, 0, 2] rfl) (hD.sub [1, 0, 2] rfl rfl) hS (lv_sub hl [1, 2, 0] rfl)
  exact LOOP_17 z 0 0 0 0 k7 ne (by omega) TX_zero (fun j hj => absurd hj (by omega)) _ _ _ (hP.sub [0, 1, 2] rfl) (hD.sub [0, 1, 2] rfl rfl) hS (lv_sub hl [1, 2, 0] rfl)
set_option maxHeartbeats 4000000 in
set_option maxRecDepth 100000 in
theorem g_takes_1 (sz : Nat) (m0 : Nat) (m1 : Nat) (m2 : Nat) (m3 : Nat) (m4 : Nat) (m5 : Nat) (m6 : Nat) (m7 : Nat) (m8 : Nat) (m9 : Nat) (m10 : Nat) (m11 : Nat) (m12 : Nat) (m13 : Nat) (z : Nat) (r9 : Nat) (n9 : Nat) (v : Nat) (k1 : Int32) (k2 : Int32) (k3 : Int32) (k7 : Int32) (k8 : Int32) (k9 : Int32) (hv : Int64) (q9 : Nat) (s9 : Nat) (w9 : Nat) (ne : Nat → Int32) (pf : Nat → Int32) (i : Nat) (hX : TX 0 5 5 pf i q9 s9 w9 k7 ne) (hi16 : i < 16) : CTi l D cI cJ cZ cR yX7_takes cX7_takes 4 (some .boolean) 2 45 0 0 sz [.ref m0, .int (pf i), .int (nI i), .int 1] [kX7 m0 (nI z) m1 (nI r9) m2 m3 m4 m5 (nI n9) (nI v) m6 k1 k2 k3 (nI q9) m7 (nI w9) (nI s9) k7 k8 m8 m9 m10 k9 m11 m12 m13 hv, kI cI m7 5 ne] (fun (r : Int32) (u : Int32 × Int32 × Int32 × Int32 × (Nat → Int32)) => (YN r (okF1 pf i)) ∧ (¬ r = 0 → TXo 0 5 5 pf (i + 1) u.1 u.2.2.1 u.2.1 u.2.2.2.1 u.2.2.2.2)) (fun (u : Int32 × Int32 × Int32 × Int32 × (Nat → Int32)) => [kX7 m0 (nI z) m1 (nI r9) m2 m3 m4 m5 (nI n9) (nI v) m6 k1 k2 k3 u.1 m7 u.2.1 u.2.2.1 u.2.2.2.1 k8 m8 m9 m10 k9 m11 m12 m13 hv, kI cI m7 5 u.2.2.2.2]) := by
  refine CTi.of (ty := .boolean) (by decide) (Nat.le_of_ble_eq_true rfl) rfl ?_
  intro p e s m below meth c A Q ls hd hin hK hsz hP hD hA hS hl hret
  obtain ⟨hx, hb, hml, hown, hts⟩ := id hd
  have hK1 := hK.1
  have hown : s.vm.findClass RX7 = some m.cls := hown
  have hl : lv_has ls 4 [(0, .ref m0), (1, .int (pf i)), (2, .int (nI i)), (3, .int 1)] := hl
  refine lv_iload_n hx hb dX7_takes_0 rfl (lv_at hl 3 rfl) ?_
  refine lv_if_ne (tgt := 36) hx hb dX7_takes_1 (by decide) (fun c_1 => ?_) (fun c_1 => ?_)
  rotate_left
  · exact absurd c_1 (by decide)
  refine lv_aload_n hx hb dX7_takes_36 rfl (lv_at hl 0 rfl) ?_
  refine lv_iload_n hx hb dX7_takes_37 rfl (lv_at hl 1 rfl) ?_
  refine lv_iload_n hx hb dX7_takes_38 rfl (lv_at hl 3 rfl) ?_
  refine xc_i (wc := [kX7 m0 (nI z) m1 (nI r9) m2 m3 m4 m5 (nI n9) (nI v) m6 k1 k2 k3 (nI q9) m7 (nI w9) (nI s9) k7 k8 m8 m9 m10 k9 m11 m12 m13 hv, kI cI m7 5 ne]) (wr := []) (xrV (n := 2) (As := [.int (pf i), .int 1]) (rest := []) (ci := 7) (q0 := 0) hd hK hP hD (g_takesEdge_1 l D cI cJ cZ cR _ m0 m1 m2 m3 m4 m5 m6 m7 m8 m9 m10 m11 m12 m13 z r9 n9 v k1 k2 k3 k7 k8 k9 hv q9 s9 w9 ne pf i hX (Nat.zero_le _)) (gV t_656 mV_X7_takesEdge) hV_X7_takesEdge ⟨(Nat.le_of_ble_eq_true rfl), (Nat.le_of_ble_eq_true rfl)⟩ rfl rfl [0, 1] rfl rfl rfl hl.1 rfl (Nat.le_of_ble_eq_true rfl) dX7_takes_39 ⟨(Nat.le_of_ble_eq_true rfl), (Nat.le_of_ble_eq_true rfl)⟩) hP hD hS hA [0, 1] [] rfl rfl rfl (by decide) (fun r_2 u_3 H locs hw_4 hP hD hS => ?_)
  obtain ⟨k4b_5, k5b_6, k6b_7, k7b_8, ne2_9⟩ := u_3
  obtain ⟨hw_10, hw_11⟩ : (YN r_2 (okF1 pf i)) ∧ (¬ r_2 = 0 → TXo 0 5 5 pf (i + 1) k4b_5 k6b_7 k5b_6 k7b_8 ne2_9) := hw_4
  have hP : va_P D vwCl [kX7 m0 (nI z) m1 (nI r9) m2 m3 m4 m5 (nI n9) (nI v) m6 k1 k2 k3 k4b_5 m7 k5b_6 k6b_7 k7b_8 k8 m8 m9 m10 k9 m11 m12 m13 hv, kI cI m7 5 ne2_9] H := hP
  have hD : va_D A [kX7 m0 (nI z) m1 (nI r9) m2 m3 m4 m5 (nI n9) (nI v) m6 k1 k2 k3 k4b_5 m7 k5b_6 k6b_7 k7b_8 k8 m8 m9 m10 k9 m11 m12 m13 hv, kI cI m7 5 ne2_9] := hD
  exact hret _ _ _ _ _ _ r_2 (k4b_5, k5b_6, k6b_7, k7b_8, ne2_9) dX7_takes_42 (nar_01 hw_10.b01) hS (Nat.le_of_ble_eq_true rfl) (Nat.le_of_ble_eq_true rfl) ⟨hw_10, hw_11⟩ (hP.sub [0, 1] rfl) (hD.sub [0, 1] rfl rfl)
set_option maxHeartbeats 4000000 in
set_option maxRecDepth 100000 in
theorem g_read_1 (sz : Nat) (m0 : Nat) (m1 : Nat) (m2 : Nat) (m3 : Nat) (m4 : Nat) (m5 : Nat) (m6 : Nat) (m7 : Nat) (m8 : Nat) (m9 : Nat) (m10 : Nat) (m11 : Nat) (m12 : Nat) (m13 : Nat) (z : Nat) (r9 : Nat) (n9 : Nat) (v : Nat) (k1 : Int32) (k2 : Int32) (k3 : Int32) (k4 : Int32) (k5 : Int32) (k6 : Int32) (k7 : Int32) (k8 : Int32) (k9 : Int32) (hv : Int64) (pf : Nat → Int32) (ne : Nat → Int32) (hz : z ≤ 16) : CTi l D cI cJ cZ cR yX7_read cX7_read 3 (some .int) 3 68 0 0 sz [.ref m0, .int 1] [kX7 m0 (nI z) m1 (nI r9) m2 m3 m4 m5 (nI n9) (nI v) m6 k1 k2 k3 k4 m7 k5 k6 k7 k8 m8 m9 m10 k9 m11 m12 m13 hv, kI cI m1 16 pf, kI cI m7 5 ne] (fun (r : Int32) (u : Int32 × Int32 × Int32 × Int32 × (Nat → Int32) × Nat) => (r = (nI u.2.2.2.2.2)) ∧ (FF (okF1 pf) z u.2.2.2.2.2) ∧ (u.2.2.2.2.2 = z → TXo 0 5 5 pf z u.1 u.2.2.1 u.2.1 u.2.2.2.1 u.2.2.2.2.1)) (fun (u : Int32 × Int32 × Int32 × Int32 × (Nat → Int32) × Nat) => [kX7 m0 (nI z) m1 (nI r9) m2 m3 m4 m5 (nI n9) (nI v) m6 k1 k2 k3 u.1 m7 u.2.1 u.2.2.1 u.2.2.2.1 k8 m8 m9 m10 k9 m11 m12 m13 hv, kI cI m1 16 pf, kI cI m7 5 u.2.2.2.2.1]) := by
  refine CTi.of (ty := .int) (by decide) (Nat.le_of_ble_eq_true rfl) rfl ?_
  intro p e s m below meth c A Q ls hd hin hK hsz hP hD hA hS hl hret
  obtain ⟨hx, hb, hml, hown, hts⟩ := id hd
  have hK1 := hK.1
  have hown : s.vm.findClass RX7 = some m.cls := hown
  have hl : lv_has ls 3 [(0, .ref m0), (1, .int 1)] := hl
  refine lv_aload_n hx hb dX7_read_0 rfl (lv_at hl 0 rfl) ?_
  refine lv_iconst (v := 0) hx hb dX7_read_1 (by decide) ?_
  refine va_put (D := D) (ci := 7) (v := .int 0) (ty := .int) (C := RX7) (T := TX7) (N := 27) hx hb hts iT_X7 tyX7 tyX7_ok nmX7 hown hK1 hP hD hS 0 rfl rfl 13 (by decide) (hts _ t_564) (fun _ h9 => h9) rfl (by decide +kernel) rfl rfl (Nat.le_of_ble_eq_true rfl) dX7_read_2 (fun H locs hP hD hS => ?_)
  have hP : va_P D vwCl [kX7 m0 (nI z) m1 (nI r9) m2 m3 m4 m5 (nI n9) (nI v) m6 k1 k2 k3 0 m7 k5 k6 k7 k8 m8 m9 m10 k9 m11 m12 m13 hv, kI cI m1 16 pf, kI cI m7 5 ne] H := hP
  have hD : va_D A [kX7 m0 (nI z) m1 (nI r9) m2 m3 m4 m5 (nI n9) (nI v) m6 k1 k2 k3 0 m7 k5 k6 k7 k8 m8 m9 m10 k9 m11 m12 m13 hv, kI cI m1 16 pf, kI cI m7 5 ne] := hD
  refine lv_aload_n hx hb dX7_read_5 rfl (lv_at hl 0 rfl) ?_
  refine lv_iconst (v := 0) hx hb dX7_read_6 (by decide) ?_
  refine va_put (D := D) (ci := 7) (v := .int 0) (ty := .int) (C := RX7) (T := TX7) (N := 27) hx hb hts iT_X7 tyX7 tyX7_ok nmX7 hown hK1 hP hD hS 0 rfl rfl 15 (by decide) (hts _ t_566) (fun _ h9 => h9) rfl (by decide +kernel) rfl rfl (Nat.le_of_ble_eq_true rfl) dX7_read_7 (fun H locs hP hD hS => ?_)
  have hP : va_P D vwCl [kX7 m0 (nI z) m1 (nI r9) m2 m3 m4 m5 (nI n9) (nI v) m6 k1 k2 k3 0 m7 0 k6 k7 k8 m8 m9 m10 k9 m11 m12 m13 hv, kI cI m1 16 pf, kI cI m7 5 ne] H := hP
  have hD : va_D A [kX7 m0 (nI z) m1 (nI r9) m2 m3 m4 m5 (nI n9) (nI v) m6 k1 k2 k3 0 m7 0 k6 k7 k8 m8 m9 m10 k9 m11 m12 m13 hv, kI cI m1 16 pf, kI cI m7 5 ne] := hD
  refine lv_aload_n hx hb dX7_read_10 rfl (lv_at hl 0 rfl) ?_
  refine lv_iconst (v := 0) hx hb dX7_read_11 (by decide) ?_
  refine va_put (D := D) (ci := 7) (v := .int 0) (ty := .int) (C := RX7) (T := TX7) (N := 27) hx hb hts iT_X7 tyX7 tyX7_ok nmX7 hown hK1 hP hD hS 0 rfl rfl 16 (by decide) (hts _ t_567) (fun _ h9 => h9) rfl (by decide +kernel) rfl rfl (Nat.le_of_ble_eq_true rfl) dX7_read_12 (fun H locs hP hD hS => ?_)
  have hP : va_P D vwCl [kX7 m0 (nI z) m1 (nI r9) m2 m3 m4 m5 (nI n9) (nI v) m6 k1 k2 k3 0 m7 0 0 k7 k8 m8 m9 m10 k9 m11 m12 m13 hv, kI cI m1 16 pf, kI cI m7 5 ne] H := hP
  have hD : va_D A [kX7 m0 (nI z) m1 (nI r9) m2 m3 m4 m5 (nI n9) (nI v) m6 k1 k2 k3 0 m7 0 0 k7 k8 m8 m9 m10 k9 m11 m12 m13 hv, kI cI m1 16 pf, kI cI m7 5 ne] := hD
  refine lv_iconst (v := 0) hx hb dX7_read_15 (by decide) ?_
  refine lv_istore_n (lv' := [(2, .int 0), (0, .ref m0), (1, .int 1)]) hx hb dX7_read_16 rfl hl (by decide) rfl (fun ls hl => ?_)
  have LOOP_17 : ∀ (n : Nat) (i : Nat) (qa : Nat) (sa : Nat) (wa : Nat) (ka : Int32) (na2 : Nat → Int32), (i + n = z) → (TX 0 5 5 pf i qa sa wa ka na2) → (∀ j, j < i → okF1 pf j) → ∀ (H : Heap) (locs : List Loc) (ls : Array Slot), va_P D vwCl [kX7 m0 (nI z) m1 (nI r9) m2 m3 m4 m5 (nI n9) (nI v) m6 k1 k2 k3 (nI qa) m7 (nI wa) (nI sa) ka k8 m8 m9 m10 k9 m11 m12 m13 hv, kI cI m1 16 pf, kI cI m7 5 na2] H → va_D A [kX7 m0 (nI z) m1 (nI r9) m2 m3 m4 m5 (nI n9) (nI v) m6 k1 k2 k3 (nI qa) m7 (nI wa) (nI sa) ka k8 m8 m9 m10 k9 m11 m12 m13 hv, kI cI m1 16 pf, kI cI m7 5 na2] → va_S A s.heap H locs → lv_has ls 3 [(0, .ref m0), (1, .int 1), (2, .int (nI i))] → W p l e (rM 3 0 0 68) s m ([.ref m0, .int 1] : List Value).toArray below meth c H locs 0 0 Q (F0 m 17 ls []) := by
    intro n
    induction n with
    | zero =>
      intro i qa sa wa ka na2 hi hX hok H locs ls hP hD hS hl
      refine lv_iload_n hx hb dX7_read_17 rfl (lv_at hl 2 rfl) ?_
      refine lv_aload_n hx hb dX7_read_18 rfl (lv_at hl 0 rfl) ?_
      refine va_get (D := D) (ci := 7) (v := .int (nI z)) (C := RX7) (T := TX7) (N := 27) hx hb hts iT_X7 hown hK1 hP 0 rfl rfl 0 (by decide) (hts _ t_551) (fun _ h9 => h9) rfl dX7_read_19 ?_
      refine lv_icmp_ge (tgt := 46) hx hb dX7_read_22 (by decide) (fun c_1 => ?_) (fun c_1 => ?_)
      rotate_left
      · exact absurd (nI_le (a := z) (b := i) (by omega) (by omega)) c_1
      refine lv_iload_n hx hb dX7_read_46 rfl (lv_at hl 2 rfl) ?_
      exact hret _ _ _ _ _ _ (nI i) (nI qa, nI wa, nI sa, ka, na2, i) dX7_read_47 rfl hS (Nat.le_of_ble_eq_true rfl) (Nat.le_of_ble_eq_true rfl) ⟨rfl, rd_end hok (by omega), fun _ => ⟨qa, sa, wa, rfl, rfl, rfl, (show i = z by omega) ▸ hX⟩⟩ (hP.sub [0, 1, 2] rfl) (hD.sub [0, 1, 2] rfl rfl)
    | succ n ih_17 =>
      intro i qa sa wa ka na2 hi hX hok H locs ls hP hD hS hl
      refine lv_iload_n hx hb dX7_read_17 rfl (lv_at hl 2 rfl) ?_
      refine lv_aload_n hx hb dX7_read_18 rfl (lv_at hl 0 rfl) ?_
      refine va_get (D := D) (ci := 7) (v := .int (nI z)) (C := RX7) (T := TX7) (N := 27) hx hb hts iT_X7 hown hK1 hP 0 rfl rfl 0 (by decide) (hts _ t_551) (fun _ h9 => h9) rfl dX7_read_19 ?_
      refine lv_icmp_ge (tgt := 46) hx hb dX7_read_22 (by decide) (fun c_2 => ?_) (fun c_2 => ?_)
      · exact absurd c_2 (nI_ge (a := i) (b := z) (by omega) (by omega))
      refine lv_aload_n hx hb dX7_read_25 rfl (lv_at hl 0 rfl) ?_
      refine lv_aload_n hx hb dX7_read_26 rfl (lv_at hl 0 rfl) ?_
      refine va_get (D := D) (ci := 7) (v := .ref m1) (C := RX7) (T := TX7) (N := 27) hx hb hts iT_X7 hown hK1 hP 0 rfl rfl 1 (by decide) (hts _ t_552) (fun _ h9 => h9) rfl dX7_read_27 ?_
      refine lv_iload_n hx hb dX7_read_30 rfl (lv_at hl 2 rfl) ?_
      refine va_iald hx hb hK1 hP 1 0 rfl rfl (vp_in_nI (by omega) (by omega)) dX7_read_31 ?_
      refine lv_nmi (show _ = pf i from by rw [nI_clamp (n := i) (by omega)]) ?_
      refine lv_iload_n hx hb dX7_read_32 rfl (lv_at hl 2 rfl) ?_
      refine lv_iload_n hx hb dX7_read_33 rfl (lv_at hl 1 rfl) ?_
      refine xc_i (wc := [kX7 m0 (nI z) m1 (nI r9) m2 m3 m4 m5 (nI n9) (nI v) m6 k1 k2 k3 (nI qa) m7 (nI wa) (nI sa) ka k8 m8 m9 m10 k9 m11 m12 m13 hv, kI cI m7 5 na2]) (wr := [kI cI m1 16 pf]) (xrV (n := 3) (As := [.int (pf i), .int (nI i), .int 1]) (rest := []) (ci := 7) (q0 := 0) hd hK hP hD (g_takes_1 l D cI cJ cZ cR _ m0 m1 m2 m3 m4 m5 m6 m7 m8 m9 m10 m11 m12 m13 z r9 n9 v k1 k2 k3 ka k8 k9 hv qa sa wa na2 pf i hX (by omega)) (gV t_652 mV_X7_takes) hV_X7_takes ⟨(Nat.le_of_ble_eq_true rfl), (Nat.le_of_ble_eq_true rfl)⟩ rfl rfl [0, 2] rfl rfl rfl hl.1 rfl (Nat.le_of_ble_eq_true rfl) dX7_read_34 ⟨(Nat.le_of_ble_eq_true rfl), (Nat.le_of_ble_eq_true rfl)⟩) hP hD hS hA [0, 2] [1] rfl rfl rfl (by decide) (fun r_3 u_4 H locs hw_5 hP hD hS => ?_)
      obtain ⟨k4b_6, k5b_7, k6b_8, k7b_9, ne2_10⟩ := u_4
      obtain ⟨hw_11, hw_12⟩ : (YN r_3 (okF1 pf i)) ∧ (¬ r_3 = 0 → TXo 0 5 5 pf (i + 1) k4b_6 k6b_8 k5b_7 k7b_9 ne2_10) := hw_5
      have hT0 := hw_11
      have hT1 := hw_12
      have hP : va_P D vwCl [kI cI m1 16 pf, kX7 m0 (nI z) m1 (nI r9) m2 m3 m4 m5 (nI n9) (nI v) m6 k1 k2 k3 k4b_6 m7 k5b_7 k6b_8 k7b_9 k8 m8 m9 m10 k9 m11 m12 m13 hv, kI cI m7 5 ne2_10] H := hP
      have hD : va_D A [kI cI m1 16 pf, kX7 m0 (nI z) m1 (nI r9) m2 m3 m4 m5 (nI n9) (nI v) m6 k1 k2 k3 k4b_6 m7 k5b_7 k6b_8 k7b_9 k8 m8 m9 m10 k9 m11 m12 m13 hv, kI cI m7 5 ne2_10] := hD
      refine lv_if_eq (tgt := 46) hx hb dX7_read_37 (by decide) (fun c_13 => ?_) (fun c_13 => ?_)
      · skip
        refine lv_iload_n hx hb dX7_read_46 rfl (lv_at hl 2 rfl) ?_
        exact hret _ _ _ _ _ _ (nI i) (k4b_6, k5b_7, k6b_8, k7b_9, ne2_10, i) dX7_read_47 rfl hS (Nat.le_of_ble_eq_true rfl) (Nat.le_of_ble_eq_true rfl) ⟨rfl, FF_bad (i := i) hok (by omega) (hT0.no c_13), fun q => absurd (show i = z from q) (by omega)⟩ (hP.sub [1, 0, 2] rfl) (hD.sub [1, 0, 2] rfl rfl)
      · skip
        obtain ⟨q2, s2, w2, eq2, es2, ew2, hX2⟩ := hT1 c_13
        rw [eq2] at hP hD
        have hP : va_P D vwCl [kI cI m1 16 pf, kX7 m0 (nI z) m1 (nI r9) m2 m3 m4 m5 (nI n9) (nI v) m6 k1 k2 k3 (nI q2) m7 k5b_7 k6b_8 k7b_9 k8 m8 m9 m10 k9 m11 m12 m13 hv, kI cI m7 5 ne2_10] H := hP
        have hD : va_D A [kI cI m1 16 pf, kX7 m0 (nI z) m1 (nI r9) m2 m3 m4 m5 (nI n9) (nI v) m6 k1 k2 k3 (nI q2) m7 k5b_7 k6b_8 k7b_9 k8 m8 m9 m10 k9 m11 m12 m13 hv, kI cI m7 5 ne2_10] := hD
        rw [es2] at hP hD
        have hP : va_P D vwCl [kI cI m1 16 pf, kX7 m0 (nI z) m1 (nI r9) m2 m3 m4 m5 (nI n9) (nI v) m6 k1 k2 k3 (nI q2) m7 k5b_7 (nI s2) k7b_9 k8 m8 m9 m10 k9 m11 m12 m13 hv, kI cI m7 5 ne2_10] H := hP
        have hD : va_D A [kI cI m1 16 pf, kX7 m0 (nI z) m1 (nI r9) m2 m3 m4 m5 (nI n9) (nI v) m6 k1 k2 k3 (nI q2) m7 k5b_7 (nI s2) k7b_9 k8 m8 m9 m10 k9 m11 m12 m13 hv, kI cI m7 5 ne2_10] := hD
        rw [ew2] at hP hD
        have hP : va_P D vwCl [kI cI m1 16 pf, kX7 m0 (nI z) m1 (nI r9) m2 m3 m4 m5 (nI n9) (nI v) m6 k1 k2 k3 (nI q2) m7 (nI w2) (nI s2) k7b_9 k8 m8 m9 m10 k9 m11 m12 m13 hv, kI cI m7 5 ne2_10] H := hP
        have hD : va_D A [kI cI m1 16 pf, kX7 m0 (nI z) m1 (nI r9) m2 m3 m4 m5 (nI n9) (nI v) m6 k1 k2 k3 (nI q2) m7 (nI w2) (nI s2) k7b_9 k8 m8 m9 m10 k9 m11 m12 m13 hv, kI cI m7 5 ne2_10] := hD
        refine lv_iinc (v := nI (i + 1)) (lv' := [(2, .int (nI (i + 1))), (0, .ref m0), (1, .int 1)]) hx hb dX7_read_40 hl (k := 2) rfl (nI_1 i) (by decide) rfl (fun ls hl => ?_)
        refine lv_goto (tgt := 17) hx hb dX7_read_43 (by decide) ?_
        exact ih_17 (i + 1) q2 s2 w2 k7b_9 ne2_10 (by omega) hX2 (FF_step hok (hT0.of c_13)) _ _ _ (hP.sub [1, 0, 2] rfl) (hD.sub [1, 0, 2] rfl rfl) hS (lv_sub hl [1, 2, 0] rfl)
  exact LOOP_17 z 0 0 0 0 k7 ne (by omega) TX_zero (fun j hj => absurd hj (by omega)) _ _ _ (hP.sub [0, 1, 2] rfl) (hD.sub [0, 1, 2] rfl rfl) hS (lv_sub hl [1, 2, 0] rfl)
set_option maxHeartbeats 4000000 in
set_option maxRecDepth 100000 in
theorem g_misWhole_0 (sz : Nat) (m0 : Nat) (m1 : Nat) (m2 : Nat) (m3 : Nat) (m4 : Nat) (m5 : Nat) (m6 : Nat) (m7 : Nat) (m8 : Nat) (m9 : Nat) (m10 : Nat) (m11 : Nat) (m12 : Nat) (m13 : Nat) (z : Nat) (r9 : Nat) (n9 : Nat) (v : Nat) (k1 : Int32) (k2 : Int32) (k3 : Int32) (k4 : Int32) (k5 : Int32) (k6 : Int32) (k7 : Int32) (k8 : Int32) (k9 : Int32) (hv : Int64) (pf : Nat → Int32) (ne : Nat → Int32) (hz : z ≤ 16) : CTi l D cI cJ cZ cR yX7_isWhole cX7_isWhole 2 (some .boolean) 5 111 0 0 sz [.ref m0, .int 0] [kX7 m0 (nI z) m1 (nI r9) m2 m3 m4 m5 (nI n9) (nI v) m6 k1 k2 k3 k4 m7 k5 k6 k7 k8 m8 m9 m10 k9 m11 m12 m13 hv, kI cI m1 16 pf, kI cI m7 5 ne] (fun (r : Int32) (u : Int32 × Int32 × Int32 × Int32 × (Nat → Int32)) => (YN r (WH0 pf z)) ∧ (¬ r = 0 → ∃ q w, u.1 = nI q ∧ u.2.1 = nI w ∧ 0 < q ∧ z = 2 + 3 * q ∧ TX 2 3 4 pf z q 0 w u.2.2.2.1 u.2.2.2.2)) (fun (u : Int32 × Int32 × Int32 × Int32 × (Nat → Int32)) => [kX7 m0 (nI z) m1 (nI r9) m2 m3 m4 m5 (nI n9) (nI v) m6 k1 k2 k3 u.1 m7 u.2.1 u.2.2.1 u.2.2.2.1 k8 m8 m9 m10 k9 m11 m12 m13 hv, kI cI m1 16 pf, kI cI m7 5 u.2.2.2.2]) := by
  refine CTi.of (ty := .boolean) (by decide) (Nat.le_of_ble_eq_true rfl) rfl ?_
  intro p e s m below meth c A Q ls hd hin hK hsz hP hD hA hS hl hret
  obtain ⟨hx, hb, hml, hown, hts⟩ := id hd
  have hK1 := hK.1
  have hown : s.vm.findClass RX7 = some m.cls := hown
  have hl : lv_has ls 2 [(0, .ref m0), (1, .int 0)] := hl
  refine lv_aload_n hx hb dX7_isWhole_0 rfl (lv_at hl 0 rfl) ?_
  refine lv_iload_n hx hb dX7_isWhole_1 rfl (lv_at hl 1 rfl) ?_
  refine xc_i (wc := [kX7 m0 (nI z) m1 (nI r9) m2 m3 m4 m5 (nI n9) (nI v) m6 k1 k2 k3 k4 m7 k5 k6 k7 k8 m8 m9 m10 k9 m11 m12 m13 hv, kI cI m1 16 pf, kI cI m7 5 ne]) (wr := []) (xrV (n := 1) (As := [.int 0]) (rest := []) (ci := 7) (q0 := 0) hd hK hP hD (g_read_0 l D cI cJ cZ cR _ m0 m1 m2 m3 m4 m5 m6 m7 m8 m9 m10 m11 m12 m13 z r9 n9 v k1 k2 k3 k4 k5 k6 k7 k8 k9 hv pf ne hz) (gV t_648 mV_X7_read) hV_X7_read ⟨(Nat.le_of_ble_eq_true rfl), (Nat.le_of_ble_eq_true rfl)⟩ rfl rfl [0, 1, 2] rfl rfl rfl hl.1 rfl (Nat.le_of_ble_eq_true rfl) dX7_isWhole_2 ⟨(Nat.le_of_ble_eq_true rfl), (Nat.le_of_ble_eq_true rfl)⟩) hP hD hS hA [0, 1, 2] [] rfl rfl rfl (by decide) (fun r_1 u_2 H locs hw_3 hP hD hS => ?_)
  obtain ⟨k4b_4, k5b_5, k6b_6, k7b_7, ne2_8, k_9⟩ := u_2
  obtain ⟨hw_10, hw_11, hw_12⟩ : (r_1 = (nI k_9)) ∧ (FF (okF0 pf) z k_9) ∧ (k_9 = z → TXo 2 3 4 pf z k4b_4 k6b_6 k5b_5 k7b_7 ne2_8) := hw_3
  subst hw_10
  have hP : va_P D vwCl [kX7 m0 (nI z) m1 (nI r9) m2 m3 m4 m5 (nI n9) (nI v) m6 k1 k2 k3 k4b_4 m7 k5b_5 k6b_6 k7b_7 k8 m8 m9 m10 k9 m11 m12 m13 hv, kI cI m1 16 pf, kI cI m7 5 ne2_8] H := hP
  have hD : va_D A [kX7 m0 (nI z) m1 (nI r9) m2 m3 m4 m5 (nI n9) (nI v) m6 k1 k2 k3 k4b_4 m7 k5b_5 k6b_6 k7b_7 k8 m8 m9 m10 k9 m11 m12 m13 hv, kI cI m1 16 pf, kI cI m7 5 ne2_8] := hD
  refine lv_aload_n hx hb dX7_isWhole_5 rfl (lv_at hl 0 rfl) ?_
  refine va_get (D := D) (ci := 7) (v := .int (nI z)) (C := RX7) (T := TX7) (N := 27) hx hb hts iT_X7 hown hK1 hP 0 rfl rfl 0 (by decide) (hts _ t_551) (fun _ h9 => h9) rfl dX7_isWhole_6 ?_
  refine lv_icmp_ne (tgt := 30) hx hb dX7_isWhole_9 (by decide) (fun c_13 => ?_) (fun c_13 => ?_)
  · skip
    refine lv_iconst (v := 0) hx hb dX7_isWhole_30 (by decide) ?_
    exact hret _ _ _ _ _ _ 0 (k4b_4, k5b_5, k6b_6, k7b_7, ne2_8) dX7_isWhole_31 rfl hS (Nat.le_of_ble_eq_true rfl) (Nat.le_of_ble_eq_true rfl) ⟨YN_n (fun q => c_13 (by rw [FF_one hw_11 q.2])), fun q => absurd rfl q⟩ (hP.sub [0, 1, 2] rfl) (hD.sub [0, 1, 2] rfl rfl)
  · skip
    refine lv_aload_n hx hb dX7_isWhole_12 rfl (lv_at hl 0 rfl) ?_
    refine va_get (D := D) (ci := 7) (v := .int k4b_4) (C := RX7) (T := TX7) (N := 27) hx hb hts iT_X7 hown hK1 hP 0 rfl rfl 13 (by decide) (hts _ t_564) (fun _ h9 => h9) rfl dX7_isWhole_13 ?_
    refine lv_if_le (tgt := 30) hx hb dX7_isWhole_16 (by decide) (fun c_14 => ?_) (fun c_14 => ?_)
    · skip
      refine lv_iconst (v := 0) hx hb dX7_isWhole_30 (by decide) ?_
      exact hret _ _ _ _ _ _ 0 (k4b_4, k5b_5, k6b_6, k7b_7, ne2_8) dX7_isWhole_31 rfl hS (Nat.le_of_ble_eq_true rfl) (Nat.le_of_ble_eq_true rfl) (by have e9 := (nI_eq (by have := hw_11.1; omega) (by omega)).mp c_13; obtain ⟨q9, s9, w9, e1, e2, e3, hX⟩ := hw_12 e9; exact ⟨YN_n (fun q => isw_no2 hX q.1 (fun q7 _ => q_npos (by have := hX.2.2.1; omega) (e1 ▸ c_14) q7)), fun q => absurd rfl q⟩) (hP.sub [0, 1, 2] rfl) (hD.sub [0, 1, 2] rfl rfl)
    · skip
      refine lv_aload_n hx hb dX7_isWhole_19 rfl (lv_at hl 0 rfl) ?_
      refine va_get (D := D) (ci := 7) (v := .int k6b_6) (C := RX7) (T := TX7) (N := 27) hx hb hts iT_X7 hown hK1 hP 0 rfl rfl 16 (by decide) (hts _ t_567) (fun _ h9 => h9) rfl dX7_isWhole_20 ?_
      refine lv_if_ne (tgt := 30) hx hb dX7_isWhole_23 (by decide) (fun c_15 => ?_) (fun c_15 => ?_)
      · skip
        refine lv_iconst (v := 0) hx hb dX7_isWhole_30 (by decide) ?_
        exact hret _ _ _ _ _ _ 0 (k4b_4, k5b_5, k6b_6, k7b_7, ne2_8) dX7_isWhole_31 rfl hS (Nat.le_of_ble_eq_true rfl) (Nat.le_of_ble_eq_true rfl) (by have e9 := (nI_eq (by have := hw_11.1; omega) (by omega)).mp c_13; obtain ⟨q9, s9, w9, e1, e2, e3, hX⟩ := hw_12 e9; exact ⟨YN_n (fun q => isw_no2 hX q.1 (fun _ q7 => c_15 (by rw [e2, q7]; rfl))), fun q => absurd rfl q⟩) (hP.sub [0, 1, 2] rfl) (hD.sub [0, 1, 2] rfl rfl)
      · skip
        refine lv_iconst (v := 1) hx hb dX7_isWhole_26 (by decide) ?_
        refine lv_goto (tgt := 31) hx hb dX7_isWhole_27 (by decide) ?_
        exact hret _ _ _ _ _ _ 1 (k4b_4, k5b_5, k6b_6, k7b_7, ne2_8) dX7_isWhole_31 rfl hS (Nat.le_of_ble_eq_true rfl) (Nat.le_of_ble_eq_true rfl) (by have e9 := (nI_eq (by have := hw_11.1; omega) (by omega)).mp c_13; obtain ⟨q9, s9, w9, e1, e2, e3, hX⟩ := hw_12 e9; rw [e1] at c_14; rw [e2] at c_15; exact isw_y0 (e9 ▸ hw_11) hX e1 e3 c_14 c_15) (hP.sub [0, 1, 2] rfl) (hD.sub [0, 1, 2] rfl rfl)
set_option maxHeartbeats 4000000 in
set_option maxRecDepth 100000 in
theorem g_mfault_0 (sz : Nat) (m0 : Nat) (m1 : Nat) (m2 : Nat) (m3 : Nat) (m4 : Nat) (m5 : Nat) (m6 : Nat) (m7 : Nat) (m8 : Nat) (m9 : Nat) (m10 : Nat) (m11 : Nat) (m12 : Nat) (m13 : Nat) (z : Nat) (r9 : Nat) (n9 : Nat) (v : Nat) (k1 : Int32) (k2 : Int32) (k3 : Int32) (k4 : Int32) (k5 : Int32) (k6 : Int32) (k7 : Int32) (k8 : Int32) (k9 : Int32) (hv : Int64) (pf : Nat → Int32) (ne : Nat → Int32) (hz : z ≤ 16) : CTi l D cI cJ cZ cR yX7_fault cX7_fault 2 (some .int) 5 111 0 0 sz [.ref m0, .int 0] [kX7 m0 (nI z) m1 (nI r9) m2 m3 m4 m5 (nI n9) (nI v) m6 k1 k2 k3 k4 m7 k5 k6 k7 k8 m8 m9 m10 k9 m11 m12 m13 hv, kI cI m1 16 pf, kI cI m7 5 ne] (fun (r : Int32) (u : Int32 × Int32 × Int32 × Int32 × (Nat → Int32) × Nat) => (r = (nI u.2.2.2.2.2)) ∧ (FF (okF0 pf) z u.2.2.2.2.2)) (fun (u : Int32 × Int32 × Int32 × Int32 × (Nat → Int32) × Nat) => [kX7 m0 (nI z) m1 (nI r9) m2 m3 m4 m5 (nI n9) (nI v) m6 k1 k2 k3 u.1 m7 u.2.1 u.2.2.1 u.2.2.2.1 k8 m8 m9 m10 k9 m11 m12 m13 hv, kI cI m1 16 pf, kI cI m7 5 u.2.2.2.2.1]) := by
  refine CTi.of (ty := .int) (by decide) (Nat.le_of_ble_eq_true rfl) rfl ?_
  intro p e s m below meth c A Q ls hd hin hK hsz hP hD hA hS hl hret
  obtain ⟨hx, hb, hml, hown, hts⟩ := id hd
  have hK1 := hK.1
  have hown : s.vm.findClass RX7 = some m.cls := hown
  have hl : lv_has ls 2 [(0, .ref m0), (1, .int 0)] := hl
  refine lv_aload_n hx hb dX7_fault_0 rfl (lv_at hl 0 rfl) ?_
  refine lv_iload_n hx hb dX7_fault_1 rfl (lv_at hl 1 rfl) ?_
  refine xc_i (wc := [kX7 m0 (nI z) m1 (nI r9) m2 m3 m4 m5 (nI n9) (nI v) m6 k1 k2 k3 k4 m7 k5 k6 k7 k8 m8 m9 m10 k9 m11 m12 m13 hv, kI cI m1 16 pf, kI cI m7 5 ne]) (wr := []) (xrV (n := 1) (As := [.int 0]) (rest := []) (ci := 7) (q0 := 0) hd hK hP hD (g_read_0 l D cI cJ cZ cR _ m0 m1 m2 m3 m4 m5 m6 m7 m8 m9 m10 m11 m12 m13 z r9 n9 v k1 k2 k3 k4 k5 k6 k7 k8 k9 hv pf ne hz) (gV t_648 mV_X7_read) hV_X7_read ⟨(Nat.le_of_ble_eq_true rfl), (Nat.le_of_ble_eq_true rfl)⟩ rfl rfl [0, 1, 2] rfl rfl rfl hl.1 rfl (Nat.le_of_ble_eq_true rfl) dX7_fault_2 ⟨(Nat.le_of_ble_eq_true rfl), (Nat.le_of_ble_eq_true rfl)⟩) hP hD hS hA [0, 1, 2] [] rfl rfl rfl (by decide) (fun r_1 u_2 H locs hw_3 hP hD hS => ?_)
  obtain ⟨k4b_4, k5b_5, k6b_6, k7b_7, ne2_8, k_9⟩ := u_2
  obtain ⟨hw_10, hw_11, hw_12⟩ : (r_1 = (nI k_9)) ∧ (FF (okF0 pf) z k_9) ∧ (k_9 = z → TXo 2 3 4 pf z k4b_4 k6b_6 k5b_5 k7b_7 ne2_8) := hw_3
  subst hw_10
  have hP : va_P D vwCl [kX7 m0 (nI z) m1 (nI r9) m2 m3 m4 m5 (nI n9) (nI v) m6 k1 k2 k3 k4b_4 m7 k5b_5 k6b_6 k7b_7 k8 m8 m9 m10 k9 m11 m12 m13 hv, kI cI m1 16 pf, kI cI m7 5 ne2_8] H := hP
  have hD : va_D A [kX7 m0 (nI z) m1 (nI r9) m2 m3 m4 m5 (nI n9) (nI v) m6 k1 k2 k3 k4b_4 m7 k5b_5 k6b_6 k7b_7 k8 m8 m9 m10 k9 m11 m12 m13 hv, kI cI m1 16 pf, kI cI m7 5 ne2_8] := hD
  exact hret _ _ _ _ _ _ (nI k_9) (k4b_4, k5b_5, k6b_6, k7b_7, ne2_8, k_9) dX7_fault_5 rfl hS (Nat.le_of_ble_eq_true rfl) (Nat.le_of_ble_eq_true rfl) ⟨rfl, hw_11⟩ (hP.sub [0, 1, 2] rfl) (hD.sub [0, 1, 2] rfl rfl)
set_option maxHeartbeats 4000000 in
set_option maxRecDepth 100000 in
theorem g_misWhole_1 (sz : Nat) (m0 : Nat) (m1 : Nat) (m2 : Nat) (m3 : Nat) (m4 : Nat) (m5 : Nat) (m6 : Nat) (m7 : Nat) (m8 : Nat) (m9 : Nat) (m10 : Nat) (m11 : Nat) (m12 : Nat) (m13 : Nat) (z : Nat) (r9 : Nat) (n9 : Nat) (v : Nat) (k1 : Int32) (k2 : Int32) (k3 : Int32) (k4 : Int32) (k5 : Int32) (k6 : Int32) (k7 : Int32) (k8 : Int32) (k9 : Int32) (hv : Int64) (pf : Nat → Int32) (ne : Nat → Int32) (hz : z ≤ 16) : CTi l D cI cJ cZ cR yX7_isWhole cX7_isWhole 2 (some .boolean) 4 90 0 0 sz [.ref m0, .int 1] [kX7 m0 (nI z) m1 (nI r9) m2 m3 m4 m5 (nI n9) (nI v) m6 k1 k2 k3 k4 m7 k5 k6 k7 k8 m8 m9 m10 k9 m11 m12 m13 hv, kI cI m1 16 pf, kI cI m7 5 ne] (fun (r : Int32) (u : Int32 × Int32 × Int32 × Int32 × (Nat → Int32)) => (YN r (WH1 pf z)) ∧ (¬ r = 0 → ∃ q w, u.1 = nI q ∧ u.2.1 = nI w ∧ 0 < q ∧ z = 0 + 3 * q ∧ TX 0 5 5 pf z q 0 w u.2.2.2.1 u.2.2.2.2)) (fun (u : Int32 × Int32 × Int32 × Int32 × (Nat → Int32)) => [kX7 m0 (nI z) m1 (nI r9) m2 m3 m4 m5 (nI n9) (nI v) m6 k1 k2 k3 u.1 m7 u.2.1 u.2.2.1 u.2.2.2.1 k8 m8 m9 m10 k9 m11 m12 m13 hv, kI cI m1 16 pf, kI cI m7 5 u.2.2.2.2]) := by
  refine CTi.of (ty := .boolean) (by decide) (Nat.le_of_ble_eq_true rfl) rfl ?_
  intro p e s m below meth c A Q ls hd hin hK hsz hP hD hA hS hl hret
  obtain ⟨hx, hb, hml, hown, hts⟩ := id hd
  have hK1 := hK.1
  have hown : s.vm.findClass RX7 = some m.cls := hown
  have hl : lv_has ls 2 [(0, .ref m0), (1, .int 1)] := hl
  refine lv_aload_n hx hb dX7_isWhole_0 rfl (lv_at hl 0 rfl) ?_
  refine lv_iload_n hx hb dX7_isWhole_1 rfl (lv_at hl 1 rfl) ?_
  refine xc_i (wc := [kX7 m0 (nI z) m1 (nI r9) m2 m3 m4 m5 (nI n9) (nI v) m6 k1 k2 k3 k4 m7 k5 k6 k7 k8 m8 m9 m10 k9 m11 m12 m13 hv, kI cI m1 16 pf, kI cI m7 5 ne]) (wr := []) (xrV (n := 1) (As := [.int 1]) (rest := []) (ci := 7) (q0 := 0) hd hK hP hD (g_read_1 l D cI cJ cZ cR _ m0 m1 m2 m3 m4 m5 m6 m7 m8 m9 m10 m11 m12 m13 z r9 n9 v k1 k2 k3 k4 k5 k6 k7 k8 k9 hv pf ne hz) (gV t_648 mV_X7_read) hV_X7_read ⟨(Nat.le_of_ble_eq_true rfl), (Nat.le_of_ble_eq_true rfl)⟩ rfl rfl [0, 1, 2] rfl rfl rfl hl.1 rfl (Nat.le_of_ble_eq_true rfl) dX7_isWhole_2 ⟨(Nat.le_of_ble_eq_true rfl), (Nat.le_of_ble_eq_true rfl)⟩) hP hD hS hA [0, 1, 2] [] rfl rfl rfl (by decide) (fun r_1 u_2 H locs hw_3 hP hD hS => ?_)
  obtain ⟨k4b_4, k5b_5, k6b_6, k7b_7, ne2_8, k_9⟩ := u_2
  obtain ⟨hw_10, hw_11, hw_12⟩ : (r_1 = (nI k_9)) ∧ (FF (okF1 pf) z k_9) ∧ (k_9 = z → TXo 0 5 5 pf z k4b_4 k6b_6 k5b_5 k7b_7 ne2_8) := hw_3
  subst hw_10
  have hP : va_P D vwCl [kX7 m0 (nI z) m1 (nI r9) m2 m3 m4 m5 (nI n9) (nI v) m6 k1 k2 k3 k4b_4 m7 k5b_5 k6b_6 k7b_7 k8 m8 m9 m10 k9 m11 m12 m13 hv, kI cI m1 16 pf, kI cI m7 5 ne2_8] H := hP
  have hD : va_D A [kX7 m0 (nI z) m1 (nI r9) m2 m3 m4 m5 (nI n9) (nI v) m6 k1 k2 k3 k4b_4 m7 k5b_5 k6b_6 k7b_7 k8 m8 m9 m10 k9 m11 m12 m13 hv, kI cI m1 16 pf, kI cI m7 5 ne2_8] := hD
  refine lv_aload_n hx hb dX7_isWhole_5 rfl (lv_at hl 0 rfl) ?_
  refine va_get (D := D) (ci := 7) (v := .int (nI z)) (C := RX7) (T := TX7) (N := 27) hx hb hts iT_X7 hown hK1 hP 0 rfl rfl 0 (by decide) (hts _ t_551) (fun _ h9 => h9) rfl dX7_isWhole_6 ?_
  refine lv_icmp_ne (tgt := 30) hx hb dX7_isWhole_9 (by decide) (fun c_13 => ?_) (fun c_13 => ?_)
  · skip
    refine lv_iconst (v := 0) hx hb dX7_isWhole_30 (by decide) ?_
    exact hret _ _ _ _ _ _ 0 (k4b_4, k5b_5, k6b_6, k7b_7, ne2_8) dX7_isWhole_31 rfl hS (Nat.le_of_ble_eq_true rfl) (Nat.le_of_ble_eq_true rfl) ⟨YN_n (fun q => c_13 (by rw [FF_one hw_11 q.2])), fun q => absurd rfl q⟩ (hP.sub [0, 1, 2] rfl) (hD.sub [0, 1, 2] rfl rfl)
  · skip
    refine lv_aload_n hx hb dX7_isWhole_12 rfl (lv_at hl 0 rfl) ?_
    refine va_get (D := D) (ci := 7) (v := .int k4b_4) (C := RX7) (T := TX7) (N := 27) hx hb hts iT_X7 hown hK1 hP 0 rfl rfl 13 (by decide) (hts _ t_564) (fun _ h9 => h9) rfl dX7_isWhole_13 ?_
    refine lv_if_le (tgt := 30) hx hb dX7_isWhole_16 (by decide) (fun c_14 => ?_) (fun c_14 => ?_)
    · skip
      refine lv_iconst (v := 0) hx hb dX7_isWhole_30 (by decide) ?_
      exact hret _ _ _ _ _ _ 0 (k4b_4, k5b_5, k6b_6, k7b_7, ne2_8) dX7_isWhole_31 rfl hS (Nat.le_of_ble_eq_true rfl) (Nat.le_of_ble_eq_true rfl) (by have e9 := (nI_eq (by have := hw_11.1; omega) (by omega)).mp c_13; obtain ⟨q9, s9, w9, e1, e2, e3, hX⟩ := hw_12 e9; exact ⟨YN_n (fun q => isw_no0 hX q.1 (fun q7 _ => q_npos (by have := hX.2.2.1; omega) (e1 ▸ c_14) q7)), fun q => absurd rfl q⟩) (hP.sub [0, 1, 2] rfl) (hD.sub [0, 1, 2] rfl rfl)
    · skip
      refine lv_aload_n hx hb dX7_isWhole_19 rfl (lv_at hl 0 rfl) ?_
      refine va_get (D := D) (ci := 7) (v := .int k6b_6) (C := RX7) (T := TX7) (N := 27) hx hb hts iT_X7 hown hK1 hP 0 rfl rfl 16 (by decide) (hts _ t_567) (fun _ h9 => h9) rfl dX7_isWhole_20 ?_
      refine lv_if_ne (tgt := 30) hx hb dX7_isWhole_23 (by decide) (fun c_15 => ?_) (fun c_15 => ?_)
      · skip
        refine lv_iconst (v := 0) hx hb dX7_isWhole_30 (by decide) ?_
        exact hret _ _ _ _ _ _ 0 (k4b_4, k5b_5, k6b_6, k7b_7, ne2_8) dX7_isWhole_31 rfl hS (Nat.le_of_ble_eq_true rfl) (Nat.le_of_ble_eq_true rfl) (by have e9 := (nI_eq (by have := hw_11.1; omega) (by omega)).mp c_13; obtain ⟨q9, s9, w9, e1, e2, e3, hX⟩ := hw_12 e9; exact ⟨YN_n (fun q => isw_no0 hX q.1 (fun _ q7 => c_15 (by rw [e2, q7]; rfl))), fun q => absurd rfl q⟩) (hP.sub [0, 1, 2] rfl) (hD.sub [0, 1, 2] rfl rfl)
      · skip
        refine lv_iconst (v := 1) hx hb dX7_isWhole_26 (by decide) ?_
        refine lv_goto (tgt := 31) hx hb dX7_isWhole_27 (by decide) ?_
        exact hret _ _ _ _ _ _ 1 (k4b_4, k5b_5, k6b_6, k7b_7, ne2_8) dX7_isWhole_31 rfl hS (Nat.le_of_ble_eq_true rfl) (Nat.le_of_ble_eq_true rfl) (by have e9 := (nI_eq (by have := hw_11.1; omega) (by omega)).mp c_13; obtain ⟨q9, s9, w9, e1, e2, e3, hX⟩ := hw_12 e9; rw [e1] at c_14; rw [e2] at c_15; exact isw_y1 (e9 ▸ hw_11) hX e1 e3 c_14 c_15) (hP.sub [0, 1, 2] rfl) (hD.sub [0, 1, 2] rfl rfl)
set_option maxHeartbeats 4000000 in
set_option maxRecDepth 100000 in
theorem g_mfault_1 (sz : Nat) (m0 : Nat) (m1 : Nat) (m2 : Nat) (m3 : Nat) (m4 : Nat) (m5 : Nat) (m6 : Nat) (m7 : Nat) (m8 : Nat) (m9 : Nat) (m10 : Nat) (m11 : Nat) (m12 : Nat) (m13 : Nat) (z : Nat) (r9 : Nat) (n9 : Nat) (v : Nat) (k1 : Int32) (k2 : Int32) (k3 : Int32) (k4 : Int32) (k5 : Int32) (k6 : Int32) (k7 : Int32) (k8 : Int32) (k9 : Int32) (hv : Int64) (pf : Nat → Int32) (ne : Nat → Int32) (hz : z ≤ 16) : CTi l D cI cJ cZ cR yX7_fault cX7_fault 2 (some .int) 4 90 0 0 sz [.ref m0, .int 1] [kX7 m0 (nI z) m1 (nI r9) m2 m3 m4 m5 (nI n9) (nI v) m6 k1 k2 k3 k4 m7 k5 k6 k7 k8 m8 m9 m10 k9 m11 m12 m13 hv, kI cI m1 16 pf, kI cI m7 5 ne] (fun (r : Int32) (u : Int32 × Int32 × Int32 × Int32 × (Nat → Int32) × Nat) => (r = (nI u.2.2.2.2.2)) ∧ (FF (okF1 pf) z u.2.2.2.2.2)) (fun (u : Int32 × Int32 × Int32 × Int32 × (Nat → Int32) × Nat) => [kX7 m0 (nI z) m1 (nI r9) m2 m3 m4 m5 (nI n9) (nI v) m6 k1 k2 k3 u.1 m7 u.2.1 u.2.2.1 u.2.2.2.1 k8 m8 m9 m10 k9 m11 m12 m13 hv, kI cI m1 16 pf, kI cI m7 5 u.2.2.2.2.1]) := by
  refine CTi.of (ty := .int) (by decide) (Nat.le_of_ble_eq_true rfl) rfl ?_
  intro p e s m below meth c A Q ls hd hin hK hsz hP hD hA hS hl hret
  obtain ⟨hx, hb, hml, hown, hts⟩ := id hd
  have hK1 := hK.1
  have hown : s.vm.findClass RX7 = some m.cls := hown
  have hl : lv_has ls 2 [(0, .ref m0), (1, .int 1)] := hl
  refine lv_aload_n hx hb dX7_fault_0 rfl (lv_at hl 0 rfl) ?_
  refine lv_iload_n hx hb dX7_fault_1 rfl (lv_at hl 1 rfl) ?_
  refine xc_i (wc := [kX7 m0 (nI z) m1 (nI r9) m2 m3 m4 m5 (nI n9) (nI v) m6 k1 k2 k3 k4 m7 k5 k6 k7 k8 m8 m9 m10 k9 m11 m12 m13 hv, kI cI m1 16 pf, kI cI m7 5 ne]) (wr := []) (xrV (n := 1) (As := [.int 1]) (rest := []) (ci := 7) (q0 := 0) hd hK hP hD (g_read_1 l D cI cJ cZ cR _ m0 m1 m2 m3 m4 m5 m6 m7 m8 m9 m10 m11 m12 m13 z r9 n9 v k1 k2 k3 k4 k5 k6 k7 k8 k9 hv pf ne hz) (gV t_648 mV_X7_read) hV_X7_read ⟨(Nat.le_of_ble_eq_true rfl), (Nat.le_of_ble_eq_true rfl)⟩ rfl rfl [0, 1, 2] rfl rfl rfl hl.1 rfl (Nat.le_of_ble_eq_true rfl) dX7_fault_2 ⟨(Nat.le_of_ble_eq_true rfl), (Nat.le_of_ble_eq_true rfl)⟩) hP hD hS hA [0, 1, 2] [] rfl rfl rfl (by decide) (fun r_1 u_2 H locs hw_3 hP hD hS => ?_)
  obtain ⟨k4b_4, k5b_5, k6b_6, k7b_7, ne2_8, k_9⟩ := u_2
  obtain ⟨hw_10, hw_11, hw_12⟩ : (r_1 = (nI k_9)) ∧ (FF (okF1 pf) z k_9) ∧ (k_9 = z → TXo 0 5 5 pf z k4b_4 k6b_6 k5b_5 k7b_7 ne2_8) := hw_3
  subst hw_10
  have hP : va_P D vwCl [kX7 m0 (nI z) m1 (nI r9) m2 m3 m4 m5 (nI n9) (nI v) m6 k1 k2 k3 k4b_4 m7 k5b_5 k6b_6 k7b_7 k8 m8 m9 m10 k9 m11 m12 m13 hv, kI cI m1 16 pf, kI cI m7 5 ne2_8] H := hP
  have hD : va_D A [kX7 m0 (nI z) m1 (nI r9) m2 m3 m4 m5 (nI n9) (nI v) m6 k1 k2 k3 k4b_4 m7 k5b_5 k6b_6 k7b_7 k8 m8 m9 m10 k9 m11 m12 m13 hv, kI cI m1 16 pf, kI cI m7 5 ne2_8] := hD
  exact hret _ _ _ _ _ _ (nI k_9) (k4b_4, k5b_5, k6b_6, k7b_7, ne2_8, k_9) dX7_fault_5 rfl hS (Nat.le_of_ble_eq_true rfl) (Nat.le_of_ble_eq_true rfl) ⟨rfl, hw_11⟩ (hP.sub [0, 1, 2] rfl) (hD.sub [0, 1, 2] rfl rfl)
set_option maxHeartbeats 4000000 in
set_option maxRecDepth 100000 in
theorem c_X7_above (sz : Nat) (w : Nat) (hw : w < 32) : CTi l D cI cJ cZ cR yX7_above cX7_above 2 (some .int) 0 0 0 0 sz [.int (nI w)] [] (fun (r : Int32) (u : Nat) => (r = (nI u)) ∧ (u ≤ 5) ∧ (u = 0 ∨ 2 ^ (u - 1) ≤ w) ∧ (w < 2 ^ u)) (fun (u : Nat) => []) := by
  refine CTi.of (ty := .int) (by decide) (Nat.le_of_ble_eq_true rfl) rfl ?_
  intro p e s m below meth c A Q ls hd hin hK hsz hP hD hA hS hl hret
  obtain ⟨hx, hb, hml, hown, hts⟩ := id hd
  have hK1 := hK.1
  have hown : s.vm.findClass RX7 = some m.cls := hown
  have hl : lv_has ls 2 [(0, .int (nI w))] := hl
  refine lv_iconst (v := 0) hx hb dX7_above_0 (by decide) ?_
  refine lv_istore_n (lv' := [(1, .int 0), (0, .int (nI w))]) hx hb dX7_above_1 rfl hl (by decide) rfl (fun ls hl => ?_)
  have LOOP_2 : ∀ (n : Nat) (i : Nat), (i + n = 5) → (i = 0 ∨ 2 ^ (i - 1) ≤ w) → ∀ (H : Heap) (locs : List Loc) (ls : Array Slot), va_P D vwCl [] H → va_D A [] → va_S A s.heap H locs → lv_has ls 2 [(0, .int (nI w)), (1, .int (nI i))] → W p l e (rM 0 0 0 0) s m ([.int (nI w)] : List Value).toArray below meth c H locs 0 0 Q (F0 m 2 ls []) := by
    intro n
    induction n with
    | zero =>
      intro i hi hlo H locs ls hP hD hS hl
      refine lv_iload_n hx hb dX7_above_2 rfl (lv_at hl 0 rfl) ?_
      refine lv_iload_n hx hb dX7_above_3 rfl (lv_at hl 1 rfl) ?_
      refine lv_ishr hx hb dX7_above_4 ?_
      refine lv_nmi (show _ = (nI (w / 2 ^ i) : Int32) from shr_div hw (by omega)) ?_
      refine lv_if_eq (tgt := 14) hx hb dX7_above_5 (by decide) (fun c_1 => ?_) (fun c_1 => ?_)
      rotate_left
      · exact absurd (show nI (w / 2 ^ i) = 0 from by rw [show i = 5 by omega, div32 hw]; rfl) c_1
      refine lv_iload_n hx hb dX7_above_14 rfl (lv_at hl 1 rfl) ?_
      exact hret _ _ _ _ _ _ (nI i) i dX7_above_15 rfl hS (Nat.le_of_ble_eq_true rfl) (Nat.le_of_ble_eq_true rfl) ⟨rfl, by omega, hlo, by rw [show i = 5 by omega]; exact hw⟩ (hP.sub [] rfl) (hD.sub [] rfl rfl)
    | succ n ih_2 =>
      intro i hi hlo H locs ls hP hD hS hl
      refine lv_iload_n hx hb dX7_above_2 rfl (lv_at hl 0 rfl) ?_
      refine lv_iload_n hx hb dX7_above_3 rfl (lv_at hl 1 rfl) ?_
      refine lv_ishr hx hb dX7_above_4 ?_
      refine lv_nmi (show _ = (nI (w / 2 ^ i) : Int32) from shr_div hw (by omega)) ?_
      refine lv_if_eq (tgt := 14) hx hb dX7_above_5 (by decide) (fun c_2 => ?_) (fun c_2 => ?_)
      · skip
        refine lv_iload_n hx hb dX7_above_14 rfl (lv_at hl 1 rfl) ?_
        exact hret _ _ _ _ _ _ (nI i) i dX7_above_15 rfl hS (Nat.le_of_ble_eq_true rfl) (Nat.le_of_ble_eq_true rfl) ⟨rfl, by omega, hlo, ab_lt hw c_2⟩ (hP.sub [] rfl) (hD.sub [] rfl rfl)
      · skip
        refine lv_iinc (v := nI (i + 1)) (lv' := [(1, .int (nI (i + 1))), (0, .int (nI w))]) hx hb dX7_above_8 hl (k := 1) rfl (nI_1 i) (by decide) rfl (fun ls hl => ?_)
        refine lv_goto (tgt := 2) hx hb dX7_above_11 (by decide) ?_
        exact ih_2 (i + 1) (by omega) (ab_ge hw c_2) _ _ _ (hP.sub [] rfl) (hD.sub [] rfl rfl) hS (lv_sub hl [1, 0] rfl)
  exact LOOP_2 5 0 (by omega) (Or.inl rfl) _ _ _ (hP.sub [] rfl) (hD.sub [] rfl rfl) hS (lv_sub hl [1, 0] rfl)
end
