theorem mS_J7_fill_d0a16 : Cond.static yJ7_fill_d0a16 ∈ gT ∧ Cond.initialized yJ7_fill_d0a16.cls ∈ gT ∧ Cond.code yJ7_fill_d0a16 cJ7_fill_d0a16 5 none ∈ gT := ⟨t_464, t_10, t_465⟩
theorem hS_J7_fill_d0a16 : yJ7_fill_d0a16.cls ≠ "java/lang/invoke/MethodHandle" ∧ yJ7_fill_d0a16.cls ≠ "java/lang/invoke/VarHandle" ∧ (parseMethodDescriptor yJ7_fill_d0a16.desc).map (fun d => d.parameters.length) = some 2 := by decide +kernel
theorem mS_J7_fill_53178 : Cond.static yJ7_fill_53178 ∈ gT ∧ Cond.initialized yJ7_fill_53178.cls ∈ gT ∧ Cond.code yJ7_fill_53178 cJ7_fill_53178 4 none ∈ gT := ⟨t_390, t_10, t_391⟩
theorem hS_J7_fill_53178 : yJ7_fill_53178.cls ≠ "java/lang/invoke/MethodHandle" ∧ yJ7_fill_53178.cls ≠ "java/lang/invoke/VarHandle" ∧ (parseMethodDescriptor yJ7_fill_53178.desc).map (fun d => d.parameters.length) = some 2 := by decide +kernel
theorem mV_X1_forget : Cond.instanceMethod yX1_forget ∈ gT ∧ Cond.selects RX1 yX1_forget yX1_forget ∈ gT ∧ Cond.initialized RX1 ∈ gT ∧ Cond.code yX1_forget cX1_forget 2 none ∈ gT := ⟨t_460, ts_19, t_7, t_461⟩
theorem hV_X1_forget : yX1_forget.cls = RX1 ∧ yX1_forget.cls ≠ "java/lang/invoke/MethodHandle" ∧ yX1_forget.cls ≠ "java/lang/invoke/VarHandle" ∧ (parseMethodDescriptor yX1_forget.desc).map (fun d => d.parameters.length) = some 0 := by decide +kernel
theorem mV_X1_offer : Cond.instanceMethod yX1_offer ∈ gT ∧ Cond.selects RX1 yX1_offer yX1_offer ∈ gT ∧ Cond.initialized RX1 ∈ gT ∧ Cond.code yX1_offer cX1_offer 7 none ∈ gT := ⟨t_469, ts_20, t_7, t_470⟩
theorem hV_X1_offer : yX1_offer.cls = RX1 ∧ yX1_offer.cls ≠ "java/lang/invoke/MethodHandle" ∧ yX1_offer.cls ≠ "java/lang/invoke/VarHandle" ∧ (parseMethodDescriptor yX1_offer.desc).map (fun d => d.parameters.length) = some 4 := by decide +kernel
theorem mV_X1_nearest : Cond.instanceMethod yX1_nearest ∈ gT ∧ Cond.selects RX1 yX1_nearest yX1_nearest ∈ gT ∧ Cond.initialized RX1 ∈ gT ∧ Cond.code yX1_nearest cX1_nearest 5 (some .int) ∈ gT := ⟨t_473, ts_21, t_7, t_474⟩
theorem hV_X1_nearest : yX1_nearest.cls = RX1 ∧ yX1_nearest.cls ≠ "java/lang/invoke/MethodHandle" ∧ yX1_nearest.cls ≠ "java/lang/invoke/VarHandle" ∧ (parseMethodDescriptor yX1_nearest.desc).map (fun d => d.parameters.length) = some 0 := by decide +kernel
theorem mV_X1_settle : Cond.instanceMethod yX1_settle ∈ gT ∧ Cond.selects RX1 yX1_settle yX1_settle ∈ gT ∧ Cond.initialized RX1 ∈ gT ∧ Cond.code yX1_settle cX1_settle 3 none ∈ gT := ⟨t_477, ts_22, t_7, t_478⟩
theorem hV_X1_settle : yX1_settle.cls = RX1 ∧ yX1_settle.cls ≠ "java/lang/invoke/MethodHandle" ∧ yX1_settle.cls ≠ "java/lang/invoke/VarHandle" ∧ (parseMethodDescriptor yX1_settle.desc).map (fun d => d.parameters.length) = some 2 := by decide +kernel
theorem mV_X1_find : Cond.instanceMethod yX1_find ∈ gT ∧ Cond.selects RX1 yX1_find yX1_find ∈ gT ∧ Cond.initialized RX1 ∈ gT ∧ Cond.code yX1_find cX1_find 5 none ∈ gT := ⟨t_455, t_456, t_7, t_457⟩
theorem hV_X1_find : yX1_find.cls = RX1 ∧ yX1_find.cls ≠ "java/lang/invoke/MethodHandle" ∧ yX1_find.cls ≠ "java/lang/invoke/VarHandle" ∧ (parseMethodDescriptor yX1_find.desc).map (fun d => d.parameters.length) = some 1 := by decide +kernel
theorem mV_X6_bringLights : Cond.instanceMethod yX6_bringLights ∈ gT ∧ Cond.selects RX6 yX6_bringLights yX6_bringLights ∈ gT ∧ Cond.initialized RX6 ∈ gT ∧ Cond.code yX6_bringLights cX6_bringLights 1 none ∈ gT := ⟨t_452, ts_18, t_1, t_453⟩
theorem hV_X6_bringLights : yX6_bringLights.cls = RX6 ∧ yX6_bringLights.cls ≠ "java/lang/invoke/MethodHandle" ∧ yX6_bringLights.cls ≠ "java/lang/invoke/VarHandle" ∧ (parseMethodDescriptor yX6_bringLights.desc).map (fun d => d.parameters.length) = some 0 := by decide +kernel
theorem mV_X1_reaches : Cond.instanceMethod yX1_reaches ∈ gT ∧ Cond.selects RX1 yX1_reaches yX1_reaches ∈ gT ∧ Cond.initialized RX1 ∈ gT ∧ Cond.code yX1_reaches cX1_reaches 3 (some .boolean) ∈ gT := ⟨t_504, t_505, t_7, t_506⟩
theorem hV_X1_reaches : yX1_reaches.cls = RX1 ∧ yX1_reaches.cls ≠ "java/lang/invoke/MethodHandle" ∧ yX1_reaches.cls ≠ "java/lang/invoke/VarHandle" ∧ (parseMethodDescriptor yX1_reaches.desc).map (fun d => d.parameters.length) = some 2 := by decide +kernel
theorem mV_X1_stepsTo : Cond.instanceMethod yX1_stepsTo ∈ gT ∧ Cond.selects RX1 yX1_stepsTo yX1_stepsTo ∈ gT ∧ Cond.initialized RX1 ∈ gT ∧ Cond.code yX1_stepsTo cX1_stepsTo 3 (some .int) ∈ gT := ⟨t_512, t_513, t_7, t_514⟩
theorem hV_X1_stepsTo : yX1_stepsTo.cls = RX1 ∧ yX1_stepsTo.cls ≠ "java/lang/invoke/MethodHandle" ∧ yX1_stepsTo.cls ≠ "java/lang/invoke/VarHandle" ∧ (parseMethodDescriptor yX1_stepsTo.desc).map (fun d => d.parameters.length) = some 2 := by decide +kernel
theorem mV_X1_firstTo : Cond.instanceMethod yX1_firstTo ∈ gT ∧ Cond.selects RX1 yX1_firstTo yX1_firstTo ∈ gT ∧ Cond.initialized RX1 ∈ gT ∧ Cond.code yX1_firstTo cX1_firstTo 3 (some .int) ∈ gT := ⟨t_521, t_522, t_7, t_523⟩
theorem hV_X1_firstTo : yX1_firstTo.cls = RX1 ∧ yX1_firstTo.cls ≠ "java/lang/invoke/MethodHandle" ∧ yX1_firstTo.cls ≠ "java/lang/invoke/VarHandle" ∧ (parseMethodDescriptor yX1_firstTo.desc).map (fun d => d.parameters.length) = some 2 := by decide +kernel
theorem mV_X6_kinds : Cond.instanceMethod yX6_kinds ∈ gT ∧ Cond.selects RX6 yX6_kinds yX6_kinds ∈ gT ∧ Cond.initialized RX6 ∈ gT ∧ Cond.code yX6_kinds cX6_kinds 4 (some .int) ∈ gT := ⟨t_447, t_448, t_1, t_449⟩
theorem hV_X6_kinds : yX6_kinds.cls = RX6 ∧ yX6_kinds.cls ≠ "java/lang/invoke/MethodHandle" ∧ yX6_kinds.cls ≠ "java/lang/invoke/VarHandle" ∧ (parseMethodDescriptor yX6_kinds.desc).map (fun d => d.parameters.length) = some 1 := by decide +kernel
theorem mV_X6_light : Cond.instanceMethod yX6_light ∈ gT ∧ Cond.selects RX6 yX6_light yX6_light ∈ gT ∧ Cond.initialized RX6 ∈ gT ∧ Cond.code yX6_light cX6_light 4 (some .int) ∈ gT := ⟨t_508, t_509, t_1, t_510⟩
theorem hV_X6_light : yX6_light.cls = RX6 ∧ yX6_light.cls ≠ "java/lang/invoke/MethodHandle" ∧ yX6_light.cls ≠ "java/lang/invoke/VarHandle" ∧ (parseMethodDescriptor yX6_light.desc).map (fun d => d.parameters.length) = some 3 := by decide +kernel
theorem mV_X0_openEdges : Cond.instanceMethod yX0_openEdges ∈ gT ∧ Cond.selects RX0 yX0_openEdges yX0_openEdges ∈ gT ∧ Cond.initialized RX0 ∈ gT ∧ Cond.code yX0_openEdges cX0_openEdges 3 (some .int) ∈ gT := ⟨t_370, t_371, t_5, t_372⟩
theorem hV_X0_openEdges : yX0_openEdges.cls = RX0 ∧ yX0_openEdges.cls ≠ "java/lang/invoke/MethodHandle" ∧ yX0_openEdges.cls ≠ "java/lang/invoke/VarHandle" ∧ (parseMethodDescriptor yX0_openEdges.desc).map (fun d => d.parameters.length) = some 0 := by decide +kernel
theorem mV_X0_isDone : Cond.instanceMethod yX0_isDone ∈ gT ∧ Cond.selects RX0 yX0_isDone yX0_isDone ∈ gT ∧ Cond.initialized RX0 ∈ gT ∧ Cond.code yX0_isDone cX0_isDone 1 (some .boolean) ∈ gT := ⟨t_366, t_367, t_5, t_368⟩
theorem hV_X0_isDone : yX0_isDone.cls = RX0 ∧ yX0_isDone.cls ≠ "java/lang/invoke/MethodHandle" ∧ yX0_isDone.cls ≠ "java/lang/invoke/VarHandle" ∧ (parseMethodDescriptor yX0_isDone.desc).map (fun d => d.parameters.length) = some 0 := by decide +kernel
theorem mV_X6_kind : Cond.instanceMethod yX6_kind ∈ gT ∧ Cond.selects RX6 yX6_kind yX6_kind ∈ gT ∧ Cond.initialized RX6 ∈ gT ∧ Cond.code yX6_kind cX6_kind 1 (some .int) ∈ gT := ⟨t_362, t_363, t_1, t_364⟩
theorem hV_X6_kind : yX6_kind.cls = RX6 ∧ yX6_kind.cls ≠ "java/lang/invoke/MethodHandle" ∧ yX6_kind.cls ≠ "java/lang/invoke/VarHandle" ∧ (parseMethodDescriptor yX6_kind.desc).map (fun d => d.parameters.length) = some 0 := by decide +kernel
theorem mV_X6_fewest : Cond.instanceMethod yX6_fewest ∈ gT ∧ Cond.selects RX6 yX6_fewest yX6_fewest ∈ gT ∧ Cond.initialized RX6 ∈ gT ∧ Cond.code yX6_fewest cX6_fewest 3 (some .int) ∈ gT := ⟨t_381, t_382, t_1, t_383⟩
theorem hV_X6_fewest : yX6_fewest.cls = RX6 ∧ yX6_fewest.cls ≠ "java/lang/invoke/MethodHandle" ∧ yX6_fewest.cls ≠ "java/lang/invoke/VarHandle" ∧ (parseMethodDescriptor yX6_fewest.desc).map (fun d => d.parameters.length) = some 1 := by decide +kernel
theorem mV_X6_count : Cond.instanceMethod yX6_count ∈ gT ∧ Cond.selects RX6 yX6_count yX6_count ∈ gT ∧ Cond.initialized RX6 ∈ gT ∧ Cond.code yX6_count cX6_count 2 (some .int) ∈ gT := ⟨t_525, t_526, t_1, t_527⟩
theorem hV_X6_count : yX6_count.cls = RX6 ∧ yX6_count.cls ≠ "java/lang/invoke/MethodHandle" ∧ yX6_count.cls ≠ "java/lang/invoke/VarHandle" ∧ (parseMethodDescriptor yX6_count.desc).map (fun d => d.parameters.length) = some 1 := by decide +kernel
theorem dJ7_fill_53178_0 : decode cJ7_fill_53178 0 = .ok (.iconst 0, 1) := by decide +kernel
theorem dJ7_fill_53178_1 : decode cJ7_fill_53178 1 = .ok (.istore_n 2, 1) := by decide +kernel
theorem dJ7_fill_53178_2 : decode cJ7_fill_53178 2 = .ok (.aload_n 0, 1) := by decide +kernel
theorem dJ7_fill_53178_3 : decode cJ7_fill_53178 3 = .ok (.arraylength, 1) := by decide +kernel
theorem dJ7_fill_53178_4 : decode cJ7_fill_53178 4 = .ok (.istore_n 3, 1) := by decide +kernel
theorem dJ7_fill_53178_5 : decode cJ7_fill_53178 5 = .ok (.iload_n 2, 1) := by decide +kernel
theorem dJ7_fill_53178_6 : decode cJ7_fill_53178 6 = .ok (.iload_n 3, 1) := by decide +kernel
theorem dJ7_fill_53178_7 : decode cJ7_fill_53178 7 = .ok (.if_icmp .ge 13, 3) := by decide +kernel
theorem dJ7_fill_53178_10 : decode cJ7_fill_53178 10 = .ok (.aload_n 0, 1) := by decide +kernel
theorem dJ7_fill_53178_11 : decode cJ7_fill_53178 11 = .ok (.iload_n 2, 1) := by decide +kernel
theorem dJ7_fill_53178_12 : decode cJ7_fill_53178 12 = .ok (.iload_n 1, 1) := by decide +kernel
theorem dJ7_fill_53178_13 : decode cJ7_fill_53178 13 = .ok (.iastore, 1) := by decide +kernel
theorem dJ7_fill_53178_14 : decode cJ7_fill_53178 14 = .ok (.iinc 2 1, 3) := by decide +kernel
theorem dJ7_fill_53178_17 : decode cJ7_fill_53178 17 = .ok (.goto (-12), 3) := by decide +kernel
theorem dJ7_fill_53178_20 : decode cJ7_fill_53178 20 = .ok (.return_, 1) := by decide +kernel
theorem dJ7_fill_d0a16_0 : decode cJ7_fill_d0a16 0 = .ok (.iconst 0, 1) := by decide +kernel
theorem dJ7_fill_d0a16_1 : decode cJ7_fill_d0a16 1 = .ok (.istore_n 3, 1) := by decide +kernel
theorem dJ7_fill_d0a16_2 : decode cJ7_fill_d0a16 2 = .ok (.aload_n 0, 1) := by decide +kernel
theorem dJ7_fill_d0a16_3 : decode cJ7_fill_d0a16 3 = .ok (.arraylength, 1) := by decide +kernel
theorem dJ7_fill_d0a16_4 : decode cJ7_fill_d0a16 4 = .ok (.istore 4, 2) := by decide +kernel
theorem dJ7_fill_d0a16_6 : decode cJ7_fill_d0a16 6 = .ok (.iload_n 3, 1) := by decide +kernel
theorem dJ7_fill_d0a16_7 : decode cJ7_fill_d0a16 7 = .ok (.iload 4, 2) := by decide +kernel
theorem dJ7_fill_d0a16_9 : decode cJ7_fill_d0a16 9 = .ok (.if_icmp .ge 13, 3) := by decide +kernel
theorem dJ7_fill_d0a16_12 : decode cJ7_fill_d0a16 12 = .ok (.aload_n 0, 1) := by decide +kernel
theorem dJ7_fill_d0a16_13 : decode cJ7_fill_d0a16 13 = .ok (.iload_n 3, 1) := by decide +kernel
theorem dJ7_fill_d0a16_14 : decode cJ7_fill_d0a16 14 = .ok (.lload_n 1, 1) := by decide +kernel
theorem dJ7_fill_d0a16_15 : decode cJ7_fill_d0a16 15 = .ok (.lastore, 1) := by decide +kernel
theorem dJ7_fill_d0a16_16 : decode cJ7_fill_d0a16 16 = .ok (.iinc 3 1, 3) := by decide +kernel
theorem dJ7_fill_d0a16_19 : decode cJ7_fill_d0a16 19 = .ok (.goto (-13), 3) := by decide +kernel
theorem dJ7_fill_d0a16_22 : decode cJ7_fill_d0a16 22 = .ok (.return_, 1) := by decide +kernel
theorem dX0_isDone_0 : decode cX0_isDone 0 = .ok (.aload_n 0, 1) := by decide +kernel
theorem dX0_isDone_1 : decode cX0_isDone 1 = .ok (.getfield 9, 3) := by decide +kernel
theorem dX0_isDone_4 : decode cX0_isDone 4 = .ok (.ifCond .le 14, 3) := by decide +kernel
theorem dX0_isDone_18 : decode cX0_isDone 18 = .ok (.iconst 0, 1) := by decide +kernel
theorem dX0_isDone_19 : decode cX0_isDone 19 = .ok (.ireturn, 1) := by decide +kernel
theorem dX0_openEdges_0 : decode cX0_openEdges 0 = .ok (.iconst 0, 1) := by decide +kernel
theorem dX0_openEdges_1 : decode cX0_openEdges 1 = .ok (.istore_n 1, 1) := by decide +kernel
theorem dX0_openEdges_2 : decode cX0_openEdges 2 = .ok (.iconst 0, 1) := by decide +kernel
theorem dX0_openEdges_3 : decode cX0_openEdges 3 = .ok (.istore_n 2, 1) := by decide +kernel
theorem dX0_openEdges_4 : decode cX0_openEdges 4 = .ok (.iload_n 2, 1) := by decide +kernel
theorem dX0_openEdges_5 : decode cX0_openEdges 5 = .ok (.aload_n 0, 1) := by decide +kernel
theorem dX0_openEdges_6 : decode cX0_openEdges 6 = .ok (.getfield 9, 3) := by decide +kernel
theorem dX0_openEdges_9 : decode cX0_openEdges 9 = .ok (.if_icmp .ge 29, 3) := by decide +kernel
theorem dX0_openEdges_38 : decode cX0_openEdges 38 = .ok (.iload_n 1, 1) := by decide +kernel
theorem dX0_openEdges_39 : decode cX0_openEdges 39 = .ok (.ireturn, 1) := by decide +kernel
theorem dX1_find_0 : decode cX1_find 0 = .ok (.aload_n 0, 1) := by decide +kernel
theorem dX1_find_1 : decode cX1_find 1 = .ok (.invokevirtual 45, 3) := by decide +kernel
theorem dX1_find_4 : decode cX1_find 4 = .ok (.aload_n 0, 1) := by decide +kernel
theorem dX1_find_5 : decode cX1_find 5 = .ok (.iconst 3, 1) := by decide +kernel
theorem dX1_find_6 : decode cX1_find 6 = .ok (.bipush 9, 2) := by decide +kernel
theorem dX1_find_8 : decode cX1_find 8 = .ok (.lconst 0, 1) := by decide +kernel
theorem dX1_find_9 : decode cX1_find 9 = .ok (.iconst (-1), 1) := by decide +kernel
theorem dX1_find_10 : decode cX1_find 10 = .ok (.invokevirtual 48, 3) := by decide +kernel
theorem dX1_find_13 : decode cX1_find 13 = .ok (.aload_n 0, 1) := by decide +kernel
theorem dX1_find_14 : decode cX1_find 14 = .ok (.iconst 4, 1) := by decide +kernel
theorem dX1_find_15 : decode cX1_find 15 = .ok (.bipush 15, 2) := by decide +kernel
theorem dX1_find_17 : decode cX1_find 17 = .ok (.lconst 0, 1) := by decide +kernel
theorem dX1_find_18 : decode cX1_find 18 = .ok (.iconst (-1), 1) := by decide +kernel
theorem dX1_find_19 : decode cX1_find 19 = .ok (.invokevirtual 48, 3) := by decide +kernel
theorem dX1_find_22 : decode cX1_find 22 = .ok (.aload_n 0, 1) := by decide +kernel
theorem dX1_find_23 : decode cX1_find 23 = .ok (.iconst 5, 1) := by decide +kernel
theorem dX1_find_24 : decode cX1_find 24 = .ok (.bipush 12, 2) := by decide +kernel
theorem dX1_find_26 : decode cX1_find 26 = .ok (.lconst 0, 1) := by decide +kernel
theorem dX1_find_27 : decode cX1_find 27 = .ok (.iconst (-1), 1) := by decide +kernel
theorem dX1_find_28 : decode cX1_find 28 = .ok (.invokevirtual 48, 3) := by decide +kernel
theorem dX1_find_31 : decode cX1_find 31 = .ok (.iconst 0, 1) := by decide +kernel
theorem dX1_find_32 : decode cX1_find 32 = .ok (.istore_n 2, 1) := by decide +kernel
theorem dX1_find_33 : decode cX1_find 33 = .ok (.iload_n 2, 1) := by decide +kernel
theorem dX1_find_34 : decode cX1_find 34 = .ok (.bipush 96, 2) := by decide +kernel
theorem dX1_find_36 : decode cX1_find 36 = .ok (.if_icmp .ge 71, 3) := by decide +kernel
theorem dX1_find_39 : decode cX1_find 39 = .ok (.aload_n 0, 1) := by decide +kernel
theorem dX1_find_40 : decode cX1_find 40 = .ok (.invokevirtual 52, 3) := by decide +kernel
theorem dX1_find_43 : decode cX1_find 43 = .ok (.istore_n 3, 1) := by decide +kernel
theorem dX1_find_44 : decode cX1_find 44 = .ok (.iload_n 3, 1) := by decide +kernel
theorem dX1_find_45 : decode cX1_find 45 = .ok (.iconst (-1), 1) := by decide +kernel
theorem dX1_find_46 : decode cX1_find 46 = .ok (.if_icmp .ne 4, 3) := by decide +kernel
theorem dX1_find_49 : decode cX1_find 49 = .ok (.return_, 1) := by decide +kernel
theorem dX1_find_50 : decode cX1_find 50 = .ok (.aload_n 0, 1) := by decide +kernel
theorem dX1_find_51 : decode cX1_find 51 = .ok (.iload_n 3, 1) := by decide +kernel
theorem dX1_find_52 : decode cX1_find 52 = .ok (.bipush 16, 2) := by decide +kernel
theorem dX1_find_54 : decode cX1_find 54 = .ok (.idiv, 1) := by decide +kernel
theorem dX1_find_55 : decode cX1_find 55 = .ok (.iload_n 3, 1) := by decide +kernel
theorem dX1_find_56 : decode cX1_find 56 = .ok (.bipush 16, 2) := by decide +kernel
theorem dX1_find_58 : decode cX1_find 58 = .ok (.irem, 1) := by decide +kernel
theorem dX1_find_59 : decode cX1_find 59 = .ok (.invokevirtual 56, 3) := by decide +kernel
theorem dX1_find_62 : decode cX1_find 62 = .ok (.iconst 0, 1) := by decide +kernel
theorem dX1_find_63 : decode cX1_find 63 = .ok (.istore 4, 2) := by decide +kernel
theorem dX1_find_65 : decode cX1_find 65 = .ok (.iload 4, 2) := by decide +kernel
theorem dX1_find_67 : decode cX1_find 67 = .ok (.aload_n 1, 1) := by decide +kernel
theorem dX1_find_68 : decode cX1_find 68 = .ok (.getfield 60, 3) := by decide +kernel
theorem dX1_find_71 : decode cX1_find 71 = .ok (.if_icmp .ge 30, 3) := by decide +kernel
theorem dX1_find_101 : decode cX1_find 101 = .ok (.iinc 2 1, 3) := by decide +kernel
theorem dX1_find_104 : decode cX1_find 104 = .ok (.goto (-71), 3) := by decide +kernel
theorem dX1_firstTo_0 : decode cX1_firstTo 0 = .ok (.aload_n 0, 1) := by decide +kernel
theorem dX1_firstTo_1 : decode cX1_firstTo 1 = .ok (.getfield 15, 3) := by decide +kernel
theorem dX1_firstTo_4 : decode cX1_firstTo 4 = .ok (.iload_n 1, 1) := by decide +kernel
theorem dX1_firstTo_5 : decode cX1_firstTo 5 = .ok (.bipush 16, 2) := by decide +kernel
theorem dX1_firstTo_7 : decode cX1_firstTo 7 = .ok (.imul, 1) := by decide +kernel
theorem dX1_firstTo_8 : decode cX1_firstTo 8 = .ok (.iload_n 2, 1) := by decide +kernel
theorem dX1_firstTo_9 : decode cX1_firstTo 9 = .ok (.iadd, 1) := by decide +kernel
theorem dX1_firstTo_10 : decode cX1_firstTo 10 = .ok (.iaload, 1) := by decide +kernel
theorem dX1_firstTo_11 : decode cX1_firstTo 11 = .ok (.ireturn, 1) := by decide +kernel
theorem dX1_forget_0 : decode cX1_forget 0 = .ok (.aload_n 0, 1) := by decide +kernel
theorem dX1_forget_1 : decode cX1_forget 1 = .ok (.getfield 11, 3) := by decide +kernel
theorem dX1_forget_4 : decode cX1_forget 4 = .ok (.ldc2_w 29, 3) := by decide +kernel
theorem dX1_forget_7 : decode cX1_forget 7 = .ok (.invokestatic 74, 3) := by decide +kernel
theorem dX1_forget_10 : decode cX1_forget 10 = .ok (.aload_n 0, 1) := by decide +kernel
theorem dX1_forget_11 : decode cX1_forget 11 = .ok (.getfield 15, 3) := by decide +kernel
theorem dX1_forget_14 : decode cX1_forget 14 = .ok (.iconst (-1), 1) := by decide +kernel
theorem dX1_forget_15 : decode cX1_forget 15 = .ok (.invokestatic 80, 3) := by decide +kernel
theorem dX1_forget_18 : decode cX1_forget 18 = .ok (.aload_n 0, 1) := by decide +kernel
theorem dX1_forget_19 : decode cX1_forget 19 = .ok (.getfield 26, 3) := by decide +kernel
theorem dX1_forget_22 : decode cX1_forget 22 = .ok (.iconst 0, 1) := by decide +kernel
theorem dX1_forget_23 : decode cX1_forget 23 = .ok (.invokestatic 80, 3) := by decide +kernel
theorem dX1_forget_26 : decode cX1_forget 26 = .ok (.iconst 0, 1) := by decide +kernel
theorem dX1_forget_27 : decode cX1_forget 27 = .ok (.istore_n 1, 1) := by decide +kernel
theorem dX1_forget_28 : decode cX1_forget 28 = .ok (.iload_n 1, 1) := by decide +kernel
theorem dX1_forget_29 : decode cX1_forget 29 = .ok (.bipush 96, 2) := by decide +kernel
theorem dX1_forget_31 : decode cX1_forget 31 = .ok (.if_icmp .ge 16, 3) := by decide +kernel
theorem dX1_forget_34 : decode cX1_forget 34 = .ok (.aload_n 0, 1) := by decide +kernel
theorem dX1_forget_35 : decode cX1_forget 35 = .ok (.getfield 19, 3) := by decide +kernel
theorem dX1_forget_38 : decode cX1_forget 38 = .ok (.iload_n 1, 1) := by decide +kernel
theorem dX1_forget_39 : decode cX1_forget 39 = .ok (.iconst 0, 1) := by decide +kernel
theorem dX1_forget_40 : decode cX1_forget 40 = .ok (.bastore, 1) := by decide +kernel
theorem dX1_forget_41 : decode cX1_forget 41 = .ok (.iinc 1 1, 3) := by decide +kernel
theorem dX1_forget_44 : decode cX1_forget 44 = .ok (.goto (-16), 3) := by decide +kernel
theorem dX1_forget_47 : decode cX1_forget 47 = .ok (.return_, 1) := by decide +kernel
theorem dX1_nearest_0 : decode cX1_nearest 0 = .ok (.iconst (-1), 1) := by decide +kernel
theorem dX1_nearest_1 : decode cX1_nearest 1 = .ok (.istore_n 1, 1) := by decide +kernel
theorem dX1_nearest_2 : decode cX1_nearest 2 = .ok (.ldc2_w 29, 3) := by decide +kernel
theorem dX1_nearest_5 : decode cX1_nearest 5 = .ok (.lstore_n 2, 1) := by decide +kernel
theorem dX1_nearest_6 : decode cX1_nearest 6 = .ok (.iconst 0, 1) := by decide +kernel
theorem dX1_nearest_7 : decode cX1_nearest 7 = .ok (.istore 4, 2) := by decide +kernel
theorem dX1_nearest_9 : decode cX1_nearest 9 = .ok (.iload 4, 2) := by decide +kernel
theorem dX1_nearest_11 : decode cX1_nearest 11 = .ok (.bipush 96, 2) := by decide +kernel
theorem dX1_nearest_13 : decode cX1_nearest 13 = .ok (.if_icmp .ge 42, 3) := by decide +kernel
theorem dX1_nearest_16 : decode cX1_nearest 16 = .ok (.aload_n 0, 1) := by decide +kernel
theorem dX1_nearest_17 : decode cX1_nearest 17 = .ok (.getfield 19, 3) := by decide +kernel
theorem dX1_nearest_20 : decode cX1_nearest 20 = .ok (.iload 4, 2) := by decide +kernel
theorem dX1_nearest_22 : decode cX1_nearest 22 = .ok (.baload, 1) := by decide +kernel
theorem dX1_nearest_23 : decode cX1_nearest 23 = .ok (.ifCond .ne 26, 3) := by decide +kernel
theorem dX1_nearest_26 : decode cX1_nearest 26 = .ok (.aload_n 0, 1) := by decide +kernel
theorem dX1_nearest_27 : decode cX1_nearest 27 = .ok (.getfield 11, 3) := by decide +kernel
theorem dX1_nearest_30 : decode cX1_nearest 30 = .ok (.iload 4, 2) := by decide +kernel
theorem dX1_nearest_32 : decode cX1_nearest 32 = .ok (.laload, 1) := by decide +kernel
theorem dX1_nearest_33 : decode cX1_nearest 33 = .ok (.lload_n 2, 1) := by decide +kernel
theorem dX1_nearest_34 : decode cX1_nearest 34 = .ok (.lcmp, 1) := by decide +kernel
theorem dX1_nearest_35 : decode cX1_nearest 35 = .ok (.ifCond .ge 14, 3) := by decide +kernel
theorem dX1_nearest_38 : decode cX1_nearest 38 = .ok (.iload 4, 2) := by decide +kernel
theorem dX1_nearest_40 : decode cX1_nearest 40 = .ok (.istore_n 1, 1) := by decide +kernel
theorem dX1_nearest_41 : decode cX1_nearest 41 = .ok (.aload_n 0, 1) := by decide +kernel
theorem dX1_nearest_42 : decode cX1_nearest 42 = .ok (.getfield 11, 3) := by decide +kernel
theorem dX1_nearest_45 : decode cX1_nearest 45 = .ok (.iload 4, 2) := by decide +kernel
theorem dX1_nearest_47 : decode cX1_nearest 47 = .ok (.laload, 1) := by decide +kernel
theorem dX1_nearest_48 : decode cX1_nearest 48 = .ok (.lstore_n 2, 1) := by decide +kernel
theorem dX1_nearest_49 : decode cX1_nearest 49 = .ok (.iinc 4 1, 3) := by decide +kernel
theorem dX1_nearest_52 : decode cX1_nearest 52 = .ok (.goto (-43), 3) := by decide +kernel
theorem dX1_nearest_55 : decode cX1_nearest 55 = .ok (.iload_n 1, 1) := by decide +kernel
theorem dX1_nearest_56 : decode cX1_nearest 56 = .ok (.ireturn, 1) := by decide +kernel
theorem dX1_offer_0 : decode cX1_offer 0 = .ok (.iload_n 1, 1) := by decide +kernel
theorem dX1_offer_1 : decode cX1_offer 1 = .ok (.bipush 16, 2) := by decide +kernel
theorem dX1_offer_3 : decode cX1_offer 3 = .ok (.imul, 1) := by decide +kernel
theorem dX1_offer_4 : decode cX1_offer 4 = .ok (.iload_n 2, 1) := by decide +kernel
theorem dX1_offer_5 : decode cX1_offer 5 = .ok (.iadd, 1) := by decide +kernel
theorem dX1_offer_6 : decode cX1_offer 6 = .ok (.istore 6, 2) := by decide +kernel
theorem dX1_offer_8 : decode cX1_offer 8 = .ok (.lload_n 3, 1) := by decide +kernel
theorem dX1_offer_9 : decode cX1_offer 9 = .ok (.aload_n 0, 1) := by decide +kernel
theorem dX1_offer_10 : decode cX1_offer 10 = .ok (.getfield 11, 3) := by decide +kernel
theorem dX1_offer_13 : decode cX1_offer 13 = .ok (.iload 6, 2) := by decide +kernel
theorem dX1_offer_15 : decode cX1_offer 15 = .ok (.laload, 1) := by decide +kernel
theorem dX1_offer_16 : decode cX1_offer 16 = .ok (.lcmp, 1) := by decide +kernel
theorem dX1_offer_17 : decode cX1_offer 17 = .ok (.ifCond .ge 23, 3) := by decide +kernel
theorem dX1_offer_20 : decode cX1_offer 20 = .ok (.aload_n 0, 1) := by decide +kernel
theorem dX1_offer_21 : decode cX1_offer 21 = .ok (.getfield 11, 3) := by decide +kernel
theorem dX1_offer_24 : decode cX1_offer 24 = .ok (.iload 6, 2) := by decide +kernel
theorem dX1_offer_26 : decode cX1_offer 26 = .ok (.lload_n 3, 1) := by decide +kernel
theorem dX1_offer_27 : decode cX1_offer 27 = .ok (.lastore, 1) := by decide +kernel
theorem dX1_offer_28 : decode cX1_offer 28 = .ok (.aload_n 0, 1) := by decide +kernel
theorem dX1_offer_29 : decode cX1_offer 29 = .ok (.getfield 15, 3) := by decide +kernel
theorem dX1_offer_32 : decode cX1_offer 32 = .ok (.iload 6, 2) := by decide +kernel
theorem dX1_offer_34 : decode cX1_offer 34 = .ok (.iload 5, 2) := by decide +kernel
theorem dX1_offer_36 : decode cX1_offer 36 = .ok (.iastore, 1) := by decide +kernel
theorem dX1_offer_37 : decode cX1_offer 37 = .ok (.goto 36, 3) := by decide +kernel
theorem dX1_offer_73 : decode cX1_offer 73 = .ok (.return_, 1) := by decide +kernel
theorem dX1_reaches_0 : decode cX1_reaches 0 = .ok (.aload_n 0, 1) := by decide +kernel
theorem dX1_reaches_1 : decode cX1_reaches 1 = .ok (.getfield 11, 3) := by decide +kernel
theorem dX1_reaches_4 : decode cX1_reaches 4 = .ok (.iload_n 1, 1) := by decide +kernel
theorem dX1_reaches_5 : decode cX1_reaches 5 = .ok (.bipush 16, 2) := by decide +kernel
theorem dX1_reaches_7 : decode cX1_reaches 7 = .ok (.imul, 1) := by decide +kernel
theorem dX1_reaches_8 : decode cX1_reaches 8 = .ok (.iload_n 2, 1) := by decide +kernel
theorem dX1_reaches_9 : decode cX1_reaches 9 = .ok (.iadd, 1) := by decide +kernel
theorem dX1_reaches_10 : decode cX1_reaches 10 = .ok (.laload, 1) := by decide +kernel
theorem dX1_reaches_11 : decode cX1_reaches 11 = .ok (.ldc2_w 29, 3) := by decide +kernel
theorem dX1_reaches_14 : decode cX1_reaches 14 = .ok (.lcmp, 1) := by decide +kernel
theorem dX1_reaches_15 : decode cX1_reaches 15 = .ok (.ifCond .ge 7, 3) := by decide +kernel
theorem dX1_reaches_22 : decode cX1_reaches 22 = .ok (.iconst 0, 1) := by decide +kernel
theorem dX1_reaches_23 : decode cX1_reaches 23 = .ok (.ireturn, 1) := by decide +kernel
theorem dX1_settle_0 : decode cX1_settle 0 = .ok (.aload_n 0, 1) := by decide +kernel
theorem dX1_settle_1 : decode cX1_settle 1 = .ok (.getfield 19, 3) := by decide +kernel
theorem dX1_settle_4 : decode cX1_settle 4 = .ok (.iload_n 1, 1) := by decide +kernel
theorem dX1_settle_5 : decode cX1_settle 5 = .ok (.bipush 16, 2) := by decide +kernel
theorem dX1_settle_7 : decode cX1_settle 7 = .ok (.imul, 1) := by decide +kernel
theorem dX1_settle_8 : decode cX1_settle 8 = .ok (.iload_n 2, 1) := by decide +kernel
theorem dX1_settle_9 : decode cX1_settle 9 = .ok (.iadd, 1) := by decide +kernel
theorem dX1_settle_10 : decode cX1_settle 10 = .ok (.iconst 1, 1) := by decide +kernel
theorem dX1_settle_11 : decode cX1_settle 11 = .ok (.bastore, 1) := by decide +kernel
theorem dX1_settle_12 : decode cX1_settle 12 = .ok (.aload_n 0, 1) := by decide +kernel
theorem dX1_settle_13 : decode cX1_settle 13 = .ok (.getfield 23, 3) := by decide +kernel
theorem dX1_settle_16 : decode cX1_settle 16 = .ok (.iload_n 1, 1) := by decide +kernel
theorem dX1_settle_17 : decode cX1_settle 17 = .ok (.bipush 16, 2) := by decide +kernel
theorem dX1_settle_19 : decode cX1_settle 19 = .ok (.imul, 1) := by decide +kernel
theorem dX1_settle_20 : decode cX1_settle 20 = .ok (.aload_n 0, 1) := by decide +kernel
theorem dX1_settle_21 : decode cX1_settle 21 = .ok (.getfield 26, 3) := by decide +kernel
theorem dX1_settle_24 : decode cX1_settle 24 = .ok (.iload_n 1, 1) := by decide +kernel
theorem dX1_settle_25 : decode cX1_settle 25 = .ok (.iaload, 1) := by decide +kernel
theorem dX1_settle_26 : decode cX1_settle 26 = .ok (.iadd, 1) := by decide +kernel
theorem dX1_settle_27 : decode cX1_settle 27 = .ok (.iload_n 2, 1) := by decide +kernel
theorem dX1_settle_28 : decode cX1_settle 28 = .ok (.iastore, 1) := by decide +kernel
theorem dX1_settle_29 : decode cX1_settle 29 = .ok (.aload_n 0, 1) := by decide +kernel
theorem dX1_settle_30 : decode cX1_settle 30 = .ok (.getfield 26, 3) := by decide +kernel
theorem dX1_settle_33 : decode cX1_settle 33 = .ok (.iload_n 1, 1) := by decide +kernel
theorem dX1_settle_34 : decode cX1_settle 34 = .ok (.dup2, 1) := by decide +kernel
theorem dX1_settle_35 : decode cX1_settle 35 = .ok (.iaload, 1) := by decide +kernel
theorem dX1_settle_36 : decode cX1_settle 36 = .ok (.iconst 1, 1) := by decide +kernel
theorem dX1_settle_37 : decode cX1_settle 37 = .ok (.iadd, 1) := by decide +kernel
theorem dX1_settle_38 : decode cX1_settle 38 = .ok (.iastore, 1) := by decide +kernel
theorem dX1_settle_39 : decode cX1_settle 39 = .ok (.return_, 1) := by decide +kernel
theorem dX1_stepsTo_0 : decode cX1_stepsTo 0 = .ok (.aload_n 0, 1) := by decide +kernel
theorem dX1_stepsTo_1 : decode cX1_stepsTo 1 = .ok (.iload_n 1, 1) := by decide +kernel
theorem dX1_stepsTo_2 : decode cX1_stepsTo 2 = .ok (.iload_n 2, 1) := by decide +kernel
theorem dX1_stepsTo_3 : decode cX1_stepsTo 3 = .ok (.invokevirtual 31, 3) := by decide +kernel
theorem dX1_stepsTo_6 : decode cX1_stepsTo 6 = .ok (.ifCond .eq 24, 3) := by decide +kernel
theorem dX1_stepsTo_30 : decode cX1_stepsTo 30 = .ok (.iconst (-1), 1) := by decide +kernel
theorem dX1_stepsTo_31 : decode cX1_stepsTo 31 = .ok (.ireturn, 1) := by decide +kernel
theorem dX6_bringLights_0 : decode cX6_bringLights 0 = .ok (.aload_n 0, 1) := by decide +kernel
theorem dX6_bringLights_1 : decode cX6_bringLights 1 = .ok (.getfield 50, 3) := by decide +kernel
theorem dX6_bringLights_4 : decode cX6_bringLights 4 = .ok (.ifCond .ne 19, 3) := by decide +kernel
theorem dX6_bringLights_7 : decode cX6_bringLights 7 = .ok (.aload_n 0, 1) := by decide +kernel
theorem dX6_bringLights_8 : decode cX6_bringLights 8 = .ok (.getfield 42, 3) := by decide +kernel
theorem dX6_bringLights_11 : decode cX6_bringLights 11 = .ok (.aload_n 0, 1) := by decide +kernel
theorem dX6_bringLights_12 : decode cX6_bringLights 12 = .ok (.getfield 19, 3) := by decide +kernel
theorem dX6_bringLights_15 : decode cX6_bringLights 15 = .ok (.invokevirtual 206, 3) := by decide +kernel
theorem dX6_bringLights_18 : decode cX6_bringLights 18 = .ok (.aload_n 0, 1) := by decide +kernel
theorem dX6_bringLights_19 : decode cX6_bringLights 19 = .ok (.iconst 1, 1) := by decide +kernel
theorem dX6_bringLights_20 : decode cX6_bringLights 20 = .ok (.putfield 50, 3) := by decide +kernel
theorem dX6_bringLights_23 : decode cX6_bringLights 23 = .ok (.return_, 1) := by decide +kernel
theorem dX6_count_0 : decode cX6_count 0 = .ok (.iload_n 1, 1) := by decide +kernel
theorem dX6_count_1 : decode cX6_count 1 = .ok (.tableswitch 102 0 7 #[47, 55, 63, 71, 79, 87, 92, 97], 47) := by decide +kernel
theorem dX6_count_48 : decode cX6_count 48 = .ok (.aload_n 0, 1) := by decide +kernel
theorem dX6_count_49 : decode cX6_count 49 = .ok (.getfield 10, 3) := by decide +kernel
theorem dX6_count_52 : decode cX6_count 52 = .ok (.getfield 63, 3) := by decide +kernel
theorem dX6_count_55 : decode cX6_count 55 = .ok (.ireturn, 1) := by decide +kernel
theorem dX6_count_56 : decode cX6_count 56 = .ok (.aload_n 0, 1) := by decide +kernel
theorem dX6_count_57 : decode cX6_count 57 = .ok (.getfield 19, 3) := by decide +kernel
theorem dX6_count_60 : decode cX6_count 60 = .ok (.getfield 80, 3) := by decide +kernel
theorem dX6_count_63 : decode cX6_count 63 = .ok (.ireturn, 1) := by decide +kernel
theorem dX6_count_64 : decode cX6_count 64 = .ok (.aload_n 0, 1) := by decide +kernel
theorem dX6_count_65 : decode cX6_count 65 = .ok (.getfield 28, 3) := by decide +kernel
theorem dX6_count_68 : decode cX6_count 68 = .ok (.getfield 102, 3) := by decide +kernel
theorem dX6_count_71 : decode cX6_count 71 = .ok (.ireturn, 1) := by decide +kernel
theorem dX6_count_72 : decode cX6_count 72 = .ok (.aload_n 0, 1) := by decide +kernel
theorem dX6_count_73 : decode cX6_count 73 = .ok (.getfield 28, 3) := by decide +kernel
theorem dX6_count_76 : decode cX6_count 76 = .ok (.getfield 115, 3) := by decide +kernel
theorem dX6_count_79 : decode cX6_count 79 = .ok (.ireturn, 1) := by decide +kernel
theorem dX6_count_80 : decode cX6_count 80 = .ok (.aload_n 0, 1) := by decide +kernel
theorem dX6_count_81 : decode cX6_count 81 = .ok (.getfield 28, 3) := by decide +kernel
theorem dX6_count_84 : decode cX6_count 84 = .ok (.invokevirtual 170, 3) := by decide +kernel
theorem dX6_count_87 : decode cX6_count 87 = .ok (.ireturn, 1) := by decide +kernel
theorem dX6_count_88 : decode cX6_count 88 = .ok (.aload_n 0, 1) := by decide +kernel
theorem dX6_count_89 : decode cX6_count 89 = .ok (.getfield 53, 3) := by decide +kernel
theorem dX6_count_92 : decode cX6_count 92 = .ok (.ireturn, 1) := by decide +kernel
theorem dX6_count_93 : decode cX6_count 93 = .ok (.aload_n 0, 1) := by decide +kernel
theorem dX6_count_94 : decode cX6_count 94 = .ok (.getfield 57, 3) := by decide +kernel
theorem dX6_count_97 : decode cX6_count 97 = .ok (.ireturn, 1) := by decide +kernel
theorem dX6_count_98 : decode cX6_count 98 = .ok (.aload_n 0, 1) := by decide +kernel
theorem dX6_count_99 : decode cX6_count 99 = .ok (.getfield 60, 3) := by decide +kernel
theorem dX6_count_102 : decode cX6_count 102 = .ok (.ireturn, 1) := by decide +kernel
theorem dX6_count_103 : decode cX6_count 103 = .ok (.sipush (-1002), 3) := by decide +kernel
theorem dX6_count_106 : decode cX6_count 106 = .ok (.ireturn, 1) := by decide +kernel
theorem dX6_fewest_0 : decode cX6_fewest 0 = .ok (.iload_n 1, 1) := by decide +kernel
theorem dX6_fewest_1 : decode cX6_fewest 1 = .ok (.invokestatic 123, 3) := by decide +kernel
theorem dX6_fewest_4 : decode cX6_fewest 4 = .ok (.ifCond .ne 7, 3) := by decide +kernel
theorem dX6_fewest_7 : decode cX6_fewest 7 = .ok (.sipush (-1001), 3) := by decide +kernel
theorem dX6_fewest_10 : decode cX6_fewest 10 = .ok (.ireturn, 1) := by decide +kernel
theorem dX6_fewest_11 : decode cX6_fewest 11 = .ok (.aload_n 0, 1) := by decide +kernel
theorem dX6_fewest_12 : decode cX6_fewest 12 = .ok (.getfield 28, 3) := by decide +kernel
theorem dX6_fewest_15 : decode cX6_fewest 15 = .ok (.invokevirtual 140, 3) := by decide +kernel
theorem dX6_fewest_18 : decode cX6_fewest 18 = .ok (.ifCond .eq 25, 3) := by decide +kernel
theorem dX6_fewest_43 : decode cX6_fewest 43 = .ok (.sipush (-1003), 3) := by decide +kernel
theorem dX6_fewest_46 : decode cX6_fewest 46 = .ok (.ireturn, 1) := by decide +kernel
theorem dX6_kind_0 : decode cX6_kind 0 = .ok (.aload_n 0, 1) := by decide +kernel
theorem dX6_kind_1 : decode cX6_kind 1 = .ok (.getfield 28, 3) := by decide +kernel
theorem dX6_kind_4 : decode cX6_kind 4 = .ok (.invokevirtual 140, 3) := by decide +kernel
theorem dX6_kind_7 : decode cX6_kind 7 = .ok (.ifCond .eq 13, 3) := by decide +kernel
theorem dX6_kind_20 : decode cX6_kind 20 = .ok (.sipush (-1003), 3) := by decide +kernel
theorem dX6_kind_23 : decode cX6_kind 23 = .ok (.ireturn, 1) := by decide +kernel
theorem dX6_kinds_0 : decode cX6_kinds 0 = .ok (.iload_n 1, 1) := by decide +kernel
theorem dX6_kinds_1 : decode cX6_kinds 1 = .ok (.invokestatic 123, 3) := by decide +kernel
theorem dX6_kinds_4 : decode cX6_kinds 4 = .ok (.ifCond .ne 7, 3) := by decide +kernel
theorem dX6_kinds_7 : decode cX6_kinds 7 = .ok (.sipush (-1001), 3) := by decide +kernel
theorem dX6_kinds_10 : decode cX6_kinds 10 = .ok (.ireturn, 1) := by decide +kernel
theorem dX6_kinds_11 : decode cX6_kinds 11 = .ok (.aload_n 0, 1) := by decide +kernel
theorem dX6_kinds_12 : decode cX6_kinds 12 = .ok (.invokevirtual 156, 3) := by decide +kernel
theorem dX6_kinds_15 : decode cX6_kinds 15 = .ok (.iconst 0, 1) := by decide +kernel
theorem dX6_kinds_16 : decode cX6_kinds 16 = .ok (.istore_n 2, 1) := by decide +kernel
theorem dX6_kinds_17 : decode cX6_kinds 17 = .ok (.iconst 0, 1) := by decide +kernel
theorem dX6_kinds_18 : decode cX6_kinds 18 = .ok (.istore_n 3, 1) := by decide +kernel
theorem dX6_kinds_19 : decode cX6_kinds 19 = .ok (.iload_n 3, 1) := by decide +kernel
theorem dX6_kinds_20 : decode cX6_kinds 20 = .ok (.bipush 16, 2) := by decide +kernel
theorem dX6_kinds_22 : decode cX6_kinds 22 = .ok (.if_icmp .ge 27, 3) := by decide +kernel
theorem dX6_kinds_25 : decode cX6_kinds 25 = .ok (.aload_n 0, 1) := by decide +kernel
theorem dX6_kinds_26 : decode cX6_kinds 26 = .ok (.getfield 42, 3) := by decide +kernel
theorem dX6_kinds_29 : decode cX6_kinds 29 = .ok (.iload_n 1, 1) := by decide +kernel
theorem dX6_kinds_30 : decode cX6_kinds 30 = .ok (.iload_n 3, 1) := by decide +kernel
theorem dX6_kinds_31 : decode cX6_kinds 31 = .ok (.invokevirtual 159, 3) := by decide +kernel
theorem dX6_kinds_34 : decode cX6_kinds 34 = .ok (.ifCond .eq 9, 3) := by decide +kernel
theorem dX6_kinds_43 : decode cX6_kinds 43 = .ok (.iinc 3 1, 3) := by decide +kernel
theorem dX6_kinds_46 : decode cX6_kinds 46 = .ok (.goto (-27), 3) := by decide +kernel
theorem dX6_kinds_49 : decode cX6_kinds 49 = .ok (.iload_n 2, 1) := by decide +kernel
theorem dX6_kinds_50 : decode cX6_kinds 50 = .ok (.ireturn, 1) := by decide +kernel
theorem dX6_light_0 : decode cX6_light 0 = .ok (.iload_n 1, 1) := by decide +kernel
theorem dX6_light_1 : decode cX6_light 1 = .ok (.invokestatic 123, 3) := by decide +kernel
theorem dX6_light_4 : decode cX6_light 4 = .ok (.ifCond .ne 7, 3) := by decide +kernel
theorem dX6_light_7 : decode cX6_light 7 = .ok (.sipush (-1001), 3) := by decide +kernel
theorem dX6_light_10 : decode cX6_light 10 = .ok (.ireturn, 1) := by decide +kernel
theorem dX6_light_11 : decode cX6_light 11 = .ok (.iload_n 2, 1) := by decide +kernel
theorem dX6_light_12 : decode cX6_light 12 = .ok (.ifCond .lt 18, 3) := by decide +kernel
theorem dX6_light_15 : decode cX6_light 15 = .ok (.iload_n 2, 1) := by decide +kernel
theorem dX6_light_16 : decode cX6_light 16 = .ok (.bipush 16, 2) := by decide +kernel
theorem dX6_light_18 : decode cX6_light 18 = .ok (.if_icmp .ge 12, 3) := by decide +kernel
theorem dX6_light_21 : decode cX6_light 21 = .ok (.iload_n 3, 1) := by decide +kernel
theorem dX6_light_22 : decode cX6_light 22 = .ok (.ifCond .lt 8, 3) := by decide +kernel
theorem dX6_light_25 : decode cX6_light 25 = .ok (.iload_n 3, 1) := by decide +kernel
theorem dX6_light_26 : decode cX6_light 26 = .ok (.iconst 1, 1) := by decide +kernel
theorem dX6_light_27 : decode cX6_light 27 = .ok (.if_icmp .le 7, 3) := by decide +kernel
theorem dX6_light_30 : decode cX6_light 30 = .ok (.sipush (-1002), 3) := by decide +kernel
theorem dX6_light_33 : decode cX6_light 33 = .ok (.ireturn, 1) := by decide +kernel
theorem dX6_light_34 : decode cX6_light 34 = .ok (.aload_n 0, 1) := by decide +kernel
theorem dX6_light_35 : decode cX6_light 35 = .ok (.invokevirtual 156, 3) := by decide +kernel
theorem dX6_light_38 : decode cX6_light 38 = .ok (.iload_n 3, 1) := by decide +kernel
theorem dX6_light_39 : decode cX6_light 39 = .ok (.ifCond .ne 15, 3) := by decide +kernel
theorem dX6_light_42 : decode cX6_light 42 = .ok (.aload_n 0, 1) := by decide +kernel
theorem dX6_light_43 : decode cX6_light 43 = .ok (.getfield 42, 3) := by decide +kernel
theorem dX6_light_46 : decode cX6_light 46 = .ok (.iload_n 1, 1) := by decide +kernel
theorem dX6_light_47 : decode cX6_light 47 = .ok (.iload_n 2, 1) := by decide +kernel
theorem dX6_light_48 : decode cX6_light 48 = .ok (.invokevirtual 163, 3) := by decide +kernel
theorem dX6_light_51 : decode cX6_light 51 = .ok (.goto 12, 3) := by decide +kernel
theorem dX6_light_54 : decode cX6_light 54 = .ok (.aload_n 0, 1) := by decide +kernel
theorem dX6_light_55 : decode cX6_light 55 = .ok (.getfield 42, 3) := by decide +kernel
theorem dX6_light_58 : decode cX6_light 58 = .ok (.iload_n 1, 1) := by decide +kernel
theorem dX6_light_59 : decode cX6_light 59 = .ok (.iload_n 2, 1) := by decide +kernel
theorem dX6_light_60 : decode cX6_light 60 = .ok (.invokevirtual 167, 3) := by decide +kernel
theorem dX6_light_63 : decode cX6_light 63 = .ok (.ireturn, 1) := by decide +kernel
section
variable (l : Launch) (D : va_G) (cI cJ cZ cR : ClassId)
set_option maxHeartbeats 4000000 in
set_option maxRecDepth 100000 in
theorem c_J7_fill_d0a16 (sz : Nat) (h0 : Nat) (N : Nat) (ff : Nat → Int64) (p1 : Int64) (hN : N < 2147483648) : CTv l D cI cJ cZ cR yJ7_fill_d0a16 cJ7_fill_d0a16 5 none 0 0 0 0 sz [.ref h0, .long p1] [(h0, .inl (cJ, N, .inr (.inl ff)))] (fun (u : Unit) => True) (fun (u : Unit) => [(h0, .inl (cJ, N, .inr (.inl (fun _ => p1))))]) := by
  refine CTv.of (by decide) (Nat.le_of_ble_eq_true rfl) rfl ?_
  intro p e s m below meth c A Q ls hd hin hK hsz hP hD hA hS hl hret
  obtain ⟨hx, hb, hml, hown, hts⟩ := id hd
  have hK1 := hK.1
  have hown : s.vm.findClass RJ7 = some m.cls := hown
  have hl : lv_has ls 5 [(0, .ref h0), (1, .long p1)] := hl
  refine lv_iconst (v := 0) hx hb dJ7_fill_d0a16_0 (by decide) ?_
  refine lv_istore_n (lv' := [(3, .int 0), (0, .ref h0), (1, .long p1)]) hx hb dJ7_fill_d0a16_1 rfl hl (by decide) rfl (fun ls hl => ?_)
  refine lv_aload_n hx hb dJ7_fill_d0a16_2 rfl (lv_at hl 1 rfl) ?_
  refine va_alen hx hb hK1 hP 0 1 rfl rfl (v := (nI N)) rfl dJ7_fill_d0a16_3 ?_
  refine lv_istore (lv' := [(4, .int (nI N)), (3, .int 0), (0, .ref h0), (1, .long p1)]) hx hb dJ7_fill_d0a16_4 hl (by decide) rfl (fun ls hl => ?_)
  have LOOP_6 : ∀ (n : Nat) (i : Nat) (gg : Nat → Int64), (i + n = N) → (∀ j, j < i → gg j = p1) → ∀ (H : Heap) (locs : List Loc) (ls : Array Slot), va_P D vwCl [(h0, .inl (cJ, N, .inr (.inl gg)))] H → va_D A [(h0, .inl (cJ, N, .inr (.inl gg)))] → va_S A s.heap H locs → lv_has ls 5 [(0, .ref h0), (1, .long p1), (3, .int (nI i)), (4, .int (nI N))] → W p l e (rM 0 0 0 0) s m ([.ref h0, .long p1] : List Value).toArray below meth c H locs 0 0 Q (F0 m 6 ls []) := by
    intro n
    induction n with
    | zero =>
      intro i gg hi hg H locs ls hP hD hS hl
      obtain ⟨hP, hD⟩ := va_P.rowJ (g := fun _ => p1) 0 hP hD rfl (fun j hj => hg j (by omega))
      have hP : va_P D vwCl [(h0, .inl (cJ, N, .inr (.inl (fun _ => p1))))] H := hP
      have hD : va_D A [(h0, .inl (cJ, N, .inr (.inl (fun _ => p1))))] := hD
      refine lv_iload_n hx hb dJ7_fill_d0a16_6 rfl (lv_at hl 2 rfl) ?_
      refine lv_iload hx hb dJ7_fill_d0a16_7 (lv_at hl 3 rfl) ?_
      refine lv_icmp_ge (tgt := 22) hx hb dJ7_fill_d0a16_9 (by decide) (fun c_1 => ?_) (fun c_1 => ?_)
      rotate_left
      · exact absurd (nI_le (a := N) (b := i) (by omega) (by omega)) c_1
      exact hret _ _ _ _ _ _ () dJ7_fill_d0a16_22 hS (Nat.le_of_ble_eq_true rfl) (Nat.le_of_ble_eq_true rfl) trivial (hP.sub [0] rfl) (hD.sub [0] rfl rfl)
    | succ n ih_6 =>
      intro i gg hi hg H locs ls hP hD hS hl
      refine lv_iload_n hx hb dJ7_fill_d0a16_6 rfl (lv_at hl 2 rfl) ?_
      refine lv_iload hx hb dJ7_fill_d0a16_7 (lv_at hl 3 rfl) ?_
      refine lv_icmp_ge (tgt := 22) hx hb dJ7_fill_d0a16_9 (by decide) (fun c_2 => ?_) (fun c_2 => ?_)
      · exact absurd c_2 (nI_ge (a := i) (b := N) (by omega) (by omega))
      refine lv_aload_n hx hb dJ7_fill_d0a16_12 rfl (lv_at hl 0 rfl) ?_
      refine lv_iload_n hx hb dJ7_fill_d0a16_13 rfl (lv_at hl 2 rfl) ?_
      refine lv_lload_n hx hb dJ7_fill_d0a16_14 rfl (lv_at hl 1 rfl) ?_
      refine va_last hx hb hK1 hP hD hS 0 1 rfl rfl (vp_in_nI (by omega) (by omega)) dJ7_fill_d0a16_15 (fun H locs hP hD hS => ?_)
      rw [nI_clamp (n := i) (by omega)] at hP hD
      have hP : va_P D vwCl [(h0, .inl (cJ, N, .inr (.inl (vp_updL gg i p1))))] H := hP
      have hD : va_D A [(h0, .inl (cJ, N, .inr (.inl (vp_updL gg i p1))))] := hD
      refine lv_iinc (v := nI (i + 1)) (lv' := [(3, .int (nI (i + 1))), (0, .ref h0), (1, .long p1), (4, .int (nI N))]) hx hb dJ7_fill_d0a16_16 hl (k := 2) rfl (nI_1 i) (by decide) rfl (fun ls hl => ?_)
      refine lv_goto (tgt := 6) hx hb dJ7_fill_d0a16_19 (by decide) ?_
      exact ih_6 (i + 1) (vp_updL gg i p1) (by omega) (upL_lt hg) _ _ _ (hP.sub [0] rfl) (hD.sub [0] rfl rfl) hS (lv_sub hl [1, 2, 0, 3] rfl)
  exact LOOP_6 N 0 ff (by omega) (fun j hj => absurd hj (by omega)) _ _ _ (hP.sub [0] rfl) (hD.sub [0] rfl rfl) hS (lv_sub hl [2, 3, 1, 0] rfl)
set_option maxHeartbeats 4000000 in
set_option maxRecDepth 100000 in
theorem c_J7_fill_53178 (sz : Nat) (h0 : Nat) (N : Nat) (ff : Nat → Int32) (p1 : Int32) (hN : N < 2147483648) : CTv l D cI cJ cZ cR yJ7_fill_53178 cJ7_fill_53178 4 none 0 0 0 0 sz [.ref h0, .int p1] [(h0, .inl (cI, N, .inl ff))] (fun (u : Unit) => True) (fun (u : Unit) => [(h0, .inl (cI, N, .inl (fun _ => p1)))]) := by
  refine CTv.of (by decide) (Nat.le_of_ble_eq_true rfl) rfl ?_
  intro p e s m below meth c A Q ls hd hin hK hsz hP hD hA hS hl hret
  obtain ⟨hx, hb, hml, hown, hts⟩ := id hd
  have hK1 := hK.1
  have hown : s.vm.findClass RJ7 = some m.cls := hown
  have hl : lv_has ls 4 [(0, .ref h0), (1, .int p1)] := hl
  refine lv_iconst (v := 0) hx hb dJ7_fill_53178_0 (by decide) ?_
  refine lv_istore_n (lv' := [(2, .int 0), (0, .ref h0), (1, .int p1)]) hx hb dJ7_fill_53178_1 rfl hl (by decide) rfl (fun ls hl => ?_)
  refine lv_aload_n hx hb dJ7_fill_53178_2 rfl (lv_at hl 1 rfl) ?_
  refine va_alen hx hb hK1 hP 0 0 rfl rfl (v := (nI N)) rfl dJ7_fill_53178_3 ?_
  refine lv_istore_n (lv' := [(3, .int (nI N)), (2, .int 0), (0, .ref h0), (1, .int p1)]) hx hb dJ7_fill_53178_4 rfl hl (by decide) rfl (fun ls hl => ?_)
  have LOOP_5 : ∀ (n : Nat) (i : Nat) (gg : Nat → Int32), (i + n = N) → (∀ j, j < i → gg j = p1) → ∀ (H : Heap) (locs : List Loc) (ls : Array Slot), va_P D vwCl [(h0, .inl (cI, N, .inl gg))] H → va_D A [(h0, .inl (cI, N, .inl gg))] → va_S A s.heap H locs → lv_has ls 4 [(0, .ref h0), (1, .int p1), (2, .int (nI i)), (3, .int (nI N))] → W p l e (rM 0 0 0 0) s m ([.ref h0, .int p1] : List Value).toArray below meth c H locs 0 0 Q (F0 m 5 ls []) := by
    intro n
    induction n with
    | zero =>
      intro i gg hi hg H locs ls hP hD hS hl
      obtain ⟨hP, hD⟩ := va_P.rowI (g := fun _ => p1) 0 hP hD rfl (fun j hj => hg j (by omega))
      have hP : va_P D vwCl [(h0, .inl (cI, N, .inl (fun _ => p1)))] H := hP
      have hD : va_D A [(h0, .inl (cI, N, .inl (fun _ => p1)))] := hD
      refine lv_iload_n hx hb dJ7_fill_53178_5 rfl (lv_at hl 2 rfl) ?_
      refine lv_iload_n hx hb dJ7_fill_53178_6 rfl (lv_at hl 3 rfl) ?_
      refine lv_icmp_ge (tgt := 20) hx hb dJ7_fill_53178_7 (by decide) (fun c_1 => ?_) (fun c_1 => ?_)
      rotate_left
      · exact absurd (nI_le (a := N) (b := i) (by omega) (by omega)) c_1
      exact hret _ _ _ _ _ _ () dJ7_fill_53178_20 hS (Nat.le_of_ble_eq_true rfl) (Nat.le_of_ble_eq_true rfl) trivial (hP.sub [0] rfl) (hD.sub [0] rfl rfl)
    | succ n ih_5 =>
      intro i gg hi hg H locs ls hP hD hS hl
      refine lv_iload_n hx hb dJ7_fill_53178_5 rfl (lv_at hl 2 rfl) ?_
      refine lv_iload_n hx hb dJ7_fill_53178_6 rfl (lv_at hl 3 rfl) ?_
      refine lv_icmp_ge (tgt := 20) hx hb dJ7_fill_53178_7 (by decide) (fun c_2 => ?_) (fun c_2 => ?_)
      · exact absurd c_2 (nI_ge (a := i) (b := N) (by omega) (by omega))
      refine lv_aload_n hx hb dJ7_fill_53178_10 rfl (lv_at hl 0 rfl) ?_
      refine lv_iload_n hx hb dJ7_fill_53178_11 rfl (lv_at hl 2 rfl) ?_
      refine lv_iload_n hx hb dJ7_fill_53178_12 rfl (lv_at hl 1 rfl) ?_
      refine va_iast hx hb hK1 hP hD hS 0 0 rfl rfl (vp_in_nI (by omega) (by omega)) dJ7_fill_53178_13 (fun H locs hP hD hS => ?_)
      rw [nI_clamp (n := i) (by omega)] at hP hD
      have hP : va_P D vwCl [(h0, .inl (cI, N, .inl (upd gg i p1)))] H := hP
      have hD : va_D A [(h0, .inl (cI, N, .inl (upd gg i p1)))] := hD
      refine lv_iinc (v := nI (i + 1)) (lv' := [(2, .int (nI (i + 1))), (0, .ref h0), (1, .int p1), (3, .int (nI N))]) hx hb dJ7_fill_53178_14 hl (k := 2) rfl (nI_1 i) (by decide) rfl (fun ls hl => ?_)
      refine lv_goto (tgt := 5) hx hb dJ7_fill_53178_17 (by decide) ?_
      exact ih_5 (i + 1) (upd gg i p1) (by omega) (up_lt hg) _ _ _ (hP.sub [0] rfl) (hD.sub [0] rfl rfl) hS (lv_sub hl [1, 2, 0, 3] rfl)
  exact LOOP_5 N 0 ff (by omega) (fun j hj => absurd hj (by omega)) _ _ _ (hP.sub [0] rfl) (hD.sub [0] rfl rfl) hS (lv_sub hl [2, 3, 1, 0] rfl)
set_option maxHeartbeats 4000000 in
set_option maxRecDepth 100000 in
theorem c_X1_forget (sz : Nat) (lg : Nat) (l1 : Nat) (l2 : Nat) (l3 : Nat) (l4 : Nat) (l5 : Nat) (ff : Nat → Int64) (gf : Nat → Int32) (zf : Nat → Int32) (kf : Nat → Int32) (cf : Nat → Int32)  : CTv l D cI cJ cZ cR yX1_forget cX1_forget 2 none 1 24 0 0 sz [.ref lg] [(lg, .inr (1, [.ref l1, .ref l2, .ref l3, .ref l4, .ref l5])), (l1, .inl (cJ, 96, .inr (.inl ff))), (l2, .inl (cI, 96, .inl gf)), (l3, .inl (cZ, 96, .inl zf)), (l4, .inl (cI, 96, .inl kf)), (l5, .inl (cI, 6, .inl cf))] (fun (u : Unit) => True) (fun (u : Unit) => [(lg, .inr (1, [.ref l1, .ref l2, .ref l3, .ref l4, .ref l5])), (l1, .inl (cJ, 96, .inr (.inl (fun _ => 2305843009213693952)))), (l2, .inl (cI, 96, .inl (fun _ => (-1)))), (l3, .inl (cZ, 96, .inl (fun _ => 0))), (l4, .inl (cI, 96, .inl kf)), (l5, .inl (cI, 6, .inl (fun _ => 0)))]) := by
  refine CTv.of (by decide) (Nat.le_of_ble_eq_true rfl) rfl ?_
  intro p e s m below meth c A Q ls hd hin hK hsz hP hD hA hS hl hret
  obtain ⟨hx, hb, hml, hown, hts⟩ := id hd
  have hK1 := hK.1
  have hown : s.vm.findClass RX1 = some m.cls := hown
  have hl : lv_has ls 2 [(0, .ref lg)] := hl
  refine lv_aload_n hx hb dX1_forget_0 rfl (lv_at hl 0 rfl) ?_
  refine va_get (D := D) (ci := 1) (v := .ref l1) (C := RX1) (T := TX1) (N := 5) hx hb hts iT_X1 hown hK1 hP 0 rfl rfl 0 (by decide) (hts _ t_136) (fun _ h9 => h9) rfl dX1_forget_1 ?_
  refine lv_ldc2 hx hb hown (hts _ t_462) dX1_forget_4 ?_
  refine xc_v (wc := [(l1, .inl (cJ, 96, .inr (.inl ff)))]) (wr := [(lg, .inr (1, [.ref l1, .ref l2, .ref l3, .ref l4, .ref l5])), (l2, .inl (cI, 96, .inl gf)), (l3, .inl (cZ, 96, .inl zf)), (l4, .inl (cI, 96, .inl kf)), (l5, .inl (cI, 6, .inl cf))]) (xrS (n := 2) (As := [.ref l1, .long 2305843009213693952]) (rest := []) hd hK hP hD (c_J7_fill_d0a16 l D cI cJ cZ cR _ l1 96 ff 2305843009213693952 (by decide)) (gS t_463 mS_J7_fill_d0a16) hS_J7_fill_d0a16 ⟨(Nat.le_of_ble_eq_true rfl), (Nat.le_of_ble_eq_true rfl)⟩ [1] rfl rfl rfl hl.1 rfl (Nat.le_of_ble_eq_true rfl) dX1_forget_7 ⟨(Nat.le_of_ble_eq_true rfl), (Nat.le_of_ble_eq_true rfl)⟩) hP hD hS hA [1] [0, 2, 3, 4, 5] rfl rfl rfl (by decide) (fun u_2 H locs hw_3 hP hD hS => ?_)
  have hP : va_P D vwCl [(lg, .inr (1, [.ref l1, .ref l2, .ref l3, .ref l4, .ref l5])), (l2, .inl (cI, 96, .inl gf)), (l3, .inl (cZ, 96, .inl zf)), (l4, .inl (cI, 96, .inl kf)), (l5, .inl (cI, 6, .inl cf)), (l1, .inl (cJ, 96, .inr (.inl (fun _ => 2305843009213693952))))] H := hP
  have hD : va_D A [(lg, .inr (1, [.ref l1, .ref l2, .ref l3, .ref l4, .ref l5])), (l2, .inl (cI, 96, .inl gf)), (l3, .inl (cZ, 96, .inl zf)), (l4, .inl (cI, 96, .inl kf)), (l5, .inl (cI, 6, .inl cf)), (l1, .inl (cJ, 96, .inr (.inl (fun _ => 2305843009213693952))))] := hD
  refine lv_aload_n hx hb dX1_forget_10 rfl (lv_at hl 0 rfl) ?_
  refine va_get (D := D) (ci := 1) (v := .ref l2) (C := RX1) (T := TX1) (N := 5) hx hb hts iT_X1 hown hK1 hP 0 rfl rfl 1 (by decide) (hts _ t_137) (fun _ h9 => h9) rfl dX1_forget_11 ?_
  refine lv_iconst (v := -1) hx hb dX1_forget_14 (by decide) ?_
  refine xc_v (wc := [(l2, .inl (cI, 96, .inl gf))]) (wr := [(lg, .inr (1, [.ref l1, .ref l2, .ref l3, .ref l4, .ref l5])), (l3, .inl (cZ, 96, .inl zf)), (l4, .inl (cI, 96, .inl kf)), (l5, .inl (cI, 6, .inl cf)), (l1, .inl (cJ, 96, .inr (.inl (fun _ => 2305843009213693952))))]) (xrS (n := 2) (As := [.ref l2, .int (-1)]) (rest := []) hd hK hP hD (c_J7_fill_53178 l D cI cJ cZ cR _ l2 96 gf (-1) (by decide)) (gS t_466 mS_J7_fill_53178) hS_J7_fill_53178 ⟨(Nat.le_of_ble_eq_true rfl), (Nat.le_of_ble_eq_true rfl)⟩ [1] rfl rfl rfl hl.1 rfl (Nat.le_of_ble_eq_true rfl) dX1_forget_15 ⟨(Nat.le_of_ble_eq_true rfl), (Nat.le_of_ble_eq_true rfl)⟩) hP hD hS hA [1] [0, 2, 3, 4, 5] rfl rfl rfl (by decide) (fun u_5 H locs hw_6 hP hD hS => ?_)
  have hP : va_P D vwCl [(lg, .inr (1, [.ref l1, .ref l2, .ref l3, .ref l4, .ref l5])), (l3, .inl (cZ, 96, .inl zf)), (l4, .inl (cI, 96, .inl kf)), (l5, .inl (cI, 6, .inl cf)), (l1, .inl (cJ, 96, .inr (.inl (fun _ => 2305843009213693952)))), (l2, .inl (cI, 96, .inl (fun _ => (-1))))] H := hP
  have hD : va_D A [(lg, .inr (1, [.ref l1, .ref l2, .ref l3, .ref l4, .ref l5])), (l3, .inl (cZ, 96, .inl zf)), (l4, .inl (cI, 96, .inl kf)), (l5, .inl (cI, 6, .inl cf)), (l1, .inl (cJ, 96, .inr (.inl (fun _ => 2305843009213693952)))), (l2, .inl (cI, 96, .inl (fun _ => (-1))))] := hD
  refine lv_aload_n hx hb dX1_forget_18 rfl (lv_at hl 0 rfl) ?_
  refine va_get (D := D) (ci := 1) (v := .ref l5) (C := RX1) (T := TX1) (N := 5) hx hb hts iT_X1 hown hK1 hP 0 rfl rfl 4 (by decide) (hts _ t_140) (fun _ h9 => h9) rfl dX1_forget_19 ?_
  refine lv_iconst (v := 0) hx hb dX1_forget_22 (by decide) ?_
  refine xc_v (wc := [(l5, .inl (cI, 6, .inl cf))]) (wr := [(lg, .inr (1, [.ref l1, .ref l2, .ref l3, .ref l4, .ref l5])), (l3, .inl (cZ, 96, .inl zf)), (l4, .inl (cI, 96, .inl kf)), (l1, .inl (cJ, 96, .inr (.inl (fun _ => 2305843009213693952)))), (l2, .inl (cI, 96, .inl (fun _ => (-1))))]) (xrS (n := 2) (As := [.ref l5, .int 0]) (rest := []) hd hK hP hD (c_J7_fill_53178 l D cI cJ cZ cR _ l5 6 cf 0 (by decide)) (gS t_466 mS_J7_fill_53178) hS_J7_fill_53178 ⟨(Nat.le_of_ble_eq_true rfl), (Nat.le_of_ble_eq_true rfl)⟩ [3] rfl rfl rfl hl.1 rfl (Nat.le_of_ble_eq_true rfl) dX1_forget_23 ⟨(Nat.le_of_ble_eq_true rfl), (Nat.le_of_ble_eq_true rfl)⟩) hP hD hS hA [3] [0, 1, 2, 4, 5] rfl rfl rfl (by decide) (fun u_8 H locs hw_9 hP hD hS => ?_)
  have hP : va_P D vwCl [(lg, .inr (1, [.ref l1, .ref l2, .ref l3, .ref l4, .ref l5])), (l3, .inl (cZ, 96, .inl zf)), (l4, .inl (cI, 96, .inl kf)), (l1, .inl (cJ, 96, .inr (.inl (fun _ => 2305843009213693952)))), (l2, .inl (cI, 96, .inl (fun _ => (-1)))), (l5, .inl (cI, 6, .inl (fun _ => 0)))] H := hP
  have hD : va_D A [(lg, .inr (1, [.ref l1, .ref l2, .ref l3, .ref l4, .ref l5])), (l3, .inl (cZ, 96, .inl zf)), (l4, .inl (cI, 96, .inl kf)), (l1, .inl (cJ, 96, .inr (.inl (fun _ => 2305843009213693952)))), (l2, .inl (cI, 96, .inl (fun _ => (-1)))), (l5, .inl (cI, 6, .inl (fun _ => 0)))] := hD
  refine lv_iconst (v := 0) hx hb dX1_forget_26 (by decide) ?_
  refine lv_istore_n (lv' := [(1, .int 0), (0, .ref lg)]) hx hb dX1_forget_27 rfl hl (by decide) rfl (fun ls hl => ?_)
  have LOOP_28 : ∀ (n : Nat) (i : Nat) (zz : Nat → Int32), (i + n = 96) → (∀ j, j < i → zz j = 0) → ∀ (H : Heap) (locs : List Loc) (ls : Array Slot), va_P D vwCl [(lg, .inr (1, [.ref l1, .ref l2, .ref l3, .ref l4, .ref l5])), (l1, .inl (cJ, 96, .inr (.inl (fun _ => 2305843009213693952)))), (l2, .inl (cI, 96, .inl (fun _ => (-1)))), (l3, .inl (cZ, 96, .inl zz)), (l4, .inl (cI, 96, .inl kf)), (l5, .inl (cI, 6, .inl (fun _ => 0)))] H → va_D A [(lg, .inr (1, [.ref l1, .ref l2, .ref l3, .ref l4, .ref l5])), (l1, .inl (cJ, 96, .inr (.inl (fun _ => 2305843009213693952)))), (l2, .inl (cI, 96, .inl (fun _ => (-1)))), (l3, .inl (cZ, 96, .inl zz)), (l4, .inl (cI, 96, .inl kf)), (l5, .inl (cI, 6, .inl (fun _ => 0)))] → va_S A s.heap H locs → lv_has ls 2 [(0, .ref lg), (1, .int (nI i))] → W p l e (rM 1 0 0 24) s m ([.ref lg] : List Value).toArray below meth c H locs 0 0 Q (F0 m 28 ls []) := by
    intro n
    induction n with
    | zero =>
      intro i zz hi hg H locs ls hP hD hS hl
      obtain ⟨hP, hD⟩ := va_P.rowI (g := fun _ => 0) 3 hP hD rfl (fun j hj => hg j (by omega))
      have hP : va_P D vwCl [(lg, .inr (1, [.ref l1, .ref l2, .ref l3, .ref l4, .ref l5])), (l1, .inl (cJ, 96, .inr (.inl (fun _ => 2305843009213693952)))), (l2, .inl (cI, 96, .inl (fun _ => (-1)))), (l3, .inl (cZ, 96, .inl (fun _ => 0))), (l4, .inl (cI, 96, .inl kf)), (l5, .inl (cI, 6, .inl (fun _ => 0)))] H := hP
      have hD : va_D A [(lg, .inr (1, [.ref l1, .ref l2, .ref l3, .ref l4, .ref l5])), (l1, .inl (cJ, 96, .inr (.inl (fun _ => 2305843009213693952)))), (l2, .inl (cI, 96, .inl (fun _ => (-1)))), (l3, .inl (cZ, 96, .inl (fun _ => 0))), (l4, .inl (cI, 96, .inl kf)), (l5, .inl (cI, 6, .inl (fun _ => 0)))] := hD
      refine lv_iload_n hx hb dX1_forget_28 rfl (lv_at hl 1 rfl) ?_
      refine lv_bipush (v := 96) hx hb dX1_forget_29 (by decide) ?_
      refine lv_icmp_ge (tgt := 47) hx hb dX1_forget_31 (by decide) (fun c_10 => ?_) (fun c_10 => ?_)
      rotate_left
      · exact absurd (nI_le (a := 96) (b := i) (by omega) (by omega)) c_10
      exact hret _ _ _ _ _ _ () dX1_forget_47 hS (Nat.le_of_ble_eq_true rfl) (Nat.le_of_ble_eq_true rfl) trivial (hP.sub [0, 1, 2, 3, 4, 5] rfl) (hD.sub [0, 1, 2, 3, 4, 5] rfl rfl)
    | succ n ih_28 =>
      intro i zz hi hg H locs ls hP hD hS hl
      refine lv_iload_n hx hb dX1_forget_28 rfl (lv_at hl 1 rfl) ?_
      refine lv_bipush (v := 96) hx hb dX1_forget_29 (by decide) ?_
      refine lv_icmp_ge (tgt := 47) hx hb dX1_forget_31 (by decide) (fun c_11 => ?_) (fun c_11 => ?_)
      · exact absurd c_11 (nI_ge (a := i) (b := 96) (by omega) (by omega))
      refine lv_aload_n hx hb dX1_forget_34 rfl (lv_at hl 0 rfl) ?_
      refine va_get (D := D) (ci := 1) (v := .ref l3) (C := RX1) (T := TX1) (N := 5) hx hb hts iT_X1 hown hK1 hP 0 rfl rfl 2 (by decide) (hts _ t_138) (fun _ h9 => h9) rfl dX1_forget_35 ?_
      refine lv_iload_n hx hb dX1_forget_38 rfl (lv_at hl 1 rfl) ?_
      refine lv_iconst (v := 0) hx hb dX1_forget_39 (by decide) ?_
      refine va_zast hx hb hK1 hP hD hS 3 2 rfl rfl (vp_in_nI (by omega) (by omega)) dX1_forget_40 (fun H locs hP hD hS => ?_)
      rw [nI_clamp (n := i) (by omega)] at hP hD
      have hP : va_P D vwCl [(lg, .inr (1, [.ref l1, .ref l2, .ref l3, .ref l4, .ref l5])), (l1, .inl (cJ, 96, .inr (.inl (fun _ => 2305843009213693952)))), (l2, .inl (cI, 96, .inl (fun _ => (-1)))), (l3, .inl (cZ, 96, .inl (upd zz i 0))), (l4, .inl (cI, 96, .inl kf)), (l5, .inl (cI, 6, .inl (fun _ => 0)))] H := hP
      have hD : va_D A [(lg, .inr (1, [.ref l1, .ref l2, .ref l3, .ref l4, .ref l5])), (l1, .inl (cJ, 96, .inr (.inl (fun _ => 2305843009213693952)))), (l2, .inl (cI, 96, .inl (fun _ => (-1)))), (l3, .inl (cZ, 96, .inl (upd zz i 0))), (l4, .inl (cI, 96, .inl kf)), (l5, .inl (cI, 6, .inl (fun _ => 0)))] := hD
      refine lv_iinc (v := nI (i + 1)) (lv' := [(1, .int (nI (i + 1))), (0, .ref lg)]) hx hb dX1_forget_41 hl (k := 1) rfl (nI_1 i) (by decide) rfl (fun ls hl => ?_)
      refine lv_goto (tgt := 28) hx hb dX1_forget_44 (by decide) ?_
      exact ih_28 (i + 1) (upd zz i 0) (by omega) (up_lt hg) _ _ _ (hP.sub [0, 1, 2, 3, 4, 5] rfl) (hD.sub [0, 1, 2, 3, 4, 5] rfl rfl) hS (lv_sub hl [1, 0] rfl)
  exact LOOP_28 96 0 zf (by omega) (fun j hj => absurd hj (by omega)) _ _ _ (hP.sub [0, 3, 4, 1, 2, 5] rfl) (hD.sub [0, 3, 4, 1, 2, 5] rfl rfl) hS (lv_sub hl [1, 0] rfl)
set_option maxHeartbeats 4000000 in
set_option maxRecDepth 100000 in
theorem c_offer_57 (sz : Nat) (lg : Nat) (l1 : Nat) (l2 : Nat) (l3 : Nat) (l4 : Nat) (l5 : Nat) (ff : Nat → Int64) (gf : Nat → Int32) (zf : Nat → Int32) (kf : Nat → Int32) (cf : Nat → Int32) (hf : ff 57 = 2305843009213693952) : CTv l D cI cJ cZ cR yX1_offer cX1_offer 7 none 0 0 0 0 sz [.ref lg, .int 3, .int 9, .long 0, .int (-1)] [(lg, .inr (1, [.ref l1, .ref l2, .ref l3, .ref l4, .ref l5])), (l1, .inl (cJ, 96, .inr (.inl ff))), (l2, .inl (cI, 96, .inl gf)), (l3, .inl (cZ, 96, .inl zf)), (l4, .inl (cI, 96, .inl kf)), (l5, .inl (cI, 6, .inl cf))] (fun (u : Unit) => True) (fun (u : Unit) => [(lg, .inr (1, [.ref l1, .ref l2, .ref l3, .ref l4, .ref l5])), (l1, .inl (cJ, 96, .inr (.inl (vp_updL ff 57 0)))), (l2, .inl (cI, 96, .inl (upd gf 57 (-1)))), (l3, .inl (cZ, 96, .inl zf)), (l4, .inl (cI, 96, .inl kf)), (l5, .inl (cI, 6, .inl cf))]) := by
  refine CTv.of (by decide) (Nat.le_of_ble_eq_true rfl) rfl ?_
  intro p e s m below meth c A Q ls hd hin hK hsz hP hD hA hS hl hret
  obtain ⟨hx, hb, hml, hown, hts⟩ := id hd
  have hK1 := hK.1
  have hown : s.vm.findClass RX1 = some m.cls := hown
  have hl : lv_has ls 7 [(0, .ref lg), (1, .int 3), (2, .int 9), (3, .long 0), (5, .int (-1))] := hl
  refine lv_iload_n hx hb dX1_offer_0 rfl (lv_at hl 1 rfl) ?_
  refine lv_bipush (v := 16) hx hb dX1_offer_1 (by decide) ?_
  refine lv_imul hx hb dX1_offer_3 ?_
  refine lv_nmi (show _ = (48 : Int32) from by decide +kernel) ?_
  refine lv_iload_n hx hb dX1_offer_4 rfl (lv_at hl 2 rfl) ?_
  refine lv_iadd hx hb dX1_offer_5 ?_
  refine lv_nmi (show _ = (57 : Int32) from by decide +kernel) ?_
  refine lv_istore (lv' := [(6, .int 57), (0, .ref lg), (1, .int 3), (2, .int 9), (3, .long 0), (5, .int (-1))]) hx hb dX1_offer_6 hl (by decide) rfl (fun ls hl => ?_)
  refine lv_lload_n hx hb dX1_offer_8 rfl (lv_at hl 4 rfl) ?_
  refine lv_aload_n hx hb dX1_offer_9 rfl (lv_at hl 1 rfl) ?_
  refine va_get (D := D) (ci := 1) (v := .ref l1) (C := RX1) (T := TX1) (N := 5) hx hb hts iT_X1 hown hK1 hP 0 rfl rfl 0 (by decide) (hts _ t_136) (fun _ h9 => h9) rfl dX1_offer_10 ?_
  refine lv_iload hx hb dX1_offer_13 (lv_at hl 0 rfl) ?_
  refine va_lald hx hb hK1 hP 1 1 rfl rfl (vin (by decide)) dX1_offer_15 ?_
  refine lv_nml (show _ = ff 57 from rfl) ?_
  refine lv_nml (show _ = (2305843009213693952 : Int64) from hf) ?_
  refine W.lcmp hx hb dX1_offer_16 ?_
  refine lv_nmi (show _ = (-1 : Int32) from by decide +kernel) ?_
  refine lv_if_ge (tgt := 40) hx hb dX1_offer_17 (by decide) (fun c_1 => ?_) (fun c_1 => ?_)
  · exact absurd c_1 (by decide)
  refine lv_aload_n hx hb dX1_offer_20 rfl (lv_at hl 1 rfl) ?_
  refine va_get (D := D) (ci := 1) (v := .ref l1) (C := RX1) (T := TX1) (N := 5) hx hb hts iT_X1 hown hK1 hP 0 rfl rfl 0 (by decide) (hts _ t_136) (fun _ h9 => h9) rfl dX1_offer_21 ?_
  refine lv_iload hx hb dX1_offer_24 (lv_at hl 0 rfl) ?_
  refine lv_lload_n hx hb dX1_offer_26 rfl (lv_at hl 4 rfl) ?_
  refine va_last hx hb hK1 hP hD hS 1 1 rfl rfl (vin (by decide)) dX1_offer_27 (fun H locs hP hD hS => ?_)
  have hP : va_P D vwCl [(lg, .inr (1, [.ref l1, .ref l2, .ref l3, .ref l4, .ref l5])), (l1, .inl (cJ, 96, .inr (.inl (vp_updL ff 57 0)))), (l2, .inl (cI, 96, .inl gf)), (l3, .inl (cZ, 96, .inl zf)), (l4, .inl (cI, 96, .inl kf)), (l5, .inl (cI, 6, .inl cf))] H := hP
  have hD : va_D A [(lg, .inr (1, [.ref l1, .ref l2, .ref l3, .ref l4, .ref l5])), (l1, .inl (cJ, 96, .inr (.inl (vp_updL ff 57 0)))), (l2, .inl (cI, 96, .inl gf)), (l3, .inl (cZ, 96, .inl zf)), (l4, .inl (cI, 96, .inl kf)), (l5, .inl (cI, 6, .inl cf))] := hD
  refine lv_aload_n hx hb dX1_offer_28 rfl (lv_at hl 1 rfl) ?_
  refine va_get (D := D) (ci := 1) (v := .ref l2) (C := RX1) (T := TX1) (N := 5) hx hb hts iT_X1 hown hK1 hP 0 rfl rfl 1 (by decide) (hts _ t_137) (fun _ h9 => h9) rfl dX1_offer_29 ?_
  refine lv_iload hx hb dX1_offer_32 (lv_at hl 0 rfl) ?_
  refine lv_iload hx hb dX1_offer_34 (lv_at hl 5 rfl) ?_
  refine va_iast hx hb hK1 hP hD hS 2 0 rfl rfl (vin (by decide)) dX1_offer_36 (fun H locs hP hD hS => ?_)
  have hP : va_P D vwCl [(lg, .inr (1, [.ref l1, .ref l2, .ref l3, .ref l4, .ref l5])), (l1, .inl (cJ, 96, .inr (.inl (vp_updL ff 57 0)))), (l2, .inl (cI, 96, .inl (upd gf 57 (-1)))), (l3, .inl (cZ, 96, .inl zf)), (l4, .inl (cI, 96, .inl kf)), (l5, .inl (cI, 6, .inl cf))] H := hP
  have hD : va_D A [(lg, .inr (1, [.ref l1, .ref l2, .ref l3, .ref l4, .ref l5])), (l1, .inl (cJ, 96, .inr (.inl (vp_updL ff 57 0)))), (l2, .inl (cI, 96, .inl (upd gf 57 (-1)))), (l3, .inl (cZ, 96, .inl zf)), (l4, .inl (cI, 96, .inl kf)), (l5, .inl (cI, 6, .inl cf))] := hD
  refine lv_goto (tgt := 73) hx hb dX1_offer_37 (by decide) ?_
  exact hret _ _ _ _ _ _ () dX1_offer_73 hS (Nat.le_of_ble_eq_true rfl) (Nat.le_of_ble_eq_true rfl) trivial (hP.sub [0, 1, 2, 3, 4, 5] rfl) (hD.sub [0, 1, 2, 3, 4, 5] rfl rfl)
set_option maxHeartbeats 4000000 in
set_option maxRecDepth 100000 in
theorem c_offer_79 (sz : Nat) (lg : Nat) (l1 : Nat) (l2 : Nat) (l3 : Nat) (l4 : Nat) (l5 : Nat) (ff : Nat → Int64) (gf : Nat → Int32) (zf : Nat → Int32) (kf : Nat → Int32) (cf : Nat → Int32) (hf : ff 79 = 2305843009213693952) : CTv l D cI cJ cZ cR yX1_offer cX1_offer 7 none 0 0 0 0 sz [.ref lg, .int 4, .int 15, .long 0, .int (-1)] [(lg, .inr (1, [.ref l1, .ref l2, .ref l3, .ref l4, .ref l5])), (l1, .inl (cJ, 96, .inr (.inl ff))), (l2, .inl (cI, 96, .inl gf)), (l3, .inl (cZ, 96, .inl zf)), (l4, .inl (cI, 96, .inl kf)), (l5, .inl (cI, 6, .inl cf))] (fun (u : Unit) => True) (fun (u : Unit) => [(lg, .inr (1, [.ref l1, .ref l2, .ref l3, .ref l4, .ref l5])), (l1, .inl (cJ, 96, .inr (.inl (vp_updL ff 79 0)))), (l2, .inl (cI, 96, .inl (upd gf 79 (-1)))), (l3, .inl (cZ, 96, .inl zf)), (l4, .inl (cI, 96, .inl kf)), (l5, .inl (cI, 6, .inl cf))]) := by
  refine CTv.of (by decide) (Nat.le_of_ble_eq_true rfl) rfl ?_
  intro p e s m below meth c A Q ls hd hin hK hsz hP hD hA hS hl hret
  obtain ⟨hx, hb, hml, hown, hts⟩ := id hd
  have hK1 := hK.1
  have hown : s.vm.findClass RX1 = some m.cls := hown
  have hl : lv_has ls 7 [(0, .ref lg), (1, .int 4), (2, .int 15), (3, .long 0), (5, .int (-1))] := hl
  refine lv_iload_n hx hb dX1_offer_0 rfl (lv_at hl 1 rfl) ?_
  refine lv_bipush (v := 16) hx hb dX1_offer_1 (by decide) ?_
  refine lv_imul hx hb dX1_offer_3 ?_
  refine lv_nmi (show _ = (64 : Int32) from by decide +kernel) ?_
  refine lv_iload_n hx hb dX1_offer_4 rfl (lv_at hl 2 rfl) ?_
  refine lv_iadd hx hb dX1_offer_5 ?_
  refine lv_nmi (show _ = (79 : Int32) from by decide +kernel) ?_
  refine lv_istore (lv' := [(6, .int 79), (0, .ref lg), (1, .int 4), (2, .int 15), (3, .long 0), (5, .int (-1))]) hx hb dX1_offer_6 hl (by decide) rfl (fun ls hl => ?_)
  refine lv_lload_n hx hb dX1_offer_8 rfl (lv_at hl 4 rfl) ?_
  refine lv_aload_n hx hb dX1_offer_9 rfl (lv_at hl 1 rfl) ?_
  refine va_get (D := D) (ci := 1) (v := .ref l1) (C := RX1) (T := TX1) (N := 5) hx hb hts iT_X1 hown hK1 hP 0 rfl rfl 0 (by decide) (hts _ t_136) (fun _ h9 => h9) rfl dX1_offer_10 ?_
  refine lv_iload hx hb dX1_offer_13 (lv_at hl 0 rfl) ?_
  refine va_lald hx hb hK1 hP 1 1 rfl rfl (vin (by decide)) dX1_offer_15 ?_
  refine lv_nml (show _ = ff 79 from rfl) ?_
  refine lv_nml (show _ = (2305843009213693952 : Int64) from hf) ?_
  refine W.lcmp hx hb dX1_offer_16 ?_
  refine lv_nmi (show _ = (-1 : Int32) from by decide +kernel) ?_
  refine lv_if_ge (tgt := 40) hx hb dX1_offer_17 (by decide) (fun c_1 => ?_) (fun c_1 => ?_)
  · exact absurd c_1 (by decide)
  refine lv_aload_n hx hb dX1_offer_20 rfl (lv_at hl 1 rfl) ?_
  refine va_get (D := D) (ci := 1) (v := .ref l1) (C := RX1) (T := TX1) (N := 5) hx hb hts iT_X1 hown hK1 hP 0 rfl rfl 0 (by decide) (hts _ t_136) (fun _ h9 => h9) rfl dX1_offer_21 ?_
  refine lv_iload hx hb dX1_offer_24 (lv_at hl 0 rfl) ?_
  refine lv_lload_n hx hb dX1_offer_26 rfl (lv_at hl 4 rfl) ?_
  refine va_last hx hb hK1 hP hD hS 1 1 rfl rfl (vin (by decide)) dX1_offer_27 (fun H locs hP hD hS => ?_)
  have hP : va_P D vwCl [(lg, .inr (1, [.ref l1, .ref l2, .ref l3, .ref l4, .ref l5])), (l1, .inl (cJ, 96, .inr (.inl (vp_updL ff 79 0)))), (l2, .inl (cI, 96, .inl gf)), (l3, .inl (cZ, 96, .inl zf)), (l4, .inl (cI, 96, .inl kf)), (l5, .inl (cI, 6, .inl cf))] H := hP
  have hD : va_D A [(lg, .inr (1, [.ref l1, .ref l2, .ref l3, .ref l4, .ref l5])), (l1, .inl (cJ, 96, .inr (.inl (vp_updL ff 79 0)))), (l2, .inl (cI, 96, .inl gf)), (l3, .inl (cZ, 96, .inl zf)), (l4, .inl (cI, 96, .inl kf)), (l5, .inl (cI, 6, .inl cf))] := hD
  refine lv_aload_n hx hb dX1_offer_28 rfl (lv_at hl 1 rfl) ?_
  refine va_get (D := D) (ci := 1) (v := .ref l2) (C := RX1) (T := TX1) (N := 5) hx hb hts iT_X1 hown hK1 hP 0 rfl rfl 1 (by decide) (hts _ t_137) (fun _ h9 => h9) rfl dX1_offer_29 ?_
  refine lv_iload hx hb dX1_offer_32 (lv_at hl 0 rfl) ?_
  refine lv_iload hx hb dX1_offer_34 (lv_at hl 5 rfl) ?_
  refine va_iast hx hb hK1 hP hD hS 2 0 rfl rfl (vin (by decide)) dX1_offer_36 (fun H locs hP hD hS => ?_)
  have hP : va_P D vwCl [(lg, .inr (1, [.ref l1, .ref l2, .ref l3, .ref l4, .ref l5])), (l1, .inl (cJ, 96, .inr (.inl (vp_updL ff 79 0)))), (l2, .inl (cI, 96, .inl (upd gf 79 (-1)))), (l3, .inl (cZ, 96, .inl zf)), (l4, .inl (cI, 96, .inl kf)), (l5, .inl (cI, 6, .inl cf))] H := hP
  have hD : va_D A [(lg, .inr (1, [.ref l1, .ref l2, .ref l3, .ref l4, .ref l5])), (l1, .inl (cJ, 96, .inr (.inl (vp_updL ff 79 0)))), (l2, .inl (cI, 96, .inl (upd gf 79 (-1)))), (l3, .inl (cZ, 96, .inl zf)), (l4, .inl (cI, 96, .inl kf)), (l5, .inl (cI, 6, .inl cf))] := hD
  refine lv_goto (tgt := 73) hx hb dX1_offer_37 (by decide) ?_
  exact hret _ _ _ _ _ _ () dX1_offer_73 hS (Nat.le_of_ble_eq_true rfl) (Nat.le_of_ble_eq_true rfl) trivial (hP.sub [0, 1, 2, 3, 4, 5] rfl) (hD.sub [0, 1, 2, 3, 4, 5] rfl rfl)
set_option maxHeartbeats 4000000 in
set_option maxRecDepth 100000 in
theorem c_offer_92 (sz : Nat) (lg : Nat) (l1 : Nat) (l2 : Nat) (l3 : Nat) (l4 : Nat) (l5 : Nat) (ff : Nat → Int64) (gf : Nat → Int32) (zf : Nat → Int32) (kf : Nat → Int32) (cf : Nat → Int32) (hf : ff 92 = 2305843009213693952) : CTv l D cI cJ cZ cR yX1_offer cX1_offer 7 none 0 0 0 0 sz [.ref lg, .int 5, .int 12, .long 0, .int (-1)] [(lg, .inr (1, [.ref l1, .ref l2, .ref l3, .ref l4, .ref l5])), (l1, .inl (cJ, 96, .inr (.inl ff))), (l2, .inl (cI, 96, .inl gf)), (l3, .inl (cZ, 96, .inl zf)), (l4, .inl (cI, 96, .inl kf)), (l5, .inl (cI, 6, .inl cf))] (fun (u : Unit) => True) (fun (u : Unit) => [(lg, .inr (1, [.ref l1, .ref l2, .ref l3, .ref l4, .ref l5])), (l1, .inl (cJ, 96, .inr (.inl (vp_updL ff 92 0)))), (l2, .inl (cI, 96, .inl (upd gf 92 (-1)))), (l3, .inl (cZ, 96, .inl zf)), (l4, .inl (cI, 96, .inl kf)), (l5, .inl (cI, 6, .inl cf))]) := by
  refine CTv.of (by decide) (Nat.le_of_ble_eq_true rfl) rfl ?_
  intro p e s m below meth c A Q ls hd hin hK hsz hP hD hA hS hl hret
  obtain ⟨hx, hb, hml, hown, hts⟩ := id hd
  have hK1 := hK.1
  have hown : s.vm.findClass RX1 = some m.cls := hown
  have hl : lv_has ls 7 [(0, .ref lg), (1, .int 5), (2, .int 12), (3, .long 0), (5, .int (-1))] := hl
  refine lv_iload_n hx hb dX1_offer_0 rfl (lv_at hl 1 rfl) ?_
  refine lv_bipush (v := 16) hx hb dX1_offer_1 (by decide) ?_
  refine lv_imul hx hb dX1_offer_3 ?_
  refine lv_nmi (show _ = (80 : Int32) from by decide +kernel) ?_
  refine lv_iload_n hx hb dX1_offer_4 rfl (lv_at hl 2 rfl) ?_
  refine lv_iadd hx hb dX1_offer_5 ?_
  refine lv_nmi (show _ = (92 : Int32) from by decide +kernel) ?_
  refine lv_istore (lv' := [(6, .int 92), (0, .ref lg), (1, .int 5), (2, .int 12), (3, .long 0), (5, .int (-1))]) hx hb dX1_offer_6 hl (by decide) rfl (fun ls hl => ?_)
  refine lv_lload_n hx hb dX1_offer_8 rfl (lv_at hl 4 rfl) ?_
  refine lv_aload_n hx hb dX1_offer_9 rfl (lv_at hl 1 rfl) ?_
  refine va_get (D := D) (ci := 1) (v := .ref l1) (C := RX1) (T := TX1) (N := 5) hx hb hts iT_X1 hown hK1 hP 0 rfl rfl 0 (by decide) (hts _ t_136) (fun _ h9 => h9) rfl dX1_offer_10 ?_
  refine lv_iload hx hb dX1_offer_13 (lv_at hl 0 rfl) ?_
  refine va_lald hx hb hK1 hP 1 1 rfl rfl (vin (by decide)) dX1_offer_15 ?_
  refine lv_nml (show _ = ff 92 from rfl) ?_
  refine lv_nml (show _ = (2305843009213693952 : Int64) from hf) ?_
  refine W.lcmp hx hb dX1_offer_16 ?_
  refine lv_nmi (show _ = (-1 : Int32) from by decide +kernel) ?_
  refine lv_if_ge (tgt := 40) hx hb dX1_offer_17 (by decide) (fun c_1 => ?_) (fun c_1 => ?_)
  · exact absurd c_1 (by decide)
  refine lv_aload_n hx hb dX1_offer_20 rfl (lv_at hl 1 rfl) ?_
  refine va_get (D := D) (ci := 1) (v := .ref l1) (C := RX1) (T := TX1) (N := 5) hx hb hts iT_X1 hown hK1 hP 0 rfl rfl 0 (by decide) (hts _ t_136) (fun _ h9 => h9) rfl dX1_offer_21 ?_
  refine lv_iload hx hb dX1_offer_24 (lv_at hl 0 rfl) ?_
  refine lv_lload_n hx hb dX1_offer_26 rfl (lv_at hl 4 rfl) ?_
  refine va_last hx hb hK1 hP hD hS 1 1 rfl rfl (vin (by decide)) dX1_offer_27 (fun H locs hP hD hS => ?_)
  have hP : va_P D vwCl [(lg, .inr (1, [.ref l1, .ref l2, .ref l3, .ref l4, .ref l5])), (l1, .inl (cJ, 96, .inr (.inl (vp_updL ff 92 0)))), (l2, .inl (cI, 96, .inl gf)), (l3, .inl (cZ, 96, .inl zf)), (l4, .inl (cI, 96, .inl kf)), (l5, .inl (cI, 6, .inl cf))] H := hP
  have hD : va_D A [(lg, .inr (1, [.ref l1, .ref l2, .ref l3, .ref l4, .ref l5])), (l1, .inl (cJ, 96, .inr (.inl (vp_updL ff 92 0)))), (l2, .inl (cI, 96, .inl gf)), (l3, .inl (cZ, 96, .inl zf)), (l4, .inl (cI, 96, .inl kf)), (l5, .inl (cI, 6, .inl cf))] := hD
  refine lv_aload_n hx hb dX1_offer_28 rfl (lv_at hl 1 rfl) ?_
  refine va_get (D := D) (ci := 1) (v := .ref l2) (C := RX1) (T := TX1) (N := 5) hx hb hts iT_X1 hown hK1 hP 0 rfl rfl 1 (by decide) (hts _ t_137) (fun _ h9 => h9) rfl dX1_offer_29 ?_
  refine lv_iload hx hb dX1_offer_32 (lv_at hl 0 rfl) ?_
  refine lv_iload hx hb dX1_offer_34 (lv_at hl 5 rfl) ?_
  refine va_iast hx hb hK1 hP hD hS 2 0 rfl rfl (vin (by decide)) dX1_offer_36 (fun H locs hP hD hS => ?_)
  have hP : va_P D vwCl [(lg, .inr (1, [.ref l1, .ref l2, .ref l3, .ref l4, .ref l5])), (l1, .inl (cJ, 96, .inr (.inl (vp_updL ff 92 0)))), (l2, .inl (cI, 96, .inl (upd gf 92 (-1)))), (l3, .inl (cZ, 96, .inl zf)), (l4, .inl (cI, 96, .inl kf)), (l5, .inl (cI, 6, .inl cf))] H := hP
  have hD : va_D A [(lg, .inr (1, [.ref l1, .ref l2, .ref l3, .ref l4, .ref l5])), (l1, .inl (cJ, 96, .inr (.inl (vp_updL ff 92 0)))), (l2, .inl (cI, 96, .inl (upd gf 92 (-1)))), (l3, .inl (cZ, 96, .inl zf)), (l4, .inl (cI, 96, .inl kf)), (l5, .inl (cI, 6, .inl cf))] := hD
  refine lv_goto (tgt := 73) hx hb dX1_offer_37 (by decide) ?_
  exact hret _ _ _ _ _ _ () dX1_offer_73 hS (Nat.le_of_ble_eq_true rfl) (Nat.le_of_ble_eq_true rfl) trivial (hP.sub [0, 1, 2, 3, 4, 5] rfl) (hD.sub [0, 1, 2, 3, 4, 5] rfl rfl)
set_option maxHeartbeats 4000000 in
set_option maxRecDepth 100000 in
theorem c_X1_nearest (sz : Nat) (lg : Nat) (l1 : Nat) (l2 : Nat) (l3 : Nat) (l4 : Nat) (l5 : Nat) (ff : Nat → Int64) (gf : Nat → Int32) (zf : Nat → Int32) (kf : Nat → Int32) (cf : Nat → Int32)  : CTi l D cI cJ cZ cR yX1_nearest cX1_nearest 5 (some .int) 0 0 0 0 sz [.ref lg] [(lg, .inr (1, [.ref l1, .ref l2, .ref l3, .ref l4, .ref l5])), (l1, .inl (cJ, 96, .inr (.inl ff))), (l2, .inl (cI, 96, .inl gf)), (l3, .inl (cZ, 96, .inl zf)), (l4, .inl (cI, 96, .inl kf)), (l5, .inl (cI, 6, .inl cf))] (fun (r : Int32) (u : Unit) => (r = ((nearS ff zf 96).1))) (fun (u : Unit) => [(lg, .inr (1, [.ref l1, .ref l2, .ref l3, .ref l4, .ref l5])), (l1, .inl (cJ, 96, .inr (.inl ff))), (l2, .inl (cI, 96, .inl gf)), (l3, .inl (cZ, 96, .inl zf)), (l4, .inl (cI, 96, .inl kf)), (l5, .inl (cI, 6, .inl cf))]) := by
  refine CTi.of (ty := .int) (by decide) (Nat.le_of_ble_eq_true rfl) rfl ?_
  intro p e s m below meth c A Q ls hd hin hK hsz hP hD hA hS hl hret
  obtain ⟨hx, hb, hml, hown, hts⟩ := id hd
  have hK1 := hK.1
  have hown : s.vm.findClass RX1 = some m.cls := hown
  have hl : lv_has ls 5 [(0, .ref lg)] := hl
  refine lv_iconst (v := -1) hx hb dX1_nearest_0 (by decide) ?_
  refine lv_istore_n (lv' := [(1, .int (-1)), (0, .ref lg)]) hx hb dX1_nearest_1 rfl hl (by decide) rfl (fun ls hl => ?_)
  refine lv_ldc2 hx hb hown (hts _ t_462) dX1_nearest_2 ?_
  refine lv_lstore_n (lv' := [(2, .long 2305843009213693952), (1, .int (-1)), (0, .ref lg)]) hx hb dX1_nearest_5 rfl hl (by decide) rfl (fun ls hl => ?_)
  refine lv_iconst (v := 0) hx hb dX1_nearest_6 (by decide) ?_
  refine lv_istore (lv' := [(4, .int 0), (2, .long 2305843009213693952), (1, .int (-1)), (0, .ref lg)]) hx hb dX1_nearest_7 hl (by decide) rfl (fun ls hl => ?_)
  have LOOP_9 : ∀ (n : Nat) (i : Nat), (i + n = 96) → ∀ (H : Heap) (locs : List Loc) (ls : Array Slot), va_P D vwCl [(lg, .inr (1, [.ref l1, .ref l2, .ref l3, .ref l4, .ref l5])), (l1, .inl (cJ, 96, .inr (.inl ff))), (l2, .inl (cI, 96, .inl gf)), (l3, .inl (cZ, 96, .inl zf)), (l4, .inl (cI, 96, .inl kf)), (l5, .inl (cI, 6, .inl cf))] H → va_D A [(lg, .inr (1, [.ref l1, .ref l2, .ref l3, .ref l4, .ref l5])), (l1, .inl (cJ, 96, .inr (.inl ff))), (l2, .inl (cI, 96, .inl gf)), (l3, .inl (cZ, 96, .inl zf)), (l4, .inl (cI, 96, .inl kf)), (l5, .inl (cI, 6, .inl cf))] → va_S A s.heap H locs → lv_has ls 5 [(0, .ref lg), (1, .int ((nearS ff zf i).1)), (2, .long ((nearS ff zf i).2)), (4, .int (nI i))] → W p l e (rM 0 0 0 0) s m ([.ref lg] : List Value).toArray below meth c H locs 0 0 Q (F0 m 9 ls []) := by
    intro n
    induction n with
    | zero =>
      intro i hi H locs ls hP hD hS hl
      refine lv_iload hx hb dX1_nearest_9 (lv_at hl 3 rfl) ?_
      refine lv_bipush (v := 96) hx hb dX1_nearest_11 (by decide) ?_
      refine lv_icmp_ge (tgt := 55) hx hb dX1_nearest_13 (by decide) (fun c_1 => ?_) (fun c_1 => ?_)
      rotate_left
      · exact absurd (nI_le (a := 96) (b := i) (by omega) (by omega)) c_1
      refine lv_iload_n hx hb dX1_nearest_55 rfl (lv_at hl 1 rfl) ?_
      exact hret _ _ _ _ _ _ ((nearS ff zf i).1) () dX1_nearest_56 rfl hS (Nat.le_of_ble_eq_true rfl) (Nat.le_of_ble_eq_true rfl) (by rw [show i = 96 by omega]) (hP.sub [0, 1, 2, 3, 4, 5] rfl) (hD.sub [0, 1, 2, 3, 4, 5] rfl rfl)
    | succ n ih_9 =>
      intro i hi H locs ls hP hD hS hl
      refine lv_iload hx hb dX1_nearest_9 (lv_at hl 3 rfl) ?_
      refine lv_bipush (v := 96) hx hb dX1_nearest_11 (by decide) ?_
      refine lv_icmp_ge (tgt := 55) hx hb dX1_nearest_13 (by decide) (fun c_2 => ?_) (fun c_2 => ?_)
      · exact absurd c_2 (nI_ge (a := i) (b := 96) (by omega) (by omega))
      refine lv_aload_n hx hb dX1_nearest_16 rfl (lv_at hl 0 rfl) ?_
      refine va_get (D := D) (ci := 1) (v := .ref l3) (C := RX1) (T := TX1) (N := 5) hx hb hts iT_X1 hown hK1 hP 0 rfl rfl 2 (by decide) (hts _ t_138) (fun _ h9 => h9) rfl dX1_nearest_17 ?_
      refine lv_iload hx hb dX1_nearest_20 (lv_at hl 3 rfl) ?_
      refine va_zald hx hb hK1 hP 3 2 rfl rfl (vp_in_nI (by omega) (by omega)) dX1_nearest_22 ?_
      refine lv_nmi (show _ = zf i from by rw [nI_clamp (n := i) (by omega)]) ?_
      refine lv_if_ne (tgt := 49) hx hb dX1_nearest_23 (by decide) (fun c_3 => ?_) (fun c_3 => ?_)
      · skip
        refine lv_iinc (v := nI (i + 1)) (lv' := [(4, .int (nI (i + 1))), (0, .ref lg), (1, .int ((nearS ff zf i).1)), (2, .long ((nearS ff zf i).2))]) hx hb dX1_nearest_49 hl (k := 3) rfl (nI_1 i) (by decide) rfl (fun ls hl => ?_)
        refine lv_goto (tgt := 9) hx hb dX1_nearest_52 (by decide) ?_
        exact ih_9 (i + 1) (by omega) _ _ _ (hP.sub [0, 1, 2, 3, 4, 5] rfl) (hD.sub [0, 1, 2, 3, 4, 5] rfl rfl) hS (lv_sub hl [1, 2, 3, 0] (by rw [nearS_a c_3]; rfl))
      · skip
        refine lv_aload_n hx hb dX1_nearest_26 rfl (lv_at hl 0 rfl) ?_
        refine va_get (D := D) (ci := 1) (v := .ref l1) (C := RX1) (T := TX1) (N := 5) hx hb hts iT_X1 hown hK1 hP 0 rfl rfl 0 (by decide) (hts _ t_136) (fun _ h9 => h9) rfl dX1_nearest_27 ?_
        refine lv_iload hx hb dX1_nearest_30 (lv_at hl 3 rfl) ?_
        refine va_lald hx hb hK1 hP 1 1 rfl rfl (vp_in_nI (by omega) (by omega)) dX1_nearest_32 ?_
        refine lv_nml (show _ = ff i from by rw [nI_clamp (n := i) (by omega)]) ?_
        refine lv_lload_n hx hb dX1_nearest_33 rfl (lv_at hl 2 rfl) ?_
        refine W.lcmp hx hb dX1_nearest_34 ?_
        refine lv_if_ge (tgt := 49) hx hb dX1_nearest_35 (by decide) (fun c_4 => ?_) (fun c_4 => ?_)
        · skip
          refine lv_iinc (v := nI (i + 1)) (lv' := [(4, .int (nI (i + 1))), (0, .ref lg), (1, .int ((nearS ff zf i).1)), (2, .long ((nearS ff zf i).2))]) hx hb dX1_nearest_49 hl (k := 3) rfl (nI_1 i) (by decide) rfl (fun ls hl => ?_)
          refine lv_goto (tgt := 9) hx hb dX1_nearest_52 (by decide) ?_
          exact ih_9 (i + 1) (by omega) _ _ _ (hP.sub [0, 1, 2, 3, 4, 5] rfl) (hD.sub [0, 1, 2, 3, 4, 5] rfl rfl) hS (lv_sub hl [1, 2, 3, 0] (by rw [nearS_b c_3 c_4]; rfl))
        · skip
          refine lv_iload hx hb dX1_nearest_38 (lv_at hl 3 rfl) ?_
          refine lv_istore_n (lv' := [(1, .int (nI i)), (0, .ref lg), (2, .long ((nearS ff zf i).2)), (4, .int (nI i))]) hx hb dX1_nearest_40 rfl hl (by decide) rfl (fun ls hl => ?_)
          refine lv_aload_n hx hb dX1_nearest_41 rfl (lv_at hl 1 rfl) ?_
          refine va_get (D := D) (ci := 1) (v := .ref l1) (C := RX1) (T := TX1) (N := 5) hx hb hts iT_X1 hown hK1 hP 0 rfl rfl 0 (by decide) (hts _ t_136) (fun _ h9 => h9) rfl dX1_nearest_42 ?_
          refine lv_iload hx hb dX1_nearest_45 (lv_at hl 3 rfl) ?_
          refine va_lald hx hb hK1 hP 1 1 rfl rfl (vp_in_nI (by omega) (by omega)) dX1_nearest_47 ?_
          refine lv_nml (show _ = ff i from by rw [nI_clamp (n := i) (by omega)]) ?_
          refine lv_lstore_n (lv' := [(2, .long (ff i)), (1, .int (nI i)), (0, .ref lg), (4, .int (nI i))]) hx hb dX1_nearest_48 rfl hl (by decide) rfl (fun ls hl => ?_)
          refine lv_iinc (v := nI (i + 1)) (lv' := [(4, .int (nI (i + 1))), (2, .long (ff i)), (1, .int (nI i)), (0, .ref lg)]) hx hb dX1_nearest_49 hl (k := 3) rfl (nI_1 i) (by decide) rfl (fun ls hl => ?_)
          refine lv_goto (tgt := 9) hx hb dX1_nearest_52 (by decide) ?_
          exact ih_9 (i + 1) (by omega) _ _ _ (hP.sub [0, 1, 2, 3, 4, 5] rfl) (hD.sub [0, 1, 2, 3, 4, 5] rfl rfl) hS (lv_sub hl [3, 2, 1, 0] (by rw [nearS_c c_3 c_4]; rfl))
  exact LOOP_9 96 0 (by omega) _ _ _ (hP.sub [0, 1, 2, 3, 4, 5] rfl) (hD.sub [0, 1, 2, 3, 4, 5] rfl rfl) hS (lv_sub hl [3, 2, 1, 0] rfl)
set_option maxHeartbeats 4000000 in
set_option maxRecDepth 100000 in
theorem c_settle_57 (sz : Nat) (lg : Nat) (l1 : Nat) (l2 : Nat) (l3 : Nat) (l4 : Nat) (l5 : Nat) (ff : Nat → Int64) (gf : Nat → Int32) (zf : Nat → Int32) (kf : Nat → Int32) (cf : Nat → Int32) (hc : cf 3 = 0) : CTv l D cI cJ cZ cR yX1_settle cX1_settle 3 none 0 0 0 0 sz [.ref lg, .int 3, .int 9] [(lg, .inr (1, [.ref l1, .ref l2, .ref l3, .ref l4, .ref l5])), (l1, .inl (cJ, 96, .inr (.inl ff))), (l2, .inl (cI, 96, .inl gf)), (l3, .inl (cZ, 96, .inl zf)), (l4, .inl (cI, 96, .inl kf)), (l5, .inl (cI, 6, .inl cf))] (fun (u : Unit) => True) (fun (u : Unit) => [(lg, .inr (1, [.ref l1, .ref l2, .ref l3, .ref l4, .ref l5])), (l1, .inl (cJ, 96, .inr (.inl ff))), (l2, .inl (cI, 96, .inl gf)), (l3, .inl (cZ, 96, .inl (upd zf 57 1))), (l4, .inl (cI, 96, .inl (upd kf 48 9))), (l5, .inl (cI, 6, .inl (upd cf 3 1)))]) := by
  refine CTv.of (by decide) (Nat.le_of_ble_eq_true rfl) rfl ?_
  intro p e s m below meth c A Q ls hd hin hK hsz hP hD hA hS hl hret
  obtain ⟨hx, hb, hml, hown, hts⟩ := id hd
  have hK1 := hK.1
  have hown : s.vm.findClass RX1 = some m.cls := hown
  have hl : lv_has ls 3 [(0, .ref lg), (1, .int 3), (2, .int 9)] := hl
  refine lv_aload_n hx hb dX1_settle_0 rfl (lv_at hl 0 rfl) ?_
  refine va_get (D := D) (ci := 1) (v := .ref l3) (C := RX1) (T := TX1) (N := 5) hx hb hts iT_X1 hown hK1 hP 0 rfl rfl 2 (by decide) (hts _ t_138) (fun _ h9 => h9) rfl dX1_settle_1 ?_
  refine lv_iload_n hx hb dX1_settle_4 rfl (lv_at hl 1 rfl) ?_
  refine lv_bipush (v := 16) hx hb dX1_settle_5 (by decide) ?_
  refine lv_imul hx hb dX1_settle_7 ?_
  refine lv_nmi (show _ = (48 : Int32) from by decide +kernel) ?_
  refine lv_iload_n hx hb dX1_settle_8 rfl (lv_at hl 2 rfl) ?_
  refine lv_iadd hx hb dX1_settle_9 ?_
  refine lv_nmi (show _ = (57 : Int32) from by decide +kernel) ?_
  refine lv_iconst (v := 1) hx hb dX1_settle_10 (by decide) ?_
  refine va_zast hx hb hK1 hP hD hS 3 2 rfl rfl (vin (by decide)) dX1_settle_11 (fun H locs hP hD hS => ?_)
  have hP : va_P D vwCl [(lg, .inr (1, [.ref l1, .ref l2, .ref l3, .ref l4, .ref l5])), (l1, .inl (cJ, 96, .inr (.inl ff))), (l2, .inl (cI, 96, .inl gf)), (l3, .inl (cZ, 96, .inl (upd zf 57 1))), (l4, .inl (cI, 96, .inl kf)), (l5, .inl (cI, 6, .inl cf))] H := hP
  have hD : va_D A [(lg, .inr (1, [.ref l1, .ref l2, .ref l3, .ref l4, .ref l5])), (l1, .inl (cJ, 96, .inr (.inl ff))), (l2, .inl (cI, 96, .inl gf)), (l3, .inl (cZ, 96, .inl (upd zf 57 1))), (l4, .inl (cI, 96, .inl kf)), (l5, .inl (cI, 6, .inl cf))] := hD
  refine lv_aload_n hx hb dX1_settle_12 rfl (lv_at hl 0 rfl) ?_
  refine va_get (D := D) (ci := 1) (v := .ref l4) (C := RX1) (T := TX1) (N := 5) hx hb hts iT_X1 hown hK1 hP 0 rfl rfl 3 (by decide) (hts _ t_139) (fun _ h9 => h9) rfl dX1_settle_13 ?_
  refine lv_iload_n hx hb dX1_settle_16 rfl (lv_at hl 1 rfl) ?_
  refine lv_bipush (v := 16) hx hb dX1_settle_17 (by decide) ?_
  refine lv_imul hx hb dX1_settle_19 ?_
  refine lv_nmi (show _ = (48 : Int32) from by decide +kernel) ?_
  refine lv_aload_n hx hb dX1_settle_20 rfl (lv_at hl 0 rfl) ?_
  refine va_get (D := D) (ci := 1) (v := .ref l5) (C := RX1) (T := TX1) (N := 5) hx hb hts iT_X1 hown hK1 hP 0 rfl rfl 4 (by decide) (hts _ t_140) (fun _ h9 => h9) rfl dX1_settle_21 ?_
  refine lv_iload_n hx hb dX1_settle_24 rfl (lv_at hl 1 rfl) ?_
  refine va_iald hx hb hK1 hP 5 0 rfl rfl (vin (by decide)) dX1_settle_25 ?_
  refine lv_nmi (show _ = cf 3 from rfl) ?_
  refine lv_nmi (show _ = (0 : Int32) from hc) ?_
  refine lv_iadd hx hb dX1_settle_26 ?_
  refine lv_nmi (show _ = (48 : Int32) from by decide +kernel) ?_
  refine lv_iload_n hx hb dX1_settle_27 rfl (lv_at hl 2 rfl) ?_
  refine va_iast hx hb hK1 hP hD hS 4 0 rfl rfl (vin (by decide)) dX1_settle_28 (fun H locs hP hD hS => ?_)
  have hP : va_P D vwCl [(lg, .inr (1, [.ref l1, .ref l2, .ref l3, .ref l4, .ref l5])), (l1, .inl (cJ, 96, .inr (.inl ff))), (l2, .inl (cI, 96, .inl gf)), (l3, .inl (cZ, 96, .inl (upd zf 57 1))), (l4, .inl (cI, 96, .inl (upd kf 48 9))), (l5, .inl (cI, 6, .inl cf))] H := hP
  have hD : va_D A [(lg, .inr (1, [.ref l1, .ref l2, .ref l3, .ref l4, .ref l5])), (l1, .inl (cJ, 96, .inr (.inl ff))), (l2, .inl (cI, 96, .inl gf)), (l3, .inl (cZ, 96, .inl (upd zf 57 1))), (l4, .inl (cI, 96, .inl (upd kf 48 9))), (l5, .inl (cI, 6, .inl cf))] := hD
  refine lv_aload_n hx hb dX1_settle_29 rfl (lv_at hl 0 rfl) ?_
  refine va_get (D := D) (ci := 1) (v := .ref l5) (C := RX1) (T := TX1) (N := 5) hx hb hts iT_X1 hown hK1 hP 0 rfl rfl 4 (by decide) (hts _ t_140) (fun _ h9 => h9) rfl dX1_settle_30 ?_
  refine lv_iload_n hx hb dX1_settle_33 rfl (lv_at hl 1 rfl) ?_
  refine lv_dup2_11 hx hb dX1_settle_34 rfl rfl ?_
  refine va_iald hx hb hK1 hP 5 0 rfl rfl (vin (by decide)) dX1_settle_35 ?_
  refine lv_nmi (show _ = cf 3 from rfl) ?_
  refine lv_nmi (show _ = (0 : Int32) from hc) ?_
  refine lv_iconst (v := 1) hx hb dX1_settle_36 (by decide) ?_
  refine lv_iadd hx hb dX1_settle_37 ?_
  refine lv_nmi (show _ = (1 : Int32) from by decide +kernel) ?_
  refine va_iast hx hb hK1 hP hD hS 5 0 rfl rfl (vin (by decide)) dX1_settle_38 (fun H locs hP hD hS => ?_)
  have hP : va_P D vwCl [(lg, .inr (1, [.ref l1, .ref l2, .ref l3, .ref l4, .ref l5])), (l1, .inl (cJ, 96, .inr (.inl ff))), (l2, .inl (cI, 96, .inl gf)), (l3, .inl (cZ, 96, .inl (upd zf 57 1))), (l4, .inl (cI, 96, .inl (upd kf 48 9))), (l5, .inl (cI, 6, .inl (upd cf 3 1)))] H := hP
  have hD : va_D A [(lg, .inr (1, [.ref l1, .ref l2, .ref l3, .ref l4, .ref l5])), (l1, .inl (cJ, 96, .inr (.inl ff))), (l2, .inl (cI, 96, .inl gf)), (l3, .inl (cZ, 96, .inl (upd zf 57 1))), (l4, .inl (cI, 96, .inl (upd kf 48 9))), (l5, .inl (cI, 6, .inl (upd cf 3 1)))] := hD
  exact hret _ _ _ _ _ _ () dX1_settle_39 hS (Nat.le_of_ble_eq_true rfl) (Nat.le_of_ble_eq_true rfl) trivial (hP.sub [0, 1, 2, 3, 4, 5] rfl) (hD.sub [0, 1, 2, 3, 4, 5] rfl rfl)
set_option maxHeartbeats 4000000 in
set_option maxRecDepth 100000 in
theorem c_settle_79 (sz : Nat) (lg : Nat) (l1 : Nat) (l2 : Nat) (l3 : Nat) (l4 : Nat) (l5 : Nat) (ff : Nat → Int64) (gf : Nat → Int32) (zf : Nat → Int32) (kf : Nat → Int32) (cf : Nat → Int32) (hc : cf 4 = 0) : CTv l D cI cJ cZ cR yX1_settle cX1_settle 3 none 0 0 0 0 sz [.ref lg, .int 4, .int 15] [(lg, .inr (1, [.ref l1, .ref l2, .ref l3, .ref l4, .ref l5])), (l1, .inl (cJ, 96, .inr (.inl ff))), (l2, .inl (cI, 96, .inl gf)), (l3, .inl (cZ, 96, .inl zf)), (l4, .inl (cI, 96, .inl kf)), (l5, .inl (cI, 6, .inl cf))] (fun (u : Unit) => True) (fun (u : Unit) => [(lg, .inr (1, [.ref l1, .ref l2, .ref l3, .ref l4, .ref l5])), (l1, .inl (cJ, 96, .inr (.inl ff))), (l2, .inl (cI, 96, .inl gf)), (l3, .inl (cZ, 96, .inl (upd zf 79 1))), (l4, .inl (cI, 96, .inl (upd kf 64 15))), (l5, .inl (cI, 6, .inl (upd cf 4 1)))]) := by
  refine CTv.of (by decide) (Nat.le_of_ble_eq_true rfl) rfl ?_
  intro p e s m below meth c A Q ls hd hin hK hsz hP hD hA hS hl hret
  obtain ⟨hx, hb, hml, hown, hts⟩ := id hd
  have hK1 := hK.1
  have hown : s.vm.findClass RX1 = some m.cls := hown
  have hl : lv_has ls 3 [(0, .ref lg), (1, .int 4), (2, .int 15)] := hl
  refine lv_aload_n hx hb dX1_settle_0 rfl (lv_at hl 0 rfl) ?_
  refine va_get (D := D) (ci := 1) (v := .ref l3) (C := RX1) (T := TX1) (N := 5) hx hb hts iT_X1 hown hK1 hP 0 rfl rfl 2 (by decide) (hts _ t_138) (fun _ h9 => h9) rfl dX1_settle_1 ?_
  refine lv_iload_n hx hb dX1_settle_4 rfl (lv_at hl 1 rfl) ?_
  refine lv_bipush (v := 16) hx hb dX1_settle_5 (by decide) ?_
  refine lv_imul hx hb dX1_settle_7 ?_
  refine lv_nmi (show _ = (64 : Int32) from by decide +kernel) ?_
  refine lv_iload_n hx hb dX1_settle_8 rfl (lv_at hl 2 rfl) ?_
  refine lv_iadd hx hb dX1_settle_9 ?_
  refine lv_nmi (show _ = (79 : Int32) from by decide +kernel) ?_
  refine lv_iconst (v := 1) hx hb dX1_settle_10 (by decide) ?_
  refine va_zast hx hb hK1 hP hD hS 3 2 rfl rfl (vin (by decide)) dX1_settle_11 (fun H locs hP hD hS => ?_)
  have hP : va_P D vwCl [(lg, .inr (1, [.ref l1, .ref l2, .ref l3, .ref l4, .ref l5])), (l1, .inl (cJ, 96, .inr (.inl ff))), (l2, .inl (cI, 96, .inl gf)), (l3, .inl (cZ, 96, .inl (upd zf 79 1))), (l4, .inl (cI, 96, .inl kf)), (l5, .inl (cI, 6, .inl cf))] H := hP
  have hD : va_D A [(lg, .inr (1, [.ref l1, .ref l2, .ref l3, .ref l4, .ref l5])), (l1, .inl (cJ, 96, .inr (.inl ff))), (l2, .inl (cI, 96, .inl gf)), (l3, .inl (cZ, 96, .inl (upd zf 79 1))), (l4, .inl (cI, 96, .inl kf)), (l5, .inl (cI, 6, .inl cf))] := hD
  refine lv_aload_n hx hb dX1_settle_12 rfl (lv_at hl 0 rfl) ?_
  refine va_get (D := D) (ci := 1) (v := .ref l4) (C := RX1) (T := TX1) (N := 5) hx hb hts iT_X1 hown hK1 hP 0 rfl rfl 3 (by decide) (hts _ t_139) (fun _ h9 => h9) rfl dX1_settle_13 ?_
  refine lv_iload_n hx hb dX1_settle_16 rfl (lv_at hl 1 rfl) ?_
  refine lv_bipush (v := 16) hx hb dX1_settle_17 (by decide) ?_
  refine lv_imul hx hb dX1_settle_19 ?_
  refine lv_nmi (show _ = (64 : Int32) from by decide +kernel) ?_
  refine lv_aload_n hx hb dX1_settle_20 rfl (lv_at hl 0 rfl) ?_
  refine va_get (D := D) (ci := 1) (v := .ref l5) (C := RX1) (T := TX1) (N := 5) hx hb hts iT_X1 hown hK1 hP 0 rfl rfl 4 (by decide) (hts _ t_140) (fun _ h9 => h9) rfl dX1_settle_21 ?_
  refine lv_iload_n hx hb dX1_settle_24 rfl (lv_at hl 1 rfl) ?_
  refine va_iald hx hb hK1 hP 5 0 rfl rfl (vin (by decide)) dX1_settle_25 ?_
  refine lv_nmi (show _ = cf 4 from rfl) ?_
  refine lv_nmi (show _ = (0 : Int32) from hc) ?_
  refine lv_iadd hx hb dX1_settle_26 ?_
  refine lv_nmi (show _ = (64 : Int32) from by decide +kernel) ?_
  refine lv_iload_n hx hb dX1_settle_27 rfl (lv_at hl 2 rfl) ?_
  refine va_iast hx hb hK1 hP hD hS 4 0 rfl rfl (vin (by decide)) dX1_settle_28 (fun H locs hP hD hS => ?_)
  have hP : va_P D vwCl [(lg, .inr (1, [.ref l1, .ref l2, .ref l3, .ref l4, .ref l5])), (l1, .inl (cJ, 96, .inr (.inl ff))), (l2, .inl (cI, 96, .inl gf)), (l3, .inl (cZ, 96, .inl (upd zf 79 1))), (l4, .inl (cI, 96, .inl (upd kf 64 15))), (l5, .inl (cI, 6, .inl cf))] H := hP
  have hD : va_D A [(lg, .inr (1, [.ref l1, .ref l2, .ref l3, .ref l4, .ref l5])), (l1, .inl (cJ, 96, .inr (.inl ff))), (l2, .inl (cI, 96, .inl gf)), (l3, .inl (cZ, 96, .inl (upd zf 79 1))), (l4, .inl (cI, 96, .inl (upd kf 64 15))), (l5, .inl (cI, 6, .inl cf))] := hD
  refine lv_aload_n hx hb dX1_settle_29 rfl (lv_at hl 0 rfl) ?_
  refine va_get (D := D) (ci := 1) (v := .ref l5) (C := RX1) (T := TX1) (N := 5) hx hb hts iT_X1 hown hK1 hP 0 rfl rfl 4 (by decide) (hts _ t_140) (fun _ h9 => h9) rfl dX1_settle_30 ?_
  refine lv_iload_n hx hb dX1_settle_33 rfl (lv_at hl 1 rfl) ?_
  refine lv_dup2_11 hx hb dX1_settle_34 rfl rfl ?_
  refine va_iald hx hb hK1 hP 5 0 rfl rfl (vin (by decide)) dX1_settle_35 ?_
  refine lv_nmi (show _ = cf 4 from rfl) ?_
  refine lv_nmi (show _ = (0 : Int32) from hc) ?_
  refine lv_iconst (v := 1) hx hb dX1_settle_36 (by decide) ?_
  refine lv_iadd hx hb dX1_settle_37 ?_
  refine lv_nmi (show _ = (1 : Int32) from by decide +kernel) ?_
  refine va_iast hx hb hK1 hP hD hS 5 0 rfl rfl (vin (by decide)) dX1_settle_38 (fun H locs hP hD hS => ?_)
  have hP : va_P D vwCl [(lg, .inr (1, [.ref l1, .ref l2, .ref l3, .ref l4, .ref l5])), (l1, .inl (cJ, 96, .inr (.inl ff))), (l2, .inl (cI, 96, .inl gf)), (l3, .inl (cZ, 96, .inl (upd zf 79 1))), (l4, .inl (cI, 96, .inl (upd kf 64 15))), (l5, .inl (cI, 6, .inl (upd cf 4 1)))] H := hP
  have hD : va_D A [(lg, .inr (1, [.ref l1, .ref l2, .ref l3, .ref l4, .ref l5])), (l1, .inl (cJ, 96, .inr (.inl ff))), (l2, .inl (cI, 96, .inl gf)), (l3, .inl (cZ, 96, .inl (upd zf 79 1))), (l4, .inl (cI, 96, .inl (upd kf 64 15))), (l5, .inl (cI, 6, .inl (upd cf 4 1)))] := hD
  exact hret _ _ _ _ _ _ () dX1_settle_39 hS (Nat.le_of_ble_eq_true rfl) (Nat.le_of_ble_eq_true rfl) trivial (hP.sub [0, 1, 2, 3, 4, 5] rfl) (hD.sub [0, 1, 2, 3, 4, 5] rfl rfl)
set_option maxHeartbeats 4000000 in
set_option maxRecDepth 100000 in
theorem c_settle_92 (sz : Nat) (lg : Nat) (l1 : Nat) (l2 : Nat) (l3 : Nat) (l4 : Nat) (l5 : Nat) (ff : Nat → Int64) (gf : Nat → Int32) (zf : Nat → Int32) (kf : Nat → Int32) (cf : Nat → Int32) (hc : cf 5 = 0) : CTv l D cI cJ cZ cR yX1_settle cX1_settle 3 none 0 0 0 0 sz [.ref lg, .int 5, .int 12] [(lg, .inr (1, [.ref l1, .ref l2, .ref l3, .ref l4, .ref l5])), (l1, .inl (cJ, 96, .inr (.inl ff))), (l2, .inl (cI, 96, .inl gf)), (l3, .inl (cZ, 96, .inl zf)), (l4, .inl (cI, 96, .inl kf)), (l5, .inl (cI, 6, .inl cf))] (fun (u : Unit) => True) (fun (u : Unit) => [(lg, .inr (1, [.ref l1, .ref l2, .ref l3, .ref l4, .ref l5])), (l1, .inl (cJ, 96, .inr (.inl ff))), (l2, .inl (cI, 96, .inl gf)), (l3, .inl (cZ, 96, .inl (upd zf 92 1))), (l4, .inl (cI, 96, .inl (upd kf 80 12))), (l5, .inl (cI, 6, .inl (upd cf 5 1)))]) := by
  refine CTv.of (by decide) (Nat.le_of_ble_eq_true rfl) rfl ?_
  intro p e s m below meth c A Q ls hd hin hK hsz hP hD hA hS hl hret
  obtain ⟨hx, hb, hml, hown, hts⟩ := id hd
  have hK1 := hK.1
  have hown : s.vm.findClass RX1 = some m.cls := hown
  have hl : lv_has ls 3 [(0, .ref lg), (1, .int 5), (2, .int 12)] := hl
  refine lv_aload_n hx hb dX1_settle_0 rfl (lv_at hl 0 rfl) ?_
  refine va_get (D := D) (ci := 1) (v := .ref l3) (C := RX1) (T := TX1) (N := 5) hx hb hts iT_X1 hown hK1 hP 0 rfl rfl 2 (by decide) (hts _ t_138) (fun _ h9 => h9) rfl dX1_settle_1 ?_
  refine lv_iload_n hx hb dX1_settle_4 rfl (lv_at hl 1 rfl) ?_
  refine lv_bipush (v := 16) hx hb dX1_settle_5 (by decide) ?_
  refine lv_imul hx hb dX1_settle_7 ?_
  refine lv_nmi (show _ = (80 : Int32) from by decide +kernel) ?_
  refine lv_iload_n hx hb dX1_settle_8 rfl (lv_at hl 2 rfl) ?_
  refine lv_iadd hx hb dX1_settle_9 ?_
  refine lv_nmi (show _ = (92 : Int32) from by decide +kernel) ?_
  refine lv_iconst (v := 1) hx hb dX1_settle_10 (by decide) ?_
  refine va_zast hx hb hK1 hP hD hS 3 2 rfl rfl (vin (by decide)) dX1_settle_11 (fun H locs hP hD hS => ?_)
  have hP : va_P D vwCl [(lg, .inr (1, [.ref l1, .ref l2, .ref l3, .ref l4, .ref l5])), (l1, .inl (cJ, 96, .inr (.inl ff))), (l2, .inl (cI, 96, .inl gf)), (l3, .inl (cZ, 96, .inl (upd zf 92 1))), (l4, .inl (cI, 96, .inl kf)), (l5, .inl (cI, 6, .inl cf))] H := hP
  have hD : va_D A [(lg, .inr (1, [.ref l1, .ref l2, .ref l3, .ref l4, .ref l5])), (l1, .inl (cJ, 96, .inr (.inl ff))), (l2, .inl (cI, 96, .inl gf)), (l3, .inl (cZ, 96, .inl (upd zf 92 1))), (l4, .inl (cI, 96, .inl kf)), (l5, .inl (cI, 6, .inl cf))] := hD
  refine lv_aload_n hx hb dX1_settle_12 rfl (lv_at hl 0 rfl) ?_
  refine va_get (D := D) (ci := 1) (v := .ref l4) (C := RX1) (T := TX1) (N := 5) hx hb hts iT_X1 hown hK1 hP 0 rfl rfl 3 (by decide) (hts _ t_139) (fun _ h9 => h9) rfl dX1_settle_13 ?_
  refine lv_iload_n hx hb dX1_settle_16 rfl (lv_at hl 1 rfl) ?_
  refine lv_bipush (v := 16) hx hb dX1_settle_17 (by decide) ?_
  refine lv_imul hx hb dX1_settle_19 ?_
  refine lv_nmi (show _ = (80 : Int32) from by decide +kernel) ?_
  refine lv_aload_n hx hb dX1_settle_20 rfl (lv_at hl 0 rfl) ?_
  refine va_get (D := D) (ci := 1) (v := .ref l5) (C := RX1) (T := TX1) (N := 5) hx hb hts iT_X1 hown hK1 hP 0 rfl rfl 4 (by decide) (hts _ t_140) (fun _ h9 => h9) rfl dX1_settle_21 ?_
  refine lv_iload_n hx hb dX1_settle_24 rfl (lv_at hl 1 rfl) ?_
  refine va_iald hx hb hK1 hP 5 0 rfl rfl (vin (by decide)) dX1_settle_25 ?_
  refine lv_nmi (show _ = cf 5 from rfl) ?_
  refine lv_nmi (show _ = (0 : Int32) from hc) ?_
  refine lv_iadd hx hb dX1_settle_26 ?_
  refine lv_nmi (show _ = (80 : Int32) from by decide +kernel) ?_
  refine lv_iload_n hx hb dX1_settle_27 rfl (lv_at hl 2 rfl) ?_
  refine va_iast hx hb hK1 hP hD hS 4 0 rfl rfl (vin (by decide)) dX1_settle_28 (fun H locs hP hD hS => ?_)
  have hP : va_P D vwCl [(lg, .inr (1, [.ref l1, .ref l2, .ref l3, .ref l4, .ref l5])), (l1, .inl (cJ, 96, .inr (.inl ff))), (l2, .inl (cI, 96, .inl gf)), (l3, .inl (cZ, 96, .inl (upd zf 92 1))), (l4, .inl (cI, 96, .inl (upd kf 80 12))), (l5, .inl (cI, 6, .inl cf))] H := hP
  have hD : va_D A [(lg, .inr (1, [.ref l1, .ref l2, .ref l3, .ref l4, .ref l5])), (l1, .inl (cJ, 96, .inr (.inl ff))), (l2, .inl (cI, 96, .inl gf)), (l3, .inl (cZ, 96, .inl (upd zf 92 1))), (l4, .inl (cI, 96, .inl (upd kf 80 12))), (l5, .inl (cI, 6, .inl cf))] := hD
  refine lv_aload_n hx hb dX1_settle_29 rfl (lv_at hl 0 rfl) ?_
  refine va_get (D := D) (ci := 1) (v := .ref l5) (C := RX1) (T := TX1) (N := 5) hx hb hts iT_X1 hown hK1 hP 0 rfl rfl 4 (by decide) (hts _ t_140) (fun _ h9 => h9) rfl dX1_settle_30 ?_
  refine lv_iload_n hx hb dX1_settle_33 rfl (lv_at hl 1 rfl) ?_
  refine lv_dup2_11 hx hb dX1_settle_34 rfl rfl ?_
  refine va_iald hx hb hK1 hP 5 0 rfl rfl (vin (by decide)) dX1_settle_35 ?_
  refine lv_nmi (show _ = cf 5 from rfl) ?_
  refine lv_nmi (show _ = (0 : Int32) from hc) ?_
  refine lv_iconst (v := 1) hx hb dX1_settle_36 (by decide) ?_
  refine lv_iadd hx hb dX1_settle_37 ?_
  refine lv_nmi (show _ = (1 : Int32) from by decide +kernel) ?_
  refine va_iast hx hb hK1 hP hD hS 5 0 rfl rfl (vin (by decide)) dX1_settle_38 (fun H locs hP hD hS => ?_)
  have hP : va_P D vwCl [(lg, .inr (1, [.ref l1, .ref l2, .ref l3, .ref l4, .ref l5])), (l1, .inl (cJ, 96, .inr (.inl ff))), (l2, .inl (cI, 96, .inl gf)), (l3, .inl (cZ, 96, .inl (upd zf 92 1))), (l4, .inl (cI, 96, .inl (upd kf 80 12))), (l5, .inl (cI, 6, .inl (upd cf 5 1)))] H := hP
  have hD : va_D A [(lg, .inr (1, [.ref l1, .ref l2, .ref l3, .ref l4, .ref l5])), (l1, .inl (cJ, 96, .inr (.inl ff))), (l2, .inl (cI, 96, .inl gf)), (l3, .inl (cZ, 96, .inl (upd zf 92 1))), (l4, .inl (cI, 96, .inl (upd kf 80 12))), (l5, .inl (cI, 6, .inl (upd cf 5 1)))] := hD
  exact hret _ _ _ _ _ _ () dX1_settle_39 hS (Nat.le_of_ble_eq_true rfl) (Nat.le_of_ble_eq_true rfl) trivial (hP.sub [0, 1, 2, 3, 4, 5] rfl) (hD.sub [0, 1, 2, 3, 4, 5] rfl rfl)
set_option maxHeartbeats 4000000 in
set_option maxRecDepth 100000 in
theorem c_X1_find (sz : Nat) (lg : Nat) (l1 : Nat) (l2 : Nat) (l3 : Nat) (l4 : Nat) (l5 : Nat) (bk : Nat) (br : Nat) (ff : Nat → Int64) (gf : Nat → Int32) (zf : Nat → Int32) (kf : Nat → Int32) (cf : Nat → Int32)  : CTv l D cI cJ cZ cR yX1_find cX1_find 5 none 2 45 0 0 sz [.ref lg, .ref bk] [(lg, .inr (1, [.ref l1, .ref l2, .ref l3, .ref l4, .ref l5])), (l1, .inl (cJ, 96, .inr (.inl ff))), (l2, .inl (cI, 96, .inl gf)), (l3, .inl (cZ, 96, .inl zf)), (l4, .inl (cI, 96, .inl kf)), (l5, .inl (cI, 6, .inl cf)), (bk, .inr (5, [.ref br, .int 0]))] (fun (u : (Nat → Int64) × (Nat → Int32) × (Nat → Int32) × (Nat → Int32) × (Nat → Int32)) => (Lz u.1 u.2.1)) (fun (u : (Nat → Int64) × (Nat → Int32) × (Nat → Int32) × (Nat → Int32) × (Nat → Int32)) => [(lg, .inr (1, [.ref l1, .ref l2, .ref l3, .ref l4, .ref l5])), (l1, .inl (cJ, 96, .inr (.inl u.1))), (l2, .inl (cI, 96, .inl u.2.1)), (l3, .inl (cZ, 96, .inl u.2.2.1)), (l4, .inl (cI, 96, .inl u.2.2.2.1)), (l5, .inl (cI, 6, .inl u.2.2.2.2)), (bk, .inr (5, [.ref br, .int 0]))]) := by
  refine CTv.of (by decide) (Nat.le_of_ble_eq_true rfl) rfl ?_
  intro p e s m below meth c A Q ls hd hin hK hsz hP hD hA hS hl hret
  obtain ⟨hx, hb, hml, hown, hts⟩ := id hd
  have hK1 := hK.1
  have hown : s.vm.findClass RX1 = some m.cls := hown
  have hl : lv_has ls 5 [(0, .ref lg), (1, .ref bk)] := hl
  refine lv_aload_n hx hb dX1_find_0 rfl (lv_at hl 0 rfl) ?_
  refine xc_v (wc := [(lg, .inr (1, [.ref l1, .ref l2, .ref l3, .ref l4, .ref l5])), (l1, .inl (cJ, 96, .inr (.inl ff))), (l2, .inl (cI, 96, .inl gf)), (l3, .inl (cZ, 96, .inl zf)), (l4, .inl (cI, 96, .inl kf)), (l5, .inl (cI, 6, .inl cf))]) (wr := [(bk, .inr (5, [.ref br, .int 0]))]) (xrV (n := 0) (As := []) (rest := []) (ci := 1) (q0 := 0) hd hK hP hD (c_X1_forget l D cI cJ cZ cR _ lg l1 l2 l3 l4 l5 ff gf zf kf cf ) (gV t_458 mV_X1_forget) hV_X1_forget ⟨(Nat.le_of_ble_eq_true rfl), (Nat.le_of_ble_eq_true rfl)⟩ rfl rfl [0, 1, 2, 3, 4, 5] rfl rfl rfl hl.1 rfl (Nat.le_of_ble_eq_true rfl) dX1_find_1 ⟨(Nat.le_of_ble_eq_true rfl), (Nat.le_of_ble_eq_true rfl)⟩) hP hD hS hA [0, 1, 2, 3, 4, 5] [6] rfl rfl rfl (by decide) (fun u_2 H locs hw_3 hP hD hS => ?_)
  have hP : va_P D vwCl [(bk, .inr (5, [.ref br, .int 0])), (lg, .inr (1, [.ref l1, .ref l2, .ref l3, .ref l4, .ref l5])), (l1, .inl (cJ, 96, .inr (.inl (fun _ => 2305843009213693952)))), (l2, .inl (cI, 96, .inl (fun _ => (-1)))), (l3, .inl (cZ, 96, .inl (fun _ => 0))), (l4, .inl (cI, 96, .inl kf)), (l5, .inl (cI, 6, .inl (fun _ => 0)))] H := hP
  have hD : va_D A [(bk, .inr (5, [.ref br, .int 0])), (lg, .inr (1, [.ref l1, .ref l2, .ref l3, .ref l4, .ref l5])), (l1, .inl (cJ, 96, .inr (.inl (fun _ => 2305843009213693952)))), (l2, .inl (cI, 96, .inl (fun _ => (-1)))), (l3, .inl (cZ, 96, .inl (fun _ => 0))), (l4, .inl (cI, 96, .inl kf)), (l5, .inl (cI, 6, .inl (fun _ => 0)))] := hD
  refine lv_aload_n hx hb dX1_find_4 rfl (lv_at hl 0 rfl) ?_
  refine lv_iconst (v := 3) hx hb dX1_find_5 (by decide) ?_
  refine lv_bipush (v := 9) hx hb dX1_find_6 (by decide) ?_
  refine lv_lconst (v := 0) hx hb dX1_find_8 (by decide) ?_
  refine lv_iconst (v := -1) hx hb dX1_find_9 (by decide) ?_
  refine xc_v (wc := [(lg, .inr (1, [.ref l1, .ref l2, .ref l3, .ref l4, .ref l5])), (l1, .inl (cJ, 96, .inr (.inl (fun _ => 2305843009213693952)))), (l2, .inl (cI, 96, .inl (fun _ => (-1)))), (l3, .inl (cZ, 96, .inl (fun _ => 0))), (l4, .inl (cI, 96, .inl kf)), (l5, .inl (cI, 6, .inl (fun _ => 0)))]) (wr := [(bk, .inr (5, [.ref br, .int 0]))]) (xrV (n := 4) (As := [.int 3, .int 9, .long 0, .int (-1)]) (rest := []) (ci := 1) (q0 := 1) hd hK hP hD (c_offer_57 l D cI cJ cZ cR _ lg l1 l2 l3 l4 l5 (fun _ => 2305843009213693952) (fun _ => (-1)) (fun _ => 0) kf (fun _ => 0) rfl) (gV t_467 mV_X1_offer) hV_X1_offer ⟨(Nat.le_of_ble_eq_true rfl), (Nat.le_of_ble_eq_true rfl)⟩ rfl rfl [1, 2, 3, 4, 5, 6] rfl rfl rfl hl.1 rfl (Nat.le_of_ble_eq_true rfl) dX1_find_10 ⟨(Nat.le_of_ble_eq_true rfl), (Nat.le_of_ble_eq_true rfl)⟩) hP hD hS hA [1, 2, 3, 4, 5, 6] [0] rfl rfl rfl (by decide) (fun u_5 H locs hw_6 hP hD hS => ?_)
  have hP : va_P D vwCl [(bk, .inr (5, [.ref br, .int 0])), (lg, .inr (1, [.ref l1, .ref l2, .ref l3, .ref l4, .ref l5])), (l1, .inl (cJ, 96, .inr (.inl (vp_updL (fun _ => 2305843009213693952) 57 0)))), (l2, .inl (cI, 96, .inl (upd (fun _ => (-1)) 57 (-1)))), (l3, .inl (cZ, 96, .inl (fun _ => 0))), (l4, .inl (cI, 96, .inl kf)), (l5, .inl (cI, 6, .inl (fun _ => 0)))] H := hP
  have hD : va_D A [(bk, .inr (5, [.ref br, .int 0])), (lg, .inr (1, [.ref l1, .ref l2, .ref l3, .ref l4, .ref l5])), (l1, .inl (cJ, 96, .inr (.inl (vp_updL (fun _ => 2305843009213693952) 57 0)))), (l2, .inl (cI, 96, .inl (upd (fun _ => (-1)) 57 (-1)))), (l3, .inl (cZ, 96, .inl (fun _ => 0))), (l4, .inl (cI, 96, .inl kf)), (l5, .inl (cI, 6, .inl (fun _ => 0)))] := hD
  refine lv_aload_n hx hb dX1_find_13 rfl (lv_at hl 0 rfl) ?_
  refine lv_iconst (v := 4) hx hb dX1_find_14 (by decide) ?_
  refine lv_bipush (v := 15) hx hb dX1_find_15 (by decide) ?_
  refine lv_lconst (v := 0) hx hb dX1_find_17 (by decide) ?_
  refine lv_iconst (v := -1) hx hb dX1_find_18 (by decide) ?_
  refine xc_v (wc := [(lg, .inr (1, [.ref l1, .ref l2, .ref l3, .ref l4, .ref l5])), (l1, .inl (cJ, 96, .inr (.inl (vp_updL (fun _ => 2305843009213693952) 57 0)))), (l2, .inl (cI, 96, .inl (upd (fun _ => (-1)) 57 (-1)))), (l3, .inl (cZ, 96, .inl (fun _ => 0))), (l4, .inl (cI, 96, .inl kf)), (l5, .inl (cI, 6, .inl (fun _ => 0)))]) (wr := [(bk, .inr (5, [.ref br, .int 0]))]) (xrV (n := 4) (As := [.int 4, .int 15, .long 0, .int (-1)]) (rest := []) (ci := 1) (q0 := 1) hd hK hP hD (c_offer_79 l D cI cJ cZ cR _ lg l1 l2 l3 l4 l5 (vp_updL (fun _ => 2305843009213693952) 57 0) (upd (fun _ => (-1)) 57 (-1)) (fun _ => 0) kf (fun _ => 0) (by decide +kernel)) (gV t_467 mV_X1_offer) hV_X1_offer ⟨(Nat.le_of_ble_eq_true rfl), (Nat.le_of_ble_eq_true rfl)⟩ rfl rfl [1, 2, 3, 4, 5, 6] rfl rfl rfl hl.1 rfl (Nat.le_of_ble_eq_true rfl) dX1_find_19 ⟨(Nat.le_of_ble_eq_true rfl), (Nat.le_of_ble_eq_true rfl)⟩) hP hD hS hA [1, 2, 3, 4, 5, 6] [0] rfl rfl rfl (by decide) (fun u_8 H locs hw_9 hP hD hS => ?_)
  have hP : va_P D vwCl [(bk, .inr (5, [.ref br, .int 0])), (lg, .inr (1, [.ref l1, .ref l2, .ref l3, .ref l4, .ref l5])), (l1, .inl (cJ, 96, .inr (.inl (vp_updL (vp_updL (fun _ => 2305843009213693952) 57 0) 79 0)))), (l2, .inl (cI, 96, .inl (upd (upd (fun _ => (-1)) 57 (-1)) 79 (-1)))), (l3, .inl (cZ, 96, .inl (fun _ => 0))), (l4, .inl (cI, 96, .inl kf)), (l5, .inl (cI, 6, .inl (fun _ => 0)))] H := hP
  have hD : va_D A [(bk, .inr (5, [.ref br, .int 0])), (lg, .inr (1, [.ref l1, .ref l2, .ref l3, .ref l4, .ref l5])), (l1, .inl (cJ, 96, .inr (.inl (vp_updL (vp_updL (fun _ => 2305843009213693952) 57 0) 79 0)))), (l2, .inl (cI, 96, .inl (upd (upd (fun _ => (-1)) 57 (-1)) 79 (-1)))), (l3, .inl (cZ, 96, .inl (fun _ => 0))), (l4, .inl (cI, 96, .inl kf)), (l5, .inl (cI, 6, .inl (fun _ => 0)))] := hD
  refine lv_aload_n hx hb dX1_find_22 rfl (lv_at hl 0 rfl) ?_
  refine lv_iconst (v := 5) hx hb dX1_find_23 (by decide) ?_
  refine lv_bipush (v := 12) hx hb dX1_find_24 (by decide) ?_
  refine lv_lconst (v := 0) hx hb dX1_find_26 (by decide) ?_
  refine lv_iconst (v := -1) hx hb dX1_find_27 (by decide) ?_
  refine xc_v (wc := [(lg, .inr (1, [.ref l1, .ref l2, .ref l3, .ref l4, .ref l5])), (l1, .inl (cJ, 96, .inr (.inl (vp_updL (vp_updL (fun _ => 2305843009213693952) 57 0) 79 0)))), (l2, .inl (cI, 96, .inl (upd (upd (fun _ => (-1)) 57 (-1)) 79 (-1)))), (l3, .inl (cZ, 96, .inl (fun _ => 0))), (l4, .inl (cI, 96, .inl kf)), (l5, .inl (cI, 6, .inl (fun _ => 0)))]) (wr := [(bk, .inr (5, [.ref br, .int 0]))]) (xrV (n := 4) (As := [.int 5, .int 12, .long 0, .int (-1)]) (rest := []) (ci := 1) (q0 := 1) hd hK hP hD (c_offer_92 l D cI cJ cZ cR _ lg l1 l2 l3 l4 l5 (vp_updL (vp_updL (fun _ => 2305843009213693952) 57 0) 79 0) (upd (upd (fun _ => (-1)) 57 (-1)) 79 (-1)) (fun _ => 0) kf (fun _ => 0) (by decide +kernel)) (gV t_467 mV_X1_offer) hV_X1_offer ⟨(Nat.le_of_ble_eq_true rfl), (Nat.le_of_ble_eq_true rfl)⟩ rfl rfl [1, 2, 3, 4, 5, 6] rfl rfl rfl hl.1 rfl (Nat.le_of_ble_eq_true rfl) dX1_find_28 ⟨(Nat.le_of_ble_eq_true rfl), (Nat.le_of_ble_eq_true rfl)⟩) hP hD hS hA [1, 2, 3, 4, 5, 6] [0] rfl rfl rfl (by decide) (fun u_11 H locs hw_12 hP hD hS => ?_)
  have hP : va_P D vwCl [(bk, .inr (5, [.ref br, .int 0])), (lg, .inr (1, [.ref l1, .ref l2, .ref l3, .ref l4, .ref l5])), (l1, .inl (cJ, 96, .inr (.inl (vp_updL (vp_updL (vp_updL (fun _ => 2305843009213693952) 57 0) 79 0) 92 0)))), (l2, .inl (cI, 96, .inl (upd (upd (upd (fun _ => (-1)) 57 (-1)) 79 (-1)) 92 (-1)))), (l3, .inl (cZ, 96, .inl (fun _ => 0))), (l4, .inl (cI, 96, .inl kf)), (l5, .inl (cI, 6, .inl (fun _ => 0)))] H := hP
  have hD : va_D A [(bk, .inr (5, [.ref br, .int 0])), (lg, .inr (1, [.ref l1, .ref l2, .ref l3, .ref l4, .ref l5])), (l1, .inl (cJ, 96, .inr (.inl (vp_updL (vp_updL (vp_updL (fun _ => 2305843009213693952) 57 0) 79 0) 92 0)))), (l2, .inl (cI, 96, .inl (upd (upd (upd (fun _ => (-1)) 57 (-1)) 79 (-1)) 92 (-1)))), (l3, .inl (cZ, 96, .inl (fun _ => 0))), (l4, .inl (cI, 96, .inl kf)), (l5, .inl (cI, 6, .inl (fun _ => 0)))] := hD
  refine lv_iconst (v := 0) hx hb dX1_find_31 (by decide) ?_
  refine lv_istore_n (lv' := [(2, .int 0), (0, .ref lg), (1, .ref bk)]) hx hb dX1_find_32 rfl hl (by decide) rfl (fun ls hl => ?_)
  refine lv_iload_n hx hb dX1_find_33 rfl (lv_at hl 0 rfl) ?_
  refine lv_bipush (v := 96) hx hb dX1_find_34 (by decide) ?_
  refine lv_icmp_ge (tgt := 107) hx hb dX1_find_36 (by decide) (fun c_13 => ?_) (fun c_13 => ?_)
  · exact absurd c_13 (by decide)
  refine lv_aload_n hx hb dX1_find_39 rfl (lv_at hl 1 rfl) ?_
  refine xc_i (wc := [(lg, .inr (1, [.ref l1, .ref l2, .ref l3, .ref l4, .ref l5])), (l1, .inl (cJ, 96, .inr (.inl (vp_updL (vp_updL (vp_updL (fun _ => 2305843009213693952) 57 0) 79 0) 92 0)))), (l2, .inl (cI, 96, .inl (upd (upd (upd (fun _ => (-1)) 57 (-1)) 79 (-1)) 92 (-1)))), (l3, .inl (cZ, 96, .inl (fun _ => 0))), (l4, .inl (cI, 96, .inl kf)), (l5, .inl (cI, 6, .inl (fun _ => 0)))]) (wr := [(bk, .inr (5, [.ref br, .int 0]))]) (xrV (n := 0) (As := []) (rest := []) (ci := 1) (q0 := 1) hd hK hP hD (c_X1_nearest l D cI cJ cZ cR _ lg l1 l2 l3 l4 l5 (vp_updL (vp_updL (vp_updL (fun _ => 2305843009213693952) 57 0) 79 0) 92 0) (upd (upd (upd (fun _ => (-1)) 57 (-1)) 79 (-1)) 92 (-1)) (fun _ => 0) kf (fun _ => 0) ) (gV t_471 mV_X1_nearest) hV_X1_nearest ⟨(Nat.le_of_ble_eq_true rfl), (Nat.le_of_ble_eq_true rfl)⟩ rfl rfl [1, 2, 3, 4, 5, 6] rfl rfl rfl hl.1 rfl (Nat.le_of_ble_eq_true rfl) dX1_find_40 ⟨(Nat.le_of_ble_eq_true rfl), (Nat.le_of_ble_eq_true rfl)⟩) hP hD hS hA [1, 2, 3, 4, 5, 6] [0] rfl rfl rfl (by decide) (fun r_14 u_15 H locs hw_16 hP hD hS => ?_)
  have hw_17 : r_14 = ((nearS (vp_updL (vp_updL (vp_updL (fun _ => 2305843009213693952) 57 0) 79 0) 92 0) (fun _ => 0) 96).1) := hw_16
  subst hw_17
  have hP : va_P D vwCl [(bk, .inr (5, [.ref br, .int 0])), (lg, .inr (1, [.ref l1, .ref l2, .ref l3, .ref l4, .ref l5])), (l1, .inl (cJ, 96, .inr (.inl (vp_updL (vp_updL (vp_updL (fun _ => 2305843009213693952) 57 0) 79 0) 92 0)))), (l2, .inl (cI, 96, .inl (upd (upd (upd (fun _ => (-1)) 57 (-1)) 79 (-1)) 92 (-1)))), (l3, .inl (cZ, 96, .inl (fun _ => 0))), (l4, .inl (cI, 96, .inl kf)), (l5, .inl (cI, 6, .inl (fun _ => 0)))] H := hP
  have hD : va_D A [(bk, .inr (5, [.ref br, .int 0])), (lg, .inr (1, [.ref l1, .ref l2, .ref l3, .ref l4, .ref l5])), (l1, .inl (cJ, 96, .inr (.inl (vp_updL (vp_updL (vp_updL (fun _ => 2305843009213693952) 57 0) 79 0) 92 0)))), (l2, .inl (cI, 96, .inl (upd (upd (upd (fun _ => (-1)) 57 (-1)) 79 (-1)) 92 (-1)))), (l3, .inl (cZ, 96, .inl (fun _ => 0))), (l4, .inl (cI, 96, .inl kf)), (l5, .inl (cI, 6, .inl (fun _ => 0)))] := hD
  refine lv_nmi (show _ = (57 : Int32) from near_1) ?_
  refine lv_istore_n (lv' := [(3, .int 57), (2, .int 0), (0, .ref lg), (1, .ref bk)]) hx hb dX1_find_43 rfl hl (by decide) rfl (fun ls hl => ?_)
  refine lv_iload_n hx hb dX1_find_44 rfl (lv_at hl 0 rfl) ?_
  refine lv_iconst (v := -1) hx hb dX1_find_45 (by decide) ?_
  refine lv_icmp_ne (tgt := 50) hx hb dX1_find_46 (by decide) (fun c_18 => ?_) (fun c_18 => ?_)
  rotate_left
  · exact absurd c_18 (by decide)
  refine lv_aload_n hx hb dX1_find_50 rfl (lv_at hl 2 rfl) ?_
  refine lv_iload_n hx hb dX1_find_51 rfl (lv_at hl 0 rfl) ?_
  refine lv_bipush (v := 16) hx hb dX1_find_52 (by decide) ?_
  refine lv_idiv hx hb dX1_find_54 (by decide) ?_
  refine lv_nmi (show _ = (3 : Int32) from by decide +kernel) ?_
  refine lv_iload_n hx hb dX1_find_55 rfl (lv_at hl 0 rfl) ?_
  refine lv_bipush (v := 16) hx hb dX1_find_56 (by decide) ?_
  refine lv_irem hx hb dX1_find_58 (by decide) ?_
  refine lv_nmi (show _ = (9 : Int32) from by decide +kernel) ?_
  refine xc_v (wc := [(lg, .inr (1, [.ref l1, .ref l2, .ref l3, .ref l4, .ref l5])), (l1, .inl (cJ, 96, .inr (.inl (vp_updL (vp_updL (vp_updL (fun _ => 2305843009213693952) 57 0) 79 0) 92 0)))), (l2, .inl (cI, 96, .inl (upd (upd (upd (fun _ => (-1)) 57 (-1)) 79 (-1)) 92 (-1)))), (l3, .inl (cZ, 96, .inl (fun _ => 0))), (l4, .inl (cI, 96, .inl kf)), (l5, .inl (cI, 6, .inl (fun _ => 0)))]) (wr := [(bk, .inr (5, [.ref br, .int 0]))]) (xrV (n := 2) (As := [.int 3, .int 9]) (rest := []) (ci := 1) (q0 := 1) hd hK hP hD (c_settle_57 l D cI cJ cZ cR _ lg l1 l2 l3 l4 l5 (vp_updL (vp_updL (vp_updL (fun _ => 2305843009213693952) 57 0) 79 0) 92 0) (upd (upd (upd (fun _ => (-1)) 57 (-1)) 79 (-1)) 92 (-1)) (fun _ => 0) kf (fun _ => 0) rfl) (gV t_475 mV_X1_settle) hV_X1_settle ⟨(Nat.le_of_ble_eq_true rfl), (Nat.le_of_ble_eq_true rfl)⟩ rfl rfl [1, 2, 3, 4, 5, 6] rfl rfl rfl hl.1 rfl (Nat.le_of_ble_eq_true rfl) dX1_find_59 ⟨(Nat.le_of_ble_eq_true rfl), (Nat.le_of_ble_eq_true rfl)⟩) hP hD hS hA [1, 2, 3, 4, 5, 6] [0] rfl rfl rfl (by decide) (fun u_20 H locs hw_21 hP hD hS => ?_)
  have hP : va_P D vwCl [(bk, .inr (5, [.ref br, .int 0])), (lg, .inr (1, [.ref l1, .ref l2, .ref l3, .ref l4, .ref l5])), (l1, .inl (cJ, 96, .inr (.inl (vp_updL (vp_updL (vp_updL (fun _ => 2305843009213693952) 57 0) 79 0) 92 0)))), (l2, .inl (cI, 96, .inl (upd (upd (upd (fun _ => (-1)) 57 (-1)) 79 (-1)) 92 (-1)))), (l3, .inl (cZ, 96, .inl (upd (fun _ => 0) 57 1))), (l4, .inl (cI, 96, .inl (upd kf 48 9))), (l5, .inl (cI, 6, .inl (upd (fun _ => 0) 3 1)))] H := hP
  have hD : va_D A [(bk, .inr (5, [.ref br, .int 0])), (lg, .inr (1, [.ref l1, .ref l2, .ref l3, .ref l4, .ref l5])), (l1, .inl (cJ, 96, .inr (.inl (vp_updL (vp_updL (vp_updL (fun _ => 2305843009213693952) 57 0) 79 0) 92 0)))), (l2, .inl (cI, 96, .inl (upd (upd (upd (fun _ => (-1)) 57 (-1)) 79 (-1)) 92 (-1)))), (l3, .inl (cZ, 96, .inl (upd (fun _ => 0) 57 1))), (l4, .inl (cI, 96, .inl (upd kf 48 9))), (l5, .inl (cI, 6, .inl (upd (fun _ => 0) 3 1)))] := hD
  refine lv_iconst (v := 0) hx hb dX1_find_62 (by decide) ?_
  refine lv_istore (lv' := [(4, .int 0), (3, .int 57), (2, .int 0), (0, .ref lg), (1, .ref bk)]) hx hb dX1_find_63 hl (by decide) rfl (fun ls hl => ?_)
  refine lv_iload hx hb dX1_find_65 (lv_at hl 0 rfl) ?_
  refine lv_aload_n hx hb dX1_find_67 rfl (lv_at hl 4 rfl) ?_
  refine va_get (D := D) (ci := 5) (v := .int 0) (C := RX5) (T := TX5) (N := 2) hx hb hts iT_X5 hown hK1 hP 0 rfl rfl 1 (by decide) (hts _ t_108) (fun _ h9 => h9) rfl dX1_find_68 ?_
  refine lv_icmp_ge (tgt := 101) hx hb dX1_find_71 (by decide) (fun c_22 => ?_) (fun c_22 => ?_)
  rotate_left
  · exact absurd c_22 (by decide)
  refine lv_iinc (v := 1) (lv' := [(2, .int 1), (4, .int 0), (3, .int 57), (0, .ref lg), (1, .ref bk)]) hx hb dX1_find_101 hl (k := 2) rfl (by decide) (by decide) rfl (fun ls hl => ?_)
  refine lv_goto (tgt := 33) hx hb dX1_find_104 (by decide) ?_
  refine lv_iload_n hx hb dX1_find_33 rfl (lv_at hl 0 rfl) ?_
  refine lv_bipush (v := 96) hx hb dX1_find_34 (by decide) ?_
  refine lv_icmp_ge (tgt := 107) hx hb dX1_find_36 (by decide) (fun c_23 => ?_) (fun c_23 => ?_)
  · exact absurd c_23 (by decide)
  refine lv_aload_n hx hb dX1_find_39 rfl (lv_at hl 3 rfl) ?_
  refine xc_i (wc := [(lg, .inr (1, [.ref l1, .ref l2, .ref l3, .ref l4, .ref l5])), (l1, .inl (cJ, 96, .inr (.inl (vp_updL (vp_updL (vp_updL (fun _ => 2305843009213693952) 57 0) 79 0) 92 0)))), (l2, .inl (cI, 96, .inl (upd (upd (upd (fun _ => (-1)) 57 (-1)) 79 (-1)) 92 (-1)))), (l3, .inl (cZ, 96, .inl (upd (fun _ => 0) 57 1))), (l4, .inl (cI, 96, .inl (upd kf 48 9))), (l5, .inl (cI, 6, .inl (upd (fun _ => 0) 3 1)))]) (wr := [(bk, .inr (5, [.ref br, .int 0]))]) (xrV (n := 0) (As := []) (rest := []) (ci := 1) (q0 := 1) hd hK hP hD (c_X1_nearest l D cI cJ cZ cR _ lg l1 l2 l3 l4 l5 (vp_updL (vp_updL (vp_updL (fun _ => 2305843009213693952) 57 0) 79 0) 92 0) (upd (upd (upd (fun _ => (-1)) 57 (-1)) 79 (-1)) 92 (-1)) (upd (fun _ => 0) 57 1) (upd kf 48 9) (upd (fun _ => 0) 3 1) ) (gV t_471 mV_X1_nearest) hV_X1_nearest ⟨(Nat.le_of_ble_eq_true rfl), (Nat.le_of_ble_eq_true rfl)⟩ rfl rfl [1, 2, 3, 4, 5, 6] rfl rfl rfl hl.1 rfl (Nat.le_of_ble_eq_true rfl) dX1_find_40 ⟨(Nat.le_of_ble_eq_true rfl), (Nat.le_of_ble_eq_true rfl)⟩) hP hD hS hA [1, 2, 3, 4, 5, 6] [0] rfl rfl rfl (by decide) (fun r_24 u_25 H locs hw_26 hP hD hS => ?_)
  have hw_27 : r_24 = ((nearS (vp_updL (vp_updL (vp_updL (fun _ => 2305843009213693952) 57 0) 79 0) 92 0) (upd (fun _ => 0) 57 1) 96).1) := hw_26
  subst hw_27
  have hP : va_P D vwCl [(bk, .inr (5, [.ref br, .int 0])), (lg, .inr (1, [.ref l1, .ref l2, .ref l3, .ref l4, .ref l5])), (l1, .inl (cJ, 96, .inr (.inl (vp_updL (vp_updL (vp_updL (fun _ => 2305843009213693952) 57 0) 79 0) 92 0)))), (l2, .inl (cI, 96, .inl (upd (upd (upd (fun _ => (-1)) 57 (-1)) 79 (-1)) 92 (-1)))), (l3, .inl (cZ, 96, .inl (upd (fun _ => 0) 57 1))), (l4, .inl (cI, 96, .inl (upd kf 48 9))), (l5, .inl (cI, 6, .inl (upd (fun _ => 0) 3 1)))] H := hP
  have hD : va_D A [(bk, .inr (5, [.ref br, .int 0])), (lg, .inr (1, [.ref l1, .ref l2, .ref l3, .ref l4, .ref l5])), (l1, .inl (cJ, 96, .inr (.inl (vp_updL (vp_updL (vp_updL (fun _ => 2305843009213693952) 57 0) 79 0) 92 0)))), (l2, .inl (cI, 96, .inl (upd (upd (upd (fun _ => (-1)) 57 (-1)) 79 (-1)) 92 (-1)))), (l3, .inl (cZ, 96, .inl (upd (fun _ => 0) 57 1))), (l4, .inl (cI, 96, .inl (upd kf 48 9))), (l5, .inl (cI, 6, .inl (upd (fun _ => 0) 3 1)))] := hD
  refine lv_nmi (show _ = (79 : Int32) from near_2) ?_
  refine lv_istore_n (lv' := [(3, .int 79), (2, .int 1), (4, .int 0), (0, .ref lg), (1, .ref bk)]) hx hb dX1_find_43 rfl hl (by decide) rfl (fun ls hl => ?_)
  refine lv_iload_n hx hb dX1_find_44 rfl (lv_at hl 0 rfl) ?_
  refine lv_iconst (v := -1) hx hb dX1_find_45 (by decide) ?_
  refine lv_icmp_ne (tgt := 50) hx hb dX1_find_46 (by decide) (fun c_28 => ?_) (fun c_28 => ?_)
  rotate_left
  · exact absurd c_28 (by decide)
  refine lv_aload_n hx hb dX1_find_50 rfl (lv_at hl 3 rfl) ?_
  refine lv_iload_n hx hb dX1_find_51 rfl (lv_at hl 0 rfl) ?_
  refine lv_bipush (v := 16) hx hb dX1_find_52 (by decide) ?_
  refine lv_idiv hx hb dX1_find_54 (by decide) ?_
  refine lv_nmi (show _ = (4 : Int32) from by decide +kernel) ?_
  refine lv_iload_n hx hb dX1_find_55 rfl (lv_at hl 0 rfl) ?_
  refine lv_bipush (v := 16) hx hb dX1_find_56 (by decide) ?_
  refine lv_irem hx hb dX1_find_58 (by decide) ?_
  refine lv_nmi (show _ = (15 : Int32) from by decide +kernel) ?_
  refine xc_v (wc := [(lg, .inr (1, [.ref l1, .ref l2, .ref l3, .ref l4, .ref l5])), (l1, .inl (cJ, 96, .inr (.inl (vp_updL (vp_updL (vp_updL (fun _ => 2305843009213693952) 57 0) 79 0) 92 0)))), (l2, .inl (cI, 96, .inl (upd (upd (upd (fun _ => (-1)) 57 (-1)) 79 (-1)) 92 (-1)))), (l3, .inl (cZ, 96, .inl (upd (fun _ => 0) 57 1))), (l4, .inl (cI, 96, .inl (upd kf 48 9))), (l5, .inl (cI, 6, .inl (upd (fun _ => 0) 3 1)))]) (wr := [(bk, .inr (5, [.ref br, .int 0]))]) (xrV (n := 2) (As := [.int 4, .int 15]) (rest := []) (ci := 1) (q0 := 1) hd hK hP hD (c_settle_79 l D cI cJ cZ cR _ lg l1 l2 l3 l4 l5 (vp_updL (vp_updL (vp_updL (fun _ => 2305843009213693952) 57 0) 79 0) 92 0) (upd (upd (upd (fun _ => (-1)) 57 (-1)) 79 (-1)) 92 (-1)) (upd (fun _ => 0) 57 1) (upd kf 48 9) (upd (fun _ => 0) 3 1) (by decide +kernel)) (gV t_475 mV_X1_settle) hV_X1_settle ⟨(Nat.le_of_ble_eq_true rfl), (Nat.le_of_ble_eq_true rfl)⟩ rfl rfl [1, 2, 3, 4, 5, 6] rfl rfl rfl hl.1 rfl (Nat.le_of_ble_eq_true rfl) dX1_find_59 ⟨(Nat.le_of_ble_eq_true rfl), (Nat.le_of_ble_eq_true rfl)⟩) hP hD hS hA [1, 2, 3, 4, 5, 6] [0] rfl rfl rfl (by decide) (fun u_30 H locs hw_31 hP hD hS => ?_)
  have hP : va_P D vwCl [(bk, .inr (5, [.ref br, .int 0])), (lg, .inr (1, [.ref l1, .ref l2, .ref l3, .ref l4, .ref l5])), (l1, .inl (cJ, 96, .inr (.inl (vp_updL (vp_updL (vp_updL (fun _ => 2305843009213693952) 57 0) 79 0) 92 0)))), (l2, .inl (cI, 96, .inl (upd (upd (upd (fun _ => (-1)) 57 (-1)) 79 (-1)) 92 (-1)))), (l3, .inl (cZ, 96, .inl (upd (upd (fun _ => 0) 57 1) 79 1))), (l4, .inl (cI, 96, .inl (upd (upd kf 48 9) 64 15))), (l5, .inl (cI, 6, .inl (upd (upd (fun _ => 0) 3 1) 4 1)))] H := hP
  have hD : va_D A [(bk, .inr (5, [.ref br, .int 0])), (lg, .inr (1, [.ref l1, .ref l2, .ref l3, .ref l4, .ref l5])), (l1, .inl (cJ, 96, .inr (.inl (vp_updL (vp_updL (vp_updL (fun _ => 2305843009213693952) 57 0) 79 0) 92 0)))), (l2, .inl (cI, 96, .inl (upd (upd (upd (fun _ => (-1)) 57 (-1)) 79 (-1)) 92 (-1)))), (l3, .inl (cZ, 96, .inl (upd (upd (fun _ => 0) 57 1) 79 1))), (l4, .inl (cI, 96, .inl (upd (upd kf 48 9) 64 15))), (l5, .inl (cI, 6, .inl (upd (upd (fun _ => 0) 3 1) 4 1)))] := hD
  refine lv_iconst (v := 0) hx hb dX1_find_62 (by decide) ?_
  refine lv_istore (lv' := [(4, .int 0), (3, .int 79), (2, .int 1), (0, .ref lg), (1, .ref bk)]) hx hb dX1_find_63 hl (by decide) rfl (fun ls hl => ?_)
  refine lv_iload hx hb dX1_find_65 (lv_at hl 0 rfl) ?_
  refine lv_aload_n hx hb dX1_find_67 rfl (lv_at hl 4 rfl) ?_
  refine va_get (D := D) (ci := 5) (v := .int 0) (C := RX5) (T := TX5) (N := 2) hx hb hts iT_X5 hown hK1 hP 0 rfl rfl 1 (by decide) (hts _ t_108) (fun _ h9 => h9) rfl dX1_find_68 ?_
  refine lv_icmp_ge (tgt := 101) hx hb dX1_find_71 (by decide) (fun c_32 => ?_) (fun c_32 => ?_)
  rotate_left
  · exact absurd c_32 (by decide)
  refine lv_iinc (v := 2) (lv' := [(2, .int 2), (4, .int 0), (3, .int 79), (0, .ref lg), (1, .ref bk)]) hx hb dX1_find_101 hl (k := 2) rfl (by decide) (by decide) rfl (fun ls hl => ?_)
  refine lv_goto (tgt := 33) hx hb dX1_find_104 (by decide) ?_
  refine lv_iload_n hx hb dX1_find_33 rfl (lv_at hl 0 rfl) ?_
  refine lv_bipush (v := 96) hx hb dX1_find_34 (by decide) ?_
  refine lv_icmp_ge (tgt := 107) hx hb dX1_find_36 (by decide) (fun c_33 => ?_) (fun c_33 => ?_)
  · exact absurd c_33 (by decide)
  refine lv_aload_n hx hb dX1_find_39 rfl (lv_at hl 3 rfl) ?_
  refine xc_i (wc := [(lg, .inr (1, [.ref l1, .ref l2, .ref l3, .ref l4, .ref l5])), (l1, .inl (cJ, 96, .inr (.inl (vp_updL (vp_updL (vp_updL (fun _ => 2305843009213693952) 57 0) 79 0) 92 0)))), (l2, .inl (cI, 96, .inl (upd (upd (upd (fun _ => (-1)) 57 (-1)) 79 (-1)) 92 (-1)))), (l3, .inl (cZ, 96, .inl (upd (upd (fun _ => 0) 57 1) 79 1))), (l4, .inl (cI, 96, .inl (upd (upd kf 48 9) 64 15))), (l5, .inl (cI, 6, .inl (upd (upd (fun _ => 0) 3 1) 4 1)))]) (wr := [(bk, .inr (5, [.ref br, .int 0]))]) (xrV (n := 0) (As := []) (rest := []) (ci := 1) (q0 := 1) hd hK hP hD (c_X1_nearest l D cI cJ cZ cR _ lg l1 l2 l3 l4 l5 (vp_updL (vp_updL (vp_updL (fun _ => 2305843009213693952) 57 0) 79 0) 92 0) (upd (upd (upd (fun _ => (-1)) 57 (-1)) 79 (-1)) 92 (-1)) (upd (upd (fun _ => 0) 57 1) 79 1) (upd (upd kf 48 9) 64 15) (upd (upd (fun _ => 0) 3 1) 4 1) ) (gV t_471 mV_X1_nearest) hV_X1_nearest ⟨(Nat.le_of_ble_eq_true rfl), (Nat.le_of_ble_eq_true rfl)⟩ rfl rfl [1, 2, 3, 4, 5, 6] rfl rfl rfl hl.1 rfl (Nat.le_of_ble_eq_true rfl) dX1_find_40 ⟨(Nat.le_of_ble_eq_true rfl), (Nat.le_of_ble_eq_true rfl)⟩) hP hD hS hA [1, 2, 3, 4, 5, 6] [0] rfl rfl rfl (by decide) (fun r_34 u_35 H locs hw_36 hP hD hS => ?_)
  have hw_37 : r_34 = ((nearS (vp_updL (vp_updL (vp_updL (fun _ => 2305843009213693952) 57 0) 79 0) 92 0) (upd (upd (fun _ => 0) 57 1) 79 1) 96).1) := hw_36
  subst hw_37
  have hP : va_P D vwCl [(bk, .inr (5, [.ref br, .int 0])), (lg, .inr (1, [.ref l1, .ref l2, .ref l3, .ref l4, .ref l5])), (l1, .inl (cJ, 96, .inr (.inl (vp_updL (vp_updL (vp_updL (fun _ => 2305843009213693952) 57 0) 79 0) 92 0)))), (l2, .inl (cI, 96, .inl (upd (upd (upd (fun _ => (-1)) 57 (-1)) 79 (-1)) 92 (-1)))), (l3, .inl (cZ, 96, .inl (upd (upd (fun _ => 0) 57 1) 79 1))), (l4, .inl (cI, 96, .inl (upd (upd kf 48 9) 64 15))), (l5, .inl (cI, 6, .inl (upd (upd (fun _ => 0) 3 1) 4 1)))] H := hP
  have hD : va_D A [(bk, .inr (5, [.ref br, .int 0])), (lg, .inr (1, [.ref l1, .ref l2, .ref l3, .ref l4, .ref l5])), (l1, .inl (cJ, 96, .inr (.inl (vp_updL (vp_updL (vp_updL (fun _ => 2305843009213693952) 57 0) 79 0) 92 0)))), (l2, .inl (cI, 96, .inl (upd (upd (upd (fun _ => (-1)) 57 (-1)) 79 (-1)) 92 (-1)))), (l3, .inl (cZ, 96, .inl (upd (upd (fun _ => 0) 57 1) 79 1))), (l4, .inl (cI, 96, .inl (upd (upd kf 48 9) 64 15))), (l5, .inl (cI, 6, .inl (upd (upd (fun _ => 0) 3 1) 4 1)))] := hD
  refine lv_nmi (show _ = (92 : Int32) from near_3) ?_
  refine lv_istore_n (lv' := [(3, .int 92), (2, .int 2), (4, .int 0), (0, .ref lg), (1, .ref bk)]) hx hb dX1_find_43 rfl hl (by decide) rfl (fun ls hl => ?_)
  refine lv_iload_n hx hb dX1_find_44 rfl (lv_at hl 0 rfl) ?_
  refine lv_iconst (v := -1) hx hb dX1_find_45 (by decide) ?_
  refine lv_icmp_ne (tgt := 50) hx hb dX1_find_46 (by decide) (fun c_38 => ?_) (fun c_38 => ?_)
  rotate_left
  · exact absurd c_38 (by decide)
  refine lv_aload_n hx hb dX1_find_50 rfl (lv_at hl 3 rfl) ?_
  refine lv_iload_n hx hb dX1_find_51 rfl (lv_at hl 0 rfl) ?_
  refine lv_bipush (v := 16) hx hb dX1_find_52 (by decide) ?_
  refine lv_idiv hx hb dX1_find_54 (by decide) ?_
  refine lv_nmi (show _ = (5 : Int32) from by decide +kernel) ?_
  refine lv_iload_n hx hb dX1_find_55 rfl (lv_at hl 0 rfl) ?_
  refine lv_bipush (v := 16) hx hb dX1_find_56 (by decide) ?_
  refine lv_irem hx hb dX1_find_58 (by decide) ?_
  refine lv_nmi (show _ = (12 : Int32) from by decide +kernel) ?_
  refine xc_v (wc := [(lg, .inr (1, [.ref l1, .ref l2, .ref l3, .ref l4, .ref l5])), (l1, .inl (cJ, 96, .inr (.inl (vp_updL (vp_updL (vp_updL (fun _ => 2305843009213693952) 57 0) 79 0) 92 0)))), (l2, .inl (cI, 96, .inl (upd (upd (upd (fun _ => (-1)) 57 (-1)) 79 (-1)) 92 (-1)))), (l3, .inl (cZ, 96, .inl (upd (upd (fun _ => 0) 57 1) 79 1))), (l4, .inl (cI, 96, .inl (upd (upd kf 48 9) 64 15))), (l5, .inl (cI, 6, .inl (upd (upd (fun _ => 0) 3 1) 4 1)))]) (wr := [(bk, .inr (5, [.ref br, .int 0]))]) (xrV (n := 2) (As := [.int 5, .int 12]) (rest := []) (ci := 1) (q0 := 1) hd hK hP hD (c_settle_92 l D cI cJ cZ cR _ lg l1 l2 l3 l4 l5 (vp_updL (vp_updL (vp_updL (fun _ => 2305843009213693952) 57 0) 79 0) 92 0) (upd (upd (upd (fun _ => (-1)) 57 (-1)) 79 (-1)) 92 (-1)) (upd (upd (fun _ => 0) 57 1) 79 1) (upd (upd kf 48 9) 64 15) (upd (upd (fun _ => 0) 3 1) 4 1) (by decide +kernel)) (gV t_475 mV_X1_settle) hV_X1_settle ⟨(Nat.le_of_ble_eq_true rfl), (Nat.le_of_ble_eq_true rfl)⟩ rfl rfl [1, 2, 3, 4, 5, 6] rfl rfl rfl hl.1 rfl (Nat.le_of_ble_eq_true rfl) dX1_find_59 ⟨(Nat.le_of_ble_eq_true rfl), (Nat.le_of_ble_eq_true rfl)⟩) hP hD hS hA [1, 2, 3, 4, 5, 6] [0] rfl rfl rfl (by decide) (fun u_40 H locs hw_41 hP hD hS => ?_)
  have hP : va_P D vwCl [(bk, .inr (5, [.ref br, .int 0])), (lg, .inr (1, [.ref l1, .ref l2, .ref l3, .ref l4, .ref l5])), (l1, .inl (cJ, 96, .inr (.inl (vp_updL (vp_updL (vp_updL (fun _ => 2305843009213693952) 57 0) 79 0) 92 0)))), (l2, .inl (cI, 96, .inl (upd (upd (upd (fun _ => (-1)) 57 (-1)) 79 (-1)) 92 (-1)))), (l3, .inl (cZ, 96, .inl (upd (upd (upd (fun _ => 0) 57 1) 79 1) 92 1))), (l4, .inl (cI, 96, .inl (upd (upd (upd kf 48 9) 64 15) 80 12))), (l5, .inl (cI, 6, .inl (upd (upd (upd (fun _ => 0) 3 1) 4 1) 5 1)))] H := hP
  have hD : va_D A [(bk, .inr (5, [.ref br, .int 0])), (lg, .inr (1, [.ref l1, .ref l2, .ref l3, .ref l4, .ref l5])), (l1, .inl (cJ, 96, .inr (.inl (vp_updL (vp_updL (vp_updL (fun _ => 2305843009213693952) 57 0) 79 0) 92 0)))), (l2, .inl (cI, 96, .inl (upd (upd (upd (fun _ => (-1)) 57 (-1)) 79 (-1)) 92 (-1)))), (l3, .inl (cZ, 96, .inl (upd (upd (upd (fun _ => 0) 57 1) 79 1) 92 1))), (l4, .inl (cI, 96, .inl (upd (upd (upd kf 48 9) 64 15) 80 12))), (l5, .inl (cI, 6, .inl (upd (upd (upd (fun _ => 0) 3 1) 4 1) 5 1)))] := hD
  refine lv_iconst (v := 0) hx hb dX1_find_62 (by decide) ?_
  refine lv_istore (lv' := [(4, .int 0), (3, .int 92), (2, .int 2), (0, .ref lg), (1, .ref bk)]) hx hb dX1_find_63 hl (by decide) rfl (fun ls hl => ?_)
  refine lv_iload hx hb dX1_find_65 (lv_at hl 0 rfl) ?_
  refine lv_aload_n hx hb dX1_find_67 rfl (lv_at hl 4 rfl) ?_
  refine va_get (D := D) (ci := 5) (v := .int 0) (C := RX5) (T := TX5) (N := 2) hx hb hts iT_X5 hown hK1 hP 0 rfl rfl 1 (by decide) (hts _ t_108) (fun _ h9 => h9) rfl dX1_find_68 ?_
  refine lv_icmp_ge (tgt := 101) hx hb dX1_find_71 (by decide) (fun c_42 => ?_) (fun c_42 => ?_)
  rotate_left
  · exact absurd c_42 (by decide)
  refine lv_iinc (v := 3) (lv' := [(2, .int 3), (4, .int 0), (3, .int 92), (0, .ref lg), (1, .ref bk)]) hx hb dX1_find_101 hl (k := 2) rfl (by decide) (by decide) rfl (fun ls hl => ?_)
  refine lv_goto (tgt := 33) hx hb dX1_find_104 (by decide) ?_
  refine lv_iload_n hx hb dX1_find_33 rfl (lv_at hl 0 rfl) ?_
  refine lv_bipush (v := 96) hx hb dX1_find_34 (by decide) ?_
  refine lv_icmp_ge (tgt := 107) hx hb dX1_find_36 (by decide) (fun c_43 => ?_) (fun c_43 => ?_)
  · exact absurd c_43 (by decide)
  refine lv_aload_n hx hb dX1_find_39 rfl (lv_at hl 3 rfl) ?_
  refine xc_i (wc := [(lg, .inr (1, [.ref l1, .ref l2, .ref l3, .ref l4, .ref l5])), (l1, .inl (cJ, 96, .inr (.inl (vp_updL (vp_updL (vp_updL (fun _ => 2305843009213693952) 57 0) 79 0) 92 0)))), (l2, .inl (cI, 96, .inl (upd (upd (upd (fun _ => (-1)) 57 (-1)) 79 (-1)) 92 (-1)))), (l3, .inl (cZ, 96, .inl (upd (upd (upd (fun _ => 0) 57 1) 79 1) 92 1))), (l4, .inl (cI, 96, .inl (upd (upd (upd kf 48 9) 64 15) 80 12))), (l5, .inl (cI, 6, .inl (upd (upd (upd (fun _ => 0) 3 1) 4 1) 5 1)))]) (wr := [(bk, .inr (5, [.ref br, .int 0]))]) (xrV (n := 0) (As := []) (rest := []) (ci := 1) (q0 := 1) hd hK hP hD (c_X1_nearest l D cI cJ cZ cR _ lg l1 l2 l3 l4 l5 (vp_updL (vp_updL (vp_updL (fun _ => 2305843009213693952) 57 0) 79 0) 92 0) (upd (upd (upd (fun _ => (-1)) 57 (-1)) 79 (-1)) 92 (-1)) (upd (upd (upd (fun _ => 0) 57 1) 79 1) 92 1) (upd (upd (upd kf 48 9) 64 15) 80 12) (upd (upd (upd (fun _ => 0) 3 1) 4 1) 5 1) ) (gV t_471 mV_X1_nearest) hV_X1_nearest ⟨(Nat.le_of_ble_eq_true rfl), (Nat.le_of_ble_eq_true rfl)⟩ rfl rfl [1, 2, 3, 4, 5, 6] rfl rfl rfl hl.1 rfl (Nat.le_of_ble_eq_true rfl) dX1_find_40 ⟨(Nat.le_of_ble_eq_true rfl), (Nat.le_of_ble_eq_true rfl)⟩) hP hD hS hA [1, 2, 3, 4, 5, 6] [0] rfl rfl rfl (by decide) (fun r_44 u_45 H locs hw_46 hP hD hS => ?_)
  have hw_47 : r_44 = ((nearS (vp_updL (vp_updL (vp_updL (fun _ => 2305843009213693952) 57 0) 79 0) 92 0) (upd (upd (upd (fun _ => 0) 57 1) 79 1) 92 1) 96).1) := hw_46
  subst hw_47
  have hP : va_P D vwCl [(bk, .inr (5, [.ref br, .int 0])), (lg, .inr (1, [.ref l1, .ref l2, .ref l3, .ref l4, .ref l5])), (l1, .inl (cJ, 96, .inr (.inl (vp_updL (vp_updL (vp_updL (fun _ => 2305843009213693952) 57 0) 79 0) 92 0)))), (l2, .inl (cI, 96, .inl (upd (upd (upd (fun _ => (-1)) 57 (-1)) 79 (-1)) 92 (-1)))), (l3, .inl (cZ, 96, .inl (upd (upd (upd (fun _ => 0) 57 1) 79 1) 92 1))), (l4, .inl (cI, 96, .inl (upd (upd (upd kf 48 9) 64 15) 80 12))), (l5, .inl (cI, 6, .inl (upd (upd (upd (fun _ => 0) 3 1) 4 1) 5 1)))] H := hP
  have hD : va_D A [(bk, .inr (5, [.ref br, .int 0])), (lg, .inr (1, [.ref l1, .ref l2, .ref l3, .ref l4, .ref l5])), (l1, .inl (cJ, 96, .inr (.inl (vp_updL (vp_updL (vp_updL (fun _ => 2305843009213693952) 57 0) 79 0) 92 0)))), (l2, .inl (cI, 96, .inl (upd (upd (upd (fun _ => (-1)) 57 (-1)) 79 (-1)) 92 (-1)))), (l3, .inl (cZ, 96, .inl (upd (upd (upd (fun _ => 0) 57 1) 79 1) 92 1))), (l4, .inl (cI, 96, .inl (upd (upd (upd kf 48 9) 64 15) 80 12))), (l5, .inl (cI, 6, .inl (upd (upd (upd (fun _ => 0) 3 1) 4 1) 5 1)))] := hD
  refine lv_nmi (show _ = (-1 : Int32) from near_4) ?_
  refine lv_istore_n (lv' := [(3, .int (-1)), (2, .int 3), (4, .int 0), (0, .ref lg), (1, .ref bk)]) hx hb dX1_find_43 rfl hl (by decide) rfl (fun ls hl => ?_)
  refine lv_iload_n hx hb dX1_find_44 rfl (lv_at hl 0 rfl) ?_
  refine lv_iconst (v := -1) hx hb dX1_find_45 (by decide) ?_
  refine lv_icmp_ne (tgt := 50) hx hb dX1_find_46 (by decide) (fun c_48 => ?_) (fun c_48 => ?_)
  · exact absurd c_48 (by decide)
  exact hret _ _ _ _ _ _ (vp_updL (vp_updL (vp_updL (fun _ => 2305843009213693952) 57 0) 79 0) 92 0, upd (upd (upd (fun _ => (-1)) 57 (-1)) 79 (-1)) 92 (-1), upd (upd (upd (fun _ => 0) 57 1) 79 1) 92 1, upd (upd (upd kf 48 9) 64 15) 80 12, upd (upd (upd (fun _ => 0) 3 1) 4 1) 5 1) dX1_find_49 hS (Nat.le_of_ble_eq_true rfl) (Nat.le_of_ble_eq_true rfl) ⟨nF_0, nG_0⟩ (hP.sub [1, 2, 3, 4, 5, 6, 0] rfl) (hD.sub [1, 2, 3, 4, 5, 6, 0] rfl rfl)
set_option maxHeartbeats 4000000 in
set_option maxRecDepth 100000 in
theorem c_bring_0 (sz : Nat) (h0 : Nat) (pg : Nat) (bk : Nat) (fg : Nat) (og : Nat) (lg : Nat) (br : Nat) (l1 : Nat) (l2 : Nat) (l3 : Nat) (l4 : Nat) (l5 : Nat) (ff : Nat → Int64) (gf : Nat → Int32) (zf : Nat → Int32) (kf : Nat → Int32) (cf : Nat → Int32)  : CTv l D cI cJ cZ cR yX6_bringLights cX6_bringLights 1 none 3 69 0 0 sz [.ref h0] [(h0, .inr (6, [.ref pg, .ref bk, .ref fg, .ref og, .ref lg, .int 0, .int 0, .int 0, .int 0, .int 0])), (lg, .inr (1, [.ref l1, .ref l2, .ref l3, .ref l4, .ref l5])), (l1, .inl (cJ, 96, .inr (.inl ff))), (l2, .inl (cI, 96, .inl gf)), (l3, .inl (cZ, 96, .inl zf)), (l4, .inl (cI, 96, .inl kf)), (l5, .inl (cI, 6, .inl cf)), (bk, .inr (5, [.ref br, .int 0]))] (fun (u : (Nat → Int64) × (Nat → Int32) × (Nat → Int32) × (Nat → Int32) × (Nat → Int32)) => (Lz u.1 u.2.1)) (fun (u : (Nat → Int64) × (Nat → Int32) × (Nat → Int32) × (Nat → Int32) × (Nat → Int32)) => [(h0, .inr (6, [.ref pg, .ref bk, .ref fg, .ref og, .ref lg, .int 0, .int 1, .int 0, .int 0, .int 0])), (lg, .inr (1, [.ref l1, .ref l2, .ref l3, .ref l4, .ref l5])), (l1, .inl (cJ, 96, .inr (.inl u.1))), (l2, .inl (cI, 96, .inl u.2.1)), (l3, .inl (cZ, 96, .inl u.2.2.1)), (l4, .inl (cI, 96, .inl u.2.2.2.1)), (l5, .inl (cI, 6, .inl u.2.2.2.2)), (bk, .inr (5, [.ref br, .int 0]))]) := by
  refine CTv.of (by decide) (Nat.le_of_ble_eq_true rfl) rfl ?_
  intro p e s m below meth c A Q ls hd hin hK hsz hP hD hA hS hl hret
  obtain ⟨hx, hb, hml, hown, hts⟩ := id hd
  have hK1 := hK.1
  have hown : s.vm.findClass RX6 = some m.cls := hown
  have hl : lv_has ls 1 [(0, .ref h0)] := hl
  refine lv_aload_n hx hb dX6_bringLights_0 rfl (lv_at hl 0 rfl) ?_
  refine va_get (D := D) (ci := 6) (v := .int 0) (C := RX6) (T := TX6) (N := 10) hx hb hts iT_X6 hown hK1 hP 0 rfl rfl 6 (by decide) (hts _ t_160) (fun _ h9 => h9) rfl dX6_bringLights_1 ?_
  refine lv_if_ne (tgt := 23) hx hb dX6_bringLights_4 (by decide) (fun c_1 => ?_) (fun c_1 => ?_)
  · exact absurd c_1 (by decide)
  refine lv_aload_n hx hb dX6_bringLights_7 rfl (lv_at hl 0 rfl) ?_
  refine va_get (D := D) (ci := 6) (v := .ref lg) (C := RX6) (T := TX6) (N := 10) hx hb hts iT_X6 hown hK1 hP 0 rfl rfl 4 (by decide) (hts _ t_158) (fun _ h9 => h9) rfl dX6_bringLights_8 ?_
  refine lv_aload_n hx hb dX6_bringLights_11 rfl (lv_at hl 0 rfl) ?_
  refine va_get (D := D) (ci := 6) (v := .ref bk) (C := RX6) (T := TX6) (N := 10) hx hb hts iT_X6 hown hK1 hP 0 rfl rfl 1 (by decide) (hts _ t_155) (fun _ h9 => h9) rfl dX6_bringLights_12 ?_
  refine xc_v (wc := [(lg, .inr (1, [.ref l1, .ref l2, .ref l3, .ref l4, .ref l5])), (l1, .inl (cJ, 96, .inr (.inl ff))), (l2, .inl (cI, 96, .inl gf)), (l3, .inl (cZ, 96, .inl zf)), (l4, .inl (cI, 96, .inl kf)), (l5, .inl (cI, 6, .inl cf)), (bk, .inr (5, [.ref br, .int 0]))]) (wr := [(h0, .inr (6, [.ref pg, .ref bk, .ref fg, .ref og, .ref lg, .int 0, .int 0, .int 0, .int 0, .int 0]))]) (xrV (n := 1) (As := [.ref bk]) (rest := []) (ci := 1) (q0 := 1) hd hK hP hD (c_X1_find l D cI cJ cZ cR _ lg l1 l2 l3 l4 l5 bk br ff gf zf kf cf ) (gV t_454 mV_X1_find) hV_X1_find ⟨(Nat.le_of_ble_eq_true rfl), (Nat.le_of_ble_eq_true rfl)⟩ rfl rfl [1, 2, 3, 4, 5, 6, 7] rfl rfl rfl hl.1 rfl (Nat.le_of_ble_eq_true rfl) dX6_bringLights_15 ⟨(Nat.le_of_ble_eq_true rfl), (Nat.le_of_ble_eq_true rfl)⟩) hP hD hS hA [1, 2, 3, 4, 5, 6, 7] [0] rfl rfl rfl (by decide) (fun u_3 H locs hw_4 hP hD hS => ?_)
  obtain ⟨f2_5, g2_6, z2_7, k2_8, c2_9⟩ := u_3
  have hw_10 : Lz f2_5 g2_6 := hw_4
  have hP : va_P D vwCl [(h0, .inr (6, [.ref pg, .ref bk, .ref fg, .ref og, .ref lg, .int 0, .int 0, .int 0, .int 0, .int 0])), (lg, .inr (1, [.ref l1, .ref l2, .ref l3, .ref l4, .ref l5])), (l1, .inl (cJ, 96, .inr (.inl f2_5))), (l2, .inl (cI, 96, .inl g2_6)), (l3, .inl (cZ, 96, .inl z2_7)), (l4, .inl (cI, 96, .inl k2_8)), (l5, .inl (cI, 6, .inl c2_9)), (bk, .inr (5, [.ref br, .int 0]))] H := hP
  have hD : va_D A [(h0, .inr (6, [.ref pg, .ref bk, .ref fg, .ref og, .ref lg, .int 0, .int 0, .int 0, .int 0, .int 0])), (lg, .inr (1, [.ref l1, .ref l2, .ref l3, .ref l4, .ref l5])), (l1, .inl (cJ, 96, .inr (.inl f2_5))), (l2, .inl (cI, 96, .inl g2_6)), (l3, .inl (cZ, 96, .inl z2_7)), (l4, .inl (cI, 96, .inl k2_8)), (l5, .inl (cI, 6, .inl c2_9)), (bk, .inr (5, [.ref br, .int 0]))] := hD
  refine lv_aload_n hx hb dX6_bringLights_18 rfl (lv_at hl 0 rfl) ?_
  refine lv_iconst (v := 1) hx hb dX6_bringLights_19 (by decide) ?_
  refine va_put (D := D) (ci := 6) (v := .int 1) (ty := .boolean) (C := RX6) (T := TX6) (N := 10) hx hb hts iT_X6 tyX6 tyX6_ok nmX6 hown hK1 hP hD hS 0 rfl rfl 6 (by decide) (hts _ t_160) (fun _ h9 => h9) rfl (by decide +kernel) rfl rfl (Nat.le_of_ble_eq_true rfl) dX6_bringLights_20 (fun H locs hP hD hS => ?_)
  have hP : va_P D vwCl [(h0, .inr (6, [.ref pg, .ref bk, .ref fg, .ref og, .ref lg, .int 0, .int 1, .int 0, .int 0, .int 0])), (lg, .inr (1, [.ref l1, .ref l2, .ref l3, .ref l4, .ref l5])), (l1, .inl (cJ, 96, .inr (.inl f2_5))), (l2, .inl (cI, 96, .inl g2_6)), (l3, .inl (cZ, 96, .inl z2_7)), (l4, .inl (cI, 96, .inl k2_8)), (l5, .inl (cI, 6, .inl c2_9)), (bk, .inr (5, [.ref br, .int 0]))] H := hP
  have hD : va_D A [(h0, .inr (6, [.ref pg, .ref bk, .ref fg, .ref og, .ref lg, .int 0, .int 1, .int 0, .int 0, .int 0])), (lg, .inr (1, [.ref l1, .ref l2, .ref l3, .ref l4, .ref l5])), (l1, .inl (cJ, 96, .inr (.inl f2_5))), (l2, .inl (cI, 96, .inl g2_6)), (l3, .inl (cZ, 96, .inl z2_7)), (l4, .inl (cI, 96, .inl k2_8)), (l5, .inl (cI, 6, .inl c2_9)), (bk, .inr (5, [.ref br, .int 0]))] := hD
  exact hret _ _ _ _ _ _ (f2_5, g2_6, z2_7, k2_8, c2_9) dX6_bringLights_23 hS (Nat.le_of_ble_eq_true rfl) (Nat.le_of_ble_eq_true rfl) hw_10 (hP.sub [0, 1, 2, 3, 4, 5, 6, 7] rfl) (hD.sub [0, 1, 2, 3, 4, 5, 6, 7] rfl rfl)
set_option maxHeartbeats 4000000 in
set_option maxRecDepth 100000 in
theorem c_bring_1 (sz : Nat) (h0 : Nat) (pg : Nat) (bk : Nat) (fg : Nat) (og : Nat) (lg : Nat) (br : Nat) (l1 : Nat) (l2 : Nat) (l3 : Nat) (l4 : Nat) (l5 : Nat) (ff : Nat → Int64) (gf : Nat → Int32) (zf : Nat → Int32) (kf : Nat → Int32) (cf : Nat → Int32)  : CTv l D cI cJ cZ cR yX6_bringLights cX6_bringLights 1 none 3 69 0 0 sz [.ref h0] [(h0, .inr (6, [.ref pg, .ref bk, .ref fg, .ref og, .ref lg, .int 0, .int 1, .int 0, .int 0, .int 0])), (lg, .inr (1, [.ref l1, .ref l2, .ref l3, .ref l4, .ref l5])), (l1, .inl (cJ, 96, .inr (.inl ff))), (l2, .inl (cI, 96, .inl gf)), (l3, .inl (cZ, 96, .inl zf)), (l4, .inl (cI, 96, .inl kf)), (l5, .inl (cI, 6, .inl cf)), (bk, .inr (5, [.ref br, .int 0]))] (fun (u : Unit) => True) (fun (u : Unit) => [(h0, .inr (6, [.ref pg, .ref bk, .ref fg, .ref og, .ref lg, .int 0, .int 1, .int 0, .int 0, .int 0])), (lg, .inr (1, [.ref l1, .ref l2, .ref l3, .ref l4, .ref l5])), (l1, .inl (cJ, 96, .inr (.inl ff))), (l2, .inl (cI, 96, .inl gf)), (l3, .inl (cZ, 96, .inl zf)), (l4, .inl (cI, 96, .inl kf)), (l5, .inl (cI, 6, .inl cf)), (bk, .inr (5, [.ref br, .int 0]))]) := by
  refine CTv.of (by decide) (Nat.le_of_ble_eq_true rfl) rfl ?_
  intro p e s m below meth c A Q ls hd hin hK hsz hP hD hA hS hl hret
  obtain ⟨hx, hb, hml, hown, hts⟩ := id hd
  have hK1 := hK.1
  have hown : s.vm.findClass RX6 = some m.cls := hown
  have hl : lv_has ls 1 [(0, .ref h0)] := hl
  refine lv_aload_n hx hb dX6_bringLights_0 rfl (lv_at hl 0 rfl) ?_
  refine va_get (D := D) (ci := 6) (v := .int 1) (C := RX6) (T := TX6) (N := 10) hx hb hts iT_X6 hown hK1 hP 0 rfl rfl 6 (by decide) (hts _ t_160) (fun _ h9 => h9) rfl dX6_bringLights_1 ?_
  refine lv_if_ne (tgt := 23) hx hb dX6_bringLights_4 (by decide) (fun c_1 => ?_) (fun c_1 => ?_)
  rotate_left
  · exact absurd c_1 (by decide)
  exact hret _ _ _ _ _ _ () dX6_bringLights_23 hS (Nat.le_of_ble_eq_true rfl) (Nat.le_of_ble_eq_true rfl) trivial (hP.sub [0, 1, 2, 3, 4, 5, 6, 7] rfl) (hD.sub [0, 1, 2, 3, 4, 5, 6, 7] rfl rfl)
set_option maxHeartbeats 4000000 in
set_option maxRecDepth 100000 in
theorem c_X1_reaches (sz : Nat) (lg : Nat) (l1 : Nat) (l2 : Nat) (l3 : Nat) (l4 : Nat) (l5 : Nat) (a : Nat) (b : Nat) (ff : Nat → Int64) (gf : Nat → Int32) (zf : Nat → Int32) (kf : Nat → Int32) (cf : Nat → Int32) (ha : a < 3) (hb0 : b < 16) (hf : ff (a * 16 + b) = 2305843009213693952) : CTi l D cI cJ cZ cR yX1_reaches cX1_reaches 3 (some .boolean) 0 0 0 0 sz [.ref lg, .int (nI a), .int (nI b)] [(lg, .inr (1, [.ref l1, .ref l2, .ref l3, .ref l4, .ref l5])), (l1, .inl (cJ, 96, .inr (.inl ff))), (l2, .inl (cI, 96, .inl gf)), (l3, .inl (cZ, 96, .inl zf)), (l4, .inl (cI, 96, .inl kf)), (l5, .inl (cI, 6, .inl cf))] (fun (r : Int32) (u : Unit) => (r = 0)) (fun (u : Unit) => [(lg, .inr (1, [.ref l1, .ref l2, .ref l3, .ref l4, .ref l5])), (l1, .inl (cJ, 96, .inr (.inl ff))), (l2, .inl (cI, 96, .inl gf)), (l3, .inl (cZ, 96, .inl zf)), (l4, .inl (cI, 96, .inl kf)), (l5, .inl (cI, 6, .inl cf))]) := by
  refine CTi.of (ty := .boolean) (by decide) (Nat.le_of_ble_eq_true rfl) rfl ?_
  intro p e s m below meth c A Q ls hd hin hK hsz hP hD hA hS hl hret
  obtain ⟨hx, hb, hml, hown, hts⟩ := id hd
  have hK1 := hK.1
  have hown : s.vm.findClass RX1 = some m.cls := hown
  have hl : lv_has ls 3 [(0, .ref lg), (1, .int (nI a)), (2, .int (nI b))] := hl
  refine lv_aload_n hx hb dX1_reaches_0 rfl (lv_at hl 0 rfl) ?_
  refine va_get (D := D) (ci := 1) (v := .ref l1) (C := RX1) (T := TX1) (N := 5) hx hb hts iT_X1 hown hK1 hP 0 rfl rfl 0 (by decide) (hts _ t_136) (fun _ h9 => h9) rfl dX1_reaches_1 ?_
  refine lv_iload_n hx hb dX1_reaches_4 rfl (lv_at hl 1 rfl) ?_
  refine lv_bipush (v := 16) hx hb dX1_reaches_5 (by decide) ?_
  refine lv_imul hx hb dX1_reaches_7 ?_
  refine lv_nmi (show _ = (nI (a * 16)) from pk_mul (a) (16)) ?_
  refine lv_iload_n hx hb dX1_reaches_8 rfl (lv_at hl 2 rfl) ?_
  refine lv_iadd hx hb dX1_reaches_9 ?_
  refine lv_nmi (show _ = (nI ((a * 16) + b)) from nI_add ((a * 16)) (b)) ?_
  refine va_lald hx hb hK1 hP 1 1 rfl rfl (vp_in_nI (by omega) (by omega)) dX1_reaches_10 ?_
  refine lv_nml (show _ = ff ((a * 16) + b) from by rw [nI_clamp (n := ((a * 16) + b)) (by omega)]) ?_
  refine lv_nml (show _ = (2305843009213693952 : Int64) from hf) ?_
  refine lv_ldc2 hx hb hown (hts _ t_462) dX1_reaches_11 ?_
  refine W.lcmp hx hb dX1_reaches_14 ?_
  refine lv_nmi (show _ = (0 : Int32) from by decide +kernel) ?_
  refine lv_if_ge (tgt := 22) hx hb dX1_reaches_15 (by decide) (fun c_1 => ?_) (fun c_1 => ?_)
  rotate_left
  · exact absurd c_1 (by decide)
  refine lv_iconst (v := 0) hx hb dX1_reaches_22 (by decide) ?_
  exact hret _ _ _ _ _ _ 0 () dX1_reaches_23 rfl hS (Nat.le_of_ble_eq_true rfl) (Nat.le_of_ble_eq_true rfl) rfl (hP.sub [0, 1, 2, 3, 4, 5] rfl) (hD.sub [0, 1, 2, 3, 4, 5] rfl rfl)
set_option maxHeartbeats 4000000 in
set_option maxRecDepth 100000 in
theorem c_X1_stepsTo (sz : Nat) (lg : Nat) (l1 : Nat) (l2 : Nat) (l3 : Nat) (l4 : Nat) (l5 : Nat) (a : Nat) (b : Nat) (ff : Nat → Int64) (gf : Nat → Int32) (zf : Nat → Int32) (kf : Nat → Int32) (cf : Nat → Int32) (ha : a < 3) (hb0 : b < 16) (hf : ff (a * 16 + b) = 2305843009213693952) : CTi l D cI cJ cZ cR yX1_stepsTo cX1_stepsTo 3 (some .int) 1 22 0 0 sz [.ref lg, .int (nI a), .int (nI b)] [(lg, .inr (1, [.ref l1, .ref l2, .ref l3, .ref l4, .ref l5])), (l1, .inl (cJ, 96, .inr (.inl ff))), (l2, .inl (cI, 96, .inl gf)), (l3, .inl (cZ, 96, .inl zf)), (l4, .inl (cI, 96, .inl kf)), (l5, .inl (cI, 6, .inl cf))] (fun (r : Int32) (u : Unit) => (r = (-1))) (fun (u : Unit) => [(lg, .inr (1, [.ref l1, .ref l2, .ref l3, .ref l4, .ref l5])), (l1, .inl (cJ, 96, .inr (.inl ff))), (l2, .inl (cI, 96, .inl gf)), (l3, .inl (cZ, 96, .inl zf)), (l4, .inl (cI, 96, .inl kf)), (l5, .inl (cI, 6, .inl cf))]) := by
  refine CTi.of (ty := .int) (by decide) (Nat.le_of_ble_eq_true rfl) rfl ?_
  intro p e s m below meth c A Q ls hd hin hK hsz hP hD hA hS hl hret
  obtain ⟨hx, hb, hml, hown, hts⟩ := id hd
  have hK1 := hK.1
  have hown : s.vm.findClass RX1 = some m.cls := hown
  have hl : lv_has ls 3 [(0, .ref lg), (1, .int (nI a)), (2, .int (nI b))] := hl
  refine lv_aload_n hx hb dX1_stepsTo_0 rfl (lv_at hl 0 rfl) ?_
  refine lv_iload_n hx hb dX1_stepsTo_1 rfl (lv_at hl 1 rfl) ?_
  refine lv_iload_n hx hb dX1_stepsTo_2 rfl (lv_at hl 2 rfl) ?_
  refine xc_i (wc := [(lg, .inr (1, [.ref l1, .ref l2, .ref l3, .ref l4, .ref l5])), (l1, .inl (cJ, 96, .inr (.inl ff))), (l2, .inl (cI, 96, .inl gf)), (l3, .inl (cZ, 96, .inl zf)), (l4, .inl (cI, 96, .inl kf)), (l5, .inl (cI, 6, .inl cf))]) (wr := []) (xrV (n := 2) (As := [.int (nI a), .int (nI b)]) (rest := []) (ci := 1) (q0 := 0) hd hK hP hD (c_X1_reaches l D cI cJ cZ cR _ lg l1 l2 l3 l4 l5 a b ff gf zf kf cf ha hb0 hf) (gV t_515 mV_X1_reaches) hV_X1_reaches ⟨(Nat.le_of_ble_eq_true rfl), (Nat.le_of_ble_eq_true rfl)⟩ rfl rfl [0, 1, 2, 3, 4, 5] rfl rfl rfl hl.1 rfl (Nat.le_of_ble_eq_true rfl) dX1_stepsTo_3 ⟨(Nat.le_of_ble_eq_true rfl), (Nat.le_of_ble_eq_true rfl)⟩) hP hD hS hA [0, 1, 2, 3, 4, 5] [] rfl rfl rfl (by decide) (fun r_1 u_2 H locs hw_3 hP hD hS => ?_)
  have hw_4 : r_1 = 0 := hw_3
  subst hw_4
  have hP : va_P D vwCl [(lg, .inr (1, [.ref l1, .ref l2, .ref l3, .ref l4, .ref l5])), (l1, .inl (cJ, 96, .inr (.inl ff))), (l2, .inl (cI, 96, .inl gf)), (l3, .inl (cZ, 96, .inl zf)), (l4, .inl (cI, 96, .inl kf)), (l5, .inl (cI, 6, .inl cf))] H := hP
  have hD : va_D A [(lg, .inr (1, [.ref l1, .ref l2, .ref l3, .ref l4, .ref l5])), (l1, .inl (cJ, 96, .inr (.inl ff))), (l2, .inl (cI, 96, .inl gf)), (l3, .inl (cZ, 96, .inl zf)), (l4, .inl (cI, 96, .inl kf)), (l5, .inl (cI, 6, .inl cf))] := hD
  refine lv_if_eq (tgt := 30) hx hb dX1_stepsTo_6 (by decide) (fun c_5 => ?_) (fun c_5 => ?_)
  rotate_left
  · exact absurd c_5 (by decide)
  refine lv_iconst (v := -1) hx hb dX1_stepsTo_30 (by decide) ?_
  exact hret _ _ _ _ _ _ (-1) () dX1_stepsTo_31 rfl hS (Nat.le_of_ble_eq_true rfl) (Nat.le_of_ble_eq_true rfl) rfl (hP.sub [0, 1, 2, 3, 4, 5] rfl) (hD.sub [0, 1, 2, 3, 4, 5] rfl rfl)
set_option maxHeartbeats 4000000 in
set_option maxRecDepth 100000 in
theorem c_X1_firstTo (sz : Nat) (lg : Nat) (l1 : Nat) (l2 : Nat) (l3 : Nat) (l4 : Nat) (l5 : Nat) (a : Nat) (b : Nat) (ff : Nat → Int64) (gf : Nat → Int32) (zf : Nat → Int32) (kf : Nat → Int32) (cf : Nat → Int32) (ha : a < 3) (hb0 : b < 16) (hf : gf (a * 16 + b) = -1) : CTi l D cI cJ cZ cR yX1_firstTo cX1_firstTo 3 (some .int) 0 0 0 0 sz [.ref lg, .int (nI a), .int (nI b)] [(lg, .inr (1, [.ref l1, .ref l2, .ref l3, .ref l4, .ref l5])), (l1, .inl (cJ, 96, .inr (.inl ff))), (l2, .inl (cI, 96, .inl gf)), (l3, .inl (cZ, 96, .inl zf)), (l4, .inl (cI, 96, .inl kf)), (l5, .inl (cI, 6, .inl cf))] (fun (r : Int32) (u : Unit) => (r = (-1))) (fun (u : Unit) => [(lg, .inr (1, [.ref l1, .ref l2, .ref l3, .ref l4, .ref l5])), (l1, .inl (cJ, 96, .inr (.inl ff))), (l2, .inl (cI, 96, .inl gf)), (l3, .inl (cZ, 96, .inl zf)), (l4, .inl (cI, 96, .inl kf)), (l5, .inl (cI, 6, .inl cf))]) := by
  refine CTi.of (ty := .int) (by decide) (Nat.le_of_ble_eq_true rfl) rfl ?_
  intro p e s m below meth c A Q ls hd hin hK hsz hP hD hA hS hl hret
  obtain ⟨hx, hb, hml, hown, hts⟩ := id hd
  have hK1 := hK.1
  have hown : s.vm.findClass RX1 = some m.cls := hown
  have hl : lv_has ls 3 [(0, .ref lg), (1, .int (nI a)), (2, .int (nI b))] := hl
  refine lv_aload_n hx hb dX1_firstTo_0 rfl (lv_at hl 0 rfl) ?_
  refine va_get (D := D) (ci := 1) (v := .ref l2) (C := RX1) (T := TX1) (N := 5) hx hb hts iT_X1 hown hK1 hP 0 rfl rfl 1 (by decide) (hts _ t_137) (fun _ h9 => h9) rfl dX1_firstTo_1 ?_
  refine lv_iload_n hx hb dX1_firstTo_4 rfl (lv_at hl 1 rfl) ?_
  refine lv_bipush (v := 16) hx hb dX1_firstTo_5 (by decide) ?_
  refine lv_imul hx hb dX1_firstTo_7 ?_
  refine lv_nmi (show _ = (nI (a * 16)) from pk_mul (a) (16)) ?_
  refine lv_iload_n hx hb dX1_firstTo_8 rfl (lv_at hl 2 rfl) ?_
  refine lv_iadd hx hb dX1_firstTo_9 ?_
  refine lv_nmi (show _ = (nI ((a * 16) + b)) from nI_add ((a * 16)) (b)) ?_
  refine va_iald hx hb hK1 hP 2 0 rfl rfl (vp_in_nI (by omega) (by omega)) dX1_firstTo_10 ?_
  refine lv_nmi (show _ = gf ((a * 16) + b) from by rw [nI_clamp (n := ((a * 16) + b)) (by omega)]) ?_
  refine lv_nmi (show _ = (-1 : Int32) from hf) ?_
  exact hret _ _ _ _ _ _ (-1) () dX1_firstTo_11 rfl hS (Nat.le_of_ble_eq_true rfl) (Nat.le_of_ble_eq_true rfl) rfl (hP.sub [0, 1, 2, 3, 4, 5] rfl) (hD.sub [0, 1, 2, 3, 4, 5] rfl rfl)
set_option maxHeartbeats 4000000 in
set_option maxRecDepth 100000 in
theorem c_kinds_0 (sz : Nat) (h0 : Nat) (pg : Nat) (bk : Nat) (fg : Nat) (og : Nat) (lg : Nat) (br : Nat) (l1 : Nat) (l2 : Nat) (l3 : Nat) (l4 : Nat) (l5 : Nat) (a : Nat) (ff : Nat → Int64) (gf : Nat → Int32) (zf : Nat → Int32) (kf : Nat → Int32) (cf : Nat → Int32) (ha : a < 3) : CTi l D cI cJ cZ cR yX6_kinds cX6_kinds 4 (some .int) 4 89 0 0 sz [.ref h0, .int (nI a)] [(h0, .inr (6, [.ref pg, .ref bk, .ref fg, .ref og, .ref lg, .int 0, .int 0, .int 0, .int 0, .int 0])), (lg, .inr (1, [.ref l1, .ref l2, .ref l3, .ref l4, .ref l5])), (l1, .inl (cJ, 96, .inr (.inl ff))), (l2, .inl (cI, 96, .inl gf)), (l3, .inl (cZ, 96, .inl zf)), (l4, .inl (cI, 96, .inl kf)), (l5, .inl (cI, 6, .inl cf)), (bk, .inr (5, [.ref br, .int 0]))] (fun (r : Int32) (u : (Nat → Int64) × (Nat → Int32) × (Nat → Int32) × (Nat → Int32) × (Nat → Int32)) => (r = 0) ∧ (Lz u.1 u.2.1)) (fun (u : (Nat → Int64) × (Nat → Int32) × (Nat → Int32) × (Nat → Int32) × (Nat → Int32)) => [(h0, .inr (6, [.ref pg, .ref bk, .ref fg, .ref og, .ref lg, .int 0, .int 1, .int 0, .int 0, .int 0])), (lg, .inr (1, [.ref l1, .ref l2, .ref l3, .ref l4, .ref l5])), (l1, .inl (cJ, 96, .inr (.inl u.1))), (l2, .inl (cI, 96, .inl u.2.1)), (l3, .inl (cZ, 96, .inl u.2.2.1)), (l4, .inl (cI, 96, .inl u.2.2.2.1)), (l5, .inl (cI, 6, .inl u.2.2.2.2)), (bk, .inr (5, [.ref br, .int 0]))]) := by
  refine CTi.of (ty := .int) (by decide) (Nat.le_of_ble_eq_true rfl) rfl ?_
  intro p e s m below meth c A Q ls hd hin hK hsz hP hD hA hS hl hret
  obtain ⟨hx, hb, hml, hown, hts⟩ := id hd
  have hK1 := hK.1
  have hown : s.vm.findClass RX6 = some m.cls := hown
  have hl : lv_has ls 4 [(0, .ref h0), (1, .int (nI a))] := hl
  refine lv_iload_n hx hb dX6_kinds_0 rfl (lv_at hl 1 rfl) ?_
  refine xc_i (wc := []) (wr := [(h0, .inr (6, [.ref pg, .ref bk, .ref fg, .ref og, .ref lg, .int 0, .int 0, .int 0, .int 0, .int 0])), (lg, .inr (1, [.ref l1, .ref l2, .ref l3, .ref l4, .ref l5])), (l1, .inl (cJ, 96, .inr (.inl ff))), (l2, .inl (cI, 96, .inl gf)), (l3, .inl (cZ, 96, .inl zf)), (l4, .inl (cI, 96, .inl kf)), (l5, .inl (cI, 6, .inl cf)), (bk, .inr (5, [.ref br, .int 0]))]) (xrS (n := 1) (As := [.int (nI a)]) (rest := []) hd hK hP hD (c_X6_isOpen l D cI cJ cZ cR _ (nI a) ) (gS t_341 mS_X6_isOpen) hS_X6_isOpen ⟨(Nat.le_of_ble_eq_true rfl), (Nat.le_of_ble_eq_true rfl)⟩ [] rfl rfl rfl hl.1 rfl (Nat.le_of_ble_eq_true rfl) dX6_kinds_1 ⟨(Nat.le_of_ble_eq_true rfl), (Nat.le_of_ble_eq_true rfl)⟩) hP hD hS hA [] [0, 1, 2, 3, 4, 5, 6, 7] rfl rfl rfl (by decide) (fun r_1 u_2 H locs hw_3 hP hD hS => ?_)
  have hw_4 : r_1 = (if (nI a) < 0 then 0 else if 3 ≤ (nI a) then 0 else 1) := hw_3
  subst hw_4
  have hP : va_P D vwCl [(h0, .inr (6, [.ref pg, .ref bk, .ref fg, .ref og, .ref lg, .int 0, .int 0, .int 0, .int 0, .int 0])), (lg, .inr (1, [.ref l1, .ref l2, .ref l3, .ref l4, .ref l5])), (l1, .inl (cJ, 96, .inr (.inl ff))), (l2, .inl (cI, 96, .inl gf)), (l3, .inl (cZ, 96, .inl zf)), (l4, .inl (cI, 96, .inl kf)), (l5, .inl (cI, 6, .inl cf)), (bk, .inr (5, [.ref br, .int 0]))] H := hP
  have hD : va_D A [(h0, .inr (6, [.ref pg, .ref bk, .ref fg, .ref og, .ref lg, .int 0, .int 0, .int 0, .int 0, .int 0])), (lg, .inr (1, [.ref l1, .ref l2, .ref l3, .ref l4, .ref l5])), (l1, .inl (cJ, 96, .inr (.inl ff))), (l2, .inl (cI, 96, .inl gf)), (l3, .inl (cZ, 96, .inl zf)), (l4, .inl (cI, 96, .inl kf)), (l5, .inl (cI, 6, .inl cf)), (bk, .inr (5, [.ref br, .int 0]))] := hD
  refine lv_nmi (show _ = (1 : Int32) from opn_ok ha) ?_
  refine lv_if_ne (tgt := 11) hx hb dX6_kinds_4 (by decide) (fun c_5 => ?_) (fun c_5 => ?_)
  rotate_left
  · exact absurd c_5 (by decide)
  refine lv_aload_n hx hb dX6_kinds_11 rfl (lv_at hl 0 rfl) ?_
  refine xc_v (wc := [(h0, .inr (6, [.ref pg, .ref bk, .ref fg, .ref og, .ref lg, .int 0, .int 0, .int 0, .int 0, .int 0])), (lg, .inr (1, [.ref l1, .ref l2, .ref l3, .ref l4, .ref l5])), (l1, .inl (cJ, 96, .inr (.inl ff))), (l2, .inl (cI, 96, .inl gf)), (l3, .inl (cZ, 96, .inl zf)), (l4, .inl (cI, 96, .inl kf)), (l5, .inl (cI, 6, .inl cf)), (bk, .inr (5, [.ref br, .int 0]))]) (wr := []) (xrV (n := 0) (As := []) (rest := []) (ci := 6) (q0 := 0) hd hK hP hD (c_bring_0 l D cI cJ cZ cR _ h0 pg bk fg og lg br l1 l2 l3 l4 l5 ff gf zf kf cf ) (gV t_450 mV_X6_bringLights) hV_X6_bringLights ⟨(Nat.le_of_ble_eq_true rfl), (Nat.le_of_ble_eq_true rfl)⟩ rfl rfl [0, 1, 2, 3, 4, 5, 6, 7] rfl rfl rfl hl.1 rfl (Nat.le_of_ble_eq_true rfl) dX6_kinds_12 ⟨(Nat.le_of_ble_eq_true rfl), (Nat.le_of_ble_eq_true rfl)⟩) hP hD hS hA [0, 1, 2, 3, 4, 5, 6, 7] [] rfl rfl rfl (by decide) (fun u_7 H locs hw_8 hP hD hS => ?_)
  obtain ⟨f2_9, g2_10, z2_11, k2_12, c2_13⟩ := u_7
  have hw_14 : Lz f2_9 g2_10 := hw_8
  have hLz := hw_14
  have hP : va_P D vwCl [(h0, .inr (6, [.ref pg, .ref bk, .ref fg, .ref og, .ref lg, .int 0, .int 1, .int 0, .int 0, .int 0])), (lg, .inr (1, [.ref l1, .ref l2, .ref l3, .ref l4, .ref l5])), (l1, .inl (cJ, 96, .inr (.inl f2_9))), (l2, .inl (cI, 96, .inl g2_10)), (l3, .inl (cZ, 96, .inl z2_11)), (l4, .inl (cI, 96, .inl k2_12)), (l5, .inl (cI, 6, .inl c2_13)), (bk, .inr (5, [.ref br, .int 0]))] H := hP
  have hD : va_D A [(h0, .inr (6, [.ref pg, .ref bk, .ref fg, .ref og, .ref lg, .int 0, .int 1, .int 0, .int 0, .int 0])), (lg, .inr (1, [.ref l1, .ref l2, .ref l3, .ref l4, .ref l5])), (l1, .inl (cJ, 96, .inr (.inl f2_9))), (l2, .inl (cI, 96, .inl g2_10)), (l3, .inl (cZ, 96, .inl z2_11)), (l4, .inl (cI, 96, .inl k2_12)), (l5, .inl (cI, 6, .inl c2_13)), (bk, .inr (5, [.ref br, .int 0]))] := hD
  refine lv_iconst (v := 0) hx hb dX6_kinds_15 (by decide) ?_
  refine lv_istore_n (lv' := [(2, .int 0), (0, .ref h0), (1, .int (nI a))]) hx hb dX6_kinds_16 rfl hl (by decide) rfl (fun ls hl => ?_)
  refine lv_iconst (v := 0) hx hb dX6_kinds_17 (by decide) ?_
  refine lv_istore_n (lv' := [(3, .int 0), (2, .int 0), (0, .ref h0), (1, .int (nI a))]) hx hb dX6_kinds_18 rfl hl (by decide) rfl (fun ls hl => ?_)
  have LOOP_19 : ∀ (n : Nat) (i : Nat), (i + n = 16) → ∀ (H : Heap) (locs : List Loc) (ls : Array Slot), va_P D vwCl [(h0, .inr (6, [.ref pg, .ref bk, .ref fg, .ref og, .ref lg, .int 0, .int 1, .int 0, .int 0, .int 0])), (lg, .inr (1, [.ref l1, .ref l2, .ref l3, .ref l4, .ref l5])), (l1, .inl (cJ, 96, .inr (.inl f2_9))), (l2, .inl (cI, 96, .inl g2_10)), (l3, .inl (cZ, 96, .inl z2_11)), (l4, .inl (cI, 96, .inl k2_12)), (l5, .inl (cI, 6, .inl c2_13)), (bk, .inr (5, [.ref br, .int 0]))] H → va_D A [(h0, .inr (6, [.ref pg, .ref bk, .ref fg, .ref og, .ref lg, .int 0, .int 1, .int 0, .int 0, .int 0])), (lg, .inr (1, [.ref l1, .ref l2, .ref l3, .ref l4, .ref l5])), (l1, .inl (cJ, 96, .inr (.inl f2_9))), (l2, .inl (cI, 96, .inl g2_10)), (l3, .inl (cZ, 96, .inl z2_11)), (l4, .inl (cI, 96, .inl k2_12)), (l5, .inl (cI, 6, .inl c2_13)), (bk, .inr (5, [.ref br, .int 0]))] → va_S A s.heap H locs → lv_has ls 4 [(0, .ref h0), (1, .int (nI a)), (2, .int 0), (3, .int (nI i))] → W p l e (rM 4 0 0 89) s m ([.ref h0, .int (nI a)] : List Value).toArray below meth c H locs 0 0 Q (F0 m 19 ls []) := by
    intro n
    induction n with
    | zero =>
      intro i hi H locs ls hP hD hS hl
      refine lv_iload_n hx hb dX6_kinds_19 rfl (lv_at hl 3 rfl) ?_
      refine lv_bipush (v := 16) hx hb dX6_kinds_20 (by decide) ?_
      refine lv_icmp_ge (tgt := 49) hx hb dX6_kinds_22 (by decide) (fun c_15 => ?_) (fun c_15 => ?_)
      rotate_left
      · exact absurd (nI_le (a := 16) (b := i) (by omega) (by omega)) c_15
      refine lv_iload_n hx hb dX6_kinds_49 rfl (lv_at hl 2 rfl) ?_
      exact hret _ _ _ _ _ _ 0 (f2_9, g2_10, z2_11, k2_12, c2_13) dX6_kinds_50 rfl hS (Nat.le_of_ble_eq_true rfl) (Nat.le_of_ble_eq_true rfl) ⟨rfl, hLz⟩ (hP.sub [0, 1, 2, 3, 4, 5, 6, 7] rfl) (hD.sub [0, 1, 2, 3, 4, 5, 6, 7] rfl rfl)
    | succ n ih_19 =>
      intro i hi H locs ls hP hD hS hl
      refine lv_iload_n hx hb dX6_kinds_19 rfl (lv_at hl 3 rfl) ?_
      refine lv_bipush (v := 16) hx hb dX6_kinds_20 (by decide) ?_
      refine lv_icmp_ge (tgt := 49) hx hb dX6_kinds_22 (by decide) (fun c_16 => ?_) (fun c_16 => ?_)
      · exact absurd c_16 (nI_ge (a := i) (b := 16) (by omega) (by omega))
      refine lv_aload_n hx hb dX6_kinds_25 rfl (lv_at hl 0 rfl) ?_
      refine va_get (D := D) (ci := 6) (v := .ref lg) (C := RX6) (T := TX6) (N := 10) hx hb hts iT_X6 hown hK1 hP 0 rfl rfl 4 (by decide) (hts _ t_158) (fun _ h9 => h9) rfl dX6_kinds_26 ?_
      refine lv_iload_n hx hb dX6_kinds_29 rfl (lv_at hl 1 rfl) ?_
      refine lv_iload_n hx hb dX6_kinds_30 rfl (lv_at hl 3 rfl) ?_
      refine xc_i (wc := [(lg, .inr (1, [.ref l1, .ref l2, .ref l3, .ref l4, .ref l5])), (l1, .inl (cJ, 96, .inr (.inl f2_9))), (l2, .inl (cI, 96, .inl g2_10)), (l3, .inl (cZ, 96, .inl z2_11)), (l4, .inl (cI, 96, .inl k2_12)), (l5, .inl (cI, 6, .inl c2_13))]) (wr := [(h0, .inr (6, [.ref pg, .ref bk, .ref fg, .ref og, .ref lg, .int 0, .int 1, .int 0, .int 0, .int 0])), (bk, .inr (5, [.ref br, .int 0]))]) (xrV (n := 2) (As := [.int (nI a), .int (nI i)]) (rest := []) (ci := 1) (q0 := 1) hd hK hP hD (c_X1_reaches l D cI cJ cZ cR _ lg l1 l2 l3 l4 l5 a i f2_9 g2_10 z2_11 k2_12 c2_13 ha (by omega) (hLz.1 _ (by omega))) (gV t_503 mV_X1_reaches) hV_X1_reaches ⟨(Nat.le_of_ble_eq_true rfl), (Nat.le_of_ble_eq_true rfl)⟩ rfl rfl [1, 2, 3, 4, 5, 6] rfl rfl rfl hl.1 rfl (Nat.le_of_ble_eq_true rfl) dX6_kinds_31 ⟨(Nat.le_of_ble_eq_true rfl), (Nat.le_of_ble_eq_true rfl)⟩) hP hD hS hA [1, 2, 3, 4, 5, 6] [0, 7] rfl rfl rfl (by decide) (fun r_17 u_18 H locs hw_19 hP hD hS => ?_)
      have hw_20 : r_17 = 0 := hw_19
      subst hw_20
      have hP : va_P D vwCl [(h0, .inr (6, [.ref pg, .ref bk, .ref fg, .ref og, .ref lg, .int 0, .int 1, .int 0, .int 0, .int 0])), (bk, .inr (5, [.ref br, .int 0])), (lg, .inr (1, [.ref l1, .ref l2, .ref l3, .ref l4, .ref l5])), (l1, .inl (cJ, 96, .inr (.inl f2_9))), (l2, .inl (cI, 96, .inl g2_10)), (l3, .inl (cZ, 96, .inl z2_11)), (l4, .inl (cI, 96, .inl k2_12)), (l5, .inl (cI, 6, .inl c2_13))] H := hP
      have hD : va_D A [(h0, .inr (6, [.ref pg, .ref bk, .ref fg, .ref og, .ref lg, .int 0, .int 1, .int 0, .int 0, .int 0])), (bk, .inr (5, [.ref br, .int 0])), (lg, .inr (1, [.ref l1, .ref l2, .ref l3, .ref l4, .ref l5])), (l1, .inl (cJ, 96, .inr (.inl f2_9))), (l2, .inl (cI, 96, .inl g2_10)), (l3, .inl (cZ, 96, .inl z2_11)), (l4, .inl (cI, 96, .inl k2_12)), (l5, .inl (cI, 6, .inl c2_13))] := hD
      refine lv_if_eq (tgt := 43) hx hb dX6_kinds_34 (by decide) (fun c_21 => ?_) (fun c_21 => ?_)
      rotate_left
      · exact absurd c_21 (by decide)
      refine lv_iinc (v := nI (i + 1)) (lv' := [(3, .int (nI (i + 1))), (0, .ref h0), (1, .int (nI a)), (2, .int 0)]) hx hb dX6_kinds_43 hl (k := 3) rfl (nI_1 i) (by decide) rfl (fun ls hl => ?_)
      refine lv_goto (tgt := 19) hx hb dX6_kinds_46 (by decide) ?_
      exact ih_19 (i + 1) (by omega) _ _ _ (hP.sub [0, 2, 3, 4, 5, 6, 7, 1] rfl) (hD.sub [0, 2, 3, 4, 5, 6, 7, 1] rfl rfl) hS (lv_sub hl [1, 2, 3, 0] rfl)
  exact LOOP_19 16 0 (by omega) _ _ _ (hP.sub [0, 1, 2, 3, 4, 5, 6, 7] rfl) (hD.sub [0, 1, 2, 3, 4, 5, 6, 7] rfl rfl) hS (lv_sub hl [2, 3, 1, 0] rfl)
set_option maxHeartbeats 4000000 in
set_option maxRecDepth 100000 in
theorem c_light_00 (sz : Nat) (h0 : Nat) (pg : Nat) (bk : Nat) (fg : Nat) (og : Nat) (lg : Nat) (br : Nat) (l1 : Nat) (l2 : Nat) (l3 : Nat) (l4 : Nat) (l5 : Nat) (a : Nat) (b : Nat) (ff : Nat → Int64) (gf : Nat → Int32) (zf : Nat → Int32) (kf : Nat → Int32) (cf : Nat → Int32) (ha : a < 3) (hb0 : b < 16) : CTi l D cI cJ cZ cR yX6_light cX6_light 4 (some .int) 4 89 0 0 sz [.ref h0, .int (nI a), .int (nI b), .int 0] [(h0, .inr (6, [.ref pg, .ref bk, .ref fg, .ref og, .ref lg, .int 0, .int 0, .int 0, .int 0, .int 0])), (lg, .inr (1, [.ref l1, .ref l2, .ref l3, .ref l4, .ref l5])), (l1, .inl (cJ, 96, .inr (.inl ff))), (l2, .inl (cI, 96, .inl gf)), (l3, .inl (cZ, 96, .inl zf)), (l4, .inl (cI, 96, .inl kf)), (l5, .inl (cI, 6, .inl cf)), (bk, .inr (5, [.ref br, .int 0]))] (fun (r : Int32) (u : (Nat → Int64) × (Nat → Int32) × (Nat → Int32) × (Nat → Int32) × (Nat → Int32)) => (r = (-1)) ∧ (Lz u.1 u.2.1)) (fun (u : (Nat → Int64) × (Nat → Int32) × (Nat → Int32) × (Nat → Int32) × (Nat → Int32)) => [(h0, .inr (6, [.ref pg, .ref bk, .ref fg, .ref og, .ref lg, .int 0, .int 1, .int 0, .int 0, .int 0])), (lg, .inr (1, [.ref l1, .ref l2, .ref l3, .ref l4, .ref l5])), (l1, .inl (cJ, 96, .inr (.inl u.1))), (l2, .inl (cI, 96, .inl u.2.1)), (l3, .inl (cZ, 96, .inl u.2.2.1)), (l4, .inl (cI, 96, .inl u.2.2.2.1)), (l5, .inl (cI, 6, .inl u.2.2.2.2)), (bk, .inr (5, [.ref br, .int 0]))]) := by
  refine CTi.of (ty := .int) (by decide) (Nat.le_of_ble_eq_true rfl) rfl ?_
  intro p e s m below meth c A Q ls hd hin hK hsz hP hD hA hS hl hret
  obtain ⟨hx, hb, hml, hown, hts⟩ := id hd
  have hK1 := hK.1
  have hown : s.vm.findClass RX6 = some m.cls := hown
  have hl : lv_has ls 4 [(0, .ref h0), (1, .int (nI a)), (2, .int (nI b)), (3, .int 0)] := hl
  refine lv_iload_n hx hb dX6_light_0 rfl (lv_at hl 1 rfl) ?_
  refine xc_i (wc := []) (wr := [(h0, .inr (6, [.ref pg, .ref bk, .ref fg, .ref og, .ref lg, .int 0, .int 0, .int 0, .int 0, .int 0])), (lg, .inr (1, [.ref l1, .ref l2, .ref l3, .ref l4, .ref l5])), (l1, .inl (cJ, 96, .inr (.inl ff))), (l2, .inl (cI, 96, .inl gf)), (l3, .inl (cZ, 96, .inl zf)), (l4, .inl (cI, 96, .inl kf)), (l5, .inl (cI, 6, .inl cf)), (bk, .inr (5, [.ref br, .int 0]))]) (xrS (n := 1) (As := [.int (nI a)]) (rest := []) hd hK hP hD (c_X6_isOpen l D cI cJ cZ cR _ (nI a) ) (gS t_341 mS_X6_isOpen) hS_X6_isOpen ⟨(Nat.le_of_ble_eq_true rfl), (Nat.le_of_ble_eq_true rfl)⟩ [] rfl rfl rfl hl.1 rfl (Nat.le_of_ble_eq_true rfl) dX6_light_1 ⟨(Nat.le_of_ble_eq_true rfl), (Nat.le_of_ble_eq_true rfl)⟩) hP hD hS hA [] [0, 1, 2, 3, 4, 5, 6, 7] rfl rfl rfl (by decide) (fun r_1 u_2 H locs hw_3 hP hD hS => ?_)
  have hw_4 : r_1 = (if (nI a) < 0 then 0 else if 3 ≤ (nI a) then 0 else 1) := hw_3
  subst hw_4
  have hP : va_P D vwCl [(h0, .inr (6, [.ref pg, .ref bk, .ref fg, .ref og, .ref lg, .int 0, .int 0, .int 0, .int 0, .int 0])), (lg, .inr (1, [.ref l1, .ref l2, .ref l3, .ref l4, .ref l5])), (l1, .inl (cJ, 96, .inr (.inl ff))), (l2, .inl (cI, 96, .inl gf)), (l3, .inl (cZ, 96, .inl zf)), (l4, .inl (cI, 96, .inl kf)), (l5, .inl (cI, 6, .inl cf)), (bk, .inr (5, [.ref br, .int 0]))] H := hP
  have hD : va_D A [(h0, .inr (6, [.ref pg, .ref bk, .ref fg, .ref og, .ref lg, .int 0, .int 0, .int 0, .int 0, .int 0])), (lg, .inr (1, [.ref l1, .ref l2, .ref l3, .ref l4, .ref l5])), (l1, .inl (cJ, 96, .inr (.inl ff))), (l2, .inl (cI, 96, .inl gf)), (l3, .inl (cZ, 96, .inl zf)), (l4, .inl (cI, 96, .inl kf)), (l5, .inl (cI, 6, .inl cf)), (bk, .inr (5, [.ref br, .int 0]))] := hD
  refine lv_nmi (show _ = (1 : Int32) from opn_ok ha) ?_
  refine lv_if_ne (tgt := 11) hx hb dX6_light_4 (by decide) (fun c_5 => ?_) (fun c_5 => ?_)
  rotate_left
  · exact absurd c_5 (by decide)
  refine lv_iload_n hx hb dX6_light_11 rfl (lv_at hl 2 rfl) ?_
  refine lv_if_lt (tgt := 30) hx hb dX6_light_12 (by decide) (fun c_6 => ?_) (fun c_6 => ?_)
  · exact absurd c_6 (nI_nlt (a := b) (b := 0) (by omega) (by omega))
  refine lv_iload_n hx hb dX6_light_15 rfl (lv_at hl 2 rfl) ?_
  refine lv_bipush (v := 16) hx hb dX6_light_16 (by decide) ?_
  refine lv_icmp_ge (tgt := 30) hx hb dX6_light_18 (by decide) (fun c_7 => ?_) (fun c_7 => ?_)
  · exact absurd c_7 (nI_ge (a := b) (b := 16) (by omega) (by omega))
  refine lv_iload_n hx hb dX6_light_21 rfl (lv_at hl 3 rfl) ?_
  refine lv_if_lt (tgt := 30) hx hb dX6_light_22 (by decide) (fun c_8 => ?_) (fun c_8 => ?_)
  · exact absurd c_8 (by decide)
  refine lv_iload_n hx hb dX6_light_25 rfl (lv_at hl 3 rfl) ?_
  refine lv_iconst (v := 1) hx hb dX6_light_26 (by decide) ?_
  refine lv_icmp_le (tgt := 34) hx hb dX6_light_27 (by decide) (fun c_9 => ?_) (fun c_9 => ?_)
  rotate_left
  · exact absurd c_9 (by decide)
  refine lv_aload_n hx hb dX6_light_34 rfl (lv_at hl 0 rfl) ?_
  refine xc_v (wc := [(h0, .inr (6, [.ref pg, .ref bk, .ref fg, .ref og, .ref lg, .int 0, .int 0, .int 0, .int 0, .int 0])), (lg, .inr (1, [.ref l1, .ref l2, .ref l3, .ref l4, .ref l5])), (l1, .inl (cJ, 96, .inr (.inl ff))), (l2, .inl (cI, 96, .inl gf)), (l3, .inl (cZ, 96, .inl zf)), (l4, .inl (cI, 96, .inl kf)), (l5, .inl (cI, 6, .inl cf)), (bk, .inr (5, [.ref br, .int 0]))]) (wr := []) (xrV (n := 0) (As := []) (rest := []) (ci := 6) (q0 := 0) hd hK hP hD (c_bring_0 l D cI cJ cZ cR _ h0 pg bk fg og lg br l1 l2 l3 l4 l5 ff gf zf kf cf ) (gV t_450 mV_X6_bringLights) hV_X6_bringLights ⟨(Nat.le_of_ble_eq_true rfl), (Nat.le_of_ble_eq_true rfl)⟩ rfl rfl [0, 1, 2, 3, 4, 5, 6, 7] rfl rfl rfl hl.1 rfl (Nat.le_of_ble_eq_true rfl) dX6_light_35 ⟨(Nat.le_of_ble_eq_true rfl), (Nat.le_of_ble_eq_true rfl)⟩) hP hD hS hA [0, 1, 2, 3, 4, 5, 6, 7] [] rfl rfl rfl (by decide) (fun u_11 H locs hw_12 hP hD hS => ?_)
  obtain ⟨f2_13, g2_14, z2_15, k2_16, c2_17⟩ := u_11
  have hw_18 : Lz f2_13 g2_14 := hw_12
  have hLz := hw_18
  have hP : va_P D vwCl [(h0, .inr (6, [.ref pg, .ref bk, .ref fg, .ref og, .ref lg, .int 0, .int 1, .int 0, .int 0, .int 0])), (lg, .inr (1, [.ref l1, .ref l2, .ref l3, .ref l4, .ref l5])), (l1, .inl (cJ, 96, .inr (.inl f2_13))), (l2, .inl (cI, 96, .inl g2_14)), (l3, .inl (cZ, 96, .inl z2_15)), (l4, .inl (cI, 96, .inl k2_16)), (l5, .inl (cI, 6, .inl c2_17)), (bk, .inr (5, [.ref br, .int 0]))] H := hP
  have hD : va_D A [(h0, .inr (6, [.ref pg, .ref bk, .ref fg, .ref og, .ref lg, .int 0, .int 1, .int 0, .int 0, .int 0])), (lg, .inr (1, [.ref l1, .ref l2, .ref l3, .ref l4, .ref l5])), (l1, .inl (cJ, 96, .inr (.inl f2_13))), (l2, .inl (cI, 96, .inl g2_14)), (l3, .inl (cZ, 96, .inl z2_15)), (l4, .inl (cI, 96, .inl k2_16)), (l5, .inl (cI, 6, .inl c2_17)), (bk, .inr (5, [.ref br, .int 0]))] := hD
  refine lv_iload_n hx hb dX6_light_38 rfl (lv_at hl 3 rfl) ?_
  refine lv_if_ne (tgt := 54) hx hb dX6_light_39 (by decide) (fun c_19 => ?_) (fun c_19 => ?_)
  · exact absurd c_19 (by decide)
  refine lv_aload_n hx hb dX6_light_42 rfl (lv_at hl 0 rfl) ?_
  refine va_get (D := D) (ci := 6) (v := .ref lg) (C := RX6) (T := TX6) (N := 10) hx hb hts iT_X6 hown hK1 hP 0 rfl rfl 4 (by decide) (hts _ t_158) (fun _ h9 => h9) rfl dX6_light_43 ?_
  refine lv_iload_n hx hb dX6_light_46 rfl (lv_at hl 1 rfl) ?_
  refine lv_iload_n hx hb dX6_light_47 rfl (lv_at hl 2 rfl) ?_
  refine xc_i (wc := [(lg, .inr (1, [.ref l1, .ref l2, .ref l3, .ref l4, .ref l5])), (l1, .inl (cJ, 96, .inr (.inl f2_13))), (l2, .inl (cI, 96, .inl g2_14)), (l3, .inl (cZ, 96, .inl z2_15)), (l4, .inl (cI, 96, .inl k2_16)), (l5, .inl (cI, 6, .inl c2_17))]) (wr := [(h0, .inr (6, [.ref pg, .ref bk, .ref fg, .ref og, .ref lg, .int 0, .int 1, .int 0, .int 0, .int 0])), (bk, .inr (5, [.ref br, .int 0]))]) (xrV (n := 2) (As := [.int (nI a), .int (nI b)]) (rest := []) (ci := 1) (q0 := 1) hd hK hP hD (c_X1_stepsTo l D cI cJ cZ cR _ lg l1 l2 l3 l4 l5 a b f2_13 g2_14 z2_15 k2_16 c2_17 ha hb0 (hLz.1 _ (by omega))) (gV t_511 mV_X1_stepsTo) hV_X1_stepsTo ⟨(Nat.le_of_ble_eq_true rfl), (Nat.le_of_ble_eq_true rfl)⟩ rfl rfl [1, 2, 3, 4, 5, 6] rfl rfl rfl hl.1 rfl (Nat.le_of_ble_eq_true rfl) dX6_light_48 ⟨(Nat.le_of_ble_eq_true rfl), (Nat.le_of_ble_eq_true rfl)⟩) hP hD hS hA [1, 2, 3, 4, 5, 6] [0, 7] rfl rfl rfl (by decide) (fun r_20 u_21 H locs hw_22 hP hD hS => ?_)
  have hw_23 : r_20 = (-1) := hw_22
  subst hw_23
  have hP : va_P D vwCl [(h0, .inr (6, [.ref pg, .ref bk, .ref fg, .ref og, .ref lg, .int 0, .int 1, .int 0, .int 0, .int 0])), (bk, .inr (5, [.ref br, .int 0])), (lg, .inr (1, [.ref l1, .ref l2, .ref l3, .ref l4, .ref l5])), (l1, .inl (cJ, 96, .inr (.inl f2_13))), (l2, .inl (cI, 96, .inl g2_14)), (l3, .inl (cZ, 96, .inl z2_15)), (l4, .inl (cI, 96, .inl k2_16)), (l5, .inl (cI, 6, .inl c2_17))] H := hP
  have hD : va_D A [(h0, .inr (6, [.ref pg, .ref bk, .ref fg, .ref og, .ref lg, .int 0, .int 1, .int 0, .int 0, .int 0])), (bk, .inr (5, [.ref br, .int 0])), (lg, .inr (1, [.ref l1, .ref l2, .ref l3, .ref l4, .ref l5])), (l1, .inl (cJ, 96, .inr (.inl f2_13))), (l2, .inl (cI, 96, .inl g2_14)), (l3, .inl (cZ, 96, .inl z2_15)), (l4, .inl (cI, 96, .inl k2_16)), (l5, .inl (cI, 6, .inl c2_17))] := hD
  refine lv_goto (tgt := 63) hx hb dX6_light_51 (by decide) ?_
  exact hret _ _ _ _ _ _ (-1) (f2_13, g2_14, z2_15, k2_16, c2_17) dX6_light_63 rfl hS (Nat.le_of_ble_eq_true rfl) (Nat.le_of_ble_eq_true rfl) ⟨rfl, hLz⟩ (hP.sub [0, 2, 3, 4, 5, 6, 7, 1] rfl) (hD.sub [0, 2, 3, 4, 5, 6, 7, 1] rfl rfl)
set_option maxHeartbeats 4000000 in
set_option maxRecDepth 100000 in
theorem c_light_01 (sz : Nat) (h0 : Nat) (pg : Nat) (bk : Nat) (fg : Nat) (og : Nat) (lg : Nat) (br : Nat) (l1 : Nat) (l2 : Nat) (l3 : Nat) (l4 : Nat) (l5 : Nat) (a : Nat) (b : Nat) (ff : Nat → Int64) (gf : Nat → Int32) (zf : Nat → Int32) (kf : Nat → Int32) (cf : Nat → Int32) (ha : a < 3) (hb0 : b < 16) : CTi l D cI cJ cZ cR yX6_light cX6_light 4 (some .int) 4 89 0 0 sz [.ref h0, .int (nI a), .int (nI b), .int 1] [(h0, .inr (6, [.ref pg, .ref bk, .ref fg, .ref og, .ref lg, .int 0, .int 0, .int 0, .int 0, .int 0])), (lg, .inr (1, [.ref l1, .ref l2, .ref l3, .ref l4, .ref l5])), (l1, .inl (cJ, 96, .inr (.inl ff))), (l2, .inl (cI, 96, .inl gf)), (l3, .inl (cZ, 96, .inl zf)), (l4, .inl (cI, 96, .inl kf)), (l5, .inl (cI, 6, .inl cf)), (bk, .inr (5, [.ref br, .int 0]))] (fun (r : Int32) (u : (Nat → Int64) × (Nat → Int32) × (Nat → Int32) × (Nat → Int32) × (Nat → Int32)) => (r = (-1)) ∧ (Lz u.1 u.2.1)) (fun (u : (Nat → Int64) × (Nat → Int32) × (Nat → Int32) × (Nat → Int32) × (Nat → Int32)) => [(h0, .inr (6, [.ref pg, .ref bk, .ref fg, .ref og, .ref lg, .int 0, .int 1, .int 0, .int 0, .int 0])), (lg, .inr (1, [.ref l1, .ref l2, .ref l3, .ref l4, .ref l5])), (l1, .inl (cJ, 96, .inr (.inl u.1))), (l2, .inl (cI, 96, .inl u.2.1)), (l3, .inl (cZ, 96, .inl u.2.2.1)), (l4, .inl (cI, 96, .inl u.2.2.2.1)), (l5, .inl (cI, 6, .inl u.2.2.2.2)), (bk, .inr (5, [.ref br, .int 0]))]) := by
  refine CTi.of (ty := .int) (by decide) (Nat.le_of_ble_eq_true rfl) rfl ?_
  intro p e s m below meth c A Q ls hd hin hK hsz hP hD hA hS hl hret
  obtain ⟨hx, hb, hml, hown, hts⟩ := id hd
  have hK1 := hK.1
  have hown : s.vm.findClass RX6 = some m.cls := hown
  have hl : lv_has ls 4 [(0, .ref h0), (1, .int (nI a)), (2, .int (nI b)), (3, .int 1)] := hl
  refine lv_iload_n hx hb dX6_light_0 rfl (lv_at hl 1 rfl) ?_
  refine xc_i (wc := []) (wr := [(h0, .inr (6, [.ref pg, .ref bk, .ref fg, .ref og, .ref lg, .int 0, .int 0, .int 0, .int 0, .int 0])), (lg, .inr (1, [.ref l1, .ref l2, .ref l3, .ref l4, .ref l5])), (l1, .inl (cJ, 96, .inr (.inl ff))), (l2, .inl (cI, 96, .inl gf)), (l3, .inl (cZ, 96, .inl zf)), (l4, .inl (cI, 96, .inl kf)), (l5, .inl (cI, 6, .inl cf)), (bk, .inr (5, [.ref br, .int 0]))]) (xrS (n := 1) (As := [.int (nI a)]) (rest := []) hd hK hP hD (c_X6_isOpen l D cI cJ cZ cR _ (nI a) ) (gS t_341 mS_X6_isOpen) hS_X6_isOpen ⟨(Nat.le_of_ble_eq_true rfl), (Nat.le_of_ble_eq_true rfl)⟩ [] rfl rfl rfl hl.1 rfl (Nat.le_of_ble_eq_true rfl) dX6_light_1 ⟨(Nat.le_of_ble_eq_true rfl), (Nat.le_of_ble_eq_true rfl)⟩) hP hD hS hA [] [0, 1, 2, 3, 4, 5, 6, 7] rfl rfl rfl (by decide) (fun r_1 u_2 H locs hw_3 hP hD hS => ?_)
  have hw_4 : r_1 = (if (nI a) < 0 then 0 else if 3 ≤ (nI a) then 0 else 1) := hw_3
  subst hw_4
  have hP : va_P D vwCl [(h0, .inr (6, [.ref pg, .ref bk, .ref fg, .ref og, .ref lg, .int 0, .int 0, .int 0, .int 0, .int 0])), (lg, .inr (1, [.ref l1, .ref l2, .ref l3, .ref l4, .ref l5])), (l1, .inl (cJ, 96, .inr (.inl ff))), (l2, .inl (cI, 96, .inl gf)), (l3, .inl (cZ, 96, .inl zf)), (l4, .inl (cI, 96, .inl kf)), (l5, .inl (cI, 6, .inl cf)), (bk, .inr (5, [.ref br, .int 0]))] H := hP
  have hD : va_D A [(h0, .inr (6, [.ref pg, .ref bk, .ref fg, .ref og, .ref lg, .int 0, .int 0, .int 0, .int 0, .int 0])), (lg, .inr (1, [.ref l1, .ref l2, .ref l3, .ref l4, .ref l5])), (l1, .inl (cJ, 96, .inr (.inl ff))), (l2, .inl (cI, 96, .inl gf)), (l3, .inl (cZ, 96, .inl zf)), (l4, .inl (cI, 96, .inl kf)), (l5, .inl (cI, 6, .inl cf)), (bk, .inr (5, [.ref br, .int 0]))] := hD
  refine lv_nmi (show _ = (1 : Int32) from opn_ok ha) ?_
  refine lv_if_ne (tgt := 11) hx hb dX6_light_4 (by decide) (fun c_5 => ?_) (fun c_5 => ?_)
  rotate_left
  · exact absurd c_5 (by decide)
  refine lv_iload_n hx hb dX6_light_11 rfl (lv_at hl 2 rfl) ?_
  refine lv_if_lt (tgt := 30) hx hb dX6_light_12 (by decide) (fun c_6 => ?_) (fun c_6 => ?_)
  · exact absurd c_6 (nI_nlt (a := b) (b := 0) (by omega) (by omega))
  refine lv_iload_n hx hb dX6_light_15 rfl (lv_at hl 2 rfl) ?_
  refine lv_bipush (v := 16) hx hb dX6_light_16 (by decide) ?_
  refine lv_icmp_ge (tgt := 30) hx hb dX6_light_18 (by decide) (fun c_7 => ?_) (fun c_7 => ?_)
  · exact absurd c_7 (nI_ge (a := b) (b := 16) (by omega) (by omega))
  refine lv_iload_n hx hb dX6_light_21 rfl (lv_at hl 3 rfl) ?_
  refine lv_if_lt (tgt := 30) hx hb dX6_light_22 (by decide) (fun c_8 => ?_) (fun c_8 => ?_)
  · exact absurd c_8 (by decide)
  refine lv_iload_n hx hb dX6_light_25 rfl (lv_at hl 3 rfl) ?_
  refine lv_iconst (v := 1) hx hb dX6_light_26 (by decide) ?_
  refine lv_icmp_le (tgt := 34) hx hb dX6_light_27 (by decide) (fun c_9 => ?_) (fun c_9 => ?_)
  rotate_left
  · exact absurd c_9 (by decide)
  refine lv_aload_n hx hb dX6_light_34 rfl (lv_at hl 0 rfl) ?_
  refine xc_v (wc := [(h0, .inr (6, [.ref pg, .ref bk, .ref fg, .ref og, .ref lg, .int 0, .int 0, .int 0, .int 0, .int 0])), (lg, .inr (1, [.ref l1, .ref l2, .ref l3, .ref l4, .ref l5])), (l1, .inl (cJ, 96, .inr (.inl ff))), (l2, .inl (cI, 96, .inl gf)), (l3, .inl (cZ, 96, .inl zf)), (l4, .inl (cI, 96, .inl kf)), (l5, .inl (cI, 6, .inl cf)), (bk, .inr (5, [.ref br, .int 0]))]) (wr := []) (xrV (n := 0) (As := []) (rest := []) (ci := 6) (q0 := 0) hd hK hP hD (c_bring_0 l D cI cJ cZ cR _ h0 pg bk fg og lg br l1 l2 l3 l4 l5 ff gf zf kf cf ) (gV t_450 mV_X6_bringLights) hV_X6_bringLights ⟨(Nat.le_of_ble_eq_true rfl), (Nat.le_of_ble_eq_true rfl)⟩ rfl rfl [0, 1, 2, 3, 4, 5, 6, 7] rfl rfl rfl hl.1 rfl (Nat.le_of_ble_eq_true rfl) dX6_light_35 ⟨(Nat.le_of_ble_eq_true rfl), (Nat.le_of_ble_eq_true rfl)⟩) hP hD hS hA [0, 1, 2, 3, 4, 5, 6, 7] [] rfl rfl rfl (by decide) (fun u_11 H locs hw_12 hP hD hS => ?_)
  obtain ⟨f2_13, g2_14, z2_15, k2_16, c2_17⟩ := u_11
  have hw_18 : Lz f2_13 g2_14 := hw_12
  have hLz := hw_18
  have hP : va_P D vwCl [(h0, .inr (6, [.ref pg, .ref bk, .ref fg, .ref og, .ref lg, .int 0, .int 1, .int 0, .int 0, .int 0])), (lg, .inr (1, [.ref l1, .ref l2, .ref l3, .ref l4, .ref l5])), (l1, .inl (cJ, 96, .inr (.inl f2_13))), (l2, .inl (cI, 96, .inl g2_14)), (l3, .inl (cZ, 96, .inl z2_15)), (l4, .inl (cI, 96, .inl k2_16)), (l5, .inl (cI, 6, .inl c2_17)), (bk, .inr (5, [.ref br, .int 0]))] H := hP
  have hD : va_D A [(h0, .inr (6, [.ref pg, .ref bk, .ref fg, .ref og, .ref lg, .int 0, .int 1, .int 0, .int 0, .int 0])), (lg, .inr (1, [.ref l1, .ref l2, .ref l3, .ref l4, .ref l5])), (l1, .inl (cJ, 96, .inr (.inl f2_13))), (l2, .inl (cI, 96, .inl g2_14)), (l3, .inl (cZ, 96, .inl z2_15)), (l4, .inl (cI, 96, .inl k2_16)), (l5, .inl (cI, 6, .inl c2_17)), (bk, .inr (5, [.ref br, .int 0]))] := hD
  refine lv_iload_n hx hb dX6_light_38 rfl (lv_at hl 3 rfl) ?_
  refine lv_if_ne (tgt := 54) hx hb dX6_light_39 (by decide) (fun c_19 => ?_) (fun c_19 => ?_)
  rotate_left
  · exact absurd c_19 (by decide)
  refine lv_aload_n hx hb dX6_light_54 rfl (lv_at hl 0 rfl) ?_
  refine va_get (D := D) (ci := 6) (v := .ref lg) (C := RX6) (T := TX6) (N := 10) hx hb hts iT_X6 hown hK1 hP 0 rfl rfl 4 (by decide) (hts _ t_158) (fun _ h9 => h9) rfl dX6_light_55 ?_
  refine lv_iload_n hx hb dX6_light_58 rfl (lv_at hl 1 rfl) ?_
  refine lv_iload_n hx hb dX6_light_59 rfl (lv_at hl 2 rfl) ?_
  refine xc_i (wc := [(lg, .inr (1, [.ref l1, .ref l2, .ref l3, .ref l4, .ref l5])), (l1, .inl (cJ, 96, .inr (.inl f2_13))), (l2, .inl (cI, 96, .inl g2_14)), (l3, .inl (cZ, 96, .inl z2_15)), (l4, .inl (cI, 96, .inl k2_16)), (l5, .inl (cI, 6, .inl c2_17))]) (wr := [(h0, .inr (6, [.ref pg, .ref bk, .ref fg, .ref og, .ref lg, .int 0, .int 1, .int 0, .int 0, .int 0])), (bk, .inr (5, [.ref br, .int 0]))]) (xrV (n := 2) (As := [.int (nI a), .int (nI b)]) (rest := []) (ci := 1) (q0 := 1) hd hK hP hD (c_X1_firstTo l D cI cJ cZ cR _ lg l1 l2 l3 l4 l5 a b f2_13 g2_14 z2_15 k2_16 c2_17 ha hb0 (hLz.2 _ (by omega))) (gV t_520 mV_X1_firstTo) hV_X1_firstTo ⟨(Nat.le_of_ble_eq_true rfl), (Nat.le_of_ble_eq_true rfl)⟩ rfl rfl [1, 2, 3, 4, 5, 6] rfl rfl rfl hl.1 rfl (Nat.le_of_ble_eq_true rfl) dX6_light_60 ⟨(Nat.le_of_ble_eq_true rfl), (Nat.le_of_ble_eq_true rfl)⟩) hP hD hS hA [1, 2, 3, 4, 5, 6] [0, 7] rfl rfl rfl (by decide) (fun r_20 u_21 H locs hw_22 hP hD hS => ?_)
  have hw_23 : r_20 = (-1) := hw_22
  subst hw_23
  have hP : va_P D vwCl [(h0, .inr (6, [.ref pg, .ref bk, .ref fg, .ref og, .ref lg, .int 0, .int 1, .int 0, .int 0, .int 0])), (bk, .inr (5, [.ref br, .int 0])), (lg, .inr (1, [.ref l1, .ref l2, .ref l3, .ref l4, .ref l5])), (l1, .inl (cJ, 96, .inr (.inl f2_13))), (l2, .inl (cI, 96, .inl g2_14)), (l3, .inl (cZ, 96, .inl z2_15)), (l4, .inl (cI, 96, .inl k2_16)), (l5, .inl (cI, 6, .inl c2_17))] H := hP
  have hD : va_D A [(h0, .inr (6, [.ref pg, .ref bk, .ref fg, .ref og, .ref lg, .int 0, .int 1, .int 0, .int 0, .int 0])), (bk, .inr (5, [.ref br, .int 0])), (lg, .inr (1, [.ref l1, .ref l2, .ref l3, .ref l4, .ref l5])), (l1, .inl (cJ, 96, .inr (.inl f2_13))), (l2, .inl (cI, 96, .inl g2_14)), (l3, .inl (cZ, 96, .inl z2_15)), (l4, .inl (cI, 96, .inl k2_16)), (l5, .inl (cI, 6, .inl c2_17))] := hD
  exact hret _ _ _ _ _ _ (-1) (f2_13, g2_14, z2_15, k2_16, c2_17) dX6_light_63 rfl hS (Nat.le_of_ble_eq_true rfl) (Nat.le_of_ble_eq_true rfl) ⟨rfl, hLz⟩ (hP.sub [0, 2, 3, 4, 5, 6, 7, 1] rfl) (hD.sub [0, 2, 3, 4, 5, 6, 7, 1] rfl rfl)
set_option maxHeartbeats 4000000 in
set_option maxRecDepth 100000 in
theorem c_kinds_1 (sz : Nat) (h0 : Nat) (pg : Nat) (bk : Nat) (fg : Nat) (og : Nat) (lg : Nat) (br : Nat) (l1 : Nat) (l2 : Nat) (l3 : Nat) (l4 : Nat) (l5 : Nat) (a : Nat) (ff : Nat → Int64) (gf : Nat → Int32) (zf : Nat → Int32) (kf : Nat → Int32) (cf : Nat → Int32) (ha : a < 3) (hL : Lz ff gf) : CTi l D cI cJ cZ cR yX6_kinds cX6_kinds 4 (some .int) 4 89 0 0 sz [.ref h0, .int (nI a)] [(h0, .inr (6, [.ref pg, .ref bk, .ref fg, .ref og, .ref lg, .int 0, .int 1, .int 0, .int 0, .int 0])), (lg, .inr (1, [.ref l1, .ref l2, .ref l3, .ref l4, .ref l5])), (l1, .inl (cJ, 96, .inr (.inl ff))), (l2, .inl (cI, 96, .inl gf)), (l3, .inl (cZ, 96, .inl zf)), (l4, .inl (cI, 96, .inl kf)), (l5, .inl (cI, 6, .inl cf)), (bk, .inr (5, [.ref br, .int 0]))] (fun (r : Int32) (u : (Nat → Int64) × (Nat → Int32) × (Nat → Int32) × (Nat → Int32) × (Nat → Int32)) => (r = 0) ∧ (Lz u.1 u.2.1)) (fun (u : (Nat → Int64) × (Nat → Int32) × (Nat → Int32) × (Nat → Int32) × (Nat → Int32)) => [(h0, .inr (6, [.ref pg, .ref bk, .ref fg, .ref og, .ref lg, .int 0, .int 1, .int 0, .int 0, .int 0])), (lg, .inr (1, [.ref l1, .ref l2, .ref l3, .ref l4, .ref l5])), (l1, .inl (cJ, 96, .inr (.inl u.1))), (l2, .inl (cI, 96, .inl u.2.1)), (l3, .inl (cZ, 96, .inl u.2.2.1)), (l4, .inl (cI, 96, .inl u.2.2.2.1)), (l5, .inl (cI, 6, .inl u.2.2.2.2)), (bk, .inr (5, [.ref br, .int 0]))]) := by
  refine CTi.of (ty := .int) (by decide) (Nat.le_of_ble_eq_true rfl) rfl ?_
  intro p e s m below meth c A Q ls hd hin hK hsz hP hD hA hS hl hret
  obtain ⟨hx, hb, hml, hown, hts⟩ := id hd
  have hK1 := hK.1
  have hown : s.vm.findClass RX6 = some m.cls := hown
  have hl : lv_has ls 4 [(0, .ref h0), (1, .int (nI a))] := hl
  have hLz := hL
  refine lv_iload_n hx hb dX6_kinds_0 rfl (lv_at hl 1 rfl) ?_
  refine xc_i (wc := []) (wr := [(h0, .inr (6, [.ref pg, .ref bk, .ref fg, .ref og, .ref lg, .int 0, .int 1, .int 0, .int 0, .int 0])), (lg, .inr (1, [.ref l1, .ref l2, .ref l3, .ref l4, .ref l5])), (l1, .inl (cJ, 96, .inr (.inl ff))), (l2, .inl (cI, 96, .inl gf)), (l3, .inl (cZ, 96, .inl zf)), (l4, .inl (cI, 96, .inl kf)), (l5, .inl (cI, 6, .inl cf)), (bk, .inr (5, [.ref br, .int 0]))]) (xrS (n := 1) (As := [.int (nI a)]) (rest := []) hd hK hP hD (c_X6_isOpen l D cI cJ cZ cR _ (nI a) ) (gS t_341 mS_X6_isOpen) hS_X6_isOpen ⟨(Nat.le_of_ble_eq_true rfl), (Nat.le_of_ble_eq_true rfl)⟩ [] rfl rfl rfl hl.1 rfl (Nat.le_of_ble_eq_true rfl) dX6_kinds_1 ⟨(Nat.le_of_ble_eq_true rfl), (Nat.le_of_ble_eq_true rfl)⟩) hP hD hS hA [] [0, 1, 2, 3, 4, 5, 6, 7] rfl rfl rfl (by decide) (fun r_1 u_2 H locs hw_3 hP hD hS => ?_)
  have hw_4 : r_1 = (if (nI a) < 0 then 0 else if 3 ≤ (nI a) then 0 else 1) := hw_3
  subst hw_4
  have hP : va_P D vwCl [(h0, .inr (6, [.ref pg, .ref bk, .ref fg, .ref og, .ref lg, .int 0, .int 1, .int 0, .int 0, .int 0])), (lg, .inr (1, [.ref l1, .ref l2, .ref l3, .ref l4, .ref l5])), (l1, .inl (cJ, 96, .inr (.inl ff))), (l2, .inl (cI, 96, .inl gf)), (l3, .inl (cZ, 96, .inl zf)), (l4, .inl (cI, 96, .inl kf)), (l5, .inl (cI, 6, .inl cf)), (bk, .inr (5, [.ref br, .int 0]))] H := hP
  have hD : va_D A [(h0, .inr (6, [.ref pg, .ref bk, .ref fg, .ref og, .ref lg, .int 0, .int 1, .int 0, .int 0, .int 0])), (lg, .inr (1, [.ref l1, .ref l2, .ref l3, .ref l4, .ref l5])), (l1, .inl (cJ, 96, .inr (.inl ff))), (l2, .inl (cI, 96, .inl gf)), (l3, .inl (cZ, 96, .inl zf)), (l4, .inl (cI, 96, .inl kf)), (l5, .inl (cI, 6, .inl cf)), (bk, .inr (5, [.ref br, .int 0]))] := hD
  refine lv_nmi (show _ = (1 : Int32) from opn_ok ha) ?_
  refine lv_if_ne (tgt := 11) hx hb dX6_kinds_4 (by decide) (fun c_5 => ?_) (fun c_5 => ?_)
  rotate_left
  · exact absurd c_5 (by decide)
  refine lv_aload_n hx hb dX6_kinds_11 rfl (lv_at hl 0 rfl) ?_
  refine xc_v (wc := [(h0, .inr (6, [.ref pg, .ref bk, .ref fg, .ref og, .ref lg, .int 0, .int 1, .int 0, .int 0, .int 0])), (lg, .inr (1, [.ref l1, .ref l2, .ref l3, .ref l4, .ref l5])), (l1, .inl (cJ, 96, .inr (.inl ff))), (l2, .inl (cI, 96, .inl gf)), (l3, .inl (cZ, 96, .inl zf)), (l4, .inl (cI, 96, .inl kf)), (l5, .inl (cI, 6, .inl cf)), (bk, .inr (5, [.ref br, .int 0]))]) (wr := []) (xrV (n := 0) (As := []) (rest := []) (ci := 6) (q0 := 0) hd hK hP hD (c_bring_1 l D cI cJ cZ cR _ h0 pg bk fg og lg br l1 l2 l3 l4 l5 ff gf zf kf cf ) (gV t_450 mV_X6_bringLights) hV_X6_bringLights ⟨(Nat.le_of_ble_eq_true rfl), (Nat.le_of_ble_eq_true rfl)⟩ rfl rfl [0, 1, 2, 3, 4, 5, 6, 7] rfl rfl rfl hl.1 rfl (Nat.le_of_ble_eq_true rfl) dX6_kinds_12 ⟨(Nat.le_of_ble_eq_true rfl), (Nat.le_of_ble_eq_true rfl)⟩) hP hD hS hA [0, 1, 2, 3, 4, 5, 6, 7] [] rfl rfl rfl (by decide) (fun u_7 H locs hw_8 hP hD hS => ?_)
  have hP : va_P D vwCl [(h0, .inr (6, [.ref pg, .ref bk, .ref fg, .ref og, .ref lg, .int 0, .int 1, .int 0, .int 0, .int 0])), (lg, .inr (1, [.ref l1, .ref l2, .ref l3, .ref l4, .ref l5])), (l1, .inl (cJ, 96, .inr (.inl ff))), (l2, .inl (cI, 96, .inl gf)), (l3, .inl (cZ, 96, .inl zf)), (l4, .inl (cI, 96, .inl kf)), (l5, .inl (cI, 6, .inl cf)), (bk, .inr (5, [.ref br, .int 0]))] H := hP
  have hD : va_D A [(h0, .inr (6, [.ref pg, .ref bk, .ref fg, .ref og, .ref lg, .int 0, .int 1, .int 0, .int 0, .int 0])), (lg, .inr (1, [.ref l1, .ref l2, .ref l3, .ref l4, .ref l5])), (l1, .inl (cJ, 96, .inr (.inl ff))), (l2, .inl (cI, 96, .inl gf)), (l3, .inl (cZ, 96, .inl zf)), (l4, .inl (cI, 96, .inl kf)), (l5, .inl (cI, 6, .inl cf)), (bk, .inr (5, [.ref br, .int 0]))] := hD
  refine lv_iconst (v := 0) hx hb dX6_kinds_15 (by decide) ?_
  refine lv_istore_n (lv' := [(2, .int 0), (0, .ref h0), (1, .int (nI a))]) hx hb dX6_kinds_16 rfl hl (by decide) rfl (fun ls hl => ?_)
  refine lv_iconst (v := 0) hx hb dX6_kinds_17 (by decide) ?_
  refine lv_istore_n (lv' := [(3, .int 0), (2, .int 0), (0, .ref h0), (1, .int (nI a))]) hx hb dX6_kinds_18 rfl hl (by decide) rfl (fun ls hl => ?_)
  have LOOP_19 : ∀ (n : Nat) (i : Nat), (i + n = 16) → ∀ (H : Heap) (locs : List Loc) (ls : Array Slot), va_P D vwCl [(h0, .inr (6, [.ref pg, .ref bk, .ref fg, .ref og, .ref lg, .int 0, .int 1, .int 0, .int 0, .int 0])), (lg, .inr (1, [.ref l1, .ref l2, .ref l3, .ref l4, .ref l5])), (l1, .inl (cJ, 96, .inr (.inl ff))), (l2, .inl (cI, 96, .inl gf)), (l3, .inl (cZ, 96, .inl zf)), (l4, .inl (cI, 96, .inl kf)), (l5, .inl (cI, 6, .inl cf)), (bk, .inr (5, [.ref br, .int 0]))] H → va_D A [(h0, .inr (6, [.ref pg, .ref bk, .ref fg, .ref og, .ref lg, .int 0, .int 1, .int 0, .int 0, .int 0])), (lg, .inr (1, [.ref l1, .ref l2, .ref l3, .ref l4, .ref l5])), (l1, .inl (cJ, 96, .inr (.inl ff))), (l2, .inl (cI, 96, .inl gf)), (l3, .inl (cZ, 96, .inl zf)), (l4, .inl (cI, 96, .inl kf)), (l5, .inl (cI, 6, .inl cf)), (bk, .inr (5, [.ref br, .int 0]))] → va_S A s.heap H locs → lv_has ls 4 [(0, .ref h0), (1, .int (nI a)), (2, .int 0), (3, .int (nI i))] → W p l e (rM 4 0 0 89) s m ([.ref h0, .int (nI a)] : List Value).toArray below meth c H locs 0 0 Q (F0 m 19 ls []) := by
    intro n
    induction n with
    | zero =>
      intro i hi H locs ls hP hD hS hl
      refine lv_iload_n hx hb dX6_kinds_19 rfl (lv_at hl 3 rfl) ?_
      refine lv_bipush (v := 16) hx hb dX6_kinds_20 (by decide) ?_
      refine lv_icmp_ge (tgt := 49) hx hb dX6_kinds_22 (by decide) (fun c_9 => ?_) (fun c_9 => ?_)
      rotate_left
      · exact absurd (nI_le (a := 16) (b := i) (by omega) (by omega)) c_9
      refine lv_iload_n hx hb dX6_kinds_49 rfl (lv_at hl 2 rfl) ?_
      exact hret _ _ _ _ _ _ 0 (ff, gf, zf, kf, cf) dX6_kinds_50 rfl hS (Nat.le_of_ble_eq_true rfl) (Nat.le_of_ble_eq_true rfl) ⟨rfl, hLz⟩ (hP.sub [0, 1, 2, 3, 4, 5, 6, 7] rfl) (hD.sub [0, 1, 2, 3, 4, 5, 6, 7] rfl rfl)
    | succ n ih_19 =>
      intro i hi H locs ls hP hD hS hl
      refine lv_iload_n hx hb dX6_kinds_19 rfl (lv_at hl 3 rfl) ?_
      refine lv_bipush (v := 16) hx hb dX6_kinds_20 (by decide) ?_
      refine lv_icmp_ge (tgt := 49) hx hb dX6_kinds_22 (by decide) (fun c_10 => ?_) (fun c_10 => ?_)
      · exact absurd c_10 (nI_ge (a := i) (b := 16) (by omega) (by omega))
      refine lv_aload_n hx hb dX6_kinds_25 rfl (lv_at hl 0 rfl) ?_
      refine va_get (D := D) (ci := 6) (v := .ref lg) (C := RX6) (T := TX6) (N := 10) hx hb hts iT_X6 hown hK1 hP 0 rfl rfl 4 (by decide) (hts _ t_158) (fun _ h9 => h9) rfl dX6_kinds_26 ?_
      refine lv_iload_n hx hb dX6_kinds_29 rfl (lv_at hl 1 rfl) ?_
      refine lv_iload_n hx hb dX6_kinds_30 rfl (lv_at hl 3 rfl) ?_
      refine xc_i (wc := [(lg, .inr (1, [.ref l1, .ref l2, .ref l3, .ref l4, .ref l5])), (l1, .inl (cJ, 96, .inr (.inl ff))), (l2, .inl (cI, 96, .inl gf)), (l3, .inl (cZ, 96, .inl zf)), (l4, .inl (cI, 96, .inl kf)), (l5, .inl (cI, 6, .inl cf))]) (wr := [(h0, .inr (6, [.ref pg, .ref bk, .ref fg, .ref og, .ref lg, .int 0, .int 1, .int 0, .int 0, .int 0])), (bk, .inr (5, [.ref br, .int 0]))]) (xrV (n := 2) (As := [.int (nI a), .int (nI i)]) (rest := []) (ci := 1) (q0 := 1) hd hK hP hD (c_X1_reaches l D cI cJ cZ cR _ lg l1 l2 l3 l4 l5 a i ff gf zf kf cf ha (by omega) (hLz.1 _ (by omega))) (gV t_503 mV_X1_reaches) hV_X1_reaches ⟨(Nat.le_of_ble_eq_true rfl), (Nat.le_of_ble_eq_true rfl)⟩ rfl rfl [1, 2, 3, 4, 5, 6] rfl rfl rfl hl.1 rfl (Nat.le_of_ble_eq_true rfl) dX6_kinds_31 ⟨(Nat.le_of_ble_eq_true rfl), (Nat.le_of_ble_eq_true rfl)⟩) hP hD hS hA [1, 2, 3, 4, 5, 6] [0, 7] rfl rfl rfl (by decide) (fun r_11 u_12 H locs hw_13 hP hD hS => ?_)
      have hw_14 : r_11 = 0 := hw_13
      subst hw_14
      have hP : va_P D vwCl [(h0, .inr (6, [.ref pg, .ref bk, .ref fg, .ref og, .ref lg, .int 0, .int 1, .int 0, .int 0, .int 0])), (bk, .inr (5, [.ref br, .int 0])), (lg, .inr (1, [.ref l1, .ref l2, .ref l3, .ref l4, .ref l5])), (l1, .inl (cJ, 96, .inr (.inl ff))), (l2, .inl (cI, 96, .inl gf)), (l3, .inl (cZ, 96, .inl zf)), (l4, .inl (cI, 96, .inl kf)), (l5, .inl (cI, 6, .inl cf))] H := hP
      have hD : va_D A [(h0, .inr (6, [.ref pg, .ref bk, .ref fg, .ref og, .ref lg, .int 0, .int 1, .int 0, .int 0, .int 0])), (bk, .inr (5, [.ref br, .int 0])), (lg, .inr (1, [.ref l1, .ref l2, .ref l3, .ref l4, .ref l5])), (l1, .inl (cJ, 96, .inr (.inl ff))), (l2, .inl (cI, 96, .inl gf)), (l3, .inl (cZ, 96, .inl zf)), (l4, .inl (cI, 96, .inl kf)), (l5, .inl (cI, 6, .inl cf))] := hD
      refine lv_if_eq (tgt := 43) hx hb dX6_kinds_34 (by decide) (fun c_15 => ?_) (fun c_15 => ?_)
      rotate_left
      · exact absurd c_15 (by decide)
      refine lv_iinc (v := nI (i + 1)) (lv' := [(3, .int (nI (i + 1))), (0, .ref h0), (1, .int (nI a)), (2, .int 0)]) hx hb dX6_kinds_43 hl (k := 3) rfl (nI_1 i) (by decide) rfl (fun ls hl => ?_)
      refine lv_goto (tgt := 19) hx hb dX6_kinds_46 (by decide) ?_
      exact ih_19 (i + 1) (by omega) _ _ _ (hP.sub [0, 2, 3, 4, 5, 6, 7, 1] rfl) (hD.sub [0, 2, 3, 4, 5, 6, 7, 1] rfl rfl) hS (lv_sub hl [1, 2, 3, 0] rfl)
  exact LOOP_19 16 0 (by omega) _ _ _ (hP.sub [0, 1, 2, 3, 4, 5, 6, 7] rfl) (hD.sub [0, 1, 2, 3, 4, 5, 6, 7] rfl rfl) hS (lv_sub hl [2, 3, 1, 0] rfl)
set_option maxHeartbeats 4000000 in
set_option maxRecDepth 100000 in
theorem c_light_10 (sz : Nat) (h0 : Nat) (pg : Nat) (bk : Nat) (fg : Nat) (og : Nat) (lg : Nat) (br : Nat) (l1 : Nat) (l2 : Nat) (l3 : Nat) (l4 : Nat) (l5 : Nat) (a : Nat) (b : Nat) (ff : Nat → Int64) (gf : Nat → Int32) (zf : Nat → Int32) (kf : Nat → Int32) (cf : Nat → Int32) (ha : a < 3) (hb0 : b < 16) (hL : Lz ff gf) : CTi l D cI cJ cZ cR yX6_light cX6_light 4 (some .int) 4 89 0 0 sz [.ref h0, .int (nI a), .int (nI b), .int 0] [(h0, .inr (6, [.ref pg, .ref bk, .ref fg, .ref og, .ref lg, .int 0, .int 1, .int 0, .int 0, .int 0])), (lg, .inr (1, [.ref l1, .ref l2, .ref l3, .ref l4, .ref l5])), (l1, .inl (cJ, 96, .inr (.inl ff))), (l2, .inl (cI, 96, .inl gf)), (l3, .inl (cZ, 96, .inl zf)), (l4, .inl (cI, 96, .inl kf)), (l5, .inl (cI, 6, .inl cf)), (bk, .inr (5, [.ref br, .int 0]))] (fun (r : Int32) (u : Unit) => (r = (-1))) (fun (u : Unit) => [(h0, .inr (6, [.ref pg, .ref bk, .ref fg, .ref og, .ref lg, .int 0, .int 1, .int 0, .int 0, .int 0])), (lg, .inr (1, [.ref l1, .ref l2, .ref l3, .ref l4, .ref l5])), (l1, .inl (cJ, 96, .inr (.inl ff))), (l2, .inl (cI, 96, .inl gf)), (l3, .inl (cZ, 96, .inl zf)), (l4, .inl (cI, 96, .inl kf)), (l5, .inl (cI, 6, .inl cf)), (bk, .inr (5, [.ref br, .int 0]))]) := by
  refine CTi.of (ty := .int) (by decide) (Nat.le_of_ble_eq_true rfl) rfl ?_
  intro p e s m below meth c A Q ls hd hin hK hsz hP hD hA hS hl hret
  obtain ⟨hx, hb, hml, hown, hts⟩ := id hd
  have hK1 := hK.1
  have hown : s.vm.findClass RX6 = some m.cls := hown
  have hl : lv_has ls 4 [(0, .ref h0), (1, .int (nI a)), (2, .int (nI b)), (3, .int 0)] := hl
  have hLz := hL
  refine lv_iload_n hx hb dX6_light_0 rfl (lv_at hl 1 rfl) ?_
  refine xc_i (wc := []) (wr := [(h0, .inr (6, [.ref pg, .ref bk, .ref fg, .ref og, .ref lg, .int 0, .int 1, .int 0, .int 0, .int 0])), (lg, .inr (1, [.ref l1, .ref l2, .ref l3, .ref l4, .ref l5])), (l1, .inl (cJ, 96, .inr (.inl ff))), (l2, .inl (cI, 96, .inl gf)), (l3, .inl (cZ, 96, .inl zf)), (l4, .inl (cI, 96, .inl kf)), (l5, .inl (cI, 6, .inl cf)), (bk, .inr (5, [.ref br, .int 0]))]) (xrS (n := 1) (As := [.int (nI a)]) (rest := []) hd hK hP hD (c_X6_isOpen l D cI cJ cZ cR _ (nI a) ) (gS t_341 mS_X6_isOpen) hS_X6_isOpen ⟨(Nat.le_of_ble_eq_true rfl), (Nat.le_of_ble_eq_true rfl)⟩ [] rfl rfl rfl hl.1 rfl (Nat.le_of_ble_eq_true rfl) dX6_light_1 ⟨(Nat.le_of_ble_eq_true rfl), (Nat.le_of_ble_eq_true rfl)⟩) hP hD hS hA [] [0, 1, 2, 3, 4, 5, 6, 7] rfl rfl rfl (by decide) (fun r_1 u_2 H locs hw_3 hP hD hS => ?_)
  have hw_4 : r_1 = (if (nI a) < 0 then 0 else if 3 ≤ (nI a) then 0 else 1) := hw_3
  subst hw_4
  have hP : va_P D vwCl [(h0, .inr (6, [.ref pg, .ref bk, .ref fg, .ref og, .ref lg, .int 0, .int 1, .int 0, .int 0, .int 0])), (lg, .inr (1, [.ref l1, .ref l2, .ref l3, .ref l4, .ref l5])), (l1, .inl (cJ, 96, .inr (.inl ff))), (l2, .inl (cI, 96, .inl gf)), (l3, .inl (cZ, 96, .inl zf)), (l4, .inl (cI, 96, .inl kf)), (l5, .inl (cI, 6, .inl cf)), (bk, .inr (5, [.ref br, .int 0]))] H := hP
  have hD : va_D A [(h0, .inr (6, [.ref pg, .ref bk, .ref fg, .ref og, .ref lg, .int 0, .int 1, .int 0, .int 0, .int 0])), (lg, .inr (1, [.ref l1, .ref l2, .ref l3, .ref l4, .ref l5])), (l1, .inl (cJ, 96, .inr (.inl ff))), (l2, .inl (cI, 96, .inl gf)), (l3, .inl (cZ, 96, .inl zf)), (l4, .inl (cI, 96, .inl kf)), (l5, .inl (cI, 6, .inl cf)), (bk, .inr (5, [.ref br, .int 0]))] := hD
  refine lv_nmi (show _ = (1 : Int32) from opn_ok ha) ?_
  refine lv_if_ne (tgt := 11) hx hb dX6_light_4 (by decide) (fun c_5 => ?_) (fun c_5 => ?_)
  rotate_left
  · exact absurd c_5 (by decide)
  refine lv_iload_n hx hb dX6_light_11 rfl (lv_at hl 2 rfl) ?_
  refine lv_if_lt (tgt := 30) hx hb dX6_light_12 (by decide) (fun c_6 => ?_) (fun c_6 => ?_)
  · exact absurd c_6 (nI_nlt (a := b) (b := 0) (by omega) (by omega))
  refine lv_iload_n hx hb dX6_light_15 rfl (lv_at hl 2 rfl) ?_
  refine lv_bipush (v := 16) hx hb dX6_light_16 (by decide) ?_
  refine lv_icmp_ge (tgt := 30) hx hb dX6_light_18 (by decide) (fun c_7 => ?_) (fun c_7 => ?_)
  · exact absurd c_7 (nI_ge (a := b) (b := 16) (by omega) (by omega))
  refine lv_iload_n hx hb dX6_light_21 rfl (lv_at hl 3 rfl) ?_
  refine lv_if_lt (tgt := 30) hx hb dX6_light_22 (by decide) (fun c_8 => ?_) (fun c_8 => ?_)
  · exact absurd c_8 (by decide)
  refine lv_iload_n hx hb dX6_light_25 rfl (lv_at hl 3 rfl) ?_
  refine lv_iconst (v := 1) hx hb dX6_light_26 (by decide) ?_
  refine lv_icmp_le (tgt := 34) hx hb dX6_light_27 (by decide) (fun c_9 => ?_) (fun c_9 => ?_)
  rotate_left
  · exact absurd c_9 (by decide)
  refine lv_aload_n hx hb dX6_light_34 rfl (lv_at hl 0 rfl) ?_
  refine xc_v (wc := [(h0, .inr (6, [.ref pg, .ref bk, .ref fg, .ref og, .ref lg, .int 0, .int 1, .int 0, .int 0, .int 0])), (lg, .inr (1, [.ref l1, .ref l2, .ref l3, .ref l4, .ref l5])), (l1, .inl (cJ, 96, .inr (.inl ff))), (l2, .inl (cI, 96, .inl gf)), (l3, .inl (cZ, 96, .inl zf)), (l4, .inl (cI, 96, .inl kf)), (l5, .inl (cI, 6, .inl cf)), (bk, .inr (5, [.ref br, .int 0]))]) (wr := []) (xrV (n := 0) (As := []) (rest := []) (ci := 6) (q0 := 0) hd hK hP hD (c_bring_1 l D cI cJ cZ cR _ h0 pg bk fg og lg br l1 l2 l3 l4 l5 ff gf zf kf cf ) (gV t_450 mV_X6_bringLights) hV_X6_bringLights ⟨(Nat.le_of_ble_eq_true rfl), (Nat.le_of_ble_eq_true rfl)⟩ rfl rfl [0, 1, 2, 3, 4, 5, 6, 7] rfl rfl rfl hl.1 rfl (Nat.le_of_ble_eq_true rfl) dX6_light_35 ⟨(Nat.le_of_ble_eq_true rfl), (Nat.le_of_ble_eq_true rfl)⟩) hP hD hS hA [0, 1, 2, 3, 4, 5, 6, 7] [] rfl rfl rfl (by decide) (fun u_11 H locs hw_12 hP hD hS => ?_)
  have hP : va_P D vwCl [(h0, .inr (6, [.ref pg, .ref bk, .ref fg, .ref og, .ref lg, .int 0, .int 1, .int 0, .int 0, .int 0])), (lg, .inr (1, [.ref l1, .ref l2, .ref l3, .ref l4, .ref l5])), (l1, .inl (cJ, 96, .inr (.inl ff))), (l2, .inl (cI, 96, .inl gf)), (l3, .inl (cZ, 96, .inl zf)), (l4, .inl (cI, 96, .inl kf)), (l5, .inl (cI, 6, .inl cf)), (bk, .inr (5, [.ref br, .int 0]))] H := hP
  have hD : va_D A [(h0, .inr (6, [.ref pg, .ref bk, .ref fg, .ref og, .ref lg, .int 0, .int 1, .int 0, .int 0, .int 0])), (lg, .inr (1, [.ref l1, .ref l2, .ref l3, .ref l4, .ref l5])), (l1, .inl (cJ, 96, .inr (.inl ff))), (l2, .inl (cI, 96, .inl gf)), (l3, .inl (cZ, 96, .inl zf)), (l4, .inl (cI, 96, .inl kf)), (l5, .inl (cI, 6, .inl cf)), (bk, .inr (5, [.ref br, .int 0]))] := hD
  refine lv_iload_n hx hb dX6_light_38 rfl (lv_at hl 3 rfl) ?_
  refine lv_if_ne (tgt := 54) hx hb dX6_light_39 (by decide) (fun c_13 => ?_) (fun c_13 => ?_)
  · exact absurd c_13 (by decide)
  refine lv_aload_n hx hb dX6_light_42 rfl (lv_at hl 0 rfl) ?_
  refine va_get (D := D) (ci := 6) (v := .ref lg) (C := RX6) (T := TX6) (N := 10) hx hb hts iT_X6 hown hK1 hP 0 rfl rfl 4 (by decide) (hts _ t_158) (fun _ h9 => h9) rfl dX6_light_43 ?_
  refine lv_iload_n hx hb dX6_light_46 rfl (lv_at hl 1 rfl) ?_
  refine lv_iload_n hx hb dX6_light_47 rfl (lv_at hl 2 rfl) ?_
  refine xc_i (wc := [(lg, .inr (1, [.ref l1, .ref l2, .ref l3, .ref l4, .ref l5])), (l1, .inl (cJ, 96, .inr (.inl ff))), (l2, .inl (cI, 96, .inl gf)), (l3, .inl (cZ, 96, .inl zf)), (l4, .inl (cI, 96, .inl kf)), (l5, .inl (cI, 6, .inl cf))]) (wr := [(h0, .inr (6, [.ref pg, .ref bk, .ref fg, .ref og, .ref lg, .int 0, .int 1, .int 0, .int 0, .int 0])), (bk, .inr (5, [.ref br, .int 0]))]) (xrV (n := 2) (As := [.int (nI a), .int (nI b)]) (rest := []) (ci := 1) (q0 := 1) hd hK hP hD (c_X1_stepsTo l D cI cJ cZ cR _ lg l1 l2 l3 l4 l5 a b ff gf zf kf cf ha hb0 (hLz.1 _ (by omega))) (gV t_511 mV_X1_stepsTo) hV_X1_stepsTo ⟨(Nat.le_of_ble_eq_true rfl), (Nat.le_of_ble_eq_true rfl)⟩ rfl rfl [1, 2, 3, 4, 5, 6] rfl rfl rfl hl.1 rfl (Nat.le_of_ble_eq_true rfl) dX6_light_48 ⟨(Nat.le_of_ble_eq_true rfl), (Nat.le_of_ble_eq_true rfl)⟩) hP hD hS hA [1, 2, 3, 4, 5, 6] [0, 7] rfl rfl rfl (by decide) (fun r_14 u_15 H locs hw_16 hP hD hS => ?_)
  have hw_17 : r_14 = (-1) := hw_16
  subst hw_17
  have hP : va_P D vwCl [(h0, .inr (6, [.ref pg, .ref bk, .ref fg, .ref og, .ref lg, .int 0, .int 1, .int 0, .int 0, .int 0])), (bk, .inr (5, [.ref br, .int 0])), (lg, .inr (1, [.ref l1, .ref l2, .ref l3, .ref l4, .ref l5])), (l1, .inl (cJ, 96, .inr (.inl ff))), (l2, .inl (cI, 96, .inl gf)), (l3, .inl (cZ, 96, .inl zf)), (l4, .inl (cI, 96, .inl kf)), (l5, .inl (cI, 6, .inl cf))] H := hP
  have hD : va_D A [(h0, .inr (6, [.ref pg, .ref bk, .ref fg, .ref og, .ref lg, .int 0, .int 1, .int 0, .int 0, .int 0])), (bk, .inr (5, [.ref br, .int 0])), (lg, .inr (1, [.ref l1, .ref l2, .ref l3, .ref l4, .ref l5])), (l1, .inl (cJ, 96, .inr (.inl ff))), (l2, .inl (cI, 96, .inl gf)), (l3, .inl (cZ, 96, .inl zf)), (l4, .inl (cI, 96, .inl kf)), (l5, .inl (cI, 6, .inl cf))] := hD
  refine lv_goto (tgt := 63) hx hb dX6_light_51 (by decide) ?_
  exact hret _ _ _ _ _ _ (-1) () dX6_light_63 rfl hS (Nat.le_of_ble_eq_true rfl) (Nat.le_of_ble_eq_true rfl) rfl (hP.sub [0, 2, 3, 4, 5, 6, 7, 1] rfl) (hD.sub [0, 2, 3, 4, 5, 6, 7, 1] rfl rfl)
set_option maxHeartbeats 4000000 in
set_option maxRecDepth 100000 in
theorem c_light_11 (sz : Nat) (h0 : Nat) (pg : Nat) (bk : Nat) (fg : Nat) (og : Nat) (lg : Nat) (br : Nat) (l1 : Nat) (l2 : Nat) (l3 : Nat) (l4 : Nat) (l5 : Nat) (a : Nat) (b : Nat) (ff : Nat → Int64) (gf : Nat → Int32) (zf : Nat → Int32) (kf : Nat → Int32) (cf : Nat → Int32) (ha : a < 3) (hb0 : b < 16) (hL : Lz ff gf) : CTi l D cI cJ cZ cR yX6_light cX6_light 4 (some .int) 4 89 0 0 sz [.ref h0, .int (nI a), .int (nI b), .int 1] [(h0, .inr (6, [.ref pg, .ref bk, .ref fg, .ref og, .ref lg, .int 0, .int 1, .int 0, .int 0, .int 0])), (lg, .inr (1, [.ref l1, .ref l2, .ref l3, .ref l4, .ref l5])), (l1, .inl (cJ, 96, .inr (.inl ff))), (l2, .inl (cI, 96, .inl gf)), (l3, .inl (cZ, 96, .inl zf)), (l4, .inl (cI, 96, .inl kf)), (l5, .inl (cI, 6, .inl cf)), (bk, .inr (5, [.ref br, .int 0]))] (fun (r : Int32) (u : Unit) => (r = (-1))) (fun (u : Unit) => [(h0, .inr (6, [.ref pg, .ref bk, .ref fg, .ref og, .ref lg, .int 0, .int 1, .int 0, .int 0, .int 0])), (lg, .inr (1, [.ref l1, .ref l2, .ref l3, .ref l4, .ref l5])), (l1, .inl (cJ, 96, .inr (.inl ff))), (l2, .inl (cI, 96, .inl gf)), (l3, .inl (cZ, 96, .inl zf)), (l4, .inl (cI, 96, .inl kf)), (l5, .inl (cI, 6, .inl cf)), (bk, .inr (5, [.ref br, .int 0]))]) := by
  refine CTi.of (ty := .int) (by decide) (Nat.le_of_ble_eq_true rfl) rfl ?_
  intro p e s m below meth c A Q ls hd hin hK hsz hP hD hA hS hl hret
  obtain ⟨hx, hb, hml, hown, hts⟩ := id hd
  have hK1 := hK.1
  have hown : s.vm.findClass RX6 = some m.cls := hown
  have hl : lv_has ls 4 [(0, .ref h0), (1, .int (nI a)), (2, .int (nI b)), (3, .int 1)] := hl
  have hLz := hL
  refine lv_iload_n hx hb dX6_light_0 rfl (lv_at hl 1 rfl) ?_
  refine xc_i (wc := []) (wr := [(h0, .inr (6, [.ref pg, .ref bk, .ref fg, .ref og, .ref lg, .int 0, .int 1, .int 0, .int 0, .int 0])), (lg, .inr (1, [.ref l1, .ref l2, .ref l3, .ref l4, .ref l5])), (l1, .inl (cJ, 96, .inr (.inl ff))), (l2, .inl (cI, 96, .inl gf)), (l3, .inl (cZ, 96, .inl zf)), (l4, .inl (cI, 96, .inl kf)), (l5, .inl (cI, 6, .inl cf)), (bk, .inr (5, [.ref br, .int 0]))]) (xrS (n := 1) (As := [.int (nI a)]) (rest := []) hd hK hP hD (c_X6_isOpen l D cI cJ cZ cR _ (nI a) ) (gS t_341 mS_X6_isOpen) hS_X6_isOpen ⟨(Nat.le_of_ble_eq_true rfl), (Nat.le_of_ble_eq_true rfl)⟩ [] rfl rfl rfl hl.1 rfl (Nat.le_of_ble_eq_true rfl) dX6_light_1 ⟨(Nat.le_of_ble_eq_true rfl), (Nat.le_of_ble_eq_true rfl)⟩) hP hD hS hA [] [0, 1, 2, 3, 4, 5, 6, 7] rfl rfl rfl (by decide) (fun r_1 u_2 H locs hw_3 hP hD hS => ?_)
  have hw_4 : r_1 = (if (nI a) < 0 then 0 else if 3 ≤ (nI a) then 0 else 1) := hw_3
  subst hw_4
  have hP : va_P D vwCl [(h0, .inr (6, [.ref pg, .ref bk, .ref fg, .ref og, .ref lg, .int 0, .int 1, .int 0, .int 0, .int 0])), (lg, .inr (1, [.ref l1, .ref l2, .ref l3, .ref l4, .ref l5])), (l1, .inl (cJ, 96, .inr (.inl ff))), (l2, .inl (cI, 96, .inl gf)), (l3, .inl (cZ, 96, .inl zf)), (l4, .inl (cI, 96, .inl kf)), (l5, .inl (cI, 6, .inl cf)), (bk, .inr (5, [.ref br, .int 0]))] H := hP
  have hD : va_D A [(h0, .inr (6, [.ref pg, .ref bk, .ref fg, .ref og, .ref lg, .int 0, .int 1, .int 0, .int 0, .int 0])), (lg, .inr (1, [.ref l1, .ref l2, .ref l3, .ref l4, .ref l5])), (l1, .inl (cJ, 96, .inr (.inl ff))), (l2, .inl (cI, 96, .inl gf)), (l3, .inl (cZ, 96, .inl zf)), (l4, .inl (cI, 96, .inl kf)), (l5, .inl (cI, 6, .inl cf)), (bk, .inr (5, [.ref br, .int 0]))] := hD
  refine lv_nmi (show _ = (1 : Int32) from opn_ok ha) ?_
  refine lv_if_ne (tgt := 11) hx hb dX6_light_4 (by decide) (fun c_5 => ?_) (fun c_5 => ?_)
  rotate_left
  · exact absurd c_5 (by decide)
  refine lv_iload_n hx hb dX6_light_11 rfl (lv_at hl 2 rfl) ?_
  refine lv_if_lt (tgt := 30) hx hb dX6_light_12 (by decide) (fun c_6 => ?_) (fun c_6 => ?_)
  · exact absurd c_6 (nI_nlt (a := b) (b := 0) (by omega) (by omega))
  refine lv_iload_n hx hb dX6_light_15 rfl (lv_at hl 2 rfl) ?_
  refine lv_bipush (v := 16) hx hb dX6_light_16 (by decide) ?_
  refine lv_icmp_ge (tgt := 30) hx hb dX6_light_18 (by decide) (fun c_7 => ?_) (fun c_7 => ?_)
  · exact absurd c_7 (nI_ge (a := b) (b := 16) (by omega) (by omega))
  refine lv_iload_n hx hb dX6_light_21 rfl (lv_at hl 3 rfl) ?_
  refine lv_if_lt (tgt := 30) hx hb dX6_light_22 (by decide) (fun c_8 => ?_) (fun c_8 => ?_)
  · exact absurd c_8 (by decide)
  refine lv_iload_n hx hb dX6_light_25 rfl (lv_at hl 3 rfl) ?_
  refine lv_iconst (v := 1) hx hb dX6_light_26 (by decide) ?_
  refine lv_icmp_le (tgt := 34) hx hb dX6_light_27 (by decide) (fun c_9 => ?_) (fun c_9 => ?_)
  rotate_left
  · exact absurd c_9 (by decide)
  refine lv_aload_n hx hb dX6_light_34 rfl (lv_at hl 0 rfl) ?_
  refine xc_v (wc := [(h0, .inr (6, [.ref pg, .ref bk, .ref fg, .ref og, .ref lg, .int 0, .int 1, .int 0, .int 0, .int 0])), (lg, .inr (1, [.ref l1, .ref l2, .ref l3, .ref l4, .ref l5])), (l1, .inl (cJ, 96, .inr (.inl ff))), (l2, .inl (cI, 96, .inl gf)), (l3, .inl (cZ, 96, .inl zf)), (l4, .inl (cI, 96, .inl kf)), (l5, .inl (cI, 6, .inl cf)), (bk, .inr (5, [.ref br, .int 0]))]) (wr := []) (xrV (n := 0) (As := []) (rest := []) (ci := 6) (q0 := 0) hd hK hP hD (c_bring_1 l D cI cJ cZ cR _ h0 pg bk fg og lg br l1 l2 l3 l4 l5 ff gf zf kf cf ) (gV t_450 mV_X6_bringLights) hV_X6_bringLights ⟨(Nat.le_of_ble_eq_true rfl), (Nat.le_of_ble_eq_true rfl)⟩ rfl rfl [0, 1, 2, 3, 4, 5, 6, 7] rfl rfl rfl hl.1 rfl (Nat.le_of_ble_eq_true rfl) dX6_light_35 ⟨(Nat.le_of_ble_eq_true rfl), (Nat.le_of_ble_eq_true rfl)⟩) hP hD hS hA [0, 1, 2, 3, 4, 5, 6, 7] [] rfl rfl rfl (by decide) (fun u_11 H locs hw_12 hP hD hS => ?_)
  have hP : va_P D vwCl [(h0, .inr (6, [.ref pg, .ref bk, .ref fg, .ref og, .ref lg, .int 0, .int 1, .int 0, .int 0, .int 0])), (lg, .inr (1, [.ref l1, .ref l2, .ref l3, .ref l4, .ref l5])), (l1, .inl (cJ, 96, .inr (.inl ff))), (l2, .inl (cI, 96, .inl gf)), (l3, .inl (cZ, 96, .inl zf)), (l4, .inl (cI, 96, .inl kf)), (l5, .inl (cI, 6, .inl cf)), (bk, .inr (5, [.ref br, .int 0]))] H := hP
  have hD : va_D A [(h0, .inr (6, [.ref pg, .ref bk, .ref fg, .ref og, .ref lg, .int 0, .int 1, .int 0, .int 0, .int 0])), (lg, .inr (1, [.ref l1, .ref l2, .ref l3, .ref l4, .ref l5])), (l1, .inl (cJ, 96, .inr (.inl ff))), (l2, .inl (cI, 96, .inl gf)), (l3, .inl (cZ, 96, .inl zf)), (l4, .inl (cI, 96, .inl kf)), (l5, .inl (cI, 6, .inl cf)), (bk, .inr (5, [.ref br, .int 0]))] := hD
  refine lv_iload_n hx hb dX6_light_38 rfl (lv_at hl 3 rfl) ?_
  refine lv_if_ne (tgt := 54) hx hb dX6_light_39 (by decide) (fun c_13 => ?_) (fun c_13 => ?_)
  rotate_left
  · exact absurd c_13 (by decide)
  refine lv_aload_n hx hb dX6_light_54 rfl (lv_at hl 0 rfl) ?_
  refine va_get (D := D) (ci := 6) (v := .ref lg) (C := RX6) (T := TX6) (N := 10) hx hb hts iT_X6 hown hK1 hP 0 rfl rfl 4 (by decide) (hts _ t_158) (fun _ h9 => h9) rfl dX6_light_55 ?_
  refine lv_iload_n hx hb dX6_light_58 rfl (lv_at hl 1 rfl) ?_
  refine lv_iload_n hx hb dX6_light_59 rfl (lv_at hl 2 rfl) ?_
  refine xc_i (wc := [(lg, .inr (1, [.ref l1, .ref l2, .ref l3, .ref l4, .ref l5])), (l1, .inl (cJ, 96, .inr (.inl ff))), (l2, .inl (cI, 96, .inl gf)), (l3, .inl (cZ, 96, .inl zf)), (l4, .inl (cI, 96, .inl kf)), (l5, .inl (cI, 6, .inl cf))]) (wr := [(h0, .inr (6, [.ref pg, .ref bk, .ref fg, .ref og, .ref lg, .int 0, .int 1, .int 0, .int 0, .int 0])), (bk, .inr (5, [.ref br, .int 0]))]) (xrV (n := 2) (As := [.int (nI a), .int (nI b)]) (rest := []) (ci := 1) (q0 := 1) hd hK hP hD (c_X1_firstTo l D cI cJ cZ cR _ lg l1 l2 l3 l4 l5 a b ff gf zf kf cf ha hb0 (hLz.2 _ (by omega))) (gV t_520 mV_X1_firstTo) hV_X1_firstTo ⟨(Nat.le_of_ble_eq_true rfl), (Nat.le_of_ble_eq_true rfl)⟩ rfl rfl [1, 2, 3, 4, 5, 6] rfl rfl rfl hl.1 rfl (Nat.le_of_ble_eq_true rfl) dX6_light_60 ⟨(Nat.le_of_ble_eq_true rfl), (Nat.le_of_ble_eq_true rfl)⟩) hP hD hS hA [1, 2, 3, 4, 5, 6] [0, 7] rfl rfl rfl (by decide) (fun r_14 u_15 H locs hw_16 hP hD hS => ?_)
  have hw_17 : r_14 = (-1) := hw_16
  subst hw_17
  have hP : va_P D vwCl [(h0, .inr (6, [.ref pg, .ref bk, .ref fg, .ref og, .ref lg, .int 0, .int 1, .int 0, .int 0, .int 0])), (bk, .inr (5, [.ref br, .int 0])), (lg, .inr (1, [.ref l1, .ref l2, .ref l3, .ref l4, .ref l5])), (l1, .inl (cJ, 96, .inr (.inl ff))), (l2, .inl (cI, 96, .inl gf)), (l3, .inl (cZ, 96, .inl zf)), (l4, .inl (cI, 96, .inl kf)), (l5, .inl (cI, 6, .inl cf))] H := hP
  have hD : va_D A [(h0, .inr (6, [.ref pg, .ref bk, .ref fg, .ref og, .ref lg, .int 0, .int 1, .int 0, .int 0, .int 0])), (bk, .inr (5, [.ref br, .int 0])), (lg, .inr (1, [.ref l1, .ref l2, .ref l3, .ref l4, .ref l5])), (l1, .inl (cJ, 96, .inr (.inl ff))), (l2, .inl (cI, 96, .inl gf)), (l3, .inl (cZ, 96, .inl zf)), (l4, .inl (cI, 96, .inl kf)), (l5, .inl (cI, 6, .inl cf))] := hD
  exact hret _ _ _ _ _ _ (-1) () dX6_light_63 rfl hS (Nat.le_of_ble_eq_true rfl) (Nat.le_of_ble_eq_true rfl) rfl (hP.sub [0, 2, 3, 4, 5, 6, 7, 1] rfl) (hD.sub [0, 2, 3, 4, 5, 6, 7, 1] rfl rfl)
set_option maxHeartbeats 4000000 in
set_option maxRecDepth 100000 in
theorem c_kinds_bad (sz : Nat) (h0 : Nat) (pg : Nat) (bk : Nat) (fg : Nat) (og : Nat) (lg : Nat) (p0 : Int32) (hp : p0 < 0 ∨ 3 ≤ p0) : CTi l D cI cJ cZ cR yX6_kinds cX6_kinds 4 (some .int) 1 20 0 0 sz [.ref h0, .int p0] [(h0, .inr (6, [.ref pg, .ref bk, .ref fg, .ref og, .ref lg, .int 0, .int 0, .int 0, .int 0, .int 0]))] (fun (r : Int32) (u : Unit) => (r = (-1001))) (fun (u : Unit) => [(h0, .inr (6, [.ref pg, .ref bk, .ref fg, .ref og, .ref lg, .int 0, .int 0, .int 0, .int 0, .int 0]))]) := by
  refine CTi.of (ty := .int) (by decide) (Nat.le_of_ble_eq_true rfl) rfl ?_
  intro p e s m below meth c A Q ls hd hin hK hsz hP hD hA hS hl hret
  obtain ⟨hx, hb, hml, hown, hts⟩ := id hd
  have hK1 := hK.1
  have hown : s.vm.findClass RX6 = some m.cls := hown
  have hl : lv_has ls 4 [(0, .ref h0), (1, .int p0)] := hl
  refine lv_iload_n hx hb dX6_kinds_0 rfl (lv_at hl 1 rfl) ?_
  refine xc_i (wc := []) (wr := [(h0, .inr (6, [.ref pg, .ref bk, .ref fg, .ref og, .ref lg, .int 0, .int 0, .int 0, .int 0, .int 0]))]) (xrS (n := 1) (As := [.int p0]) (rest := []) hd hK hP hD (c_X6_isOpen l D cI cJ cZ cR _ p0 ) (gS t_341 mS_X6_isOpen) hS_X6_isOpen ⟨(Nat.le_of_ble_eq_true rfl), (Nat.le_of_ble_eq_true rfl)⟩ [] rfl rfl rfl hl.1 rfl (Nat.le_of_ble_eq_true rfl) dX6_kinds_1 ⟨(Nat.le_of_ble_eq_true rfl), (Nat.le_of_ble_eq_true rfl)⟩) hP hD hS hA [] [0] rfl rfl rfl (by decide) (fun r_1 u_2 H locs hw_3 hP hD hS => ?_)
  have hw_4 : r_1 = (if p0 < 0 then 0 else if 3 ≤ p0 then 0 else 1) := hw_3
  subst hw_4
  have hP : va_P D vwCl [(h0, .inr (6, [.ref pg, .ref bk, .ref fg, .ref og, .ref lg, .int 0, .int 0, .int 0, .int 0, .int 0]))] H := hP
  have hD : va_D A [(h0, .inr (6, [.ref pg, .ref bk, .ref fg, .ref og, .ref lg, .int 0, .int 0, .int 0, .int 0, .int 0]))] := hD
  refine lv_nmi (show _ = (0 : Int32) from opn_bad hp) ?_
  refine lv_if_ne (tgt := 11) hx hb dX6_kinds_4 (by decide) (fun c_5 => ?_) (fun c_5 => ?_)
  · exact absurd c_5 (by decide)
  refine lv_sipush (v := -1001) hx hb dX6_kinds_7 (by decide) ?_
  exact hret _ _ _ _ _ _ (-1001) () dX6_kinds_10 rfl hS (Nat.le_of_ble_eq_true rfl) (Nat.le_of_ble_eq_true rfl) rfl (hP.sub [0] rfl) (hD.sub [0] rfl rfl)
set_option maxHeartbeats 4000000 in
set_option maxRecDepth 100000 in
theorem c_light_bad (sz : Nat) (h0 : Nat) (pg : Nat) (bk : Nat) (fg : Nat) (og : Nat) (lg : Nat) (p0 : Int32) (p1 : Int32) (p2 : Int32) (hp : p0 < 0 ∨ 3 ≤ p0) : CTi l D cI cJ cZ cR yX6_light cX6_light 4 (some .int) 1 20 0 0 sz [.ref h0, .int p0, .int p1, .int p2] [(h0, .inr (6, [.ref pg, .ref bk, .ref fg, .ref og, .ref lg, .int 0, .int 0, .int 0, .int 0, .int 0]))] (fun (r : Int32) (u : Unit) => (r = (-1001))) (fun (u : Unit) => [(h0, .inr (6, [.ref pg, .ref bk, .ref fg, .ref og, .ref lg, .int 0, .int 0, .int 0, .int 0, .int 0]))]) := by
  refine CTi.of (ty := .int) (by decide) (Nat.le_of_ble_eq_true rfl) rfl ?_
  intro p e s m below meth c A Q ls hd hin hK hsz hP hD hA hS hl hret
  obtain ⟨hx, hb, hml, hown, hts⟩ := id hd
  have hK1 := hK.1
  have hown : s.vm.findClass RX6 = some m.cls := hown
  have hl : lv_has ls 4 [(0, .ref h0), (1, .int p0), (2, .int p1), (3, .int p2)] := hl
  refine lv_iload_n hx hb dX6_light_0 rfl (lv_at hl 1 rfl) ?_
  refine xc_i (wc := []) (wr := [(h0, .inr (6, [.ref pg, .ref bk, .ref fg, .ref og, .ref lg, .int 0, .int 0, .int 0, .int 0, .int 0]))]) (xrS (n := 1) (As := [.int p0]) (rest := []) hd hK hP hD (c_X6_isOpen l D cI cJ cZ cR _ p0 ) (gS t_341 mS_X6_isOpen) hS_X6_isOpen ⟨(Nat.le_of_ble_eq_true rfl), (Nat.le_of_ble_eq_true rfl)⟩ [] rfl rfl rfl hl.1 rfl (Nat.le_of_ble_eq_true rfl) dX6_light_1 ⟨(Nat.le_of_ble_eq_true rfl), (Nat.le_of_ble_eq_true rfl)⟩) hP hD hS hA [] [0] rfl rfl rfl (by decide) (fun r_1 u_2 H locs hw_3 hP hD hS => ?_)
  have hw_4 : r_1 = (if p0 < 0 then 0 else if 3 ≤ p0 then 0 else 1) := hw_3
  subst hw_4
  have hP : va_P D vwCl [(h0, .inr (6, [.ref pg, .ref bk, .ref fg, .ref og, .ref lg, .int 0, .int 0, .int 0, .int 0, .int 0]))] H := hP
  have hD : va_D A [(h0, .inr (6, [.ref pg, .ref bk, .ref fg, .ref og, .ref lg, .int 0, .int 0, .int 0, .int 0, .int 0]))] := hD
  refine lv_nmi (show _ = (0 : Int32) from opn_bad hp) ?_
  refine lv_if_ne (tgt := 11) hx hb dX6_light_4 (by decide) (fun c_5 => ?_) (fun c_5 => ?_)
  · exact absurd c_5 (by decide)
  refine lv_sipush (v := -1001) hx hb dX6_light_7 (by decide) ?_
  exact hret _ _ _ _ _ _ (-1001) () dX6_light_10 rfl hS (Nat.le_of_ble_eq_true rfl) (Nat.le_of_ble_eq_true rfl) rfl (hP.sub [0] rfl) (hD.sub [0] rfl rfl)
set_option maxHeartbeats 4000000 in
set_option maxRecDepth 100000 in
theorem c_light_out (sz : Nat) (h0 : Nat) (pg : Nat) (bk : Nat) (fg : Nat) (og : Nat) (lg : Nat) (a : Nat) (p1 : Int32) (p2 : Int32) (ha : a < 3) (hq : (p1 < 0 ∨ 16 ≤ p1) ∨ (p2 < 0 ∨ ¬ p2 ≤ 1)) : CTi l D cI cJ cZ cR yX6_light cX6_light 4 (some .int) 1 20 0 0 sz [.ref h0, .int (nI a), .int p1, .int p2] [(h0, .inr (6, [.ref pg, .ref bk, .ref fg, .ref og, .ref lg, .int 0, .int 0, .int 0, .int 0, .int 0]))] (fun (r : Int32) (u : Unit) => (r = (-1002))) (fun (u : Unit) => [(h0, .inr (6, [.ref pg, .ref bk, .ref fg, .ref og, .ref lg, .int 0, .int 0, .int 0, .int 0, .int 0]))]) := by
  refine CTi.of (ty := .int) (by decide) (Nat.le_of_ble_eq_true rfl) rfl ?_
  intro p e s m below meth c A Q ls hd hin hK hsz hP hD hA hS hl hret
  obtain ⟨hx, hb, hml, hown, hts⟩ := id hd
  have hK1 := hK.1
  have hown : s.vm.findClass RX6 = some m.cls := hown
  have hl : lv_has ls 4 [(0, .ref h0), (1, .int (nI a)), (2, .int p1), (3, .int p2)] := hl
  refine lv_iload_n hx hb dX6_light_0 rfl (lv_at hl 1 rfl) ?_
  refine xc_i (wc := []) (wr := [(h0, .inr (6, [.ref pg, .ref bk, .ref fg, .ref og, .ref lg, .int 0, .int 0, .int 0, .int 0, .int 0]))]) (xrS (n := 1) (As := [.int (nI a)]) (rest := []) hd hK hP hD (c_X6_isOpen l D cI cJ cZ cR _ (nI a) ) (gS t_341 mS_X6_isOpen) hS_X6_isOpen ⟨(Nat.le_of_ble_eq_true rfl), (Nat.le_of_ble_eq_true rfl)⟩ [] rfl rfl rfl hl.1 rfl (Nat.le_of_ble_eq_true rfl) dX6_light_1 ⟨(Nat.le_of_ble_eq_true rfl), (Nat.le_of_ble_eq_true rfl)⟩) hP hD hS hA [] [0] rfl rfl rfl (by decide) (fun r_1 u_2 H locs hw_3 hP hD hS => ?_)
  have hw_4 : r_1 = (if (nI a) < 0 then 0 else if 3 ≤ (nI a) then 0 else 1) := hw_3
  subst hw_4
  have hP : va_P D vwCl [(h0, .inr (6, [.ref pg, .ref bk, .ref fg, .ref og, .ref lg, .int 0, .int 0, .int 0, .int 0, .int 0]))] H := hP
  have hD : va_D A [(h0, .inr (6, [.ref pg, .ref bk, .ref fg, .ref og, .ref lg, .int 0, .int 0, .int 0, .int 0, .int 0]))] := hD
  refine lv_nmi (show _ = (1 : Int32) from opn_ok ha) ?_
  refine lv_if_ne (tgt := 11) hx hb dX6_light_4 (by decide) (fun c_5 => ?_) (fun c_5 => ?_)
  rotate_left
  · exact absurd c_5 (by decide)
  refine lv_iload_n hx hb dX6_light_11 rfl (lv_at hl 2 rfl) ?_
  refine lv_if_lt (tgt := 30) hx hb dX6_light_12 (by decide) (fun c_6 => ?_) (fun c_6 => ?_)
  · skip
    refine lv_sipush (v := -1002) hx hb dX6_light_30 (by decide) ?_
    exact hret _ _ _ _ _ _ (-1002) () dX6_light_33 rfl hS (Nat.le_of_ble_eq_true rfl) (Nat.le_of_ble_eq_true rfl) rfl (hP.sub [0] rfl) (hD.sub [0] rfl rfl)
  · skip
    refine lv_iload_n hx hb dX6_light_15 rfl (lv_at hl 2 rfl) ?_
    refine lv_bipush (v := 16) hx hb dX6_light_16 (by decide) ?_
    refine lv_icmp_ge (tgt := 30) hx hb dX6_light_18 (by decide) (fun c_7 => ?_) (fun c_7 => ?_)
    · skip
      refine lv_sipush (v := -1002) hx hb dX6_light_30 (by decide) ?_
      exact hret _ _ _ _ _ _ (-1002) () dX6_light_33 rfl hS (Nat.le_of_ble_eq_true rfl) (Nat.le_of_ble_eq_true rfl) rfl (hP.sub [0] rfl) (hD.sub [0] rfl rfl)
    · skip
      refine lv_iload_n hx hb dX6_light_21 rfl (lv_at hl 3 rfl) ?_
      refine lv_if_lt (tgt := 30) hx hb dX6_light_22 (by decide) (fun c_8 => ?_) (fun c_8 => ?_)
      · skip
        refine lv_sipush (v := -1002) hx hb dX6_light_30 (by decide) ?_
        exact hret _ _ _ _ _ _ (-1002) () dX6_light_33 rfl hS (Nat.le_of_ble_eq_true rfl) (Nat.le_of_ble_eq_true rfl) rfl (hP.sub [0] rfl) (hD.sub [0] rfl rfl)
      · skip
        refine lv_iload_n hx hb dX6_light_25 rfl (lv_at hl 3 rfl) ?_
        refine lv_iconst (v := 1) hx hb dX6_light_26 (by decide) ?_
        refine lv_icmp_le (tgt := 34) hx hb dX6_light_27 (by decide) (fun c_9 => ?_) (fun c_9 => ?_)
        · exact absurd hq (by simp only [not_or]; exact ⟨⟨by assumption, by assumption⟩, by assumption, fun q => q c_9⟩)
        refine lv_sipush (v := -1002) hx hb dX6_light_30 (by decide) ?_
        exact hret _ _ _ _ _ _ (-1002) () dX6_light_33 rfl hS (Nat.le_of_ble_eq_true rfl) (Nat.le_of_ble_eq_true rfl) rfl (hP.sub [0] rfl) (hD.sub [0] rfl rfl)
set_option maxHeartbeats 4000000 in
set_option maxRecDepth 100000 in
theorem c_X0_openEdges (sz : Nat) (fg : Nat) (f1 : Nat) (f2 : Nat) (f3 : Nat)  : CTi l D cI cJ cZ cR yX0_openEdges cX0_openEdges 3 (some .int) 0 0 0 0 sz [.ref fg] [(fg, .inr (0, [.ref f1, .ref f2, .ref f3, .int 0, .int 0]))] (fun (r : Int32) (u : Unit) => (r = 0)) (fun (u : Unit) => [(fg, .inr (0, [.ref f1, .ref f2, .ref f3, .int 0, .int 0]))]) := by
  refine CTi.of (ty := .int) (by decide) (Nat.le_of_ble_eq_true rfl) rfl ?_
  intro p e s m below meth c A Q ls hd hin hK hsz hP hD hA hS hl hret
  obtain ⟨hx, hb, hml, hown, hts⟩ := id hd
  have hK1 := hK.1
  have hown : s.vm.findClass RX0 = some m.cls := hown
  have hl : lv_has ls 3 [(0, .ref fg)] := hl
  refine lv_iconst (v := 0) hx hb dX0_openEdges_0 (by decide) ?_
  refine lv_istore_n (lv' := [(1, .int 0), (0, .ref fg)]) hx hb dX0_openEdges_1 rfl hl (by decide) rfl (fun ls hl => ?_)
  refine lv_iconst (v := 0) hx hb dX0_openEdges_2 (by decide) ?_
  refine lv_istore_n (lv' := [(2, .int 0), (1, .int 0), (0, .ref fg)]) hx hb dX0_openEdges_3 rfl hl (by decide) rfl (fun ls hl => ?_)
  refine lv_iload_n hx hb dX0_openEdges_4 rfl (lv_at hl 0 rfl) ?_
  refine lv_aload_n hx hb dX0_openEdges_5 rfl (lv_at hl 2 rfl) ?_
  refine va_get (D := D) (ci := 0) (v := .int 0) (C := RX0) (T := TX0) (N := 5) hx hb hts iT_X0 hown hK1 hP 0 rfl rfl 3 (by decide) (hts _ t_62) (fun _ h9 => h9) rfl dX0_openEdges_6 ?_
  refine lv_icmp_ge (tgt := 38) hx hb dX0_openEdges_9 (by decide) (fun c_1 => ?_) (fun c_1 => ?_)
  rotate_left
  · exact absurd c_1 (by decide)
  refine lv_iload_n hx hb dX0_openEdges_38 rfl (lv_at hl 1 rfl) ?_
  exact hret _ _ _ _ _ _ 0 () dX0_openEdges_39 rfl hS (Nat.le_of_ble_eq_true rfl) (Nat.le_of_ble_eq_true rfl) rfl (hP.sub [0] rfl) (hD.sub [0] rfl rfl)
set_option maxHeartbeats 4000000 in
set_option maxRecDepth 100000 in
theorem c_X0_isDone (sz : Nat) (fg : Nat) (f1 : Nat) (f2 : Nat) (f3 : Nat)  : CTi l D cI cJ cZ cR yX0_isDone cX0_isDone 1 (some .boolean) 0 0 0 0 sz [.ref fg] [(fg, .inr (0, [.ref f1, .ref f2, .ref f3, .int 0, .int 0]))] (fun (r : Int32) (u : Unit) => (r = 0)) (fun (u : Unit) => [(fg, .inr (0, [.ref f1, .ref f2, .ref f3, .int 0, .int 0]))]) := by
  refine CTi.of (ty := .boolean) (by decide) (Nat.le_of_ble_eq_true rfl) rfl ?_
  intro p e s m below meth c A Q ls hd hin hK hsz hP hD hA hS hl hret
  obtain ⟨hx, hb, hml, hown, hts⟩ := id hd
  have hK1 := hK.1
  have hown : s.vm.findClass RX0 = some m.cls := hown
  have hl : lv_has ls 1 [(0, .ref fg)] := hl
  refine lv_aload_n hx hb dX0_isDone_0 rfl (lv_at hl 0 rfl) ?_
  refine va_get (D := D) (ci := 0) (v := .int 0) (C := RX0) (T := TX0) (N := 5) hx hb hts iT_X0 hown hK1 hP 0 rfl rfl 3 (by decide) (hts _ t_62) (fun _ h9 => h9) rfl dX0_isDone_1 ?_
  refine lv_if_le (tgt := 18) hx hb dX0_isDone_4 (by decide) (fun c_1 => ?_) (fun c_1 => ?_)
  rotate_left
  · exact absurd c_1 (by decide)
  refine lv_iconst (v := 0) hx hb dX0_isDone_18 (by decide) ?_
  exact hret _ _ _ _ _ _ 0 () dX0_isDone_19 rfl hS (Nat.le_of_ble_eq_true rfl) (Nat.le_of_ble_eq_true rfl) rfl (hP.sub [0] rfl) (hD.sub [0] rfl rfl)
set_option maxHeartbeats 4000000 in
set_option maxRecDepth 100000 in
theorem c_X6_kind (sz : Nat) (h0 : Nat) (pg : Nat) (bk : Nat) (fg : Nat) (og : Nat) (lg : Nat) (f1 : Nat) (f2 : Nat) (f3 : Nat) (lsv : Int32)  : CTi l D cI cJ cZ cR yX6_kind cX6_kind 1 (some .int) 1 20 0 0 sz [.ref h0] [(h0, .inr (6, [.ref pg, .ref bk, .ref fg, .ref og, .ref lg, .int 0, .int lsv, .int 0, .int 0, .int 0])), (fg, .inr (0, [.ref f1, .ref f2, .ref f3, .int 0, .int 0]))] (fun (r : Int32) (u : Unit) => (r = (-1003))) (fun (u : Unit) => [(h0, .inr (6, [.ref pg, .ref bk, .ref fg, .ref og, .ref lg, .int 0, .int lsv, .int 0, .int 0, .int 0])), (fg, .inr (0, [.ref f1, .ref f2, .ref f3, .int 0, .int 0]))]) := by
  refine CTi.of (ty := .int) (by decide) (Nat.le_of_ble_eq_true rfl) rfl ?_
  intro p e s m below meth c A Q ls hd hin hK hsz hP hD hA hS hl hret
  obtain ⟨hx, hb, hml, hown, hts⟩ := id hd
  have hK1 := hK.1
  have hown : s.vm.findClass RX6 = some m.cls := hown
  have hl : lv_has ls 1 [(0, .ref h0)] := hl
  refine lv_aload_n hx hb dX6_kind_0 rfl (lv_at hl 0 rfl) ?_
  refine va_get (D := D) (ci := 6) (v := .ref fg) (C := RX6) (T := TX6) (N := 10) hx hb hts iT_X6 hown hK1 hP 0 rfl rfl 2 (by decide) (hts _ t_156) (fun _ h9 => h9) rfl dX6_kind_1 ?_
  refine xc_i (wc := [(fg, .inr (0, [.ref f1, .ref f2, .ref f3, .int 0, .int 0]))]) (wr := [(h0, .inr (6, [.ref pg, .ref bk, .ref fg, .ref og, .ref lg, .int 0, .int lsv, .int 0, .int 0, .int 0]))]) (xrV (n := 0) (As := []) (rest := []) (ci := 0) (q0 := 1) hd hK hP hD (c_X0_isDone l D cI cJ cZ cR _ fg f1 f2 f3 ) (gV t_365 mV_X0_isDone) hV_X0_isDone ⟨(Nat.le_of_ble_eq_true rfl), (Nat.le_of_ble_eq_true rfl)⟩ rfl rfl [1] rfl rfl rfl hl.1 rfl (Nat.le_of_ble_eq_true rfl) dX6_kind_4 ⟨(Nat.le_of_ble_eq_true rfl), (Nat.le_of_ble_eq_true rfl)⟩) hP hD hS hA [1] [0] rfl rfl rfl (by decide) (fun r_1 u_2 H locs hw_3 hP hD hS => ?_)
  have hw_4 : r_1 = 0 := hw_3
  subst hw_4
  have hP : va_P D vwCl [(h0, .inr (6, [.ref pg, .ref bk, .ref fg, .ref og, .ref lg, .int 0, .int lsv, .int 0, .int 0, .int 0])), (fg, .inr (0, [.ref f1, .ref f2, .ref f3, .int 0, .int 0]))] H := hP
  have hD : va_D A [(h0, .inr (6, [.ref pg, .ref bk, .ref fg, .ref og, .ref lg, .int 0, .int lsv, .int 0, .int 0, .int 0])), (fg, .inr (0, [.ref f1, .ref f2, .ref f3, .int 0, .int 0]))] := hD
  refine lv_if_eq (tgt := 20) hx hb dX6_kind_7 (by decide) (fun c_5 => ?_) (fun c_5 => ?_)
  rotate_left
  · exact absurd c_5 (by decide)
  refine lv_sipush (v := -1003) hx hb dX6_kind_20 (by decide) ?_
  exact hret _ _ _ _ _ _ (-1003) () dX6_kind_23 rfl hS (Nat.le_of_ble_eq_true rfl) (Nat.le_of_ble_eq_true rfl) rfl (hP.sub [0, 1] rfl) (hD.sub [0, 1] rfl rfl)
set_option maxHeartbeats 4000000 in
set_option maxRecDepth 100000 in
theorem c_X6_fewest (sz : Nat) (h0 : Nat) (pg : Nat) (bk : Nat) (fg : Nat) (og : Nat) (lg : Nat) (f1 : Nat) (f2 : Nat) (f3 : Nat) (lsv : Int32) (p0 : Int32)  : CTi l D cI cJ cZ cR yX6_fewest cX6_fewest 3 (some .int) 1 20 0 0 sz [.ref h0, .int p0] [(h0, .inr (6, [.ref pg, .ref bk, .ref fg, .ref og, .ref lg, .int 0, .int lsv, .int 0, .int 0, .int 0])), (fg, .inr (0, [.ref f1, .ref f2, .ref f3, .int 0, .int 0]))] (fun (r : Int32) (u : Unit) => (r = (if p0 < 0 then -1001 else if 3 ≤ p0 then -1001 else -1003))) (fun (u : Unit) => [(h0, .inr (6, [.ref pg, .ref bk, .ref fg, .ref og, .ref lg, .int 0, .int lsv, .int 0, .int 0, .int 0])), (fg, .inr (0, [.ref f1, .ref f2, .ref f3, .int 0, .int 0]))]) := by
  refine CTi.of (ty := .int) (by decide) (Nat.le_of_ble_eq_true rfl) rfl ?_
  intro p e s m below meth c A Q ls hd hin hK hsz hP hD hA hS hl hret
  obtain ⟨hx, hb, hml, hown, hts⟩ := id hd
  have hK1 := hK.1
  have hown : s.vm.findClass RX6 = some m.cls := hown
  have hl : lv_has ls 3 [(0, .ref h0), (1, .int p0)] := hl
  refine lv_iload_n hx hb dX6_fewest_0 rfl (lv_at hl 1 rfl) ?_
  refine xc_i (wc := []) (wr := [(h0, .inr (6, [.ref pg, .ref bk, .ref fg, .ref og, .ref lg, .int 0, .int lsv, .int 0, .int 0, .int 0])), (fg, .inr (0, [.ref f1, .ref f2, .ref f3, .int 0, .int 0]))]) (xrS (n := 1) (As := [.int p0]) (rest := []) hd hK hP hD (c_X6_isOpen l D cI cJ cZ cR _ p0 ) (gS t_341 mS_X6_isOpen) hS_X6_isOpen ⟨(Nat.le_of_ble_eq_true rfl), (Nat.le_of_ble_eq_true rfl)⟩ [] rfl rfl rfl hl.1 rfl (Nat.le_of_ble_eq_true rfl) dX6_fewest_1 ⟨(Nat.le_of_ble_eq_true rfl), (Nat.le_of_ble_eq_true rfl)⟩) hP hD hS hA [] [0, 1] rfl rfl rfl (by decide) (fun r_1 u_2 H locs hw_3 hP hD hS => ?_)
  have hw_4 : r_1 = (if p0 < 0 then 0 else if 3 ≤ p0 then 0 else 1) := hw_3
  subst hw_4
  have hP : va_P D vwCl [(h0, .inr (6, [.ref pg, .ref bk, .ref fg, .ref og, .ref lg, .int 0, .int lsv, .int 0, .int 0, .int 0])), (fg, .inr (0, [.ref f1, .ref f2, .ref f3, .int 0, .int 0]))] H := hP
  have hD : va_D A [(h0, .inr (6, [.ref pg, .ref bk, .ref fg, .ref og, .ref lg, .int 0, .int lsv, .int 0, .int 0, .int 0])), (fg, .inr (0, [.ref f1, .ref f2, .ref f3, .int 0, .int 0]))] := hD
  refine lv_if_ne (tgt := 11) hx hb dX6_fewest_4 (by decide) (fun c_5 => ?_) (fun c_5 => ?_)
  · skip
    refine lv_aload_n hx hb dX6_fewest_11 rfl (lv_at hl 0 rfl) ?_
    refine va_get (D := D) (ci := 6) (v := .ref fg) (C := RX6) (T := TX6) (N := 10) hx hb hts iT_X6 hown hK1 hP 0 rfl rfl 2 (by decide) (hts _ t_156) (fun _ h9 => h9) rfl dX6_fewest_12 ?_
    refine xc_i (wc := [(fg, .inr (0, [.ref f1, .ref f2, .ref f3, .int 0, .int 0]))]) (wr := [(h0, .inr (6, [.ref pg, .ref bk, .ref fg, .ref og, .ref lg, .int 0, .int lsv, .int 0, .int 0, .int 0]))]) (xrV (n := 0) (As := []) (rest := []) (ci := 0) (q0 := 1) hd hK hP hD (c_X0_isDone l D cI cJ cZ cR _ fg f1 f2 f3 ) (gV t_365 mV_X0_isDone) hV_X0_isDone ⟨(Nat.le_of_ble_eq_true rfl), (Nat.le_of_ble_eq_true rfl)⟩ rfl rfl [1] rfl rfl rfl hl.1 rfl (Nat.le_of_ble_eq_true rfl) dX6_fewest_15 ⟨(Nat.le_of_ble_eq_true rfl), (Nat.le_of_ble_eq_true rfl)⟩) hP hD hS hA [1] [0] rfl rfl rfl (by decide) (fun r_6 u_7 H locs hw_8 hP hD hS => ?_)
    have hw_9 : r_6 = 0 := hw_8
    subst hw_9
    have hP : va_P D vwCl [(h0, .inr (6, [.ref pg, .ref bk, .ref fg, .ref og, .ref lg, .int 0, .int lsv, .int 0, .int 0, .int 0])), (fg, .inr (0, [.ref f1, .ref f2, .ref f3, .int 0, .int 0]))] H := hP
    have hD : va_D A [(h0, .inr (6, [.ref pg, .ref bk, .ref fg, .ref og, .ref lg, .int 0, .int lsv, .int 0, .int 0, .int 0])), (fg, .inr (0, [.ref f1, .ref f2, .ref f3, .int 0, .int 0]))] := hD
    refine lv_if_eq (tgt := 43) hx hb dX6_fewest_18 (by decide) (fun c_10 => ?_) (fun c_10 => ?_)
    rotate_left
    · exact absurd c_10 (by decide)
    refine lv_sipush (v := -1003) hx hb dX6_fewest_43 (by decide) ?_
    exact hret _ _ _ _ _ _ (-1003) () dX6_fewest_46 rfl hS (Nat.le_of_ble_eq_true rfl) (Nat.le_of_ble_eq_true rfl) (opn_few2 c_5) (hP.sub [0, 1] rfl) (hD.sub [0, 1] rfl rfl)
  · skip
    refine lv_sipush (v := -1001) hx hb dX6_fewest_7 (by decide) ?_
    exact hret _ _ _ _ _ _ (-1001) () dX6_fewest_10 rfl hS (Nat.le_of_ble_eq_true rfl) (Nat.le_of_ble_eq_true rfl) (opn_few c_5) (hP.sub [0, 1] rfl) (hD.sub [0, 1] rfl rfl)
set_option maxHeartbeats 4000000 in
set_option maxRecDepth 100000 in
theorem c_X6_count (sz : Nat) (h0 : Nat) (pg : Nat) (bk : Nat) (fg : Nat) (og : Nat) (lg : Nat) (f1 : Nat) (f2 : Nat) (f3 : Nat) (pc : Nat) (br : Nat) (lsv : Int32) (p0 : Int32)  : CTi l D cI cJ cZ cR yX6_count cX6_count 2 (some .int) 1 22 0 0 sz [.ref h0, .int p0] [(h0, .inr (6, [.ref pg, .ref bk, .ref fg, .ref og, .ref lg, .int 0, .int lsv, .int 0, .int 0, .int 0])), (pg, .inr (3, [.ref pc, .int 0])), (bk, .inr (5, [.ref br, .int 0])), (fg, .inr (0, [.ref f1, .ref f2, .ref f3, .int 0, .int 0]))] (fun (r : Int32) (u : Unit) => (r = (cnt0 p0))) (fun (u : Unit) => [(h0, .inr (6, [.ref pg, .ref bk, .ref fg, .ref og, .ref lg, .int 0, .int lsv, .int 0, .int 0, .int 0])), (pg, .inr (3, [.ref pc, .int 0])), (bk, .inr (5, [.ref br, .int 0])), (fg, .inr (0, [.ref f1, .ref f2, .ref f3, .int 0, .int 0]))]) := by
  refine CTi.of (ty := .int) (by decide) (Nat.le_of_ble_eq_true rfl) rfl ?_
  intro p e s m below meth c A Q ls hd hin hK hsz hP hD hA hS hl hret
  obtain ⟨hx, hb, hml, hown, hts⟩ := id hd
  have hK1 := hK.1
  have hown : s.vm.findClass RX6 = some m.cls := hown
  have hl : lv_has ls 2 [(0, .ref h0), (1, .int p0)] := hl
  refine lv_iload_n hx hb dX6_count_0 rfl (lv_at hl 1 rfl) ?_
  rcases sw_7 p0 with c_1 | c_1 | c_1 | c_1 | c_1 | c_1 | c_1 | c_1 | c_1
  · refine lv_nmi c_1 ?_
    refine lv_tableIn (off := 47) (tgt := 48) hx hb dX6_count_1 (by decide) (by decide) (by decide) (by decide) ?_
    refine lv_aload_n hx hb dX6_count_48 rfl (lv_at hl 0 rfl) ?_
    refine va_get (D := D) (ci := 6) (v := .ref pg) (C := RX6) (T := TX6) (N := 10) hx hb hts iT_X6 hown hK1 hP 0 rfl rfl 0 (by decide) (hts _ t_154) (fun _ h9 => h9) rfl dX6_count_49 ?_
    refine va_get (D := D) (ci := 3) (v := .int 0) (C := RX3) (T := TX3) (N := 2) hx hb hts iT_X3 hown hK1 hP 1 rfl rfl 1 (by decide) (hts _ t_29) (fun _ h9 => h9) rfl dX6_count_52 ?_
    exact hret _ _ _ _ _ _ 0 () dX6_count_55 rfl hS (Nat.le_of_ble_eq_true rfl) (Nat.le_of_ble_eq_true rfl) (cnt0_in c_1 (by decide)) (hP.sub [0, 1, 2, 3] rfl) (hD.sub [0, 1, 2, 3] rfl rfl)
  · refine lv_nmi c_1 ?_
    refine lv_tableIn (off := 55) (tgt := 56) hx hb dX6_count_1 (by decide) (by decide) (by decide) (by decide) ?_
    refine lv_aload_n hx hb dX6_count_56 rfl (lv_at hl 0 rfl) ?_
    refine va_get (D := D) (ci := 6) (v := .ref bk) (C := RX6) (T := TX6) (N := 10) hx hb hts iT_X6 hown hK1 hP 0 rfl rfl 1 (by decide) (hts _ t_155) (fun _ h9 => h9) rfl dX6_count_57 ?_
    refine va_get (D := D) (ci := 5) (v := .int 0) (C := RX5) (T := TX5) (N := 2) hx hb hts iT_X5 hown hK1 hP 2 rfl rfl 1 (by decide) (hts _ t_107) (fun _ h9 => h9) rfl dX6_count_60 ?_
    exact hret _ _ _ _ _ _ 0 () dX6_count_63 rfl hS (Nat.le_of_ble_eq_true rfl) (Nat.le_of_ble_eq_true rfl) (cnt0_in c_1 (by decide)) (hP.sub [0, 1, 2, 3] rfl) (hD.sub [0, 1, 2, 3] rfl rfl)
  · refine lv_nmi c_1 ?_
    refine lv_tableIn (off := 63) (tgt := 64) hx hb dX6_count_1 (by decide) (by decide) (by decide) (by decide) ?_
    refine lv_aload_n hx hb dX6_count_64 rfl (lv_at hl 0 rfl) ?_
    refine va_get (D := D) (ci := 6) (v := .ref fg) (C := RX6) (T := TX6) (N := 10) hx hb hts iT_X6 hown hK1 hP 0 rfl rfl 2 (by decide) (hts _ t_156) (fun _ h9 => h9) rfl dX6_count_65 ?_
    refine va_get (D := D) (ci := 0) (v := .int 0) (C := RX0) (T := TX0) (N := 5) hx hb hts iT_X0 hown hK1 hP 3 rfl rfl 3 (by decide) (hts _ t_64) (fun _ h9 => h9) rfl dX6_count_68 ?_
    exact hret _ _ _ _ _ _ 0 () dX6_count_71 rfl hS (Nat.le_of_ble_eq_true rfl) (Nat.le_of_ble_eq_true rfl) (cnt0_in c_1 (by decide)) (hP.sub [0, 1, 2, 3] rfl) (hD.sub [0, 1, 2, 3] rfl rfl)
  · refine lv_nmi c_1 ?_
    refine lv_tableIn (off := 71) (tgt := 72) hx hb dX6_count_1 (by decide) (by decide) (by decide) (by decide) ?_
    refine lv_aload_n hx hb dX6_count_72 rfl (lv_at hl 0 rfl) ?_
    refine va_get (D := D) (ci := 6) (v := .ref fg) (C := RX6) (T := TX6) (N := 10) hx hb hts iT_X6 hown hK1 hP 0 rfl rfl 2 (by decide) (hts _ t_156) (fun _ h9 => h9) rfl dX6_count_73 ?_
    refine va_get (D := D) (ci := 0) (v := .int 0) (C := RX0) (T := TX0) (N := 5) hx hb hts iT_X0 hown hK1 hP 3 rfl rfl 4 (by decide) (hts _ t_67) (fun _ h9 => h9) rfl dX6_count_76 ?_
    exact hret _ _ _ _ _ _ 0 () dX6_count_79 rfl hS (Nat.le_of_ble_eq_true rfl) (Nat.le_of_ble_eq_true rfl) (cnt0_in c_1 (by decide)) (hP.sub [0, 1, 2, 3] rfl) (hD.sub [0, 1, 2, 3] rfl rfl)
  · refine lv_nmi c_1 ?_
    refine lv_tableIn (off := 79) (tgt := 80) hx hb dX6_count_1 (by decide) (by decide) (by decide) (by decide) ?_
    refine lv_aload_n hx hb dX6_count_80 rfl (lv_at hl 0 rfl) ?_
    refine va_get (D := D) (ci := 6) (v := .ref fg) (C := RX6) (T := TX6) (N := 10) hx hb hts iT_X6 hown hK1 hP 0 rfl rfl 2 (by decide) (hts _ t_156) (fun _ h9 => h9) rfl dX6_count_81 ?_
    refine xc_i (wc := [(fg, .inr (0, [.ref f1, .ref f2, .ref f3, .int 0, .int 0]))]) (wr := [(h0, .inr (6, [.ref pg, .ref bk, .ref fg, .ref og, .ref lg, .int 0, .int lsv, .int 0, .int 0, .int 0])), (pg, .inr (3, [.ref pc, .int 0])), (bk, .inr (5, [.ref br, .int 0]))]) (xrV (n := 0) (As := []) (rest := []) (ci := 0) (q0 := 3) hd hK hP hD (c_X0_openEdges l D cI cJ cZ cR _ fg f1 f2 f3 ) (gV t_528 mV_X0_openEdges) hV_X0_openEdges ⟨(Nat.le_of_ble_eq_true rfl), (Nat.le_of_ble_eq_true rfl)⟩ rfl rfl [3] rfl rfl rfl hl.1 rfl (Nat.le_of_ble_eq_true rfl) dX6_count_84 ⟨(Nat.le_of_ble_eq_true rfl), (Nat.le_of_ble_eq_true rfl)⟩) hP hD hS hA [3] [0, 1, 2] rfl rfl rfl (by decide) (fun r_2 u_3 H locs hw_4 hP hD hS => ?_)
    have hw_5 : r_2 = 0 := hw_4
    subst hw_5
    have hP : va_P D vwCl [(h0, .inr (6, [.ref pg, .ref bk, .ref fg, .ref og, .ref lg, .int 0, .int lsv, .int 0, .int 0, .int 0])), (pg, .inr (3, [.ref pc, .int 0])), (bk, .inr (5, [.ref br, .int 0])), (fg, .inr (0, [.ref f1, .ref f2, .ref f3, .int 0, .int 0]))] H := hP
    have hD : va_D A [(h0, .inr (6, [.ref pg, .ref bk, .ref fg, .ref og, .ref lg, .int 0, .int lsv, .int 0, .int 0, .int 0])), (pg, .inr (3, [.ref pc, .int 0])), (bk, .inr (5, [.ref br, .int 0])), (fg, .inr (0, [.ref f1, .ref f2, .ref f3, .int 0, .int 0]))] := hD
    exact hret _ _ _ _ _ _ 0 () dX6_count_87 rfl hS (Nat.le_of_ble_eq_true rfl) (Nat.le_of_ble_eq_true rfl) (cnt0_in c_1 (by decide)) (hP.sub [0, 1, 2, 3] rfl) (hD.sub [0, 1, 2, 3] rfl rfl)
  · refine lv_nmi c_1 ?_
    refine lv_tableIn (off := 87) (tgt := 88) hx hb dX6_count_1 (by decide) (by decide) (by decide) (by decide) ?_
    refine lv_aload_n hx hb dX6_count_88 rfl (lv_at hl 0 rfl) ?_
    refine va_get (D := D) (ci := 6) (v := .int 0) (C := RX6) (T := TX6) (N := 10) hx hb hts iT_X6 hown hK1 hP 0 rfl rfl 7 (by decide) (hts _ t_161) (fun _ h9 => h9) rfl dX6_count_89 ?_
    exact hret _ _ _ _ _ _ 0 () dX6_count_92 rfl hS (Nat.le_of_ble_eq_true rfl) (Nat.le_of_ble_eq_true rfl) (cnt0_in c_1 (by decide)) (hP.sub [0, 1, 2, 3] rfl) (hD.sub [0, 1, 2, 3] rfl rfl)
  · refine lv_nmi c_1 ?_
    refine lv_tableIn (off := 92) (tgt := 93) hx hb dX6_count_1 (by decide) (by decide) (by decide) (by decide) ?_
    refine lv_aload_n hx hb dX6_count_93 rfl (lv_at hl 0 rfl) ?_
    refine va_get (D := D) (ci := 6) (v := .int 0) (C := RX6) (T := TX6) (N := 10) hx hb hts iT_X6 hown hK1 hP 0 rfl rfl 8 (by decide) (hts _ t_162) (fun _ h9 => h9) rfl dX6_count_94 ?_
    exact hret _ _ _ _ _ _ 0 () dX6_count_97 rfl hS (Nat.le_of_ble_eq_true rfl) (Nat.le_of_ble_eq_true rfl) (cnt0_in c_1 (by decide)) (hP.sub [0, 1, 2, 3] rfl) (hD.sub [0, 1, 2, 3] rfl rfl)
  · refine lv_nmi c_1 ?_
    refine lv_tableIn (off := 97) (tgt := 98) hx hb dX6_count_1 (by decide) (by decide) (by decide) (by decide) ?_
    refine lv_aload_n hx hb dX6_count_98 rfl (lv_at hl 0 rfl) ?_
    refine va_get (D := D) (ci := 6) (v := .int 0) (C := RX6) (T := TX6) (N := 10) hx hb hts iT_X6 hown hK1 hP 0 rfl rfl 9 (by decide) (hts _ t_163) (fun _ h9 => h9) rfl dX6_count_99 ?_
    exact hret _ _ _ _ _ _ 0 () dX6_count_102 rfl hS (Nat.le_of_ble_eq_true rfl) (Nat.le_of_ble_eq_true rfl) (cnt0_in c_1 (by decide)) (hP.sub [0, 1, 2, 3] rfl) (hD.sub [0, 1, 2, 3] rfl rfl)
  · refine lv_tableOut (tgt := 103) hx hb dX6_count_1 c_1 (by decide) ?_
    refine lv_sipush (v := -1002) hx hb dX6_count_103 (by decide) ?_
    exact hret _ _ _ _ _ _ (-1002) () dX6_count_106 rfl hS (Nat.le_of_ble_eq_true rfl) (Nat.le_of_ble_eq_true rfl) (cnt0_out c_1) (hP.sub [0, 1, 2, 3] rfl) (hD.sub [0, 1, 2, 3] rfl rfl)
end
