theorem mS_J7_fill_d0a16 : Cond.static yJ7_fill_d0a16 ∈ gT ∧ Cond.initialized yJ7_fill_d0a16.cls ∈ gT ∧ Cond.code yJ7_fill_d0a16 cJ7_fill_d0a16 5 none ∈ gT := ⟨t_464, t_10, t_465⟩
theorem hS_J7_fill_d0a16 : yJ7_fill_d0a16.cls ≠ "java/lang/invoke/MethodHandle" ∧ yJ7_fill_d0a16.cls ≠ "java/lang/invoke/VarHandle" ∧ (parseMethodDescriptor yJ7_fill_d0a16.desc).map (fun d => d.parameters.length) = some 2 := by decide +kernel
theorem mS_J7_fill_53178 : Cond.static yJ7_fill_53178 ∈ gT ∧ Cond.initialized yJ7_fill_53178.cls ∈ gT ∧ Cond.code yJ7_fill_53178 cJ7_fill_53178 4 none ∈ gT := ⟨t_390, t_10, t_391⟩
theorem hS_J7_fill_53178 : yJ7_fill_53178.cls ≠ "java/lang/invoke/MethodHandle" ∧ yJ7_fill_53178.cls ≠ "java/lang/invoke/VarHandle" ∧ (parseMethodDescriptor yJ7_fill_53178.desc).map (fun d => d.parameters.length) = some 2 := by decide +kernel
theorem mV_X1_forget : Cond.instanceMethod yX1_forget ∈ gT ∧ Cond.selects RX1 yX1_forget yX1_forget ∈ gT ∧ Cond.initialized RX1 ∈ gT ∧ Cond.code yX1_forget cX1_forget 2 none ∈ gT := ⟨t_460, ts_19, t_7, t_461⟩
theorem hV_X1_forget : yX1_forget.cls = RX1 ∧ yX1_forget.cls ≠ "java/lang/invoke/MethodHandle" ∧ yX1_forget.cls ≠ "java/lang/invoke/VarHandle" ∧ (parseMethodDescriptor yX1_forget.desc).map (fun d => d.parameters.length) = some 0 := by decide +kernel
theorem mV_X1_offer : Cond.instanceMethod yX1_offer ∈ gT ∧ Cond.selects RX1 yX1_offer yX1_offer ∈ gT ∧ Cond.initialized RX1 ∈ gT ∧ Cond.code yX1_offer cX1_offer 7 none ∈ gT := ⟨t_469, ts_20, t_7, t_470⟩
theorem hV_X1_offer : yX1_offer.cls = RX1 ∧ yX1_offer.cls ≠ "java/lang/invoke/MethodHandle" ∧ yX1_offer.cls ≠ "java/lang/invoke/VarHandle" ∧ (parseMethodDescriptor yX1_offer.desc).map (fun d => d.parameters.length) = some 4 := by decide +kernel
theorem mV_X1_nearest : Cond.instanceMethod yX1_nearest ∈ gT ∧ Cond.selects RX1 yX1_nearest yX1_nearest ∈ gT ∧ Cond.initialized RX1 ∈ gT ∧ Cond.code yX1_nearest cX1_nearest 5 (some .int) ∈ gT := ⟨t_473, ts_21, t_7, t_474⟩
theorem hV_X1_nearest : yX1_nearest.cls = RX1 ∧ yX1_nearest.cls ≠ "java/lang/invoke/MethodHandle" ∧ yX1_nearest.cls ≠ "java/lang/invoke/VarHandle" ∧ (parseMethodDescriptor yX1_nearest.desc).map (fun d => d.parameters.length) = some 0 := by decide +kernel
theorem mV_X1_settle : Cond.instanceMethod yX1_settle ∈ gT ∧ Cond.selects RX1 yX1_settle yX1_settle ∈ gT ∧ Cond.initialized RX1 ∈ gT ∧ Cond.code yX1_settle cX1_settle 3 none ∈ gT := ⟨t_477, ts_22, t_7, t_478⟩
theorem hV_X1_settle : yX1_settle.cls = RX1 ∧ yX1_settle.cls ≠ "java/lang/invoke/MethodHandle" ∧ yX1_settle.cls ≠ "java/lang/invoke/VarHandle" ∧ (parseMethodDescriptor yX1_settle.desc).map (fun d => d.parameters.length) = some 2 := by decide +kernel
theorem mV_X1_choices : Cond.instanceMethod yX1_choices ∈ gT ∧ Cond.selects RX1 yX1_choices yX1_choices ∈ gT ∧ Cond.initialized RX1 ∈ gT ∧ Cond.code yX1_choices cX1_choices 4 (some .int) ∈ gT := ⟨t_489, ts_25, t_7, t_490⟩
theorem hV_X1_choices : yX1_choices.cls = RX1 ∧ yX1_choices.cls ≠ "java/lang/invoke/MethodHandle" ∧ yX1_choices.cls ≠ "java/lang/invoke/VarHandle" ∧ (parseMethodDescriptor yX1_choices.desc).map (fun d => d.parameters.length) = some 3 := by decide +kernel
theorem mV_X1_settledKind : Cond.instanceMethod yX1_settledKind ∈ gT ∧ Cond.selects RX1 yX1_settledKind yX1_settledKind ∈ gT ∧ Cond.initialized RX1 ∈ gT ∧ Cond.code yX1_settledKind cX1_settledKind 4 (some .int) ∈ gT := ⟨t_493, ts_26, t_7, t_494⟩
theorem hV_X1_settledKind : yX1_settledKind.cls = RX1 ∧ yX1_settledKind.cls ≠ "java/lang/invoke/MethodHandle" ∧ yX1_settledKind.cls ≠ "java/lang/invoke/VarHandle" ∧ (parseMethodDescriptor yX1_settledKind.desc).map (fun d => d.parameters.length) = some 3 := by decide +kernel
theorem mV_X1_stepsIn : Cond.instanceMethod yX1_stepsIn ∈ gT ∧ Cond.selects RX1 yX1_stepsIn yX1_stepsIn ∈ gT ∧ Cond.initialized RX1 ∈ gT ∧ Cond.code yX1_stepsIn cX1_stepsIn 4 (some .long) ∈ gT := ⟨t_497, ts_27, t_7, t_498⟩
theorem hV_X1_stepsIn : yX1_stepsIn.cls = RX1 ∧ yX1_stepsIn.cls ≠ "java/lang/invoke/MethodHandle" ∧ yX1_stepsIn.cls ≠ "java/lang/invoke/VarHandle" ∧ (parseMethodDescriptor yX1_stepsIn.desc).map (fun d => d.parameters.length) = some 3 := by decide +kernel
theorem dJ7_fill_53178_0 : decode cJ7_fill_53178 0 = .ok (.iconst 0, 1) := by decide +kernel
theorem dJ7_fill_53178_1 : decode cJ7_fill_53178 1 = .ok (.istore_n 2, 1) := by decide +kernel
theorem dJ7_fill_53178_2 : decode cJ7_fill_53178 2 = .ok (.aload_n 0, 1) := by decide +kernel
theorem dJ7_fill_53178_3 : decode cJ7_fill_53178 3 = .ok (.arraylength, 1) := by decide +kernel
theorem dJ7_fill_53178_4 : decode cJ7_fill_53178 4 = .ok (.istore_n 3, 1) := by decide +kernel
theorem dJ7_fill_53178_5 : decode cJ7_fill_53178 5 = .ok (.iload_n 2, 1) := by decide +kernel
theorem dJ7_fill_53178_6 : decode cJ7_fill_53178 6 = .ok (.iload_n 3, 1) := by decide +kernel
theorem dJ7_fill_53178_7 : decode cJ7_fill_53178 7 = .ok (.if_icmp .ge 13, 3) := by decide +kernel
theorem dJ7_fill_53178_10 : decode cJ7_fill_53178 10 = .ok (.aload_n 0, 1) := by decide +kernel
theorem dJ7_fill_53178_11 : decode cJ7_fill_53178 11 = .ok (.iload_n 2, 1) := by decide +kernel
theorem dJ7_fill_53178_12 : decode cJ7_fill_53178 12 = .ok (.iload_n 1, 1) := by decide +kernel
theorem dJ7_fill_53178_13 : decode cJ7_fill_53178 13 = .ok (.iastore, 1) := by decide +kernel
theorem dJ7_fill_53178_14 : decode cJ7_fill_53178 14 = .ok (.iinc 2 1, 3) := by decide +kernel
theorem dJ7_fill_53178_17 : decode cJ7_fill_53178 17 = .ok (.goto (-12), 3) := by decide +kernel
theorem dJ7_fill_53178_20 : decode cJ7_fill_53178 20 = .ok (.return_, 1) := by decide +kernel
theorem dJ7_fill_d0a16_0 : decode cJ7_fill_d0a16 0 = .ok (.iconst 0, 1) := by decide +kernel
theorem dJ7_fill_d0a16_1 : decode cJ7_fill_d0a16 1 = .ok (.istore_n 3, 1) := by decide +kernel
theorem dJ7_fill_d0a16_2 : decode cJ7_fill_d0a16 2 = .ok (.aload_n 0, 1) := by decide +kernel
theorem dJ7_fill_d0a16_3 : decode cJ7_fill_d0a16 3 = .ok (.arraylength, 1) := by decide +kernel
theorem dJ7_fill_d0a16_4 : decode cJ7_fill_d0a16 4 = .ok (.istore 4, 2) := by decide +kernel
theorem dJ7_fill_d0a16_6 : decode cJ7_fill_d0a16 6 = .ok (.iload_n 3, 1) := by decide +kernel
theorem dJ7_fill_d0a16_7 : decode cJ7_fill_d0a16 7 = .ok (.iload 4, 2) := by decide +kernel
theorem dJ7_fill_d0a16_9 : decode cJ7_fill_d0a16 9 = .ok (.if_icmp .ge 13, 3) := by decide +kernel
theorem dJ7_fill_d0a16_12 : decode cJ7_fill_d0a16 12 = .ok (.aload_n 0, 1) := by decide +kernel
theorem dJ7_fill_d0a16_13 : decode cJ7_fill_d0a16 13 = .ok (.iload_n 3, 1) := by decide +kernel
theorem dJ7_fill_d0a16_14 : decode cJ7_fill_d0a16 14 = .ok (.lload_n 1, 1) := by decide +kernel
theorem dJ7_fill_d0a16_15 : decode cJ7_fill_d0a16 15 = .ok (.lastore, 1) := by decide +kernel
theorem dJ7_fill_d0a16_16 : decode cJ7_fill_d0a16 16 = .ok (.iinc 3 1, 3) := by decide +kernel
theorem dJ7_fill_d0a16_19 : decode cJ7_fill_d0a16 19 = .ok (.goto (-13), 3) := by decide +kernel
theorem dJ7_fill_d0a16_22 : decode cJ7_fill_d0a16 22 = .ok (.return_, 1) := by decide +kernel
theorem dX1_choices_0 : decode cX1_choices 0 = .ok (.iload_n 2, 1) := by decide +kernel
theorem dX1_choices_1 : decode cX1_choices 1 = .ok (.iload_n 3, 1) := by decide +kernel
theorem dX1_choices_2 : decode cX1_choices 2 = .ok (.if_icmp .ne 7, 3) := by decide +kernel
theorem dX1_choices_5 : decode cX1_choices 5 = .ok (.iconst 1, 1) := by decide +kernel
theorem dX1_choices_6 : decode cX1_choices 6 = .ok (.goto 14, 3) := by decide +kernel
theorem dX1_choices_9 : decode cX1_choices 9 = .ok (.aload_n 0, 1) := by decide +kernel
theorem dX1_choices_10 : decode cX1_choices 10 = .ok (.getfield 26, 3) := by decide +kernel
theorem dX1_choices_13 : decode cX1_choices 13 = .ok (.aload_n 1, 1) := by decide +kernel
theorem dX1_choices_14 : decode cX1_choices 14 = .ok (.getfield 83, 3) := by decide +kernel
theorem dX1_choices_17 : decode cX1_choices 17 = .ok (.iload_n 2, 1) := by decide +kernel
theorem dX1_choices_18 : decode cX1_choices 18 = .ok (.iaload, 1) := by decide +kernel
theorem dX1_choices_19 : decode cX1_choices 19 = .ok (.iaload, 1) := by decide +kernel
theorem dX1_choices_20 : decode cX1_choices 20 = .ok (.ireturn, 1) := by decide +kernel
theorem dX1_forget_0 : decode cX1_forget 0 = .ok (.aload_n 0, 1) := by decide +kernel
theorem dX1_forget_1 : decode cX1_forget 1 = .ok (.getfield 11, 3) := by decide +kernel
theorem dX1_forget_4 : decode cX1_forget 4 = .ok (.ldc2_w 29, 3) := by decide +kernel
theorem dX1_forget_7 : decode cX1_forget 7 = .ok (.invokestatic 74, 3) := by decide +kernel
theorem dX1_forget_10 : decode cX1_forget 10 = .ok (.aload_n 0, 1) := by decide +kernel
theorem dX1_forget_11 : decode cX1_forget 11 = .ok (.getfield 15, 3) := by decide +kernel
theorem dX1_forget_14 : decode cX1_forget 14 = .ok (.iconst (-1), 1) := by decide +kernel
theorem dX1_forget_15 : decode cX1_forget 15 = .ok (.invokestatic 80, 3) := by decide +kernel
theorem dX1_forget_18 : decode cX1_forget 18 = .ok (.aload_n 0, 1) := by decide +kernel
theorem dX1_forget_19 : decode cX1_forget 19 = .ok (.getfield 26, 3) := by decide +kernel
theorem dX1_forget_22 : decode cX1_forget 22 = .ok (.iconst 0, 1) := by decide +kernel
theorem dX1_forget_23 : decode cX1_forget 23 = .ok (.invokestatic 80, 3) := by decide +kernel
theorem dX1_forget_26 : decode cX1_forget 26 = .ok (.iconst 0, 1) := by decide +kernel
theorem dX1_forget_27 : decode cX1_forget 27 = .ok (.istore_n 1, 1) := by decide +kernel
theorem dX1_forget_28 : decode cX1_forget 28 = .ok (.iload_n 1, 1) := by decide +kernel
theorem dX1_forget_29 : decode cX1_forget 29 = .ok (.bipush 96, 2) := by decide +kernel
theorem dX1_forget_31 : decode cX1_forget 31 = .ok (.if_icmp .ge 16, 3) := by decide +kernel
theorem dX1_forget_34 : decode cX1_forget 34 = .ok (.aload_n 0, 1) := by decide +kernel
theorem dX1_forget_35 : decode cX1_forget 35 = .ok (.getfield 19, 3) := by decide +kernel
theorem dX1_forget_38 : decode cX1_forget 38 = .ok (.iload_n 1, 1) := by decide +kernel
theorem dX1_forget_39 : decode cX1_forget 39 = .ok (.iconst 0, 1) := by decide +kernel
theorem dX1_forget_40 : decode cX1_forget 40 = .ok (.bastore, 1) := by decide +kernel
theorem dX1_forget_41 : decode cX1_forget 41 = .ok (.iinc 1 1, 3) := by decide +kernel
theorem dX1_forget_44 : decode cX1_forget 44 = .ok (.goto (-16), 3) := by decide +kernel
theorem dX1_forget_47 : decode cX1_forget 47 = .ok (.return_, 1) := by decide +kernel
theorem dX1_nearest_0 : decode cX1_nearest 0 = .ok (.iconst (-1), 1) := by decide +kernel
theorem dX1_nearest_1 : decode cX1_nearest 1 = .ok (.istore_n 1, 1) := by decide +kernel
theorem dX1_nearest_2 : decode cX1_nearest 2 = .ok (.ldc2_w 29, 3) := by decide +kernel
theorem dX1_nearest_5 : decode cX1_nearest 5 = .ok (.lstore_n 2, 1) := by decide +kernel
theorem dX1_nearest_6 : decode cX1_nearest 6 = .ok (.iconst 0, 1) := by decide +kernel
theorem dX1_nearest_7 : decode cX1_nearest 7 = .ok (.istore 4, 2) := by decide +kernel
theorem dX1_nearest_9 : decode cX1_nearest 9 = .ok (.iload 4, 2) := by decide +kernel
theorem dX1_nearest_11 : decode cX1_nearest 11 = .ok (.bipush 96, 2) := by decide +kernel
theorem dX1_nearest_13 : decode cX1_nearest 13 = .ok (.if_icmp .ge 42, 3) := by decide +kernel
theorem dX1_nearest_16 : decode cX1_nearest 16 = .ok (.aload_n 0, 1) := by decide +kernel
theorem dX1_nearest_17 : decode cX1_nearest 17 = .ok (.getfield 19, 3) := by decide +kernel
theorem dX1_nearest_20 : decode cX1_nearest 20 = .ok (.iload 4, 2) := by decide +kernel
theorem dX1_nearest_22 : decode cX1_nearest 22 = .ok (.baload, 1) := by decide +kernel
theorem dX1_nearest_23 : decode cX1_nearest 23 = .ok (.ifCond .ne 26, 3) := by decide +kernel
theorem dX1_nearest_26 : decode cX1_nearest 26 = .ok (.aload_n 0, 1) := by decide +kernel
theorem dX1_nearest_27 : decode cX1_nearest 27 = .ok (.getfield 11, 3) := by decide +kernel
theorem dX1_nearest_30 : decode cX1_nearest 30 = .ok (.iload 4, 2) := by decide +kernel
theorem dX1_nearest_32 : decode cX1_nearest 32 = .ok (.laload, 1) := by decide +kernel
theorem dX1_nearest_33 : decode cX1_nearest 33 = .ok (.lload_n 2, 1) := by decide +kernel
theorem dX1_nearest_34 : decode cX1_nearest 34 = .ok (.lcmp, 1) := by decide +kernel
theorem dX1_nearest_35 : decode cX1_nearest 35 = .ok (.ifCond .ge 14, 3) := by decide +kernel
theorem dX1_nearest_38 : decode cX1_nearest 38 = .ok (.iload 4, 2) := by decide +kernel
theorem dX1_nearest_40 : decode cX1_nearest 40 = .ok (.istore_n 1, 1) := by decide +kernel
theorem dX1_nearest_41 : decode cX1_nearest 41 = .ok (.aload_n 0, 1) := by decide +kernel
theorem dX1_nearest_42 : decode cX1_nearest 42 = .ok (.getfield 11, 3) := by decide +kernel
theorem dX1_nearest_45 : decode cX1_nearest 45 = .ok (.iload 4, 2) := by decide +kernel
theorem dX1_nearest_47 : decode cX1_nearest 47 = .ok (.laload, 1) := by decide +kernel
theorem dX1_nearest_48 : decode cX1_nearest 48 = .ok (.lstore_n 2, 1) := by decide +kernel
theorem dX1_nearest_49 : decode cX1_nearest 49 = .ok (.iinc 4 1, 3) := by decide +kernel
theorem dX1_nearest_52 : decode cX1_nearest 52 = .ok (.goto (-43), 3) := by decide +kernel
theorem dX1_nearest_55 : decode cX1_nearest 55 = .ok (.iload_n 1, 1) := by decide +kernel
theorem dX1_nearest_56 : decode cX1_nearest 56 = .ok (.ireturn, 1) := by decide +kernel
theorem dX1_offer_0 : decode cX1_offer 0 = .ok (.iload_n 1, 1) := by decide +kernel
theorem dX1_offer_1 : decode cX1_offer 1 = .ok (.bipush 16, 2) := by decide +kernel
theorem dX1_offer_3 : decode cX1_offer 3 = .ok (.imul, 1) := by decide +kernel
theorem dX1_offer_4 : decode cX1_offer 4 = .ok (.iload_n 2, 1) := by decide +kernel
theorem dX1_offer_5 : decode cX1_offer 5 = .ok (.iadd, 1) := by decide +kernel
theorem dX1_offer_6 : decode cX1_offer 6 = .ok (.istore 6, 2) := by decide +kernel
theorem dX1_offer_8 : decode cX1_offer 8 = .ok (.lload_n 3, 1) := by decide +kernel
theorem dX1_offer_9 : decode cX1_offer 9 = .ok (.aload_n 0, 1) := by decide +kernel
theorem dX1_offer_10 : decode cX1_offer 10 = .ok (.getfield 11, 3) := by decide +kernel
theorem dX1_offer_13 : decode cX1_offer 13 = .ok (.iload 6, 2) := by decide +kernel
theorem dX1_offer_15 : decode cX1_offer 15 = .ok (.laload, 1) := by decide +kernel
theorem dX1_offer_16 : decode cX1_offer 16 = .ok (.lcmp, 1) := by decide +kernel
theorem dX1_offer_17 : decode cX1_offer 17 = .ok (.ifCond .ge 23, 3) := by decide +kernel
theorem dX1_offer_20 : decode cX1_offer 20 = .ok (.aload_n 0, 1) := by decide +kernel
theorem dX1_offer_21 : decode cX1_offer 21 = .ok (.getfield 11, 3) := by decide +kernel
theorem dX1_offer_24 : decode cX1_offer 24 = .ok (.iload 6, 2) := by decide +kernel
theorem dX1_offer_26 : decode cX1_offer 26 = .ok (.lload_n 3, 1) := by decide +kernel
theorem dX1_offer_27 : decode cX1_offer 27 = .ok (.lastore, 1) := by decide +kernel
theorem dX1_offer_28 : decode cX1_offer 28 = .ok (.aload_n 0, 1) := by decide +kernel
theorem dX1_offer_29 : decode cX1_offer 29 = .ok (.getfield 15, 3) := by decide +kernel
theorem dX1_offer_32 : decode cX1_offer 32 = .ok (.iload 6, 2) := by decide +kernel
theorem dX1_offer_34 : decode cX1_offer 34 = .ok (.iload 5, 2) := by decide +kernel
theorem dX1_offer_36 : decode cX1_offer 36 = .ok (.iastore, 1) := by decide +kernel
theorem dX1_offer_37 : decode cX1_offer 37 = .ok (.goto 36, 3) := by decide +kernel
theorem dX1_offer_40 : decode cX1_offer 40 = .ok (.lload_n 3, 1) := by decide +kernel
theorem dX1_offer_41 : decode cX1_offer 41 = .ok (.aload_n 0, 1) := by decide +kernel
theorem dX1_offer_42 : decode cX1_offer 42 = .ok (.getfield 11, 3) := by decide +kernel
theorem dX1_offer_45 : decode cX1_offer 45 = .ok (.iload 6, 2) := by decide +kernel
theorem dX1_offer_47 : decode cX1_offer 47 = .ok (.laload, 1) := by decide +kernel
theorem dX1_offer_48 : decode cX1_offer 48 = .ok (.lcmp, 1) := by decide +kernel
theorem dX1_offer_49 : decode cX1_offer 49 = .ok (.ifCond .ne 24, 3) := by decide +kernel
theorem dX1_offer_52 : decode cX1_offer 52 = .ok (.iload 5, 2) := by decide +kernel
theorem dX1_offer_54 : decode cX1_offer 54 = .ok (.aload_n 0, 1) := by decide +kernel
theorem dX1_offer_55 : decode cX1_offer 55 = .ok (.getfield 15, 3) := by decide +kernel
theorem dX1_offer_58 : decode cX1_offer 58 = .ok (.iload 6, 2) := by decide +kernel
theorem dX1_offer_60 : decode cX1_offer 60 = .ok (.iaload, 1) := by decide +kernel
theorem dX1_offer_61 : decode cX1_offer 61 = .ok (.if_icmp .ge 12, 3) := by decide +kernel
theorem dX1_offer_64 : decode cX1_offer 64 = .ok (.aload_n 0, 1) := by decide +kernel
theorem dX1_offer_65 : decode cX1_offer 65 = .ok (.getfield 15, 3) := by decide +kernel
theorem dX1_offer_68 : decode cX1_offer 68 = .ok (.iload 6, 2) := by decide +kernel
theorem dX1_offer_70 : decode cX1_offer 70 = .ok (.iload 5, 2) := by decide +kernel
theorem dX1_offer_72 : decode cX1_offer 72 = .ok (.iastore, 1) := by decide +kernel
theorem dX1_offer_73 : decode cX1_offer 73 = .ok (.return_, 1) := by decide +kernel
theorem dX1_settle_0 : decode cX1_settle 0 = .ok (.aload_n 0, 1) := by decide +kernel
theorem dX1_settle_1 : decode cX1_settle 1 = .ok (.getfield 19, 3) := by decide +kernel
theorem dX1_settle_4 : decode cX1_settle 4 = .ok (.iload_n 1, 1) := by decide +kernel
theorem dX1_settle_5 : decode cX1_settle 5 = .ok (.bipush 16, 2) := by decide +kernel
theorem dX1_settle_7 : decode cX1_settle 7 = .ok (.imul, 1) := by decide +kernel
theorem dX1_settle_8 : decode cX1_settle 8 = .ok (.iload_n 2, 1) := by decide +kernel
theorem dX1_settle_9 : decode cX1_settle 9 = .ok (.iadd, 1) := by decide +kernel
theorem dX1_settle_10 : decode cX1_settle 10 = .ok (.iconst 1, 1) := by decide +kernel
theorem dX1_settle_11 : decode cX1_settle 11 = .ok (.bastore, 1) := by decide +kernel
theorem dX1_settle_12 : decode cX1_settle 12 = .ok (.aload_n 0, 1) := by decide +kernel
theorem dX1_settle_13 : decode cX1_settle 13 = .ok (.getfield 23, 3) := by decide +kernel
theorem dX1_settle_16 : decode cX1_settle 16 = .ok (.iload_n 1, 1) := by decide +kernel
theorem dX1_settle_17 : decode cX1_settle 17 = .ok (.bipush 16, 2) := by decide +kernel
theorem dX1_settle_19 : decode cX1_settle 19 = .ok (.imul, 1) := by decide +kernel
theorem dX1_settle_20 : decode cX1_settle 20 = .ok (.aload_n 0, 1) := by decide +kernel
theorem dX1_settle_21 : decode cX1_settle 21 = .ok (.getfield 26, 3) := by decide +kernel
theorem dX1_settle_24 : decode cX1_settle 24 = .ok (.iload_n 1, 1) := by decide +kernel
theorem dX1_settle_25 : decode cX1_settle 25 = .ok (.iaload, 1) := by decide +kernel
theorem dX1_settle_26 : decode cX1_settle 26 = .ok (.iadd, 1) := by decide +kernel
theorem dX1_settle_27 : decode cX1_settle 27 = .ok (.iload_n 2, 1) := by decide +kernel
theorem dX1_settle_28 : decode cX1_settle 28 = .ok (.iastore, 1) := by decide +kernel
theorem dX1_settle_29 : decode cX1_settle 29 = .ok (.aload_n 0, 1) := by decide +kernel
theorem dX1_settle_30 : decode cX1_settle 30 = .ok (.getfield 26, 3) := by decide +kernel
theorem dX1_settle_33 : decode cX1_settle 33 = .ok (.iload_n 1, 1) := by decide +kernel
theorem dX1_settle_34 : decode cX1_settle 34 = .ok (.dup2, 1) := by decide +kernel
theorem dX1_settle_35 : decode cX1_settle 35 = .ok (.iaload, 1) := by decide +kernel
theorem dX1_settle_36 : decode cX1_settle 36 = .ok (.iconst 1, 1) := by decide +kernel
theorem dX1_settle_37 : decode cX1_settle 37 = .ok (.iadd, 1) := by decide +kernel
theorem dX1_settle_38 : decode cX1_settle 38 = .ok (.iastore, 1) := by decide +kernel
theorem dX1_settle_39 : decode cX1_settle 39 = .ok (.return_, 1) := by decide +kernel
theorem dX1_settledKind_0 : decode cX1_settledKind 0 = .ok (.aload_n 0, 1) := by decide +kernel
theorem dX1_settledKind_1 : decode cX1_settledKind 1 = .ok (.getfield 23, 3) := by decide +kernel
theorem dX1_settledKind_4 : decode cX1_settledKind 4 = .ok (.aload_n 1, 1) := by decide +kernel
theorem dX1_settledKind_5 : decode cX1_settledKind 5 = .ok (.getfield 83, 3) := by decide +kernel
theorem dX1_settledKind_8 : decode cX1_settledKind 8 = .ok (.iload_n 2, 1) := by decide +kernel
theorem dX1_settledKind_9 : decode cX1_settledKind 9 = .ok (.iaload, 1) := by decide +kernel
theorem dX1_settledKind_10 : decode cX1_settledKind 10 = .ok (.bipush 16, 2) := by decide +kernel
theorem dX1_settledKind_12 : decode cX1_settledKind 12 = .ok (.imul, 1) := by decide +kernel
theorem dX1_settledKind_13 : decode cX1_settledKind 13 = .ok (.iload_n 3, 1) := by decide +kernel
theorem dX1_settledKind_14 : decode cX1_settledKind 14 = .ok (.iadd, 1) := by decide +kernel
theorem dX1_settledKind_15 : decode cX1_settledKind 15 = .ok (.iaload, 1) := by decide +kernel
theorem dX1_settledKind_16 : decode cX1_settledKind 16 = .ok (.ireturn, 1) := by decide +kernel
theorem dX1_stepsIn_0 : decode cX1_stepsIn 0 = .ok (.aload_n 0, 1) := by decide +kernel
theorem dX1_stepsIn_1 : decode cX1_stepsIn 1 = .ok (.getfield 11, 3) := by decide +kernel
theorem dX1_stepsIn_4 : decode cX1_stepsIn 4 = .ok (.aload_n 1, 1) := by decide +kernel
theorem dX1_stepsIn_5 : decode cX1_stepsIn 5 = .ok (.getfield 83, 3) := by decide +kernel
theorem dX1_stepsIn_8 : decode cX1_stepsIn 8 = .ok (.iload_n 2, 1) := by decide +kernel
theorem dX1_stepsIn_9 : decode cX1_stepsIn 9 = .ok (.iaload, 1) := by decide +kernel
theorem dX1_stepsIn_10 : decode cX1_stepsIn 10 = .ok (.bipush 16, 2) := by decide +kernel
theorem dX1_stepsIn_12 : decode cX1_stepsIn 12 = .ok (.imul, 1) := by decide +kernel
theorem dX1_stepsIn_13 : decode cX1_stepsIn 13 = .ok (.iload_n 3, 1) := by decide +kernel
theorem dX1_stepsIn_14 : decode cX1_stepsIn 14 = .ok (.iadd, 1) := by decide +kernel
theorem dX1_stepsIn_15 : decode cX1_stepsIn 15 = .ok (.laload, 1) := by decide +kernel
theorem dX1_stepsIn_16 : decode cX1_stepsIn 16 = .ok (.lreturn, 1) := by decide +kernel
section
variable (l : Launch) (D : va_G) (cI cJ cZ cR : ClassId)
set_option maxHeartbeats 4000000 in
set_option maxRecDepth 100000 in
theorem c_J7_fill_d0a16 (sz : Nat) (h0 : Nat) (N : Nat) (ff : Nat → Int64) (p1 : Int64) (hN : N < 2147483648) : CTv l D cI cJ cZ cR yJ7_fill_d0a16 cJ7_fill_d0a16 5 none 0 0 0 0 sz [.ref h0, .long p1] [kJ cJ h0 N ff] (fun (u : Unit) => True) (fun (u : Unit) => [kJ cJ h0 N (fun _ => p1)]) := by
  refine CTv.of (by decide) (Nat.le_of_ble_eq_true rfl) rfl ?_
  intro p e s m below meth c A Q ls hd hin hK hsz hP hD hA hS hl hret
  obtain ⟨hx, hb, hml, hown, hts⟩ := id hd
  have hK1 := hK.1
  have hown : s.vm.findClass RJ7 = some m.cls := hown
  have hl : lv_has ls 5 [(0, .ref h0), (1, .long p1)] := hl
  refine lv_iconst (v := 0) hx hb dJ7_fill_d0a16_0 (by decide) ?_
  refine lv_istore_n (lv' := [(3, .int 0), (0, .ref h0), (1, .long p1)]) hx hb dJ7_fill_d0a16_1 rfl hl (by decide) rfl (fun ls hl => ?_)
  refine lv_aload_n hx hb dJ7_fill_d0a16_2 rfl (lv_at hl 1 rfl) ?_
  refine va_alen hx hb hK1 hP 0 1 rfl rfl (v := (nI N)) rfl dJ7_fill_d0a16_3 ?_
  refine lv_istore (lv' := [(4, .int (nI N)), (3, .int 0), (0, .ref h0), (1, .long p1)]) hx hb dJ7_fill_d0a16_4 hl (by decide) rfl (fun ls hl => ?_)
  have LOOP_6 : ∀ (n : Nat) (i : Nat) (gg : Nat → Int64), (i + n = N) → (∀ j, j < i → gg j = p1) → ∀ (H : Heap) (locs : List Loc) (ls : Array Slot), va_P D vwCl [kJ cJ h0 N gg] H → va_D A [kJ cJ h0 N gg] → va_S A s.heap H locs → lv_has ls 5 [(0, .ref h0), (1, .long p1), (3, .int (nI i)), (4, .int (nI N))] → W p l e (rM 0 0 0 0) s m ([.ref h0, .long p1] : List Value).toArray below meth c H locs 0 0 Q (F0 m 6 ls []) := by
    intro n
    induction n with
    | zero =>
      intro i gg hi hg H locs ls hP hD hS hl
      obtain ⟨hP, hD⟩ := va_P.rowJ (g := fun _ => p1) 0 hP hD rfl (fun j hj => hg j (by omega))
      have hP : va_P D vwCl [kJ cJ h0 N (fun _ => p1)] H := hP
      have hD : va_D A [kJ cJ h0 N (fun _ => p1)] := hD
      refine lv_iload_n hx hb dJ7_fill_d0a16_6 rfl (lv_at hl 2 rfl) ?_
      refine lv_iload hx hb dJ7_fill_d0a16_7 (lv_at hl 3 rfl) ?_
      refine lv_icmp_ge (tgt := 22) hx hb dJ7_fill_d0a16_9 (by decide) (fun c_1 => ?_) (fun c_1 => ?_)
      rotate_left
      · exact absurd (nI_le (a := N) (b := i) (by omega) (by omega)) c_1
      exact hret _ _ _ _ _ _ () dJ7_fill_d0a16_22 hS (Nat.le_of_ble_eq_true rfl) (Nat.le_of_ble_eq_true rfl) trivial (hP.sub [0] rfl) (hD.sub [0] rfl rfl)
    | succ n ih_6 =>
      intro i gg hi hg H locs ls hP hD hS hl
      refine lv_iload_n hx hb dJ7_fill_d0a16_6 rfl (lv_at hl 2 rfl) ?_
      refine lv_iload hx hb dJ7_fill_d0a16_7 (lv_at hl 3 rfl) ?_
      refine lv_icmp_ge (tgt := 22) hx hb dJ7_fill_d0a16_9 (by decide) (fun c_2 => ?_) (fun c_2 => ?_)
      · exact absurd c_2 (nI_ge (a := i) (b := N) (by omega) (by omega))
      refine lv_aload_n hx hb dJ7_fill_d0a16_12 rfl (lv_at hl 0 rfl) ?_
      refine lv_iload_n hx hb dJ7_fill_d0a16_13 rfl (lv_at hl 2 rfl) ?_
      refine lv_lload_n hx hb dJ7_fill_d0a16_14 rfl (lv_at hl 1 rfl) ?_
      refine va_last hx hb hK1 hP hD hS 0 1 rfl rfl (vp_in_nI (by omega) (by omega)) dJ7_fill_d0a16_15 (fun H locs hP hD hS => ?_)
      rw [nI_clamp (n := i) (by omega)] at hP hD
      have hP : va_P D vwCl [kJ cJ h0 N (vp_updL gg i p1)] H := hP
      have hD : va_D A [kJ cJ h0 N (vp_updL gg i p1)] := hD
      refine lv_iinc (v := nI (i + 1)) (lv' := [(3, .int (nI (i + 1))), (0, .ref h0), (1, .long p1), (4, .int (nI N))]) hx hb dJ7_fill_d0a16_16 hl (k := 2) rfl (nI_1 i) (by decide) rfl (fun ls hl => ?_)
      refine lv_goto (tgt := 6) hx hb dJ7_fill_d0a16_19 (by decide) ?_
      exact ih_6 (i + 1) (vp_updL gg i p1) (by omega) (upL_lt hg) _ _ _ (hP.sub [0] rfl) (hD.sub [0] rfl rfl) hS (lv_sub hl [1, 2, 0, 3] rfl)
  exact LOOP_6 N 0 ff (by omega) (fun j hj => absurd hj (by omega)) _ _ _ (hP.sub [0] rfl) (hD.sub [0] rfl rfl) hS (lv_sub hl [2, 3, 1, 0] rfl)
set_option maxHeartbeats 4000000 in
set_option maxRecDepth 100000 in
theorem c_J7_fill_53178 (sz : Nat) (h0 : Nat) (N : Nat) (ff : Nat → Int32) (p1 : Int32) (hN : N < 2147483648) : CTv l D cI cJ cZ cR yJ7_fill_53178 cJ7_fill_53178 4 none 0 0 0 0 sz [.ref h0, .int p1] [kI cI h0 N ff] (fun (u : Unit) => True) (fun (u : Unit) => [kI cI h0 N (fun _ => p1)]) := by
  refine CTv.of (by decide) (Nat.le_of_ble_eq_true rfl) rfl ?_
  intro p e s m below meth c A Q ls hd hin hK hsz hP hD hA hS hl hret
  obtain ⟨hx, hb, hml, hown, hts⟩ := id hd
  have hK1 := hK.1
  have hown : s.vm.findClass RJ7 = some m.cls := hown
  have hl : lv_has ls 4 [(0, .ref h0), (1, .int p1)] := hl
  refine lv_iconst (v := 0) hx hb dJ7_fill_53178_0 (by decide) ?_
  refine lv_istore_n (lv' := [(2, .int 0), (0, .ref h0), (1, .int p1)]) hx hb dJ7_fill_53178_1 rfl hl (by decide) rfl (fun ls hl => ?_)
  refine lv_aload_n hx hb dJ7_fill_53178_2 rfl (lv_at hl 1 rfl) ?_
  refine va_alen hx hb hK1 hP 0 0 rfl rfl (v := (nI N)) rfl dJ7_fill_53178_3 ?_
  refine lv_istore_n (lv' := [(3, .int (nI N)), (2, .int 0), (0, .ref h0), (1, .int p1)]) hx hb dJ7_fill_53178_4 rfl hl (by decide) rfl (fun ls hl => ?_)
  have LOOP_5 : ∀ (n : Nat) (i : Nat) (gg : Nat → Int32), (i + n = N) → (∀ j, j < i → gg j = p1) → ∀ (H : Heap) (locs : List Loc) (ls : Array Slot), va_P D vwCl [kI cI h0 N gg] H → va_D A [kI cI h0 N gg] → va_S A s.heap H locs → lv_has ls 4 [(0, .ref h0), (1, .int p1), (2, .int (nI i)), (3, .int (nI N))] → W p l e (rM 0 0 0 0) s m ([.ref h0, .int p1] : List Value).toArray below meth c H locs 0 0 Q (F0 m 5 ls []) := by
    intro n
    induction n with
    | zero =>
      intro i gg hi hg H locs ls hP hD hS hl
      obtain ⟨hP, hD⟩ := va_P.rowI (g := fun _ => p1) 0 hP hD rfl (fun j hj => hg j (by omega))
      have hP : va_P D vwCl [kI cI h0 N (fun _ => p1)] H := hP
      have hD : va_D A [kI cI h0 N (fun _ => p1)] := hD
      refine lv_iload_n hx hb dJ7_fill_53178_5 rfl (lv_at hl 2 rfl) ?_
      refine lv_iload_n hx hb dJ7_fill_53178_6 rfl (lv_at hl 3 rfl) ?_
      refine lv_icmp_ge (tgt := 20) hx hb dJ7_fill_53178_7 (by decide) (fun c_1 => ?_) (fun c_1 => ?_)
      rotate_left
      · exact absurd (nI_le (a := N) (b := i) (by omega) (by omega)) c_1
      exact hret _ _ _ _ _ _ () dJ7_fill_53178_20 hS (Nat.le_of_ble_eq_true rfl) (Nat.le_of_ble_eq_true rfl) trivial (hP.sub [0] rfl) (hD.sub [0] rfl rfl)
    | succ n ih_5 =>
      intro i gg hi hg H locs ls hP hD hS hl
      refine lv_iload_n hx hb dJ7_fill_53178_5 rfl (lv_at hl 2 rfl) ?_
      refine lv_iload_n hx hb dJ7_fill_53178_6 rfl (lv_at hl 3 rfl) ?_
      refine lv_icmp_ge (tgt := 20) hx hb dJ7_fill_53178_7 (by decide) (fun c_2 => ?_) (fun c_2 => ?_)
      · exact absurd c_2 (nI_ge (a := i) (b := N) (by omega) (by omega))
      refine lv_aload_n hx hb dJ7_fill_53178_10 rfl (lv_at hl 0 rfl) ?_
      refine lv_iload_n hx hb dJ7_fill_53178_11 rfl (lv_at hl 2 rfl) ?_
      refine lv_iload_n hx hb dJ7_fill_53178_12 rfl (lv_at hl 1 rfl) ?_
      refine va_iast hx hb hK1 hP hD hS 0 0 rfl rfl (vp_in_nI (by omega) (by omega)) dJ7_fill_53178_13 (fun H locs hP hD hS => ?_)
      rw [nI_clamp (n := i) (by omega)] at hP hD
      have hP : va_P D vwCl [kI cI h0 N (upd gg i p1)] H := hP
      have hD : va_D A [kI cI h0 N (upd gg i p1)] := hD
      refine lv_iinc (v := nI (i + 1)) (lv' := [(2, .int (nI (i + 1))), (0, .ref h0), (1, .int p1), (3, .int (nI N))]) hx hb dJ7_fill_53178_14 hl (k := 2) rfl (nI_1 i) (by decide) rfl (fun ls hl => ?_)
      refine lv_goto (tgt := 5) hx hb dJ7_fill_53178_17 (by decide) ?_
      exact ih_5 (i + 1) (upd gg i p1) (by omega) (up_lt hg) _ _ _ (hP.sub [0] rfl) (hD.sub [0] rfl rfl) hS (lv_sub hl [1, 2, 0, 3] rfl)
  exact LOOP_5 N 0 ff (by omega) (fun j hj => absurd hj (by omega)) _ _ _ (hP.sub [0] rfl) (hD.sub [0] rfl rfl) hS (lv_sub hl [2, 3, 1, 0] rfl)
set_option maxHeartbeats 4000000 in
set_option maxRecDepth 100000 in
theorem c_X1_forget (sz : Nat) (lg : Nat) (l1 : Nat) (l2 : Nat) (l3 : Nat) (l4 : Nat) (l5 : Nat) (ff : Nat → Int64) (gf : Nat → Int32) (zf : Nat → Int32) (kf : Nat → Int32) (cf : Nat → Int32)  : CTv l D cI cJ cZ cR yX1_forget cX1_forget 2 none 1 24 0 0 sz [.ref lg] [kX1 lg l1 l2 l3 l4 l5, kJ cJ l1 96 ff, kI cI l2 96 gf, kI cZ l3 96 zf, kI cI l4 96 kf, kI cI l5 6 cf] (fun (u : Unit) => True) (fun (u : Unit) => [kX1 lg l1 l2 l3 l4 l5, kJ cJ l1 96 (fun _ => 2305843009213693952), kI cI l2 96 (fun _ => (-1)), kI cZ l3 96 (fun _ => 0), kI cI l4 96 kf, kI cI l5 6 (fun _ => 0)]) := by
  refine CTv.of (by decide) (Nat.le_of_ble_eq_true rfl) rfl ?_
  intro p e s m below meth c A Q ls hd hin hK hsz hP hD hA hS hl hret
  obtain ⟨hx, hb, hml, hown, hts⟩ := id hd
  have hK1 := hK.1
  have hown : s.vm.findClass RX1 = some m.cls := hown
  have hl : lv_has ls 2 [(0, .ref lg)] := hl
  refine lv_aload_n hx hb dX1_forget_0 rfl (lv_at hl 0 rfl) ?_
  refine va_get (D := D) (ci := 1) (v := .ref l1) (C := RX1) (T := TX1) (N := 5) hx hb hts iT_X1 hown hK1 hP 0 rfl rfl 0 (by decide) (hts _ t_136) (fun _ h9 => h9) rfl dX1_forget_1 ?_
  refine lv_ldc2 hx hb hown (hts _ t_462) dX1_forget_4 ?_
  refine xc_v (wc := [kJ cJ l1 96 ff]) (wr := [kX1 lg l1 l2 l3 l4 l5, kI cI l2 96 gf, kI cZ l3 96 zf, kI cI l4 96 kf, kI cI l5 6 cf]) (xrS (n := 2) (As := [.ref l1, .long 2305843009213693952]) (rest := []) hd hK hP hD (c_J7_fill_d0a16 l D cI cJ cZ cR _ l1 96 ff 2305843009213693952 (by decide)) (gS t_463 mS_J7_fill_d0a16) hS_J7_fill_d0a16 ⟨(Nat.le_of_ble_eq_true rfl), (Nat.le_of_ble_eq_true rfl)⟩ [1] rfl rfl rfl hl.1 rfl (Nat.le_of_ble_eq_true rfl) dX1_forget_7 ⟨(Nat.le_of_ble_eq_true rfl), (Nat.le_of_ble_eq_true rfl)⟩) hP hD hS hA [1] [0, 2, 3, 4, 5] rfl rfl rfl (by decide) (fun u_2 H locs hw_3 hP hD hS => ?_)
  have hP : va_P D vwCl [kX1 lg l1 l2 l3 l4 l5, kI cI l2 96 gf, kI cZ l3 96 zf, kI cI l4 96 kf, kI cI l5 6 cf, kJ cJ l1 96 (fun _ => 2305843009213693952)] H := hP
  have hD : va_D A [kX1 lg l1 l2 l3 l4 l5, kI cI l2 96 gf, kI cZ l3 96 zf, kI cI l4 96 kf, kI cI l5 6 cf, kJ cJ l1 96 (fun _ => 2305843009213693952)] := hD
  refine lv_aload_n hx hb dX1_forget_10 rfl (lv_at hl 0 rfl) ?_
  refine va_get (D := D) (ci := 1) (v := .ref l2) (C := RX1) (T := TX1) (N := 5) hx hb hts iT_X1 hown hK1 hP 0 rfl rfl 1 (by decide) (hts _ t_137) (fun _ h9 => h9) rfl dX1_forget_11 ?_
  refine lv_iconst (v := -1) hx hb dX1_forget_14 (by decide) ?_
  refine xc_v (wc := [kI cI l2 96 gf]) (wr := [kX1 lg l1 l2 l3 l4 l5, kI cZ l3 96 zf, kI cI l4 96 kf, kI cI l5 6 cf, kJ cJ l1 96 (fun _ => 2305843009213693952)]) (xrS (n := 2) (As := [.ref l2, .int (-1)]) (rest := []) hd hK hP hD (c_J7_fill_53178 l D cI cJ cZ cR _ l2 96 gf (-1) (by decide)) (gS t_466 mS_J7_fill_53178) hS_J7_fill_53178 ⟨(Nat.le_of_ble_eq_true rfl), (Nat.le_of_ble_eq_true rfl)⟩ [1] rfl rfl rfl hl.1 rfl (Nat.le_of_ble_eq_true rfl) dX1_forget_15 ⟨(Nat.le_of_ble_eq_true rfl), (Nat.le_of_ble_eq_true rfl)⟩) hP hD hS hA [1] [0, 2, 3, 4, 5] rfl rfl rfl (by decide) (fun u_5 H locs hw_6 hP hD hS => ?_)
  have hP : va_P D vwCl [kX1 lg l1 l2 l3 l4 l5, kI cZ l3 96 zf, kI cI l4 96 kf, kI cI l5 6 cf, kJ cJ l1 96 (fun _ => 2305843009213693952), kI cI l2 96 (fun _ => (-1))] H := hP
  have hD : va_D A [kX1 lg l1 l2 l3 l4 l5, kI cZ l3 96 zf, kI cI l4 96 kf, kI cI l5 6 cf, kJ cJ l1 96 (fun _ => 2305843009213693952), kI cI l2 96 (fun _ => (-1))] := hD
  refine lv_aload_n hx hb dX1_forget_18 rfl (lv_at hl 0 rfl) ?_
  refine va_get (D := D) (ci := 1) (v := .ref l5) (C := RX1) (T := TX1) (N := 5) hx hb hts iT_X1 hown hK1 hP 0 rfl rfl 4 (by decide) (hts _ t_140) (fun _ h9 => h9) rfl dX1_forget_19 ?_
  refine lv_iconst (v := 0) hx hb dX1_forget_22 (by decide) ?_
  refine xc_v (wc := [kI cI l5 6 cf]) (wr := [kX1 lg l1 l2 l3 l4 l5, kI cZ l3 96 zf, kI cI l4 96 kf, kJ cJ l1 96 (fun _ => 2305843009213693952), kI cI l2 96 (fun _ => (-1))]) (xrS (n := 2) (As := [.ref l5, .int 0]) (rest := []) hd hK hP hD (c_J7_fill_53178 l D cI cJ cZ cR _ l5 6 cf 0 (by decide)) (gS t_466 mS_J7_fill_53178) hS_J7_fill_53178 ⟨(Nat.le_of_ble_eq_true rfl), (Nat.le_of_ble_eq_true rfl)⟩ [3] rfl rfl rfl hl.1 rfl (Nat.le_of_ble_eq_true rfl) dX1_forget_23 ⟨(Nat.le_of_ble_eq_true rfl), (Nat.le_of_ble_eq_true rfl)⟩) hP hD hS hA [3] [0, 1, 2, 4, 5] rfl rfl rfl (by decide) (fun u_8 H locs hw_9 hP hD hS => ?_)
  have hP : va_P D vwCl [kX1 lg l1 l2 l3 l4 l5, kI cZ l3 96 zf, kI cI l4 96 kf, kJ cJ l1 96 (fun _ => 2305843009213693952), kI cI l2 96 (fun _ => (-1)), kI cI l5 6 (fun _ => 0)] H := hP
  have hD : va_D A [kX1 lg l1 l2 l3 l4 l5, kI cZ l3 96 zf, kI cI l4 96 kf, kJ cJ l1 96 (fun _ => 2305843009213693952), kI cI l2 96 (fun _ => (-1)), kI cI l5 6 (fun _ => 0)] := hD
  refine lv_iconst (v := 0) hx hb dX1_forget_26 (by decide) ?_
  refine lv_istore_n (lv' := [(1, .int 0), (0, .ref lg)]) hx hb dX1_forget_27 rfl hl (by decide) rfl (fun ls hl => ?_)
  have LOOP_28 : ∀ (n : Nat) (i : Nat) (zz : Nat → Int32), (i + n = 96) → (∀ j, j < i → zz j = 0) → ∀ (H : Heap) (locs : List Loc) (ls : Array Slot), va_P D vwCl [kX1 lg l1 l2 l3 l4 l5, kJ cJ l1 96 (fun _ => 2305843009213693952), kI cI l2 96 (fun _ => (-1)), kI cZ l3 96 zz, kI cI l4 96 kf, kI cI l5 6 (fun _ => 0)] H → va_D A [kX1 lg l1 l2 l3 l4 l5, kJ cJ l1 96 (fun _ => 2305843009213693952), kI cI l2 96 (fun _ => (-1)), kI cZ l3 96 zz, kI cI l4 96 kf, kI cI l5 6 (fun _ => 0)] → va_S A s.heap H locs → lv_has ls 2 [(0, .ref lg), (1, .int (nI i))] → W p l e (rM 1 0 0 24) s m ([.ref lg] : List Value).toArray below meth c H locs 0 0 Q (F0 m 28 ls []) := by
    intro n
    induction n with
    | zero =>
      intro i zz hi hg H locs ls hP hD hS hl
      obtain ⟨hP, hD⟩ := va_P.rowI (g := fun _ => 0) 3 hP hD rfl (fun j hj => hg j (by omega))
      have hP : va_P D vwCl [kX1 lg l1 l2 l3 l4 l5, kJ cJ l1 96 (fun _ => 2305843009213693952), kI cI l2 96 (fun _ => (-1)), kI cZ l3 96 (fun _ => 0), kI cI l4 96 kf, kI cI l5 6 (fun _ => 0)] H := hP
      have hD : va_D A [kX1 lg l1 l2 l3 l4 l5, kJ cJ l1 96 (fun _ => 2305843009213693952), kI cI l2 96 (fun _ => (-1)), kI cZ l3 96 (fun _ => 0), kI cI l4 96 kf, kI cI l5 6 (fun _ => 0)] := hD
      refine lv_iload_n hx hb dX1_forget_28 rfl (lv_at hl 1 rfl) ?_
      refine lv_bipush (v := 96) hx hb dX1_forget_29 (by decide) ?_
      refine lv_icmp_ge (tgt := 47) hx hb dX1_forget_31 (by decide) (fun c_10 => ?_) (fun c_10 => ?_)
      rotate_left
      · exact absurd (nI_le (a := 96) (b := i) (by omega) (by omega)) c_10
      exact hret _ _ _ _ _ _ () dX1_forget_47 hS (Nat.le_of_ble_eq_true rfl) (Nat.le_of_ble_eq_true rfl) trivial (hP.sub [0, 1, 2, 3, 4, 5] rfl) (hD.sub [0, 1, 2, 3, 4, 5] rfl rfl)
    | succ n ih_28 =>
      intro i zz hi hg H locs ls hP hD hS hl
      refine lv_iload_n hx hb dX1_forget_28 rfl (lv_at hl 1 rfl) ?_
      refine lv_bipush (v := 96) hx hb dX1_forget_29 (by decide) ?_
      refine lv_icmp_ge (tgt := 47) hx hb dX1_forget_31 (by decide) (fun c_11 => ?_) (fun c_11 => ?_)
      · exact absurd c_11 (nI_ge (a := i) (b := 96) (by omega) (by omega))
      refine lv_aload_n hx hb dX1_forget_34 rfl (lv_at hl 0 rfl) ?_
      refine va_get (D := D) (ci := 1) (v := .ref l3) (C := RX1) (T := TX1) (N := 5) hx hb hts iT_X1 hown hK1 hP 0 rfl rfl 2 (by decide) (hts _ t_138) (fun _ h9 => h9) rfl dX1_forget_35 ?_
      refine lv_iload_n hx hb dX1_forget_38 rfl (lv_at hl 1 rfl) ?_
      refine lv_iconst (v := 0) hx hb dX1_forget_39 (by decide) ?_
      refine va_zast hx hb hK1 hP hD hS 3 2 rfl rfl (vp_in_nI (by omega) (by omega)) dX1_forget_40 (fun H locs hP hD hS => ?_)
      rw [nI_clamp (n := i) (by omega)] at hP hD
      have hP : va_P D vwCl [kX1 lg l1 l2 l3 l4 l5, kJ cJ l1 96 (fun _ => 2305843009213693952), kI cI l2 96 (fun _ => (-1)), kI cZ l3 96 (upd zz i 0), kI cI l4 96 kf, kI cI l5 6 (fun _ => 0)] H := hP
      have hD : va_D A [kX1 lg l1 l2 l3 l4 l5, kJ cJ l1 96 (fun _ => 2305843009213693952), kI cI l2 96 (fun _ => (-1)), kI cZ l3 96 (upd zz i 0), kI cI l4 96 kf, kI cI l5 6 (fun _ => 0)] := hD
      refine lv_iinc (v := nI (i + 1)) (lv' := [(1, .int (nI (i + 1))), (0, .ref lg)]) hx hb dX1_forget_41 hl (k := 1) rfl (nI_1 i) (by decide) rfl (fun ls hl => ?_)
      refine lv_goto (tgt := 28) hx hb dX1_forget_44 (by decide) ?_
      exact ih_28 (i + 1) (upd zz i 0) (by omega) (up_lt hg) _ _ _ (hP.sub [0, 1, 2, 3, 4, 5] rfl) (hD.sub [0, 1, 2, 3, 4, 5] rfl rfl) hS (lv_sub hl [1, 0] rfl)
  exact LOOP_28 96 0 zf (by omega) (fun j hj => absurd hj (by omega)) _ _ _ (hP.sub [0, 3, 4, 1, 2, 5] rfl) (hD.sub [0, 3, 4, 1, 2, 5] rfl rfl) hS (lv_sub hl [1, 0] rfl)
set_option maxHeartbeats 4000000 in
set_option maxRecDepth 100000 in
theorem c_X1_offer (sz : Nat) (lg : Nat) (l1 : Nat) (l2 : Nat) (l3 : Nat) (l4 : Nat) (l5 : Nat) (a : Nat) (b : Nat) (ff : Nat → Int64) (gf : Nat → Int32) (zf : Nat → Int32) (kf : Nat → Int32) (cf : Nat → Int32) (p2 : Int64) (p3 : Int32) (ha : a < 6) (hb0 : b < 16) : CTv l D cI cJ cZ cR yX1_offer cX1_offer 7 none 0 0 0 0 sz [.ref lg, .int (nI a), .int (nI b), .long p2, .int p3] [kX1 lg l1 l2 l3 l4 l5, kJ cJ l1 96 ff, kI cI l2 96 gf, kI cZ l3 96 zf, kI cI l4 96 kf, kI cI l5 6 cf] (fun (u : (Nat → Int64) × (Nat → Int32)) => True) (fun (u : (Nat → Int64) × (Nat → Int32)) => [kX1 lg l1 l2 l3 l4 l5, kJ cJ l1 96 u.1, kI cI l2 96 u.2, kI cZ l3 96 zf, kI cI l4 96 kf, kI cI l5 6 cf]) := by
  refine CTv.of (by decide) (Nat.le_of_ble_eq_true rfl) rfl ?_
  intro p e s m below meth c A Q ls hd hin hK hsz hP hD hA hS hl hret
  obtain ⟨hx, hb, hml, hown, hts⟩ := id hd
  have hK1 := hK.1
  have hown : s.vm.findClass RX1 = some m.cls := hown
  have hl : lv_has ls 7 [(0, .ref lg), (1, .int (nI a)), (2, .int (nI b)), (3, .long p2), (5, .int p3)] := hl
  refine lv_iload_n hx hb dX1_offer_0 rfl (lv_at hl 1 rfl) ?_
  refine lv_bipush (v := 16) hx hb dX1_offer_1 (by decide) ?_
  refine lv_imul hx hb dX1_offer_3 ?_
  refine lv_nmi (show _ = (nI (a * 16)) from pk_mul (a) (16)) ?_
  refine lv_iload_n hx hb dX1_offer_4 rfl (lv_at hl 2 rfl) ?_
  refine lv_iadd hx hb dX1_offer_5 ?_
  refine lv_nmi (show _ = (nI ((a * 16) + b)) from nI_add ((a * 16)) (b)) ?_
  refine lv_istore (lv' := [(6, .int (nI ((a * 16) + b))), (0, .ref lg), (1, .int (nI a)), (2, .int (nI b)), (3, .long p2), (5, .int p3)]) hx hb dX1_offer_6 hl (by decide) rfl (fun ls hl => ?_)
  refine lv_lload_n hx hb dX1_offer_8 rfl (lv_at hl 4 rfl) ?_
  refine lv_aload_n hx hb dX1_offer_9 rfl (lv_at hl 1 rfl) ?_
  refine va_get (D := D) (ci := 1) (v := .ref l1) (C := RX1) (T := TX1) (N := 5) hx hb hts iT_X1 hown hK1 hP 0 rfl rfl 0 (by decide) (hts _ t_136) (fun _ h9 => h9) rfl dX1_offer_10 ?_
  refine lv_iload hx hb dX1_offer_13 (lv_at hl 0 rfl) ?_
  refine va_lald hx hb hK1 hP 1 1 rfl rfl (vp_in_nI (by omega) (by omega)) dX1_offer_15 ?_
  refine lv_nml (show _ = ff ((a * 16) + b) from by rw [nI_clamp (n := ((a * 16) + b)) (by omega)]) ?_
  refine W.lcmp hx hb dX1_offer_16 ?_
  refine lv_if_ge (tgt := 40) hx hb dX1_offer_17 (by decide) (fun c_1 => ?_) (fun c_1 => ?_)
  · skip
    refine lv_lload_n hx hb dX1_offer_40 rfl (lv_at hl 4 rfl) ?_
    refine lv_aload_n hx hb dX1_offer_41 rfl (lv_at hl 1 rfl) ?_
    refine va_get (D := D) (ci := 1) (v := .ref l1) (C := RX1) (T := TX1) (N := 5) hx hb hts iT_X1 hown hK1 hP 0 rfl rfl 0 (by decide) (hts _ t_136) (fun _ h9 => h9) rfl dX1_offer_42 ?_
    refine lv_iload hx hb dX1_offer_45 (lv_at hl 0 rfl) ?_
    refine va_lald hx hb hK1 hP 1 1 rfl rfl (vp_in_nI (by omega) (by omega)) dX1_offer_47 ?_
    refine lv_nml (show _ = ff ((a * 16) + b) from by rw [nI_clamp (n := ((a * 16) + b)) (by omega)]) ?_
    refine W.lcmp hx hb dX1_offer_48 ?_
    refine lv_if_ne (tgt := 73) hx hb dX1_offer_49 (by decide) (fun c_2 => ?_) (fun c_2 => ?_)
    · skip
      exact hret _ _ _ _ _ _ (ff, gf) dX1_offer_73 hS (Nat.le_of_ble_eq_true rfl) (Nat.le_of_ble_eq_true rfl) trivial (hP.sub [0, 1, 2, 3, 4, 5] rfl) (hD.sub [0, 1, 2, 3, 4, 5] rfl rfl)
    · skip
      refine lv_iload hx hb dX1_offer_52 (lv_at hl 5 rfl) ?_
      refine lv_aload_n hx hb dX1_offer_54 rfl (lv_at hl 1 rfl) ?_
      refine va_get (D := D) (ci := 1) (v := .ref l2) (C := RX1) (T := TX1) (N := 5) hx hb hts iT_X1 hown hK1 hP 0 rfl rfl 1 (by decide) (hts _ t_137) (fun _ h9 => h9) rfl dX1_offer_55 ?_
      refine lv_iload hx hb dX1_offer_58 (lv_at hl 0 rfl) ?_
      refine va_iald hx hb hK1 hP 2 0 rfl rfl (vp_in_nI (by omega) (by omega)) dX1_offer_60 ?_
      refine lv_nmi (show _ = gf ((a * 16) + b) from by rw [nI_clamp (n := ((a * 16) + b)) (by omega)]) ?_
      refine lv_icmp_ge (tgt := 73) hx hb dX1_offer_61 (by decide) (fun c_3 => ?_) (fun c_3 => ?_)
      · skip
        exact hret _ _ _ _ _ _ (ff, gf) dX1_offer_73 hS (Nat.le_of_ble_eq_true rfl) (Nat.le_of_ble_eq_true rfl) trivial (hP.sub [0, 1, 2, 3, 4, 5] rfl) (hD.sub [0, 1, 2, 3, 4, 5] rfl rfl)
      · skip
        refine lv_aload_n hx hb dX1_offer_64 rfl (lv_at hl 1 rfl) ?_
        refine va_get (D := D) (ci := 1) (v := .ref l2) (C := RX1) (T := TX1) (N := 5) hx hb hts iT_X1 hown hK1 hP 0 rfl rfl 1 (by decide) (hts _ t_137) (fun _ h9 => h9) rfl dX1_offer_65 ?_
        refine lv_iload hx hb dX1_offer_68 (lv_at hl 0 rfl) ?_
        refine lv_iload hx hb dX1_offer_70 (lv_at hl 5 rfl) ?_
        refine va_iast hx hb hK1 hP hD hS 2 0 rfl rfl (vp_in_nI (by omega) (by omega)) dX1_offer_72 (fun H locs hP hD hS => ?_)
        rw [nI_clamp (n := ((a * 16) + b)) (by omega)] at hP hD
        have hP : va_P D vwCl [kX1 lg l1 l2 l3 l4 l5, kJ cJ l1 96 ff, kI cI l2 96 (upd gf ((a * 16) + b) p3), kI cZ l3 96 zf, kI cI l4 96 kf, kI cI l5 6 cf] H := hP
        have hD : va_D A [kX1 lg l1 l2 l3 l4 l5, kJ cJ l1 96 ff, kI cI l2 96 (upd gf ((a * 16) + b) p3), kI cZ l3 96 zf, kI cI l4 96 kf, kI cI l5 6 cf] := hD
        exact hret _ _ _ _ _ _ (ff, upd gf ((a * 16) + b) p3) dX1_offer_73 hS (Nat.le_of_ble_eq_true rfl) (Nat.le_of_ble_eq_true rfl) trivial (hP.sub [0, 1, 2, 3, 4, 5] rfl) (hD.sub [0, 1, 2, 3, 4, 5] rfl rfl)
  · skip
    refine lv_aload_n hx hb dX1_offer_20 rfl (lv_at hl 1 rfl) ?_
    refine va_get (D := D) (ci := 1) (v := .ref l1) (C := RX1) (T := TX1) (N := 5) hx hb hts iT_X1 hown hK1 hP 0 rfl rfl 0 (by decide) (hts _ t_136) (fun _ h9 => h9) rfl dX1_offer_21 ?_
    refine lv_iload hx hb dX1_offer_24 (lv_at hl 0 rfl) ?_
    refine lv_lload_n hx hb dX1_offer_26 rfl (lv_at hl 4 rfl) ?_
    refine va_last hx hb hK1 hP hD hS 1 1 rfl rfl (vp_in_nI (by omega) (by omega)) dX1_offer_27 (fun H locs hP hD hS => ?_)
    rw [nI_clamp (n := ((a * 16) + b)) (by omega)] at hP hD
    have hP : va_P D vwCl [kX1 lg l1 l2 l3 l4 l5, kJ cJ l1 96 (vp_updL ff ((a * 16) + b) p2), kI cI l2 96 gf, kI cZ l3 96 zf, kI cI l4 96 kf, kI cI l5 6 cf] H := hP
    have hD : va_D A [kX1 lg l1 l2 l3 l4 l5, kJ cJ l1 96 (vp_updL ff ((a * 16) + b) p2), kI cI l2 96 gf, kI cZ l3 96 zf, kI cI l4 96 kf, kI cI l5 6 cf] := hD
    refine lv_aload_n hx hb dX1_offer_28 rfl (lv_at hl 1 rfl) ?_
    refine va_get (D := D) (ci := 1) (v := .ref l2) (C := RX1) (T := TX1) (N := 5) hx hb hts iT_X1 hown hK1 hP 0 rfl rfl 1 (by decide) (hts _ t_137) (fun _ h9 => h9) rfl dX1_offer_29 ?_
    refine lv_iload hx hb dX1_offer_32 (lv_at hl 0 rfl) ?_
    refine lv_iload hx hb dX1_offer_34 (lv_at hl 5 rfl) ?_
    refine va_iast hx hb hK1 hP hD hS 2 0 rfl rfl (vp_in_nI (by omega) (by omega)) dX1_offer_36 (fun H locs hP hD hS => ?_)
    rw [nI_clamp (n := ((a * 16) + b)) (by omega)] at hP hD
    have hP : va_P D vwCl [kX1 lg l1 l2 l3 l4 l5, kJ cJ l1 96 (vp_updL ff ((a * 16) + b) p2), kI cI l2 96 (upd gf ((a * 16) + b) p3), kI cZ l3 96 zf, kI cI l4 96 kf, kI cI l5 6 cf] H := hP
    have hD : va_D A [kX1 lg l1 l2 l3 l4 l5, kJ cJ l1 96 (vp_updL ff ((a * 16) + b) p2), kI cI l2 96 (upd gf ((a * 16) + b) p3), kI cZ l3 96 zf, kI cI l4 96 kf, kI cI l5 6 cf] := hD
    refine lv_goto (tgt := 73) hx hb dX1_offer_37 (by decide) ?_
    exact hret _ _ _ _ _ _ (vp_updL ff ((a * 16) + b) p2, upd gf ((a * 16) + b) p3) dX1_offer_73 hS (Nat.le_of_ble_eq_true rfl) (Nat.le_of_ble_eq_true rfl) trivial (hP.sub [0, 1, 2, 3, 4, 5] rfl) (hD.sub [0, 1, 2, 3, 4, 5] rfl rfl)
set_option maxHeartbeats 4000000 in
set_option maxRecDepth 100000 in
theorem c_X1_nearest (sz : Nat) (lg : Nat) (l1 : Nat) (l2 : Nat) (l3 : Nat) (l4 : Nat) (l5 : Nat) (ff : Nat → Int64) (gf : Nat → Int32) (zf : Nat → Int32) (kf : Nat → Int32) (cf : Nat → Int32)  : CTi l D cI cJ cZ cR yX1_nearest cX1_nearest 5 (some .int) 0 0 0 0 sz [.ref lg] [kX1 lg l1 l2 l3 l4 l5, kJ cJ l1 96 ff, kI cI l2 96 gf, kI cZ l3 96 zf, kI cI l4 96 kf, kI cI l5 6 cf] (fun (r : Int32) (u : Unit) => (NR zf r)) (fun (u : Unit) => [kX1 lg l1 l2 l3 l4 l5, kJ cJ l1 96 ff, kI cI l2 96 gf, kI cZ l3 96 zf, kI cI l4 96 kf, kI cI l5 6 cf]) := by
  refine CTi.of (ty := .int) (by decide) (Nat.le_of_ble_eq_true rfl) rfl ?_
  intro p e s m below meth c A Q ls hd hin hK hsz hP hD hA hS hl hret
  obtain ⟨hx, hb, hml, hown, hts⟩ := id hd
  have hK1 := hK.1
  have hown : s.vm.findClass RX1 = some m.cls := hown
  have hl : lv_has ls 5 [(0, .ref lg)] := hl
  refine lv_iconst (v := -1) hx hb dX1_nearest_0 (by decide) ?_
  refine lv_istore_n (lv' := [(1, .int (-1)), (0, .ref lg)]) hx hb dX1_nearest_1 rfl hl (by decide) rfl (fun ls hl => ?_)
  refine lv_ldc2 hx hb hown (hts _ t_462) dX1_nearest_2 ?_
  refine lv_lstore_n (lv' := [(2, .long 2305843009213693952), (1, .int (-1)), (0, .ref lg)]) hx hb dX1_nearest_5 rfl hl (by decide) rfl (fun ls hl => ?_)
  refine lv_iconst (v := 0) hx hb dX1_nearest_6 (by decide) ?_
  refine lv_istore (lv' := [(4, .int 0), (2, .long 2305843009213693952), (1, .int (-1)), (0, .ref lg)]) hx hb dX1_nearest_7 hl (by decide) rfl (fun ls hl => ?_)
  have LOOP_9 : ∀ (n : Nat) (i : Nat) (be : Int32) (le : Int64), (i + n = 96) → (NR zf be) → ∀ (H : Heap) (locs : List Loc) (ls : Array Slot), va_P D vwCl [kX1 lg l1 l2 l3 l4 l5, kJ cJ l1 96 ff, kI cI l2 96 gf, kI cZ l3 96 zf, kI cI l4 96 kf, kI cI l5 6 cf] H → va_D A [kX1 lg l1 l2 l3 l4 l5, kJ cJ l1 96 ff, kI cI l2 96 gf, kI cZ l3 96 zf, kI cI l4 96 kf, kI cI l5 6 cf] → va_S A s.heap H locs → lv_has ls 5 [(0, .ref lg), (1, .int be), (2, .long le), (4, .int (nI i))] → W p l e (rM 0 0 0 0) s m ([.ref lg] : List Value).toArray below meth c H locs 0 0 Q (F0 m 9 ls []) := by
    intro n
    induction n with
    | zero =>
      intro i be le hi hbe H locs ls hP hD hS hl
      refine lv_iload hx hb dX1_nearest_9 (lv_at hl 3 rfl) ?_
      refine lv_bipush (v := 96) hx hb dX1_nearest_11 (by decide) ?_
      refine lv_icmp_ge (tgt := 55) hx hb dX1_nearest_13 (by decide) (fun c_1 => ?_) (fun c_1 => ?_)
      rotate_left
      · exact absurd (nI_le (a := 96) (b := i) (by omega) (by omega)) c_1
      refine lv_iload_n hx hb dX1_nearest_55 rfl (lv_at hl 1 rfl) ?_
      exact hret _ _ _ _ _ _ be () dX1_nearest_56 rfl hS (Nat.le_of_ble_eq_true rfl) (Nat.le_of_ble_eq_true rfl) hbe (hP.sub [0, 1, 2, 3, 4, 5] rfl) (hD.sub [0, 1, 2, 3, 4, 5] rfl rfl)
    | succ n ih_9 =>
      intro i be le hi hbe H locs ls hP hD hS hl
      refine lv_iload hx hb dX1_nearest_9 (lv_at hl 3 rfl) ?_
      refine lv_bipush (v := 96) hx hb dX1_nearest_11 (by decide) ?_
      refine lv_icmp_ge (tgt := 55) hx hb dX1_nearest_13 (by decide) (fun c_2 => ?_) (fun c_2 => ?_)
      · exact absurd c_2 (nI_ge (a := i) (b := 96) (by omega) (by omega))
      refine lv_aload_n hx hb dX1_nearest_16 rfl (lv_at hl 0 rfl) ?_
      refine va_get (D := D) (ci := 1) (v := .ref l3) (C := RX1) (T := TX1) (N := 5) hx hb hts iT_X1 hown hK1 hP 0 rfl rfl 2 (by decide) (hts _ t_138) (fun _ h9 => h9) rfl dX1_nearest_17 ?_
      refine lv_iload hx hb dX1_nearest_20 (lv_at hl 3 rfl) ?_
      refine va_zald hx hb hK1 hP 3 2 rfl rfl (vp_in_nI (by omega) (by omega)) dX1_nearest_22 ?_
      refine lv_nmi (show _ = zf i from by rw [nI_clamp (n := i) (by omega)]) ?_
      refine lv_if_ne (tgt := 49) hx hb dX1_nearest_23 (by decide) (fun c_3 => ?_) (fun c_3 => ?_)
      · skip
        refine lv_iinc (v := nI (i + 1)) (lv' := [(4, .int (nI (i + 1))), (0, .ref lg), (1, .int be), (2, .long le)]) hx hb dX1_nearest_49 hl (k := 3) rfl (nI_1 i) (by decide) rfl (fun ls hl => ?_)
        refine lv_goto (tgt := 9) hx hb dX1_nearest_52 (by decide) ?_
        exact ih_9 (i + 1) be le (by omega) hbe _ _ _ (hP.sub [0, 1, 2, 3, 4, 5] rfl) (hD.sub [0, 1, 2, 3, 4, 5] rfl rfl) hS (lv_sub hl [1, 2, 3, 0] rfl)
      · skip
        refine lv_aload_n hx hb dX1_nearest_26 rfl (lv_at hl 0 rfl) ?_
        refine va_get (D := D) (ci := 1) (v := .ref l1) (C := RX1) (T := TX1) (N := 5) hx hb hts iT_X1 hown hK1 hP 0 rfl rfl 0 (by decide) (hts _ t_136) (fun _ h9 => h9) rfl dX1_nearest_27 ?_
        refine lv_iload hx hb dX1_nearest_30 (lv_at hl 3 rfl) ?_
        refine va_lald hx hb hK1 hP 1 1 rfl rfl (vp_in_nI (by omega) (by omega)) dX1_nearest_32 ?_
        refine lv_nml (show _ = ff i from by rw [nI_clamp (n := i) (by omega)]) ?_
        refine lv_lload_n hx hb dX1_nearest_33 rfl (lv_at hl 2 rfl) ?_
        refine W.lcmp hx hb dX1_nearest_34 ?_
        refine lv_if_ge (tgt := 49) hx hb dX1_nearest_35 (by decide) (fun c_4 => ?_) (fun c_4 => ?_)
        · skip
          refine lv_iinc (v := nI (i + 1)) (lv' := [(4, .int (nI (i + 1))), (0, .ref lg), (1, .int be), (2, .long le)]) hx hb dX1_nearest_49 hl (k := 3) rfl (nI_1 i) (by decide) rfl (fun ls hl => ?_)
          refine lv_goto (tgt := 9) hx hb dX1_nearest_52 (by decide) ?_
          exact ih_9 (i + 1) be le (by omega) hbe _ _ _ (hP.sub [0, 1, 2, 3, 4, 5] rfl) (hD.sub [0, 1, 2, 3, 4, 5] rfl rfl) hS (lv_sub hl [1, 2, 3, 0] rfl)
        · skip
          refine lv_iload hx hb dX1_nearest_38 (lv_at hl 3 rfl) ?_
          refine lv_istore_n (lv' := [(1, .int (nI i)), (0, .ref lg), (2, .long le), (4, .int (nI i))]) hx hb dX1_nearest_40 rfl hl (by decide) rfl (fun ls hl => ?_)
          refine lv_aload_n hx hb dX1_nearest_41 rfl (lv_at hl 1 rfl) ?_
          refine va_get (D := D) (ci := 1) (v := .ref l1) (C := RX1) (T := TX1) (N := 5) hx hb hts iT_X1 hown hK1 hP 0 rfl rfl 0 (by decide) (hts _ t_136) (fun _ h9 => h9) rfl dX1_nearest_42 ?_
          refine lv_iload hx hb dX1_nearest_45 (lv_at hl 3 rfl) ?_
          refine va_lald hx hb hK1 hP 1 1 rfl rfl (vp_in_nI (by omega) (by omega)) dX1_nearest_47 ?_
          refine lv_nml (show _ = ff i from by rw [nI_clamp (n := i) (by omega)]) ?_
          refine lv_lstore_n (lv' := [(2, .long (ff i)), (1, .int (nI i)), (0, .ref lg), (4, .int (nI i))]) hx hb dX1_nearest_48 rfl hl (by decide) rfl (fun ls hl => ?_)
          refine lv_iinc (v := nI (i + 1)) (lv' := [(4, .int (nI (i + 1))), (2, .long (ff i)), (1, .int (nI i)), (0, .ref lg)]) hx hb dX1_nearest_49 hl (k := 3) rfl (nI_1 i) (by decide) rfl (fun ls hl => ?_)
          refine lv_goto (tgt := 9) hx hb dX1_nearest_52 (by decide) ?_
          exact ih_9 (i + 1) (nI i) (ff i) (by omega) (Or.inr ⟨i, by omega, rfl, c_3⟩) _ _ _ (hP.sub [0, 1, 2, 3, 4, 5] rfl) (hD.sub [0, 1, 2, 3, 4, 5] rfl rfl) hS (lv_sub hl [3, 2, 1, 0] rfl)
  exact LOOP_9 96 0 (-1) 2305843009213693952 (by omega) (Or.inl rfl) _ _ _ (hP.sub [0, 1, 2, 3, 4, 5] rfl) (hD.sub [0, 1, 2, 3, 4, 5] rfl rfl) hS (lv_sub hl [3, 2, 1, 0] rfl)
set_option maxHeartbeats 4000000 in
set_option maxRecDepth 100000 in
theorem c_X1_settle (sz : Nat) (lg : Nat) (l1 : Nat) (l2 : Nat) (l3 : Nat) (l4 : Nat) (l5 : Nat) (a : Nat) (b : Nat) (ff : Nat → Int64) (gf : Nat → Int32) (zf : Nat → Int32) (kf : Nat → Int32) (cf : Nat → Int32) (ha : a < 6) (hb0 : b < 16) (hc : cf a = nI (cz zf (a * 16) 16)) (hlt : cz zf (a * 16) 16 < 16) : CTv l D cI cJ cZ cR yX1_settle cX1_settle 3 none 0 0 0 0 sz [.ref lg, .int (nI a), .int (nI b)] [kX1 lg l1 l2 l3 l4 l5, kJ cJ l1 96 ff, kI cI l2 96 gf, kI cZ l3 96 zf, kI cI l4 96 kf, kI cI l5 6 cf] (fun (u : Unit) => True) (fun (u : Unit) => [kX1 lg l1 l2 l3 l4 l5, kJ cJ l1 96 ff, kI cI l2 96 gf, kI cZ l3 96 (upd zf (a * 16 + b) 1), kI cI l4 96 (upd kf (a * 16 + cz zf (a * 16) 16) (nI b)), kI cI l5 6 (upd cf a (nI (cz zf (a * 16) 16 + 1)))]) := by
  refine CTv.of (by decide) (Nat.le_of_ble_eq_true rfl) rfl ?_
  intro p e s m below meth c A Q ls hd hin hK hsz hP hD hA hS hl hret
  obtain ⟨hx, hb, hml, hown, hts⟩ := id hd
  have hK1 := hK.1
  have hown : s.vm.findClass RX1 = some m.cls := hown
  have hl : lv_has ls 3 [(0, .ref lg), (1, .int (nI a)), (2, .int (nI b))] := hl
  refine lv_aload_n hx hb dX1_settle_0 rfl (lv_at hl 0 rfl) ?_
  refine va_get (D := D) (ci := 1) (v := .ref l3) (C := RX1) (T := TX1) (N := 5) hx hb hts iT_X1 hown hK1 hP 0 rfl rfl 2 (by decide) (hts _ t_138) (fun _ h9 => h9) rfl dX1_settle_1 ?_
  refine lv_iload_n hx hb dX1_settle_4 rfl (lv_at hl 1 rfl) ?_
  refine lv_bipush (v := 16) hx hb dX1_settle_5 (by decide) ?_
  refine lv_imul hx hb dX1_settle_7 ?_
  refine lv_nmi (show _ = (nI (a * 16)) from pk_mul (a) (16)) ?_
  refine lv_iload_n hx hb dX1_settle_8 rfl (lv_at hl 2 rfl) ?_
  refine lv_iadd hx hb dX1_settle_9 ?_
  refine lv_nmi (show _ = (nI ((a * 16) + b)) from nI_add ((a * 16)) (b)) ?_
  refine lv_iconst (v := 1) hx hb dX1_settle_10 (by decide) ?_
  refine va_zast hx hb hK1 hP hD hS 3 2 rfl rfl (vp_in_nI (by omega) (by omega)) dX1_settle_11 (fun H locs hP hD hS => ?_)
  rw [nI_clamp (n := ((a * 16) + b)) (by omega)] at hP hD
  have hP : va_P D vwCl [kX1 lg l1 l2 l3 l4 l5, kJ cJ l1 96 ff, kI cI l2 96 gf, kI cZ l3 96 (upd zf ((a * 16) + b) 1), kI cI l4 96 kf, kI cI l5 6 cf] H := hP
  have hD : va_D A [kX1 lg l1 l2 l3 l4 l5, kJ cJ l1 96 ff, kI cI l2 96 gf, kI cZ l3 96 (upd zf ((a * 16) + b) 1), kI cI l4 96 kf, kI cI l5 6 cf] := hD
  have hfe : (upd zf ((a * 16) + b) 1) = upd zf (a * 16 + b) 1 := rfl
  rw [hfe] at hP hD
  refine lv_aload_n hx hb dX1_settle_12 rfl (lv_at hl 0 rfl) ?_
  refine va_get (D := D) (ci := 1) (v := .ref l4) (C := RX1) (T := TX1) (N := 5) hx hb hts iT_X1 hown hK1 hP 0 rfl rfl 3 (by decide) (hts _ t_139) (fun _ h9 => h9) rfl dX1_settle_13 ?_
  refine lv_iload_n hx hb dX1_settle_16 rfl (lv_at hl 1 rfl) ?_
  refine lv_bipush (v := 16) hx hb dX1_settle_17 (by decide) ?_
  refine lv_imul hx hb dX1_settle_19 ?_
  refine lv_nmi (show _ = (nI (a * 16)) from pk_mul (a) (16)) ?_
  refine lv_aload_n hx hb dX1_settle_20 rfl (lv_at hl 0 rfl) ?_
  refine va_get (D := D) (ci := 1) (v := .ref l5) (C := RX1) (T := TX1) (N := 5) hx hb hts iT_X1 hown hK1 hP 0 rfl rfl 4 (by decide) (hts _ t_140) (fun _ h9 => h9) rfl dX1_settle_21 ?_
  refine lv_iload_n hx hb dX1_settle_24 rfl (lv_at hl 1 rfl) ?_
  refine va_iald hx hb hK1 hP 5 0 rfl rfl (vp_in_nI (by omega) (by omega)) dX1_settle_25 ?_
  refine lv_nmi (show _ = cf a from by rw [nI_clamp (n := a) (by omega)]) ?_
  refine lv_nmi (show _ = (nI (cz zf (a * 16) 16) : Int32) from hc) ?_
  refine lv_iadd hx hb dX1_settle_26 ?_
  refine lv_nmi (show _ = (nI ((a * 16) + (cz zf (a * 16) 16))) from nI_add ((a * 16)) ((cz zf (a * 16) 16))) ?_
  refine lv_iload_n hx hb dX1_settle_27 rfl (lv_at hl 2 rfl) ?_
  refine va_iast hx hb hK1 hP hD hS 4 0 rfl rfl (vp_in_nI (by omega) (by omega)) dX1_settle_28 (fun H locs hP hD hS => ?_)
  rw [nI_clamp (n := ((a * 16) + (cz zf (a * 16) 16))) (by omega)] at hP hD
  have hP : va_P D vwCl [kX1 lg l1 l2 l3 l4 l5, kJ cJ l1 96 ff, kI cI l2 96 gf, kI cZ l3 96 (upd zf (a * 16 + b) 1), kI cI l4 96 (upd kf ((a * 16) + (cz zf (a * 16) 16)) (nI b)), kI cI l5 6 cf] H := hP
  have hD : va_D A [kX1 lg l1 l2 l3 l4 l5, kJ cJ l1 96 ff, kI cI l2 96 gf, kI cZ l3 96 (upd zf (a * 16 + b) 1), kI cI l4 96 (upd kf ((a * 16) + (cz zf (a * 16) 16)) (nI b)), kI cI l5 6 cf] := hD
  have hfe : (upd kf ((a * 16) + (cz zf (a * 16) 16)) (nI b)) = upd kf (a * 16 + cz zf (a * 16) 16) (nI b) := rfl
  rw [hfe] at hP hD
  refine lv_aload_n hx hb dX1_settle_29 rfl (lv_at hl 0 rfl) ?_
  refine va_get (D := D) (ci := 1) (v := .ref l5) (C := RX1) (T := TX1) (N := 5) hx hb hts iT_X1 hown hK1 hP 0 rfl rfl 4 (by decide) (hts _ t_140) (fun _ h9 => h9) rfl dX1_settle_30 ?_
  refine lv_iload_n hx hb dX1_settle_33 rfl (lv_at hl 1 rfl) ?_
  refine lv_dup2_11 hx hb dX1_settle_34 rfl rfl ?_
  refine va_iald hx hb hK1 hP 5 0 rfl rfl (vp_in_nI (by omega) (by omega)) dX1_settle_35 ?_
  refine lv_nmi (show _ = cf a from by rw [nI_clamp (n := a) (by omega)]) ?_
  refine lv_nmi (show _ = (nI (cz zf (a * 16) 16) : Int32) from hc) ?_
  refine lv_iconst (v := 1) hx hb dX1_settle_36 (by decide) ?_
  refine lv_iadd hx hb dX1_settle_37 ?_
  refine lv_nmi (show _ = (nI ((cz zf (a * 16) 16) + 1)) from nI_add ((cz zf (a * 16) 16)) (1)) ?_
  refine va_iast hx hb hK1 hP hD hS 5 0 rfl rfl (vp_in_nI (by omega) (by omega)) dX1_settle_38 (fun H locs hP hD hS => ?_)
  rw [nI_clamp (n := a) (by omega)] at hP hD
  have hP : va_P D vwCl [kX1 lg l1 l2 l3 l4 l5, kJ cJ l1 96 ff, kI cI l2 96 gf, kI cZ l3 96 (upd zf (a * 16 + b) 1), kI cI l4 96 (upd kf (a * 16 + cz zf (a * 16) 16) (nI b)), kI cI l5 6 (upd cf a (nI ((cz zf (a * 16) 16) + 1)))] H := hP
  have hD : va_D A [kX1 lg l1 l2 l3 l4 l5, kJ cJ l1 96 ff, kI cI l2 96 gf, kI cZ l3 96 (upd zf (a * 16 + b) 1), kI cI l4 96 (upd kf (a * 16 + cz zf (a * 16) 16) (nI b)), kI cI l5 6 (upd cf a (nI ((cz zf (a * 16) 16) + 1)))] := hD
  have hfe : (upd cf a (nI ((cz zf (a * 16) 16) + 1))) = upd cf a (nI (cz zf (a * 16) 16 + 1)) := rfl
  rw [hfe] at hP hD
  exact hret _ _ _ _ _ _ () dX1_settle_39 hS (Nat.le_of_ble_eq_true rfl) (Nat.le_of_ble_eq_true rfl) trivial (hP.sub [0, 1, 2, 3, 4, 5] rfl) (hD.sub [0, 1, 2, 3, 4, 5] rfl rfl)
set_option maxHeartbeats 4000000 in
set_option maxRecDepth 100000 in
theorem g_choices_00 (sz : Nat) (lg : Nat) (l1 : Nat) (l2 : Nat) (l3 : Nat) (l4 : Nat) (l5 : Nat) (rl : Nat) (b0 : Nat) (a1 : Nat) (a2 : Nat) (a3 : Nat) (s0 : Nat) (w0 : Nat) (u0 : Nat) (ff : Nat → Int64) (gf : Nat → Int32) (zf : Nat → Int32) (kf : Nat → Int32) (cf : Nat → Int32) (op : Int32) (en : Int32) (ev : Int32) (x1 : Nat → Int32) (x2 : Nat → Int32) (x3 : Nat → Int32) (x4 : Nat → Int32) (x5 : Nat → Int32) (x6 : Nat → Int32)  : CTi l D cI cJ cZ cR yX1_choices cX1_choices 4 (some .int) 0 0 0 0 sz [.ref lg, .ref rl, .int 0, .int 0] [kX1 lg l1 l2 l3 l4 l5, kJ cJ l1 96 ff, kI cI l2 96 gf, kI cZ l3 96 zf, kI cI l4 96 kf, kI cI l5 6 cf, kX4 rl op b0 s0 w0 u0, kX0 b0 a1 a2 a3 en ev, kI cI a1 3 x1, kI cI a2 3 x2, kI cI a3 3 x3, kI cI s0 3 x4, kI cI w0 64 x5, kI cI u0 64 x6] (fun (r : Int32) (u : Unit) => (r = 1)) (fun (u : Unit) => [kX1 lg l1 l2 l3 l4 l5, kJ cJ l1 96 ff, kI cI l2 96 gf, kI cZ l3 96 zf, kI cI l4 96 kf, kI cI l5 6 cf, kX4 rl op b0 s0 w0 u0, kX0 b0 a1 a2 a3 en ev, kI cI a1 3 x1, kI cI a2 3 x2, kI cI a3 3 x3, kI cI s0 3 x4, kI cI w0 64 x5, kI cI u0 64 x6]) := by
  refine CTi.of (ty := .int) (by decide) (Nat.le_of_ble_eq_true rfl) rfl ?_
  intro p e s m below meth c A Q ls hd hin hK hsz hP hD hA hS hl hret
  obtain ⟨hx, hb, hml, hown, hts⟩ := id hd
  have hK1 := hK.1
  have hown : s.vm.findClass RX1 = some m.cls := hown
  have hl : lv_has ls 4 [(0, .ref lg), (1, .ref rl), (2, .int 0), (3, .int 0)] := hl
  refine lv_iload_n hx hb dX1_choices_0 rfl (lv_at hl 2 rfl) ?_
  refine lv_iload_n hx hb dX1_choices_1 rfl (lv_at hl 3 rfl) ?_
  refine lv_icmp_ne (tgt := 9) hx hb dX1_choices_2 (by decide) (fun c_1 => ?_) (fun c_1 => ?_)
  · exact absurd c_1 (by decide)
  refine lv_iconst (v := 1) hx hb dX1_choices_5 (by decide) ?_
  refine lv_goto (tgt := 20) hx hb dX1_choices_6 (by decide) ?_
  exact hret _ _ _ _ _ _ 1 () dX1_choices_20 rfl hS (Nat.le_of_ble_eq_true rfl) (Nat.le_of_ble_eq_true rfl) rfl (hP.sub [0, 1, 2, 3, 4, 5, 6, 7, 8, 9, 10, 11, 12, 13] rfl) (hD.sub [0, 1, 2, 3, 4, 5, 6, 7, 8, 9, 10, 11, 12, 13] rfl rfl)
set_option maxHeartbeats 4000000 in
set_option maxRecDepth 100000 in
theorem g_choices_01 (sz : Nat) (lg : Nat) (l1 : Nat) (l2 : Nat) (l3 : Nat) (l4 : Nat) (l5 : Nat) (rl : Nat) (b0 : Nat) (a1 : Nat) (a2 : Nat) (a3 : Nat) (s0 : Nat) (w0 : Nat) (u0 : Nat) (tt : Nat) (ff : Nat → Int64) (gf : Nat → Int32) (zf : Nat → Int32) (kf : Nat → Int32) (cf : Nat → Int32) (op : Int32) (en : Int32) (ev : Int32) (x1 : Nat → Int32) (x2 : Nat → Int32) (x3 : Nat → Int32) (x4 : Nat → Int32) (x5 : Nat → Int32) (x6 : Nat → Int32) (es : x4 0 = nI tt) (hts6 : tt < 6) (hcc : cf tt = nI (cz zf (tt * 16) 16)) : CTi l D cI cJ cZ cR yX1_choices cX1_choices 4 (some .int) 0 0 0 0 sz [.ref lg, .ref rl, .int 0, .int 1] [kX1 lg l1 l2 l3 l4 l5, kJ cJ l1 96 ff, kI cI l2 96 gf, kI cZ l3 96 zf, kI cI l4 96 kf, kI cI l5 6 cf, kX4 rl op b0 s0 w0 u0, kX0 b0 a1 a2 a3 en ev, kI cI a1 3 x1, kI cI a2 3 x2, kI cI a3 3 x3, kI cI s0 3 x4, kI cI w0 64 x5, kI cI u0 64 x6] (fun (r : Int32) (u : Unit) => (r = (nI (cz zf (tt * 16) 16)))) (fun (u : Unit) => [kX1 lg l1 l2 l3 l4 l5, kJ cJ l1 96 ff, kI cI l2 96 gf, kI cZ l3 96 zf, kI cI l4 96 kf, kI cI l5 6 cf, kX4 rl op b0 s0 w0 u0, kX0 b0 a1 a2 a3 en ev, kI cI a1 3 x1, kI cI a2 3 x2, kI cI a3 3 x3, kI cI s0 3 x4, kI cI w0 64 x5, kI cI u0 64 x6]) := by
  refine CTi.of (ty := .int) (by decide) (Nat.le_of_ble_eq_true rfl) rfl ?_
  intro p e s m below meth c A Q ls hd hin hK hsz hP hD hA hS hl hret
  obtain ⟨hx, hb, hml, hown, hts⟩ := id hd
  have hK1 := hK.1
  have hown : s.vm.findClass RX1 = some m.cls := hown
  have hl : lv_has ls 4 [(0, .ref lg), (1, .ref rl), (2, .int 0), (3, .int 1)] := hl
  refine lv_iload_n hx hb dX1_choices_0 rfl (lv_at hl 2 rfl) ?_
  refine lv_iload_n hx hb dX1_choices_1 rfl (lv_at hl 3 rfl) ?_
  refine lv_icmp_ne (tgt := 9) hx hb dX1_choices_2 (by decide) (fun c_1 => ?_) (fun c_1 => ?_)
  rotate_left
  · exact absurd c_1 (by decide)
  refine lv_aload_n hx hb dX1_choices_9 rfl (lv_at hl 0 rfl) ?_
  refine va_get (D := D) (ci := 1) (v := .ref l5) (C := RX1) (T := TX1) (N := 5) hx hb hts iT_X1 hown hK1 hP 0 rfl rfl 4 (by decide) (hts _ t_140) (fun _ h9 => h9) rfl dX1_choices_10 ?_
  refine lv_aload_n hx hb dX1_choices_13 rfl (lv_at hl 1 rfl) ?_
  refine va_get (D := D) (ci := 4) (v := .ref s0) (C := RX4) (T := TX4) (N := 5) hx hb hts iT_X4 hown hK1 hP 6 rfl rfl 2 (by decide) (hts _ t_88) (fun _ h9 => h9) rfl dX1_choices_14 ?_
  refine lv_iload_n hx hb dX1_choices_17 rfl (lv_at hl 2 rfl) ?_
  refine va_iald hx hb hK1 hP 11 0 rfl rfl (vin (by decide)) dX1_choices_18 ?_
  refine lv_nmi (show _ = x4 0 from rfl) ?_
  refine lv_nmi (show _ = (nI tt : Int32) from es) ?_
  refine va_iald hx hb hK1 hP 5 0 rfl rfl (vp_in_nI (by omega) (by omega)) dX1_choices_19 ?_
  refine lv_nmi (show _ = cf tt from by rw [nI_clamp (n := tt) (by omega)]) ?_
  refine lv_nmi (show _ = (nI (cz zf (tt * 16) 16) : Int32) from hcc) ?_
  exact hret _ _ _ _ _ _ (nI (cz zf (tt * 16) 16)) () dX1_choices_20 rfl hS (Nat.le_of_ble_eq_true rfl) (Nat.le_of_ble_eq_true rfl) rfl (hP.sub [0, 1, 2, 3, 4, 5, 6, 7, 8, 9, 10, 11, 12, 13] rfl) (hD.sub [0, 1, 2, 3, 4, 5, 6, 7, 8, 9, 10, 11, 12, 13] rfl rfl)
set_option maxHeartbeats 4000000 in
set_option maxRecDepth 100000 in
theorem g_choices_02 (sz : Nat) (lg : Nat) (l1 : Nat) (l2 : Nat) (l3 : Nat) (l4 : Nat) (l5 : Nat) (rl : Nat) (b0 : Nat) (a1 : Nat) (a2 : Nat) (a3 : Nat) (s0 : Nat) (w0 : Nat) (u0 : Nat) (tt : Nat) (ff : Nat → Int64) (gf : Nat → Int32) (zf : Nat → Int32) (kf : Nat → Int32) (cf : Nat → Int32) (op : Int32) (en : Int32) (ev : Int32) (x1 : Nat → Int32) (x2 : Nat → Int32) (x3 : Nat → Int32) (x4 : Nat → Int32) (x5 : Nat → Int32) (x6 : Nat → Int32) (es : x4 0 = nI tt) (hts6 : tt < 6) (hcc : cf tt = nI (cz zf (tt * 16) 16)) : CTi l D cI cJ cZ cR yX1_choices cX1_choices 4 (some .int) 0 0 0 0 sz [.ref lg, .ref rl, .int 0, .int 2] [kX1 lg l1 l2 l3 l4 l5, kJ cJ l1 96 ff, kI cI l2 96 gf, kI cZ l3 96 zf, kI cI l4 96 kf, kI cI l5 6 cf, kX4 rl op b0 s0 w0 u0, kX0 b0 a1 a2 a3 en ev, kI cI a1 3 x1, kI cI a2 3 x2, kI cI a3 3 x3, kI cI s0 3 x4, kI cI w0 64 x5, kI cI u0 64 x6] (fun (r : Int32) (u : Unit) => (r = (nI (cz zf (tt * 16) 16)))) (fun (u : Unit) => [kX1 lg l1 l2 l3 l4 l5, kJ cJ l1 96 ff, kI cI l2 96 gf, kI cZ l3 96 zf, kI cI l4 96 kf, kI cI l5 6 cf, kX4 rl op b0 s0 w0 u0, kX0 b0 a1 a2 a3 en ev, kI cI a1 3 x1, kI cI a2 3 x2, kI cI a3 3 x3, kI cI s0 3 x4, kI cI w0 64 x5, kI cI u0 64 x6]) := by
  refine CTi.of (ty := .int) (by decide) (Nat.le_of_ble_eq_true rfl) rfl ?_
  intro p e s m below meth c A Q ls hd hin hK hsz hP hD hA hS hl hret
  obtain ⟨hx, hb, hml, hown, hts⟩ := id hd
  have hK1 := hK.1
  have hown : s.vm.findClass RX1 = some m.cls := hown
  have hl : lv_has ls 4 [(0, .ref lg), (1, .ref rl), (2, .int 0), (3, .int 2)] := hl
  refine lv_iload_n hx hb dX1_choices_0 rfl (lv_at hl 2 rfl) ?_
  refine lv_iload_n hx hb dX1_choices_1 rfl (lv_at hl 3 rfl) ?_
  refine lv_icmp_ne (tgt := 9) hx hb dX1_choices_2 (by decide) (fun c_1 => ?_) (fun c_1 => ?_)
  rotate_left
  · exact absurd c_1 (by decide)
  refine lv_aload_n hx hb dX1_choices_9 rfl (lv_at hl 0 rfl) ?_
  refine va_get (D := D) (ci := 1) (v := .ref l5) (C := RX1) (T := TX1) (N := 5) hx hb hts iT_X1 hown hK1 hP 0 rfl rfl 4 (by decide) (hts _ t_140) (fun _ h9 => h9) rfl dX1_choices_10 ?_
  refine lv_aload_n hx hb dX1_choices_13 rfl (lv_at hl 1 rfl) ?_
  refine va_get (D := D) (ci := 4) (v := .ref s0) (C := RX4) (T := TX4) (N := 5) hx hb hts iT_X4 hown hK1 hP 6 rfl rfl 2 (by decide) (hts _ t_88) (fun _ h9 => h9) rfl dX1_choices_14 ?_
  refine lv_iload_n hx hb dX1_choices_17 rfl (lv_at hl 2 rfl) ?_
  refine va_iald hx hb hK1 hP 11 0 rfl rfl (vin (by decide)) dX1_choices_18 ?_
  refine lv_nmi (show _ = x4 0 from rfl) ?_
  refine lv_nmi (show _ = (nI tt : Int32) from es) ?_
  refine va_iald hx hb hK1 hP 5 0 rfl rfl (vp_in_nI (by omega) (by omega)) dX1_choices_19 ?_
  refine lv_nmi (show _ = cf tt from by rw [nI_clamp (n := tt) (by omega)]) ?_
  refine lv_nmi (show _ = (nI (cz zf (tt * 16) 16) : Int32) from hcc) ?_
  exact hret _ _ _ _ _ _ (nI (cz zf (tt * 16) 16)) () dX1_choices_20 rfl hS (Nat.le_of_ble_eq_true rfl) (Nat.le_of_ble_eq_true rfl) rfl (hP.sub [0, 1, 2, 3, 4, 5, 6, 7, 8, 9, 10, 11, 12, 13] rfl) (hD.sub [0, 1, 2, 3, 4, 5, 6, 7, 8, 9, 10, 11, 12, 13] rfl rfl)
set_option maxHeartbeats 4000000 in
set_option maxRecDepth 100000 in
theorem g_settledKind_0 (sz : Nat) (lg : Nat) (l1 : Nat) (l2 : Nat) (l3 : Nat) (l4 : Nat) (l5 : Nat) (rl : Nat) (b0 : Nat) (a1 : Nat) (a2 : Nat) (a3 : Nat) (s0 : Nat) (w0 : Nat) (u0 : Nat) (tt : Nat) (ff : Nat → Int64) (gf : Nat → Int32) (zf : Nat → Int32) (kf : Nat → Int32) (cf : Nat → Int32) (op : Int32) (en : Int32) (ev : Int32) (x1 : Nat → Int32) (x2 : Nat → Int32) (x3 : Nat → Int32) (x4 : Nat → Int32) (x5 : Nat → Int32) (x6 : Nat → Int32) (i : Nat) (q : Nat) (es : x4 0 = nI tt) (hts6 : tt < 6) (hi16 : i < 16) (hkq : kf (tt * 16 + i) = nI q) : CTi l D cI cJ cZ cR yX1_settledKind cX1_settledKind 4 (some .int) 0 0 0 0 sz [.ref lg, .ref rl, .int 0, .int (nI i)] [kX1 lg l1 l2 l3 l4 l5, kJ cJ l1 96 ff, kI cI l2 96 gf, kI cZ l3 96 zf, kI cI l4 96 kf, kI cI l5 6 cf, kX4 rl op b0 s0 w0 u0, kX0 b0 a1 a2 a3 en ev, kI cI a1 3 x1, kI cI a2 3 x2, kI cI a3 3 x3, kI cI s0 3 x4, kI cI w0 64 x5, kI cI u0 64 x6] (fun (r : Int32) (u : Unit) => (r = (nI q))) (fun (u : Unit) => [kX1 lg l1 l2 l3 l4 l5, kJ cJ l1 96 ff, kI cI l2 96 gf, kI cZ l3 96 zf, kI cI l4 96 kf, kI cI l5 6 cf, kX4 rl op b0 s0 w0 u0, kX0 b0 a1 a2 a3 en ev, kI cI a1 3 x1, kI cI a2 3 x2, kI cI a3 3 x3, kI cI s0 3 x4, kI cI w0 64 x5, kI cI u0 64 x6]) := by
  refine CTi.of (ty := .int) (by decide) (Nat.le_of_ble_eq_true rfl) rfl ?_
  intro p e s m below meth c A Q ls hd hin hK hsz hP hD hA hS hl hret
  obtain ⟨hx, hb, hml, hown, hts⟩ := id hd
  have hK1 := hK.1
  have hown : s.vm.findClass RX1 = some m.cls := hown
  have hl : lv_has ls 4 [(0, .ref lg), (1, .ref rl), (2, .int 0), (3, .int (nI i))] := hl
  refine lv_aload_n hx hb dX1_settledKind_0 rfl (lv_at hl 0 rfl) ?_
  refine va_get (D := D) (ci := 1) (v := .ref l4) (C := RX1) (T := TX1) (N := 5) hx hb hts iT_X1 hown hK1 hP 0 rfl rfl 3 (by decide) (hts _ t_139) (fun _ h9 => h9) rfl dX1_settledKind_1 ?_
  refine lv_aload_n hx hb dX1_settledKind_4 rfl (lv_at hl 1 rfl) ?_
  refine va_get (D := D) (ci := 4) (v := .ref s0) (C := RX4) (T := TX4) (N := 5) hx hb hts iT_X4 hown hK1 hP 6 rfl rfl 2 (by decide) (hts _ t_88) (fun _ h9 => h9) rfl dX1_settledKind_5 ?_
  refine lv_iload_n hx hb dX1_settledKind_8 rfl (lv_at hl 2 rfl) ?_
  refine va_iald hx hb hK1 hP 11 0 rfl rfl (vin (by decide)) dX1_settledKind_9 ?_
  refine lv_nmi (show _ = x4 0 from rfl) ?_
  refine lv_nmi (show _ = (nI tt : Int32) from es) ?_
  refine lv_bipush (v := 16) hx hb dX1_settledKind_10 (by decide) ?_
  refine lv_imul hx hb dX1_settledKind_12 ?_
  refine lv_nmi (show _ = (nI (tt * 16)) from pk_mul (tt) (16)) ?_
  refine lv_iload_n hx hb dX1_settledKind_13 rfl (lv_at hl 3 rfl) ?_
  refine lv_iadd hx hb dX1_settledKind_14 ?_
  refine lv_nmi (show _ = (nI ((tt * 16) + i)) from nI_add ((tt * 16)) (i)) ?_
  refine va_iald hx hb hK1 hP 4 0 rfl rfl (vp_in_nI (by omega) (by omega)) dX1_settledKind_15 ?_
  refine lv_nmi (show _ = kf ((tt * 16) + i) from by rw [nI_clamp (n := ((tt * 16) + i)) (by omega)]) ?_
  refine lv_nmi (show _ = (nI q : Int32) from hkq) ?_
  exact hret _ _ _ _ _ _ (nI q) () dX1_settledKind_16 rfl hS (Nat.le_of_ble_eq_true rfl) (Nat.le_of_ble_eq_true rfl) rfl (hP.sub [0, 1, 2, 3, 4, 5, 6, 7, 8, 9, 10, 11, 12, 13] rfl) (hD.sub [0, 1, 2, 3, 4, 5, 6, 7, 8, 9, 10, 11, 12, 13] rfl rfl)
set_option maxHeartbeats 4000000 in
set_option maxRecDepth 100000 in
theorem g_stepsIn_0 (sz : Nat) (lg : Nat) (l1 : Nat) (l2 : Nat) (l3 : Nat) (l4 : Nat) (l5 : Nat) (rl : Nat) (b0 : Nat) (a1 : Nat) (a2 : Nat) (a3 : Nat) (s0 : Nat) (w0 : Nat) (u0 : Nat) (tt : Nat) (ff : Nat → Int64) (gf : Nat → Int32) (zf : Nat → Int32) (kf : Nat → Int32) (cf : Nat → Int32) (op : Int32) (en : Int32) (ev : Int32) (x1 : Nat → Int32) (x2 : Nat → Int32) (x3 : Nat → Int32) (x4 : Nat → Int32) (x5 : Nat → Int32) (x6 : Nat → Int32) (q : Nat) (es : x4 0 = nI tt) (hts6 : tt < 6) (hq16 : q < 16) : CTl l D cI cJ cZ cR yX1_stepsIn cX1_stepsIn 4 (some .long) 0 0 0 0 sz [.ref lg, .ref rl, .int 0, .int (nI q)] [kX1 lg l1 l2 l3 l4 l5, kJ cJ l1 96 ff, kI cI l2 96 gf, kI cZ l3 96 zf, kI cI l4 96 kf, kI cI l5 6 cf, kX4 rl op b0 s0 w0 u0, kX0 b0 a1 a2 a3 en ev, kI cI a1 3 x1, kI cI a2 3 x2, kI cI a3 3 x3, kI cI s0 3 x4, kI cI w0 64 x5, kI cI u0 64 x6] (fun (r : Int64) (u : Unit) => True) (fun (u : Unit) => [kX1 lg l1 l2 l3 l4 l5, kJ cJ l1 96 ff, kI cI l2 96 gf, kI cZ l3 96 zf, kI cI l4 96 kf, kI cI l5 6 cf, kX4 rl op b0 s0 w0 u0, kX0 b0 a1 a2 a3 en ev, kI cI a1 3 x1, kI cI a2 3 x2, kI cI a3 3 x3, kI cI s0 3 x4, kI cI w0 64 x5, kI cI u0 64 x6]) := by
  refine CTl.of (by decide) (Nat.le_of_ble_eq_true rfl) rfl ?_
  intro p e s m below meth c A Q ls hd hin hK hsz hP hD hA hS hl hret
  obtain ⟨hx, hb, hml, hown, hts⟩ := id hd
  have hK1 := hK.1
  have hown : s.vm.findClass RX1 = some m.cls := hown
  have hl : lv_has ls 4 [(0, .ref lg), (1, .ref rl), (2, .int 0), (3, .int (nI q))] := hl
  refine lv_aload_n hx hb dX1_stepsIn_0 rfl (lv_at hl 0 rfl) ?_
  refine va_get (D := D) (ci := 1) (v := .ref l1) (C := RX1) (T := TX1) (N := 5) hx hb hts iT_X1 hown hK1 hP 0 rfl rfl 0 (by decide) (hts _ t_136) (fun _ h9 => h9) rfl dX1_stepsIn_1 ?_
  refine lv_aload_n hx hb dX1_stepsIn_4 rfl (lv_at hl 1 rfl) ?_
  refine va_get (D := D) (ci := 4) (v := .ref s0) (C := RX4) (T := TX4) (N := 5) hx hb hts iT_X4 hown hK1 hP 6 rfl rfl 2 (by decide) (hts _ t_88) (fun _ h9 => h9) rfl dX1_stepsIn_5 ?_
  refine lv_iload_n hx hb dX1_stepsIn_8 rfl (lv_at hl 2 rfl) ?_
  refine va_iald hx hb hK1 hP 11 0 rfl rfl (vin (by decide)) dX1_stepsIn_9 ?_
  refine lv_nmi (show _ = x4 0 from rfl) ?_
  refine lv_nmi (show _ = (nI tt : Int32) from es) ?_
  refine lv_bipush (v := 16) hx hb dX1_stepsIn_10 (by decide) ?_
  refine lv_imul hx hb dX1_stepsIn_12 ?_
  refine lv_nmi (show _ = (nI (tt * 16)) from pk_mul (tt) (16)) ?_
  refine lv_iload_n hx hb dX1_stepsIn_13 rfl (lv_at hl 3 rfl) ?_
  refine lv_iadd hx hb dX1_stepsIn_14 ?_
  refine lv_nmi (show _ = (nI ((tt * 16) + q)) from nI_add ((tt * 16)) (q)) ?_
  refine va_lald hx hb hK1 hP 1 1 rfl rfl (vp_in_nI (by omega) (by omega)) dX1_stepsIn_15 ?_
  refine lv_nml (show _ = ff ((tt * 16) + q) from by rw [nI_clamp (n := ((tt * 16) + q)) (by omega)]) ?_
  exact hret _ _ _ _ _ _ (ff ((tt * 16) + q)) () dX1_stepsIn_16 hS (Nat.le_of_ble_eq_true rfl) (Nat.le_of_ble_eq_true rfl) trivial (hP.sub [0, 1, 2, 3, 4, 5, 6, 7, 8, 9, 10, 11, 12, 13] rfl) (hD.sub [0, 1, 2, 3, 4, 5, 6, 7, 8, 9, 10, 11, 12, 13] rfl rfl)
set_option maxHeartbeats 4000000 in
set_option maxRecDepth 100000 in
theorem g_choices_10 (sz : Nat) (lg : Nat) (l1 : Nat) (l2 : Nat) (l3 : Nat) (l4 : Nat) (l5 : Nat) (rl : Nat) (b0 : Nat) (a1 : Nat) (a2 : Nat) (a3 : Nat) (s0 : Nat) (w0 : Nat) (u0 : Nat) (tt : Nat) (ff : Nat → Int64) (gf : Nat → Int32) (zf : Nat → Int32) (kf : Nat → Int32) (cf : Nat → Int32) (op : Int32) (en : Int32) (ev : Int32) (x1 : Nat → Int32) (x2 : Nat → Int32) (x3 : Nat → Int32) (x4 : Nat → Int32) (x5 : Nat → Int32) (x6 : Nat → Int32) (es : x4 1 = nI tt) (hts6 : tt < 6) (hcc : cf tt = nI (cz zf (tt * 16) 16)) : CTi l D cI cJ cZ cR yX1_choices cX1_choices 4 (some .int) 0 0 0 0 sz [.ref lg, .ref rl, .int 1, .int 0] [kX1 lg l1 l2 l3 l4 l5, kJ cJ l1 96 ff, kI cI l2 96 gf, kI cZ l3 96 zf, kI cI l4 96 kf, kI cI l5 6 cf, kX4 rl op b0 s0 w0 u0, kX0 b0 a1 a2 a3 en ev, kI cI a1 3 x1, kI cI a2 3 x2, kI cI a3 3 x3, kI cI s0 3 x4, kI cI w0 64 x5, kI cI u0 64 x6] (fun (r : Int32) (u : Unit) => (r = (nI (cz zf (tt * 16) 16)))) (fun (u : Unit) => [kX1 lg l1 l2 l3 l4 l5, kJ cJ l1 96 ff, kI cI l2 96 gf, kI cZ l3 96 zf, kI cI l4 96 kf, kI cI l5 6 cf, kX4 rl op b0 s0 w0 u0, kX0 b0 a1 a2 a3 en ev, kI cI a1 3 x1, kI cI a2 3 x2, kI cI a3 3 x3, kI cI s0 3 x4, kI cI w0 64 x5, kI cI u0 64 x6]) := by
  refine CTi.of (ty := .int) (by decide) (Nat.le_of_ble_eq_true rfl) rfl ?_
  intro p e s m below meth c A Q ls hd hin hK hsz hP hD hA hS hl hret
  obtain ⟨hx, hb, hml, hown, hts⟩ := id hd
  have hK1 := hK.1
  have hown : s.vm.findClass RX1 = some m.cls := hown
  have hl : lv_has ls 4 [(0, .ref lg), (1, .ref rl), (2, .int 1), (3, .int 0)] := hl
  refine lv_iload_n hx hb dX1_choices_0 rfl (lv_at hl 2 rfl) ?_
  refine lv_iload_n hx hb dX1_choices_1 rfl (lv_at hl 3 rfl) ?_
  refine lv_icmp_ne (tgt := 9) hx hb dX1_choices_2 (by decide) (fun c_1 => ?_) (fun c_1 => ?_)
  rotate_left
  · exact absurd c_1 (by decide)
  refine lv_aload_n hx hb dX1_choices_9 rfl (lv_at hl 0 rfl) ?_
  refine va_get (D := D) (ci := 1) (v := .ref l5) (C := RX1) (T := TX1) (N := 5) hx hb hts iT_X1 hown hK1 hP 0 rfl rfl 4 (by decide) (hts _ t_140) (fun _ h9 => h9) rfl dX1_choices_10 ?_
  refine lv_aload_n hx hb dX1_choices_13 rfl (lv_at hl 1 rfl) ?_
  refine va_get (D := D) (ci := 4) (v := .ref s0) (C := RX4) (T := TX4) (N := 5) hx hb hts iT_X4 hown hK1 hP 6 rfl rfl 2 (by decide) (hts _ t_88) (fun _ h9 => h9) rfl dX1_choices_14 ?_
  refine lv_iload_n hx hb dX1_choices_17 rfl (lv_at hl 2 rfl) ?_
  refine va_iald hx hb hK1 hP 11 0 rfl rfl (vin (by decide)) dX1_choices_18 ?_
  refine lv_nmi (show _ = x4 1 from rfl) ?_
  refine lv_nmi (show _ = (nI tt : Int32) from es) ?_
  refine va_iald hx hb hK1 hP 5 0 rfl rfl (vp_in_nI (by omega) (by omega)) dX1_choices_19 ?_
  refine lv_nmi (show _ = cf tt from by rw [nI_clamp (n := tt) (by omega)]) ?_
  refine lv_nmi (show _ = (nI (cz zf (tt * 16) 16) : Int32) from hcc) ?_
  exact hret _ _ _ _ _ _ (nI (cz zf (tt * 16) 16)) () dX1_choices_20 rfl hS (Nat.le_of_ble_eq_true rfl) (Nat.le_of_ble_eq_true rfl) rfl (hP.sub [0, 1, 2, 3, 4, 5, 6, 7, 8, 9, 10, 11, 12, 13] rfl) (hD.sub [0, 1, 2, 3, 4, 5, 6, 7, 8, 9, 10, 11, 12, 13] rfl rfl)
set_option maxHeartbeats 4000000 in
set_option maxRecDepth 100000 in
theorem g_choices_11 (sz : Nat) (lg : Nat) (l1 : Nat) (l2 : Nat) (l3 : Nat) (l4 : Nat) (l5 : Nat) (rl : Nat) (b0 : Nat) (a1 : Nat) (a2 : Nat) (a3 : Nat) (s0 : Nat) (w0 : Nat) (u0 : Nat) (ff : Nat → Int64) (gf : Nat → Int32) (zf : Nat → Int32) (kf : Nat → Int32) (cf : Nat → Int32) (op : Int32) (en : Int32) (ev : Int32) (x1 : Nat → Int32) (x2 : Nat → Int32) (x3 : Nat → Int32) (x4 : Nat → Int32) (x5 : Nat → Int32) (x6 : Nat → Int32)  : CTi l D cI cJ cZ cR yX1_choices cX1_choices 4 (some .int) 0 0 0 0 sz [.ref lg, .ref rl, .int 1, .int 1] [kX1 lg l1 l2 l3 l4 l5, kJ cJ l1 96 ff, kI cI l2 96 gf, kI cZ l3 96 zf, kI cI l4 96 kf, kI cI l5 6 cf, kX4 rl op b0 s0 w0 u0, kX0 b0 a1 a2 a3 en ev, kI cI a1 3 x1, kI cI a2 3 x2, kI cI a3 3 x3, kI cI s0 3 x4, kI cI w0 64 x5, kI cI u0 64 x6] (fun (r : Int32) (u : Unit) => (r = 1)) (fun (u : Unit) => [kX1 lg l1 l2 l3 l4 l5, kJ cJ l1 96 ff, kI cI l2 96 gf, kI cZ l3 96 zf, kI cI l4 96 kf, kI cI l5 6 cf, kX4 rl op b0 s0 w0 u0, kX0 b0 a1 a2 a3 en ev, kI cI a1 3 x1, kI cI a2 3 x2, kI cI a3 3 x3, kI cI s0 3 x4, kI cI w0 64 x5, kI cI u0 64 x6]) := by
  refine CTi.of (ty := .int) (by decide) (Nat.le_of_ble_eq_true rfl) rfl ?_
  intro p e s m below meth c A Q ls hd hin hK hsz hP hD hA hS hl hret
  obtain ⟨hx, hb, hml, hown, hts⟩ := id hd
  have hK1 := hK.1
  have hown : s.vm.findClass RX1 = some m.cls := hown
  have hl : lv_has ls 4 [(0, .ref lg), (1, .ref rl), (2, .int 1), (3, .int 1)] := hl
  refine lv_iload_n hx hb dX1_choices_0 rfl (lv_at hl 2 rfl) ?_
  refine lv_iload_n hx hb dX1_choices_1 rfl (lv_at hl 3 rfl) ?_
  refine lv_icmp_ne (tgt := 9) hx hb dX1_choices_2 (by decide) (fun c_1 => ?_) (fun c_1 => ?_)
  · exact absurd c_1 (by decide)
  refine lv_iconst (v := 1) hx hb dX1_choices_5 (by decide) ?_
  refine lv_goto (tgt := 20) hx hb dX1_choices_6 (by decide) ?_
  exact hret _ _ _ _ _ _ 1 () dX1_choices_20 rfl hS (Nat.le_of_ble_eq_true rfl) (Nat.le_of_ble_eq_true rfl) rfl (hP.sub [0, 1, 2, 3, 4, 5, 6, 7, 8, 9, 10, 11, 12, 13] rfl) (hD.sub [0, 1, 2, 3, 4, 5, 6, 7, 8, 9, 10, 11, 12, 13] rfl rfl)
set_option maxHeartbeats 4000000 in
set_option maxRecDepth 100000 in
theorem g_choices_12 (sz : Nat) (lg : Nat) (l1 : Nat) (l2 : Nat) (l3 : Nat) (l4 : Nat) (l5 : Nat) (rl : Nat) (b0 : Nat) (a1 : Nat) (a2 : Nat) (a3 : Nat) (s0 : Nat) (w0 : Nat) (u0 : Nat) (tt : Nat) (ff : Nat → Int64) (gf : Nat → Int32) (zf : Nat → Int32) (kf : Nat → Int32) (cf : Nat → Int32) (op : Int32) (en : Int32) (ev : Int32) (x1 : Nat → Int32) (x2 : Nat → Int32) (x3 : Nat → Int32) (x4 : Nat → Int32) (x5 : Nat → Int32) (x6 : Nat → Int32) (es : x4 1 = nI tt) (hts6 : tt < 6) (hcc : cf tt = nI (cz zf (tt * 16) 16)) : CTi l D cI cJ cZ cR yX1_choices cX1_choices 4 (some .int) 0 0 0 0 sz [.ref lg, .ref rl, .int 1, .int 2] [kX1 lg l1 l2 l3 l4 l5, kJ cJ l1 96 ff, kI cI l2 96 gf, kI cZ l3 96 zf, kI cI l4 96 kf, kI cI l5 6 cf, kX4 rl op b0 s0 w0 u0, kX0 b0 a1 a2 a3 en ev, kI cI a1 3 x1, kI cI a2 3 x2, kI cI a3 3 x3, kI cI s0 3 x4, kI cI w0 64 x5, kI cI u0 64 x6] (fun (r : Int32) (u : Unit) => (r = (nI (cz zf (tt * 16) 16)))) (fun (u : Unit) => [kX1 lg l1 l2 l3 l4 l5, kJ cJ l1 96 ff, kI cI l2 96 gf, kI cZ l3 96 zf, kI cI l4 96 kf, kI cI l5 6 cf, kX4 rl op b0 s0 w0 u0, kX0 b0 a1 a2 a3 en ev, kI cI a1 3 x1, kI cI a2 3 x2, kI cI a3 3 x3, kI cI s0 3 x4, kI cI w0 64 x5, kI cI u0 64 x6]) := by
  refine CTi.of (ty := .int) (by decide) (Nat.le_of_ble_eq_true rfl) rfl ?_
  intro p e s m below meth c A Q ls hd hin hK hsz hP hD hA hS hl hret
  obtain ⟨hx, hb, hml, hown, hts⟩ := id hd
  have hK1 := hK.1
  have hown : s.vm.findClass RX1 = some m.cls := hown
  have hl : lv_has ls 4 [(0, .ref lg), (1, .ref rl), (2, .int 1), (3, .int 2)] := hl
  refine lv_iload_n hx hb dX1_choices_0 rfl (lv_at hl 2 rfl) ?_
  refine lv_iload_n hx hb dX1_choices_1 rfl (lv_at hl 3 rfl) ?_
  refine lv_icmp_ne (tgt := 9) hx hb dX1_choices_2 (by decide) (fun c_1 => ?_) (fun c_1 => ?_)
  rotate_left
  · exact absurd c_1 (by decide)
  refine lv_aload_n hx hb dX1_choices_9 rfl (lv_at hl 0 rfl) ?_
  refine va_get (D := D) (ci := 1) (v := .ref l5) (C := RX1) (T := TX1) (N := 5) hx hb hts iT_X1 hown hK1 hP 0 rfl rfl 4 (by decide) (hts _ t_140) (fun _ h9 => h9) rfl dX1_choices_10 ?_
  refine lv_aload_n hx hb dX1_choices_13 rfl (lv_at hl 1 rfl) ?_
  refine va_get (D := D) (ci := 4) (v := .ref s0) (C := RX4) (T := TX4) (N := 5) hx hb hts iT_X4 hown hK1 hP 6 rfl rfl 2 (by decide) (hts _ t_88) (fun _ h9 => h9) rfl dX1_choices_14 ?_
  refine lv_iload_n hx hb dX1_choices_17 rfl (lv_at hl 2 rfl) ?_
  refine va_iald hx hb hK1 hP 11 0 rfl rfl (vin (by decide)) dX1_choices_18 ?_
  refine lv_nmi (show _ = x4 1 from rfl) ?_
  refine lv_nmi (show _ = (nI tt : Int32) from es) ?_
  refine va_iald hx hb hK1 hP 5 0 rfl rfl (vp_in_nI (by omega) (by omega)) dX1_choices_19 ?_
  refine lv_nmi (show _ = cf tt from by rw [nI_clamp (n := tt) (by omega)]) ?_
  refine lv_nmi (show _ = (nI (cz zf (tt * 16) 16) : Int32) from hcc) ?_
  exact hret _ _ _ _ _ _ (nI (cz zf (tt * 16) 16)) () dX1_choices_20 rfl hS (Nat.le_of_ble_eq_true rfl) (Nat.le_of_ble_eq_true rfl) rfl (hP.sub [0, 1, 2, 3, 4, 5, 6, 7, 8, 9, 10, 11, 12, 13] rfl) (hD.sub [0, 1, 2, 3, 4, 5, 6, 7, 8, 9, 10, 11, 12, 13] rfl rfl)
set_option maxHeartbeats 4000000 in
set_option maxRecDepth 100000 in
theorem g_settledKind_1 (sz : Nat) (lg : Nat) (l1 : Nat) (l2 : Nat) (l3 : Nat) (l4 : Nat) (l5 : Nat) (rl : Nat) (b0 : Nat) (a1 : Nat) (a2 : Nat) (a3 : Nat) (s0 : Nat) (w0 : Nat) (u0 : Nat) (tt : Nat) (ff : Nat → Int64) (gf : Nat → Int32) (zf : Nat → Int32) (kf : Nat → Int32) (cf : Nat → Int32) (op : Int32) (en : Int32) (ev : Int32) (x1 : Nat → Int32) (x2 : Nat → Int32) (x3 : Nat → Int32) (x4 : Nat → Int32) (x5 : Nat → Int32) (x6 : Nat → Int32) (i : Nat) (q : Nat) (es : x4 1 = nI tt) (hts6 : tt < 6) (hi16 : i < 16) (hkq : kf (tt * 16 + i) = nI q) : CTi l D cI cJ cZ cR yX1_settledKind cX1_settledKind 4 (some .int) 0 0 0 0 sz [.ref lg, .ref rl, .int 1, .int (nI i)] [kX1 lg l1 l2 l3 l4 l5, kJ cJ l1 96 ff, kI cI l2 96 gf, kI cZ l3 96 zf, kI cI l4 96 kf, kI cI l5 6 cf, kX4 rl op b0 s0 w0 u0, kX0 b0 a1 a2 a3 en ev, kI cI a1 3 x1, kI cI a2 3 x2, kI cI a3 3 x3, kI cI s0 3 x4, kI cI w0 64 x5, kI cI u0 64 x6] (fun (r : Int32) (u : Unit) => (r = (nI q))) (fun (u : Unit) => [kX1 lg l1 l2 l3 l4 l5, kJ cJ l1 96 ff, kI cI l2 96 gf, kI cZ l3 96 zf, kI cI l4 96 kf, kI cI l5 6 cf, kX4 rl op b0 s0 w0 u0, kX0 b0 a1 a2 a3 en ev, kI cI a1 3 x1, kI cI a2 3 x2, kI cI a3 3 x3, kI cI s0 3 x4, kI cI w0 64 x5, kI cI u0 64 x6]) := by
  refine CTi.of (ty := .int) (by decide) (Nat.le_of_ble_eq_true rfl) rfl ?_
  intro p e s m below meth c A Q ls hd hin hK hsz hP hD hA hS hl hret
  obtain ⟨hx, hb, hml, hown, hts⟩ := id hd
  have hK1 := hK.1
  have hown : s.vm.findClass RX1 = some m.cls := hown
  have hl : lv_has ls 4 [(0, .ref lg), (1, .ref rl), (2, .int 1), (3, .int (nI i))] := hl
  refine lv_aload_n hx hb dX1_settledKind_0 rfl (lv_at hl 0 rfl) ?_
  refine va_get (D := D) (ci := 1) (v := .ref l4) (C := RX1) (T := TX1) (N := 5) hx hb hts iT_X1 hown hK1 hP 0 rfl rfl 3 (by decide) (hts _ t_139) (fun _ h9 => h9) rfl dX1_settledKind_1 ?_
  refine lv_aload_n hx hb dX1_settledKind_4 rfl (lv_at hl 1 rfl) ?_
  refine va_get (D := D) (ci := 4) (v := .ref s0) (C := RX4) (T := TX4) (N := 5) hx hb hts iT_X4 hown hK1 hP 6 rfl rfl 2 (by decide) (hts _ t_88) (fun _ h9 => h9) rfl dX1_settledKind_5 ?_
  refine lv_iload_n hx hb dX1_settledKind_8 rfl (lv_at hl 2 rfl) ?_
  refine va_iald hx hb hK1 hP 11 0 rfl rfl (vin (by decide)) dX1_settledKind_9 ?_
  refine lv_nmi (show _ = x4 1 from rfl) ?_
  refine lv_nmi (show _ = (nI tt : Int32) from es) ?_
  refine lv_bipush (v := 16) hx hb dX1_settledKind_10 (by decide) ?_
  refine lv_imul hx hb dX1_settledKind_12 ?_
  refine lv_nmi (show _ = (nI (tt * 16)) from pk_mul (tt) (16)) ?_
  refine lv_iload_n hx hb dX1_settledKind_13 rfl (lv_at hl 3 rfl) ?_
  refine lv_iadd hx hb dX1_settledKind_14 ?_
  refine lv_nmi (show _ = (nI ((tt * 16) + i)) from nI_add ((tt * 16)) (i)) ?_
  refine va_iald hx hb hK1 hP 4 0 rfl rfl (vp_in_nI (by omega) (by omega)) dX1_settledKind_15 ?_
  refine lv_nmi (show _ = kf ((tt * 16) + i) from by rw [nI_clamp (n := ((tt * 16) + i)) (by omega)]) ?_
  refine lv_nmi (show _ = (nI q : Int32) from hkq) ?_
  exact hret _ _ _ _ _ _ (nI q) () dX1_settledKind_16 rfl hS (Nat.le_of_ble_eq_true rfl) (Nat.le_of_ble_eq_true rfl) rfl (hP.sub [0, 1, 2, 3, 4, 5, 6, 7, 8, 9, 10, 11, 12, 13] rfl) (hD.sub [0, 1, 2, 3, 4, 5, 6, 7, 8, 9, 10, 11, 12, 13] rfl rfl)
set_option maxHeartbeats 4000000 in
set_option maxRecDepth 100000 in
theorem g_stepsIn_1 (sz : Nat) (lg : Nat) (l1 : Nat) (l2 : Nat) (l3 : Nat) (l4 : Nat) (l5 : Nat) (rl : Nat) (b0 : Nat) (a1 : Nat) (a2 : Nat) (a3 : Nat) (s0 : Nat) (w0 : Nat) (u0 : Nat) (tt : Nat) (ff : Nat → Int64) (gf : Nat → Int32) (zf : Nat → Int32) (kf : Nat → Int32) (cf : Nat → Int32) (op : Int32) (en : Int32) (ev : Int32) (x1 : Nat → Int32) (x2 : Nat → Int32) (x3 : Nat → Int32) (x4 : Nat → Int32) (x5 : Nat → Int32) (x6 : Nat → Int32) (q : Nat) (es : x4 1 = nI tt) (hts6 : tt < 6) (hq16 : q < 16) : CTl l D cI cJ cZ cR yX1_stepsIn cX1_stepsIn 4 (some .long) 0 0 0 0 sz [.ref lg, .ref rl, .int 1, .int (nI q)] [kX1 lg l1 l2 l3 l4 l5, kJ cJ l1 96 ff, kI cI l2 96 gf, kI cZ l3 96 zf, kI cI l4 96 kf, kI cI l5 6 cf, kX4 rl op b0 s0 w0 u0, kX0 b0 a1 a2 a3 en ev, kI cI a1 3 x1, kI cI a2 3 x2, kI cI a3 3 x3, kI cI s0 3 x4, kI cI w0 64 x5, kI cI u0 64 x6] (fun (r : Int64) (u : Unit) => True) (fun (u : Unit) => [kX1 lg l1 l2 l3 l4 l5, kJ cJ l1 96 ff, kI cI l2 96 gf, kI cZ l3 96 zf, kI cI l4 96 kf, kI cI l5 6 cf, kX4 rl op b0 s0 w0 u0, kX0 b0 a1 a2 a3 en ev, kI cI a1 3 x1, kI cI a2 3 x2, kI cI a3 3 x3, kI cI s0 3 x4, kI cI w0 64 x5, kI cI u0 64 x6]) := by
  refine CTl.of (by decide) (Nat.le_of_ble_eq_true rfl) rfl ?_
  intro p e s m below meth c A Q ls hd hin hK hsz hP hD hA hS hl hret
  obtain ⟨hx, hb, hml, hown, hts⟩ := id hd
  have hK1 := hK.1
  have hown : s.vm.findClass RX1 = some m.cls := hown
  have hl : lv_has ls 4 [(0, .ref lg), (1, .ref rl), (2, .int 1), (3, .int (nI q))] := hl
  refine lv_aload_n hx hb dX1_stepsIn_0 rfl (lv_at hl 0 rfl) ?_
  refine va_get (D := D) (ci := 1) (v := .ref l1) (C := RX1) (T := TX1) (N := 5) hx hb hts iT_X1 hown hK1 hP 0 rfl rfl 0 (by decide) (hts _ t_136) (fun _ h9 => h9) rfl dX1_stepsIn_1 ?_
  refine lv_aload_n hx hb dX1_stepsIn_4 rfl (lv_at hl 1 rfl) ?_
  refine va_get (D := D) (ci := 4) (v := .ref s0) (C := RX4) (T := TX4) (N := 5) hx hb hts iT_X4 hown hK1 hP 6 rfl rfl 2 (by decide) (hts _ t_88) (fun _ h9 => h9) rfl dX1_stepsIn_5 ?_
  refine lv_iload_n hx hb dX1_stepsIn_8 rfl (lv_at hl 2 rfl) ?_
  refine va_iald hx hb hK1 hP 11 0 rfl rfl (vin (by decide)) dX1_stepsIn_9 ?_
  refine lv_nmi (show _ = x4 1 from rfl) ?_
  refine lv_nmi (show _ = (nI tt : Int32) from es) ?_
  refine lv_bipush (v := 16) hx hb dX1_stepsIn_10 (by decide) ?_
  refine lv_imul hx hb dX1_stepsIn_12 ?_
  refine lv_nmi (show _ = (nI (tt * 16)) from pk_mul (tt) (16)) ?_
  refine lv_iload_n hx hb dX1_stepsIn_13 rfl (lv_at hl 3 rfl) ?_
  refine lv_iadd hx hb dX1_stepsIn_14 ?_
  refine lv_nmi (show _ = (nI ((tt * 16) + q)) from nI_add ((tt * 16)) (q)) ?_
  refine va_lald hx hb hK1 hP 1 1 rfl rfl (vp_in_nI (by omega) (by omega)) dX1_stepsIn_15 ?_
  refine lv_nml (show _ = ff ((tt * 16) + q) from by rw [nI_clamp (n := ((tt * 16) + q)) (by omega)]) ?_
  exact hret _ _ _ _ _ _ (ff ((tt * 16) + q)) () dX1_stepsIn_16 hS (Nat.le_of_ble_eq_true rfl) (Nat.le_of_ble_eq_true rfl) trivial (hP.sub [0, 1, 2, 3, 4, 5, 6, 7, 8, 9, 10, 11, 12, 13] rfl) (hD.sub [0, 1, 2, 3, 4, 5, 6, 7, 8, 9, 10, 11, 12, 13] rfl rfl)
set_option maxHeartbeats 4000000 in
set_option maxRecDepth 100000 in
theorem g_choices_20 (sz : Nat) (lg : Nat) (l1 : Nat) (l2 : Nat) (l3 : Nat) (l4 : Nat) (l5 : Nat) (rl : Nat) (b0 : Nat) (a1 : Nat) (a2 : Nat) (a3 : Nat) (s0 : Nat) (w0 : Nat) (u0 : Nat) (tt : Nat) (ff : Nat → Int64) (gf : Nat → Int32) (zf : Nat → Int32) (kf : Nat → Int32) (cf : Nat → Int32) (op : Int32) (en : Int32) (ev : Int32) (x1 : Nat → Int32) (x2 : Nat → Int32) (x3 : Nat → Int32) (x4 : Nat → Int32) (x5 : Nat → Int32) (x6 : Nat → Int32) (es : x4 2 = nI tt) (hts6 : tt < 6) (hcc : cf tt = nI (cz zf (tt * 16) 16)) : CTi l D cI cJ cZ cR yX1_choices cX1_choices 4 (some .int) 0 0 0 0 sz [.ref lg, .ref rl, .int 2, .int 0] [kX1 lg l1 l2 l3 l4 l5, kJ cJ l1 96 ff, kI cI l2 96 gf, kI cZ l3 96 zf, kI cI l4 96 kf, kI cI l5 6 cf, kX4 rl op b0 s0 w0 u0, kX0 b0 a1 a2 a3 en ev, kI cI a1 3 x1, kI cI a2 3 x2, kI cI a3 3 x3, kI cI s0 3 x4, kI cI w0 64 x5, kI cI u0 64 x6] (fun (r : Int32) (u : Unit) => (r = (nI (cz zf (tt * 16) 16)))) (fun (u : Unit) => [kX1 lg l1 l2 l3 l4 l5, kJ cJ l1 96 ff, kI cI l2 96 gf, kI cZ l3 96 zf, kI cI l4 96 kf, kI cI l5 6 cf, kX4 rl op b0 s0 w0 u0, kX0 b0 a1 a2 a3 en ev, kI cI a1 3 x1, kI cI a2 3 x2, kI cI a3 3 x3, kI cI s0 3 x4, kI cI w0 64 x5, kI cI u0 64 x6]) := by
  refine CTi.of (ty := .int) (by decide) (Nat.le_of_ble_eq_true rfl) rfl ?_
  intro p e s m below meth c A Q ls hd hin hK hsz hP hD hA hS hl hret
  obtain ⟨hx, hb, hml, hown, hts⟩ := id hd
  have hK1 := hK.1
  have hown : s.vm.findClass RX1 = some m.cls := hown
  have hl : lv_has ls 4 [(0, .ref lg), (1, .ref rl), (2, .int 2), (3, .int 0)] := hl
  refine lv_iload_n hx hb dX1_choices_0 rfl (lv_at hl 2 rfl) ?_
  refine lv_iload_n hx hb dX1_choices_1 rfl (lv_at hl 3 rfl) ?_
  refine lv_icmp_ne (tgt := 9) hx hb dX1_choices_2 (by decide) (fun c_1 => ?_) (fun c_1 => ?_)
  rotate_left
  · exact absurd c_1 (by decide)
  refine lv_aload_n hx hb dX1_choices_9 rfl (lv_at hl 0 rfl) ?_
  refine va_get (D := D) (ci := 1) (v := .ref l5) (C := RX1) (T := TX1) (N := 5) hx hb hts iT_X1 hown hK1 hP 0 rfl rfl 4 (by decide) (hts _ t_140) (fun _ h9 => h9) rfl dX1_choices_10 ?_
  refine lv_aload_n hx hb dX1_choices_13 rfl (lv_at hl 1 rfl) ?_
  refine va_get (D := D) (ci := 4) (v := .ref s0) (C := RX4) (T := TX4) (N := 5) hx hb hts iT_X4 hown hK1 hP 6 rfl rfl 2 (by decide) (hts _ t_88) (fun _ h9 => h9) rfl dX1_choices_14 ?_
  refine lv_iload_n hx hb dX1_choices_17 rfl (lv_at hl 2 rfl) ?_
  refine va_iald hx hb hK1 hP 11 0 rfl rfl (vin (by decide)) dX1_choices_18 ?_
  refine lv_nmi (show _ = x4 2 from rfl) ?_
  refine lv_nmi (show _ = (nI tt : Int32) from es) ?_
  refine va_iald hx hb hK1 hP 5 0 rfl rfl (vp_in_nI (by omega) (by omega)) dX1_choices_19 ?_
  refine lv_nmi (show _ = cf tt from by rw [nI_clamp (n := tt) (by omega)]) ?_
  refine lv_nmi (show _ = (nI (cz zf (tt * 16) 16) : Int32) from hcc) ?_
  exact hret _ _ _ _ _ _ (nI (cz zf (tt * 16) 16)) () dX1_choices_20 rfl hS (Nat.le_of_ble_eq_true rfl) (Nat.le_of_ble_eq_true rfl) rfl (hP.sub [0, 1, 2, 3, 4, 5, 6, 7, 8, 9, 10, 11, 12, 13] rfl) (hD.sub [0, 1, 2, 3, 4, 5, 6, 7, 8, 9, 10, 11, 12, 13] rfl rfl)
set_option maxHeartbeats 4000000 in
set_option maxRecDepth 100000 in
theorem g_choices_21 (sz : Nat) (lg : Nat) (l1 : Nat) (l2 : Nat) (l3 : Nat) (l4 : Nat) (l5 : Nat) (rl : Nat) (b0 : Nat) (a1 : Nat) (a2 : Nat) (a3 : Nat) (s0 : Nat) (w0 : Nat) (u0 : Nat) (tt : Nat) (ff : Nat → Int64) (gf : Nat → Int32) (zf : Nat → Int32) (kf : Nat → Int32) (cf : Nat → Int32) (op : Int32) (en : Int32) (ev : Int32) (x1 : Nat → Int32) (x2 : Nat → Int32) (x3 : Nat → Int32) (x4 : Nat → Int32) (x5 : Nat → Int32) (x6 : Nat → Int32) (es : x4 2 = nI tt) (hts6 : tt < 6) (hcc : cf tt = nI (cz zf (tt * 16) 16)) : CTi l D cI cJ cZ cR yX1_choices cX1_choices 4 (some .int) 0 0 0 0 sz [.ref lg, .ref rl, .int 2, .int 1] [kX1 lg l1 l2 l3 l4 l5, kJ cJ l1 96 ff, kI cI l2 96 gf, kI cZ l3 96 zf, kI cI l4 96 kf, kI cI l5 6 cf, kX4 rl op b0 s0 w0 u0, kX0 b0 a1 a2 a3 en ev, kI cI a1 3 x1, kI cI a2 3 x2, kI cI a3 3 x3, kI cI s0 3 x4, kI cI w0 64 x5, kI cI u0 64 x6] (fun (r : Int32) (u : Unit) => (r = (nI (cz zf (tt * 16) 16)))) (fun (u : Unit) => [kX1 lg l1 l2 l3 l4 l5, kJ cJ l1 96 ff, kI cI l2 96 gf, kI cZ l3 96 zf, kI cI l4 96 kf, kI cI l5 6 cf, kX4 rl op b0 s0 w0 u0, kX0 b0 a1 a2 a3 en ev, kI cI a1 3 x1, kI cI a2 3 x2, kI cI a3 3 x3, kI cI s0 3 x4, kI cI w0 64 x5, kI cI u0 64 x6]) := by
  refine CTi.of (ty := .int) (by decide) (Nat.le_of_ble_eq_true rfl) rfl ?_
  intro p e s m below meth c A Q ls hd hin hK hsz hP hD hA hS hl hret
  obtain ⟨hx, hb, hml, hown, hts⟩ := id hd
  have hK1 := hK.1
  have hown : s.vm.findClass RX1 = some m.cls := hown
  have hl : lv_has ls 4 [(0, .ref lg), (1, .ref rl), (2, .int 2), (3, .int 1)] := hl
  refine lv_iload_n hx hb dX1_choices_0 rfl (lv_at hl 2 rfl) ?_
  refine lv_iload_n hx hb dX1_choices_1 rfl (lv_at hl 3 rfl) ?_
  refine lv_icmp_ne (tgt := 9) hx hb dX1_choices_2 (by decide) (fun c_1 => ?_) (fun c_1 => ?_)
  rotate_left
  · exact absurd c_1 (by decide)
  refine lv_aload_n hx hb dX1_choices_9 rfl (lv_at hl 0 rfl) ?_
  refine va_get (D := D) (ci := 1) (v := .ref l5) (C := RX1) (T := TX1) (N := 5) hx hb hts iT_X1 hown hK1 hP 0 rfl rfl 4 (by decide) (hts _ t_140) (fun _ h9 => h9) rfl dX1_choices_10 ?_
  refine lv_aload_n hx hb dX1_choices_13 rfl (lv_at hl 1 rfl) ?_
  refine va_get (D := D) (ci := 4) (v := .ref s0) (C := RX4) (T := TX4) (N := 5) hx hb hts iT_X4 hown hK1 hP 6 rfl rfl 2 (by decide) (hts _ t_88) (fun _ h9 => h9) rfl dX1_choices_14 ?_
  refine lv_iload_n hx hb dX1_choices_17 rfl (lv_at hl 2 rfl) ?_
  refine va_iald hx hb hK1 hP 11 0 rfl rfl (vin (by decide)) dX1_choices_18 ?_
  refine lv_nmi (show _ = x4 2 from rfl) ?_
  refine lv_nmi (show _ = (nI tt : Int32) from es) ?_
  refine va_iald hx hb hK1 hP 5 0 rfl rfl (vp_in_nI (by omega) (by omega)) dX1_choices_19 ?_
  refine lv_nmi (show _ = cf tt from by rw [nI_clamp (n := tt) (by omega)]) ?_
  refine lv_nmi (show _ = (nI (cz zf (tt * 16) 16) : Int32) from hcc) ?_
  exact hret _ _ _ _ _ _ (nI (cz zf (tt * 16) 16)) () dX1_choices_20 rfl hS (Nat.le_of_ble_eq_true rfl) (Nat.le_of_ble_eq_true rfl) rfl (hP.sub [0, 1, 2, 3, 4, 5, 6, 7, 8, 9, 10, 11, 12, 13] rfl) (hD.sub [0, 1, 2, 3, 4, 5, 6, 7, 8, 9, 10, 11, 12, 13] rfl rfl)
set_option maxHeartbeats 4000000 in
set_option maxRecDepth 100000 in
theorem g_choices_22 (sz : Nat) (lg : Nat) (l1 : Nat) (l2 : Nat) (l3 : Nat) (l4 : Nat) (l5 : Nat) (rl : Nat) (b0 : Nat) (a1 : Nat) (a2 : Nat) (a3 : Nat) (s0 : Nat) (w0 : Nat) (u0 : Nat) (ff : Nat → Int64) (gf : Nat → Int32) (zf : Nat → Int32) (kf : Nat → Int32) (cf : Nat → Int32) (op : Int32) (en : Int32) (ev : Int32) (x1 : Nat → Int32) (x2 : Nat → Int32) (x3 : Nat → Int32) (x4 : Nat → Int32) (x5 : Nat → Int32) (x6 : Nat → Int32)  : CTi l D cI cJ cZ cR yX1_choices cX1_choices 4 (some .int) 0 0 0 0 sz [.ref lg, .ref rl, .int 2, .int 2] [kX1 lg l1 l2 l3 l4 l5, kJ cJ l1 96 ff, kI cI l2 96 gf, kI cZ l3 96 zf, kI cI l4 96 kf, kI cI l5 6 cf, kX4 rl op b0 s0 w0 u0, kX0 b0 a1 a2 a3 en ev, kI cI a1 3 x1, kI cI a2 3 x2, kI cI a3 3 x3, kI cI s0 3 x4, kI cI w0 64 x5, kI cI u0 64 x6] (fun (r : Int32) (u : Unit) => (r = 1)) (fun (u : Unit) => [kX1 lg l1 l2 l3 l4 l5, kJ cJ l1 96 ff, kI cI l2 96 gf, kI cZ l3 96 zf, kI cI l4 96 kf, kI cI l5 6 cf, kX4 rl op b0 s0 w0 u0, kX0 b0 a1 a2 a3 en ev, kI cI a1 3 x1, kI cI a2 3 x2, kI cI a3 3 x3, kI cI s0 3 x4, kI cI w0 64 x5, kI cI u0 64 x6]) := by
  refine CTi.of (ty := .int) (by decide) (Nat.le_of_ble_eq_true rfl) rfl ?_
  intro p e s m below meth c A Q ls hd hin hK hsz hP hD hA hS hl hret
  obtain ⟨hx, hb, hml, hown, hts⟩ := id hd
  have hK1 := hK.1
  have hown : s.vm.findClass RX1 = some m.cls := hown
  have hl : lv_has ls 4 [(0, .ref lg), (1, .ref rl), (2, .int 2), (3, .int 2)] := hl
  refine lv_iload_n hx hb dX1_choices_0 rfl (lv_at hl 2 rfl) ?_
  refine lv_iload_n hx hb dX1_choices_1 rfl (lv_at hl 3 rfl) ?_
  refine lv_icmp_ne (tgt := 9) hx hb dX1_choices_2 (by decide) (fun c_1 => ?_) (fun c_1 => ?_)
  · exact absurd c_1 (by decide)
  refine lv_iconst (v := 1) hx hb dX1_choices_5 (by decide) ?_
  refine lv_goto (tgt := 20) hx hb dX1_choices_6 (by decide) ?_
  exact hret _ _ _ _ _ _ 1 () dX1_choices_20 rfl hS (Nat.le_of_ble_eq_true rfl) (Nat.le_of_ble_eq_true rfl) rfl (hP.sub [0, 1, 2, 3, 4, 5, 6, 7, 8, 9, 10, 11, 12, 13] rfl) (hD.sub [0, 1, 2, 3, 4, 5, 6, 7, 8, 9, 10, 11, 12, 13] rfl rfl)
set_option maxHeartbeats 4000000 in
set_option maxRecDepth 100000 in
theorem g_settledKind_2 (sz : Nat) (lg : Nat) (l1 : Nat) (l2 : Nat) (l3 : Nat) (l4 : Nat) (l5 : Nat) (rl : Nat) (b0 : Nat) (a1 : Nat) (a2 : Nat) (a3 : Nat) (s0 : Nat) (w0 : Nat) (u0 : Nat) (tt : Nat) (ff : Nat → Int64) (gf : Nat → Int32) (zf : Nat → Int32) (kf : Nat → Int32) (cf : Nat → Int32) (op : Int32) (en : Int32) (ev : Int32) (x1 : Nat → Int32) (x2 : Nat → Int32) (x3 : Nat → Int32) (x4 : Nat → Int32) (x5 : Nat → Int32) (x6 : Nat → Int32) (i : Nat) (q : Nat) (es : x4 2 = nI tt) (hts6 : tt < 6) (hi16 : i < 16) (hkq : kf (tt * 16 + i) = nI q) : CTi l D cI cJ cZ cR yX1_settledKind cX1_settledKind 4 (some .int) 0 0 0 0 sz [.ref lg, .ref rl, .int 2, .int (nI i)] [kX1 lg l1 l2 l3 l4 l5, kJ cJ l1 96 ff, kI cI l2 96 gf, kI cZ l3 96 zf, kI cI l4 96 kf, kI cI l5 6 cf, kX4 rl op b0 s0 w0 u0, kX0 b0 a1 a2 a3 en ev, kI cI a1 3 x1, kI cI a2 3 x2, kI cI a3 3 x3, kI cI s0 3 x4, kI cI w0 64 x5, kI cI u0 64 x6] (fun (r : Int32) (u : Unit) => (r = (nI q))) (fun (u : Unit) => [kX1 lg l1 l2 l3 l4 l5, kJ cJ l1 96 ff, kI cI l2 96 gf, kI cZ l3 96 zf, kI cI l4 96 kf, kI cI l5 6 cf, kX4 rl op b0 s0 w0 u0, kX0 b0 a1 a2 a3 en ev, kI cI a1 3 x1, kI cI a2 3 x2, kI cI a3 3 x3, kI cI s0 3 x4, kI cI w0 64 x5, kI cI u0 64 x6]) := by
  refine CTi.of (ty := .int) (by decide) (Nat.le_of_ble_eq_true rfl) rfl ?_
  intro p e s m below meth c A Q ls hd hin hK hsz hP hD hA hS hl hret
  obtain ⟨hx, hb, hml, hown, hts⟩ := id hd
  have hK1 := hK.1
  have hown : s.vm.findClass RX1 = some m.cls := hown
  have hl : lv_has ls 4 [(0, .ref lg), (1, .ref rl), (2, .int 2), (3, .int (nI i))] := hl
  refine lv_aload_n hx hb dX1_settledKind_0 rfl (lv_at hl 0 rfl) ?_
  refine va_get (D := D) (ci := 1) (v := .ref l4) (C := RX1) (T := TX1) (N := 5) hx hb hts iT_X1 hown hK1 hP 0 rfl rfl 3 (by decide) (hts _ t_139) (fun _ h9 => h9) rfl dX1_settledKind_1 ?_
  refine lv_aload_n hx hb dX1_settledKind_4 rfl (lv_at hl 1 rfl) ?_
  refine va_get (D := D) (ci := 4) (v := .ref s0) (C := RX4) (T := TX4) (N := 5) hx hb hts iT_X4 hown hK1 hP 6 rfl rfl 2 (by decide) (hts _ t_88) (fun _ h9 => h9) rfl dX1_settledKind_5 ?_
  refine lv_iload_n hx hb dX1_settledKind_8 rfl (lv_at hl 2 rfl) ?_
  refine va_iald hx hb hK1 hP 11 0 rfl rfl (vin (by decide)) dX1_settledKind_9 ?_
  refine lv_nmi (show _ = x4 2 from rfl) ?_
  refine lv_nmi (show _ = (nI tt : Int32) from es) ?_
  refine lv_bipush (v := 16) hx hb dX1_settledKind_10 (by decide) ?_
  refine lv_imul hx hb dX1_settledKind_12 ?_
  refine lv_nmi (show _ = (nI (tt * 16)) from pk_mul (tt) (16)) ?_
  refine lv_iload_n hx hb dX1_settledKind_13 rfl (lv_at hl 3 rfl) ?_
  refine lv_iadd hx hb dX1_settledKind_14 ?_
  refine lv_nmi (show _ = (nI ((tt * 16) + i)) from nI_add ((tt * 16)) (i)) ?_
  refine va_iald hx hb hK1 hP 4 0 rfl rfl (vp_in_nI (by omega) (by omega)) dX1_settledKind_15 ?_
  refine lv_nmi (show _ = kf ((tt * 16) + i) from by rw [nI_clamp (n := ((tt * 16) + i)) (by omega)]) ?_
  refine lv_nmi (show _ = (nI q : Int32) from hkq) ?_
  exact hret _ _ _ _ _ _ (nI q) () dX1_settledKind_16 rfl hS (Nat.le_of_ble_eq_true rfl) (Nat.le_of_ble_eq_true rfl) rfl (hP.sub [0, 1, 2, 3, 4, 5, 6, 7, 8, 9, 10, 11, 12, 13] rfl) (hD.sub [0, 1, 2, 3, 4, 5, 6, 7, 8, 9, 10, 11, 12, 13] rfl rfl)
set_option maxHeartbeats 4000000 in
set_option maxRecDepth 100000 in
theorem g_stepsIn_2 (sz : Nat) (lg : Nat) (l1 : Nat) (l2 : Nat) (l3 : Nat) (l4 : Nat) (l5 : Nat) (rl : Nat) (b0 : Nat) (a1 : Nat) (a2 : Nat) (a3 : Nat) (s0 : Nat) (w0 : Nat) (u0 : Nat) (tt : Nat) (ff : Nat → Int64) (gf : Nat → Int32) (zf : Nat → Int32) (kf : Nat → Int32) (cf : Nat → Int32) (op : Int32) (en : Int32) (ev : Int32) (x1 : Nat → Int32) (x2 : Nat → Int32) (x3 : Nat → Int32) (x4 : Nat → Int32) (x5 : Nat → Int32) (x6 : Nat → Int32) (q : Nat) (es : x4 2 = nI tt) (hts6 : tt < 6) (hq16 : q < 16) : CTl l D cI cJ cZ cR yX1_stepsIn cX1_stepsIn 4 (some .long) 0 0 0 0 sz [.ref lg, .ref rl, .int 2, .int (nI q)] [kX1 lg l1 l2 l3 l4 l5, kJ cJ l1 96 ff, kI cI l2 96 gf, kI cZ l3 96 zf, kI cI l4 96 kf, kI cI l5 6 cf, kX4 rl op b0 s0 w0 u0, kX0 b0 a1 a2 a3 en ev, kI cI a1 3 x1, kI cI a2 3 x2, kI cI a3 3 x3, kI cI s0 3 x4, kI cI w0 64 x5, kI cI u0 64 x6] (fun (r : Int64) (u : Unit) => True) (fun (u : Unit) => [kX1 lg l1 l2 l3 l4 l5, kJ cJ l1 96 ff, kI cI l2 96 gf, kI cZ l3 96 zf, kI cI l4 96 kf, kI cI l5 6 cf, kX4 rl op b0 s0 w0 u0, kX0 b0 a1 a2 a3 en ev, kI cI a1 3 x1, kI cI a2 3 x2, kI cI a3 3 x3, kI cI s0 3 x4, kI cI w0 64 x5, kI cI u0 64 x6]) := by
  refine CTl.of (by decide) (Nat.le_of_ble_eq_true rfl) rfl ?_
  intro p e s m below meth c A Q ls hd hin hK hsz hP hD hA hS hl hret
  obtain ⟨hx, hb, hml, hown, hts⟩ := id hd
  have hK1 := hK.1
  have hown : s.vm.findClass RX1 = some m.cls := hown
  have hl : lv_has ls 4 [(0, .ref lg), (1, .ref rl), (2, .int 2), (3, .int (nI q))] := hl
  refine lv_aload_n hx hb dX1_stepsIn_0 rfl (lv_at hl 0 rfl) ?_
  refine va_get (D := D) (ci := 1) (v := .ref l1) (C := RX1) (T := TX1) (N := 5) hx hb hts iT_X1 hown hK1 hP 0 rfl rfl 0 (by decide) (hts _ t_136) (fun _ h9 => h9) rfl dX1_stepsIn_1 ?_
  refine lv_aload_n hx hb dX1_stepsIn_4 rfl (lv_at hl 1 rfl) ?_
  refine va_get (D := D) (ci := 4) (v := .ref s0) (C := RX4) (T := TX4) (N := 5) hx hb hts iT_X4 hown hK1 hP 6 rfl rfl 2 (by decide) (hts _ t_88) (fun _ h9 => h9) rfl dX1_stepsIn_5 ?_
  refine lv_iload_n hx hb dX1_stepsIn_8 rfl (lv_at hl 2 rfl) ?_
  refine va_iald hx hb hK1 hP 11 0 rfl rfl (vin (by decide)) dX1_stepsIn_9 ?_
  refine lv_nmi (show _ = x4 2 from rfl) ?_
  refine lv_nmi (show _ = (nI tt : Int32) from es) ?_
  refine lv_bipush (v := 16) hx hb dX1_stepsIn_10 (by decide) ?_
  refine lv_imul hx hb dX1_stepsIn_12 ?_
  refine lv_nmi (show _ = (nI (tt * 16)) from pk_mul (tt) (16)) ?_
  refine lv_iload_n hx hb dX1_stepsIn_13 rfl (lv_at hl 3 rfl) ?_
  refine lv_iadd hx hb dX1_stepsIn_14 ?_
  refine lv_nmi (show _ = (nI ((tt * 16) + q)) from nI_add ((tt * 16)) (q)) ?_
  refine va_lald hx hb hK1 hP 1 1 rfl rfl (vp_in_nI (by omega) (by omega)) dX1_stepsIn_15 ?_
  refine lv_nml (show _ = ff ((tt * 16) + q) from by rw [nI_clamp (n := ((tt * 16) + q)) (by omega)]) ?_
  exact hret _ _ _ _ _ _ (ff ((tt * 16) + q)) () dX1_stepsIn_16 hS (Nat.le_of_ble_eq_true rfl) (Nat.le_of_ble_eq_true rfl) trivial (hP.sub [0, 1, 2, 3, 4, 5, 6, 7, 8, 9, 10, 11, 12, 13] rfl) (hD.sub [0, 1, 2, 3, 4, 5, 6, 7, 8, 9, 10, 11, 12, 13] rfl rfl)
end
