theorem mS_X6_isOpen : Cond.static yX6_isOpen ∈ gT ∧ Cond.initialized yX6_isOpen.cls ∈ gT ∧ Cond.code yX6_isOpen cX6_isOpen 1 (some .boolean) ∈ gT := ⟨t_217, t_1, t_218⟩
theorem hS_X6_isOpen : yX6_isOpen.cls ≠ "java/lang/invoke/MethodHandle" ∧ yX6_isOpen.cls ≠ "java/lang/invoke/VarHandle" ∧ (parseMethodDescriptor yX6_isOpen.desc).map (fun d => d.parameters.length) = some 1 := by decide +kernel
theorem mS_X3_letterOf : Cond.static yX3_letterOf ∈ gT ∧ Cond.initialized yX3_letterOf.cls ∈ gT ∧ Cond.code yX3_letterOf cX3_letterOf 1 (some .int) ∈ gT := ⟨t_214, t_2, t_215⟩
theorem hS_X3_letterOf : yX3_letterOf.cls ≠ "java/lang/invoke/MethodHandle" ∧ yX3_letterOf.cls ≠ "java/lang/invoke/VarHandle" ∧ (parseMethodDescriptor yX3_letterOf.desc).map (fun d => d.parameters.length) = some 1 := by decide +kernel
theorem mS_X6_mix : Cond.static yX6_mix ∈ gT ∧ Cond.initialized yX6_mix.cls ∈ gT ∧ Cond.code yX6_mix cX6_mix 3 (some .long) ∈ gT := ⟨t_536, t_1, t_537⟩
theorem hS_X6_mix : yX6_mix.cls ≠ "java/lang/invoke/MethodHandle" ∧ yX6_mix.cls ≠ "java/lang/invoke/VarHandle" ∧ (parseMethodDescriptor yX6_mix.desc).map (fun d => d.parameters.length) = some 2 := by decide +kernel
theorem mS_J6_bitCount_0f7a4 : Cond.static yJ6_bitCount_0f7a4 ∈ gT ∧ Cond.initialized yJ6_bitCount_0f7a4.cls ∈ gT ∧ Cond.code yJ6_bitCount_0f7a4 cJ6_bitCount_0f7a4 1 (some .int) ∈ gT := ⟨t_397, t_11, t_398⟩
theorem hS_J6_bitCount_0f7a4 : yJ6_bitCount_0f7a4.cls ≠ "java/lang/invoke/MethodHandle" ∧ yJ6_bitCount_0f7a4.cls ≠ "java/lang/invoke/VarHandle" ∧ (parseMethodDescriptor yJ6_bitCount_0f7a4.desc).map (fun d => d.parameters.length) = some 1 := by decide +kernel
theorem mV_X3_fitsHead : Cond.instanceMethod yX3_fitsHead ∈ gT ∧ Cond.selects RX3 yX3_fitsHead yX3_fitsHead ∈ gT ∧ Cond.initialized RX3 ∈ gT ∧ Cond.code yX3_fitsHead cX3_fitsHead 2 (some .boolean) ∈ gT := ⟨t_211, ts_0, t_2, t_212⟩
theorem hV_X3_fitsHead : yX3_fitsHead.cls = RX3 ∧ yX3_fitsHead.cls ≠ "java/lang/invoke/MethodHandle" ∧ yX3_fitsHead.cls ≠ "java/lang/invoke/VarHandle" ∧ (parseMethodDescriptor yX3_fitsHead.desc).map (fun d => d.parameters.length) = some 1 := by decide +kernel
theorem mV_X3_fitsEdge : Cond.instanceMethod yX3_fitsEdge ∈ gT ∧ Cond.selects RX3 yX3_fitsEdge yX3_fitsEdge ∈ gT ∧ Cond.initialized RX3 ∈ gT ∧ Cond.code yX3_fitsEdge cX3_fitsEdge 6 (some .boolean) ∈ gT := ⟨t_221, ts_1, t_2, t_222⟩
theorem hV_X3_fitsEdge : yX3_fitsEdge.cls = RX3 ∧ yX3_fitsEdge.cls ≠ "java/lang/invoke/MethodHandle" ∧ yX3_fitsEdge.cls ≠ "java/lang/invoke/VarHandle" ∧ (parseMethodDescriptor yX3_fitsEdge.desc).map (fun d => d.parameters.length) = some 3 := by decide +kernel
theorem mV_X3_firstFault : Cond.instanceMethod yX3_firstFault ∈ gT ∧ Cond.selects RX3 yX3_firstFault yX3_firstFault ∈ gT ∧ Cond.initialized RX3 ∈ gT ∧ Cond.code yX3_firstFault cX3_firstFault 6 (some .int) ∈ gT := ⟨t_206, t_207, t_2, t_208⟩
theorem hV_X3_firstFault : yX3_firstFault.cls = RX3 ∧ yX3_firstFault.cls ≠ "java/lang/invoke/MethodHandle" ∧ yX3_firstFault.cls ≠ "java/lang/invoke/VarHandle" ∧ (parseMethodDescriptor yX3_firstFault.desc).map (fun d => d.parameters.length) = some 1 := by decide +kernel
theorem mV_X3_isWhole : Cond.instanceMethod yX3_isWhole ∈ gT ∧ Cond.selects RX3 yX3_isWhole yX3_isWhole ∈ gT ∧ Cond.initialized RX3 ∈ gT ∧ Cond.code yX3_isWhole cX3_isWhole 2 (some .boolean) ∈ gT := ⟨t_233, ts_2, t_2, t_234⟩
theorem hV_X3_isWhole : yX3_isWhole.cls = RX3 ∧ yX3_isWhole.cls ≠ "java/lang/invoke/MethodHandle" ∧ yX3_isWhole.cls ≠ "java/lang/invoke/VarHandle" ∧ (parseMethodDescriptor yX3_isWhole.desc).map (fun d => d.parameters.length) = some 1 := by decide +kernel
theorem mV_X3_names : Cond.instanceMethod yX3_names ∈ gT ∧ Cond.selects RX3 yX3_names yX3_names ∈ gT ∧ Cond.initialized RX3 ∈ gT ∧ Cond.code yX3_names cX3_names 3 (some .boolean) ∈ gT := ⟨t_238, ts_3, t_2, t_239⟩
theorem hV_X3_names : yX3_names.cls = RX3 ∧ yX3_names.cls ≠ "java/lang/invoke/MethodHandle" ∧ yX3_names.cls ≠ "java/lang/invoke/VarHandle" ∧ (parseMethodDescriptor yX3_names.desc).map (fun d => d.parameters.length) = some 1 := by decide +kernel
theorem dJ6_bitCount_0f7a4_0 : decode cJ6_bitCount_0f7a4 0 = .ok (.iload_n 0, 1) := by decide +kernel
theorem dJ6_bitCount_0f7a4_1 : decode cJ6_bitCount_0f7a4 1 = .ok (.iload_n 0, 1) := by decide +kernel
theorem dJ6_bitCount_0f7a4_2 : decode cJ6_bitCount_0f7a4 2 = .ok (.iconst 1, 1) := by decide +kernel
theorem dJ6_bitCount_0f7a4_3 : decode cJ6_bitCount_0f7a4 3 = .ok (.iushr, 1) := by decide +kernel
theorem dJ6_bitCount_0f7a4_4 : decode cJ6_bitCount_0f7a4 4 = .ok (.ldc_w 265, 3) := by decide +kernel
theorem dJ6_bitCount_0f7a4_7 : decode cJ6_bitCount_0f7a4 7 = .ok (.iand, 1) := by decide +kernel
theorem dJ6_bitCount_0f7a4_8 : decode cJ6_bitCount_0f7a4 8 = .ok (.isub, 1) := by decide +kernel
theorem dJ6_bitCount_0f7a4_9 : decode cJ6_bitCount_0f7a4 9 = .ok (.istore_n 0, 1) := by decide +kernel
theorem dJ6_bitCount_0f7a4_10 : decode cJ6_bitCount_0f7a4 10 = .ok (.iload_n 0, 1) := by decide +kernel
theorem dJ6_bitCount_0f7a4_11 : decode cJ6_bitCount_0f7a4 11 = .ok (.ldc_w 266, 3) := by decide +kernel
theorem dJ6_bitCount_0f7a4_14 : decode cJ6_bitCount_0f7a4 14 = .ok (.iand, 1) := by decide +kernel
theorem dJ6_bitCount_0f7a4_15 : decode cJ6_bitCount_0f7a4 15 = .ok (.iload_n 0, 1) := by decide +kernel
theorem dJ6_bitCount_0f7a4_16 : decode cJ6_bitCount_0f7a4 16 = .ok (.iconst 2, 1) := by decide +kernel
theorem dJ6_bitCount_0f7a4_17 : decode cJ6_bitCount_0f7a4 17 = .ok (.iushr, 1) := by decide +kernel
theorem dJ6_bitCount_0f7a4_18 : decode cJ6_bitCount_0f7a4 18 = .ok (.ldc_w 266, 3) := by decide +kernel
theorem dJ6_bitCount_0f7a4_21 : decode cJ6_bitCount_0f7a4 21 = .ok (.iand, 1) := by decide +kernel
theorem dJ6_bitCount_0f7a4_22 : decode cJ6_bitCount_0f7a4 22 = .ok (.iadd, 1) := by decide +kernel
theorem dJ6_bitCount_0f7a4_23 : decode cJ6_bitCount_0f7a4 23 = .ok (.istore_n 0, 1) := by decide +kernel
theorem dJ6_bitCount_0f7a4_24 : decode cJ6_bitCount_0f7a4 24 = .ok (.iload_n 0, 1) := by decide +kernel
theorem dJ6_bitCount_0f7a4_25 : decode cJ6_bitCount_0f7a4 25 = .ok (.iload_n 0, 1) := by decide +kernel
theorem dJ6_bitCount_0f7a4_26 : decode cJ6_bitCount_0f7a4 26 = .ok (.iconst 4, 1) := by decide +kernel
theorem dJ6_bitCount_0f7a4_27 : decode cJ6_bitCount_0f7a4 27 = .ok (.iushr, 1) := by decide +kernel
theorem dJ6_bitCount_0f7a4_28 : decode cJ6_bitCount_0f7a4 28 = .ok (.iadd, 1) := by decide +kernel
theorem dJ6_bitCount_0f7a4_29 : decode cJ6_bitCount_0f7a4 29 = .ok (.ldc_w 267, 3) := by decide +kernel
theorem dJ6_bitCount_0f7a4_32 : decode cJ6_bitCount_0f7a4 32 = .ok (.iand, 1) := by decide +kernel
theorem dJ6_bitCount_0f7a4_33 : decode cJ6_bitCount_0f7a4 33 = .ok (.istore_n 0, 1) := by decide +kernel
theorem dJ6_bitCount_0f7a4_34 : decode cJ6_bitCount_0f7a4 34 = .ok (.iload_n 0, 1) := by decide +kernel
theorem dJ6_bitCount_0f7a4_35 : decode cJ6_bitCount_0f7a4 35 = .ok (.iload_n 0, 1) := by decide +kernel
theorem dJ6_bitCount_0f7a4_36 : decode cJ6_bitCount_0f7a4 36 = .ok (.bipush 8, 2) := by decide +kernel
theorem dJ6_bitCount_0f7a4_38 : decode cJ6_bitCount_0f7a4 38 = .ok (.iushr, 1) := by decide +kernel
theorem dJ6_bitCount_0f7a4_39 : decode cJ6_bitCount_0f7a4 39 = .ok (.iadd, 1) := by decide +kernel
theorem dJ6_bitCount_0f7a4_40 : decode cJ6_bitCount_0f7a4 40 = .ok (.istore_n 0, 1) := by decide +kernel
theorem dJ6_bitCount_0f7a4_41 : decode cJ6_bitCount_0f7a4 41 = .ok (.iload_n 0, 1) := by decide +kernel
theorem dJ6_bitCount_0f7a4_42 : decode cJ6_bitCount_0f7a4 42 = .ok (.iload_n 0, 1) := by decide +kernel
theorem dJ6_bitCount_0f7a4_43 : decode cJ6_bitCount_0f7a4 43 = .ok (.bipush 16, 2) := by decide +kernel
theorem dJ6_bitCount_0f7a4_45 : decode cJ6_bitCount_0f7a4 45 = .ok (.iushr, 1) := by decide +kernel
theorem dJ6_bitCount_0f7a4_46 : decode cJ6_bitCount_0f7a4 46 = .ok (.iadd, 1) := by decide +kernel
theorem dJ6_bitCount_0f7a4_47 : decode cJ6_bitCount_0f7a4 47 = .ok (.istore_n 0, 1) := by decide +kernel
theorem dJ6_bitCount_0f7a4_48 : decode cJ6_bitCount_0f7a4 48 = .ok (.iload_n 0, 1) := by decide +kernel
theorem dJ6_bitCount_0f7a4_49 : decode cJ6_bitCount_0f7a4 49 = .ok (.bipush 63, 2) := by decide +kernel
theorem dJ6_bitCount_0f7a4_51 : decode cJ6_bitCount_0f7a4 51 = .ok (.iand, 1) := by decide +kernel
theorem dJ6_bitCount_0f7a4_52 : decode cJ6_bitCount_0f7a4 52 = .ok (.ireturn, 1) := by decide +kernel
theorem dX3_firstFault_0 : decode cX3_firstFault 0 = .ok (.iload_n 1, 1) := by decide +kernel
theorem dX3_firstFault_1 : decode cX3_firstFault 1 = .ok (.ifCond .eq 7, 3) := by decide +kernel
theorem dX3_firstFault_4 : decode cX3_firstFault 4 = .ok (.iconst 0, 1) := by decide +kernel
theorem dX3_firstFault_5 : decode cX3_firstFault 5 = .ok (.goto 4, 3) := by decide +kernel
theorem dX3_firstFault_8 : decode cX3_firstFault 8 = .ok (.iconst 2, 1) := by decide +kernel
theorem dX3_firstFault_9 : decode cX3_firstFault 9 = .ok (.istore_n 2, 1) := by decide +kernel
theorem dX3_firstFault_10 : decode cX3_firstFault 10 = .ok (.iload_n 2, 1) := by decide +kernel
theorem dX3_firstFault_11 : decode cX3_firstFault 11 = .ok (.iconst 3, 1) := by decide +kernel
theorem dX3_firstFault_12 : decode cX3_firstFault 12 = .ok (.iload_n 1, 1) := by decide +kernel
theorem dX3_firstFault_13 : decode cX3_firstFault 13 = .ok (.ifCond .eq 7, 3) := by decide +kernel
theorem dX3_firstFault_16 : decode cX3_firstFault 16 = .ok (.iconst 5, 1) := by decide +kernel
theorem dX3_firstFault_17 : decode cX3_firstFault 17 = .ok (.goto 4, 3) := by decide +kernel
theorem dX3_firstFault_20 : decode cX3_firstFault 20 = .ok (.iconst 3, 1) := by decide +kernel
theorem dX3_firstFault_21 : decode cX3_firstFault 21 = .ok (.imul, 1) := by decide +kernel
theorem dX3_firstFault_22 : decode cX3_firstFault 22 = .ok (.iadd, 1) := by decide +kernel
theorem dX3_firstFault_23 : decode cX3_firstFault 23 = .ok (.istore_n 3, 1) := by decide +kernel
theorem dX3_firstFault_24 : decode cX3_firstFault 24 = .ok (.iconst 0, 1) := by decide +kernel
theorem dX3_firstFault_25 : decode cX3_firstFault 25 = .ok (.istore 4, 2) := by decide +kernel
theorem dX3_firstFault_27 : decode cX3_firstFault 27 = .ok (.iload 4, 2) := by decide +kernel
theorem dX3_firstFault_29 : decode cX3_firstFault 29 = .ok (.aload_n 0, 1) := by decide +kernel
theorem dX3_firstFault_30 : decode cX3_firstFault 30 = .ok (.getfield 15, 3) := by decide +kernel
theorem dX3_firstFault_33 : decode cX3_firstFault 33 = .ok (.if_icmp .ge 53, 3) := by decide +kernel
theorem dX3_firstFault_36 : decode cX3_firstFault 36 = .ok (.iload 4, 2) := by decide +kernel
theorem dX3_firstFault_38 : decode cX3_firstFault 38 = .ok (.iload_n 2, 1) := by decide +kernel
theorem dX3_firstFault_39 : decode cX3_firstFault 39 = .ok (.if_icmp .ge 12, 3) := by decide +kernel
theorem dX3_firstFault_42 : decode cX3_firstFault 42 = .ok (.aload_n 0, 1) := by decide +kernel
theorem dX3_firstFault_43 : decode cX3_firstFault 43 = .ok (.iload 4, 2) := by decide +kernel
theorem dX3_firstFault_45 : decode cX3_firstFault 45 = .ok (.invokevirtual 19, 3) := by decide +kernel
theorem dX3_firstFault_48 : decode cX3_firstFault 48 = .ok (.goto 16, 3) := by decide +kernel
theorem dX3_firstFault_51 : decode cX3_firstFault 51 = .ok (.aload_n 0, 1) := by decide +kernel
theorem dX3_firstFault_52 : decode cX3_firstFault 52 = .ok (.iload 4, 2) := by decide +kernel
theorem dX3_firstFault_54 : decode cX3_firstFault 54 = .ok (.iload 4, 2) := by decide +kernel
theorem dX3_firstFault_56 : decode cX3_firstFault 56 = .ok (.iload_n 2, 1) := by decide +kernel
theorem dX3_firstFault_57 : decode cX3_firstFault 57 = .ok (.isub, 1) := by decide +kernel
theorem dX3_firstFault_58 : decode cX3_firstFault 58 = .ok (.iconst 3, 1) := by decide +kernel
theorem dX3_firstFault_59 : decode cX3_firstFault 59 = .ok (.irem, 1) := by decide +kernel
theorem dX3_firstFault_60 : decode cX3_firstFault 60 = .ok (.iload_n 1, 1) := by decide +kernel
theorem dX3_firstFault_61 : decode cX3_firstFault 61 = .ok (.invokevirtual 23, 3) := by decide +kernel
theorem dX3_firstFault_64 : decode cX3_firstFault 64 = .ok (.istore 5, 2) := by decide +kernel
theorem dX3_firstFault_66 : decode cX3_firstFault 66 = .ok (.iload 4, 2) := by decide +kernel
theorem dX3_firstFault_68 : decode cX3_firstFault 68 = .ok (.iload_n 3, 1) := by decide +kernel
theorem dX3_firstFault_69 : decode cX3_firstFault 69 = .ok (.if_icmp .ge 8, 3) := by decide +kernel
theorem dX3_firstFault_72 : decode cX3_firstFault 72 = .ok (.iload 5, 2) := by decide +kernel
theorem dX3_firstFault_74 : decode cX3_firstFault 74 = .ok (.ifCond .ne 6, 3) := by decide +kernel
theorem dX3_firstFault_77 : decode cX3_firstFault 77 = .ok (.iload 4, 2) := by decide +kernel
theorem dX3_firstFault_79 : decode cX3_firstFault 79 = .ok (.ireturn, 1) := by decide +kernel
theorem dX3_firstFault_80 : decode cX3_firstFault 80 = .ok (.iinc 4 1, 3) := by decide +kernel
theorem dX3_firstFault_83 : decode cX3_firstFault 83 = .ok (.goto (-56), 3) := by decide +kernel
theorem dX3_firstFault_86 : decode cX3_firstFault 86 = .ok (.aload_n 0, 1) := by decide +kernel
theorem dX3_firstFault_87 : decode cX3_firstFault 87 = .ok (.getfield 15, 3) := by decide +kernel
theorem dX3_firstFault_90 : decode cX3_firstFault 90 = .ok (.ireturn, 1) := by decide +kernel
theorem dX3_fitsEdge_0 : decode cX3_fitsEdge 0 = .ok (.iload_n 2, 1) := by decide +kernel
theorem dX3_fitsEdge_1 : decode cX3_fitsEdge 1 = .ok (.ifCond .ne 43, 3) := by decide +kernel
theorem dX3_fitsEdge_4 : decode cX3_fitsEdge 4 = .ok (.aload_n 0, 1) := by decide +kernel
theorem dX3_fitsEdge_5 : decode cX3_fitsEdge 5 = .ok (.getfield 9, 3) := by decide +kernel
theorem dX3_fitsEdge_8 : decode cX3_fitsEdge 8 = .ok (.iload_n 1, 1) := by decide +kernel
theorem dX3_fitsEdge_9 : decode cX3_fitsEdge 9 = .ok (.iaload, 1) := by decide +kernel
theorem dX3_fitsEdge_10 : decode cX3_fitsEdge 10 = .ok (.invokestatic 27, 3) := by decide +kernel
theorem dX3_fitsEdge_13 : decode cX3_fitsEdge 13 = .ok (.istore 4, 2) := by decide +kernel
theorem dX3_fitsEdge_15 : decode cX3_fitsEdge 15 = .ok (.iload_n 3, 1) := by decide +kernel
theorem dX3_fitsEdge_16 : decode cX3_fitsEdge 16 = .ok (.ifCond .eq 17, 3) := by decide +kernel
theorem dX3_fitsEdge_19 : decode cX3_fitsEdge 19 = .ok (.iload 4, 2) := by decide +kernel
theorem dX3_fitsEdge_21 : decode cX3_fitsEdge 21 = .ok (.iconst 3, 1) := by decide +kernel
theorem dX3_fitsEdge_22 : decode cX3_fitsEdge 22 = .ok (.if_icmp .lt 7, 3) := by decide +kernel
theorem dX3_fitsEdge_25 : decode cX3_fitsEdge 25 = .ok (.iconst 1, 1) := by decide +kernel
theorem dX3_fitsEdge_26 : decode cX3_fitsEdge 26 = .ok (.goto 17, 3) := by decide +kernel
theorem dX3_fitsEdge_29 : decode cX3_fitsEdge 29 = .ok (.iconst 0, 1) := by decide +kernel
theorem dX3_fitsEdge_30 : decode cX3_fitsEdge 30 = .ok (.goto 13, 3) := by decide +kernel
theorem dX3_fitsEdge_33 : decode cX3_fitsEdge 33 = .ok (.iload 4, 2) := by decide +kernel
theorem dX3_fitsEdge_35 : decode cX3_fitsEdge 35 = .ok (.ifCond .lt 7, 3) := by decide +kernel
theorem dX3_fitsEdge_38 : decode cX3_fitsEdge 38 = .ok (.iconst 1, 1) := by decide +kernel
theorem dX3_fitsEdge_39 : decode cX3_fitsEdge 39 = .ok (.goto 4, 3) := by decide +kernel
theorem dX3_fitsEdge_42 : decode cX3_fitsEdge 42 = .ok (.iconst 0, 1) := by decide +kernel
theorem dX3_fitsEdge_43 : decode cX3_fitsEdge 43 = .ok (.ireturn, 1) := by decide +kernel
theorem dX3_fitsEdge_44 : decode cX3_fitsEdge 44 = .ok (.iload_n 3, 1) := by decide +kernel
theorem dX3_fitsEdge_45 : decode cX3_fitsEdge 45 = .ok (.ifCond .eq 8, 3) := by decide +kernel
theorem dX3_fitsEdge_48 : decode cX3_fitsEdge 48 = .ok (.bipush 52, 2) := by decide +kernel
theorem dX3_fitsEdge_50 : decode cX3_fitsEdge 50 = .ok (.goto 5, 3) := by decide +kernel
theorem dX3_fitsEdge_53 : decode cX3_fitsEdge 53 = .ok (.bipush 51, 2) := by decide +kernel
theorem dX3_fitsEdge_55 : decode cX3_fitsEdge 55 = .ok (.istore 4, 2) := by decide +kernel
theorem dX3_fitsEdge_57 : decode cX3_fitsEdge 57 = .ok (.aload_n 0, 1) := by decide +kernel
theorem dX3_fitsEdge_58 : decode cX3_fitsEdge 58 = .ok (.getfield 9, 3) := by decide +kernel
theorem dX3_fitsEdge_61 : decode cX3_fitsEdge 61 = .ok (.iload_n 1, 1) := by decide +kernel
theorem dX3_fitsEdge_62 : decode cX3_fitsEdge 62 = .ok (.iaload, 1) := by decide +kernel
theorem dX3_fitsEdge_63 : decode cX3_fitsEdge 63 = .ok (.bipush 48, 2) := by decide +kernel
theorem dX3_fitsEdge_65 : decode cX3_fitsEdge 65 = .ok (.if_icmp .lt 18, 3) := by decide +kernel
theorem dX3_fitsEdge_68 : decode cX3_fitsEdge 68 = .ok (.aload_n 0, 1) := by decide +kernel
theorem dX3_fitsEdge_69 : decode cX3_fitsEdge 69 = .ok (.getfield 9, 3) := by decide +kernel
theorem dX3_fitsEdge_72 : decode cX3_fitsEdge 72 = .ok (.iload_n 1, 1) := by decide +kernel
theorem dX3_fitsEdge_73 : decode cX3_fitsEdge 73 = .ok (.iaload, 1) := by decide +kernel
theorem dX3_fitsEdge_74 : decode cX3_fitsEdge 74 = .ok (.iload 4, 2) := by decide +kernel
theorem dX3_fitsEdge_76 : decode cX3_fitsEdge 76 = .ok (.if_icmp .gt 7, 3) := by decide +kernel
theorem dX3_fitsEdge_79 : decode cX3_fitsEdge 79 = .ok (.iconst 1, 1) := by decide +kernel
theorem dX3_fitsEdge_80 : decode cX3_fitsEdge 80 = .ok (.goto 4, 3) := by decide +kernel
theorem dX3_fitsEdge_83 : decode cX3_fitsEdge 83 = .ok (.iconst 0, 1) := by decide +kernel
theorem dX3_fitsEdge_84 : decode cX3_fitsEdge 84 = .ok (.istore 5, 2) := by decide +kernel
theorem dX3_fitsEdge_86 : decode cX3_fitsEdge 86 = .ok (.iload 5, 2) := by decide +kernel
theorem dX3_fitsEdge_88 : decode cX3_fitsEdge 88 = .ok (.ifCond .eq 29, 3) := by decide +kernel
theorem dX3_fitsEdge_91 : decode cX3_fitsEdge 91 = .ok (.iload_n 2, 1) := by decide +kernel
theorem dX3_fitsEdge_92 : decode cX3_fitsEdge 92 = .ok (.iconst 1, 1) := by decide +kernel
theorem dX3_fitsEdge_93 : decode cX3_fitsEdge 93 = .ok (.if_icmp .eq 20, 3) := by decide +kernel
theorem dX3_fitsEdge_96 : decode cX3_fitsEdge 96 = .ok (.aload_n 0, 1) := by decide +kernel
theorem dX3_fitsEdge_97 : decode cX3_fitsEdge 97 = .ok (.getfield 9, 3) := by decide +kernel
theorem dX3_fitsEdge_100 : decode cX3_fitsEdge 100 = .ok (.iload_n 1, 1) := by decide +kernel
theorem dX3_fitsEdge_101 : decode cX3_fitsEdge 101 = .ok (.iaload, 1) := by decide +kernel
theorem dX3_fitsEdge_102 : decode cX3_fitsEdge 102 = .ok (.aload_n 0, 1) := by decide +kernel
theorem dX3_fitsEdge_103 : decode cX3_fitsEdge 103 = .ok (.getfield 9, 3) := by decide +kernel
theorem dX3_fitsEdge_106 : decode cX3_fitsEdge 106 = .ok (.iload_n 1, 1) := by decide +kernel
theorem dX3_fitsEdge_107 : decode cX3_fitsEdge 107 = .ok (.iconst 1, 1) := by decide +kernel
theorem dX3_fitsEdge_108 : decode cX3_fitsEdge 108 = .ok (.isub, 1) := by decide +kernel
theorem dX3_fitsEdge_109 : decode cX3_fitsEdge 109 = .ok (.iaload, 1) := by decide +kernel
theorem dX3_fitsEdge_110 : decode cX3_fitsEdge 110 = .ok (.if_icmp .eq 7, 3) := by decide +kernel
theorem dX3_fitsEdge_113 : decode cX3_fitsEdge 113 = .ok (.iconst 1, 1) := by decide +kernel
theorem dX3_fitsEdge_114 : decode cX3_fitsEdge 114 = .ok (.goto 4, 3) := by decide +kernel
theorem dX3_fitsEdge_117 : decode cX3_fitsEdge 117 = .ok (.iconst 0, 1) := by decide +kernel
theorem dX3_fitsEdge_118 : decode cX3_fitsEdge 118 = .ok (.ireturn, 1) := by decide +kernel
theorem dX3_fitsHead_0 : decode cX3_fitsHead 0 = .ok (.iload_n 1, 1) := by decide +kernel
theorem dX3_fitsHead_1 : decode cX3_fitsHead 1 = .ok (.ifCond .ne 18, 3) := by decide +kernel
theorem dX3_fitsHead_4 : decode cX3_fitsHead 4 = .ok (.aload_n 0, 1) := by decide +kernel
theorem dX3_fitsHead_5 : decode cX3_fitsHead 5 = .ok (.getfield 9, 3) := by decide +kernel
theorem dX3_fitsHead_8 : decode cX3_fitsHead 8 = .ok (.iload_n 1, 1) := by decide +kernel
theorem dX3_fitsHead_9 : decode cX3_fitsHead 9 = .ok (.iaload, 1) := by decide +kernel
theorem dX3_fitsHead_10 : decode cX3_fitsHead 10 = .ok (.invokestatic 27, 3) := by decide +kernel
theorem dX3_fitsHead_13 : decode cX3_fitsHead 13 = .ok (.invokestatic 31, 3) := by decide +kernel
theorem dX3_fitsHead_16 : decode cX3_fitsHead 16 = .ok (.goto 19, 3) := by decide +kernel
theorem dX3_fitsHead_19 : decode cX3_fitsHead 19 = .ok (.aload_n 0, 1) := by decide +kernel
theorem dX3_fitsHead_20 : decode cX3_fitsHead 20 = .ok (.getfield 9, 3) := by decide +kernel
theorem dX3_fitsHead_23 : decode cX3_fitsHead 23 = .ok (.iload_n 1, 1) := by decide +kernel
theorem dX3_fitsHead_24 : decode cX3_fitsHead 24 = .ok (.iaload, 1) := by decide +kernel
theorem dX3_fitsHead_25 : decode cX3_fitsHead 25 = .ok (.bipush 61, 2) := by decide +kernel
theorem dX3_fitsHead_27 : decode cX3_fitsHead 27 = .ok (.if_icmp .ne 7, 3) := by decide +kernel
theorem dX3_fitsHead_30 : decode cX3_fitsHead 30 = .ok (.iconst 1, 1) := by decide +kernel
theorem dX3_fitsHead_31 : decode cX3_fitsHead 31 = .ok (.goto 4, 3) := by decide +kernel
theorem dX3_fitsHead_34 : decode cX3_fitsHead 34 = .ok (.iconst 0, 1) := by decide +kernel
theorem dX3_fitsHead_35 : decode cX3_fitsHead 35 = .ok (.ireturn, 1) := by decide +kernel
theorem dX3_isWhole_0 : decode cX3_isWhole 0 = .ok (.aload_n 0, 1) := by decide +kernel
theorem dX3_isWhole_1 : decode cX3_isWhole 1 = .ok (.getfield 15, 3) := by decide +kernel
theorem dX3_isWhole_4 : decode cX3_isWhole 4 = .ok (.iload_n 1, 1) := by decide +kernel
theorem dX3_isWhole_5 : decode cX3_isWhole 5 = .ok (.if_icmp .le 18, 3) := by decide +kernel
theorem dX3_isWhole_8 : decode cX3_isWhole 8 = .ok (.aload_n 0, 1) := by decide +kernel
theorem dX3_isWhole_9 : decode cX3_isWhole 9 = .ok (.getfield 15, 3) := by decide +kernel
theorem dX3_isWhole_12 : decode cX3_isWhole 12 = .ok (.iload_n 1, 1) := by decide +kernel
theorem dX3_isWhole_13 : decode cX3_isWhole 13 = .ok (.isub, 1) := by decide +kernel
theorem dX3_isWhole_14 : decode cX3_isWhole 14 = .ok (.iconst 3, 1) := by decide +kernel
theorem dX3_isWhole_15 : decode cX3_isWhole 15 = .ok (.irem, 1) := by decide +kernel
theorem dX3_isWhole_16 : decode cX3_isWhole 16 = .ok (.ifCond .ne 7, 3) := by decide +kernel
theorem dX3_isWhole_19 : decode cX3_isWhole 19 = .ok (.iconst 1, 1) := by decide +kernel
theorem dX3_isWhole_20 : decode cX3_isWhole 20 = .ok (.goto 4, 3) := by decide +kernel
theorem dX3_isWhole_23 : decode cX3_isWhole 23 = .ok (.iconst 0, 1) := by decide +kernel
theorem dX3_isWhole_24 : decode cX3_isWhole 24 = .ok (.ireturn, 1) := by decide +kernel
theorem dX3_letterOf_0 : decode cX3_letterOf 0 = .ok (.iload_n 0, 1) := by decide +kernel
theorem dX3_letterOf_1 : decode cX3_letterOf 1 = .ok (.bipush 65, 2) := by decide +kernel
theorem dX3_letterOf_3 : decode cX3_letterOf 3 = .ok (.if_icmp .lt 14, 3) := by decide +kernel
theorem dX3_letterOf_6 : decode cX3_letterOf 6 = .ok (.iload_n 0, 1) := by decide +kernel
theorem dX3_letterOf_7 : decode cX3_letterOf 7 = .ok (.bipush 67, 2) := by decide +kernel
theorem dX3_letterOf_9 : decode cX3_letterOf 9 = .ok (.if_icmp .gt 8, 3) := by decide +kernel
theorem dX3_letterOf_12 : decode cX3_letterOf 12 = .ok (.iload_n 0, 1) := by decide +kernel
theorem dX3_letterOf_13 : decode cX3_letterOf 13 = .ok (.bipush 65, 2) := by decide +kernel
theorem dX3_letterOf_15 : decode cX3_letterOf 15 = .ok (.isub, 1) := by decide +kernel
theorem dX3_letterOf_16 : decode cX3_letterOf 16 = .ok (.ireturn, 1) := by decide +kernel
theorem dX3_letterOf_17 : decode cX3_letterOf 17 = .ok (.iload_n 0, 1) := by decide +kernel
theorem dX3_letterOf_18 : decode cX3_letterOf 18 = .ok (.bipush 97, 2) := by decide +kernel
theorem dX3_letterOf_20 : decode cX3_letterOf 20 = .ok (.if_icmp .ne 7, 3) := by decide +kernel
theorem dX3_letterOf_23 : decode cX3_letterOf 23 = .ok (.iconst 3, 1) := by decide +kernel
theorem dX3_letterOf_24 : decode cX3_letterOf 24 = .ok (.goto 14, 3) := by decide +kernel
theorem dX3_letterOf_27 : decode cX3_letterOf 27 = .ok (.iload_n 0, 1) := by decide +kernel
theorem dX3_letterOf_28 : decode cX3_letterOf 28 = .ok (.bipush 98, 2) := by decide +kernel
theorem dX3_letterOf_30 : decode cX3_letterOf 30 = .ok (.if_icmp .ne 7, 3) := by decide +kernel
theorem dX3_letterOf_33 : decode cX3_letterOf 33 = .ok (.iconst 4, 1) := by decide +kernel
theorem dX3_letterOf_34 : decode cX3_letterOf 34 = .ok (.goto 4, 3) := by decide +kernel
theorem dX3_letterOf_37 : decode cX3_letterOf 37 = .ok (.iconst (-1), 1) := by decide +kernel
theorem dX3_letterOf_38 : decode cX3_letterOf 38 = .ok (.ireturn, 1) := by decide +kernel
theorem dX3_names_0 : decode cX3_names 0 = .ok (.iconst 0, 1) := by decide +kernel
theorem dX3_names_1 : decode cX3_names 1 = .ok (.istore_n 2, 1) := by decide +kernel
theorem dX3_names_2 : decode cX3_names 2 = .ok (.iload_n 2, 1) := by decide +kernel
theorem dX3_names_3 : decode cX3_names 3 = .ok (.aload_n 0, 1) := by decide +kernel
theorem dX3_names_4 : decode cX3_names 4 = .ok (.getfield 15, 3) := by decide +kernel
theorem dX3_names_7 : decode cX3_names 7 = .ok (.if_icmp .ge 24, 3) := by decide +kernel
theorem dX3_names_10 : decode cX3_names 10 = .ok (.aload_n 0, 1) := by decide +kernel
theorem dX3_names_11 : decode cX3_names 11 = .ok (.getfield 9, 3) := by decide +kernel
theorem dX3_names_14 : decode cX3_names 14 = .ok (.iload_n 2, 1) := by decide +kernel
theorem dX3_names_15 : decode cX3_names 15 = .ok (.iaload, 1) := by decide +kernel
theorem dX3_names_16 : decode cX3_names 16 = .ok (.bipush 48, 2) := by decide +kernel
theorem dX3_names_18 : decode cX3_names 18 = .ok (.iload_n 1, 1) := by decide +kernel
theorem dX3_names_19 : decode cX3_names 19 = .ok (.iadd, 1) := by decide +kernel
theorem dX3_names_20 : decode cX3_names 20 = .ok (.if_icmp .ne 5, 3) := by decide +kernel
theorem dX3_names_23 : decode cX3_names 23 = .ok (.iconst 1, 1) := by decide +kernel
theorem dX3_names_24 : decode cX3_names 24 = .ok (.ireturn, 1) := by decide +kernel
theorem dX3_names_25 : decode cX3_names 25 = .ok (.iinc 2 1, 3) := by decide +kernel
theorem dX3_names_28 : decode cX3_names 28 = .ok (.goto (-26), 3) := by decide +kernel
theorem dX3_names_31 : decode cX3_names 31 = .ok (.iconst 0, 1) := by decide +kernel
theorem dX3_names_32 : decode cX3_names 32 = .ok (.ireturn, 1) := by decide +kernel
theorem dX6_isOpen_0 : decode cX6_isOpen 0 = .ok (.iload_n 0, 1) := by decide +kernel
theorem dX6_isOpen_1 : decode cX6_isOpen 1 = .ok (.ifCond .lt 12, 3) := by decide +kernel
theorem dX6_isOpen_4 : decode cX6_isOpen 4 = .ok (.iload_n 0, 1) := by decide +kernel
theorem dX6_isOpen_5 : decode cX6_isOpen 5 = .ok (.iconst 3, 1) := by decide +kernel
theorem dX6_isOpen_6 : decode cX6_isOpen 6 = .ok (.if_icmp .ge 7, 3) := by decide +kernel
theorem dX6_isOpen_9 : decode cX6_isOpen 9 = .ok (.iconst 1, 1) := by decide +kernel
theorem dX6_isOpen_10 : decode cX6_isOpen 10 = .ok (.goto 4, 3) := by decide +kernel
theorem dX6_isOpen_13 : decode cX6_isOpen 13 = .ok (.iconst 0, 1) := by decide +kernel
theorem dX6_isOpen_14 : decode cX6_isOpen 14 = .ok (.ireturn, 1) := by decide +kernel
theorem dX6_mix_0 : decode cX6_mix 0 = .ok (.ldc2_w 204, 3) := by decide +kernel
theorem dX6_mix_3 : decode cX6_mix 3 = .ok (.lload_n 0, 1) := by decide +kernel
theorem dX6_mix_4 : decode cX6_mix 4 = .ok (.lmul, 1) := by decide +kernel
theorem dX6_mix_5 : decode cX6_mix 5 = .ok (.iload_n 2, 1) := by decide +kernel
theorem dX6_mix_6 : decode cX6_mix 6 = .ok (.i2l, 1) := by decide +kernel
theorem dX6_mix_7 : decode cX6_mix 7 = .ok (.ladd, 1) := by decide +kernel
theorem dX6_mix_8 : decode cX6_mix 8 = .ok (.lreturn, 1) := by decide +kernel
section
variable (l : Launch) (D : va_G) (cI cJ cZ cR : ClassId)
set_option maxHeartbeats 4000000 in
set_option maxRecDepth 100000 in
theorem c_X6_isOpen (sz : Nat) (p0 : Int32)  : CTi l D cI cJ cZ cR yX6_isOpen cX6_isOpen 1 (some .boolean) 0 0 0 0 sz [.int p0] [] (fun (r : Int32) (u : Unit) => (r = (opn p0))) (fun (u : Unit) => []) := by
  refine CTi.of (ty := .boolean) (by decide) (Nat.le_of_ble_eq_true rfl) rfl ?_
  intro p e s m below meth c A Q ls hd hin hK hsz hP hD hA hS hl hret
  obtain ⟨hx, hb, hml, hown, hts⟩ := id hd
  have hK1 := hK.1
  have hown : s.vm.findClass RX6 = some m.cls := hown
  have hl : lv_has ls 1 [(0, .int p0)] := hl
  refine lv_iload_n hx hb dX6_isOpen_0 rfl (lv_at hl 0 rfl) ?_
  refine lv_if_lt (tgt := 13) hx hb dX6_isOpen_1 (by decide) (fun c_1 => ?_) (fun c_1 => ?_)
  · skip
    refine lv_iconst (v := 0) hx hb dX6_isOpen_13 (by decide) ?_
    exact hret _ _ _ _ _ _ 0 () dX6_isOpen_14 rfl hS (Nat.le_of_ble_eq_true rfl) (Nat.le_of_ble_eq_true rfl) (by simp [opn, c_1]) (hP.sub [] rfl) (hD.sub [] rfl rfl)
  · skip
    refine lv_iload_n hx hb dX6_isOpen_4 rfl (lv_at hl 0 rfl) ?_
    refine lv_iconst (v := 3) hx hb dX6_isOpen_5 (by decide) ?_
    refine lv_icmp_ge (tgt := 13) hx hb dX6_isOpen_6 (by decide) (fun c_2 => ?_) (fun c_2 => ?_)
    · skip
      refine lv_iconst (v := 0) hx hb dX6_isOpen_13 (by decide) ?_
      exact hret _ _ _ _ _ _ 0 () dX6_isOpen_14 rfl hS (Nat.le_of_ble_eq_true rfl) (Nat.le_of_ble_eq_true rfl) (by simp [opn, c_1, c_2]) (hP.sub [] rfl) (hD.sub [] rfl rfl)
    · skip
      refine lv_iconst (v := 1) hx hb dX6_isOpen_9 (by decide) ?_
      refine lv_goto (tgt := 14) hx hb dX6_isOpen_10 (by decide) ?_
      exact hret _ _ _ _ _ _ 1 () dX6_isOpen_14 rfl hS (Nat.le_of_ble_eq_true rfl) (Nat.le_of_ble_eq_true rfl) (by simp [opn, c_1, c_2]) (hP.sub [] rfl) (hD.sub [] rfl rfl)
set_option maxHeartbeats 4000000 in
set_option maxRecDepth 100000 in
theorem c_X3_letterOf (sz : Nat) (p0 : Int32)  : CTi l D cI cJ cZ cR yX3_letterOf cX3_letterOf 1 (some .int) 0 0 0 0 sz [.int p0] [] (fun (r : Int32) (u : Unit) => (r = (cL p0))) (fun (u : Unit) => []) := by
  refine CTi.of (ty := .int) (by decide) (Nat.le_of_ble_eq_true rfl) rfl ?_
  intro p e s m below meth c A Q ls hd hin hK hsz hP hD hA hS hl hret
  obtain ⟨hx, hb, hml, hown, hts⟩ := id hd
  have hK1 := hK.1
  have hown : s.vm.findClass RX3 = some m.cls := hown
  have hl : lv_has ls 1 [(0, .int p0)] := hl
  refine lv_iload_n hx hb dX3_letterOf_0 rfl (lv_at hl 0 rfl) ?_
  refine lv_bipush (v := 65) hx hb dX3_letterOf_1 (by decide) ?_
  refine lv_icmp_lt (tgt := 17) hx hb dX3_letterOf_3 (by decide) (fun c_1 => ?_) (fun c_1 => ?_)
  · skip
    refine lv_iload_n hx hb dX3_letterOf_17 rfl (lv_at hl 0 rfl) ?_
    refine lv_bipush (v := 97) hx hb dX3_letterOf_18 (by decide) ?_
    refine lv_icmp_ne (tgt := 27) hx hb dX3_letterOf_20 (by decide) (fun c_2 => ?_) (fun c_2 => ?_)
    · skip
      refine lv_iload_n hx hb dX3_letterOf_27 rfl (lv_at hl 0 rfl) ?_
      refine lv_bipush (v := 98) hx hb dX3_letterOf_28 (by decide) ?_
      refine lv_icmp_ne (tgt := 37) hx hb dX3_letterOf_30 (by decide) (fun c_3 => ?_) (fun c_3 => ?_)
      · skip
        refine lv_iconst (v := -1) hx hb dX3_letterOf_37 (by decide) ?_
        exact hret _ _ _ _ _ _ (-1) () dX3_letterOf_38 rfl hS (Nat.le_of_ble_eq_true rfl) (Nat.le_of_ble_eq_true rfl) (by simp [cL, c_1, c_2, c_3]) (hP.sub [] rfl) (hD.sub [] rfl rfl)
      · skip
        refine lv_iconst (v := 4) hx hb dX3_letterOf_33 (by decide) ?_
        refine lv_goto (tgt := 38) hx hb dX3_letterOf_34 (by decide) ?_
        exact hret _ _ _ _ _ _ 4 () dX3_letterOf_38 rfl hS (Nat.le_of_ble_eq_true rfl) (Nat.le_of_ble_eq_true rfl) (by simp [cL, c_1, c_2, c_3]) (hP.sub [] rfl) (hD.sub [] rfl rfl)
    · skip
      refine lv_iconst (v := 3) hx hb dX3_letterOf_23 (by decide) ?_
      refine lv_goto (tgt := 38) hx hb dX3_letterOf_24 (by decide) ?_
      exact hret _ _ _ _ _ _ 3 () dX3_letterOf_38 rfl hS (Nat.le_of_ble_eq_true rfl) (Nat.le_of_ble_eq_true rfl) (by simp [cL, c_1, c_2]) (hP.sub [] rfl) (hD.sub [] rfl rfl)
  · skip
    refine lv_iload_n hx hb dX3_letterOf_6 rfl (lv_at hl 0 rfl) ?_
    refine lv_bipush (v := 67) hx hb dX3_letterOf_7 (by decide) ?_
    refine lv_icmp_gt (tgt := 17) hx hb dX3_letterOf_9 (by decide) (fun c_4 => ?_) (fun c_4 => ?_)
    · skip
      refine lv_iload_n hx hb dX3_letterOf_17 rfl (lv_at hl 0 rfl) ?_
      refine lv_bipush (v := 97) hx hb dX3_letterOf_18 (by decide) ?_
      refine lv_icmp_ne (tgt := 27) hx hb dX3_letterOf_20 (by decide) (fun c_5 => ?_) (fun c_5 => ?_)
      · skip
        refine lv_iload_n hx hb dX3_letterOf_27 rfl (lv_at hl 0 rfl) ?_
        refine lv_bipush (v := 98) hx hb dX3_letterOf_28 (by decide) ?_
        refine lv_icmp_ne (tgt := 37) hx hb dX3_letterOf_30 (by decide) (fun c_6 => ?_) (fun c_6 => ?_)
        · skip
          refine lv_iconst (v := -1) hx hb dX3_letterOf_37 (by decide) ?_
          exact hret _ _ _ _ _ _ (-1) () dX3_letterOf_38 rfl hS (Nat.le_of_ble_eq_true rfl) (Nat.le_of_ble_eq_true rfl) (by simp [cL, c_1, c_4, c_5, c_6]) (hP.sub [] rfl) (hD.sub [] rfl rfl)
        · skip
          refine lv_iconst (v := 4) hx hb dX3_letterOf_33 (by decide) ?_
          refine lv_goto (tgt := 38) hx hb dX3_letterOf_34 (by decide) ?_
          exact hret _ _ _ _ _ _ 4 () dX3_letterOf_38 rfl hS (Nat.le_of_ble_eq_true rfl) (Nat.le_of_ble_eq_true rfl) (by simp [cL, c_1, c_4, c_5, c_6]) (hP.sub [] rfl) (hD.sub [] rfl rfl)
      · skip
        refine lv_iconst (v := 3) hx hb dX3_letterOf_23 (by decide) ?_
        refine lv_goto (tgt := 38) hx hb dX3_letterOf_24 (by decide) ?_
        exact hret _ _ _ _ _ _ 3 () dX3_letterOf_38 rfl hS (Nat.le_of_ble_eq_true rfl) (Nat.le_of_ble_eq_true rfl) (by simp [cL, c_1, c_4, c_5]) (hP.sub [] rfl) (hD.sub [] rfl rfl)
    · skip
      refine lv_iload_n hx hb dX3_letterOf_12 rfl (lv_at hl 0 rfl) ?_
      refine lv_bipush (v := 65) hx hb dX3_letterOf_13 (by decide) ?_
      refine lv_isub hx hb dX3_letterOf_15 ?_
      exact hret _ _ _ _ _ _ (p0 - 65) () dX3_letterOf_16 rfl hS (Nat.le_of_ble_eq_true rfl) (Nat.le_of_ble_eq_true rfl) (by simp [cL, c_1, c_4]) (hP.sub [] rfl) (hD.sub [] rfl rfl)
set_option maxHeartbeats 4000000 in
set_option maxRecDepth 100000 in
theorem c_X6_mix (sz : Nat) (p0 : Int64) (p1 : Int32)  : CTl l D cI cJ cZ cR yX6_mix cX6_mix 3 (some .long) 0 0 0 0 sz [.long p0, .int p1] [] (fun (r : Int64) (u : Unit) => (r = ((31 * p0) + (Int32.toInt64 p1)))) (fun (u : Unit) => []) := by
  refine CTl.of (by decide) (Nat.le_of_ble_eq_true rfl) rfl ?_
  intro p e s m below meth c A Q ls hd hin hK hsz hP hD hA hS hl hret
  obtain ⟨hx, hb, hml, hown, hts⟩ := id hd
  have hK1 := hK.1
  have hown : s.vm.findClass RX6 = some m.cls := hown
  have hl : lv_has ls 3 [(0, .long p0), (2, .int p1)] := hl
  refine lv_ldc2 hx hb hown (hts _ t_538) dX6_mix_0 ?_
  refine lv_lload_n hx hb dX6_mix_3 rfl (lv_at hl 0 rfl) ?_
  refine lv_lmul hx hb dX6_mix_4 ?_
  refine lv_iload_n hx hb dX6_mix_5 rfl (lv_at hl 1 rfl) ?_
  refine lv_i2l (v := Int32.toInt64 p1) hx hb dX6_mix_6 rfl ?_
  refine lv_ladd hx hb dX6_mix_7 ?_
  exact hret _ _ _ _ _ _ ((31 * p0) + (Int32.toInt64 p1)) () dX6_mix_8 hS (Nat.le_of_ble_eq_true rfl) (Nat.le_of_ble_eq_true rfl) rfl (hP.sub [] rfl) (hD.sub [] rfl rfl)
set_option maxHeartbeats 4000000 in
set_option maxRecDepth 100000 in
theorem c_J6_bitCount_0f7a4 (sz : Nat) (b : Nat) (hb32 : b < 32) : CTi l D cI cJ cZ cR yJ6_bitCount_0f7a4 cJ6_bitCount_0f7a4 1 (some .int) 0 0 0 0 sz [.int (nI b)] [] (fun (r : Int32) (u : Unit) => (r = (nI (zpc b)))) (fun (u : Unit) => []) := by
  refine CTi.of (ty := .int) (by decide) (Nat.le_of_ble_eq_true rfl) rfl ?_
  intro p e s m below meth c A Q ls hd hin hK hsz hP hD hA hS hl hret
  obtain ⟨hx, hb, hml, hown, hts⟩ := id hd
  have hK1 := hK.1
  have hown : s.vm.findClass RJ6 = some m.cls := hown
  have hl : lv_has ls 1 [(0, .int (nI b))] := hl
  refine lv_iload_n hx hb dJ6_bitCount_0f7a4_0 rfl (lv_at hl 0 rfl) ?_
  refine lv_iload_n hx hb dJ6_bitCount_0f7a4_1 rfl (lv_at hl 0 rfl) ?_
  refine lv_iconst (v := 1) hx hb dJ6_bitCount_0f7a4_2 (by decide) ?_
  refine lv_iushr (v := ((nI b : Int32).toUInt32 >>> ((1 : Int32).toUInt32 &&& Int32.toUInt32 31)).toInt32) hx hb dJ6_bitCount_0f7a4_3 rfl ?_
  refine lv_ldcw hx hb hown (hts _ t_399) dJ6_bitCount_0f7a4_4 ?_
  refine lv_iand hx hb dJ6_bitCount_0f7a4_7 ?_
  refine lv_isub hx hb dJ6_bitCount_0f7a4_8 ?_
  refine lv_istore_n (lv' := [(0, .int ((nI b) - ((((nI b : Int32).toUInt32 >>> ((1 : Int32).toUInt32 &&& Int32.toUInt32 31)).toInt32) &&& 1431655765)))]) hx hb dJ6_bitCount_0f7a4_9 rfl hl (by decide) rfl (fun ls hl => ?_)
  refine lv_iload_n hx hb dJ6_bitCount_0f7a4_10 rfl (lv_at hl 0 rfl) ?_
  refine lv_ldcw hx hb hown (hts _ t_400) dJ6_bitCount_0f7a4_11 ?_
  refine lv_iand hx hb dJ6_bitCount_0f7a4_14 ?_
  refine lv_iload_n hx hb dJ6_bitCount_0f7a4_15 rfl (lv_at hl 0 rfl) ?_
  refine lv_iconst (v := 2) hx hb dJ6_bitCount_0f7a4_16 (by decide) ?_
  refine lv_iushr (v := (((nI b) - ((((nI b : Int32).toUInt32 >>> ((1 : Int32).toUInt32 &&& Int32.toUInt32 31)).toInt32) &&& 1431655765) : Int32).toUInt32 >>> ((2 : Int32).toUInt32 &&& Int32.toUInt32 31)).toInt32) hx hb dJ6_bitCount_0f7a4_17 rfl ?_
  refine lv_ldcw hx hb hown (hts _ t_400) dJ6_bitCount_0f7a4_18 ?_
  refine lv_iand hx hb dJ6_bitCount_0f7a4_21 ?_
  refine lv_iadd hx hb dJ6_bitCount_0f7a4_22 ?_
  refine lv_istore_n (lv' := [(0, .int ((((nI b) - ((((nI b : Int32).toUInt32 >>> ((1 : Int32).toUInt32 &&& Int32.toUInt32 31)).toInt32) &&& 1431655765)) &&& 858993459) + (((((nI b) - ((((nI b : Int32).toUInt32 >>> ((1 : Int32).toUInt32 &&& Int32.toUInt32 31)).toInt32) &&& 1431655765) : Int32).toUInt32 >>> ((2 : Int32).toUInt32 &&& Int32.toUInt32 31)).toInt32) &&& 858993459)))]) hx hb dJ6_bitCount_0f7a4_23 rfl hl (by decide) rfl (fun ls hl => ?_)
  refine lv_iload_n hx hb dJ6_bitCount_0f7a4_24 rfl (lv_at hl 0 rfl) ?_
  refine lv_iload_n hx hb dJ6_bitCount_0f7a4_25 rfl (lv_at hl 0 rfl) ?_
  refine lv_iconst (v := 4) hx hb dJ6_bitCount_0f7a4_26 (by decide) ?_
  refine lv_iushr (v := (((((nI b) - ((((nI b : Int32).toUInt32 >>> ((1 : Int32).toUInt32 &&& Int32.toUInt32 31)).toInt32) &&& 1431655765)) &&& 858993459) + (((((nI b) - ((((nI b : Int32).toUInt32 >>> ((1 : Int32).toUInt32 &&& Int32.toUInt32 31)).toInt32) &&& 1431655765) : Int32).toUInt32 >>> ((2 : Int32).toUInt32 &&& Int32.toUInt32 31)).toInt32) &&& 858993459) : Int32).toUInt32 >>> ((4 : Int32).toUInt32 &&& Int32.toUInt32 31)).toInt32) hx hb dJ6_bitCount_0f7a4_27 rfl ?_
  refine lv_iadd hx hb dJ6_bitCount_0f7a4_28 ?_
  refine lv_ldcw hx hb hown (hts _ t_401) dJ6_bitCount_0f7a4_29 ?_
  refine lv_iand hx hb dJ6_bitCount_0f7a4_32 ?_
  refine lv_istore_n (lv' := [(0, .int ((((((nI b) - ((((nI b : Int32).toUInt32 >>> ((1 : Int32).toUInt32 &&& Int32.toUInt32 31)).toInt32) &&& 1431655765)) &&& 858993459) + (((((nI b) - ((((nI b : Int32).toUInt32 >>> ((1 : Int32).toUInt32 &&& Int32.toUInt32 31)).toInt32) &&& 1431655765) : Int32).toUInt32 >>> ((2 : Int32).toUInt32 &&& Int32.toUInt32 31)).toInt32) &&& 858993459)) + ((((((nI b) - ((((nI b : Int32).toUInt32 >>> ((1 : Int32).toUInt32 &&& Int32.toUInt32 31)).toInt32) &&& 1431655765)) &&& 858993459) + (((((nI b) - ((((nI b : Int32).toUInt32 >>> ((1 : Int32).toUInt32 &&& Int32.toUInt32 31)).toInt32) &&& 1431655765) : Int32).toUInt32 >>> ((2 : Int32).toUInt32 &&& Int32.toUInt32 31)).toInt32) &&& 858993459) : Int32).toUInt32 >>> ((4 : Int32).toUInt32 &&& Int32.toUInt32 31)).toInt32)) &&& 252645135))]) hx hb dJ6_bitCount_0f7a4_33 rfl hl (by decide) rfl (fun ls hl => ?_)
  refine lv_iload_n hx hb dJ6_bitCount_0f7a4_34 rfl (lv_at hl 0 rfl) ?_
  refine lv_iload_n hx hb dJ6_bitCount_0f7a4_35 rfl (lv_at hl 0 rfl) ?_
  refine lv_bipush (v := 8) hx hb dJ6_bitCount_0f7a4_36 (by decide) ?_
  refine lv_iushr (v := (((((((nI b) - ((((nI b : Int32).toUInt32 >>> ((1 : Int32).toUInt32 &&& Int32.toUInt32 31)).toInt32) &&& 1431655765)) &&& 858993459) + (((((nI b) - ((((nI b : Int32).toUInt32 >>> ((1 : Int32).toUInt32 &&& Int32.toUInt32 31)).toInt32) &&& 1431655765) : Int32).toUInt32 >>> ((2 : Int32).toUInt32 &&& Int32.toUInt32 31)).toInt32) &&& 858993459)) + ((((((nI b) - ((((nI b : Int32).toUInt32 >>> ((1 : Int32).toUInt32 &&& Int32.toUInt32 31)).toInt32) &&& 1431655765)) &&& 858993459) + (((((nI b) - ((((nI b : Int32).toUInt32 >>> ((1 : Int32).toUInt32 &&& Int32.toUInt32 31)).toInt32) &&& 1431655765) : Int32).toUInt32 >>> ((2 : Int32).toUInt32 &&& Int32.toUInt32 31)).toInt32) &&& 858993459) : Int32).toUInt32 >>> ((4 : Int32).toUInt32 &&& Int32.toUInt32 31)).toInt32)) &&& 252645135 : Int32).toUInt32 >>> ((8 : Int32).toUInt32 &&& Int32.toUInt32 31)).toInt32) hx hb dJ6_bitCount_0f7a4_38 rfl ?_
  refine lv_iadd hx hb dJ6_bitCount_0f7a4_39 ?_
  refine lv_istore_n (lv' := [(0, .int (((((((nI b) - ((((nI b : Int32).toUInt32 >>> ((1 : Int32).toUInt32 &&& Int32.toUInt32 31)).toInt32) &&& 1431655765)) &&& 858993459) + (((((nI b) - ((((nI b : Int32).toUInt32 >>> ((1 : Int32).toUInt32 &&& Int32.toUInt32 31)).toInt32) &&& 1431655765) : Int32).toUInt32 >>> ((2 : Int32).toUInt32 &&& Int32.toUInt32 31)).toInt32) &&& 858993459)) + ((((((nI b) - ((((nI b : Int32).toUInt32 >>> ((1 : Int32).toUInt32 &&& Int32.toUInt32 31)).toInt32) &&& 1431655765)) &&& 858993459) + (((((nI b) - ((((nI b : Int32).toUInt32 >>> ((1 : Int32).toUInt32 &&& Int32.toUInt32 31)).toInt32) &&& 1431655765) : Int32).toUInt32 >>> ((2 : Int32).toUInt32 &&& Int32.toUInt32 31)).toInt32) &&& 858993459) : Int32).toUInt32 >>> ((4 : Int32).toUInt32 &&& Int32.toUInt32 31)).toInt32)) &&& 252645135) + ((((((((nI b) - ((((nI b : Int32).toUInt32 >>> ((1 : Int32).toUInt32 &&& Int32.toUInt32 31)).toInt32) &&& 1431655765)) &&& 858993459) + (((((nI b) - ((((nI b : Int32).toUInt32 >>> ((1 : Int32).toUInt32 &&& Int32.toUInt32 31)).toInt32) &&& 1431655765) : Int32).toUInt32 >>> ((2 : Int32).toUInt32 &&& Int32.toUInt32 31)).toInt32) &&& 858993459)) + ((((((nI b) - ((((nI b : Int32).toUInt32 >>> ((1 : Int32).toUInt32 &&& Int32.toUInt32 31)).toInt32) &&& 1431655765)) &&& 858993459) + (((((nI b) - ((((nI b : Int32).toUInt32 >>> ((1 : Int32).toUInt32 &&& Int32.toUInt32 31)).toInt32) &&& 1431655765) : Int32).toUInt32 >>> ((2 : Int32).toUInt32 &&& Int32.toUInt32 31)).toInt32) &&& 858993459) : Int32).toUInt32 >>> ((4 : Int32).toUInt32 &&& Int32.toUInt32 31)).toInt32)) &&& 252645135 : Int32).toUInt32 >>> ((8 : Int32).toUInt32 &&& Int32.toUInt32 31)).toInt32)))]) hx hb dJ6_bitCount_0f7a4_40 rfl hl (by decide) rfl (fun ls hl => ?_)
  refine lv_iload_n hx hb dJ6_bitCount_0f7a4_41 rfl (lv_at hl 0 rfl) ?_
  refine lv_iload_n hx hb dJ6_bitCount_0f7a4_42 rfl (lv_at hl 0 rfl) ?_
  refine lv_bipush (v := 16) hx hb dJ6_bitCount_0f7a4_43 (by decide) ?_
  refine lv_iushr (v := ((((((((nI b) - ((((nI b : Int32).toUInt32 >>> ((1 : Int32).toUInt32 &&& Int32.toUInt32 31)).toInt32) &&& 1431655765)) &&& 858993459) + (((((nI b) - ((((nI b : Int32).toUInt32 >>> ((1 : Int32).toUInt32 &&& Int32.toUInt32 31)).toInt32) &&& 1431655765) : Int32).toUInt32 >>> ((2 : Int32).toUInt32 &&& Int32.toUInt32 31)).toInt32) &&& 858993459)) + ((((((nI b) - ((((nI b : Int32).toUInt32 >>> ((1 : Int32).toUInt32 &&& Int32.toUInt32 31)).toInt32) &&& 1431655765)) &&& 858993459) + (((((nI b) - ((((nI b : Int32).toUInt32 >>> ((1 : Int32).toUInt32 &&& Int32.toUInt32 31)).toInt32) &&& 1431655765) : Int32).toUInt32 >>> ((2 : Int32).toUInt32 &&& Int32.toUInt32 31)).toInt32) &&& 858993459) : Int32).toUInt32 >>> ((4 : Int32).toUInt32 &&& Int32.toUInt32 31)).toInt32)) &&& 252645135) + ((((((((nI b) - ((((nI b : Int32).toUInt32 >>> ((1 : Int32).toUInt32 &&& Int32.toUInt32 31)).toInt32) &&& 1431655765)) &&& 858993459) + (((((nI b) - ((((nI b : Int32).toUInt32 >>> ((1 : Int32).toUInt32 &&& Int32.toUInt32 31)).toInt32) &&& 1431655765) : Int32).toUInt32 >>> ((2 : Int32).toUInt32 &&& Int32.toUInt32 31)).toInt32) &&& 858993459)) + ((((((nI b) - ((((nI b : Int32).toUInt32 >>> ((1 : Int32).toUInt32 &&& Int32.toUInt32 31)).toInt32) &&& 1431655765)) &&& 858993459) + (((((nI b) - ((((nI b : Int32).toUInt32 >>> ((1 : Int32).toUInt32 &&& Int32.toUInt32 31)).toInt32) &&& 1431655765) : Int32).toUInt32 >>> ((2 : Int32).toUInt32 &&& Int32.toUInt32 31)).toInt32) &&& 858993459) : Int32).toUInt32 >>> ((4 : Int32).toUInt32 &&& Int32.toUInt32 31)).toInt32)) &&& 252645135 : Int32).toUInt32 >>> ((8 : Int32).toUInt32 &&& Int32.toUInt32 31)).toInt32) : Int32).toUInt32 >>> ((16 : Int32).toUInt32 &&& Int32.toUInt32 31)).toInt32) hx hb dJ6_bitCount_0f7a4_45 rfl ?_
  refine lv_iadd hx hb dJ6_bitCount_0f7a4_46 ?_
  refine lv_istore_n (lv' := [(0, .int ((((((((nI b) - ((((nI b : Int32).toUInt32 >>> ((1 : Int32).toUInt32 &&& Int32.toUInt32 31)).toInt32) &&& 1431655765)) &&& 858993459) + (((((nI b) - ((((nI b : Int32).toUInt32 >>> ((1 : Int32).toUInt32 &&& Int32.toUInt32 31)).toInt32) &&& 1431655765) : Int32).toUInt32 >>> ((2 : Int32).toUInt32 &&& Int32.toUInt32 31)).toInt32) &&& 858993459)) + ((((((nI b) - ((((nI b : Int32).toUInt32 >>> ((1 : Int32).toUInt32 &&& Int32.toUInt32 31)).toInt32) &&& 1431655765)) &&& 858993459) + (((((nI b) - ((((nI b : Int32).toUInt32 >>> ((1 : Int32).toUInt32 &&& Int32.toUInt32 31)).toInt32) &&& 1431655765) : Int32).toUInt32 >>> ((2 : Int32).toUInt32 &&& Int32.toUInt32 31)).toInt32) &&& 858993459) : Int32).toUInt32 >>> ((4 : Int32).toUInt32 &&& Int32.toUInt32 31)).toInt32)) &&& 252645135) + ((((((((nI b) - ((((nI b : Int32).toUInt32 >>> ((1 : Int32).toUInt32 &&& Int32.toUInt32 31)).toInt32) &&& 1431655765)) &&& 858993459) + (((((nI b) - ((((nI b : Int32).toUInt32 >>> ((1 : Int32).toUInt32 &&& Int32.toUInt32 31)).toInt32) &&& 1431655765) : Int32).toUInt32 >>> ((2 : Int32).toUInt32 &&& Int32.toUInt32 31)).toInt32) &&& 858993459)) + ((((((nI b) - ((((nI b : Int32).toUInt32 >>> ((1 : Int32).toUInt32 &&& Int32.toUInt32 31)).toInt32) &&& 1431655765)) &&& 858993459) + (((((nI b) - ((((nI b : Int32).toUInt32 >>> ((1 : Int32).toUInt32 &&& Int32.toUInt32 31)).toInt32) &&& 1431655765) : Int32).toUInt32 >>> ((2 : Int32).toUInt32 &&& Int32.toUInt32 31)).toInt32) &&& 858993459) : Int32).toUInt32 >>> ((4 : Int32).toUInt32 &&& Int32.toUInt32 31)).toInt32)) &&& 252645135 : Int32).toUInt32 >>> ((8 : Int32).toUInt32 &&& Int32.toUInt32 31)).toInt32)) + (((((((((nI b) - ((((nI b : Int32).toUInt32 >>> ((1 : Int32).toUInt32 &&& Int32.toUInt32 31)).toInt32) &&& 1431655765)) &&& 858993459) + (((((nI b) - ((((nI b : Int32).toUInt32 >>> ((1 : Int32).toUInt32 &&& Int32.toUInt32 31)).toInt32) &&& 1431655765) : Int32).toUInt32 >>> ((2 : Int32).toUInt32 &&& Int32.toUInt32 31)).toInt32) &&& 858993459)) + ((((((nI b) - ((((nI b : Int32).toUInt32 >>> ((1 : Int32).toUInt32 &&& Int32.toUInt32 31)).toInt32) &&& 1431655765)) &&& 858993459) + (((((nI b) - ((((nI b : Int32).toUInt32 >>> ((1 : Int32).toUInt32 &&& Int32.toUInt32 31)).toInt32) &&& 1431655765) : Int32).toUInt32 >>> ((2 : Int32).toUInt32 &&& Int32.toUInt32 31)).toInt32) &&& 858993459) : Int32).toUInt32 >>> ((4 : Int32).toUInt32 &&& Int32.toUInt32 31)).toInt32)) &&& 252645135) + ((((((((nI b) - ((((nI b : Int32).toUInt32 >>> ((1 : Int32).toUInt32 &&& Int32.toUInt32 31)).toInt32) &&& 1431655765)) &&& 858993459) + (((((nI b) - ((((nI b : Int32).toUInt32 >>> ((1 : Int32).toUInt32 &&& Int32.toUInt32 31)).toInt32) &&& 1431655765) : Int32).toUInt32 >>> ((2 : Int32).toUInt32 &&& Int32.toUInt32 31)).toInt32) &&& 858993459)) + ((((((nI b) - ((((nI b : Int32).toUInt32 >>> ((1 : Int32).toUInt32 &&& Int32.toUInt32 31)).toInt32) &&& 1431655765)) &&& 858993459) + (((((nI b) - ((((nI b : Int32).toUInt32 >>> ((1 : Int32).toUInt32 &&& Int32.toUInt32 31)).toInt32) &&& 1431655765) : Int32).toUInt32 >>> ((2 : Int32).toUInt32 &&& Int32.toUInt32 31)).toInt32) &&& 858993459) : Int32).toUInt32 >>> ((4 : Int32).toUInt32 &&& Int32.toUInt32 31)).toInt32)) &&& 252645135 : Int32).toUInt32 >>> ((8 : Int32).toUInt32 &&& Int32.toUInt32 31)).toInt32) : Int32).toUInt32 >>> ((16 : Int32).toUInt32 &&& Int32.toUInt32 31)).toInt32)))]) hx hb dJ6_bitCount_0f7a4_47 rfl hl (by decide) rfl (fun ls hl => ?_)
  refine lv_iload_n hx hb dJ6_bitCount_0f7a4_48 rfl (lv_at hl 0 rfl) ?_
  refine lv_bipush (v := 63) hx hb dJ6_bitCount_0f7a4_49 (by decide) ?_
  refine lv_iand hx hb dJ6_bitCount_0f7a4_51 ?_
  exact hret _ _ _ _ _ _ (((((((((nI b) - ((((nI b : Int32).toUInt32 >>> ((1 : Int32).toUInt32 &&& Int32.toUInt32 31)).toInt32) &&& 1431655765)) &&& 858993459) + (((((nI b) - ((((nI b : Int32).toUInt32 >>> ((1 : Int32).toUInt32 &&& Int32.toUInt32 31)).toInt32) &&& 1431655765) : Int32).toUInt32 >>> ((2 : Int32).toUInt32 &&& Int32.toUInt32 31)).toInt32) &&& 858993459)) + ((((((nI b) - ((((nI b : Int32).toUInt32 >>> ((1 : Int32).toUInt32 &&& Int32.toUInt32 31)).toInt32) &&& 1431655765)) &&& 858993459) + (((((nI b) - ((((nI b : Int32).toUInt32 >>> ((1 : Int32).toUInt32 &&& Int32.toUInt32 31)).toInt32) &&& 1431655765) : Int32).toUInt32 >>> ((2 : Int32).toUInt32 &&& Int32.toUInt32 31)).toInt32) &&& 858993459) : Int32).toUInt32 >>> ((4 : Int32).toUInt32 &&& Int32.toUInt32 31)).toInt32)) &&& 252645135) + ((((((((nI b) - ((((nI b : Int32).toUInt32 >>> ((1 : Int32).toUInt32 &&& Int32.toUInt32 31)).toInt32) &&& 1431655765)) &&& 858993459) + (((((nI b) - ((((nI b : Int32).toUInt32 >>> ((1 : Int32).toUInt32 &&& Int32.toUInt32 31)).toInt32) &&& 1431655765) : Int32).toUInt32 >>> ((2 : Int32).toUInt32 &&& Int32.toUInt32 31)).toInt32) &&& 858993459)) + ((((((nI b) - ((((nI b : Int32).toUInt32 >>> ((1 : Int32).toUInt32 &&& Int32.toUInt32 31)).toInt32) &&& 1431655765)) &&& 858993459) + (((((nI b) - ((((nI b : Int32).toUInt32 >>> ((1 : Int32).toUInt32 &&& Int32.toUInt32 31)).toInt32) &&& 1431655765) : Int32).toUInt32 >>> ((2 : Int32).toUInt32 &&& Int32.toUInt32 31)).toInt32) &&& 858993459) : Int32).toUInt32 >>> ((4 : Int32).toUInt32 &&& Int32.toUInt32 31)).toInt32)) &&& 252645135 : Int32).toUInt32 >>> ((8 : Int32).toUInt32 &&& Int32.toUInt32 31)).toInt32)) + (((((((((nI b) - ((((nI b : Int32).toUInt32 >>> ((1 : Int32).toUInt32 &&& Int32.toUInt32 31)).toInt32) &&& 1431655765)) &&& 858993459) + (((((nI b) - ((((nI b : Int32).toUInt32 >>> ((1 : Int32).toUInt32 &&& Int32.toUInt32 31)).toInt32) &&& 1431655765) : Int32).toUInt32 >>> ((2 : Int32).toUInt32 &&& Int32.toUInt32 31)).toInt32) &&& 858993459)) + ((((((nI b) - ((((nI b : Int32).toUInt32 >>> ((1 : Int32).toUInt32 &&& Int32.toUInt32 31)).toInt32) &&& 1431655765)) &&& 858993459) + (((((nI b) - ((((nI b : Int32).toUInt32 >>> ((1 : Int32).toUInt32 &&& Int32.toUInt32 31)).toInt32) &&& 1431655765) : Int32).toUInt32 >>> ((2 : Int32).toUInt32 &&& Int32.toUInt32 31)).toInt32) &&& 858993459) : Int32).toUInt32 >>> ((4 : Int32).toUInt32 &&& Int32.toUInt32 31)).toInt32)) &&& 252645135) + ((((((((nI b) - ((((nI b : Int32).toUInt32 >>> ((1 : Int32).toUInt32 &&& Int32.toUInt32 31)).toInt32) &&& 1431655765)) &&& 858993459) + (((((nI b) - ((((nI b : Int32).toUInt32 >>> ((1 : Int32).toUInt32 &&& Int32.toUInt32 31)).toInt32) &&& 1431655765) : Int32).toUInt32 >>> ((2 : Int32).toUInt32 &&& Int32.toUInt32 31)).toInt32) &&& 858993459)) + ((((((nI b) - ((((nI b : Int32).toUInt32 >>> ((1 : Int32).toUInt32 &&& Int32.toUInt32 31)).toInt32) &&& 1431655765)) &&& 858993459) + (((((nI b) - ((((nI b : Int32).toUInt32 >>> ((1 : Int32).toUInt32 &&& Int32.toUInt32 31)).toInt32) &&& 1431655765) : Int32).toUInt32 >>> ((2 : Int32).toUInt32 &&& Int32.toUInt32 31)).toInt32) &&& 858993459) : Int32).toUInt32 >>> ((4 : Int32).toUInt32 &&& Int32.toUInt32 31)).toInt32)) &&& 252645135 : Int32).toUInt32 >>> ((8 : Int32).toUInt32 &&& Int32.toUInt32 31)).toInt32) : Int32).toUInt32 >>> ((16 : Int32).toUInt32 &&& Int32.toUInt32 31)).toInt32)) &&& 63) () dJ6_bitCount_0f7a4_52 rfl hS (Nat.le_of_ble_eq_true rfl) (Nat.le_of_ble_eq_true rfl) ((by decide +kernel : ∀ b, b < 32 → (((((((((nI b) - ((((nI b : Int32).toUInt32 >>> ((1 : Int32).toUInt32 &&& Int32.toUInt32 31)).toInt32) &&& 1431655765)) &&& 858993459) + (((((nI b) - ((((nI b : Int32).toUInt32 >>> ((1 : Int32).toUInt32 &&& Int32.toUInt32 31)).toInt32) &&& 1431655765) : Int32).toUInt32 >>> ((2 : Int32).toUInt32 &&& Int32.toUInt32 31)).toInt32) &&& 858993459)) + ((((((nI b) - ((((nI b : Int32).toUInt32 >>> ((1 : Int32).toUInt32 &&& Int32.toUInt32 31)).toInt32) &&& 1431655765)) &&& 858993459) + (((((nI b) - ((((nI b : Int32).toUInt32 >>> ((1 : Int32).toUInt32 &&& Int32.toUInt32 31)).toInt32) &&& 1431655765) : Int32).toUInt32 >>> ((2 : Int32).toUInt32 &&& Int32.toUInt32 31)).toInt32) &&& 858993459) : Int32).toUInt32 >>> ((4 : Int32).toUInt32 &&& Int32.toUInt32 31)).toInt32)) &&& 252645135) + ((((((((nI b) - ((((nI b : Int32).toUInt32 >>> ((1 : Int32).toUInt32 &&& Int32.toUInt32 31)).toInt32) &&& 1431655765)) &&& 858993459) + (((((nI b) - ((((nI b : Int32).toUInt32 >>> ((1 : Int32).toUInt32 &&& Int32.toUInt32 31)).toInt32) &&& 1431655765) : Int32).toUInt32 >>> ((2 : Int32).toUInt32 &&& Int32.toUInt32 31)).toInt32) &&& 858993459)) + ((((((nI b) - ((((nI b : Int32).toUInt32 >>> ((1 : Int32).toUInt32 &&& Int32.toUInt32 31)).toInt32) &&& 1431655765)) &&& 858993459) + (((((nI b) - ((((nI b : Int32).toUInt32 >>> ((1 : Int32).toUInt32 &&& Int32.toUInt32 31)).toInt32) &&& 1431655765) : Int32).toUInt32 >>> ((2 : Int32).toUInt32 &&& Int32.toUInt32 31)).toInt32) &&& 858993459) : Int32).toUInt32 >>> ((4 : Int32).toUInt32 &&& Int32.toUInt32 31)).toInt32)) &&& 252645135 : Int32).toUInt32 >>> ((8 : Int32).toUInt32 &&& Int32.toUInt32 31)).toInt32)) + (((((((((nI b) - ((((nI b : Int32).toUInt32 >>> ((1 : Int32).toUInt32 &&& Int32.toUInt32 31)).toInt32) &&& 1431655765)) &&& 858993459) + (((((nI b) - ((((nI b : Int32).toUInt32 >>> ((1 : Int32).toUInt32 &&& Int32.toUInt32 31)).toInt32) &&& 1431655765) : Int32).toUInt32 >>> ((2 : Int32).toUInt32 &&& Int32.toUInt32 31)).toInt32) &&& 858993459)) + ((((((nI b) - ((((nI b : Int32).toUInt32 >>> ((1 : Int32).toUInt32 &&& Int32.toUInt32 31)).toInt32) &&& 1431655765)) &&& 858993459) + (((((nI b) - ((((nI b : Int32).toUInt32 >>> ((1 : Int32).toUInt32 &&& Int32.toUInt32 31)).toInt32) &&& 1431655765) : Int32).toUInt32 >>> ((2 : Int32).toUInt32 &&& Int32.toUInt32 31)).toInt32) &&& 858993459) : Int32).toUInt32 >>> ((4 : Int32).toUInt32 &&& Int32.toUInt32 31)).toInt32)) &&& 252645135) + ((((((((nI b) - ((((nI b : Int32).toUInt32 >>> ((1 : Int32).toUInt32 &&& Int32.toUInt32 31)).toInt32) &&& 1431655765)) &&& 858993459) + (((((nI b) - ((((nI b : Int32).toUInt32 >>> ((1 : Int32).toUInt32 &&& Int32.toUInt32 31)).toInt32) &&& 1431655765) : Int32).toUInt32 >>> ((2 : Int32).toUInt32 &&& Int32.toUInt32 31)).toInt32) &&& 858993459)) + ((((((nI b) - ((((nI b : Int32).toUInt32 >>> ((1 : Int32).toUInt32 &&& Int32.toUInt32 31)).toInt32) &&& 1431655765)) &&& 858993459) + (((((nI b) - ((((nI b : Int32).toUInt32 >>> ((1 : Int32).toUInt32 &&& Int32.toUInt32 31)).toInt32) &&& 1431655765) : Int32).toUInt32 >>> ((2 : Int32).toUInt32 &&& Int32.toUInt32 31)).toInt32) &&& 858993459) : Int32).toUInt32 >>> ((4 : Int32).toUInt32 &&& Int32.toUInt32 31)).toInt32)) &&& 252645135 : Int32).toUInt32 >>> ((8 : Int32).toUInt32 &&& Int32.toUInt32 31)).toInt32) : Int32).toUInt32 >>> ((16 : Int32).toUInt32 &&& Int32.toUInt32 31)).toInt32)) &&& 63) = nI (zpc b)) b hb32) (hP.sub [] rfl) (hD.sub [] rfl rfl)
set_option maxHeartbeats 4000000 in
set_option maxRecDepth 100000 in
theorem c_X3_fitsHead (sz : Nat) (pg : Nat) (pc : Nat) (z : Nat) (pf : Nat → Int32) (i : Nat) (hz : z ≤ 16) (hi : i < z) : CTi l D cI cJ cZ cR yX3_fitsHead cX3_fitsHead 2 (some .boolean) 1 20 0 0 sz [.ref pg, .int (nI i)] [kX3 pg pc (nI z), kI cI pc 16 pf] (fun (r : Int32) (u : Unit) => (r = (fH pf i))) (fun (u : Unit) => [kX3 pg pc (nI z), kI cI pc 16 pf]) := by
  refine CTi.of (ty := .boolean) (by decide) (Nat.le_of_ble_eq_true rfl) rfl ?_
  intro p e s m below meth c A Q ls hd hin hK hsz hP hD hA hS hl hret
  obtain ⟨hx, hb, hml, hown, hts⟩ := id hd
  have hK1 := hK.1
  have hown : s.vm.findClass RX3 = some m.cls := hown
  have hl : lv_has ls 2 [(0, .ref pg), (1, .int (nI i))] := hl
  refine lv_iload_n hx hb dX3_fitsHead_0 rfl (lv_at hl 1 rfl) ?_
  refine lv_if_ne (tgt := 19) hx hb dX3_fitsHead_1 (by decide) (fun c_1 => ?_) (fun c_1 => ?_)
  · skip
    refine lv_aload_n hx hb dX3_fitsHead_19 rfl (lv_at hl 0 rfl) ?_
    refine va_get (D := D) (ci := 3) (v := .ref pc) (C := RX3) (T := TX3) (N := 2) hx hb hts iT_X3 hown hK1 hP 0 rfl rfl 0 (by decide) (hts _ t_26) (fun _ h9 => h9) rfl dX3_fitsHead_20 ?_
    refine lv_iload_n hx hb dX3_fitsHead_23 rfl (lv_at hl 1 rfl) ?_
    refine va_iald hx hb hK1 hP 1 0 rfl rfl (vp_in_nI (by omega) (by omega)) dX3_fitsHead_24 ?_
    refine lv_nmi (show _ = pf i from by rw [nI_clamp (n := i) (by omega)]) ?_
    refine lv_bipush (v := 61) hx hb dX3_fitsHead_25 (by decide) ?_
    refine lv_icmp_ne (tgt := 34) hx hb dX3_fitsHead_27 (by decide) (fun c_2 => ?_) (fun c_2 => ?_)
    · skip
      refine lv_iconst (v := 0) hx hb dX3_fitsHead_34 (by decide) ?_
      exact hret _ _ _ _ _ _ 0 () dX3_fitsHead_35 rfl hS (Nat.le_of_ble_eq_true rfl) (Nat.le_of_ble_eq_true rfl) (by simp [fH, c_1, c_2]) (hP.sub [0, 1] rfl) (hD.sub [0, 1] rfl rfl)
    · skip
      refine lv_iconst (v := 1) hx hb dX3_fitsHead_30 (by decide) ?_
      refine lv_goto (tgt := 35) hx hb dX3_fitsHead_31 (by decide) ?_
      exact hret _ _ _ _ _ _ 1 () dX3_fitsHead_35 rfl hS (Nat.le_of_ble_eq_true rfl) (Nat.le_of_ble_eq_true rfl) (by simp [fH, c_1, c_2]) (hP.sub [0, 1] rfl) (hD.sub [0, 1] rfl rfl)
  · skip
    refine lv_aload_n hx hb dX3_fitsHead_4 rfl (lv_at hl 0 rfl) ?_
    refine va_get (D := D) (ci := 3) (v := .ref pc) (C := RX3) (T := TX3) (N := 2) hx hb hts iT_X3 hown hK1 hP 0 rfl rfl 0 (by decide) (hts _ t_26) (fun _ h9 => h9) rfl dX3_fitsHead_5 ?_
    refine lv_iload_n hx hb dX3_fitsHead_8 rfl (lv_at hl 1 rfl) ?_
    refine va_iald hx hb hK1 hP 1 0 rfl rfl (vp_in_nI (by omega) (by omega)) dX3_fitsHead_9 ?_
    refine lv_nmi (show _ = pf i from by rw [nI_clamp (n := i) (by omega)]) ?_
    refine xc_i (wc := []) (wr := [kX3 pg pc (nI z), kI cI pc 16 pf]) (xrS (n := 1) (As := [.int (pf i)]) (rest := []) hd hK hP hD (c_X3_letterOf l D cI cJ cZ cR _ (pf i) ) (gS t_213 mS_X3_letterOf) hS_X3_letterOf ⟨(Nat.le_of_ble_eq_true rfl), (Nat.le_of_ble_eq_true rfl)⟩ [] rfl rfl rfl hl.1 rfl (Nat.le_of_ble_eq_true rfl) dX3_fitsHead_10 ⟨(Nat.le_of_ble_eq_true rfl), (Nat.le_of_ble_eq_true rfl)⟩) hP hD hS hA [] [0, 1] rfl rfl rfl (by decide) (fun r_3 u_4 H locs hw_5 hP hD hS => ?_)
    have hw_6 : r_3 = (cL (pf i)) := hw_5
    subst hw_6
    have hP : va_P D vwCl [kX3 pg pc (nI z), kI cI pc 16 pf] H := hP
    have hD : va_D A [kX3 pg pc (nI z), kI cI pc 16 pf] := hD
    refine xc_i (wc := []) (wr := [kX3 pg pc (nI z), kI cI pc 16 pf]) (xrSN (n := 1) (As := [.int (cL (pf i))]) (rest := []) hd hK hP hD (c_X6_isOpen l D cI cJ cZ cR _ (cL (pf i)) ) mS_X6_isOpen.2.2 mS_X6_isOpen.1 mS_X6_isOpen.2.1 hK.2.2.2.2.2.1 hS_X6_isOpen ⟨(Nat.le_of_ble_eq_true rfl), (Nat.le_of_ble_eq_true rfl)⟩ [] rfl rfl rfl hl.1 rfl (Nat.le_of_ble_eq_true rfl) dX3_fitsHead_13 ⟨(Nat.le_of_ble_eq_true rfl), (Nat.le_of_ble_eq_true rfl)⟩) hP hD hS hA [] [0, 1] rfl rfl rfl (by decide) (fun r_7 u_8 H locs hw_9 hP hD hS => ?_)
    have hw_10 : r_7 = (opn (cL (pf i))) := hw_9
    subst hw_10
    have hP : va_P D vwCl [kX3 pg pc (nI z), kI cI pc 16 pf] H := hP
    have hD : va_D A [kX3 pg pc (nI z), kI cI pc 16 pf] := hD
    refine lv_goto (tgt := 35) hx hb dX3_fitsHead_16 (by decide) ?_
    exact hret _ _ _ _ _ _ (opn (cL (pf i))) () dX3_fitsHead_35 (nar_01 (opn_01 _)) hS (Nat.le_of_ble_eq_true rfl) (Nat.le_of_ble_eq_true rfl) (by simp [fH, c_1]) (hP.sub [0, 1] rfl) (hD.sub [0, 1] rfl rfl)
set_option maxHeartbeats 4000000 in
set_option maxRecDepth 100000 in
theorem g_fitsEdge_0 (sz : Nat) (pg : Nat) (pc : Nat) (z : Nat) (pf : Nat → Int32) (i : Nat) (q : Nat) (hz : z ≤ 16) (hi : i < z) (hq : q = 0 ∨ 1 ≤ i) (hq3 : q < 3) : CTi l D cI cJ cZ cR yX3_fitsEdge cX3_fitsEdge 6 (some .boolean) 1 20 0 0 sz [.ref pg, .int (nI i), .int (nI q), .int 0] [kX3 pg pc (nI z), kI cI pc 16 pf] (fun (r : Int32) (u : Unit) => (r = (fE0 pf i q))) (fun (u : Unit) => [kX3 pg pc (nI z), kI cI pc 16 pf]) := by
  refine CTi.of (ty := .boolean) (by decide) (Nat.le_of_ble_eq_true rfl) rfl ?_
  intro p e s m below meth c A Q ls hd hin hK hsz hP hD hA hS hl hret
  obtain ⟨hx, hb, hml, hown, hts⟩ := id hd
  have hK1 := hK.1
  have hown : s.vm.findClass RX3 = some m.cls := hown
  have hl : lv_has ls 6 [(0, .ref pg), (1, .int (nI i)), (2, .int (nI q)), (3, .int 0)] := hl
  refine lv_iload_n hx hb dX3_fitsEdge_0 rfl (lv_at hl 2 rfl) ?_
  refine lv_if_ne (tgt := 44) hx hb dX3_fitsEdge_1 (by decide) (fun c_1 => ?_) (fun c_1 => ?_)
  · skip
    refine lv_iload_n hx hb dX3_fitsEdge_44 rfl (lv_at hl 3 rfl) ?_
    refine lv_if_eq (tgt := 53) hx hb dX3_fitsEdge_45 (by decide) (fun c_2 => ?_) (fun c_2 => ?_)
    rotate_left
    · exact absurd c_2 (by decide)
    refine lv_bipush (v := 51) hx hb dX3_fitsEdge_53 (by decide) ?_
    refine lv_istore (lv' := [(4, .int 51), (0, .ref pg), (1, .int (nI i)), (2, .int (nI q)), (3, .int 0)]) hx hb dX3_fitsEdge_55 hl (by decide) rfl (fun ls hl => ?_)
    refine lv_aload_n hx hb dX3_fitsEdge_57 rfl (lv_at hl 1 rfl) ?_
    refine va_get (D := D) (ci := 3) (v := .ref pc) (C := RX3) (T := TX3) (N := 2) hx hb hts iT_X3 hown hK1 hP 0 rfl rfl 0 (by decide) (hts _ t_26) (fun _ h9 => h9) rfl dX3_fitsEdge_58 ?_
    refine lv_iload_n hx hb dX3_fitsEdge_61 rfl (lv_at hl 2 rfl) ?_
    refine va_iald hx hb hK1 hP 1 0 rfl rfl (vp_in_nI (by omega) (by omega)) dX3_fitsEdge_62 ?_
    refine lv_nmi (show _ = pf i from by rw [nI_clamp (n := i) (by omega)]) ?_
    refine lv_bipush (v := 48) hx hb dX3_fitsEdge_63 (by decide) ?_
    refine lv_icmp_lt (tgt := 83) hx hb dX3_fitsEdge_65 (by decide) (fun c_3 => ?_) (fun c_3 => ?_)
    · skip
      refine lv_iconst (v := 0) hx hb dX3_fitsEdge_83 (by decide) ?_
      refine lv_istore (lv' := [(5, .int 0), (4, .int 51), (0, .ref pg), (1, .int (nI i)), (2, .int (nI q)), (3, .int 0)]) hx hb dX3_fitsEdge_84 hl (by decide) rfl (fun ls hl => ?_)
      refine lv_iload hx hb dX3_fitsEdge_86 (lv_at hl 0 rfl) ?_
      refine lv_if_eq (tgt := 117) hx hb dX3_fitsEdge_88 (by decide) (fun c_4 => ?_) (fun c_4 => ?_)
      rotate_left
      · exact absurd c_4 (by decide)
      refine lv_iconst (v := 0) hx hb dX3_fitsEdge_117 (by decide) ?_
      exact hret _ _ _ _ _ _ 0 () dX3_fitsEdge_118 rfl hS (Nat.le_of_ble_eq_true rfl) (Nat.le_of_ble_eq_true rfl) (by simp [fE0, c_1, c_3]) (hP.sub [0, 1] rfl) (hD.sub [0, 1] rfl rfl)
    · skip
      refine lv_aload_n hx hb dX3_fitsEdge_68 rfl (lv_at hl 1 rfl) ?_
      refine va_get (D := D) (ci := 3) (v := .ref pc) (C := RX3) (T := TX3) (N := 2) hx hb hts iT_X3 hown hK1 hP 0 rfl rfl 0 (by decide) (hts _ t_26) (fun _ h9 => h9) rfl dX3_fitsEdge_69 ?_
      refine lv_iload_n hx hb dX3_fitsEdge_72 rfl (lv_at hl 2 rfl) ?_
      refine va_iald hx hb hK1 hP 1 0 rfl rfl (vp_in_nI (by omega) (by omega)) dX3_fitsEdge_73 ?_
      refine lv_nmi (show _ = pf i from by rw [nI_clamp (n := i) (by omega)]) ?_
      refine lv_iload hx hb dX3_fitsEdge_74 (lv_at hl 0 rfl) ?_
      refine lv_icmp_gt (tgt := 83) hx hb dX3_fitsEdge_76 (by decide) (fun c_5 => ?_) (fun c_5 => ?_)
      · skip
        refine lv_iconst (v := 0) hx hb dX3_fitsEdge_83 (by decide) ?_
        refine lv_istore (lv' := [(5, .int 0), (4, .int 51), (0, .ref pg), (1, .int (nI i)), (2, .int (nI q)), (3, .int 0)]) hx hb dX3_fitsEdge_84 hl (by decide) rfl (fun ls hl => ?_)
        refine lv_iload hx hb dX3_fitsEdge_86 (lv_at hl 0 rfl) ?_
        refine lv_if_eq (tgt := 117) hx hb dX3_fitsEdge_88 (by decide) (fun c_6 => ?_) (fun c_6 => ?_)
        rotate_left
        · exact absurd c_6 (by decide)
        refine lv_iconst (v := 0) hx hb dX3_fitsEdge_117 (by decide) ?_
        exact hret _ _ _ _ _ _ 0 () dX3_fitsEdge_118 rfl hS (Nat.le_of_ble_eq_true rfl) (Nat.le_of_ble_eq_true rfl) (by simp [fE0, c_1, c_3, c_5]) (hP.sub [0, 1] rfl) (hD.sub [0, 1] rfl rfl)
      · skip
        refine lv_iconst (v := 1) hx hb dX3_fitsEdge_79 (by decide) ?_
        refine lv_goto (tgt := 84) hx hb dX3_fitsEdge_80 (by decide) ?_
        refine lv_istore (lv' := [(5, .int 1), (4, .int 51), (0, .ref pg), (1, .int (nI i)), (2, .int (nI q)), (3, .int 0)]) hx hb dX3_fitsEdge_84 hl (by decide) rfl (fun ls hl => ?_)
        refine lv_iload hx hb dX3_fitsEdge_86 (lv_at hl 0 rfl) ?_
        refine lv_if_eq (tgt := 117) hx hb dX3_fitsEdge_88 (by decide) (fun c_7 => ?_) (fun c_7 => ?_)
        · exact absurd c_7 (by decide)
        refine lv_iload_n hx hb dX3_fitsEdge_91 rfl (lv_at hl 4 rfl) ?_
        refine lv_iconst (v := 1) hx hb dX3_fitsEdge_92 (by decide) ?_
        refine lv_icmp_eq (tgt := 113) hx hb dX3_fitsEdge_93 (by decide) (fun c_8 => ?_) (fun c_8 => ?_)
        · skip
          refine lv_iconst (v := 1) hx hb dX3_fitsEdge_113 (by decide) ?_
          refine lv_goto (tgt := 118) hx hb dX3_fitsEdge_114 (by decide) ?_
          exact hret _ _ _ _ _ _ 1 () dX3_fitsEdge_118 rfl hS (Nat.le_of_ble_eq_true rfl) (Nat.le_of_ble_eq_true rfl) (by simp [fE0, c_1, c_3, c_5, c_8]) (hP.sub [0, 1] rfl) (hD.sub [0, 1] rfl rfl)
        · skip
          refine lv_aload_n hx hb dX3_fitsEdge_96 rfl (lv_at hl 2 rfl) ?_
          refine va_get (D := D) (ci := 3) (v := .ref pc) (C := RX3) (T := TX3) (N := 2) hx hb hts iT_X3 hown hK1 hP 0 rfl rfl 0 (by decide) (hts _ t_26) (fun _ h9 => h9) rfl dX3_fitsEdge_97 ?_
          refine lv_iload_n hx hb dX3_fitsEdge_100 rfl (lv_at hl 3 rfl) ?_
          refine va_iald hx hb hK1 hP 1 0 rfl rfl (vp_in_nI (by omega) (by omega)) dX3_fitsEdge_101 ?_
          refine lv_nmi (show _ = pf i from by rw [nI_clamp (n := i) (by omega)]) ?_
          refine lv_aload_n hx hb dX3_fitsEdge_102 rfl (lv_at hl 2 rfl) ?_
          refine va_get (D := D) (ci := 3) (v := .ref pc) (C := RX3) (T := TX3) (N := 2) hx hb hts iT_X3 hown hK1 hP 0 rfl rfl 0 (by decide) (hts _ t_26) (fun _ h9 => h9) rfl dX3_fitsEdge_103 ?_
          refine lv_iload_n hx hb dX3_fitsEdge_106 rfl (lv_at hl 3 rfl) ?_
          refine lv_iconst (v := 1) hx hb dX3_fitsEdge_107 (by decide) ?_
          refine lv_isub hx hb dX3_fitsEdge_108 ?_
          refine lv_nmi (show _ = (nI (i - 1) : Int32) from pk_sub (fE_ge hq c_1 hq3)) ?_
          refine va_iald hx hb hK1 hP 1 0 rfl rfl (vp_in_nI (by omega) (by omega)) dX3_fitsEdge_109 ?_
          refine lv_nmi (show _ = pf (i - 1) from by rw [nI_clamp (n := (i - 1)) (by omega)]) ?_
          refine lv_icmp_eq (tgt := 117) hx hb dX3_fitsEdge_110 (by decide) (fun c_9 => ?_) (fun c_9 => ?_)
          · skip
            refine lv_iconst (v := 0) hx hb dX3_fitsEdge_117 (by decide) ?_
            exact hret _ _ _ _ _ _ 0 () dX3_fitsEdge_118 rfl hS (Nat.le_of_ble_eq_true rfl) (Nat.le_of_ble_eq_true rfl) (by simp [fE0, c_1, c_3, c_5, c_8, c_9]) (hP.sub [0, 1] rfl) (hD.sub [0, 1] rfl rfl)
          · skip
            refine lv_iconst (v := 1) hx hb dX3_fitsEdge_113 (by decide) ?_
            refine lv_goto (tgt := 118) hx hb dX3_fitsEdge_114 (by decide) ?_
            exact hret _ _ _ _ _ _ 1 () dX3_fitsEdge_118 rfl hS (Nat.le_of_ble_eq_true rfl) (Nat.le_of_ble_eq_true rfl) (by simp [fE0, c_1, c_3, c_5, c_8, c_9]) (hP.sub [0, 1] rfl) (hD.sub [0, 1] rfl rfl)
  · skip
    refine lv_aload_n hx hb dX3_fitsEdge_4 rfl (lv_at hl 0 rfl) ?_
    refine va_get (D := D) (ci := 3) (v := .ref pc) (C := RX3) (T := TX3) (N := 2) hx hb hts iT_X3 hown hK1 hP 0 rfl rfl 0 (by decide) (hts _ t_26) (fun _ h9 => h9) rfl dX3_fitsEdge_5 ?_
    refine lv_iload_n hx hb dX3_fitsEdge_8 rfl (lv_at hl 1 rfl) ?_
    refine va_iald hx hb hK1 hP 1 0 rfl rfl (vp_in_nI (by omega) (by omega)) dX3_fitsEdge_9 ?_
    refine lv_nmi (show _ = pf i from by rw [nI_clamp (n := i) (by omega)]) ?_
    refine xc_i (wc := []) (wr := [kX3 pg pc (nI z), kI cI pc 16 pf]) (xrS (n := 1) (As := [.int (pf i)]) (rest := []) hd hK hP hD (c_X3_letterOf l D cI cJ cZ cR _ (pf i) ) (gS t_213 mS_X3_letterOf) hS_X3_letterOf ⟨(Nat.le_of_ble_eq_true rfl), (Nat.le_of_ble_eq_true rfl)⟩ [] rfl rfl rfl hl.1 rfl (Nat.le_of_ble_eq_true rfl) dX3_fitsEdge_10 ⟨(Nat.le_of_ble_eq_true rfl), (Nat.le_of_ble_eq_true rfl)⟩) hP hD hS hA [] [0, 1] rfl rfl rfl (by decide) (fun r_10 u_11 H locs hw_12 hP hD hS => ?_)
    have hw_13 : r_10 = (cL (pf i)) := hw_12
    subst hw_13
    have hP : va_P D vwCl [kX3 pg pc (nI z), kI cI pc 16 pf] H := hP
    have hD : va_D A [kX3 pg pc (nI z), kI cI pc 16 pf] := hD
    refine lv_istore (lv' := [(4, .int (cL (pf i))), (0, .ref pg), (1, .int (nI i)), (2, .int (nI q)), (3, .int 0)]) hx hb dX3_fitsEdge_13 hl (by decide) rfl (fun ls hl => ?_)
    refine lv_iload_n hx hb dX3_fitsEdge_15 rfl (lv_at hl 4 rfl) ?_
    refine lv_if_eq (tgt := 33) hx hb dX3_fitsEdge_16 (by decide) (fun c_14 => ?_) (fun c_14 => ?_)
    rotate_left
    · exact absurd c_14 (by decide)
    refine lv_iload hx hb dX3_fitsEdge_33 (lv_at hl 0 rfl) ?_
    refine lv_if_lt (tgt := 42) hx hb dX3_fitsEdge_35 (by decide) (fun c_15 => ?_) (fun c_15 => ?_)
    · skip
      refine lv_iconst (v := 0) hx hb dX3_fitsEdge_42 (by decide) ?_
      exact hret _ _ _ _ _ _ 0 () dX3_fitsEdge_43 rfl hS (Nat.le_of_ble_eq_true rfl) (Nat.le_of_ble_eq_true rfl) (by simp [fE0, c_1, c_15]) (hP.sub [0, 1] rfl) (hD.sub [0, 1] rfl rfl)
    · skip
      refine lv_iconst (v := 1) hx hb dX3_fitsEdge_38 (by decide) ?_
      refine lv_goto (tgt := 43) hx hb dX3_fitsEdge_39 (by decide) ?_
      exact hret _ _ _ _ _ _ 1 () dX3_fitsEdge_43 rfl hS (Nat.le_of_ble_eq_true rfl) (Nat.le_of_ble_eq_true rfl) (by simp [fE0, c_1, c_15]) (hP.sub [0, 1] rfl) (hD.sub [0, 1] rfl rfl)
set_option maxHeartbeats 4000000 in
set_option maxRecDepth 100000 in
theorem g_firstFault_0 (sz : Nat) (pg : Nat) (pc : Nat) (z : Nat) (pf : Nat → Int32) (hz : z ≤ 16) : CTi l D cI cJ cZ cR yX3_firstFault cX3_firstFault 6 (some .int) 2 45 0 0 sz [.ref pg, .int 0] [kX3 pg pc (nI z), kI cI pc 16 pf] (fun (r : Int32) (u : Nat) => (r = (nI u)) ∧ (FF (okF0 pf) z u)) (fun (u : Nat) => [kX3 pg pc (nI z), kI cI pc 16 pf]) := by
  refine CTi.of (ty := .int) (by decide) (Nat.le_of_ble_eq_true rfl) rfl ?_
  intro p e s m below meth c A Q ls hd hin hK hsz hP hD hA hS hl hret
  obtain ⟨hx, hb, hml, hown, hts⟩ := id hd
  have hK1 := hK.1
  have hown : s.vm.findClass RX3 = some m.cls := hown
  have hl : lv_has ls 6 [(0, .ref pg), (1, .int 0)] := hl
  refine lv_iload_n hx hb dX3_firstFault_0 rfl (lv_at hl 1 rfl) ?_
  refine lv_if_eq (tgt := 8) hx hb dX3_firstFault_1 (by decide) (fun c_1 => ?_) (fun c_1 => ?_)
  rotate_left
  · exact absurd c_1 (by decide)
  refine lv_iconst (v := 2) hx hb dX3_firstFault_8 (by decide) ?_
  refine lv_istore_n (lv' := [(2, .int 2), (0, .ref pg), (1, .int 0)]) hx hb dX3_firstFault_9 rfl hl (by decide) rfl (fun ls hl => ?_)
  refine lv_iload_n hx hb dX3_firstFault_10 rfl (lv_at hl 0 rfl) ?_
  refine lv_iconst (v := 3) hx hb dX3_firstFault_11 (by decide) ?_
  refine lv_iload_n hx hb dX3_firstFault_12 rfl (lv_at hl 2 rfl) ?_
  refine lv_if_eq (tgt := 20) hx hb dX3_firstFault_13 (by decide) (fun c_2 => ?_) (fun c_2 => ?_)
  rotate_left
  · exact absurd c_2 (by decide)
  refine lv_iconst (v := 3) hx hb dX3_firstFault_20 (by decide) ?_
  refine lv_imul hx hb dX3_firstFault_21 ?_
  refine lv_nmi (show _ = (9 : Int32) from by decide +kernel) ?_
  refine lv_iadd hx hb dX3_firstFault_22 ?_
  refine lv_nmi (show _ = (11 : Int32) from by decide +kernel) ?_
  refine lv_istore_n (lv' := [(3, .int 11), (2, .int 2), (0, .ref pg), (1, .int 0)]) hx hb dX3_firstFault_23 rfl hl (by decide) rfl (fun ls hl => ?_)
  refine lv_iconst (v := 0) hx hb dX3_firstFault_24 (by decide) ?_
  refine lv_istore (lv' := [(4, .int 0), (3, .int 11), (2, .int 2), (0, .ref pg), (1, .int 0)]) hx hb dX3_firstFault_25 hl (by decide) rfl (fun ls hl => ?_)
  have LOOP_27 : ∀ (n : Nat) (i : Nat), (i + n = z) → (∀ j, j < i → okF0 pf j) → ∀ (H : Heap) (locs : List Loc) (ls : Array Slot), va_P D vwCl [kX3 pg pc (nI z), kI cI pc 16 pf] H → va_D A [kX3 pg pc (nI z), kI cI pc 16 pf] → va_S A s.heap H locs → lv_has ls 6 [(0, .ref pg), (1, .int 0), (2, .int 2), (3, .int 11), (4, .int (nI i))] → W p l e (rM 2 0 0 45) s m ([.ref pg, .int 0] : List Value).toArray below meth c H locs 0 0 Q (F0 m 27 ls []) := by
    intro n
    induction n with
    | zero =>
      intro i hi hok H locs ls hP hD hS hl
      refine lv_iload hx hb dX3_firstFault_27 (lv_at hl 4 rfl) ?_
      refine lv_aload_n hx hb dX3_firstFault_29 rfl (lv_at hl 0 rfl) ?_
      refine va_get (D := D) (ci := 3) (v := .int (nI z)) (C := RX3) (T := TX3) (N := 2) hx hb hts iT_X3 hown hK1 hP 0 rfl rfl 1 (by decide) (hts _ t_28) (fun _ h9 => h9) rfl dX3_firstFault_30 ?_
      refine lv_icmp_ge (tgt := 86) hx hb dX3_firstFault_33 (by decide) (fun c_3 => ?_) (fun c_3 => ?_)
      rotate_left
      · exact absurd (nI_le (a := z) (b := i) (by omega) (by omega)) c_3
      refine lv_aload_n hx hb dX3_firstFault_86 rfl (lv_at hl 0 rfl) ?_
      refine va_get (D := D) (ci := 3) (v := .int (nI z)) (C := RX3) (T := TX3) (N := 2) hx hb hts iT_X3 hown hK1 hP 0 rfl rfl 1 (by decide) (hts _ t_28) (fun _ h9 => h9) rfl dX3_firstFault_87 ?_
      exact hret _ _ _ _ _ _ (nI z) z dX3_firstFault_90 rfl hS (Nat.le_of_ble_eq_true rfl) (Nat.le_of_ble_eq_true rfl) ⟨rfl, FF_end hok (by omega)⟩ (hP.sub [0, 1] rfl) (hD.sub [0, 1] rfl rfl)
    | succ n ih_27 =>
      intro i hi hok H locs ls hP hD hS hl
      refine lv_iload hx hb dX3_firstFault_27 (lv_at hl 4 rfl) ?_
      refine lv_aload_n hx hb dX3_firstFault_29 rfl (lv_at hl 0 rfl) ?_
      refine va_get (D := D) (ci := 3) (v := .int (nI z)) (C := RX3) (T := TX3) (N := 2) hx hb hts iT_X3 hown hK1 hP 0 rfl rfl 1 (by decide) (hts _ t_28) (fun _ h9 => h9) rfl dX3_firstFault_30 ?_
      refine lv_icmp_ge (tgt := 86) hx hb dX3_firstFault_33 (by decide) (fun c_4 => ?_) (fun c_4 => ?_)
      · exact absurd c_4 (nI_ge (a := i) (b := z) (by omega) (by omega))
      refine lv_iload hx hb dX3_firstFault_36 (lv_at hl 4 rfl) ?_
      refine lv_iload_n hx hb dX3_firstFault_38 rfl (lv_at hl 2 rfl) ?_
      refine lv_icmp_ge (tgt := 51) hx hb dX3_firstFault_39 (by decide) (fun c_5 => ?_) (fun c_5 => ?_)
      · skip
        refine lv_aload_n hx hb dX3_firstFault_51 rfl (lv_at hl 0 rfl) ?_
        refine lv_iload hx hb dX3_firstFault_52 (lv_at hl 4 rfl) ?_
        refine lv_iload hx hb dX3_firstFault_54 (lv_at hl 4 rfl) ?_
        refine lv_iload_n hx hb dX3_firstFault_56 rfl (lv_at hl 2 rfl) ?_
        refine lv_isub hx hb dX3_firstFault_57 ?_
        refine lv_nmi (show _ = (nI (i - 2) : Int32) from pk_sub (leN (a := 2) (by omega) (by omega) c_5)) ?_
        refine lv_iconst (v := 3) hx hb dX3_firstFault_58 (by decide) ?_
        refine lv_irem hx hb dX3_firstFault_59 (by decide) ?_
        refine lv_nmi (show _ = (nI ((i - 2) % 3) : Int32) from pk_rem (d := 3) (by omega) (by decide) (by decide)) ?_
        refine lv_iload_n hx hb dX3_firstFault_60 rfl (lv_at hl 1 rfl) ?_
        refine xc_i (wc := [kX3 pg pc (nI z), kI cI pc 16 pf]) (wr := []) (xrV (n := 3) (As := [.int (nI i), .int (nI ((i - 2) % 3)), .int 0]) (rest := []) (ci := 3) (q0 := 0) hd hK hP hD (g_fitsEdge_0 l D cI cJ cZ cR _ pg pc z pf i ((i - 2) % 3) hz (by omega) (Or.inr (by have := leN (a := 2) (by omega) (by omega) c_5; omega)) (by omega)) (gV t_219 mV_X3_fitsEdge) hV_X3_fitsEdge ⟨(Nat.le_of_ble_eq_true rfl), (Nat.le_of_ble_eq_true rfl)⟩ rfl rfl [0, 1] rfl rfl rfl hl.1 rfl (Nat.le_of_ble_eq_true rfl) dX3_firstFault_61 ⟨(Nat.le_of_ble_eq_true rfl), (Nat.le_of_ble_eq_true rfl)⟩) hP hD hS hA [0, 1] [] rfl rfl rfl (by decide) (fun r_6 u_7 H locs hw_8 hP hD hS => ?_)
        have hw_9 : r_6 = (fE0 pf i ((i - 2) % 3)) := hw_8
        subst hw_9
        have hP : va_P D vwCl [kX3 pg pc (nI z), kI cI pc 16 pf] H := hP
        have hD : va_D A [kX3 pg pc (nI z), kI cI pc 16 pf] := hD
        refine lv_istore (lv' := [(5, .int (fE0 pf i ((i - 2) % 3))), (0, .ref pg), (1, .int 0), (2, .int 2), (3, .int 11), (4, .int (nI i))]) hx hb dX3_firstFault_64 hl (by decide) rfl (fun ls hl => ?_)
        refine lv_iload hx hb dX3_firstFault_66 (lv_at hl 5 rfl) ?_
        refine lv_iload_n hx hb dX3_firstFault_68 rfl (lv_at hl 4 rfl) ?_
        refine lv_icmp_ge (tgt := 77) hx hb dX3_firstFault_69 (by decide) (fun c_10 => ?_) (fun c_10 => ?_)
        · skip
          refine lv_iload hx hb dX3_firstFault_77 (lv_at hl 5 rfl) ?_
          exact hret _ _ _ _ _ _ (nI i) i dX3_firstFault_79 rfl hS (Nat.le_of_ble_eq_true rfl) (Nat.le_of_ble_eq_true rfl) ⟨rfl, FF_bad hok (by omega) (ok0_most (by omega) c_10)⟩ (hP.sub [0, 1] rfl) (hD.sub [0, 1] rfl rfl)
        · skip
          refine lv_iload hx hb dX3_firstFault_72 (lv_at hl 0 rfl) ?_
          refine lv_if_ne (tgt := 80) hx hb dX3_firstFault_74 (by decide) (fun c_11 => ?_) (fun c_11 => ?_)
          · skip
            refine lv_iinc (v := nI (i + 1)) (lv' := [(4, .int (nI (i + 1))), (5, .int (fE0 pf i ((i - 2) % 3))), (0, .ref pg), (1, .int 0), (2, .int 2), (3, .int 11)]) hx hb dX3_firstFault_80 hl (k := 5) rfl (nI_1 i) (by decide) rfl (fun ls hl => ?_)
            refine lv_goto (tgt := 27) hx hb dX3_firstFault_83 (by decide) ?_
            exact ih_27 (i + 1) (by omega) (FF_step hok ((ok0_e (by omega) c_5 c_10).mpr c_11)) _ _ _ (hP.sub [0, 1] rfl) (hD.sub [0, 1] rfl rfl) hS (lv_sub hl [2, 3, 4, 5, 0] rfl)
          · skip
            refine lv_iload hx hb dX3_firstFault_77 (lv_at hl 5 rfl) ?_
            exact hret _ _ _ _ _ _ (nI i) i dX3_firstFault_79 rfl hS (Nat.le_of_ble_eq_true rfl) (Nat.le_of_ble_eq_true rfl) ⟨rfl, FF_bad hok (by omega) (fun q => (ok0_e (by omega) c_5 c_10).mp q c_11)⟩ (hP.sub [0, 1] rfl) (hD.sub [0, 1] rfl rfl)
      · skip
        refine lv_aload_n hx hb dX3_firstFault_42 rfl (lv_at hl 0 rfl) ?_
        refine lv_iload hx hb dX3_firstFault_43 (lv_at hl 4 rfl) ?_
        refine xc_i (wc := [kX3 pg pc (nI z), kI cI pc 16 pf]) (wr := []) (xrV (n := 1) (As := [.int (nI i)]) (rest := []) (ci := 3) (q0 := 0) hd hK hP hD (c_X3_fitsHead l D cI cJ cZ cR _ pg pc z pf i hz (by omega)) (gV t_209 mV_X3_fitsHead) hV_X3_fitsHead ⟨(Nat.le_of_ble_eq_true rfl), (Nat.le_of_ble_eq_true rfl)⟩ rfl rfl [0, 1] rfl rfl rfl hl.1 rfl (Nat.le_of_ble_eq_true rfl) dX3_firstFault_45 ⟨(Nat.le_of_ble_eq_true rfl), (Nat.le_of_ble_eq_true rfl)⟩) hP hD hS hA [0, 1] [] rfl rfl rfl (by decide) (fun r_12 u_13 H locs hw_14 hP hD hS => ?_)
        have hw_15 : r_12 = (fH pf i) := hw_14
        subst hw_15
        have hP : va_P D vwCl [kX3 pg pc (nI z), kI cI pc 16 pf] H := hP
        have hD : va_D A [kX3 pg pc (nI z), kI cI pc 16 pf] := hD
        refine lv_goto (tgt := 64) hx hb dX3_firstFault_48 (by decide) ?_
        refine lv_istore (lv' := [(5, .int (fH pf i)), (0, .ref pg), (1, .int 0), (2, .int 2), (3, .int 11), (4, .int (nI i))]) hx hb dX3_firstFault_64 hl (by decide) rfl (fun ls hl => ?_)
        refine lv_iload hx hb dX3_firstFault_66 (lv_at hl 5 rfl) ?_
        refine lv_iload_n hx hb dX3_firstFault_68 rfl (lv_at hl 4 rfl) ?_
        refine lv_icmp_ge (tgt := 77) hx hb dX3_firstFault_69 (by decide) (fun c_16 => ?_) (fun c_16 => ?_)
        · skip
          refine lv_iload hx hb dX3_firstFault_77 (lv_at hl 5 rfl) ?_
          exact hret _ _ _ _ _ _ (nI i) i dX3_firstFault_79 rfl hS (Nat.le_of_ble_eq_true rfl) (Nat.le_of_ble_eq_true rfl) ⟨rfl, FF_bad hok (by omega) (ok0_most (by omega) c_16)⟩ (hP.sub [0, 1] rfl) (hD.sub [0, 1] rfl rfl)
        · skip
          refine lv_iload hx hb dX3_firstFault_72 (lv_at hl 0 rfl) ?_
          refine lv_if_ne (tgt := 80) hx hb dX3_firstFault_74 (by decide) (fun c_17 => ?_) (fun c_17 => ?_)
          · skip
            refine lv_iinc (v := nI (i + 1)) (lv' := [(4, .int (nI (i + 1))), (5, .int (fH pf i)), (0, .ref pg), (1, .int 0), (2, .int 2), (3, .int 11)]) hx hb dX3_firstFault_80 hl (k := 5) rfl (nI_1 i) (by decide) rfl (fun ls hl => ?_)
            refine lv_goto (tgt := 27) hx hb dX3_firstFault_83 (by decide) ?_
            exact ih_27 (i + 1) (by omega) (FF_step hok ((ok0_h (by omega) c_5).mpr c_17)) _ _ _ (hP.sub [0, 1] rfl) (hD.sub [0, 1] rfl rfl) hS (lv_sub hl [2, 3, 4, 5, 0] rfl)
          · skip
            refine lv_iload hx hb dX3_firstFault_77 (lv_at hl 5 rfl) ?_
            exact hret _ _ _ _ _ _ (nI i) i dX3_firstFault_79 rfl hS (Nat.le_of_ble_eq_true rfl) (Nat.le_of_ble_eq_true rfl) ⟨rfl, FF_bad hok (by omega) (fun q => (ok0_h (by omega) c_5).mp q c_17)⟩ (hP.sub [0, 1] rfl) (hD.sub [0, 1] rfl rfl)
  exact LOOP_27 z 0 (by omega) (fun j hj => absurd hj (by omega)) _ _ _ (hP.sub [0, 1] rfl) (hD.sub [0, 1] rfl rfl) hS (lv_sub hl [3, 4, 2, 1, 0] rfl)
set_option maxHeartbeats 4000000 in
set_option maxRecDepth 100000 in
theorem g_isWhole_0 (sz : Nat) (pg : Nat) (pc : Nat) (z : Nat) (hz : z ≤ 16) : CTi l D cI cJ cZ cR yX3_isWhole cX3_isWhole 2 (some .boolean) 0 0 0 0 sz [.ref pg, .int 2] [kX3 pg pc (nI z)] (fun (r : Int32) (u : Unit) => (r = (iW 2 z))) (fun (u : Unit) => [kX3 pg pc (nI z)]) := by
  refine CTi.of (ty := .boolean) (by decide) (Nat.le_of_ble_eq_true rfl) rfl ?_
  intro p e s m below meth c A Q ls hd hin hK hsz hP hD hA hS hl hret
  obtain ⟨hx, hb, hml, hown, hts⟩ := id hd
  have hK1 := hK.1
  have hown : s.vm.findClass RX3 = some m.cls := hown
  have hl : lv_has ls 2 [(0, .ref pg), (1, .int 2)] := hl
  refine lv_aload_n hx hb dX3_isWhole_0 rfl (lv_at hl 0 rfl) ?_
  refine va_get (D := D) (ci := 3) (v := .int (nI z)) (C := RX3) (T := TX3) (N := 2) hx hb hts iT_X3 hown hK1 hP 0 rfl rfl 1 (by decide) (hts _ t_28) (fun _ h9 => h9) rfl dX3_isWhole_1 ?_
  refine lv_iload_n hx hb dX3_isWhole_4 rfl (lv_at hl 1 rfl) ?_
  refine lv_icmp_le (tgt := 23) hx hb dX3_isWhole_5 (by decide) (fun c_1 => ?_) (fun c_1 => ?_)
  · skip
    refine lv_iconst (v := 0) hx hb dX3_isWhole_23 (by decide) ?_
    exact hret _ _ _ _ _ _ 0 () dX3_isWhole_24 rfl hS (Nat.le_of_ble_eq_true rfl) (Nat.le_of_ble_eq_true rfl) (iW_a (h := 2) (by omega) (by omega) c_1) (hP.sub [0] rfl) (hD.sub [0] rfl rfl)
  · skip
    refine lv_aload_n hx hb dX3_isWhole_8 rfl (lv_at hl 0 rfl) ?_
    refine va_get (D := D) (ci := 3) (v := .int (nI z)) (C := RX3) (T := TX3) (N := 2) hx hb hts iT_X3 hown hK1 hP 0 rfl rfl 1 (by decide) (hts _ t_28) (fun _ h9 => h9) rfl dX3_isWhole_9 ?_
    refine lv_iload_n hx hb dX3_isWhole_12 rfl (lv_at hl 1 rfl) ?_
    refine lv_isub hx hb dX3_isWhole_13 ?_
    refine lv_nmi (show _ = (nI (z - 2) : Int32) from pk_sub (iW_le (h := 2) (by omega) (by omega) c_1)) ?_
    refine lv_iconst (v := 3) hx hb dX3_isWhole_14 (by decide) ?_
    refine lv_irem hx hb dX3_isWhole_15 (by decide) ?_
    refine lv_nmi (show _ = (nI ((z - 2) % 3) : Int32) from pk_rem (d := 3) (by omega) (by decide) (by decide)) ?_
    refine lv_if_ne (tgt := 23) hx hb dX3_isWhole_16 (by decide) (fun c_2 => ?_) (fun c_2 => ?_)
    · skip
      refine lv_iconst (v := 0) hx hb dX3_isWhole_23 (by decide) ?_
      exact hret _ _ _ _ _ _ 0 () dX3_isWhole_24 rfl hS (Nat.le_of_ble_eq_true rfl) (Nat.le_of_ble_eq_true rfl) (iW_b (h := 2) (by omega) (by omega) c_1 c_2) (hP.sub [0] rfl) (hD.sub [0] rfl rfl)
    · skip
      refine lv_iconst (v := 1) hx hb dX3_isWhole_19 (by decide) ?_
      refine lv_goto (tgt := 24) hx hb dX3_isWhole_20 (by decide) ?_
      exact hret _ _ _ _ _ _ 1 () dX3_isWhole_24 rfl hS (Nat.le_of_ble_eq_true rfl) (Nat.le_of_ble_eq_true rfl) (iW_c (h := 2) (by omega) (by omega) c_1 c_2) (hP.sub [0] rfl) (hD.sub [0] rfl rfl)
set_option maxHeartbeats 4000000 in
set_option maxRecDepth 100000 in
theorem g_fitsEdge_1 (sz : Nat) (pg : Nat) (pc : Nat) (z : Nat) (pf : Nat → Int32) (i : Nat) (q : Nat) (hz : z ≤ 16) (hi : i < z) (hq : q = 0 ∨ 1 ≤ i) (hq3 : q < 3) : CTi l D cI cJ cZ cR yX3_fitsEdge cX3_fitsEdge 6 (some .boolean) 1 20 0 0 sz [.ref pg, .int (nI i), .int (nI q), .int 1] [kX3 pg pc (nI z), kI cI pc 16 pf] (fun (r : Int32) (u : Unit) => (r = (fE1 pf i q))) (fun (u : Unit) => [kX3 pg pc (nI z), kI cI pc 16 pf]) := by
  refine CTi.of (ty := .boolean) (by decide) (Nat.le_of_ble_eq_true rfl) rfl ?_
  intro p e s m below meth c A Q ls hd hin hK hsz hP hD hA hS hl hret
  obtain ⟨hx, hb, hml, hown, hts⟩ := id hd
  have hK1 := hK.1
  have hown : s.vm.findClass RX3 = some m.cls := hown
  have hl : lv_has ls 6 [(0, .ref pg), (1, .int (nI i)), (2, .int (nI q)), (3, .int 1)] := hl
  refine lv_iload_n hx hb dX3_fitsEdge_0 rfl (lv_at hl 2 rfl) ?_
  refine lv_if_ne (tgt := 44) hx hb dX3_fitsEdge_1 (by decide) (fun c_1 => ?_) (fun c_1 => ?_)
  · skip
    refine lv_iload_n hx hb dX3_fitsEdge_44 rfl (lv_at hl 3 rfl) ?_
    refine lv_if_eq (tgt := 53) hx hb dX3_fitsEdge_45 (by decide) (fun c_2 => ?_) (fun c_2 => ?_)
    · exact absurd c_2 (by decide)
    refine lv_bipush (v := 52) hx hb dX3_fitsEdge_48 (by decide) ?_
    refine lv_goto (tgt := 55) hx hb dX3_fitsEdge_50 (by decide) ?_
    refine lv_istore (lv' := [(4, .int 52), (0, .ref pg), (1, .int (nI i)), (2, .int (nI q)), (3, .int 1)]) hx hb dX3_fitsEdge_55 hl (by decide) rfl (fun ls hl => ?_)
    refine lv_aload_n hx hb dX3_fitsEdge_57 rfl (lv_at hl 1 rfl) ?_
    refine va_get (D := D) (ci := 3) (v := .ref pc) (C := RX3) (T := TX3) (N := 2) hx hb hts iT_X3 hown hK1 hP 0 rfl rfl 0 (by decide) (hts _ t_26) (fun _ h9 => h9) rfl dX3_fitsEdge_58 ?_
    refine lv_iload_n hx hb dX3_fitsEdge_61 rfl (lv_at hl 2 rfl) ?_
    refine va_iald hx hb hK1 hP 1 0 rfl rfl (vp_in_nI (by omega) (by omega)) dX3_fitsEdge_62 ?_
    refine lv_nmi (show _ = pf i from by rw [nI_clamp (n := i) (by omega)]) ?_
    refine lv_bipush (v := 48) hx hb dX3_fitsEdge_63 (by decide) ?_
    refine lv_icmp_lt (tgt := 83) hx hb dX3_fitsEdge_65 (by decide) (fun c_3 => ?_) (fun c_3 => ?_)
    · skip
      refine lv_iconst (v := 0) hx hb dX3_fitsEdge_83 (by decide) ?_
      refine lv_istore (lv' := [(5, .int 0), (4, .int 52), (0, .ref pg), (1, .int (nI i)), (2, .int (nI q)), (3, .int 1)]) hx hb dX3_fitsEdge_84 hl (by decide) rfl (fun ls hl => ?_)
      refine lv_iload hx hb dX3_fitsEdge_86 (lv_at hl 0 rfl) ?_
      refine lv_if_eq (tgt := 117) hx hb dX3_fitsEdge_88 (by decide) (fun c_4 => ?_) (fun c_4 => ?_)
      rotate_left
      · exact absurd c_4 (by decide)
      refine lv_iconst (v := 0) hx hb dX3_fitsEdge_117 (by decide) ?_
      exact hret _ _ _ _ _ _ 0 () dX3_fitsEdge_118 rfl hS (Nat.le_of_ble_eq_true rfl) (Nat.le_of_ble_eq_true rfl) (by simp [fE1, c_1, c_3]) (hP.sub [0, 1] rfl) (hD.sub [0, 1] rfl rfl)
    · skip
      refine lv_aload_n hx hb dX3_fitsEdge_68 rfl (lv_at hl 1 rfl) ?_
      refine va_get (D := D) (ci := 3) (v := .ref pc) (C := RX3) (T := TX3) (N := 2) hx hb hts iT_X3 hown hK1 hP 0 rfl rfl 0 (by decide) (hts _ t_26) (fun _ h9 => h9) rfl dX3_fitsEdge_69 ?_
      refine lv_iload_n hx hb dX3_fitsEdge_72 rfl (lv_at hl 2 rfl) ?_
      refine va_iald hx hb hK1 hP 1 0 rfl rfl (vp_in_nI (by omega) (by omega)) dX3_fitsEdge_73 ?_
      refine lv_nmi (show _ = pf i from by rw [nI_clamp (n := i) (by omega)]) ?_
      refine lv_iload hx hb dX3_fitsEdge_74 (lv_at hl 0 rfl) ?_
      refine lv_icmp_gt (tgt := 83) hx hb dX3_fitsEdge_76 (by decide) (fun c_5 => ?_) (fun c_5 => ?_)
      · skip
        refine lv_iconst (v := 0) hx hb dX3_fitsEdge_83 (by decide) ?_
        refine lv_istore (lv' := [(5, .int 0), (4, .int 52), (0, .ref pg), (1, .int (nI i)), (2, .int (nI q)), (3, .int 1)]) hx hb dX3_fitsEdge_84 hl (by decide) rfl (fun ls hl => ?_)
        refine lv_iload hx hb dX3_fitsEdge_86 (lv_at hl 0 rfl) ?_
        refine lv_if_eq (tgt := 117) hx hb dX3_fitsEdge_88 (by decide) (fun c_6 => ?_) (fun c_6 => ?_)
        rotate_left
        · exact absurd c_6 (by decide)
        refine lv_iconst (v := 0) hx hb dX3_fitsEdge_117 (by decide) ?_
        exact hret _ _ _ _ _ _ 0 () dX3_fitsEdge_118 rfl hS (Nat.le_of_ble_eq_true rfl) (Nat.le_of_ble_eq_true rfl) (by simp [fE1, c_1, c_3, c_5]) (hP.sub [0, 1] rfl) (hD.sub [0, 1] rfl rfl)
      · skip
        refine lv_iconst (v := 1) hx hb dX3_fitsEdge_79 (by decide) ?_
        refine lv_goto (tgt := 84) hx hb dX3_fitsEdge_80 (by decide) ?_
        refine lv_istore (lv' := [(5, .int 1), (4, .int 52), (0, .ref pg), (1, .int (nI i)), (2, .int (nI q)), (3, .int 1)]) hx hb dX3_fitsEdge_84 hl (by decide) rfl (fun ls hl => ?_)
        refine lv_iload hx hb dX3_fitsEdge_86 (lv_at hl 0 rfl) ?_
        refine lv_if_eq (tgt := 117) hx hb dX3_fitsEdge_88 (by decide) (fun c_7 => ?_) (fun c_7 => ?_)
        · exact absurd c_7 (by decide)
        refine lv_iload_n hx hb dX3_fitsEdge_91 rfl (lv_at hl 4 rfl) ?_
        refine lv_iconst (v := 1) hx hb dX3_fitsEdge_92 (by decide) ?_
        refine lv_icmp_eq (tgt := 113) hx hb dX3_fitsEdge_93 (by decide) (fun c_8 => ?_) (fun c_8 => ?_)
        · skip
          refine lv_iconst (v := 1) hx hb dX3_fitsEdge_113 (by decide) ?_
          refine lv_goto (tgt := 118) hx hb dX3_fitsEdge_114 (by decide) ?_
          exact hret _ _ _ _ _ _ 1 () dX3_fitsEdge_118 rfl hS (Nat.le_of_ble_eq_true rfl) (Nat.le_of_ble_eq_true rfl) (by simp [fE1, c_1, c_3, c_5, c_8]) (hP.sub [0, 1] rfl) (hD.sub [0, 1] rfl rfl)
        · skip
          refine lv_aload_n hx hb dX3_fitsEdge_96 rfl (lv_at hl 2 rfl) ?_
          refine va_get (D := D) (ci := 3) (v := .ref pc) (C := RX3) (T := TX3) (N := 2) hx hb hts iT_X3 hown hK1 hP 0 rfl rfl 0 (by decide) (hts _ t_26) (fun _ h9 => h9) rfl dX3_fitsEdge_97 ?_
          refine lv_iload_n hx hb dX3_fitsEdge_100 rfl (lv_at hl 3 rfl) ?_
          refine va_iald hx hb hK1 hP 1 0 rfl rfl (vp_in_nI (by omega) (by omega)) dX3_fitsEdge_101 ?_
          refine lv_nmi (show _ = pf i from by rw [nI_clamp (n := i) (by omega)]) ?_
          refine lv_aload_n hx hb dX3_fitsEdge_102 rfl (lv_at hl 2 rfl) ?_
          refine va_get (D := D) (ci := 3) (v := .ref pc) (C := RX3) (T := TX3) (N := 2) hx hb hts iT_X3 hown hK1 hP 0 rfl rfl 0 (by decide) (hts _ t_26) (fun _ h9 => h9) rfl dX3_fitsEdge_103 ?_
          refine lv_iload_n hx hb dX3_fitsEdge_106 rfl (lv_at hl 3 rfl) ?_
          refine lv_iconst (v := 1) hx hb dX3_fitsEdge_107 (by decide) ?_
          refine lv_isub hx hb dX3_fitsEdge_108 ?_
          refine lv_nmi (show _ = (nI (i - 1) : Int32) from pk_sub (fE_ge hq c_1 hq3)) ?_
          refine va_iald hx hb hK1 hP 1 0 rfl rfl (vp_in_nI (by omega) (by omega)) dX3_fitsEdge_109 ?_
          refine lv_nmi (show _ = pf (i - 1) from by rw [nI_clamp (n := (i - 1)) (by omega)]) ?_
          refine lv_icmp_eq (tgt := 117) hx hb dX3_fitsEdge_110 (by decide) (fun c_9 => ?_) (fun c_9 => ?_)
          · skip
            refine lv_iconst (v := 0) hx hb dX3_fitsEdge_117 (by decide) ?_
            exact hret _ _ _ _ _ _ 0 () dX3_fitsEdge_118 rfl hS (Nat.le_of_ble_eq_true rfl) (Nat.le_of_ble_eq_true rfl) (by simp [fE1, c_1, c_3, c_5, c_8, c_9]) (hP.sub [0, 1] rfl) (hD.sub [0, 1] rfl rfl)
          · skip
            refine lv_iconst (v := 1) hx hb dX3_fitsEdge_113 (by decide) ?_
            refine lv_goto (tgt := 118) hx hb dX3_fitsEdge_114 (by decide) ?_
            exact hret _ _ _ _ _ _ 1 () dX3_fitsEdge_118 rfl hS (Nat.le_of_ble_eq_true rfl) (Nat.le_of_ble_eq_true rfl) (by simp [fE1, c_1, c_3, c_5, c_8, c_9]) (hP.sub [0, 1] rfl) (hD.sub [0, 1] rfl rfl)
  · skip
    refine lv_aload_n hx hb dX3_fitsEdge_4 rfl (lv_at hl 0 rfl) ?_
    refine va_get (D := D) (ci := 3) (v := .ref pc) (C := RX3) (T := TX3) (N := 2) hx hb hts iT_X3 hown hK1 hP 0 rfl rfl 0 (by decide) (hts _ t_26) (fun _ h9 => h9) rfl dX3_fitsEdge_5 ?_
    refine lv_iload_n hx hb dX3_fitsEdge_8 rfl (lv_at hl 1 rfl) ?_
    refine va_iald hx hb hK1 hP 1 0 rfl rfl (vp_in_nI (by omega) (by omega)) dX3_fitsEdge_9 ?_
    refine lv_nmi (show _ = pf i from by rw [nI_clamp (n := i) (by omega)]) ?_
    refine xc_i (wc := []) (wr := [kX3 pg pc (nI z), kI cI pc 16 pf]) (xrS (n := 1) (As := [.int (pf i)]) (rest := []) hd hK hP hD (c_X3_letterOf l D cI cJ cZ cR _ (pf i) ) (gS t_213 mS_X3_letterOf) hS_X3_letterOf ⟨(Nat.le_of_ble_eq_true rfl), (Nat.le_of_ble_eq_true rfl)⟩ [] rfl rfl rfl hl.1 rfl (Nat.le_of_ble_eq_true rfl) dX3_fitsEdge_10 ⟨(Nat.le_of_ble_eq_true rfl), (Nat.le_of_ble_eq_true rfl)⟩) hP hD hS hA [] [0, 1] rfl rfl rfl (by decide) (fun r_10 u_11 H locs hw_12 hP hD hS => ?_)
    have hw_13 : r_10 = (cL (pf i)) := hw_12
    subst hw_13
    have hP : va_P D vwCl [kX3 pg pc (nI z), kI cI pc 16 pf] H := hP
    have hD : va_D A [kX3 pg pc (nI z), kI cI pc 16 pf] := hD
    refine lv_istore (lv' := [(4, .int (cL (pf i))), (0, .ref pg), (1, .int (nI i)), (2, .int (nI q)), (3, .int 1)]) hx hb dX3_fitsEdge_13 hl (by decide) rfl (fun ls hl => ?_)
    refine lv_iload_n hx hb dX3_fitsEdge_15 rfl (lv_at hl 4 rfl) ?_
    refine lv_if_eq (tgt := 33) hx hb dX3_fitsEdge_16 (by decide) (fun c_14 => ?_) (fun c_14 => ?_)
    · exact absurd c_14 (by decide)
    refine lv_iload hx hb dX3_fitsEdge_19 (lv_at hl 0 rfl) ?_
    refine lv_iconst (v := 3) hx hb dX3_fitsEdge_21 (by decide) ?_
    refine lv_icmp_lt (tgt := 29) hx hb dX3_fitsEdge_22 (by decide) (fun c_15 => ?_) (fun c_15 => ?_)
    · skip
      refine lv_iconst (v := 0) hx hb dX3_fitsEdge_29 (by decide) ?_
      refine lv_goto (tgt := 43) hx hb dX3_fitsEdge_30 (by decide) ?_
      exact hret _ _ _ _ _ _ 0 () dX3_fitsEdge_43 rfl hS (Nat.le_of_ble_eq_true rfl) (Nat.le_of_ble_eq_true rfl) (by simp [fE1, c_1, c_15]) (hP.sub [0, 1] rfl) (hD.sub [0, 1] rfl rfl)
    · skip
      refine lv_iconst (v := 1) hx hb dX3_fitsEdge_25 (by decide) ?_
      refine lv_goto (tgt := 43) hx hb dX3_fitsEdge_26 (by decide) ?_
      exact hret _ _ _ _ _ _ 1 () dX3_fitsEdge_43 rfl hS (Nat.le_of_ble_eq_true rfl) (Nat.le_of_ble_eq_true rfl) (by simp [fE1, c_1, c_15]) (hP.sub [0, 1] rfl) (hD.sub [0, 1] rfl rfl)
set_option maxHeartbeats 4000000 in
set_option maxRecDepth 100000 in
theorem g_firstFault_1 (sz : Nat) (pg : Nat) (pc : Nat) (z : Nat) (pf : Nat → Int32) (hz : z ≤ 16) : CTi l D cI cJ cZ cR yX3_firstFault cX3_firstFault 6 (some .int) 2 45 0 0 sz [.ref pg, .int 1] [kX3 pg pc (nI z), kI cI pc 16 pf] (fun (r : Int32) (u : Nat) => (r = (nI u)) ∧ (FF (okF1 pf) z u)) (fun (u : Nat) => [kX3 pg pc (nI z), kI cI pc 16 pf]) := by
  refine CTi.of (ty := .int) (by decide) (Nat.le_of_ble_eq_true rfl) rfl ?_
  intro p e s m below meth c A Q ls hd hin hK hsz hP hD hA hS hl hret
  obtain ⟨hx, hb, hml, hown, hts⟩ := id hd
  have hK1 := hK.1
  have hown : s.vm.findClass RX3 = some m.cls := hown
  have hl : lv_has ls 6 [(0, .ref pg), (1, .int 1)] := hl
  refine lv_iload_n hx hb dX3_firstFault_0 rfl (lv_at hl 1 rfl) ?_
  refine lv_if_eq (tgt := 8) hx hb dX3_firstFault_1 (by decide) (fun c_1 => ?_) (fun c_1 => ?_)
  · exact absurd c_1 (by decide)
  refine lv_iconst (v := 0) hx hb dX3_firstFault_4 (by decide) ?_
  refine lv_goto (tgt := 9) hx hb dX3_firstFault_5 (by decide) ?_
  refine lv_istore_n (lv' := [(2, .int 0), (0, .ref pg), (1, .int 1)]) hx hb dX3_firstFault_9 rfl hl (by decide) rfl (fun ls hl => ?_)
  refine lv_iload_n hx hb dX3_firstFault_10 rfl (lv_at hl 0 rfl) ?_
  refine lv_iconst (v := 3) hx hb dX3_firstFault_11 (by decide) ?_
  refine lv_iload_n hx hb dX3_firstFault_12 rfl (lv_at hl 2 rfl) ?_
  refine lv_if_eq (tgt := 20) hx hb dX3_firstFault_13 (by decide) (fun c_2 => ?_) (fun c_2 => ?_)
  · exact absurd c_2 (by decide)
  refine lv_iconst (v := 5) hx hb dX3_firstFault_16 (by decide) ?_
  refine lv_goto (tgt := 21) hx hb dX3_firstFault_17 (by decide) ?_
  refine lv_imul hx hb dX3_firstFault_21 ?_
  refine lv_nmi (show _ = (15 : Int32) from by decide +kernel) ?_
  refine lv_iadd hx hb dX3_firstFault_22 ?_
  refine lv_nmi (show _ = (15 : Int32) from by decide +kernel) ?_
  refine lv_istore_n (lv' := [(3, .int 15), (2, .int 0), (0, .ref pg), (1, .int 1)]) hx hb dX3_firstFault_23 rfl hl (by decide) rfl (fun ls hl => ?_)
  refine lv_iconst (v := 0) hx hb dX3_firstFault_24 (by decide) ?_
  refine lv_istore (lv' := [(4, .int 0), (3, .int 15), (2, .int 0), (0, .ref pg), (1, .int 1)]) hx hb dX3_firstFault_25 hl (by decide) rfl (fun ls hl => ?_)
  have LOOP_27 : ∀ (n : Nat) (i : Nat), (i + n = z) → (∀ j, j < i → okF1 pf j) → ∀ (H : Heap) (locs : List Loc) (ls : Array Slot), va_P D vwCl [kX3 pg pc (nI z), kI cI pc 16 pf] H → va_D A [kX3 pg pc (nI z), kI cI pc 16 pf] → va_S A s.heap H locs → lv_has ls 6 [(0, .ref pg), (1, .int 1), (2, .int 0), (3, .int 15), (4, .int (nI i))] → W p l e (rM 2 0 0 45) s m ([.ref pg, .int 1] : List Value).toArray below meth c H locs 0 0 Q (F0 m 27 ls []) := by
    intro n
    induction n with
    | zero =>
      intro i hi hok H locs ls hP hD hS hl
      refine lv_iload hx hb dX3_firstFault_27 (lv_at hl 4 rfl) ?_
      refine lv_aload_n hx hb dX3_firstFault_29 rfl (lv_at hl 0 rfl) ?_
      refine va_get (D := D) (ci := 3) (v := .int (nI z)) (C := RX3) (T := TX3) (N := 2) hx hb hts iT_X3 hown hK1 hP 0 rfl rfl 1 (by decide) (hts _ t_28) (fun _ h9 => h9) rfl dX3_firstFault_30 ?_
      refine lv_icmp_ge (tgt := 86) hx hb dX3_firstFault_33 (by decide) (fun c_3 => ?_) (fun c_3 => ?_)
      rotate_left
      · exact absurd (nI_le (a := z) (b := i) (by omega) (by omega)) c_3
      refine lv_aload_n hx hb dX3_firstFault_86 rfl (lv_at hl 0 rfl) ?_
      refine va_get (D := D) (ci := 3) (v := .int (nI z)) (C := RX3) (T := TX3) (N := 2) hx hb hts iT_X3 hown hK1 hP 0 rfl rfl 1 (by decide) (hts _ t_28) (fun _ h9 => h9) rfl dX3_firstFault_87 ?_
      exact hret _ _ _ _ _ _ (nI z) z dX3_firstFault_90 rfl hS (Nat.le_of_ble_eq_true rfl) (Nat.le_of_ble_eq_true rfl) ⟨rfl, FF_end hok (by omega)⟩ (hP.sub [0, 1] rfl) (hD.sub [0, 1] rfl rfl)
    | succ n ih_27 =>
      intro i hi hok H locs ls hP hD hS hl
      refine lv_iload hx hb dX3_firstFault_27 (lv_at hl 4 rfl) ?_
      refine lv_aload_n hx hb dX3_firstFault_29 rfl (lv_at hl 0 rfl) ?_
      refine va_get (D := D) (ci := 3) (v := .int (nI z)) (C := RX3) (T := TX3) (N := 2) hx hb hts iT_X3 hown hK1 hP 0 rfl rfl 1 (by decide) (hts _ t_28) (fun _ h9 => h9) rfl dX3_firstFault_30 ?_
      refine lv_icmp_ge (tgt := 86) hx hb dX3_firstFault_33 (by decide) (fun c_4 => ?_) (fun c_4 => ?_)
      · exact absurd c_4 (nI_ge (a := i) (b := z) (by omega) (by omega))
      refine lv_iload hx hb dX3_firstFault_36 (lv_at hl 4 rfl) ?_
      refine lv_iload_n hx hb dX3_firstFault_38 rfl (lv_at hl 2 rfl) ?_
      refine lv_icmp_ge (tgt := 51) hx hb dX3_firstFault_39 (by decide) (fun c_5 => ?_) (fun c_5 => ?_)
      rotate_left
      · exact absurd (nI_le (a := 0) (b := i) (by omega) (by omega)) c_5
      refine lv_aload_n hx hb dX3_firstFault_51 rfl (lv_at hl 0 rfl) ?_
      refine lv_iload hx hb dX3_firstFault_52 (lv_at hl 4 rfl) ?_
      refine lv_iload hx hb dX3_firstFault_54 (lv_at hl 4 rfl) ?_
      refine lv_iload_n hx hb dX3_firstFault_56 rfl (lv_at hl 2 rfl) ?_
      refine lv_isub hx hb dX3_firstFault_57 ?_
      refine lv_nmi (show _ = (nI i : Int32) from pk_sub (Nat.zero_le _)) ?_
      refine lv_iconst (v := 3) hx hb dX3_firstFault_58 (by decide) ?_
      refine lv_irem hx hb dX3_firstFault_59 (by decide) ?_
      refine lv_nmi (show _ = (nI (i % 3) : Int32) from pk_rem (d := 3) (by omega) (by decide) (by decide)) ?_
      refine lv_iload_n hx hb dX3_firstFault_60 rfl (lv_at hl 1 rfl) ?_
      refine xc_i (wc := [kX3 pg pc (nI z), kI cI pc 16 pf]) (wr := []) (xrV (n := 3) (As := [.int (nI i), .int (nI (i % 3)), .int 1]) (rest := []) (ci := 3) (q0 := 0) hd hK hP hD (g_fitsEdge_1 l D cI cJ cZ cR _ pg pc z pf i (i % 3) hz (by omega) (by omega) (by omega)) (gV t_219 mV_X3_fitsEdge) hV_X3_fitsEdge ⟨(Nat.le_of_ble_eq_true rfl), (Nat.le_of_ble_eq_true rfl)⟩ rfl rfl [0, 1] rfl rfl rfl hl.1 rfl (Nat.le_of_ble_eq_true rfl) dX3_firstFault_61 ⟨(Nat.le_of_ble_eq_true rfl), (Nat.le_of_ble_eq_true rfl)⟩) hP hD hS hA [0, 1] [] rfl rfl rfl (by decide) (fun r_6 u_7 H locs hw_8 hP hD hS => ?_)
      have hw_9 : r_6 = (fE1 pf i (i % 3)) := hw_8
      subst hw_9
      have hP : va_P D vwCl [kX3 pg pc (nI z), kI cI pc 16 pf] H := hP
      have hD : va_D A [kX3 pg pc (nI z), kI cI pc 16 pf] := hD
      refine lv_istore (lv' := [(5, .int (fE1 pf i (i % 3))), (0, .ref pg), (1, .int 1), (2, .int 0), (3, .int 15), (4, .int (nI i))]) hx hb dX3_firstFault_64 hl (by decide) rfl (fun ls hl => ?_)
      refine lv_iload hx hb dX3_firstFault_66 (lv_at hl 5 rfl) ?_
      refine lv_iload_n hx hb dX3_firstFault_68 rfl (lv_at hl 4 rfl) ?_
      refine lv_icmp_ge (tgt := 77) hx hb dX3_firstFault_69 (by decide) (fun c_10 => ?_) (fun c_10 => ?_)
      · skip
        refine lv_iload hx hb dX3_firstFault_77 (lv_at hl 5 rfl) ?_
        exact hret _ _ _ _ _ _ (nI i) i dX3_firstFault_79 rfl hS (Nat.le_of_ble_eq_true rfl) (Nat.le_of_ble_eq_true rfl) ⟨rfl, FF_bad hok (by omega) (ok1_most (by omega) c_10)⟩ (hP.sub [0, 1] rfl) (hD.sub [0, 1] rfl rfl)
      · skip
        refine lv_iload hx hb dX3_firstFault_72 (lv_at hl 0 rfl) ?_
        refine lv_if_ne (tgt := 80) hx hb dX3_firstFault_74 (by decide) (fun c_11 => ?_) (fun c_11 => ?_)
        · skip
          refine lv_iinc (v := nI (i + 1)) (lv' := [(4, .int (nI (i + 1))), (5, .int (fE1 pf i (i % 3))), (0, .ref pg), (1, .int 1), (2, .int 0), (3, .int 15)]) hx hb dX3_firstFault_80 hl (k := 5) rfl (nI_1 i) (by decide) rfl (fun ls hl => ?_)
          refine lv_goto (tgt := 27) hx hb dX3_firstFault_83 (by decide) ?_
          exact ih_27 (i + 1) (by omega) (FF_step hok ((ok1_e (by omega) c_10).mpr c_11)) _ _ _ (hP.sub [0, 1] rfl) (hD.sub [0, 1] rfl rfl) hS (lv_sub hl [2, 3, 4, 5, 0] rfl)
        · skip
          refine lv_iload hx hb dX3_firstFault_77 (lv_at hl 5 rfl) ?_
          exact hret _ _ _ _ _ _ (nI i) i dX3_firstFault_79 rfl hS (Nat.le_of_ble_eq_true rfl) (Nat.le_of_ble_eq_true rfl) ⟨rfl, FF_bad hok (by omega) (fun q => (ok1_e (by omega) c_10).mp q c_11)⟩ (hP.sub [0, 1] rfl) (hD.sub [0, 1] rfl rfl)
  exact LOOP_27 z 0 (by omega) (fun j hj => absurd hj (by omega)) _ _ _ (hP.sub [0, 1] rfl) (hD.sub [0, 1] rfl rfl) hS (lv_sub hl [3, 4, 2, 1, 0] rfl)
set_option maxHeartbeats 4000000 in
set_option maxRecDepth 100000 in
theorem g_isWhole_1 (sz : Nat) (pg : Nat) (pc : Nat) (z : Nat) (hz : z ≤ 16) : CTi l D cI cJ cZ cR yX3_isWhole cX3_isWhole 2 (some .boolean) 0 0 0 0 sz [.ref pg, .int 0] [kX3 pg pc (nI z)] (fun (r : Int32) (u : Unit) => (r = (iW 0 z))) (fun (u : Unit) => [kX3 pg pc (nI z)]) := by
  refine CTi.of (ty := .boolean) (by decide) (Nat.le_of_ble_eq_true rfl) rfl ?_
  intro p e s m below meth c A Q ls hd hin hK hsz hP hD hA hS hl hret
  obtain ⟨hx, hb, hml, hown, hts⟩ := id hd
  have hK1 := hK.1
  have hown : s.vm.findClass RX3 = some m.cls := hown
  have hl : lv_has ls 2 [(0, .ref pg), (1, .int 0)] := hl
  refine lv_aload_n hx hb dX3_isWhole_0 rfl (lv_at hl 0 rfl) ?_
  refine va_get (D := D) (ci := 3) (v := .int (nI z)) (C := RX3) (T := TX3) (N := 2) hx hb hts iT_X3 hown hK1 hP 0 rfl rfl 1 (by decide) (hts _ t_28) (fun _ h9 => h9) rfl dX3_isWhole_1 ?_
  refine lv_iload_n hx hb dX3_isWhole_4 rfl (lv_at hl 1 rfl) ?_
  refine lv_icmp_le (tgt := 23) hx hb dX3_isWhole_5 (by decide) (fun c_1 => ?_) (fun c_1 => ?_)
  · skip
    refine lv_iconst (v := 0) hx hb dX3_isWhole_23 (by decide) ?_
    exact hret _ _ _ _ _ _ 0 () dX3_isWhole_24 rfl hS (Nat.le_of_ble_eq_true rfl) (Nat.le_of_ble_eq_true rfl) (iW_a (h := 0) (by omega) (by omega) c_1) (hP.sub [0] rfl) (hD.sub [0] rfl rfl)
  · skip
    refine lv_aload_n hx hb dX3_isWhole_8 rfl (lv_at hl 0 rfl) ?_
    refine va_get (D := D) (ci := 3) (v := .int (nI z)) (C := RX3) (T := TX3) (N := 2) hx hb hts iT_X3 hown hK1 hP 0 rfl rfl 1 (by decide) (hts _ t_28) (fun _ h9 => h9) rfl dX3_isWhole_9 ?_
    refine lv_iload_n hx hb dX3_isWhole_12 rfl (lv_at hl 1 rfl) ?_
    refine lv_isub hx hb dX3_isWhole_13 ?_
    refine lv_nmi (show _ = (nI (z - 0) : Int32) from pk_sub (iW_le (h := 0) (by omega) (by omega) c_1)) ?_
    refine lv_iconst (v := 3) hx hb dX3_isWhole_14 (by decide) ?_
    refine lv_irem hx hb dX3_isWhole_15 (by decide) ?_
    refine lv_nmi (show _ = (nI ((z - 0) % 3) : Int32) from pk_rem (d := 3) (by omega) (by decide) (by decide)) ?_
    refine lv_if_ne (tgt := 23) hx hb dX3_isWhole_16 (by decide) (fun c_2 => ?_) (fun c_2 => ?_)
    · skip
      refine lv_iconst (v := 0) hx hb dX3_isWhole_23 (by decide) ?_
      exact hret _ _ _ _ _ _ 0 () dX3_isWhole_24 rfl hS (Nat.le_of_ble_eq_true rfl) (Nat.le_of_ble_eq_true rfl) (iW_b (h := 0) (by omega) (by omega) c_1 c_2) (hP.sub [0] rfl) (hD.sub [0] rfl rfl)
    · skip
      refine lv_iconst (v := 1) hx hb dX3_isWhole_19 (by decide) ?_
      refine lv_goto (tgt := 24) hx hb dX3_isWhole_20 (by decide) ?_
      exact hret _ _ _ _ _ _ 1 () dX3_isWhole_24 rfl hS (Nat.le_of_ble_eq_true rfl) (Nat.le_of_ble_eq_true rfl) (iW_c (h := 0) (by omega) (by omega) c_1 c_2) (hP.sub [0] rfl) (hD.sub [0] rfl rfl)
set_option maxHeartbeats 4000000 in
set_option maxRecDepth 100000 in
theorem c_X3_names (sz : Nat) (pg : Nat) (pc : Nat) (z : Nat) (pf : Nat → Int32) (d : Nat) (hz : z ≤ 16) : CTi l D cI cJ cZ cR yX3_names cX3_names 3 (some .boolean) 0 0 0 0 sz [.ref pg, .int (nI d)] [kX3 pg pc (nI z), kI cI pc 16 pf] (fun (r : Int32) (u : Unit) => (r = (nmB pf (nI (48 + d)) z))) (fun (u : Unit) => [kX3 pg pc (nI z), kI cI pc 16 pf]) := by
  refine CTi.of (ty := .boolean) (by decide) (Nat.le_of_ble_eq_true rfl) rfl ?_
  intro p e s m below meth c A Q ls hd hin hK hsz hP hD hA hS hl hret
  obtain ⟨hx, hb, hml, hown, hts⟩ := id hd
  have hK1 := hK.1
  have hown : s.vm.findClass RX3 = some m.cls := hown
  have hl : lv_has ls 3 [(0, .ref pg), (1, .int (nI d))] := hl
  refine lv_iconst (v := 0) hx hb dX3_names_0 (by decide) ?_
  refine lv_istore_n (lv' := [(2, .int 0), (0, .ref pg), (1, .int (nI d))]) hx hb dX3_names_1 rfl hl (by decide) rfl (fun ls hl => ?_)
  have LOOP_2 : ∀ (n : Nat) (i : Nat), (i + n = z) → (∀ j, j < i → ¬ pf j = nI (48 + d)) → ∀ (H : Heap) (locs : List Loc) (ls : Array Slot), va_P D vwCl [kX3 pg pc (nI z), kI cI pc 16 pf] H → va_D A [kX3 pg pc (nI z), kI cI pc 16 pf] → va_S A s.heap H locs → lv_has ls 3 [(0, .ref pg), (1, .int (nI d)), (2, .int (nI i))] → W p l e (rM 0 0 0 0) s m ([.ref pg, .int (nI d)] : List Value).toArray below meth c H locs 0 0 Q (F0 m 2 ls []) := by
    intro n
    induction n with
    | zero =>
      intro i hi hno H locs ls hP hD hS hl
      refine lv_iload_n hx hb dX3_names_2 rfl (lv_at hl 2 rfl) ?_
      refine lv_aload_n hx hb dX3_names_3 rfl (lv_at hl 0 rfl) ?_
      refine va_get (D := D) (ci := 3) (v := .int (nI z)) (C := RX3) (T := TX3) (N := 2) hx hb hts iT_X3 hown hK1 hP 0 rfl rfl 1 (by decide) (hts _ t_28) (fun _ h9 => h9) rfl dX3_names_4 ?_
      refine lv_icmp_ge (tgt := 31) hx hb dX3_names_7 (by decide) (fun c_1 => ?_) (fun c_1 => ?_)
      rotate_left
      · exact absurd (nI_le (a := z) (b := i) (by omega) (by omega)) c_1
      refine lv_iconst (v := 0) hx hb dX3_names_31 (by decide) ?_
      exact hret _ _ _ _ _ _ 0 () dX3_names_32 rfl hS (Nat.le_of_ble_eq_true rfl) (Nat.le_of_ble_eq_true rfl) (nmB_0 z (fun j hj => hno j (by omega))).symm (hP.sub [0, 1] rfl) (hD.sub [0, 1] rfl rfl)
    | succ n ih_2 =>
      intro i hi hno H locs ls hP hD hS hl
      refine lv_iload_n hx hb dX3_names_2 rfl (lv_at hl 2 rfl) ?_
      refine lv_aload_n hx hb dX3_names_3 rfl (lv_at hl 0 rfl) ?_
      refine va_get (D := D) (ci := 3) (v := .int (nI z)) (C := RX3) (T := TX3) (N := 2) hx hb hts iT_X3 hown hK1 hP 0 rfl rfl 1 (by decide) (hts _ t_28) (fun _ h9 => h9) rfl dX3_names_4 ?_
      refine lv_icmp_ge (tgt := 31) hx hb dX3_names_7 (by decide) (fun c_2 => ?_) (fun c_2 => ?_)
      · exact absurd c_2 (nI_ge (a := i) (b := z) (by omega) (by omega))
      refine lv_aload_n hx hb dX3_names_10 rfl (lv_at hl 0 rfl) ?_
      refine va_get (D := D) (ci := 3) (v := .ref pc) (C := RX3) (T := TX3) (N := 2) hx hb hts iT_X3 hown hK1 hP 0 rfl rfl 0 (by decide) (hts _ t_26) (fun _ h9 => h9) rfl dX3_names_11 ?_
      refine lv_iload_n hx hb dX3_names_14 rfl (lv_at hl 2 rfl) ?_
      refine va_iald hx hb hK1 hP 1 0 rfl rfl (vp_in_nI (by omega) (by omega)) dX3_names_15 ?_
      refine lv_nmi (show _ = pf i from by rw [nI_clamp (n := i) (by omega)]) ?_
      refine lv_bipush (v := 48) hx hb dX3_names_16 (by decide) ?_
      refine lv_iload_n hx hb dX3_names_18 rfl (lv_at hl 1 rfl) ?_
      refine lv_iadd hx hb dX3_names_19 ?_
      refine lv_nmi (show _ = (nI (48 + d)) from nI_add (48) (d)) ?_
      refine lv_icmp_ne (tgt := 25) hx hb dX3_names_20 (by decide) (fun c_3 => ?_) (fun c_3 => ?_)
      · skip
        refine lv_iinc (v := nI (i + 1)) (lv' := [(2, .int (nI (i + 1))), (0, .ref pg), (1, .int (nI d))]) hx hb dX3_names_25 hl (k := 2) rfl (nI_1 i) (by decide) rfl (fun ls hl => ?_)
        refine lv_goto (tgt := 2) hx hb dX3_names_28 (by decide) ?_
        exact ih_2 (i + 1) (by omega) (FF_step hno c_3) _ _ _ (hP.sub [0, 1] rfl) (hD.sub [0, 1] rfl rfl) hS (lv_sub hl [1, 2, 0] rfl)
      · skip
        refine lv_iconst (v := 1) hx hb dX3_names_23 (by decide) ?_
        exact hret _ _ _ _ _ _ 1 () dX3_names_24 rfl hS (Nat.le_of_ble_eq_true rfl) (Nat.le_of_ble_eq_true rfl) (nmB_1 c_3 z (by omega)).symm (hP.sub [0, 1] rfl) (hD.sub [0, 1] rfl rfl)
  exact LOOP_2 z 0 (by omega) (fun j hj => absurd hj (by omega)) _ _ _ (hP.sub [0, 1] rfl) (hD.sub [0, 1] rfl rfl) hS (lv_sub hl [1, 2, 0] rfl)
end
