theorem mV_X7_layLights : Cond.instanceMethod yX7_layLights ∈ gT ∧ Cond.selects RX7 yX7_layLights yX7_layLights ∈ gT ∧ Cond.initialized RX7 ∈ gT ∧ Cond.code yX7_layLights cX7_layLights 3 none ∈ gT := ⟨t_820, ts_55, t_8, t_821⟩
theorem hV_X7_layLights : yX7_layLights.cls = RX7 ∧ yX7_layLights.cls ≠ "java/lang/invoke/MethodHandle" ∧ yX7_layLights.cls ≠ "java/lang/invoke/VarHandle" ∧ (parseMethodDescriptor yX7_layLights.desc).map (fun d => d.parameters.length) = some 0 := by decide +kernel
theorem mV_X7_kindsNow : Cond.instanceMethod yX7_kindsNow ∈ gT ∧ Cond.selects RX7 yX7_kindsNow yX7_kindsNow ∈ gT ∧ Cond.initialized RX7 ∈ gT ∧ Cond.code yX7_kindsNow cX7_kindsNow 4 (some .int) ∈ gT := ⟨t_816, ts_54, t_8, t_817⟩
theorem hV_X7_kindsNow : yX7_kindsNow.cls = RX7 ∧ yX7_kindsNow.cls ≠ "java/lang/invoke/MethodHandle" ∧ yX7_kindsNow.cls ≠ "java/lang/invoke/VarHandle" ∧ (parseMethodDescriptor yX7_kindsNow.desc).map (fun d => d.parameters.length) = some 1 := by decide +kernel
theorem mV_X7_kinds : Cond.instanceMethod yX7_kinds ∈ gT ∧ Cond.selects RX7 yX7_kinds yX7_kinds ∈ gT ∧ Cond.initialized RX7 ∈ gT ∧ Cond.code yX7_kinds cX7_kinds 2 (some .int) ∈ gT := ⟨t_811, t_812, t_8, t_813⟩
theorem hV_X7_kinds : yX7_kinds.cls = RX7 ∧ yX7_kinds.cls ≠ "java/lang/invoke/MethodHandle" ∧ yX7_kinds.cls ≠ "java/lang/invoke/VarHandle" ∧ (parseMethodDescriptor yX7_kinds.desc).map (fun d => d.parameters.length) = some 1 := by decide +kernel
theorem mV_X7_lightNow : Cond.instanceMethod yX7_lightNow ∈ gT ∧ Cond.selects RX7 yX7_lightNow yX7_lightNow ∈ gT ∧ Cond.initialized RX7 ∈ gT ∧ Cond.code yX7_lightNow cX7_lightNow 5 (some .int) ∈ gT := ⟨t_848, ts_60, t_8, t_849⟩
theorem hV_X7_lightNow : yX7_lightNow.cls = RX7 ∧ yX7_lightNow.cls ≠ "java/lang/invoke/MethodHandle" ∧ yX7_lightNow.cls ≠ "java/lang/invoke/VarHandle" ∧ (parseMethodDescriptor yX7_lightNow.desc).map (fun d => d.parameters.length) = some 3 := by decide +kernel
theorem mV_X7_light : Cond.instanceMethod yX7_light ∈ gT ∧ Cond.selects RX7 yX7_light yX7_light ∈ gT ∧ Cond.initialized RX7 ∈ gT ∧ Cond.code yX7_light cX7_light 4 (some .int) ∈ gT := ⟨t_843, t_844, t_8, t_845⟩
theorem hV_X7_light : yX7_light.cls = RX7 ∧ yX7_light.cls ≠ "java/lang/invoke/MethodHandle" ∧ yX7_light.cls ≠ "java/lang/invoke/VarHandle" ∧ (parseMethodDescriptor yX7_light.desc).map (fun d => d.parameters.length) = some 3 := by decide +kernel
theorem dX7_kinds_0 : decode cX7_kinds 0 = .ok (.iload_n 1, 1) := by decide +kernel
theorem dX7_kinds_1 : decode cX7_kinds 1 = .ok (.iconst 0, 1) := by decide +kernel
theorem dX7_kinds_2 : decode cX7_kinds 2 = .ok (.iconst 2, 1) := by decide +kernel
theorem dX7_kinds_3 : decode cX7_kinds 3 = .ok (.invokestatic 50, 3) := by decide +kernel
theorem dX7_kinds_6 : decode cX7_kinds 6 = .ok (.ifCond .eq 11, 3) := by decide +kernel
theorem dX7_kinds_9 : decode cX7_kinds 9 = .ok (.aload_n 0, 1) := by decide +kernel
theorem dX7_kinds_10 : decode cX7_kinds 10 = .ok (.iload_n 1, 1) := by decide +kernel
theorem dX7_kinds_11 : decode cX7_kinds 11 = .ok (.invokevirtual 231, 3) := by decide +kernel
theorem dX7_kinds_14 : decode cX7_kinds 14 = .ok (.goto 6, 3) := by decide +kernel
theorem dX7_kinds_17 : decode cX7_kinds 17 = .ok (.sipush (-1001), 3) := by decide +kernel
theorem dX7_kinds_20 : decode cX7_kinds 20 = .ok (.ireturn, 1) := by decide +kernel
theorem dX7_kindsNow_0 : decode cX7_kindsNow 0 = .ok (.aload_n 0, 1) := by decide +kernel
theorem dX7_kindsNow_1 : decode cX7_kindsNow 1 = .ok (.invokevirtual 228, 3) := by decide +kernel
theorem dX7_kindsNow_4 : decode cX7_kindsNow 4 = .ok (.iconst 0, 1) := by decide +kernel
theorem dX7_kindsNow_5 : decode cX7_kindsNow 5 = .ok (.istore_n 2, 1) := by decide +kernel
theorem dX7_kindsNow_6 : decode cX7_kindsNow 6 = .ok (.iconst 0, 1) := by decide +kernel
theorem dX7_kindsNow_7 : decode cX7_kindsNow 7 = .ok (.istore_n 3, 1) := by decide +kernel
theorem dX7_kindsNow_8 : decode cX7_kindsNow 8 = .ok (.iload_n 3, 1) := by decide +kernel
theorem dX7_kindsNow_9 : decode cX7_kindsNow 9 = .ok (.bipush 16, 2) := by decide +kernel
theorem dX7_kindsNow_11 : decode cX7_kindsNow 11 = .ok (.if_icmp .ge 37, 3) := by decide +kernel
theorem dX7_kindsNow_14 : decode cX7_kindsNow 14 = .ok (.iload_n 2, 1) := by decide +kernel
theorem dX7_kindsNow_15 : decode cX7_kindsNow 15 = .ok (.aload_n 0, 1) := by decide +kernel
theorem dX7_kindsNow_16 : decode cX7_kindsNow 16 = .ok (.getfield 40, 3) := by decide +kernel
theorem dX7_kindsNow_19 : decode cX7_kindsNow 19 = .ok (.bipush 16, 2) := by decide +kernel
theorem dX7_kindsNow_21 : decode cX7_kindsNow 21 = .ok (.iload_n 1, 1) := by decide +kernel
theorem dX7_kindsNow_22 : decode cX7_kindsNow 22 = .ok (.imul, 1) := by decide +kernel
theorem dX7_kindsNow_23 : decode cX7_kindsNow 23 = .ok (.iload_n 3, 1) := by decide +kernel
theorem dX7_kindsNow_24 : decode cX7_kindsNow 24 = .ok (.iadd, 1) := by decide +kernel
theorem dX7_kindsNow_25 : decode cX7_kindsNow 25 = .ok (.laload, 1) := by decide +kernel
theorem dX7_kindsNow_26 : decode cX7_kindsNow 26 = .ok (.ldc2_w 210, 3) := by decide +kernel
theorem dX7_kindsNow_29 : decode cX7_kindsNow 29 = .ok (.lcmp, 1) := by decide +kernel
theorem dX7_kindsNow_30 : decode cX7_kindsNow 30 = .ok (.ifCond .ge 9, 3) := by decide +kernel
theorem dX7_kindsNow_33 : decode cX7_kindsNow 33 = .ok (.iconst 1, 1) := by decide +kernel
theorem dX7_kindsNow_34 : decode cX7_kindsNow 34 = .ok (.iload_n 3, 1) := by decide +kernel
theorem dX7_kindsNow_35 : decode cX7_kindsNow 35 = .ok (.ishl, 1) := by decide +kernel
theorem dX7_kindsNow_36 : decode cX7_kindsNow 36 = .ok (.goto 4, 3) := by decide +kernel
theorem dX7_kindsNow_39 : decode cX7_kindsNow 39 = .ok (.iconst 0, 1) := by decide +kernel
theorem dX7_kindsNow_40 : decode cX7_kindsNow 40 = .ok (.ior, 1) := by decide +kernel
theorem dX7_kindsNow_41 : decode cX7_kindsNow 41 = .ok (.istore_n 2, 1) := by decide +kernel
theorem dX7_kindsNow_42 : decode cX7_kindsNow 42 = .ok (.iinc 3 1, 3) := by decide +kernel
theorem dX7_kindsNow_45 : decode cX7_kindsNow 45 = .ok (.goto (-37), 3) := by decide +kernel
theorem dX7_kindsNow_48 : decode cX7_kindsNow 48 = .ok (.iload_n 2, 1) := by decide +kernel
theorem dX7_kindsNow_49 : decode cX7_kindsNow 49 = .ok (.ireturn, 1) := by decide +kernel
theorem dX7_layLights_0 : decode cX7_layLights 0 = .ok (.aload_n 0, 1) := by decide +kernel
theorem dX7_layLights_1 : decode cX7_layLights 1 = .ok (.getfield 163, 3) := by decide +kernel
theorem dX7_layLights_4 : decode cX7_layLights 4 = .ok (.ifCond .eq 4, 3) := by decide +kernel
theorem dX7_layLights_7 : decode cX7_layLights 7 = .ok (.return_, 1) := by decide +kernel
theorem dX7_layLights_8 : decode cX7_layLights 8 = .ok (.aload_n 0, 1) := by decide +kernel
theorem dX7_layLights_9 : decode cX7_layLights 9 = .ok (.iconst 1, 1) := by decide +kernel
theorem dX7_layLights_10 : decode cX7_layLights 10 = .ok (.putfield 163, 3) := by decide +kernel
theorem dX7_layLights_13 : decode cX7_layLights 13 = .ok (.iconst 0, 1) := by decide +kernel
theorem dX7_layLights_14 : decode cX7_layLights 14 = .ok (.istore_n 1, 1) := by decide +kernel
theorem dX7_layLights_15 : decode cX7_layLights 15 = .ok (.iload_n 1, 1) := by decide +kernel
theorem dX7_layLights_16 : decode cX7_layLights 16 = .ok (.bipush 80, 2) := by decide +kernel
theorem dX7_layLights_18 : decode cX7_layLights 18 = .ok (.if_icmp .ge 42, 3) := by decide +kernel
theorem dX7_layLights_21 : decode cX7_layLights 21 = .ok (.aload_n 0, 1) := by decide +kernel
theorem dX7_layLights_22 : decode cX7_layLights 22 = .ok (.getfield 40, 3) := by decide +kernel
theorem dX7_layLights_25 : decode cX7_layLights 25 = .ok (.iload_n 1, 1) := by decide +kernel
theorem dX7_layLights_26 : decode cX7_layLights 26 = .ok (.iload_n 1, 1) := by decide +kernel
theorem dX7_layLights_27 : decode cX7_layLights 27 = .ok (.bipush 48, 2) := by decide +kernel
theorem dX7_layLights_29 : decode cX7_layLights 29 = .ok (.if_icmp .lt 21, 3) := by decide +kernel
theorem dX7_layLights_32 : decode cX7_layLights 32 = .ok (.iload_n 1, 1) := by decide +kernel
theorem dX7_layLights_33 : decode cX7_layLights 33 = .ok (.bipush 16, 2) := by decide +kernel
theorem dX7_layLights_35 : decode cX7_layLights 35 = .ok (.irem, 1) := by decide +kernel
theorem dX7_layLights_36 : decode cX7_layLights 36 = .ok (.iload_n 1, 1) := by decide +kernel
theorem dX7_layLights_37 : decode cX7_layLights 37 = .ok (.bipush 16, 2) := by decide +kernel
theorem dX7_layLights_39 : decode cX7_layLights 39 = .ok (.idiv, 1) := by decide +kernel
theorem dX7_layLights_40 : decode cX7_layLights 40 = .ok (.invokestatic 222, 3) := by decide +kernel
theorem dX7_layLights_43 : decode cX7_layLights 43 = .ok (.if_icmp .ne 7, 3) := by decide +kernel
theorem dX7_layLights_46 : decode cX7_layLights 46 = .ok (.lconst 0, 1) := by decide +kernel
theorem dX7_layLights_47 : decode cX7_layLights 47 = .ok (.goto 6, 3) := by decide +kernel
theorem dX7_layLights_50 : decode cX7_layLights 50 = .ok (.ldc2_w 210, 3) := by decide +kernel
theorem dX7_layLights_53 : decode cX7_layLights 53 = .ok (.lastore, 1) := by decide +kernel
theorem dX7_layLights_54 : decode cX7_layLights 54 = .ok (.iinc 1 1, 3) := by decide +kernel
theorem dX7_layLights_57 : decode cX7_layLights 57 = .ok (.goto (-42), 3) := by decide +kernel
theorem dX7_layLights_60 : decode cX7_layLights 60 = .ok (.iconst 1, 1) := by decide +kernel
theorem dX7_layLights_61 : decode cX7_layLights 61 = .ok (.istore_n 1, 1) := by decide +kernel
theorem dX7_layLights_62 : decode cX7_layLights 62 = .ok (.iload_n 1, 1) := by decide +kernel
theorem dX7_layLights_63 : decode cX7_layLights 63 = .ok (.ifCond .eq 43, 3) := by decide +kernel
theorem dX7_layLights_66 : decode cX7_layLights 66 = .ok (.iconst 0, 1) := by decide +kernel
theorem dX7_layLights_67 : decode cX7_layLights 67 = .ok (.istore_n 1, 1) := by decide +kernel
theorem dX7_layLights_68 : decode cX7_layLights 68 = .ok (.iconst 0, 1) := by decide +kernel
theorem dX7_layLights_69 : decode cX7_layLights 69 = .ok (.istore_n 2, 1) := by decide +kernel
theorem dX7_layLights_70 : decode cX7_layLights 70 = .ok (.iload_n 2, 1) := by decide +kernel
theorem dX7_layLights_71 : decode cX7_layLights 71 = .ok (.aload_n 0, 1) := by decide +kernel
theorem dX7_layLights_72 : decode cX7_layLights 72 = .ok (.getfield 94, 3) := by decide +kernel
theorem dX7_layLights_75 : decode cX7_layLights 75 = .ok (.if_icmp .ge 28, 3) := by decide +kernel
theorem dX7_layLights_78 : decode cX7_layLights 78 = .ok (.aload_n 0, 1) := by decide +kernel
theorem dX7_layLights_79 : decode cX7_layLights 79 = .ok (.iload_n 2, 1) := by decide +kernel
theorem dX7_layLights_80 : decode cX7_layLights 80 = .ok (.iconst 0, 1) := by decide +kernel
theorem dX7_layLights_81 : decode cX7_layLights 81 = .ok (.invokevirtual 225, 3) := by decide +kernel
theorem dX7_layLights_84 : decode cX7_layLights 84 = .ok (.ifCond .ne 7, 3) := by decide +kernel
theorem dX7_layLights_87 : decode cX7_layLights 87 = .ok (.iload_n 1, 1) := by decide +kernel
theorem dX7_layLights_88 : decode cX7_layLights 88 = .ok (.ifCond .eq 7, 3) := by decide +kernel
theorem dX7_layLights_91 : decode cX7_layLights 91 = .ok (.iconst 1, 1) := by decide +kernel
theorem dX7_layLights_92 : decode cX7_layLights 92 = .ok (.goto 4, 3) := by decide +kernel
theorem dX7_layLights_95 : decode cX7_layLights 95 = .ok (.iconst 0, 1) := by decide +kernel
theorem dX7_layLights_96 : decode cX7_layLights 96 = .ok (.istore_n 1, 1) := by decide +kernel
theorem dX7_layLights_97 : decode cX7_layLights 97 = .ok (.iinc 2 1, 3) := by decide +kernel
theorem dX7_layLights_100 : decode cX7_layLights 100 = .ok (.goto (-30), 3) := by decide +kernel
theorem dX7_layLights_103 : decode cX7_layLights 103 = .ok (.goto (-41), 3) := by decide +kernel
theorem dX7_layLights_106 : decode cX7_layLights 106 = .ok (.iconst 0, 1) := by decide +kernel
theorem dX7_layLights_107 : decode cX7_layLights 107 = .ok (.istore_n 2, 1) := by decide +kernel
theorem dX7_layLights_108 : decode cX7_layLights 108 = .ok (.iload_n 2, 1) := by decide +kernel
theorem dX7_layLights_109 : decode cX7_layLights 109 = .ok (.bipush 48, 2) := by decide +kernel
theorem dX7_layLights_111 : decode cX7_layLights 111 = .ok (.if_icmp .ge 16, 3) := by decide +kernel
theorem dX7_layLights_114 : decode cX7_layLights 114 = .ok (.aload_n 0, 1) := by decide +kernel
theorem dX7_layLights_115 : decode cX7_layLights 115 = .ok (.getfield 44, 3) := by decide +kernel
theorem dX7_layLights_118 : decode cX7_layLights 118 = .ok (.iload_n 2, 1) := by decide +kernel
theorem dX7_layLights_119 : decode cX7_layLights 119 = .ok (.iconst (-1), 1) := by decide +kernel
theorem dX7_layLights_120 : decode cX7_layLights 120 = .ok (.iastore, 1) := by decide +kernel
theorem dX7_layLights_121 : decode cX7_layLights 121 = .ok (.iinc 2 1, 3) := by decide +kernel
theorem dX7_layLights_124 : decode cX7_layLights 124 = .ok (.goto (-16), 3) := by decide +kernel
theorem dX7_layLights_127 : decode cX7_layLights 127 = .ok (.iconst 0, 1) := by decide +kernel
theorem dX7_layLights_128 : decode cX7_layLights 128 = .ok (.istore_n 2, 1) := by decide +kernel
theorem dX7_layLights_129 : decode cX7_layLights 129 = .ok (.iload_n 2, 1) := by decide +kernel
theorem dX7_layLights_130 : decode cX7_layLights 130 = .ok (.aload_n 0, 1) := by decide +kernel
theorem dX7_layLights_131 : decode cX7_layLights 131 = .ok (.getfield 94, 3) := by decide +kernel
theorem dX7_layLights_134 : decode cX7_layLights 134 = .ok (.if_icmp .ge 16, 3) := by decide +kernel
theorem dX7_layLights_137 : decode cX7_layLights 137 = .ok (.aload_n 0, 1) := by decide +kernel
theorem dX7_layLights_138 : decode cX7_layLights 138 = .ok (.iload_n 2, 1) := by decide +kernel
theorem dX7_layLights_139 : decode cX7_layLights 139 = .ok (.iconst 1, 1) := by decide +kernel
theorem dX7_layLights_140 : decode cX7_layLights 140 = .ok (.invokevirtual 225, 3) := by decide +kernel
theorem dX7_layLights_143 : decode cX7_layLights 143 = .ok (.pop, 1) := by decide +kernel
theorem dX7_layLights_144 : decode cX7_layLights 144 = .ok (.iinc 2 1, 3) := by decide +kernel
theorem dX7_layLights_147 : decode cX7_layLights 147 = .ok (.goto (-18), 3) := by decide +kernel
theorem dX7_layLights_150 : decode cX7_layLights 150 = .ok (.return_, 1) := by decide +kernel
theorem dX7_light_0 : decode cX7_light 0 = .ok (.iload_n 1, 1) := by decide +kernel
theorem dX7_light_1 : decode cX7_light 1 = .ok (.iconst 0, 1) := by decide +kernel
theorem dX7_light_2 : decode cX7_light 2 = .ok (.iconst 2, 1) := by decide +kernel
theorem dX7_light_3 : decode cX7_light 3 = .ok (.invokestatic 50, 3) := by decide +kernel
theorem dX7_light_6 : decode cX7_light 6 = .ok (.ifCond .ne 7, 3) := by decide +kernel
theorem dX7_light_9 : decode cX7_light 9 = .ok (.sipush (-1001), 3) := by decide +kernel
theorem dX7_light_12 : decode cX7_light 12 = .ok (.ireturn, 1) := by decide +kernel
theorem dX7_light_13 : decode cX7_light 13 = .ok (.iload_n 2, 1) := by decide +kernel
theorem dX7_light_14 : decode cX7_light 14 = .ok (.iconst 0, 1) := by decide +kernel
theorem dX7_light_15 : decode cX7_light 15 = .ok (.bipush 15, 2) := by decide +kernel
theorem dX7_light_17 : decode cX7_light 17 = .ok (.invokestatic 50, 3) := by decide +kernel
theorem dX7_light_20 : decode cX7_light 20 = .ok (.ifCond .eq 22, 3) := by decide +kernel
theorem dX7_light_23 : decode cX7_light 23 = .ok (.iload_n 3, 1) := by decide +kernel
theorem dX7_light_24 : decode cX7_light 24 = .ok (.iconst 0, 1) := by decide +kernel
theorem dX7_light_25 : decode cX7_light 25 = .ok (.iconst 1, 1) := by decide +kernel
theorem dX7_light_26 : decode cX7_light 26 = .ok (.invokestatic 50, 3) := by decide +kernel
theorem dX7_light_29 : decode cX7_light 29 = .ok (.ifCond .eq 13, 3) := by decide +kernel
theorem dX7_light_32 : decode cX7_light 32 = .ok (.aload_n 0, 1) := by decide +kernel
theorem dX7_light_33 : decode cX7_light 33 = .ok (.iload_n 1, 1) := by decide +kernel
theorem dX7_light_34 : decode cX7_light 34 = .ok (.iload_n 2, 1) := by decide +kernel
theorem dX7_light_35 : decode cX7_light 35 = .ok (.iload_n 3, 1) := by decide +kernel
theorem dX7_light_36 : decode cX7_light 36 = .ok (.invokevirtual 234, 3) := by decide +kernel
theorem dX7_light_39 : decode cX7_light 39 = .ok (.goto 6, 3) := by decide +kernel
theorem dX7_light_42 : decode cX7_light 42 = .ok (.sipush (-1002), 3) := by decide +kernel
theorem dX7_light_45 : decode cX7_light 45 = .ok (.ireturn, 1) := by decide +kernel
theorem dX7_lightNow_0 : decode cX7_lightNow 0 = .ok (.aload_n 0, 1) := by decide +kernel
theorem dX7_lightNow_1 : decode cX7_lightNow 1 = .ok (.invokevirtual 228, 3) := by decide +kernel
theorem dX7_lightNow_4 : decode cX7_lightNow 4 = .ok (.bipush 16, 2) := by decide +kernel
theorem dX7_lightNow_6 : decode cX7_lightNow 6 = .ok (.iload_n 1, 1) := by decide +kernel
theorem dX7_lightNow_7 : decode cX7_lightNow 7 = .ok (.imul, 1) := by decide +kernel
theorem dX7_lightNow_8 : decode cX7_lightNow 8 = .ok (.iload_n 2, 1) := by decide +kernel
theorem dX7_lightNow_9 : decode cX7_lightNow 9 = .ok (.iadd, 1) := by decide +kernel
theorem dX7_lightNow_10 : decode cX7_lightNow 10 = .ok (.istore 4, 2) := by decide +kernel
theorem dX7_lightNow_12 : decode cX7_lightNow 12 = .ok (.iload_n 3, 1) := by decide +kernel
theorem dX7_lightNow_13 : decode cX7_lightNow 13 = .ok (.iconst 1, 1) := by decide +kernel
theorem dX7_lightNow_14 : decode cX7_lightNow 14 = .ok (.if_icmp .ne 13, 3) := by decide +kernel
theorem dX7_lightNow_17 : decode cX7_lightNow 17 = .ok (.aload_n 0, 1) := by decide +kernel
theorem dX7_lightNow_18 : decode cX7_lightNow 18 = .ok (.getfield 44, 3) := by decide +kernel
theorem dX7_lightNow_21 : decode cX7_lightNow 21 = .ok (.iload 4, 2) := by decide +kernel
theorem dX7_lightNow_23 : decode cX7_lightNow 23 = .ok (.iaload, 1) := by decide +kernel
theorem dX7_lightNow_24 : decode cX7_lightNow 24 = .ok (.goto 29, 3) := by decide +kernel
theorem dX7_lightNow_27 : decode cX7_lightNow 27 = .ok (.aload_n 0, 1) := by decide +kernel
theorem dX7_lightNow_28 : decode cX7_lightNow 28 = .ok (.getfield 40, 3) := by decide +kernel
theorem dX7_lightNow_31 : decode cX7_lightNow 31 = .ok (.iload 4, 2) := by decide +kernel
theorem dX7_lightNow_33 : decode cX7_lightNow 33 = .ok (.laload, 1) := by decide +kernel
theorem dX7_lightNow_34 : decode cX7_lightNow 34 = .ok (.ldc2_w 210, 3) := by decide +kernel
theorem dX7_lightNow_37 : decode cX7_lightNow 37 = .ok (.lcmp, 1) := by decide +kernel
theorem dX7_lightNow_38 : decode cX7_lightNow 38 = .ok (.ifCond .ge 14, 3) := by decide +kernel
theorem dX7_lightNow_41 : decode cX7_lightNow 41 = .ok (.aload_n 0, 1) := by decide +kernel
theorem dX7_lightNow_42 : decode cX7_lightNow 42 = .ok (.getfield 40, 3) := by decide +kernel
theorem dX7_lightNow_45 : decode cX7_lightNow 45 = .ok (.iload 4, 2) := by decide +kernel
theorem dX7_lightNow_47 : decode cX7_lightNow 47 = .ok (.laload, 1) := by decide +kernel
theorem dX7_lightNow_48 : decode cX7_lightNow 48 = .ok (.l2i, 1) := by decide +kernel
theorem dX7_lightNow_49 : decode cX7_lightNow 49 = .ok (.goto 4, 3) := by decide +kernel
theorem dX7_lightNow_52 : decode cX7_lightNow 52 = .ok (.iconst (-1), 1) := by decide +kernel
theorem dX7_lightNow_53 : decode cX7_lightNow 53 = .ok (.ireturn, 1) := by decide +kernel
section
variable (l : Launch) (D : va_G) (cI cJ cZ cR : ClassId)
set_option maxHeartbeats 4000000 in
set_option maxRecDepth 100000 in
theorem c_X7_layLights (sz : Nat) (m0 : Nat) (m1 : Nat) (m2 : Nat) (m3 : Nat) (m4 : Nat) (m5 : Nat) (m6 : Nat) (m7 : Nat) (m8 : Nat) (m9 : Nat) (m10 : Nat) (m11 : Nat) (m12 : Nat) (m13 : Nat) (z : Nat) (r9 : Nat) (n9 : Nat) (v : Nat) (k1 : Int32) (k2 : Int32) (k3 : Int32) (k4 : Int32) (k5 : Int32) (k6 : Int32) (k7 : Int32) (k8 : Int32) (k9 : Int32) (hv : Int64) (re : Nat → Int32) (rg : Nat → Int32) (cn : Nat → Int32) (ro : Nat → Int32) (rn : Nat → Int32) (fa : Nat → Int32) (la : Nat → Int64) (hr9 : r9 ≤ 9) (hmr : MRI ro re rn rg r9) (hLR : LR la) : CTv l D cI cJ cZ cR yX7_layLights cX7_layLights 3 none 4 101 0 0 sz [.ref m0] [kX7 m0 (nI z) m1 (nI r9) m2 m3 m4 m5 (nI n9) (nI v) m6 k1 k2 k3 k4 m7 k5 k6 k7 k8 m8 m9 m10 k9 m11 m12 m13 hv, kI cI m3 9 re, kI cI m5 27 rg, kI cI m13 3 cn, kI cI m2 9 ro, kI cI m4 9 rn, kJ cJ m11 80 la, kI cI m12 48 fa] (fun (u : Int32 × (Nat → Int64) × (Nat → Int32) × (Nat → Int32)) => (LR u.2.1)) (fun (u : Int32 × (Nat → Int64) × (Nat → Int32) × (Nat → Int32)) => [kX7 m0 (nI z) m1 (nI r9) m2 m3 m4 m5 (nI n9) (nI v) m6 k1 k2 k3 k4 m7 k5 k6 k7 k8 m8 m9 m10 u.1 m11 m12 m13 hv, kI cI m3 9 re, kI cI m5 27 rg, kI cI m13 3 u.2.2.2, kI cI m2 9 ro, kI cI m4 9 rn, kJ cJ m11 80 u.2.1, kI cI m12 48 u.2.2.1]) := by
  refine CTv.of (by decide) (Nat.le_of_ble_eq_true rfl) rfl ?_
  intro p e s m below meth c A Q ls hd hin hK hsz hP hD hA hS hl hret
  obtain ⟨hx, hb, hml, hown, hts⟩ := id hd
  have hK1 := hK.1
  have hown : s.vm.findClass RX7 = some m.cls := hown
  have hl : lv_has ls 3 [(0, .ref m0)] := hl
  refine lv_aload_n hx hb dX7_layLights_0 rfl (lv_at hl 0 rfl) ?_
  refine va_get (D := D) (ci := 7) (v := .int k9) (C := RX7) (T := TX7) (N := 27) hx hb hts iT_X7 hown hK1 hP 0 rfl rfl 22 (by decide) (hts _ t_573) (fun _ h9 => h9) rfl dX7_layLights_1 ?_
  refine lv_if_eq (tgt := 8) hx hb dX7_layLights_4 (by decide) (fun c_1 => ?_) (fun c_1 => ?_)
  · skip
    refine lv_aload_n hx hb dX7_layLights_8 rfl (lv_at hl 0 rfl) ?_
    refine lv_iconst (v := 1) hx hb dX7_layLights_9 (by decide) ?_
    refine va_put (D := D) (ci := 7) (v := .int 1) (ty := .boolean) (C := RX7) (T := TX7) (N := 27) hx hb hts iT_X7 tyX7 tyX7_ok nmX7 hown hK1 hP hD hS 0 rfl rfl 22 (by decide) (hts _ t_573) (fun _ h9 => h9) rfl (by decide +kernel) rfl rfl (Nat.le_of_ble_eq_true rfl) dX7_layLights_10 (fun H locs hP hD hS => ?_)
    have hP : va_P D vwCl [kX7 m0 (nI z) m1 (nI r9) m2 m3 m4 m5 (nI n9) (nI v) m6 k1 k2 k3 k4 m7 k5 k6 k7 k8 m8 m9 m10 1 m11 m12 m13 hv, kI cI m3 9 re, kI cI m5 27 rg, kI cI m13 3 cn, kI cI m2 9 ro, kI cI m4 9 rn, kJ cJ m11 80 la, kI cI m12 48 fa] H := hP
    have hD : va_D A [kX7 m0 (nI z) m1 (nI r9) m2 m3 m4 m5 (nI n9) (nI v) m6 k1 k2 k3 k4 m7 k5 k6 k7 k8 m8 m9 m10 1 m11 m12 m13 hv, kI cI m3 9 re, kI cI m5 27 rg, kI cI m13 3 cn, kI cI m2 9 ro, kI cI m4 9 rn, kJ cJ m11 80 la, kI cI m12 48 fa] := hD
    refine lv_iconst (v := 0) hx hb dX7_layLights_13 (by decide) ?_
    refine lv_istore_n (lv' := [(1, .int 0), (0, .ref m0)]) hx hb dX7_layLights_14 rfl hl (by decide) rfl (fun ls hl => ?_)
    have LOOP_15 : ∀ (n : Nat) (i : Nat) (gg : Nat → Int64), (i + n = 80) → (LRn gg i) → ∀ (H : Heap) (locs : List Loc) (ls : Array Slot), va_P D vwCl [kX7 m0 (nI z) m1 (nI r9) m2 m3 m4 m5 (nI n9) (nI v) m6 k1 k2 k3 k4 m7 k5 k6 k7 k8 m8 m9 m10 1 m11 m12 m13 hv, kI cI m3 9 re, kI cI m5 27 rg, kI cI m13 3 cn, kI cI m2 9 ro, kI cI m4 9 rn, kJ cJ m11 80 gg, kI cI m12 48 fa] H → va_D A [kX7 m0 (nI z) m1 (nI r9) m2 m3 m4 m5 (nI n9) (nI v) m6 k1 k2 k3 k4 m7 k5 k6 k7 k8 m8 m9 m10 1 m11 m12 m13 hv, kI cI m3 9 re, kI cI m5 27 rg, kI cI m13 3 cn, kI cI m2 9 ro, kI cI m4 9 rn, kJ cJ m11 80 gg, kI cI m12 48 fa] → va_S A s.heap H locs → lv_has ls 3 [(0, .ref m0), (1, .int (nI i))] → W p l e (rM 4 0 0 101) s m ([.ref m0] : List Value).toArray below meth c H locs 0 0 Q (F0 m 15 ls []) := by
      intro n
      induction n with
      | zero =>
        intro i gg hi hg1 H locs ls hP hD hS hl
        have hLg : LR gg := fun k hk => hg1 k (by omega)
        refine lv_iload_n hx hb dX7_layLights_15 rfl (lv_at hl 1 rfl) ?_
        refine lv_bipush (v := 80) hx hb dX7_layLights_16 (by decide) ?_
        refine lv_icmp_ge (tgt := 60) hx hb dX7_layLights_18 (by decide) (fun c_2 => ?_) (fun c_2 => ?_)
        rotate_left
        · exact absurd (nI_le (a := 80) (b := i) (by omega) (by omega)) c_2
        refine lv_iconst (v := 1) hx hb dX7_layLights_60 (by decide) ?_
        refine lv_istore_n (lv' := [(1, .int 1), (0, .ref m0)]) hx hb dX7_layLights_61 rfl hl (by decide) rfl (fun ls hl => ?_)
        have LOOP_62 : ∀ (n : Nat) (go : Int32) (lx : Nat → Int64) (cx : Nat → Int32), (¬ go = 0 → Mla lx < n) → (LR lx) → ∀ (H : Heap) (locs : List Loc) (ls : Array Slot), va_P D vwCl [kX7 m0 (nI z) m1 (nI r9) m2 m3 m4 m5 (nI n9) (nI v) m6 k1 k2 k3 k4 m7 k5 k6 k7 k8 m8 m9 m10 1 m11 m12 m13 hv, kI cI m3 9 re, kI cI m5 27 rg, kI cI m13 3 cx, kI cI m2 9 ro, kI cI m4 9 rn, kJ cJ m11 80 lx, kI cI m12 48 fa] H → va_D A [kX7 m0 (nI z) m1 (nI r9) m2 m3 m4 m5 (nI n9) (nI v) m6 k1 k2 k3 k4 m7 k5 k6 k7 k8 m8 m9 m10 1 m11 m12 m13 hv, kI cI m3 9 re, kI cI m5 27 rg, kI cI m13 3 cx, kI cI m2 9 ro, kI cI m4 9 rn, kJ cJ m11 80 lx, kI cI m12 48 fa] → va_S A s.heap H locs → lv_has ls 3 [(0, .ref m0), (1, .int go)] → W p l e (rM 4 0 0 101) s m ([.ref m0] : List Value).toArray below meth c H locs 0 0 Q (F0 m 62 ls []) := by
          intro n
          induction n with
          | zero =>
            intro go lx cx hM hLx H locs ls hP hD hS hl
            refine lv_iload_n hx hb dX7_layLights_62 rfl (lv_at hl 1 rfl) ?_
            refine lv_if_eq (tgt := 106) hx hb dX7_layLights_63 (by decide) (fun c_3 => ?_) (fun c_3 => ?_)
            rotate_left
            · exact absurd (hM c_3) (Nat.not_lt_zero _)
            have hLD9 := hLx
            refine lv_iconst (v := 0) hx hb dX7_layLights_106 (by decide) ?_
            refine lv_istore_n (lv' := [(2, .int 0), (0, .ref m0), (1, .int go)]) hx hb dX7_layLights_107 rfl hl (by decide) rfl (fun ls hl => ?_)
            have LOOP_108 : ∀ (n : Nat) (i2 : Nat) (fx : Nat → Int32), (i2 + n = 48) → ∀ (H : Heap) (locs : List Loc) (ls : Array Slot), va_P D vwCl [kX7 m0 (nI z) m1 (nI r9) m2 m3 m4 m5 (nI n9) (nI v) m6 k1 k2 k3 k4 m7 k5 k6 k7 k8 m8 m9 m10 1 m11 m12 m13 hv, kI cI m3 9 re, kI cI m5 27 rg, kI cI m13 3 cx, kI cI m2 9 ro, kI cI m4 9 rn, kJ cJ m11 80 lx, kI cI m12 48 fx] H → va_D A [kX7 m0 (nI z) m1 (nI r9) m2 m3 m4 m5 (nI n9) (nI v) m6 k1 k2 k3 k4 m7 k5 k6 k7 k8 m8 m9 m10 1 m11 m12 m13 hv, kI cI m3 9 re, kI cI m5 27 rg, kI cI m13 3 cx, kI cI m2 9 ro, kI cI m4 9 rn, kJ cJ m11 80 lx, kI cI m12 48 fx] → va_S A s.heap H locs → lv_has ls 3 [(0, .ref m0), (2, .int (nI i2))] → W p l e (rM 4 0 0 101) s m ([.ref m0] : List Value).toArray below meth c H locs 0 0 Q (F0 m 108 ls []) := by
              intro n
              induction n with
              | zero =>
                intro i2 fx hi2 H locs ls hP hD hS hl
                refine lv_iload_n hx hb dX7_layLights_108 rfl (lv_at hl 1 rfl) ?_
                refine lv_bipush (v := 48) hx hb dX7_layLights_109 (by decide) ?_
                refine lv_icmp_ge (tgt := 127) hx hb dX7_layLights_111 (by decide) (fun c_4 => ?_) (fun c_4 => ?_)
                rotate_left
                · exact absurd (nI_le (a := 48) (b := i2) (by omega) (by omega)) c_4
                refine lv_iconst (v := 0) hx hb dX7_layLights_127 (by decide) ?_
                refine lv_istore_n (lv' := [(2, .int 0), (0, .ref m0)]) hx hb dX7_layLights_128 rfl hl (by decide) rfl (fun ls hl => ?_)
                have LOOP_129 : ∀ (n : Nat) (q2 : Nat) (fy : Nat → Int32) (cz2 : Nat → Int32), (q2 + n = r9) → ∀ (H : Heap) (locs : List Loc) (ls : Array Slot), va_P D vwCl [kX7 m0 (nI z) m1 (nI r9) m2 m3 m4 m5 (nI n9) (nI v) m6 k1 k2 k3 k4 m7 k5 k6 k7 k8 m8 m9 m10 1 m11 m12 m13 hv, kI cI m3 9 re, kI cI m5 27 rg, kI cI m13 3 cz2, kI cI m2 9 ro, kI cI m4 9 rn, kJ cJ m11 80 lx, kI cI m12 48 fy] H → va_D A [kX7 m0 (nI z) m1 (nI r9) m2 m3 m4 m5 (nI n9) (nI v) m6 k1 k2 k3 k4 m7 k5 k6 k7 k8 m8 m9 m10 1 m11 m12 m13 hv, kI cI m3 9 re, kI cI m5 27 rg, kI cI m13 3 cz2, kI cI m2 9 ro, kI cI m4 9 rn, kJ cJ m11 80 lx, kI cI m12 48 fy] → va_S A s.heap H locs → lv_has ls 3 [(0, .ref m0), (2, .int (nI q2))] → W p l e (rM 4 0 0 101) s m ([.ref m0] : List Value).toArray below meth c H locs 0 0 Q (F0 m 129 ls []) := by
                  intro n
                  induction n with
                  | zero =>
                    intro q2 fy cz2 hq2 H locs ls hP hD hS hl
                    refine lv_iload_n hx hb dX7_layLights_129 rfl (lv_at hl 1 rfl) ?_
                    refine lv_aload_n hx hb dX7_layLights_130 rfl (lv_at hl 0 rfl) ?_
                    refine va_get (D := D) (ci := 7) (v := .int (nI r9)) (C := RX7) (T := TX7) (N := 27) hx hb hts iT_X7 hown hK1 hP 0 rfl rfl 2 (by decide) (hts _ t_553) (fun _ h9 => h9) rfl dX7_layLights_131 ?_
                    refine lv_icmp_ge (tgt := 150) hx hb dX7_layLights_134 (by decide) (fun c_5 => ?_) (fun c_5 => ?_)
                    rotate_left
                    · exact absurd (nI_le (a := r9) (b := q2) (by omega) (by omega)) c_5
                    exact hret _ _ _ _ _ _ (1, lx, fy, cz2) dX7_layLights_150 hS (Nat.le_of_ble_eq_true rfl) (Nat.le_of_ble_eq_true rfl) hLD9 (hP.sub [0, 1, 2, 3, 4, 5, 6, 7] rfl) (hD.sub [0, 1, 2, 3, 4, 5, 6, 7] rfl rfl)
                  | succ n ih_129 =>
                    intro q2 fy cz2 hq2 H locs ls hP hD hS hl
                    refine lv_iload_n hx hb dX7_layLights_129 rfl (lv_at hl 1 rfl) ?_
                    refine lv_aload_n hx hb dX7_layLights_130 rfl (lv_at hl 0 rfl) ?_
                    refine va_get (D := D) (ci := 7) (v := .int (nI r9)) (C := RX7) (T := TX7) (N := 27) hx hb hts iT_X7 hown hK1 hP 0 rfl rfl 2 (by decide) (hts _ t_553) (fun _ h9 => h9) rfl dX7_layLights_131 ?_
                    refine lv_icmp_ge (tgt := 150) hx hb dX7_layLights_134 (by decide) (fun c_6 => ?_) (fun c_6 => ?_)
                    · exact absurd c_6 (nI_ge (a := q2) (b := r9) (by omega) (by omega))
                    refine lv_aload_n hx hb dX7_layLights_137 rfl (lv_at hl 0 rfl) ?_
                    refine lv_iload_n hx hb dX7_layLights_138 rfl (lv_at hl 1 rfl) ?_
                    refine lv_iconst (v := 1) hx hb dX7_layLights_139 (by decide) ?_
                    obtain ⟨⟨o9, ho9, eo9⟩, e9, he1, he3, ee9, -, hev9⟩ := hmr q2 (by omega)
                    refine xc_i (wc := [kX7 m0 (nI z) m1 (nI r9) m2 m3 m4 m5 (nI n9) (nI v) m6 k1 k2 k3 k4 m7 k5 k6 k7 k8 m8 m9 m10 1 m11 m12 m13 hv, kI cI m3 9 re, kI cI m5 27 rg, kI cI m13 3 cz2, kI cI m2 9 ro, kJ cJ m11 80 lx, kI cI m12 48 fy]) (wr := [kI cI m4 9 rn]) (xrV (n := 2) (As := [.int (nI q2), .int 1]) (rest := []) (ci := 7) (q0 := 0) hd hK hP hD (g_layRule_1 l D cI cJ cZ cR _ m0 m1 m2 m3 m4 m5 m6 m7 m8 m9 m10 m11 m12 m13 z r9 n9 v k1 k2 k3 k4 k5 k6 k7 k8 1 hv q2 e9 re rg cz2 ro fy lx o9 (by omega) ee9 he3 eo9 ho9 hLD9 hev9) (gV t_826 mV_X7_layRule) hV_X7_layRule ⟨(Nat.le_of_ble_eq_true rfl), (Nat.le_of_ble_eq_true rfl)⟩ rfl rfl [0, 1, 2, 3, 4, 6, 7] rfl rfl rfl hl.1 rfl (Nat.le_of_ble_eq_true rfl) dX7_layLights_140 ⟨(Nat.le_of_ble_eq_true rfl), (Nat.le_of_ble_eq_true rfl)⟩) hP hD hS hA [0, 1, 2, 3, 4, 6, 7] [5] rfl rfl rfl (by decide) (fun r_7 u_8 H locs hw_9 hP hD hS => ?_)
                    obtain ⟨fa2_10, cn2_11⟩ := u_8
                    have hP : va_P D vwCl [kI cI m4 9 rn, kX7 m0 (nI z) m1 (nI r9) m2 m3 m4 m5 (nI n9) (nI v) m6 k1 k2 k3 k4 m7 k5 k6 k7 k8 m8 m9 m10 1 m11 m12 m13 hv, kI cI m3 9 re, kI cI m5 27 rg, kI cI m13 3 cn2_11, kI cI m2 9 ro, kJ cJ m11 80 lx, kI cI m12 48 fa2_10] H := hP
                    have hD : va_D A [kI cI m4 9 rn, kX7 m0 (nI z) m1 (nI r9) m2 m3 m4 m5 (nI n9) (nI v) m6 k1 k2 k3 k4 m7 k5 k6 k7 k8 m8 m9 m10 1 m11 m12 m13 hv, kI cI m3 9 re, kI cI m5 27 rg, kI cI m13 3 cn2_11, kI cI m2 9 ro, kJ cJ m11 80 lx, kI cI m12 48 fa2_10] := hD
                    refine lv_pop hx hb dX7_layLights_143 rfl ?_
                    refine lv_iinc (v := nI (q2 + 1)) (lv' := [(2, .int (nI (q2 + 1))), (0, .ref m0)]) hx hb dX7_layLights_144 hl (k := 1) rfl (nI_1 q2) (by decide) rfl (fun ls hl => ?_)
                    refine lv_goto (tgt := 129) hx hb dX7_layLights_147 (by decide) ?_
                    exact ih_129 (q2 + 1) fa2_10 cn2_11 (by omega) _ _ _ (hP.sub [1, 2, 3, 4, 5, 0, 6, 7] rfl) (hD.sub [1, 2, 3, 4, 5, 0, 6, 7] rfl rfl) hS (lv_sub hl [1, 0] rfl)
                exact LOOP_129 r9 0 fx cx (by omega) _ _ _ (hP.sub [0, 1, 2, 3, 4, 5, 6, 7] rfl) (hD.sub [0, 1, 2, 3, 4, 5, 6, 7] rfl rfl) hS (lv_sub hl [1, 0] rfl)
              | succ n ih_108 =>
                intro i2 fx hi2 H locs ls hP hD hS hl
                refine lv_iload_n hx hb dX7_layLights_108 rfl (lv_at hl 1 rfl) ?_
                refine lv_bipush (v := 48) hx hb dX7_layLights_109 (by decide) ?_
                refine lv_icmp_ge (tgt := 127) hx hb dX7_layLights_111 (by decide) (fun c_12 => ?_) (fun c_12 => ?_)
                · exact absurd c_12 (nI_ge (a := i2) (b := 48) (by omega) (by omega))
                refine lv_aload_n hx hb dX7_layLights_114 rfl (lv_at hl 0 rfl) ?_
                refine va_get (D := D) (ci := 7) (v := .ref m12) (C := RX7) (T := TX7) (N := 27) hx hb hts iT_X7 hown hK1 hP 0 rfl rfl 24 (by decide) (hts _ t_575) (fun _ h9 => h9) rfl dX7_layLights_115 ?_
                refine lv_iload_n hx hb dX7_layLights_118 rfl (lv_at hl 1 rfl) ?_
                refine lv_iconst (v := -1) hx hb dX7_layLights_119 (by decide) ?_
                refine va_iast hx hb hK1 hP hD hS 7 0 rfl rfl (vp_in_nI (by omega) (by omega)) dX7_layLights_120 (fun H locs hP hD hS => ?_)
                rw [nI_clamp (n := i2) (by omega)] at hP hD
                have hP : va_P D vwCl [kX7 m0 (nI z) m1 (nI r9) m2 m3 m4 m5 (nI n9) (nI v) m6 k1 k2 k3 k4 m7 k5 k6 k7 k8 m8 m9 m10 1 m11 m12 m13 hv, kI cI m3 9 re, kI cI m5 27 rg, kI cI m13 3 cx, kI cI m2 9 ro, kI cI m4 9 rn, kJ cJ m11 80 lx, kI cI m12 48 (upd fx i2 (-1))] H := hP
                have hD : va_D A [kX7 m0 (nI z) m1 (nI r9) m2 m3 m4 m5 (nI n9) (nI v) m6 k1 k2 k3 k4 m7 k5 k6 k7 k8 m8 m9 m10 1 m11 m12 m13 hv, kI cI m3 9 re, kI cI m5 27 rg, kI cI m13 3 cx, kI cI m2 9 ro, kI cI m4 9 rn, kJ cJ m11 80 lx, kI cI m12 48 (upd fx i2 (-1))] := hD
                refine lv_iinc (v := nI (i2 + 1)) (lv' := [(2, .int (nI (i2 + 1))), (0, .ref m0)]) hx hb dX7_layLights_121 hl (k := 1) rfl (nI_1 i2) (by decide) rfl (fun ls hl => ?_)
                refine lv_goto (tgt := 108) hx hb dX7_layLights_124 (by decide) ?_
                exact ih_108 (i2 + 1) (upd fx i2 (-1)) (by omega) _ _ _ (hP.sub [0, 1, 2, 3, 4, 5, 6, 7] rfl) (hD.sub [0, 1, 2, 3, 4, 5, 6, 7] rfl rfl) hS (lv_sub hl [1, 0] rfl)
            exact LOOP_108 48 0 fa (by omega) _ _ _ (hP.sub [0, 1, 2, 3, 4, 5, 6, 7] rfl) (hD.sub [0, 1, 2, 3, 4, 5, 6, 7] rfl rfl) hS (lv_sub hl [1, 0] rfl)
          | succ n ih_62 =>
            intro go lx cx hM hLx H locs ls hP hD hS hl
            refine lv_iload_n hx hb dX7_layLights_62 rfl (lv_at hl 1 rfl) ?_
            refine lv_if_eq (tgt := 106) hx hb dX7_layLights_63 (by decide) (fun c_13 => ?_) (fun c_13 => ?_)
            · skip
              have hLD9 := hLx
              refine lv_iconst (v := 0) hx hb dX7_layLights_106 (by decide) ?_
              refine lv_istore_n (lv' := [(2, .int 0), (0, .ref m0), (1, .int go)]) hx hb dX7_layLights_107 rfl hl (by decide) rfl (fun ls hl => ?_)
              have LOOP_108 : ∀ (n : Nat) (i2 : Nat) (fx : Nat → Int32), (i2 + n = 48) → ∀ (H : Heap) (locs : List Loc) (ls : Array Slot), va_P D vwCl [kX7 m0 (nI z) m1 (nI r9) m2 m3 m4 m5 (nI n9) (nI v) m6 k1 k2 k3 k4 m7 k5 k6 k7 k8 m8 m9 m10 1 m11 m12 m13 hv, kI cI m3 9 re, kI cI m5 27 rg, kI cI m13 3 cx, kI cI m2 9 ro, kI cI m4 9 rn, kJ cJ m11 80 lx, kI cI m12 48 fx] H → va_D A [kX7 m0 (nI z) m1 (nI r9) m2 m3 m4 m5 (nI n9) (nI v) m6 k1 k2 k3 k4 m7 k5 k6 k7 k8 m8 m9 m10 1 m11 m12 m13 hv, kI cI m3 9 re, kI cI m5 27 rg, kI cI m13 3 cx, kI cI m2 9 ro, kI cI m4 9 rn, kJ cJ m11 80 lx, kI cI m12 48 fx] → va_S A s.heap H locs → lv_has ls 3 [(0, .ref m0), (2, .int (nI i2))] → W p l e (rM 4 0 0 101) s m ([.ref m0] : List Value).toArray below meth c H locs 0 0 Q (F0 m 108 ls []) := by
                intro n
                induction n with
                | zero =>
                  intro i2 fx hi2 H locs ls hP hD hS hl
                  refine lv_iload_n hx hb dX7_layLights_108 rfl (lv_at hl 1 rfl) ?_
                  refine lv_bipush (v := 48) hx hb dX7_layLights_109 (by decide) ?_
                  refine lv_icmp_ge (tgt := 127) hx hb dX7_layLights_111 (by decide) (fun c_14 => ?_) (fun c_14 => ?_)
                  rotate_left
                  · exact absurd (nI_le (a := 48) (b := i2) (by omega) (by omega)) c_14
                  refine lv_iconst (v := 0) hx hb dX7_layLights_127 (by decide) ?_
                  refine lv_istore_n (lv' := [(2, .int 0), (0, .ref m0)]) hx hb dX7_layLights_128 rfl hl (by decide) rfl (fun ls hl => ?_)
                  have LOOP_129 : ∀ (n : Nat) (q2 : Nat) (fy : Nat → Int32) (cz2 : Nat → Int32), (q2 + n = r9) → ∀ (H : Heap) (locs : List Loc) (ls : Array Slot), va_P D vwCl [kX7 m0 (nI z) m1 (nI r9) m2 m3 m4 m5 (nI n9) (nI v) m6 k1 k2 k3 k4 m7 k5 k6 k7 k8 m8 m9 m10 1 m11 m12 m13 hv, kI cI m3 9 re, kI cI m5 27 rg, kI cI m13 3 cz2, kI cI m2 9 ro, kI cI m4 9 rn, kJ cJ m11 80 lx, kI cI m12 48 fy] H → va_D A [kX7 m0 (nI z) m1 (nI r9) m2 m3 m4 m5 (nI n9) (nI v) m6 k1 k2 k3 k4 m7 k5 k6 k7 k8 m8 m9 m10 1 m11 m12 m13 hv, kI cI m3 9 re, kI cI m5 27 rg, kI cI m13 3 cz2, kI cI m2 9 ro, kI cI m4 9 rn, kJ cJ m11 80 lx, kI cI m12 48 fy] → va_S A s.heap H locs → lv_has ls 3 [(0, .ref m0), (2, .int (nI q2))] → W p l e (rM 4 0 0 101) s m ([.ref m0] : List Value).toArray below meth c H locs 0 0 Q (F0 m 129 ls []) := by
                    intro n
                    induction n with
                    | zero =>
                      intro q2 fy cz2 hq2 H locs ls hP hD hS hl
                      refine lv_iload_n hx hb dX7_layLights_129 rfl (lv_at hl 1 rfl) ?_
                      refine lv_aload_n hx hb dX7_layLights_130 rfl (lv_at hl 0 rfl) ?_
                      refine va_get (D := D) (ci := 7) (v := .int (nI r9)) (C := RX7) (T := TX7) (N := 27) hx hb hts iT_X7 hown hK1 hP 0 rfl rfl 2 (by decide) (hts _ t_553) (fun _ h9 => h9) rfl dX7_layLights_131 ?_
                      refine lv_icmp_ge (tgt := 150) hx hb dX7_layLights_134 (by decide) (fun c_15 => ?_) (fun c_15 => ?_)
                      rotate_left
                      · exact absurd (nI_le (a := r9) (b := q2) (by omega) (by omega)) c_15
                      exact hret _ _ _ _ _ _ (1, lx, fy, cz2) dX7_layLights_150 hS (Nat.le_of_ble_eq_true rfl) (Nat.le_of_ble_eq_true rfl) hLD9 (hP.sub [0, 1, 2, 3, 4, 5, 6, 7] rfl) (hD.sub [0, 1, 2, 3, 4, 5, 6, 7] rfl rfl)
                    | succ n ih_129 =>
                      intro q2 fy cz2 hq2 H locs ls hP hD hS hl
                      refine lv_iload_n hx hb dX7_layLights_129 rfl (lv_at hl 1 rfl) ?_
                      refine lv_aload_n hx hb dX7_layLights_130 rfl (lv_at hl 0 rfl) ?_
                      refine va_get (D := D) (ci := 7) (v := .int (nI r9)) (C := RX7) (T := TX7) (N := 27) hx hb hts iT_X7 hown hK1 hP 0 rfl rfl 2 (by decide) (hts _ t_553) (fun _ h9 => h9) rfl dX7_layLights_131 ?_
                      refine lv_icmp_ge (tgt := 150) hx hb dX7_layLights_134 (by decide) (fun c_16 => ?_) (fun c_16 => ?_)
                      · exact absurd c_16 (nI_ge (a := q2) (b := r9) (by omega) (by omega))
                      refine lv_aload_n hx hb dX7_layLights_137 rfl (lv_at hl 0 rfl) ?_
                      refine lv_iload_n hx hb dX7_layLights_138 rfl (lv_at hl 1 rfl) ?_
                      refine lv_iconst (v := 1) hx hb dX7_layLights_139 (by decide) ?_
                      obtain ⟨⟨o9, ho9, eo9⟩, e9, he1, he3, ee9, -, hev9⟩ := hmr q2 (by omega)
                      refine xc_i (wc := [kX7 m0 (nI z) m1 (nI r9) m2 m3 m4 m5 (nI n9) (nI v) m6 k1 k2 k3 k4 m7 k5 k6 k7 k8 m8 m9 m10 1 m11 m12 m13 hv, kI cI m3 9 re, kI cI m5 27 rg, kI cI m13 3 cz2, kI cI m2 9 ro, kJ cJ m11 80 lx, kI cI m12 48 fy]) (wr := [kI cI m4 9 rn]) (xrV (n := 2) (As := [.int (nI q2), .int 1]) (rest := []) (ci := 7) (q0 := 0) hd hK hP hD (g_layRule_1 l D cI cJ cZ cR _ m0 m1 m2 m3 m4 m5 m6 m7 m8 m9 m10 m11 m12 m13 z r9 n9 v k1 k2 k3 k4 k5 k6 k7 k8 1 hv q2 e9 re rg cz2 ro fy lx o9 (by omega) ee9 he3 eo9 ho9 hLD9 hev9) (gV t_826 mV_X7_layRule) hV_X7_layRule ⟨(Nat.le_of_ble_eq_true rfl), (Nat.le_of_ble_eq_true rfl)⟩ rfl rfl [0, 1, 2, 3, 4, 6, 7] rfl rfl rfl hl.1 rfl (Nat.le_of_ble_eq_true rfl) dX7_layLights_140 ⟨(Nat.le_of_ble_eq_true rfl), (Nat.le_of_ble_eq_true rfl)⟩) hP hD hS hA [0, 1, 2, 3, 4, 6, 7] [5] rfl rfl rfl (by decide) (fun r_17 u_18 H locs hw_19 hP hD hS => ?_)
                      obtain ⟨fa2_20, cn2_21⟩ := u_18
                      have hP : va_P D vwCl [kI cI m4 9 rn, kX7 m0 (nI z) m1 (nI r9) m2 m3 m4 m5 (nI n9) (nI v) m6 k1 k2 k3 k4 m7 k5 k6 k7 k8 m8 m9 m10 1 m11 m12 m13 hv, kI cI m3 9 re, kI cI m5 27 rg, kI cI m13 3 cn2_21, kI cI m2 9 ro, kJ cJ m11 80 lx, kI cI m12 48 fa2_20] H := hP
                      have hD : va_D A [kI cI m4 9 rn, kX7 m0 (nI z) m1 (nI r9) m2 m3 m4 m5 (nI n9) (nI v) m6 k1 k2 k3 k4 m7 k5 k6 k7 k8 m8 m9 m10 1 m11 m12 m13 hv, kI cI m3 9 re, kI cI m5 27 rg, kI cI m13 3 cn2_21, kI cI m2 9 ro, kJ cJ m11 80 lx, kI cI m12 48 fa2_20] := hD
                      refine lv_pop hx hb dX7_layLights_143 rfl ?_
                      refine lv_iinc (v := nI (q2 + 1)) (lv' := [(2, .int (nI (q2 + 1))), (0, .ref m0)]) hx hb dX7_layLights_144 hl (k := 1) rfl (nI_1 q2) (by decide) rfl (fun ls hl => ?_)
                      refine lv_goto (tgt := 129) hx hb dX7_layLights_147 (by decide) ?_
                      exact ih_129 (q2 + 1) fa2_20 cn2_21 (by omega) _ _ _ (hP.sub [1, 2, 3, 4, 5, 0, 6, 7] rfl) (hD.sub [1, 2, 3, 4, 5, 0, 6, 7] rfl rfl) hS (lv_sub hl [1, 0] rfl)
                  exact LOOP_129 r9 0 fx cx (by omega) _ _ _ (hP.sub [0, 1, 2, 3, 4, 5, 6, 7] rfl) (hD.sub [0, 1, 2, 3, 4, 5, 6, 7] rfl rfl) hS (lv_sub hl [1, 0] rfl)
                | succ n ih_108 =>
                  intro i2 fx hi2 H locs ls hP hD hS hl
                  refine lv_iload_n hx hb dX7_layLights_108 rfl (lv_at hl 1 rfl) ?_
                  refine lv_bipush (v := 48) hx hb dX7_layLights_109 (by decide) ?_
                  refine lv_icmp_ge (tgt := 127) hx hb dX7_layLights_111 (by decide) (fun c_22 => ?_) (fun c_22 => ?_)
                  · exact absurd c_22 (nI_ge (a := i2) (b := 48) (by omega) (by omega))
                  refine lv_aload_n hx hb dX7_layLights_114 rfl (lv_at hl 0 rfl) ?_
                  refine va_get (D := D) (ci := 7) (v := .ref m12) (C := RX7) (T := TX7) (N := 27) hx hb hts iT_X7 hown hK1 hP 0 rfl rfl 24 (by decide) (hts _ t_575) (fun _ h9 => h9) rfl dX7_layLights_115 ?_
                  refine lv_iload_n hx hb dX7_layLights_118 rfl (lv_at hl 1 rfl) ?_
                  refine lv_iconst (v := -1) hx hb dX7_layLights_119 (by decide) ?_
                  refine va_iast hx hb hK1 hP hD hS 7 0 rfl rfl (vp_in_nI (by omega) (by omega)) dX7_layLights_120 (fun H locs hP hD hS => ?_)
                  rw [nI_clamp (n := i2) (by omega)] at hP hD
                  have hP : va_P D vwCl [kX7 m0 (nI z) m1 (nI r9) m2 m3 m4 m5 (nI n9) (nI v) m6 k1 k2 k3 k4 m7 k5 k6 k7 k8 m8 m9 m10 1 m11 m12 m13 hv, kI cI m3 9 re, kI cI m5 27 rg, kI cI m13 3 cx, kI cI m2 9 ro, kI cI m4 9 rn, kJ cJ m11 80 lx, kI cI m12 48 (upd fx i2 (-1))] H := hP
                  have hD : va_D A [kX7 m0 (nI z) m1 (nI r9) m2 m3 m4 m5 (nI n9) (nI v) m6 k1 k2 k3 k4 m7 k5 k6 k7 k8 m8 m9 m10 1 m11 m12 m13 hv, kI cI m3 9 re, kI cI m5 27 rg, kI cI m13 3 cx, kI cI m2 9 ro, kI cI m4 9 rn, kJ cJ m11 80 lx, kI cI m12 48 (upd fx i2 (-1))] := hD
                  refine lv_iinc (v := nI (i2 + 1)) (lv' := [(2, .int (nI (i2 + 1))), (0, .ref m0)]) hx hb dX7_layLights_121 hl (k := 1) rfl (nI_1 i2) (by decide) rfl (fun ls hl => ?_)
                  refine lv_goto (tgt := 108) hx hb dX7_layLights_124 (by decide) ?_
                  exact ih_108 (i2 + 1) (upd fx i2 (-1)) (by omega) _ _ _ (hP.sub [0, 1, 2, 3, 4, 5, 6, 7] rfl) (hD.sub [0, 1, 2, 3, 4, 5, 6, 7] rfl rfl) hS (lv_sub hl [1, 0] rfl)
              exact LOOP_108 48 0 fa (by omega) _ _ _ (hP.sub [0, 1, 2, 3, 4, 5, 6, 7] rfl) (hD.sub [0, 1, 2, 3, 4, 5, 6, 7] rfl rfl) hS (lv_sub hl [1, 0] rfl)
            · skip
              have hgo := c_13
              refine lv_iconst (v := 0) hx hb dX7_layLights_66 (by decide) ?_
              refine lv_istore_n (lv' := [(1, .int 0), (0, .ref m0)]) hx hb dX7_layLights_67 rfl hl (by decide) rfl (fun ls hl => ?_)
              refine lv_iconst (v := 0) hx hb dX7_layLights_68 (by decide) ?_
              refine lv_istore_n (lv' := [(2, .int 0), (1, .int 0), (0, .ref m0)]) hx hb dX7_layLights_69 rfl hl (by decide) rfl (fun ls hl => ?_)
              have LOOP_70 : ∀ (n : Nat) (q : Nat) (g2 : Int32) (ly : Nat → Int64) (cy : Nat → Int32), (q + n = r9) → (LD lx ly g2) → ∀ (H : Heap) (locs : List Loc) (ls : Array Slot), va_P D vwCl [kX7 m0 (nI z) m1 (nI r9) m2 m3 m4 m5 (nI n9) (nI v) m6 k1 k2 k3 k4 m7 k5 k6 k7 k8 m8 m9 m10 1 m11 m12 m13 hv, kI cI m3 9 re, kI cI m5 27 rg, kI cI m13 3 cy, kI cI m2 9 ro, kI cI m4 9 rn, kJ cJ m11 80 ly, kI cI m12 48 fa] H → va_D A [kX7 m0 (nI z) m1 (nI r9) m2 m3 m4 m5 (nI n9) (nI v) m6 k1 k2 k3 k4 m7 k5 k6 k7 k8 m8 m9 m10 1 m11 m12 m13 hv, kI cI m3 9 re, kI cI m5 27 rg, kI cI m13 3 cy, kI cI m2 9 ro, kI cI m4 9 rn, kJ cJ m11 80 ly, kI cI m12 48 fa] → va_S A s.heap H locs → lv_has ls 3 [(0, .ref m0), (1, .int g2), (2, .int (nI q))] → W p l e (rM 4 0 0 101) s m ([.ref m0] : List Value).toArray below meth c H locs 0 0 Q (F0 m 70 ls []) := by
                intro n
                induction n with
                | zero =>
                  intro q g2 ly cy hq hLD H locs ls hP hD hS hl
                  refine lv_iload_n hx hb dX7_layLights_70 rfl (lv_at hl 2 rfl) ?_
                  refine lv_aload_n hx hb dX7_layLights_71 rfl (lv_at hl 0 rfl) ?_
                  refine va_get (D := D) (ci := 7) (v := .int (nI r9)) (C := RX7) (T := TX7) (N := 27) hx hb hts iT_X7 hown hK1 hP 0 rfl rfl 2 (by decide) (hts _ t_553) (fun _ h9 => h9) rfl dX7_layLights_72 ?_
                  refine lv_icmp_ge (tgt := 103) hx hb dX7_layLights_75 (by decide) (fun c_23 => ?_) (fun c_23 => ?_)
                  rotate_left
                  · exact absurd (nI_le (a := r9) (b := q) (by omega) (by omega)) c_23
                  refine lv_goto (tgt := 62) hx hb dX7_layLights_103 (by decide) ?_
                  exact ih_62 g2 ly cy (hLD.fall (hM hgo)) hLD.1 _ _ _ (hP.sub [0, 1, 2, 3, 4, 5, 6, 7] rfl) (hD.sub [0, 1, 2, 3, 4, 5, 6, 7] rfl rfl) hS (lv_sub hl [0, 1] rfl)
                | succ n ih_70 =>
                  intro q g2 ly cy hq hLD H locs ls hP hD hS hl
                  refine lv_iload_n hx hb dX7_layLights_70 rfl (lv_at hl 2 rfl) ?_
                  refine lv_aload_n hx hb dX7_layLights_71 rfl (lv_at hl 0 rfl) ?_
                  refine va_get (D := D) (ci := 7) (v := .int (nI r9)) (C := RX7) (T := TX7) (N := 27) hx hb hts iT_X7 hown hK1 hP 0 rfl rfl 2 (by decide) (hts _ t_553) (fun _ h9 => h9) rfl dX7_layLights_72 ?_
                  refine lv_icmp_ge (tgt := 103) hx hb dX7_layLights_75 (by decide) (fun c_24 => ?_) (fun c_24 => ?_)
                  · exact absurd c_24 (nI_ge (a := q) (b := r9) (by omega) (by omega))
                  refine lv_aload_n hx hb dX7_layLights_78 rfl (lv_at hl 0 rfl) ?_
                  refine lv_iload_n hx hb dX7_layLights_79 rfl (lv_at hl 2 rfl) ?_
                  refine lv_iconst (v := 0) hx hb dX7_layLights_80 (by decide) ?_
                  obtain ⟨⟨o9, ho9, eo9⟩, e9, he1, he3, ee9, -, hev9⟩ := hmr q (by omega)
                  refine xc_i (wc := [kX7 m0 (nI z) m1 (nI r9) m2 m3 m4 m5 (nI n9) (nI v) m6 k1 k2 k3 k4 m7 k5 k6 k7 k8 m8 m9 m10 1 m11 m12 m13 hv, kI cI m3 9 re, kI cI m5 27 rg, kI cI m13 3 cy, kI cI m2 9 ro, kJ cJ m11 80 ly, kI cI m12 48 fa]) (wr := [kI cI m4 9 rn]) (xrV (n := 2) (As := [.int (nI q), .int 0]) (rest := []) (ci := 7) (q0 := 0) hd hK hP hD (g_layRule_0 l D cI cJ cZ cR _ m0 m1 m2 m3 m4 m5 m6 m7 m8 m9 m10 m11 m12 m13 z r9 n9 v k1 k2 k3 k4 k5 k6 k7 k8 1 hv q e9 re rg cy ro fa ly o9 (by omega) ee9 he3 eo9 ho9 hLD.1 hev9) (gV t_826 mV_X7_layRule) hV_X7_layRule ⟨(Nat.le_of_ble_eq_true rfl), (Nat.le_of_ble_eq_true rfl)⟩ rfl rfl [0, 1, 2, 3, 4, 6, 7] rfl rfl rfl hl.1 rfl (Nat.le_of_ble_eq_true rfl) dX7_layLights_81 ⟨(Nat.le_of_ble_eq_true rfl), (Nat.le_of_ble_eq_true rfl)⟩) hP hD hS hA [0, 1, 2, 3, 4, 6, 7] [5] rfl rfl rfl (by decide) (fun r_25 u_26 H locs hw_27 hP hD hS => ?_)
                  obtain ⟨la2_28, cn2_29⟩ := u_26
                  have hw_30 : LD ly la2_28 r_25 := hw_27
                  have hL2 := hw_30
                  have hP : va_P D vwCl [kI cI m4 9 rn, kX7 m0 (nI z) m1 (nI r9) m2 m3 m4 m5 (nI n9) (nI v) m6 k1 k2 k3 k4 m7 k5 k6 k7 k8 m8 m9 m10 1 m11 m12 m13 hv, kI cI m3 9 re, kI cI m5 27 rg, kI cI m13 3 cn2_29, kI cI m2 9 ro, kJ cJ m11 80 la2_28, kI cI m12 48 fa] H := hP
                  have hD : va_D A [kI cI m4 9 rn, kX7 m0 (nI z) m1 (nI r9) m2 m3 m4 m5 (nI n9) (nI v) m6 k1 k2 k3 k4 m7 k5 k6 k7 k8 m8 m9 m10 1 m11 m12 m13 hv, kI cI m3 9 re, kI cI m5 27 rg, kI cI m13 3 cn2_29, kI cI m2 9 ro, kJ cJ m11 80 la2_28, kI cI m12 48 fa] := hD
                  refine lv_if_ne (tgt := 91) hx hb dX7_layLights_84 (by decide) (fun c_31 => ?_) (fun c_31 => ?_)
                  · skip
                    refine lv_iconst (v := 1) hx hb dX7_layLights_91 (by decide) ?_
                    refine lv_goto (tgt := 96) hx hb dX7_layLights_92 (by decide) ?_
                    refine lv_istore_n (lv' := [(1, .int 1), (0, .ref m0), (2, .int (nI q))]) hx hb dX7_layLights_96 rfl hl (by decide) rfl (fun ls hl => ?_)
                    refine lv_iinc (v := nI (q + 1)) (lv' := [(2, .int (nI (q + 1))), (1, .int 1), (0, .ref m0)]) hx hb dX7_layLights_97 hl (k := 2) rfl (nI_1 q) (by decide) rfl (fun ls hl => ?_)
                    refine lv_goto (tgt := 70) hx hb dX7_layLights_100 (by decide) ?_
                    exact ih_70 (q + 1) 1 la2_28 cn2_29 (by omega) (LD_1 hLD hL2 c_31) _ _ _ (hP.sub [1, 2, 3, 4, 5, 0, 6, 7] rfl) (hD.sub [1, 2, 3, 4, 5, 0, 6, 7] rfl rfl) hS (lv_sub hl [2, 1, 0] rfl)
                  · skip
                    refine lv_iload_n hx hb dX7_layLights_87 rfl (lv_at hl 1 rfl) ?_
                    refine lv_if_eq (tgt := 95) hx hb dX7_layLights_88 (by decide) (fun c_32 => ?_) (fun c_32 => ?_)
                    · skip
                      refine lv_iconst (v := 0) hx hb dX7_layLights_95 (by decide) ?_
                      refine lv_istore_n (lv' := [(1, .int 0), (0, .ref m0), (2, .int (nI q))]) hx hb dX7_layLights_96 rfl hl (by decide) rfl (fun ls hl => ?_)
                      refine lv_iinc (v := nI (q + 1)) (lv' := [(2, .int (nI (q + 1))), (1, .int 0), (0, .ref m0)]) hx hb dX7_layLights_97 hl (k := 2) rfl (nI_1 q) (by decide) rfl (fun ls hl => ?_)
                      refine lv_goto (tgt := 70) hx hb dX7_layLights_100 (by decide) ?_
                      exact ih_70 (q + 1) 0 la2_28 cn2_29 (by omega) (LD_3 hLD hL2) _ _ _ (hP.sub [1, 2, 3, 4, 5, 0, 6, 7] rfl) (hD.sub [1, 2, 3, 4, 5, 0, 6, 7] rfl rfl) hS (lv_sub hl [2, 1, 0] rfl)
                    · skip
                      refine lv_iconst (v := 1) hx hb dX7_layLights_91 (by decide) ?_
                      refine lv_goto (tgt := 96) hx hb dX7_layLights_92 (by decide) ?_
                      refine lv_istore_n (lv' := [(1, .int 1), (0, .ref m0), (2, .int (nI q))]) hx hb dX7_layLights_96 rfl hl (by decide) rfl (fun ls hl => ?_)
                      refine lv_iinc (v := nI (q + 1)) (lv' := [(2, .int (nI (q + 1))), (1, .int 1), (0, .ref m0)]) hx hb dX7_layLights_97 hl (k := 2) rfl (nI_1 q) (by decide) rfl (fun ls hl => ?_)
                      refine lv_goto (tgt := 70) hx hb dX7_layLights_100 (by decide) ?_
                      exact ih_70 (q + 1) 1 la2_28 cn2_29 (by omega) (LD_2 hLD hL2 c_32) _ _ _ (hP.sub [1, 2, 3, 4, 5, 0, 6, 7] rfl) (hD.sub [1, 2, 3, 4, 5, 0, 6, 7] rfl rfl) hS (lv_sub hl [2, 1, 0] rfl)
              exact LOOP_70 r9 0 0 lx cx (by omega) (LD_no hLx) _ _ _ (hP.sub [0, 1, 2, 3, 4, 5, 6, 7] rfl) (hD.sub [0, 1, 2, 3, 4, 5, 6, 7] rfl rfl) hS (lv_sub hl [2, 1, 0] rfl)
        exact LOOP_62 (Mla gg + 1) 1 gg cn (fun _ => Nat.lt_succ_self _) hLg _ _ _ (hP.sub [0, 1, 2, 3, 4, 5, 6, 7] rfl) (hD.sub [0, 1, 2, 3, 4, 5, 6, 7] rfl rfl) hS (lv_sub hl [1, 0] rfl)
      | succ n ih_15 =>
        intro i gg hi hg1 H locs ls hP hD hS hl
        refine lv_iload_n hx hb dX7_layLights_15 rfl (lv_at hl 1 rfl) ?_
        refine lv_bipush (v := 80) hx hb dX7_layLights_16 (by decide) ?_
        refine lv_icmp_ge (tgt := 60) hx hb dX7_layLights_18 (by decide) (fun c_33 => ?_) (fun c_33 => ?_)
        · exact absurd c_33 (nI_ge (a := i) (b := 80) (by omega) (by omega))
        refine lv_aload_n hx hb dX7_layLights_21 rfl (lv_at hl 0 rfl) ?_
        refine va_get (D := D) (ci := 7) (v := .ref m11) (C := RX7) (T := TX7) (N := 27) hx hb hts iT_X7 hown hK1 hP 0 rfl rfl 23 (by decide) (hts _ t_574) (fun _ h9 => h9) rfl dX7_layLights_22 ?_
        refine lv_iload_n hx hb dX7_layLights_25 rfl (lv_at hl 1 rfl) ?_
        refine lv_iload_n hx hb dX7_layLights_26 rfl (lv_at hl 1 rfl) ?_
        refine lv_bipush (v := 48) hx hb dX7_layLights_27 (by decide) ?_
        refine lv_icmp_lt (tgt := 50) hx hb dX7_layLights_29 (by decide) (fun c_34 => ?_) (fun c_34 => ?_)
        · skip
          refine lv_ldc2 hx hb hown (hts _ t_825) dX7_layLights_50 ?_
          refine va_last hx hb hK1 hP hD hS 6 1 rfl rfl (vp_in_nI (by omega) (by omega)) dX7_layLights_53 (fun H locs hP hD hS => ?_)
          rw [nI_clamp (n := i) (by omega)] at hP hD
          have hP : va_P D vwCl [kX7 m0 (nI z) m1 (nI r9) m2 m3 m4 m5 (nI n9) (nI v) m6 k1 k2 k3 k4 m7 k5 k6 k7 k8 m8 m9 m10 1 m11 m12 m13 hv, kI cI m3 9 re, kI cI m5 27 rg, kI cI m13 3 cn, kI cI m2 9 ro, kI cI m4 9 rn, kJ cJ m11 80 (vp_updL gg i 1152921504606846976), kI cI m12 48 fa] H := hP
          have hD : va_D A [kX7 m0 (nI z) m1 (nI r9) m2 m3 m4 m5 (nI n9) (nI v) m6 k1 k2 k3 k4 m7 k5 k6 k7 k8 m8 m9 m10 1 m11 m12 m13 hv, kI cI m3 9 re, kI cI m5 27 rg, kI cI m13 3 cn, kI cI m2 9 ro, kI cI m4 9 rn, kJ cJ m11 80 (vp_updL gg i 1152921504606846976), kI cI m12 48 fa] := hD
          refine lv_iinc (v := nI (i + 1)) (lv' := [(1, .int (nI (i + 1))), (0, .ref m0)]) hx hb dX7_layLights_54 hl (k := 1) rfl (nI_1 i) (by decide) rfl (fun ls hl => ?_)
          refine lv_goto (tgt := 15) hx hb dX7_layLights_57 (by decide) ?_
          exact ih_15 (i + 1) (vp_updL gg i 1152921504606846976) (by omega) (LRn_s hg1 (by decide)) _ _ _ (hP.sub [0, 1, 2, 3, 4, 5, 6, 7] rfl) (hD.sub [0, 1, 2, 3, 4, 5, 6, 7] rfl rfl) hS (lv_sub hl [1, 0] rfl)
        · skip
          refine lv_iload_n hx hb dX7_layLights_32 rfl (lv_at hl 1 rfl) ?_
          refine lv_bipush (v := 16) hx hb dX7_layLights_33 (by decide) ?_
          refine lv_irem hx hb dX7_layLights_35 (by decide) ?_
          refine lv_iload_n hx hb dX7_layLights_36 rfl (lv_at hl 1 rfl) ?_
          refine lv_bipush (v := 16) hx hb dX7_layLights_37 (by decide) ?_
          refine lv_idiv hx hb dX7_layLights_39 (by decide) ?_
          refine xc_i (wc := []) (wr := [kX7 m0 (nI z) m1 (nI r9) m2 m3 m4 m5 (nI n9) (nI v) m6 k1 k2 k3 k4 m7 k5 k6 k7 k8 m8 m9 m10 1 m11 m12 m13 hv, kI cI m3 9 re, kI cI m5 27 rg, kI cI m13 3 cn, kI cI m2 9 ro, kI cI m4 9 rn, kJ cJ m11 80 gg, kI cI m12 48 fa]) (xrS (n := 1) (As := [.int ((nI i) / 16)]) (rest := [.int ((nI i) - (nI i) / 16 * 16), .int (nI i), .ref m11]) hd hK hP hD (c_X7_classOf l D cI cJ cZ cR _ ((nI i) / 16) ) (gS t_822 mS_X7_classOf) hS_X7_classOf ⟨(Nat.le_of_ble_eq_true rfl), (Nat.le_of_ble_eq_true rfl)⟩ [] rfl rfl rfl hl.1 rfl (Nat.le_of_ble_eq_true rfl) dX7_layLights_40 ⟨(Nat.le_of_ble_eq_true rfl), (Nat.le_of_ble_eq_true rfl)⟩) hP hD hS hA [] [0, 1, 2, 3, 4, 5, 6, 7] rfl rfl rfl (by decide) (fun r_35 u_36 H locs hw_37 hP hD hS => ?_)
          have hP : va_P D vwCl [kX7 m0 (nI z) m1 (nI r9) m2 m3 m4 m5 (nI n9) (nI v) m6 k1 k2 k3 k4 m7 k5 k6 k7 k8 m8 m9 m10 1 m11 m12 m13 hv, kI cI m3 9 re, kI cI m5 27 rg, kI cI m13 3 cn, kI cI m2 9 ro, kI cI m4 9 rn, kJ cJ m11 80 gg, kI cI m12 48 fa] H := hP
          have hD : va_D A [kX7 m0 (nI z) m1 (nI r9) m2 m3 m4 m5 (nI n9) (nI v) m6 k1 k2 k3 k4 m7 k5 k6 k7 k8 m8 m9 m10 1 m11 m12 m13 hv, kI cI m3 9 re, kI cI m5 27 rg, kI cI m13 3 cn, kI cI m2 9 ro, kI cI m4 9 rn, kJ cJ m11 80 gg, kI cI m12 48 fa] := hD
          refine lv_icmp_ne (tgt := 50) hx hb dX7_layLights_43 (by decide) (fun c_38 => ?_) (fun c_38 => ?_)
          · skip
            refine lv_ldc2 hx hb hown (hts _ t_825) dX7_layLights_50 ?_
            refine va_last hx hb hK1 hP hD hS 6 1 rfl rfl (vp_in_nI (by omega) (by omega)) dX7_layLights_53 (fun H locs hP hD hS => ?_)
            rw [nI_clamp (n := i) (by omega)] at hP hD
            have hP : va_P D vwCl [kX7 m0 (nI z) m1 (nI r9) m2 m3 m4 m5 (nI n9) (nI v) m6 k1 k2 k3 k4 m7 k5 k6 k7 k8 m8 m9 m10 1 m11 m12 m13 hv, kI cI m3 9 re, kI cI m5 27 rg, kI cI m13 3 cn, kI cI m2 9 ro, kI cI m4 9 rn, kJ cJ m11 80 (vp_updL gg i 1152921504606846976), kI cI m12 48 fa] H := hP
            have hD : va_D A [kX7 m0 (nI z) m1 (nI r9) m2 m3 m4 m5 (nI n9) (nI v) m6 k1 k2 k3 k4 m7 k5 k6 k7 k8 m8 m9 m10 1 m11 m12 m13 hv, kI cI m3 9 re, kI cI m5 27 rg, kI cI m13 3 cn, kI cI m2 9 ro, kI cI m4 9 rn, kJ cJ m11 80 (vp_updL gg i 1152921504606846976), kI cI m12 48 fa] := hD
            refine lv_iinc (v := nI (i + 1)) (lv' := [(1, .int (nI (i + 1))), (0, .ref m0)]) hx hb dX7_layLights_54 hl (k := 1) rfl (nI_1 i) (by decide) rfl (fun ls hl => ?_)
            refine lv_goto (tgt := 15) hx hb dX7_layLights_57 (by decide) ?_
            exact ih_15 (i + 1) (vp_updL gg i 1152921504606846976) (by omega) (LRn_s hg1 (by decide)) _ _ _ (hP.sub [0, 1, 2, 3, 4, 5, 6, 7] rfl) (hD.sub [0, 1, 2, 3, 4, 5, 6, 7] rfl rfl) hS (lv_sub hl [1, 0] rfl)
          · skip
            refine lv_lconst (v := 0) hx hb dX7_layLights_46 (by decide) ?_
            refine lv_goto (tgt := 53) hx hb dX7_layLights_47 (by decide) ?_
            refine va_last hx hb hK1 hP hD hS 6 1 rfl rfl (vp_in_nI (by omega) (by omega)) dX7_layLights_53 (fun H locs hP hD hS => ?_)
            rw [nI_clamp (n := i) (by omega)] at hP hD
            have hP : va_P D vwCl [kX7 m0 (nI z) m1 (nI r9) m2 m3 m4 m5 (nI n9) (nI v) m6 k1 k2 k3 k4 m7 k5 k6 k7 k8 m8 m9 m10 1 m11 m12 m13 hv, kI cI m3 9 re, kI cI m5 27 rg, kI cI m13 3 cn, kI cI m2 9 ro, kI cI m4 9 rn, kJ cJ m11 80 (vp_updL gg i 0), kI cI m12 48 fa] H := hP
            have hD : va_D A [kX7 m0 (nI z) m1 (nI r9) m2 m3 m4 m5 (nI n9) (nI v) m6 k1 k2 k3 k4 m7 k5 k6 k7 k8 m8 m9 m10 1 m11 m12 m13 hv, kI cI m3 9 re, kI cI m5 27 rg, kI cI m13 3 cn, kI cI m2 9 ro, kI cI m4 9 rn, kJ cJ m11 80 (vp_updL gg i 0), kI cI m12 48 fa] := hD
            refine lv_iinc (v := nI (i + 1)) (lv' := [(1, .int (nI (i + 1))), (0, .ref m0)]) hx hb dX7_layLights_54 hl (k := 1) rfl (nI_1 i) (by decide) rfl (fun ls hl => ?_)
            refine lv_goto (tgt := 15) hx hb dX7_layLights_57 (by decide) ?_
            exact ih_15 (i + 1) (vp_updL gg i 0) (by omega) (LRn_s hg1 (by decide)) _ _ _ (hP.sub [0, 1, 2, 3, 4, 5, 6, 7] rfl) (hD.sub [0, 1, 2, 3, 4, 5, 6, 7] rfl rfl) hS (lv_sub hl [1, 0] rfl)
    exact LOOP_15 80 0 la (by omega) (fun k hk => absurd hk (by omega)) _ _ _ (hP.sub [0, 1, 2, 3, 4, 5, 6, 7] rfl) (hD.sub [0, 1, 2, 3, 4, 5, 6, 7] rfl rfl) hS (lv_sub hl [1, 0] rfl)
  · skip
    exact hret _ _ _ _ _ _ (k9, la, fa, cn) dX7_layLights_7 hS (Nat.le_of_ble_eq_true rfl) (Nat.le_of_ble_eq_true rfl) hLR (hP.sub [0, 1, 2, 3, 4, 5, 6, 7] rfl) (hD.sub [0, 1, 2, 3, 4, 5, 6, 7] rfl rfl)
set_option maxHeartbeats 4000000 in
set_option maxRecDepth 100000 in
theorem c_X7_kindsNow (sz : Nat) (m0 : Nat) (m1 : Nat) (m2 : Nat) (m3 : Nat) (m4 : Nat) (m5 : Nat) (m6 : Nat) (m7 : Nat) (m8 : Nat) (m9 : Nat) (m10 : Nat) (m11 : Nat) (m12 : Nat) (m13 : Nat) (z : Nat) (r9 : Nat) (n9 : Nat) (v : Nat) (k1 : Int32) (k2 : Int32) (k3 : Int32) (k4 : Int32) (k5 : Int32) (k6 : Int32) (k7 : Int32) (k8 : Int32) (k9 : Int32) (hv : Int64) (re : Nat → Int32) (rg : Nat → Int32) (cn : Nat → Int32) (ro : Nat → Int32) (rn : Nat → Int32) (fa : Nat → Int32) (la : Nat → Int64) (a : Nat) (hr9 : r9 ≤ 9) (hmr : MRI ro re rn rg r9) (hLR : LR la) (ha : a < 3) : CTi l D cI cJ cZ cR yX7_kindsNow cX7_kindsNow 4 (some .int) 5 123 0 0 sz [.ref m0, .int (nI a)] [kX7 m0 (nI z) m1 (nI r9) m2 m3 m4 m5 (nI n9) (nI v) m6 k1 k2 k3 k4 m7 k5 k6 k7 k8 m8 m9 m10 k9 m11 m12 m13 hv, kI cI m3 9 re, kI cI m5 27 rg, kI cI m13 3 cn, kI cI m2 9 ro, kI cI m4 9 rn, kJ cJ m11 80 la, kI cI m12 48 fa] (fun (r : Int32) (u : Int32 × (Nat → Int64) × (Nat → Int32) × (Nat → Int32)) => (LR u.2.1)) (fun (u : Int32 × (Nat → Int64) × (Nat → Int32) × (Nat → Int32)) => [kX7 m0 (nI z) m1 (nI r9) m2 m3 m4 m5 (nI n9) (nI v) m6 k1 k2 k3 k4 m7 k5 k6 k7 k8 m8 m9 m10 u.1 m11 m12 m13 hv, kI cI m3 9 re, kI cI m5 27 rg, kI cI m13 3 u.2.2.2, kI cI m2 9 ro, kI cI m4 9 rn, kJ cJ m11 80 u.2.1, kI cI m12 48 u.2.2.1]) := by
  refine CTi.of (ty := .int) (by decide) (Nat.le_of_ble_eq_true rfl) rfl ?_
  intro p e s m below meth c A Q ls hd hin hK hsz hP hD hA hS hl hret
  obtain ⟨hx, hb, hml, hown, hts⟩ := id hd
  have hK1 := hK.1
  have hown : s.vm.findClass RX7 = some m.cls := hown
  have hl : lv_has ls 4 [(0, .ref m0), (1, .int (nI a))] := hl
  refine lv_aload_n hx hb dX7_kindsNow_0 rfl (lv_at hl 0 rfl) ?_
  refine xc_v (wc := [kX7 m0 (nI z) m1 (nI r9) m2 m3 m4 m5 (nI n9) (nI v) m6 k1 k2 k3 k4 m7 k5 k6 k7 k8 m8 m9 m10 k9 m11 m12 m13 hv, kI cI m3 9 re, kI cI m5 27 rg, kI cI m13 3 cn, kI cI m2 9 ro, kI cI m4 9 rn, kJ cJ m11 80 la, kI cI m12 48 fa]) (wr := []) (xrV (n := 0) (As := []) (rest := []) (ci := 7) (q0 := 0) hd hK hP hD (c_X7_layLights l D cI cJ cZ cR _ m0 m1 m2 m3 m4 m5 m6 m7 m8 m9 m10 m11 m12 m13 z r9 n9 v k1 k2 k3 k4 k5 k6 k7 k8 k9 hv re rg cn ro rn fa la hr9 hmr hLR) (gV t_818 mV_X7_layLights) hV_X7_layLights ⟨(Nat.le_of_ble_eq_true rfl), (Nat.le_of_ble_eq_true rfl)⟩ rfl rfl [0, 1, 2, 3, 4, 5, 6, 7] rfl rfl rfl hl.1 rfl (Nat.le_of_ble_eq_true rfl) dX7_kindsNow_1 ⟨(Nat.le_of_ble_eq_true rfl), (Nat.le_of_ble_eq_true rfl)⟩) hP hD hS hA [0, 1, 2, 3, 4, 5, 6, 7] [] rfl rfl rfl (by decide) (fun u_2 H locs hw_3 hP hD hS => ?_)
  obtain ⟨k9b_4, la2_5, fa2_6, cn2_7⟩ := u_2
  have hw_8 : LR la2_5 := hw_3
  have hL9 := hw_8
  have hP : va_P D vwCl [kX7 m0 (nI z) m1 (nI r9) m2 m3 m4 m5 (nI n9) (nI v) m6 k1 k2 k3 k4 m7 k5 k6 k7 k8 m8 m9 m10 k9b_4 m11 m12 m13 hv, kI cI m3 9 re, kI cI m5 27 rg, kI cI m13 3 cn2_7, kI cI m2 9 ro, kI cI m4 9 rn, kJ cJ m11 80 la2_5, kI cI m12 48 fa2_6] H := hP
  have hD : va_D A [kX7 m0 (nI z) m1 (nI r9) m2 m3 m4 m5 (nI n9) (nI v) m6 k1 k2 k3 k4 m7 k5 k6 k7 k8 m8 m9 m10 k9b_4 m11 m12 m13 hv, kI cI m3 9 re, kI cI m5 27 rg, kI cI m13 3 cn2_7, kI cI m2 9 ro, kI cI m4 9 rn, kJ cJ m11 80 la2_5, kI cI m12 48 fa2_6] := hD
  refine lv_iconst (v := 0) hx hb dX7_kindsNow_4 (by decide) ?_
  refine lv_istore_n (lv' := [(2, .int 0), (0, .ref m0), (1, .int (nI a))]) hx hb dX7_kindsNow_5 rfl hl (by decide) rfl (fun ls hl => ?_)
  refine lv_iconst (v := 0) hx hb dX7_kindsNow_6 (by decide) ?_
  refine lv_istore_n (lv' := [(3, .int 0), (2, .int 0), (0, .ref m0), (1, .int (nI a))]) hx hb dX7_kindsNow_7 rfl hl (by decide) rfl (fun ls hl => ?_)
  have LOOP_8 : ∀ (n : Nat) (i : Nat) (bi : Int32), (i + n = 16) → ∀ (H : Heap) (locs : List Loc) (ls : Array Slot), va_P D vwCl [kX7 m0 (nI z) m1 (nI r9) m2 m3 m4 m5 (nI n9) (nI v) m6 k1 k2 k3 k4 m7 k5 k6 k7 k8 m8 m9 m10 k9b_4 m11 m12 m13 hv, kI cI m3 9 re, kI cI m5 27 rg, kI cI m13 3 cn2_7, kI cI m2 9 ro, kI cI m4 9 rn, kJ cJ m11 80 la2_5, kI cI m12 48 fa2_6] H → va_D A [kX7 m0 (nI z) m1 (nI r9) m2 m3 m4 m5 (nI n9) (nI v) m6 k1 k2 k3 k4 m7 k5 k6 k7 k8 m8 m9 m10 k9b_4 m11 m12 m13 hv, kI cI m3 9 re, kI cI m5 27 rg, kI cI m13 3 cn2_7, kI cI m2 9 ro, kI cI m4 9 rn, kJ cJ m11 80 la2_5, kI cI m12 48 fa2_6] → va_S A s.heap H locs → lv_has ls 4 [(0, .ref m0), (1, .int (nI a)), (2, .int bi), (3, .int (nI i))] → W p l e (rM 5 0 0 123) s m ([.ref m0, .int (nI a)] : List Value).toArray below meth c H locs 0 0 Q (F0 m 8 ls []) := by
    intro n
    induction n with
    | zero =>
      intro i bi hi H locs ls hP hD hS hl
      refine lv_iload_n hx hb dX7_kindsNow_8 rfl (lv_at hl 3 rfl) ?_
      refine lv_bipush (v := 16) hx hb dX7_kindsNow_9 (by decide) ?_
      refine lv_icmp_ge (tgt := 48) hx hb dX7_kindsNow_11 (by decide) (fun c_9 => ?_) (fun c_9 => ?_)
      rotate_left
      · exact absurd (nI_le (a := 16) (b := i) (by omega) (by omega)) c_9
      refine lv_iload_n hx hb dX7_kindsNow_48 rfl (lv_at hl 2 rfl) ?_
      exact hret _ _ _ _ _ _ bi (k9b_4, la2_5, fa2_6, cn2_7) dX7_kindsNow_49 rfl hS (Nat.le_of_ble_eq_true rfl) (Nat.le_of_ble_eq_true rfl) hL9 (hP.sub [0, 1, 2, 3, 4, 5, 6, 7] rfl) (hD.sub [0, 1, 2, 3, 4, 5, 6, 7] rfl rfl)
    | succ n ih_8 =>
      intro i bi hi H locs ls hP hD hS hl
      refine lv_iload_n hx hb dX7_kindsNow_8 rfl (lv_at hl 3 rfl) ?_
      refine lv_bipush (v := 16) hx hb dX7_kindsNow_9 (by decide) ?_
      refine lv_icmp_ge (tgt := 48) hx hb dX7_kindsNow_11 (by decide) (fun c_10 => ?_) (fun c_10 => ?_)
      · exact absurd c_10 (nI_ge (a := i) (b := 16) (by omega) (by omega))
      refine lv_iload_n hx hb dX7_kindsNow_14 rfl (lv_at hl 2 rfl) ?_
      refine lv_aload_n hx hb dX7_kindsNow_15 rfl (lv_at hl 0 rfl) ?_
      refine va_get (D := D) (ci := 7) (v := .ref m11) (C := RX7) (T := TX7) (N := 27) hx hb hts iT_X7 hown hK1 hP 0 rfl rfl 23 (by decide) (hts _ t_574) (fun _ h9 => h9) rfl dX7_kindsNow_16 ?_
      refine lv_bipush (v := 16) hx hb dX7_kindsNow_19 (by decide) ?_
      refine lv_iload_n hx hb dX7_kindsNow_21 rfl (lv_at hl 1 rfl) ?_
      refine lv_imul hx hb dX7_kindsNow_22 ?_
      refine lv_nmi (show _ = (nI (16 * a)) from pk_mul (16) (a)) ?_
      refine lv_iload_n hx hb dX7_kindsNow_23 rfl (lv_at hl 3 rfl) ?_
      refine lv_iadd hx hb dX7_kindsNow_24 ?_
      refine lv_nmi (show _ = (nI ((16 * a) + i)) from nI_add ((16 * a)) (i)) ?_
      refine va_lald hx hb hK1 hP 6 1 rfl rfl (vp_in_nI (by omega) (by omega)) dX7_kindsNow_25 ?_
      refine lv_nml (show _ = la2_5 ((16 * a) + i) from by rw [nI_clamp (n := ((16 * a) + i)) (by omega)]) ?_
      refine lv_ldc2 hx hb hown (hts _ t_825) dX7_kindsNow_26 ?_
      refine W.lcmp hx hb dX7_kindsNow_29 ?_
      refine lv_if_ge (tgt := 39) hx hb dX7_kindsNow_30 (by decide) (fun c_11 => ?_) (fun c_11 => ?_)
      · skip
        refine lv_iconst (v := 0) hx hb dX7_kindsNow_39 (by decide) ?_
        refine lv_ior hx hb dX7_kindsNow_40 ?_
        refine lv_istore_n (lv' := [(2, .int (bi ||| 0)), (0, .ref m0), (1, .int (nI a)), (3, .int (nI i))]) hx hb dX7_kindsNow_41 rfl hl (by decide) rfl (fun ls hl => ?_)
        refine lv_iinc (v := nI (i + 1)) (lv' := [(3, .int (nI (i + 1))), (2, .int (bi ||| 0)), (0, .ref m0), (1, .int (nI a))]) hx hb dX7_kindsNow_42 hl (k := 3) rfl (nI_1 i) (by decide) rfl (fun ls hl => ?_)
        refine lv_goto (tgt := 8) hx hb dX7_kindsNow_45 (by decide) ?_
        exact ih_8 (i + 1) (bi ||| 0) (by omega) _ _ _ (hP.sub [0, 1, 2, 3, 4, 5, 6, 7] rfl) (hD.sub [0, 1, 2, 3, 4, 5, 6, 7] rfl rfl) hS (lv_sub hl [2, 3, 1, 0] rfl)
      · skip
        refine lv_iconst (v := 1) hx hb dX7_kindsNow_33 (by decide) ?_
        refine lv_iload_n hx hb dX7_kindsNow_34 rfl (lv_at hl 3 rfl) ?_
        refine lv_ishl hx hb dX7_kindsNow_35 ?_
        refine lv_goto (tgt := 40) hx hb dX7_kindsNow_36 (by decide) ?_
        refine lv_ior hx hb dX7_kindsNow_40 ?_
        refine lv_istore_n (lv' := [(2, .int (bi ||| ((1 : Int32) <<< ((nI i) &&& 31)))), (0, .ref m0), (1, .int (nI a)), (3, .int (nI i))]) hx hb dX7_kindsNow_41 rfl hl (by decide) rfl (fun ls hl => ?_)
        refine lv_iinc (v := nI (i + 1)) (lv' := [(3, .int (nI (i + 1))), (2, .int (bi ||| ((1 : Int32) <<< ((nI i) &&& 31)))), (0, .ref m0), (1, .int (nI a))]) hx hb dX7_kindsNow_42 hl (k := 3) rfl (nI_1 i) (by decide) rfl (fun ls hl => ?_)
        refine lv_goto (tgt := 8) hx hb dX7_kindsNow_45 (by decide) ?_
        exact ih_8 (i + 1) (bi ||| ((1 : Int32) <<< ((nI i) &&& 31))) (by omega) _ _ _ (hP.sub [0, 1, 2, 3, 4, 5, 6, 7] rfl) (hD.sub [0, 1, 2, 3, 4, 5, 6, 7] rfl rfl) hS (lv_sub hl [2, 3, 1, 0] rfl)
  exact LOOP_8 16 0 0 (by omega) _ _ _ (hP.sub [0, 1, 2, 3, 4, 5, 6, 7] rfl) (hD.sub [0, 1, 2, 3, 4, 5, 6, 7] rfl rfl) hS (lv_sub hl [2, 3, 1, 0] rfl)
set_option maxHeartbeats 4000000 in
set_option maxRecDepth 100000 in
theorem c_X7_kinds (sz : Nat) (m0 : Nat) (m1 : Nat) (m2 : Nat) (m3 : Nat) (m4 : Nat) (m5 : Nat) (m6 : Nat) (m7 : Nat) (m8 : Nat) (m9 : Nat) (m10 : Nat) (m11 : Nat) (m12 : Nat) (m13 : Nat) (z : Nat) (r9 : Nat) (n9 : Nat) (v : Nat) (k1 : Int32) (k2 : Int32) (k3 : Int32) (k4 : Int32) (k5 : Int32) (k6 : Int32) (k7 : Int32) (k8 : Int32) (k9 : Int32) (hv : Int64) (re : Nat → Int32) (rg : Nat → Int32) (cn : Nat → Int32) (ro : Nat → Int32) (rn : Nat → Int32) (fa : Nat → Int32) (la : Nat → Int64) (p0 : Int32) (hr9 : r9 ≤ 9) (hmr : MRI ro re rn rg r9) (hLR : LR la) : CTi l D cI cJ cZ cR yX7_kinds cX7_kinds 2 (some .int) 6 146 0 0 sz [.ref m0, .int p0] [kX7 m0 (nI z) m1 (nI r9) m2 m3 m4 m5 (nI n9) (nI v) m6 k1 k2 k3 k4 m7 k5 k6 k7 k8 m8 m9 m10 k9 m11 m12 m13 hv, kI cI m3 9 re, kI cI m5 27 rg, kI cI m13 3 cn, kI cI m2 9 ro, kI cI m4 9 rn, kJ cJ m11 80 la, kI cI m12 48 fa] (fun (r : Int32) (u : Int32 × (Nat → Int64) × (Nat → Int32) × (Nat → Int32)) => (LR u.2.1)) (fun (u : Int32 × (Nat → Int64) × (Nat → Int32) × (Nat → Int32)) => [kX7 m0 (nI z) m1 (nI r9) m2 m3 m4 m5 (nI n9) (nI v) m6 k1 k2 k3 k4 m7 k5 k6 k7 k8 m8 m9 m10 u.1 m11 m12 m13 hv, kI cI m3 9 re, kI cI m5 27 rg, kI cI m13 3 u.2.2.2, kI cI m2 9 ro, kI cI m4 9 rn, kJ cJ m11 80 u.2.1, kI cI m12 48 u.2.2.1]) := by
  refine CTi.of (ty := .int) (by decide) (Nat.le_of_ble_eq_true rfl) rfl ?_
  intro p e s m below meth c A Q ls hd hin hK hsz hP hD hA hS hl hret
  obtain ⟨hx, hb, hml, hown, hts⟩ := id hd
  have hK1 := hK.1
  have hown : s.vm.findClass RX7 = some m.cls := hown
  have hl : lv_has ls 2 [(0, .ref m0), (1, .int p0)] := hl
  refine lv_iload_n hx hb dX7_kinds_0 rfl (lv_at hl 1 rfl) ?_
  refine lv_iconst (v := 0) hx hb dX7_kinds_1 (by decide) ?_
  refine lv_iconst (v := 2) hx hb dX7_kinds_2 (by decide) ?_
  refine xc_i (wc := []) (wr := [kX7 m0 (nI z) m1 (nI r9) m2 m3 m4 m5 (nI n9) (nI v) m6 k1 k2 k3 k4 m7 k5 k6 k7 k8 m8 m9 m10 k9 m11 m12 m13 hv, kI cI m3 9 re, kI cI m5 27 rg, kI cI m13 3 cn, kI cI m2 9 ro, kI cI m4 9 rn, kJ cJ m11 80 la, kI cI m12 48 fa]) (xrS (n := 3) (As := [.int p0, .int 0, .int 2]) (rest := []) hd hK hP hD (c_X7_within l D cI cJ cZ cR _ p0 0 2 ) (gS t_637 mS_X7_within) hS_X7_within ⟨(Nat.le_of_ble_eq_true rfl), (Nat.le_of_ble_eq_true rfl)⟩ [] rfl rfl rfl hl.1 rfl (Nat.le_of_ble_eq_true rfl) dX7_kinds_3 ⟨(Nat.le_of_ble_eq_true rfl), (Nat.le_of_ble_eq_true rfl)⟩) hP hD hS hA [] [0, 1, 2, 3, 4, 5, 6, 7] rfl rfl rfl (by decide) (fun r_1 u_2 H locs hw_3 hP hD hS => ?_)
  have hw_4 : r_1 = (wi p0 0 2) := hw_3
  subst hw_4
  have hP : va_P D vwCl [kX7 m0 (nI z) m1 (nI r9) m2 m3 m4 m5 (nI n9) (nI v) m6 k1 k2 k3 k4 m7 k5 k6 k7 k8 m8 m9 m10 k9 m11 m12 m13 hv, kI cI m3 9 re, kI cI m5 27 rg, kI cI m13 3 cn, kI cI m2 9 ro, kI cI m4 9 rn, kJ cJ m11 80 la, kI cI m12 48 fa] H := hP
  have hD : va_D A [kX7 m0 (nI z) m1 (nI r9) m2 m3 m4 m5 (nI n9) (nI v) m6 k1 k2 k3 k4 m7 k5 k6 k7 k8 m8 m9 m10 k9 m11 m12 m13 hv, kI cI m3 9 re, kI cI m5 27 rg, kI cI m13 3 cn, kI cI m2 9 ro, kI cI m4 9 rn, kJ cJ m11 80 la, kI cI m12 48 fa] := hD
  refine lv_if_eq (tgt := 17) hx hb dX7_kinds_6 (by decide) (fun c_5 => ?_) (fun c_5 => ?_)
  · skip
    refine lv_sipush (v := -1001) hx hb dX7_kinds_17 (by decide) ?_
    exact hret _ _ _ _ _ _ (-1001) (k9, la, fa, cn) dX7_kinds_20 rfl hS (Nat.le_of_ble_eq_true rfl) (Nat.le_of_ble_eq_true rfl) hLR (hP.sub [0, 1, 2, 3, 4, 5, 6, 7] rfl) (hD.sub [0, 1, 2, 3, 4, 5, 6, 7] rfl rfl)
  · skip
    obtain ⟨a9, h0a, ha2, ea9⟩ := wi_rng (a := 0) (b := 2) (by decide) (by decide) c_5
    refine lv_aload_n hx hb dX7_kinds_9 rfl (lv_at hl 0 rfl) ?_
    refine lv_iload_n hx hb dX7_kinds_10 rfl (lv_at hl 1 rfl) ?_
    refine lv_nmi (show _ = (nI a9 : Int32) from ea9) ?_
    refine xc_i (wc := [kX7 m0 (nI z) m1 (nI r9) m2 m3 m4 m5 (nI n9) (nI v) m6 k1 k2 k3 k4 m7 k5 k6 k7 k8 m8 m9 m10 k9 m11 m12 m13 hv, kI cI m3 9 re, kI cI m5 27 rg, kI cI m13 3 cn, kI cI m2 9 ro, kI cI m4 9 rn, kJ cJ m11 80 la, kI cI m12 48 fa]) (wr := []) (xrV (n := 1) (As := [.int (nI a9)]) (rest := []) (ci := 7) (q0 := 0) hd hK hP hD (c_X7_kindsNow l D cI cJ cZ cR _ m0 m1 m2 m3 m4 m5 m6 m7 m8 m9 m10 m11 m12 m13 z r9 n9 v k1 k2 k3 k4 k5 k6 k7 k8 k9 hv re rg cn ro rn fa la a9 hr9 hmr hLR (by omega)) (gV t_814 mV_X7_kindsNow) hV_X7_kindsNow ⟨(Nat.le_of_ble_eq_true rfl), (Nat.le_of_ble_eq_true rfl)⟩ rfl rfl [0, 1, 2, 3, 4, 5, 6, 7] rfl rfl rfl hl.1 rfl (Nat.le_of_ble_eq_true rfl) dX7_kinds_11 ⟨(Nat.le_of_ble_eq_true rfl), (Nat.le_of_ble_eq_true rfl)⟩) hP hD hS hA [0, 1, 2, 3, 4, 5, 6, 7] [] rfl rfl rfl (by decide) (fun r_6 u_7 H locs hw_8 hP hD hS => ?_)
    obtain ⟨k9b_9, la2_10, fa2_11, cn2_12⟩ := u_7
    have hw_13 : LR la2_10 := hw_8
    have hP : va_P D vwCl [kX7 m0 (nI z) m1 (nI r9) m2 m3 m4 m5 (nI n9) (nI v) m6 k1 k2 k3 k4 m7 k5 k6 k7 k8 m8 m9 m10 k9b_9 m11 m12 m13 hv, kI cI m3 9 re, kI cI m5 27 rg, kI cI m13 3 cn2_12, kI cI m2 9 ro, kI cI m4 9 rn, kJ cJ m11 80 la2_10, kI cI m12 48 fa2_11] H := hP
    have hD : va_D A [kX7 m0 (nI z) m1 (nI r9) m2 m3 m4 m5 (nI n9) (nI v) m6 k1 k2 k3 k4 m7 k5 k6 k7 k8 m8 m9 m10 k9b_9 m11 m12 m13 hv, kI cI m3 9 re, kI cI m5 27 rg, kI cI m13 3 cn2_12, kI cI m2 9 ro, kI cI m4 9 rn, kJ cJ m11 80 la2_10, kI cI m12 48 fa2_11] := hD
    refine lv_goto (tgt := 20) hx hb dX7_kinds_14 (by decide) ?_
    exact hret _ _ _ _ _ _ r_6 (k9b_9, la2_10, fa2_11, cn2_12) dX7_kinds_20 rfl hS (Nat.le_of_ble_eq_true rfl) (Nat.le_of_ble_eq_true rfl) hw_13 (hP.sub [0, 1, 2, 3, 4, 5, 6, 7] rfl) (hD.sub [0, 1, 2, 3, 4, 5, 6, 7] rfl rfl)
set_option maxHeartbeats 4000000 in
set_option maxRecDepth 100000 in
theorem c_X7_lightNow (sz : Nat) (m0 : Nat) (m1 : Nat) (m2 : Nat) (m3 : Nat) (m4 : Nat) (m5 : Nat) (m6 : Nat) (m7 : Nat) (m8 : Nat) (m9 : Nat) (m10 : Nat) (m11 : Nat) (m12 : Nat) (m13 : Nat) (z : Nat) (r9 : Nat) (n9 : Nat) (v : Nat) (k1 : Int32) (k2 : Int32) (k3 : Int32) (k4 : Int32) (k5 : Int32) (k6 : Int32) (k7 : Int32) (k8 : Int32) (k9 : Int32) (hv : Int64) (re : Nat → Int32) (rg : Nat → Int32) (cn : Nat → Int32) (ro : Nat → Int32) (rn : Nat → Int32) (fa : Nat → Int32) (la : Nat → Int64) (a : Nat) (b : Nat) (p2 : Int32) (hr9 : r9 ≤ 9) (hmr : MRI ro re rn rg r9) (hLR : LR la) (ha : a < 3) (hb16 : b < 16) : CTi l D cI cJ cZ cR yX7_lightNow cX7_lightNow 5 (some .int) 5 123 0 0 sz [.ref m0, .int (nI a), .int (nI b), .int p2] [kX7 m0 (nI z) m1 (nI r9) m2 m3 m4 m5 (nI n9) (nI v) m6 k1 k2 k3 k4 m7 k5 k6 k7 k8 m8 m9 m10 k9 m11 m12 m13 hv, kI cI m3 9 re, kI cI m5 27 rg, kI cI m13 3 cn, kI cI m2 9 ro, kI cI m4 9 rn, kJ cJ m11 80 la, kI cI m12 48 fa] (fun (r : Int32) (u : Int32 × (Nat → Int64) × (Nat → Int32) × (Nat → Int32)) => (LR u.2.1)) (fun (u : Int32 × (Nat → Int64) × (Nat → Int32) × (Nat → Int32)) => [kX7 m0 (nI z) m1 (nI r9) m2 m3 m4 m5 (nI n9) (nI v) m6 k1 k2 k3 k4 m7 k5 k6 k7 k8 m8 m9 m10 u.1 m11 m12 m13 hv, kI cI m3 9 re, kI cI m5 27 rg, kI cI m13 3 u.2.2.2, kI cI m2 9 ro, kI cI m4 9 rn, kJ cJ m11 80 u.2.1, kI cI m12 48 u.2.2.1]) := by
  refine CTi.of (ty := .int) (by decide) (Nat.le_of_ble_eq_true rfl) rfl ?_
  intro p e s m below meth c A Q ls hd hin hK hsz hP hD hA hS hl hret
  obtain ⟨hx, hb, hml, hown, hts⟩ := id hd
  have hK1 := hK.1
  have hown : s.vm.findClass RX7 = some m.cls := hown
  have hl : lv_has ls 5 [(0, .ref m0), (1, .int (nI a)), (2, .int (nI b)), (3, .int p2)] := hl
  refine lv_aload_n hx hb dX7_lightNow_0 rfl (lv_at hl 0 rfl) ?_
  refine xc_v (wc := [kX7 m0 (nI z) m1 (nI r9) m2 m3 m4 m5 (nI n9) (nI v) m6 k1 k2 k3 k4 m7 k5 k6 k7 k8 m8 m9 m10 k9 m11 m12 m13 hv, kI cI m3 9 re, kI cI m5 27 rg, kI cI m13 3 cn, kI cI m2 9 ro, kI cI m4 9 rn, kJ cJ m11 80 la, kI cI m12 48 fa]) (wr := []) (xrV (n := 0) (As := []) (rest := []) (ci := 7) (q0 := 0) hd hK hP hD (c_X7_layLights l D cI cJ cZ cR _ m0 m1 m2 m3 m4 m5 m6 m7 m8 m9 m10 m11 m12 m13 z r9 n9 v k1 k2 k3 k4 k5 k6 k7 k8 k9 hv re rg cn ro rn fa la hr9 hmr hLR) (gV t_818 mV_X7_layLights) hV_X7_layLights ⟨(Nat.le_of_ble_eq_true rfl), (Nat.le_of_ble_eq_true rfl)⟩ rfl rfl [0, 1, 2, 3, 4, 5, 6, 7] rfl rfl rfl hl.1 rfl (Nat.le_of_ble_eq_true rfl) dX7_lightNow_1 ⟨(Nat.le_of_ble_eq_true rfl), (Nat.le_of_ble_eq_true rfl)⟩) hP hD hS hA [0, 1, 2, 3, 4, 5, 6, 7] [] rfl rfl rfl (by decide) (fun u_2 H locs hw_3 hP hD hS => ?_)
  obtain ⟨k9b_4, la2_5, fa2_6, cn2_7⟩ := u_2
  have hw_8 : LR la2_5 := hw_3
  have hL9 := hw_8
  have hP : va_P D vwCl [kX7 m0 (nI z) m1 (nI r9) m2 m3 m4 m5 (nI n9) (nI v) m6 k1 k2 k3 k4 m7 k5 k6 k7 k8 m8 m9 m10 k9b_4 m11 m12 m13 hv, kI cI m3 9 re, kI cI m5 27 rg, kI cI m13 3 cn2_7, kI cI m2 9 ro, kI cI m4 9 rn, kJ cJ m11 80 la2_5, kI cI m12 48 fa2_6] H := hP
  have hD : va_D A [kX7 m0 (nI z) m1 (nI r9) m2 m3 m4 m5 (nI n9) (nI v) m6 k1 k2 k3 k4 m7 k5 k6 k7 k8 m8 m9 m10 k9b_4 m11 m12 m13 hv, kI cI m3 9 re, kI cI m5 27 rg, kI cI m13 3 cn2_7, kI cI m2 9 ro, kI cI m4 9 rn, kJ cJ m11 80 la2_5, kI cI m12 48 fa2_6] := hD
  refine lv_bipush (v := 16) hx hb dX7_lightNow_4 (by decide) ?_
  refine lv_iload_n hx hb dX7_lightNow_6 rfl (lv_at hl 1 rfl) ?_
  refine lv_imul hx hb dX7_lightNow_7 ?_
  refine lv_nmi (show _ = (nI (16 * a)) from pk_mul (16) (a)) ?_
  refine lv_iload_n hx hb dX7_lightNow_8 rfl (lv_at hl 2 rfl) ?_
  refine lv_iadd hx hb dX7_lightNow_9 ?_
  refine lv_nmi (show _ = (nI ((16 * a) + b)) from nI_add ((16 * a)) (b)) ?_
  refine lv_istore (lv' := [(4, .int (nI ((16 * a) + b))), (0, .ref m0), (1, .int (nI a)), (2, .int (nI b)), (3, .int p2)]) hx hb dX7_lightNow_10 hl (by decide) rfl (fun ls hl => ?_)
  refine lv_iload_n hx hb dX7_lightNow_12 rfl (lv_at hl 4 rfl) ?_
  refine lv_iconst (v := 1) hx hb dX7_lightNow_13 (by decide) ?_
  refine lv_icmp_ne (tgt := 27) hx hb dX7_lightNow_14 (by decide) (fun c_9 => ?_) (fun c_9 => ?_)
  · skip
    refine lv_aload_n hx hb dX7_lightNow_27 rfl (lv_at hl 1 rfl) ?_
    refine va_get (D := D) (ci := 7) (v := .ref m11) (C := RX7) (T := TX7) (N := 27) hx hb hts iT_X7 hown hK1 hP 0 rfl rfl 23 (by decide) (hts _ t_574) (fun _ h9 => h9) rfl dX7_lightNow_28 ?_
    refine lv_iload hx hb dX7_lightNow_31 (lv_at hl 0 rfl) ?_
    refine va_lald hx hb hK1 hP 6 1 rfl rfl (vp_in_nI (by omega) (by omega)) dX7_lightNow_33 ?_
    refine lv_nml (show _ = la2_5 ((16 * a) + b) from by rw [nI_clamp (n := ((16 * a) + b)) (by omega)]) ?_
    refine lv_ldc2 hx hb hown (hts _ t_825) dX7_lightNow_34 ?_
    refine W.lcmp hx hb dX7_lightNow_37 ?_
    refine lv_if_ge (tgt := 52) hx hb dX7_lightNow_38 (by decide) (fun c_10 => ?_) (fun c_10 => ?_)
    · skip
      refine lv_iconst (v := -1) hx hb dX7_lightNow_52 (by decide) ?_
      exact hret _ _ _ _ _ _ (-1) (k9b_4, la2_5, fa2_6, cn2_7) dX7_lightNow_53 rfl hS (Nat.le_of_ble_eq_true rfl) (Nat.le_of_ble_eq_true rfl) hL9 (hP.sub [0, 1, 2, 3, 4, 5, 6, 7] rfl) (hD.sub [0, 1, 2, 3, 4, 5, 6, 7] rfl rfl)
    · skip
      refine lv_aload_n hx hb dX7_lightNow_41 rfl (lv_at hl 1 rfl) ?_
      refine va_get (D := D) (ci := 7) (v := .ref m11) (C := RX7) (T := TX7) (N := 27) hx hb hts iT_X7 hown hK1 hP 0 rfl rfl 23 (by decide) (hts _ t_574) (fun _ h9 => h9) rfl dX7_lightNow_42 ?_
      refine lv_iload hx hb dX7_lightNow_45 (lv_at hl 0 rfl) ?_
      refine va_lald hx hb hK1 hP 6 1 rfl rfl (vp_in_nI (by omega) (by omega)) dX7_lightNow_47 ?_
      refine lv_nml (show _ = la2_5 ((16 * a) + b) from by rw [nI_clamp (n := ((16 * a) + b)) (by omega)]) ?_
      refine lv_l2i (v := (la2_5 ((16 * a) + b)).toInt32) hx hb dX7_lightNow_48 rfl ?_
      refine lv_goto (tgt := 53) hx hb dX7_lightNow_49 (by decide) ?_
      exact hret _ _ _ _ _ _ ((la2_5 ((16 * a) + b)).toInt32) (k9b_4, la2_5, fa2_6, cn2_7) dX7_lightNow_53 rfl hS (Nat.le_of_ble_eq_true rfl) (Nat.le_of_ble_eq_true rfl) hL9 (hP.sub [0, 1, 2, 3, 4, 5, 6, 7] rfl) (hD.sub [0, 1, 2, 3, 4, 5, 6, 7] rfl rfl)
  · skip
    refine lv_aload_n hx hb dX7_lightNow_17 rfl (lv_at hl 1 rfl) ?_
    refine va_get (D := D) (ci := 7) (v := .ref m12) (C := RX7) (T := TX7) (N := 27) hx hb hts iT_X7 hown hK1 hP 0 rfl rfl 24 (by decide) (hts _ t_575) (fun _ h9 => h9) rfl dX7_lightNow_18 ?_
    refine lv_iload hx hb dX7_lightNow_21 (lv_at hl 0 rfl) ?_
    refine va_iald hx hb hK1 hP 7 0 rfl rfl (vp_in_nI (by omega) (by omega)) dX7_lightNow_23 ?_
    refine lv_nmi (show _ = fa2_6 ((16 * a) + b) from by rw [nI_clamp (n := ((16 * a) + b)) (by omega)]) ?_
    refine lv_goto (tgt := 53) hx hb dX7_lightNow_24 (by decide) ?_
    exact hret _ _ _ _ _ _ (fa2_6 ((16 * a) + b)) (k9b_4, la2_5, fa2_6, cn2_7) dX7_lightNow_53 rfl hS (Nat.le_of_ble_eq_true rfl) (Nat.le_of_ble_eq_true rfl) hL9 (hP.sub [0, 1, 2, 3, 4, 5, 6, 7] rfl) (hD.sub [0, 1, 2, 3, 4, 5, 6, 7] rfl rfl)
set_option maxHeartbeats 4000000 in
set_option maxRecDepth 100000 in
theorem c_X7_light (sz : Nat) (m0 : Nat) (m1 : Nat) (m2 : Nat) (m3 : Nat) (m4 : Nat) (m5 : Nat) (m6 : Nat) (m7 : Nat) (m8 : Nat) (m9 : Nat) (m10 : Nat) (m11 : Nat) (m12 : Nat) (m13 : Nat) (z : Nat) (r9 : Nat) (n9 : Nat) (v : Nat) (k1 : Int32) (k2 : Int32) (k3 : Int32) (k4 : Int32) (k5 : Int32) (k6 : Int32) (k7 : Int32) (k8 : Int32) (k9 : Int32) (hv : Int64) (re : Nat → Int32) (rg : Nat → Int32) (cn : Nat → Int32) (ro : Nat → Int32) (rn : Nat → Int32) (fa : Nat → Int32) (la : Nat → Int64) (p0 : Int32) (p1 : Int32) (p2 : Int32) (hr9 : r9 ≤ 9) (hmr : MRI ro re rn rg r9) (hLR : LR la) : CTi l D cI cJ cZ cR yX7_light cX7_light 4 (some .int) 6 147 0 0 sz [.ref m0, .int p0, .int p1, .int p2] [kX7 m0 (nI z) m1 (nI r9) m2 m3 m4 m5 (nI n9) (nI v) m6 k1 k2 k3 k4 m7 k5 k6 k7 k8 m8 m9 m10 k9 m11 m12 m13 hv, kI cI m3 9 re, kI cI m5 27 rg, kI cI m13 3 cn, kI cI m2 9 ro, kI cI m4 9 rn, kJ cJ m11 80 la, kI cI m12 48 fa] (fun (r : Int32) (u : Int32 × (Nat → Int64) × (Nat → Int32) × (Nat → Int32)) => (LR u.2.1)) (fun (u : Int32 × (Nat → Int64) × (Nat → Int32) × (Nat → Int32)) => [kX7 m0 (nI z) m1 (nI r9) m2 m3 m4 m5 (nI n9) (nI v) m6 k1 k2 k3 k4 m7 k5 k6 k7 k8 m8 m9 m10 u.1 m11 m12 m13 hv, kI cI m3 9 re, kI cI m5 27 rg, kI cI m13 3 u.2.2.2, kI cI m2 9 ro, kI cI m4 9 rn, kJ cJ m11 80 u.2.1, kI cI m12 48 u.2.2.1]) := by
  refine CTi.of (ty := .int) (by decide) (Nat.le_of_ble_eq_true rfl) rfl ?_
  intro p e s m below meth c A Q ls hd hin hK hsz hP hD hA hS hl hret
  obtain ⟨hx, hb, hml, hown, hts⟩ := id hd
  have hK1 := hK.1
  have hown : s.vm.findClass RX7 = some m.cls := hown
  have hl : lv_has ls 4 [(0, .ref m0), (1, .int p0), (2, .int p1), (3, .int p2)] := hl
  refine lv_iload_n hx hb dX7_light_0 rfl (lv_at hl 1 rfl) ?_
  refine lv_iconst (v := 0) hx hb dX7_light_1 (by decide) ?_
  refine lv_iconst (v := 2) hx hb dX7_light_2 (by decide) ?_
  refine xc_i (wc := []) (wr := [kX7 m0 (nI z) m1 (nI r9) m2 m3 m4 m5 (nI n9) (nI v) m6 k1 k2 k3 k4 m7 k5 k6 k7 k8 m8 m9 m10 k9 m11 m12 m13 hv, kI cI m3 9 re, kI cI m5 27 rg, kI cI m13 3 cn, kI cI m2 9 ro, kI cI m4 9 rn, kJ cJ m11 80 la, kI cI m12 48 fa]) (xrS (n := 3) (As := [.int p0, .int 0, .int 2]) (rest := []) hd hK hP hD (c_X7_within l D cI cJ cZ cR _ p0 0 2 ) (gS t_637 mS_X7_within) hS_X7_within ⟨(Nat.le_of_ble_eq_true rfl), (Nat.le_of_ble_eq_true rfl)⟩ [] rfl rfl rfl hl.1 rfl (Nat.le_of_ble_eq_true rfl) dX7_light_3 ⟨(Nat.le_of_ble_eq_true rfl), (Nat.le_of_ble_eq_true rfl)⟩) hP hD hS hA [] [0, 1, 2, 3, 4, 5, 6, 7] rfl rfl rfl (by decide) (fun r_1 u_2 H locs hw_3 hP hD hS => ?_)
  have hw_4 : r_1 = (wi p0 0 2) := hw_3
  subst hw_4
  have hP : va_P D vwCl [kX7 m0 (nI z) m1 (nI r9) m2 m3 m4 m5 (nI n9) (nI v) m6 k1 k2 k3 k4 m7 k5 k6 k7 k8 m8 m9 m10 k9 m11 m12 m13 hv, kI cI m3 9 re, kI cI m5 27 rg, kI cI m13 3 cn, kI cI m2 9 ro, kI cI m4 9 rn, kJ cJ m11 80 la, kI cI m12 48 fa] H := hP
  have hD : va_D A [kX7 m0 (nI z) m1 (nI r9) m2 m3 m4 m5 (nI n9) (nI v) m6 k1 k2 k3 k4 m7 k5 k6 k7 k8 m8 m9 m10 k9 m11 m12 m13 hv, kI cI m3 9 re, kI cI m5 27 rg, kI cI m13 3 cn, kI cI m2 9 ro, kI cI m4 9 rn, kJ cJ m11 80 la, kI cI m12 48 fa] := hD
  refine lv_if_ne (tgt := 13) hx hb dX7_light_6 (by decide) (fun c_5 => ?_) (fun c_5 => ?_)
  · skip
    refine lv_iload_n hx hb dX7_light_13 rfl (lv_at hl 2 rfl) ?_
    refine lv_iconst (v := 0) hx hb dX7_light_14 (by decide) ?_
    refine lv_bipush (v := 15) hx hb dX7_light_15 (by decide) ?_
    refine xc_i (wc := []) (wr := [kX7 m0 (nI z) m1 (nI r9) m2 m3 m4 m5 (nI n9) (nI v) m6 k1 k2 k3 k4 m7 k5 k6 k7 k8 m8 m9 m10 k9 m11 m12 m13 hv, kI cI m3 9 re, kI cI m5 27 rg, kI cI m13 3 cn, kI cI m2 9 ro, kI cI m4 9 rn, kJ cJ m11 80 la, kI cI m12 48 fa]) (xrS (n := 3) (As := [.int p1, .int 0, .int 15]) (rest := []) hd hK hP hD (c_X7_within l D cI cJ cZ cR _ p1 0 15 ) (gS t_637 mS_X7_within) hS_X7_within ⟨(Nat.le_of_ble_eq_true rfl), (Nat.le_of_ble_eq_true rfl)⟩ [] rfl rfl rfl hl.1 rfl (Nat.le_of_ble_eq_true rfl) dX7_light_17 ⟨(Nat.le_of_ble_eq_true rfl), (Nat.le_of_ble_eq_true rfl)⟩) hP hD hS hA [] [0, 1, 2, 3, 4, 5, 6, 7] rfl rfl rfl (by decide) (fun r_6 u_7 H locs hw_8 hP hD hS => ?_)
    have hw_9 : r_6 = (wi p1 0 15) := hw_8
    subst hw_9
    have hP : va_P D vwCl [kX7 m0 (nI z) m1 (nI r9) m2 m3 m4 m5 (nI n9) (nI v) m6 k1 k2 k3 k4 m7 k5 k6 k7 k8 m8 m9 m10 k9 m11 m12 m13 hv, kI cI m3 9 re, kI cI m5 27 rg, kI cI m13 3 cn, kI cI m2 9 ro, kI cI m4 9 rn, kJ cJ m11 80 la, kI cI m12 48 fa] H := hP
    have hD : va_D A [kX7 m0 (nI z) m1 (nI r9) m2 m3 m4 m5 (nI n9) (nI v) m6 k1 k2 k3 k4 m7 k5 k6 k7 k8 m8 m9 m10 k9 m11 m12 m13 hv, kI cI m3 9 re, kI cI m5 27 rg, kI cI m13 3 cn, kI cI m2 9 ro, kI cI m4 9 rn, kJ cJ m11 80 la, kI cI m12 48 fa] := hD
    refine lv_if_eq (tgt := 42) hx hb dX7_light_20 (by decide) (fun c_10 => ?_) (fun c_10 => ?_)
    · skip
      refine lv_sipush (v := -1002) hx hb dX7_light_42 (by decide) ?_
      exact hret _ _ _ _ _ _ (-1002) (k9, la, fa, cn) dX7_light_45 rfl hS (Nat.le_of_ble_eq_true rfl) (Nat.le_of_ble_eq_true rfl) hLR (hP.sub [0, 1, 2, 3, 4, 5, 6, 7] rfl) (hD.sub [0, 1, 2, 3, 4, 5, 6, 7] rfl rfl)
    · skip
      refine lv_iload_n hx hb dX7_light_23 rfl (lv_at hl 3 rfl) ?_
      refine lv_iconst (v := 0) hx hb dX7_light_24 (by decide) ?_
      refine lv_iconst (v := 1) hx hb dX7_light_25 (by decide) ?_
      refine xc_i (wc := []) (wr := [kX7 m0 (nI z) m1 (nI r9) m2 m3 m4 m5 (nI n9) (nI v) m6 k1 k2 k3 k4 m7 k5 k6 k7 k8 m8 m9 m10 k9 m11 m12 m13 hv, kI cI m3 9 re, kI cI m5 27 rg, kI cI m13 3 cn, kI cI m2 9 ro, kI cI m4 9 rn, kJ cJ m11 80 la, kI cI m12 48 fa]) (xrS (n := 3) (As := [.int p2, .int 0, .int 1]) (rest := []) hd hK hP hD (c_X7_within l D cI cJ cZ cR _ p2 0 1 ) (gS t_637 mS_X7_within) hS_X7_within ⟨(Nat.le_of_ble_eq_true rfl), (Nat.le_of_ble_eq_true rfl)⟩ [] rfl rfl rfl hl.1 rfl (Nat.le_of_ble_eq_true rfl) dX7_light_26 ⟨(Nat.le_of_ble_eq_true rfl), (Nat.le_of_ble_eq_true rfl)⟩) hP hD hS hA [] [0, 1, 2, 3, 4, 5, 6, 7] rfl rfl rfl (by decide) (fun r_11 u_12 H locs hw_13 hP hD hS => ?_)
      have hw_14 : r_11 = (wi p2 0 1) := hw_13
      subst hw_14
      have hP : va_P D vwCl [kX7 m0 (nI z) m1 (nI r9) m2 m3 m4 m5 (nI n9) (nI v) m6 k1 k2 k3 k4 m7 k5 k6 k7 k8 m8 m9 m10 k9 m11 m12 m13 hv, kI cI m3 9 re, kI cI m5 27 rg, kI cI m13 3 cn, kI cI m2 9 ro, kI cI m4 9 rn, kJ cJ m11 80 la, kI cI m12 48 fa] H := hP
      have hD : va_D A [kX7 m0 (nI z) m1 (nI r9) m2 m3 m4 m5 (nI n9) (nI v) m6 k1 k2 k3 k4 m7 k5 k6 k7 k8 m8 m9 m10 k9 m11 m12 m13 hv, kI cI m3 9 re, kI cI m5 27 rg, kI cI m13 3 cn, kI cI m2 9 ro, kI cI m4 9 rn, kJ cJ m11 80 la, kI cI m12 48 fa] := hD
      refine lv_if_eq (tgt := 42) hx hb dX7_light_29 (by decide) (fun c_15 => ?_) (fun c_15 => ?_)
      · skip
        refine lv_sipush (v := -1002) hx hb dX7_light_42 (by decide) ?_
        exact hret _ _ _ _ _ _ (-1002) (k9, la, fa, cn) dX7_light_45 rfl hS (Nat.le_of_ble_eq_true rfl) (Nat.le_of_ble_eq_true rfl) hLR (hP.sub [0, 1, 2, 3, 4, 5, 6, 7] rfl) (hD.sub [0, 1, 2, 3, 4, 5, 6, 7] rfl rfl)
      · skip
        obtain ⟨a9, h0a, ha2, ea9⟩ := wi_rng (a := 0) (b := 2) (by decide) (by decide) c_5
        obtain ⟨b9, h0b, hb15, eb9⟩ := wi_rng (a := 0) (b := 15) (by decide) (by decide) c_10
        refine lv_aload_n hx hb dX7_light_32 rfl (lv_at hl 0 rfl) ?_
        refine lv_iload_n hx hb dX7_light_33 rfl (lv_at hl 1 rfl) ?_
        refine lv_nmi (show _ = (nI a9 : Int32) from ea9) ?_
        refine lv_iload_n hx hb dX7_light_34 rfl (lv_at hl 2 rfl) ?_
        refine lv_nmi (show _ = (nI b9 : Int32) from eb9) ?_
        refine lv_iload_n hx hb dX7_light_35 rfl (lv_at hl 3 rfl) ?_
        refine xc_i (wc := [kX7 m0 (nI z) m1 (nI r9) m2 m3 m4 m5 (nI n9) (nI v) m6 k1 k2 k3 k4 m7 k5 k6 k7 k8 m8 m9 m10 k9 m11 m12 m13 hv, kI cI m3 9 re, kI cI m5 27 rg, kI cI m13 3 cn, kI cI m2 9 ro, kI cI m4 9 rn, kJ cJ m11 80 la, kI cI m12 48 fa]) (wr := []) (xrV (n := 3) (As := [.int (nI a9), .int (nI b9), .int p2]) (rest := []) (ci := 7) (q0 := 0) hd hK hP hD (c_X7_lightNow l D cI cJ cZ cR _ m0 m1 m2 m3 m4 m5 m6 m7 m8 m9 m10 m11 m12 m13 z r9 n9 v k1 k2 k3 k4 k5 k6 k7 k8 k9 hv re rg cn ro rn fa la a9 b9 p2 hr9 hmr hLR (by omega) (by omega)) (gV t_846 mV_X7_lightNow) hV_X7_lightNow ⟨(Nat.le_of_ble_eq_true rfl), (Nat.le_of_ble_eq_true rfl)⟩ rfl rfl [0, 1, 2, 3, 4, 5, 6, 7] rfl rfl rfl hl.1 rfl (Nat.le_of_ble_eq_true rfl) dX7_light_36 ⟨(Nat.le_of_ble_eq_true rfl), (Nat.le_of_ble_eq_true rfl)⟩) hP hD hS hA [0, 1, 2, 3, 4, 5, 6, 7] [] rfl rfl rfl (by decide) (fun r_16 u_17 H locs hw_18 hP hD hS => ?_)
        obtain ⟨k9b_19, la2_20, fa2_21, cn2_22⟩ := u_17
        have hw_23 : LR la2_20 := hw_18
        have hP : va_P D vwCl [kX7 m0 (nI z) m1 (nI r9) m2 m3 m4 m5 (nI n9) (nI v) m6 k1 k2 k3 k4 m7 k5 k6 k7 k8 m8 m9 m10 k9b_19 m11 m12 m13 hv, kI cI m3 9 re, kI cI m5 27 rg, kI cI m13 3 cn2_22, kI cI m2 9 ro, kI cI m4 9 rn, kJ cJ m11 80 la2_20, kI cI m12 48 fa2_21] H := hP
        have hD : va_D A [kX7 m0 (nI z) m1 (nI r9) m2 m3 m4 m5 (nI n9) (nI v) m6 k1 k2 k3 k4 m7 k5 k6 k7 k8 m8 m9 m10 k9b_19 m11 m12 m13 hv, kI cI m3 9 re, kI cI m5 27 rg, kI cI m13 3 cn2_22, kI cI m2 9 ro, kI cI m4 9 rn, kJ cJ m11 80 la2_20, kI cI m12 48 fa2_21] := hD
        refine lv_goto (tgt := 45) hx hb dX7_light_39 (by decide) ?_
        exact hret _ _ _ _ _ _ r_16 (k9b_19, la2_20, fa2_21, cn2_22) dX7_light_45 rfl hS (Nat.le_of_ble_eq_true rfl) (Nat.le_of_ble_eq_true rfl) hw_23 (hP.sub [0, 1, 2, 3, 4, 5, 6, 7] rfl) (hD.sub [0, 1, 2, 3, 4, 5, 6, 7] rfl rfl)
  · skip
    refine lv_sipush (v := -1001) hx hb dX7_light_9 (by decide) ?_
    exact hret _ _ _ _ _ _ (-1001) (k9, la, fa, cn) dX7_light_12 rfl hS (Nat.le_of_ble_eq_true rfl) (Nat.le_of_ble_eq_true rfl) hLR (hP.sub [0, 1, 2, 3, 4, 5, 6, 7] rfl) (hD.sub [0, 1, 2, 3, 4, 5, 6, 7] rfl rfl)
end
