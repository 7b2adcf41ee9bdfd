theorem mV_X7_bySplits : Cond.instanceMethod yX7_bySplits ∈ gT ∧ Cond.selects RX7 yX7_bySplits yX7_bySplits ∈ gT ∧ Cond.initialized RX7 ∈ gT ∧ Cond.code yX7_bySplits cX7_bySplits 14 (some .int) ∈ gT := ⟨t_792, ts_49, t_8, t_793⟩
theorem hV_X7_bySplits : yX7_bySplits.cls = RX7 ∧ yX7_bySplits.cls ≠ "java/lang/invoke/MethodHandle" ∧ yX7_bySplits.cls ≠ "java/lang/invoke/VarHandle" ∧ (parseMethodDescriptor yX7_bySplits.desc).map (fun d => d.parameters.length) = some 2 := by decide +kernel
theorem mV_X7_byInner : Cond.instanceMethod yX7_byInner ∈ gT ∧ Cond.selects RX7 yX7_byInner yX7_byInner ∈ gT ∧ Cond.initialized RX7 ∈ gT ∧ Cond.code yX7_byInner cX7_byInner 8 (some .int) ∈ gT := ⟨t_784, ts_47, t_8, t_785⟩
theorem hV_X7_byInner : yX7_byInner.cls = RX7 ∧ yX7_byInner.cls ≠ "java/lang/invoke/MethodHandle" ∧ yX7_byInner.cls ≠ "java/lang/invoke/VarHandle" ∧ (parseMethodDescriptor yX7_byInner.desc).map (fun d => d.parameters.length) = some 2 := by decide +kernel
theorem mV_X7_layEnds : Cond.instanceMethod yX7_layEnds ∈ gT ∧ Cond.selects RX7 yX7_layEnds yX7_layEnds ∈ gT ∧ Cond.initialized RX7 ∈ gT ∧ Cond.code yX7_layEnds cX7_layEnds 7 none ∈ gT := ⟨t_775, ts_45, t_8, t_776⟩
theorem hV_X7_layEnds : yX7_layEnds.cls = RX7 ∧ yX7_layEnds.cls ≠ "java/lang/invoke/MethodHandle" ∧ yX7_layEnds.cls ≠ "java/lang/invoke/VarHandle" ∧ (parseMethodDescriptor yX7_layEnds.desc).map (fun d => d.parameters.length) = some 3 := by decide +kernel
theorem mV_X7_laySingles : Cond.instanceMethod yX7_laySingles ∈ gT ∧ Cond.selects RX7 yX7_laySingles yX7_laySingles ∈ gT ∧ Cond.initialized RX7 ∈ gT ∧ Cond.code yX7_laySingles cX7_laySingles 8 (some .boolean) ∈ gT := ⟨t_808, ts_53, t_8, t_809⟩
theorem hV_X7_laySingles : yX7_laySingles.cls = RX7 ∧ yX7_laySingles.cls ≠ "java/lang/invoke/MethodHandle" ∧ yX7_laySingles.cls ≠ "java/lang/invoke/VarHandle" ∧ (parseMethodDescriptor yX7_laySingles.desc).map (fun d => d.parameters.length) = some 3 := by decide +kernel
theorem mV_X7_laySet : Cond.instanceMethod yX7_laySet ∈ gT ∧ Cond.selects RX7 yX7_laySet yX7_laySet ∈ gT ∧ Cond.initialized RX7 ∈ gT ∧ Cond.code yX7_laySet cX7_laySet 5 none ∈ gT := ⟨t_771, ts_44, t_8, t_772⟩
theorem hV_X7_laySet : yX7_laySet.cls = RX7 ∧ yX7_laySet.cls ≠ "java/lang/invoke/MethodHandle" ∧ yX7_laySet.cls ≠ "java/lang/invoke/VarHandle" ∧ (parseMethodDescriptor yX7_laySet.desc).map (fun d => d.parameters.length) = some 1 := by decide +kernel
theorem mV_X7_layFewest : Cond.instanceMethod yX7_layFewest ∈ gT ∧ Cond.selects RX7 yX7_layFewest yX7_layFewest ∈ gT ∧ Cond.initialized RX7 ∈ gT ∧ Cond.code yX7_layFewest cX7_layFewest 3 none ∈ gT := ⟨t_764, ts_43, t_8, t_765⟩
theorem hV_X7_layFewest : yX7_layFewest.cls = RX7 ∧ yX7_layFewest.cls ≠ "java/lang/invoke/MethodHandle" ∧ yX7_layFewest.cls ≠ "java/lang/invoke/VarHandle" ∧ (parseMethodDescriptor yX7_layFewest.desc).map (fun d => d.parameters.length) = some 0 := by decide +kernel
theorem mV_X7_fewestNow : Cond.instanceMethod yX7_fewestNow ∈ gT ∧ Cond.selects RX7 yX7_fewestNow yX7_fewestNow ∈ gT ∧ Cond.initialized RX7 ∈ gT ∧ Cond.code yX7_fewestNow cX7_fewestNow 3 (some .int) ∈ gT := ⟨t_760, ts_42, t_8, t_761⟩
theorem hV_X7_fewestNow : yX7_fewestNow.cls = RX7 ∧ yX7_fewestNow.cls ≠ "java/lang/invoke/MethodHandle" ∧ yX7_fewestNow.cls ≠ "java/lang/invoke/VarHandle" ∧ (parseMethodDescriptor yX7_fewestNow.desc).map (fun d => d.parameters.length) = some 1 := by decide +kernel
theorem mV_X7_fewest : Cond.instanceMethod yX7_fewest ∈ gT ∧ Cond.selects RX7 yX7_fewest yX7_fewest ∈ gT ∧ Cond.initialized RX7 ∈ gT ∧ Cond.code yX7_fewest cX7_fewest 2 (some .int) ∈ gT := ⟨t_755, t_756, t_8, t_757⟩
theorem hV_X7_fewest : yX7_fewest.cls = RX7 ∧ yX7_fewest.cls ≠ "java/lang/invoke/MethodHandle" ∧ yX7_fewest.cls ≠ "java/lang/invoke/VarHandle" ∧ (parseMethodDescriptor yX7_fewest.desc).map (fun d => d.parameters.length) = some 1 := by decide +kernel
theorem dX7_byInner_0 : decode cX7_byInner 0 = .ok (.ldc 170, 2) := by decide +kernel
theorem dX7_byInner_2 : decode cX7_byInner 2 = .ok (.istore_n 3, 1) := by decide +kernel
theorem dX7_byInner_3 : decode cX7_byInner 3 = .ok (.aload_n 0, 1) := by decide +kernel
theorem dX7_byInner_4 : decode cX7_byInner 4 = .ok (.getfield 19, 3) := by decide +kernel
theorem dX7_byInner_7 : decode cX7_byInner 7 = .ok (.iload_n 1, 1) := by decide +kernel
theorem dX7_byInner_8 : decode cX7_byInner 8 = .ok (.iaload, 1) := by decide +kernel
theorem dX7_byInner_9 : decode cX7_byInner 9 = .ok (.istore 4, 2) := by decide +kernel
theorem dX7_byInner_11 : decode cX7_byInner 11 = .ok (.iload 4, 2) := by decide +kernel
theorem dX7_byInner_13 : decode cX7_byInner 13 = .ok (.iconst 2, 1) := by decide +kernel
theorem dX7_byInner_14 : decode cX7_byInner 14 = .ok (.if_icmp .ne 7, 3) := by decide +kernel
theorem dX7_byInner_17 : decode cX7_byInner 17 = .ok (.iconst 1, 1) := by decide +kernel
theorem dX7_byInner_18 : decode cX7_byInner 18 = .ok (.goto 25, 3) := by decide +kernel
theorem dX7_byInner_21 : decode cX7_byInner 21 = .ok (.iload 4, 2) := by decide +kernel
theorem dX7_byInner_23 : decode cX7_byInner 23 = .ok (.iconst 3, 1) := by decide +kernel
theorem dX7_byInner_24 : decode cX7_byInner 24 = .ok (.if_icmp .ne 10, 3) := by decide +kernel
theorem dX7_byInner_27 : decode cX7_byInner 27 = .ok (.aload_n 0, 1) := by decide +kernel
theorem dX7_byInner_28 : decode cX7_byInner 28 = .ok (.getfield 111, 3) := by decide +kernel
theorem dX7_byInner_31 : decode cX7_byInner 31 = .ok (.goto 12, 3) := by decide +kernel
theorem dX7_byInner_34 : decode cX7_byInner 34 = .ok (.aload_n 0, 1) := by decide +kernel
theorem dX7_byInner_35 : decode cX7_byInner 35 = .ok (.getfield 111, 3) := by decide +kernel
theorem dX7_byInner_38 : decode cX7_byInner 38 = .ok (.aload_n 0, 1) := by decide +kernel
theorem dX7_byInner_39 : decode cX7_byInner 39 = .ok (.getfield 111, 3) := by decide +kernel
theorem dX7_byInner_42 : decode cX7_byInner 42 = .ok (.imul, 1) := by decide +kernel
theorem dX7_byInner_43 : decode cX7_byInner 43 = .ok (.istore 5, 2) := by decide +kernel
theorem dX7_byInner_45 : decode cX7_byInner 45 = .ok (.iconst 0, 1) := by decide +kernel
theorem dX7_byInner_46 : decode cX7_byInner 46 = .ok (.istore 6, 2) := by decide +kernel
theorem dX7_byInner_48 : decode cX7_byInner 48 = .ok (.iload 6, 2) := by decide +kernel
theorem dX7_byInner_50 : decode cX7_byInner 50 = .ok (.iload 5, 2) := by decide +kernel
theorem dX7_byInner_52 : decode cX7_byInner 52 = .ok (.if_icmp .ge 65, 3) := by decide +kernel
theorem dX7_byInner_55 : decode cX7_byInner 55 = .ok (.aload_n 0, 1) := by decide +kernel
theorem dX7_byInner_56 : decode cX7_byInner 56 = .ok (.getfield 37, 3) := by decide +kernel
theorem dX7_byInner_59 : decode cX7_byInner 59 = .ok (.iconst 2, 1) := by decide +kernel
theorem dX7_byInner_60 : decode cX7_byInner 60 = .ok (.iload 6, 2) := by decide +kernel
theorem dX7_byInner_62 : decode cX7_byInner 62 = .ok (.aload_n 0, 1) := by decide +kernel
theorem dX7_byInner_63 : decode cX7_byInner 63 = .ok (.getfield 111, 3) := by decide +kernel
theorem dX7_byInner_66 : decode cX7_byInner 66 = .ok (.irem, 1) := by decide +kernel
theorem dX7_byInner_67 : decode cX7_byInner 67 = .ok (.iastore, 1) := by decide +kernel
theorem dX7_byInner_68 : decode cX7_byInner 68 = .ok (.aload_n 0, 1) := by decide +kernel
theorem dX7_byInner_69 : decode cX7_byInner 69 = .ok (.getfield 37, 3) := by decide +kernel
theorem dX7_byInner_72 : decode cX7_byInner 72 = .ok (.iconst 3, 1) := by decide +kernel
theorem dX7_byInner_73 : decode cX7_byInner 73 = .ok (.iload 6, 2) := by decide +kernel
theorem dX7_byInner_75 : decode cX7_byInner 75 = .ok (.aload_n 0, 1) := by decide +kernel
theorem dX7_byInner_76 : decode cX7_byInner 76 = .ok (.getfield 111, 3) := by decide +kernel
theorem dX7_byInner_79 : decode cX7_byInner 79 = .ok (.idiv, 1) := by decide +kernel
theorem dX7_byInner_80 : decode cX7_byInner 80 = .ok (.iastore, 1) := by decide +kernel
theorem dX7_byInner_81 : decode cX7_byInner 81 = .ok (.aload_n 0, 1) := by decide +kernel
theorem dX7_byInner_82 : decode cX7_byInner 82 = .ok (.iload 4, 2) := by decide +kernel
theorem dX7_byInner_84 : decode cX7_byInner 84 = .ok (.invokevirtual 181, 3) := by decide +kernel
theorem dX7_byInner_87 : decode cX7_byInner 87 = .ok (.ifCond .eq 24, 3) := by decide +kernel
theorem dX7_byInner_90 : decode cX7_byInner 90 = .ok (.aload_n 0, 1) := by decide +kernel
theorem dX7_byInner_91 : decode cX7_byInner 91 = .ok (.iload_n 1, 1) := by decide +kernel
theorem dX7_byInner_92 : decode cX7_byInner 92 = .ok (.iload_n 2, 1) := by decide +kernel
theorem dX7_byInner_93 : decode cX7_byInner 93 = .ok (.invokevirtual 184, 3) := by decide +kernel
theorem dX7_byInner_96 : decode cX7_byInner 96 = .ok (.istore 7, 2) := by decide +kernel
theorem dX7_byInner_98 : decode cX7_byInner 98 = .ok (.iload 7, 2) := by decide +kernel
theorem dX7_byInner_100 : decode cX7_byInner 100 = .ok (.iload_n 3, 1) := by decide +kernel
theorem dX7_byInner_101 : decode cX7_byInner 101 = .ok (.if_icmp .ge 8, 3) := by decide +kernel
theorem dX7_byInner_104 : decode cX7_byInner 104 = .ok (.iload 7, 2) := by decide +kernel
theorem dX7_byInner_106 : decode cX7_byInner 106 = .ok (.goto 4, 3) := by decide +kernel
theorem dX7_byInner_109 : decode cX7_byInner 109 = .ok (.iload_n 3, 1) := by decide +kernel
theorem dX7_byInner_110 : decode cX7_byInner 110 = .ok (.istore_n 3, 1) := by decide +kernel
theorem dX7_byInner_111 : decode cX7_byInner 111 = .ok (.iinc 6 1, 3) := by decide +kernel
theorem dX7_byInner_114 : decode cX7_byInner 114 = .ok (.goto (-66), 3) := by decide +kernel
theorem dX7_byInner_117 : decode cX7_byInner 117 = .ok (.iload_n 3, 1) := by decide +kernel
theorem dX7_byInner_118 : decode cX7_byInner 118 = .ok (.ireturn, 1) := by decide +kernel
theorem dX7_bySplits_0 : decode cX7_bySplits 0 = .ok (.aload_n 0, 1) := by decide +kernel
theorem dX7_bySplits_1 : decode cX7_bySplits 1 = .ok (.getfield 22, 3) := by decide +kernel
theorem dX7_bySplits_4 : decode cX7_bySplits 4 = .ok (.iconst 3, 1) := by decide +kernel
theorem dX7_bySplits_5 : decode cX7_bySplits 5 = .ok (.iload_n 1, 1) := by decide +kernel
theorem dX7_bySplits_6 : decode cX7_bySplits 6 = .ok (.imul, 1) := by decide +kernel
theorem dX7_bySplits_7 : decode cX7_bySplits 7 = .ok (.iaload, 1) := by decide +kernel
theorem dX7_bySplits_8 : decode cX7_bySplits 8 = .ok (.istore_n 3, 1) := by decide +kernel
theorem dX7_bySplits_9 : decode cX7_bySplits 9 = .ok (.aload_n 0, 1) := by decide +kernel
theorem dX7_bySplits_10 : decode cX7_bySplits 10 = .ok (.getfield 22, 3) := by decide +kernel
theorem dX7_bySplits_13 : decode cX7_bySplits 13 = .ok (.iconst 3, 1) := by decide +kernel
theorem dX7_bySplits_14 : decode cX7_bySplits 14 = .ok (.iload_n 1, 1) := by decide +kernel
theorem dX7_bySplits_15 : decode cX7_bySplits 15 = .ok (.imul, 1) := by decide +kernel
theorem dX7_bySplits_16 : decode cX7_bySplits 16 = .ok (.iconst 1, 1) := by decide +kernel
theorem dX7_bySplits_17 : decode cX7_bySplits 17 = .ok (.iadd, 1) := by decide +kernel
theorem dX7_bySplits_18 : decode cX7_bySplits 18 = .ok (.iaload, 1) := by decide +kernel
theorem dX7_bySplits_19 : decode cX7_bySplits 19 = .ok (.istore 4, 2) := by decide +kernel
theorem dX7_bySplits_21 : decode cX7_bySplits 21 = .ok (.aload_n 0, 1) := by decide +kernel
theorem dX7_bySplits_22 : decode cX7_bySplits 22 = .ok (.getfield 22, 3) := by decide +kernel
theorem dX7_bySplits_25 : decode cX7_bySplits 25 = .ok (.iconst 3, 1) := by decide +kernel
theorem dX7_bySplits_26 : decode cX7_bySplits 26 = .ok (.iload_n 1, 1) := by decide +kernel
theorem dX7_bySplits_27 : decode cX7_bySplits 27 = .ok (.imul, 1) := by decide +kernel
theorem dX7_bySplits_28 : decode cX7_bySplits 28 = .ok (.iconst 2, 1) := by decide +kernel
theorem dX7_bySplits_29 : decode cX7_bySplits 29 = .ok (.iadd, 1) := by decide +kernel
theorem dX7_bySplits_30 : decode cX7_bySplits 30 = .ok (.iaload, 1) := by decide +kernel
theorem dX7_bySplits_31 : decode cX7_bySplits 31 = .ok (.istore 5, 2) := by decide +kernel
theorem dX7_bySplits_33 : decode cX7_bySplits 33 = .ok (.ldc 170, 2) := by decide +kernel
theorem dX7_bySplits_35 : decode cX7_bySplits 35 = .ok (.istore 6, 2) := by decide +kernel
theorem dX7_bySplits_37 : decode cX7_bySplits 37 = .ok (.iload_n 2, 1) := by decide +kernel
theorem dX7_bySplits_38 : decode cX7_bySplits 38 = .ok (.iconst 1, 1) := by decide +kernel
theorem dX7_bySplits_39 : decode cX7_bySplits 39 = .ok (.isub, 1) := by decide +kernel
theorem dX7_bySplits_40 : decode cX7_bySplits 40 = .ok (.iload_n 2, 1) := by decide +kernel
theorem dX7_bySplits_41 : decode cX7_bySplits 41 = .ok (.iand, 1) := by decide +kernel
theorem dX7_bySplits_42 : decode cX7_bySplits 42 = .ok (.istore 7, 2) := by decide +kernel
theorem dX7_bySplits_44 : decode cX7_bySplits 44 = .ok (.iload 7, 2) := by decide +kernel
theorem dX7_bySplits_46 : decode cX7_bySplits 46 = .ok (.ifCond .le 246, 3) := by decide +kernel
theorem dX7_bySplits_49 : decode cX7_bySplits 49 = .ok (.aload_n 0, 1) := by decide +kernel
theorem dX7_bySplits_50 : decode cX7_bySplits 50 = .ok (.iload_n 3, 1) := by decide +kernel
theorem dX7_bySplits_51 : decode cX7_bySplits 51 = .ok (.iload 7, 2) := by decide +kernel
theorem dX7_bySplits_53 : decode cX7_bySplits 53 = .ok (.invokevirtual 174, 3) := by decide +kernel
theorem dX7_bySplits_56 : decode cX7_bySplits 56 = .ok (.istore 8, 2) := by decide +kernel
theorem dX7_bySplits_58 : decode cX7_bySplits 58 = .ok (.iload_n 2, 1) := by decide +kernel
theorem dX7_bySplits_59 : decode cX7_bySplits 59 = .ok (.iload 7, 2) := by decide +kernel
theorem dX7_bySplits_61 : decode cX7_bySplits 61 = .ok (.iconst (-1), 1) := by decide +kernel
theorem dX7_bySplits_62 : decode cX7_bySplits 62 = .ok (.ixor, 1) := by decide +kernel
theorem dX7_bySplits_63 : decode cX7_bySplits 63 = .ok (.iand, 1) := by decide +kernel
theorem dX7_bySplits_64 : decode cX7_bySplits 64 = .ok (.istore 9, 2) := by decide +kernel
theorem dX7_bySplits_66 : decode cX7_bySplits 66 = .ok (.iload 8, 2) := by decide +kernel
theorem dX7_bySplits_68 : decode cX7_bySplits 68 = .ok (.ldc 170, 2) := by decide +kernel
theorem dX7_bySplits_70 : decode cX7_bySplits 70 = .ok (.if_icmp .ge 61, 3) := by decide +kernel
theorem dX7_bySplits_73 : decode cX7_bySplits 73 = .ok (.aload_n 0, 1) := by decide +kernel
theorem dX7_bySplits_74 : decode cX7_bySplits 74 = .ok (.getfield 16, 3) := by decide +kernel
theorem dX7_bySplits_77 : decode cX7_bySplits 77 = .ok (.iload_n 1, 1) := by decide +kernel
theorem dX7_bySplits_78 : decode cX7_bySplits 78 = .ok (.iaload, 1) := by decide +kernel
theorem dX7_bySplits_79 : decode cX7_bySplits 79 = .ok (.iconst 2, 1) := by decide +kernel
theorem dX7_bySplits_80 : decode cX7_bySplits 80 = .ok (.if_icmp .ne 51, 3) := by decide +kernel
theorem dX7_bySplits_83 : decode cX7_bySplits 83 = .ok (.aload_n 0, 1) := by decide +kernel
theorem dX7_bySplits_84 : decode cX7_bySplits 84 = .ok (.iload_n 3, 1) := by decide +kernel
theorem dX7_bySplits_85 : decode cX7_bySplits 85 = .ok (.iload 7, 2) := by decide +kernel
theorem dX7_bySplits_87 : decode cX7_bySplits 87 = .ok (.iload 4, 2) := by decide +kernel
theorem dX7_bySplits_89 : decode cX7_bySplits 89 = .ok (.iload 9, 2) := by decide +kernel
theorem dX7_bySplits_91 : decode cX7_bySplits 91 = .ok (.invokevirtual 177, 3) := by decide +kernel
theorem dX7_bySplits_94 : decode cX7_bySplits 94 = .ok (.ifCond .eq 17, 3) := by decide +kernel
theorem dX7_bySplits_97 : decode cX7_bySplits 97 = .ok (.iload 8, 2) := by decide +kernel
theorem dX7_bySplits_99 : decode cX7_bySplits 99 = .ok (.aload_n 0, 1) := by decide +kernel
theorem dX7_bySplits_100 : decode cX7_bySplits 100 = .ok (.iload 4, 2) := by decide +kernel
theorem dX7_bySplits_102 : decode cX7_bySplits 102 = .ok (.iload 9, 2) := by decide +kernel
theorem dX7_bySplits_104 : decode cX7_bySplits 104 = .ok (.invokevirtual 174, 3) := by decide +kernel
theorem dX7_bySplits_107 : decode cX7_bySplits 107 = .ok (.iadd, 1) := by decide +kernel
theorem dX7_bySplits_108 : decode cX7_bySplits 108 = .ok (.goto 5, 3) := by decide +kernel
theorem dX7_bySplits_111 : decode cX7_bySplits 111 = .ok (.ldc 170, 2) := by decide +kernel
theorem dX7_bySplits_113 : decode cX7_bySplits 113 = .ok (.istore 10, 2) := by decide +kernel
theorem dX7_bySplits_115 : decode cX7_bySplits 115 = .ok (.iload 10, 2) := by decide +kernel
theorem dX7_bySplits_117 : decode cX7_bySplits 117 = .ok (.iload 6, 2) := by decide +kernel
theorem dX7_bySplits_119 : decode cX7_bySplits 119 = .ok (.if_icmp .ge 8, 3) := by decide +kernel
theorem dX7_bySplits_122 : decode cX7_bySplits 122 = .ok (.iload 10, 2) := by decide +kernel
theorem dX7_bySplits_124 : decode cX7_bySplits 124 = .ok (.goto 5, 3) := by decide +kernel
theorem dX7_bySplits_127 : decode cX7_bySplits 127 = .ok (.iload 6, 2) := by decide +kernel
theorem dX7_bySplits_129 : decode cX7_bySplits 129 = .ok (.istore 6, 2) := by decide +kernel
theorem dX7_bySplits_131 : decode cX7_bySplits 131 = .ok (.iload 9, 2) := by decide +kernel
theorem dX7_bySplits_133 : decode cX7_bySplits 133 = .ok (.iconst 1, 1) := by decide +kernel
theorem dX7_bySplits_134 : decode cX7_bySplits 134 = .ok (.isub, 1) := by decide +kernel
theorem dX7_bySplits_135 : decode cX7_bySplits 135 = .ok (.iload 9, 2) := by decide +kernel
theorem dX7_bySplits_137 : decode cX7_bySplits 137 = .ok (.iand, 1) := by decide +kernel
theorem dX7_bySplits_138 : decode cX7_bySplits 138 = .ok (.istore 10, 2) := by decide +kernel
theorem dX7_bySplits_140 : decode cX7_bySplits 140 = .ok (.iload 10, 2) := by decide +kernel
theorem dX7_bySplits_142 : decode cX7_bySplits 142 = .ok (.ifCond .le 139, 3) := by decide +kernel
theorem dX7_bySplits_145 : decode cX7_bySplits 145 = .ok (.iload 8, 2) := by decide +kernel
theorem dX7_bySplits_147 : decode cX7_bySplits 147 = .ok (.ldc 170, 2) := by decide +kernel
theorem dX7_bySplits_149 : decode cX7_bySplits 149 = .ok (.if_icmp .ge 132, 3) := by decide +kernel
theorem dX7_bySplits_152 : decode cX7_bySplits 152 = .ok (.aload_n 0, 1) := by decide +kernel
theorem dX7_bySplits_153 : decode cX7_bySplits 153 = .ok (.getfield 16, 3) := by decide +kernel
theorem dX7_bySplits_156 : decode cX7_bySplits 156 = .ok (.iload_n 1, 1) := by decide +kernel
theorem dX7_bySplits_157 : decode cX7_bySplits 157 = .ok (.iaload, 1) := by decide +kernel
theorem dX7_bySplits_158 : decode cX7_bySplits 158 = .ok (.iconst 3, 1) := by decide +kernel
theorem dX7_bySplits_159 : decode cX7_bySplits 159 = .ok (.if_icmp .ne 122, 3) := by decide +kernel
theorem dX7_bySplits_162 : decode cX7_bySplits 162 = .ok (.iload 9, 2) := by decide +kernel
theorem dX7_bySplits_164 : decode cX7_bySplits 164 = .ok (.iload 10, 2) := by decide +kernel
theorem dX7_bySplits_166 : decode cX7_bySplits 166 = .ok (.iconst (-1), 1) := by decide +kernel
theorem dX7_bySplits_167 : decode cX7_bySplits 167 = .ok (.ixor, 1) := by decide +kernel
theorem dX7_bySplits_168 : decode cX7_bySplits 168 = .ok (.iand, 1) := by decide +kernel
theorem dX7_bySplits_169 : decode cX7_bySplits 169 = .ok (.istore 11, 2) := by decide +kernel
theorem dX7_bySplits_171 : decode cX7_bySplits 171 = .ok (.aload_n 0, 1) := by decide +kernel
theorem dX7_bySplits_172 : decode cX7_bySplits 172 = .ok (.iload_n 3, 1) := by decide +kernel
theorem dX7_bySplits_173 : decode cX7_bySplits 173 = .ok (.iload 7, 2) := by decide +kernel
theorem dX7_bySplits_175 : decode cX7_bySplits 175 = .ok (.iload 4, 2) := by decide +kernel
theorem dX7_bySplits_177 : decode cX7_bySplits 177 = .ok (.iload 10, 2) := by decide +kernel
theorem dX7_bySplits_179 : decode cX7_bySplits 179 = .ok (.invokevirtual 177, 3) := by decide +kernel
theorem dX7_bySplits_182 : decode cX7_bySplits 182 = .ok (.ifCond .eq 36, 3) := by decide +kernel
theorem dX7_bySplits_185 : decode cX7_bySplits 185 = .ok (.aload_n 0, 1) := by decide +kernel
theorem dX7_bySplits_186 : decode cX7_bySplits 186 = .ok (.iload_n 3, 1) := by decide +kernel
theorem dX7_bySplits_187 : decode cX7_bySplits 187 = .ok (.iload 7, 2) := by decide +kernel
theorem dX7_bySplits_189 : decode cX7_bySplits 189 = .ok (.iload 5, 2) := by decide +kernel
theorem dX7_bySplits_191 : decode cX7_bySplits 191 = .ok (.iload 11, 2) := by decide +kernel
theorem dX7_bySplits_193 : decode cX7_bySplits 193 = .ok (.invokevirtual 177, 3) := by decide +kernel
theorem dX7_bySplits_196 : decode cX7_bySplits 196 = .ok (.ifCond .eq 22, 3) := by decide +kernel
theorem dX7_bySplits_199 : decode cX7_bySplits 199 = .ok (.aload_n 0, 1) := by decide +kernel
theorem dX7_bySplits_200 : decode cX7_bySplits 200 = .ok (.iload 4, 2) := by decide +kernel
theorem dX7_bySplits_202 : decode cX7_bySplits 202 = .ok (.iload 10, 2) := by decide +kernel
theorem dX7_bySplits_204 : decode cX7_bySplits 204 = .ok (.iload 5, 2) := by decide +kernel
theorem dX7_bySplits_206 : decode cX7_bySplits 206 = .ok (.iload 11, 2) := by decide +kernel
theorem dX7_bySplits_208 : decode cX7_bySplits 208 = .ok (.invokevirtual 177, 3) := by decide +kernel
theorem dX7_bySplits_211 : decode cX7_bySplits 211 = .ok (.ifCond .eq 7, 3) := by decide +kernel
theorem dX7_bySplits_214 : decode cX7_bySplits 214 = .ok (.iconst 1, 1) := by decide +kernel
theorem dX7_bySplits_215 : decode cX7_bySplits 215 = .ok (.goto 4, 3) := by decide +kernel
theorem dX7_bySplits_218 : decode cX7_bySplits 218 = .ok (.iconst 0, 1) := by decide +kernel
theorem dX7_bySplits_219 : decode cX7_bySplits 219 = .ok (.istore 12, 2) := by decide +kernel
theorem dX7_bySplits_221 : decode cX7_bySplits 221 = .ok (.iload 12, 2) := by decide +kernel
theorem dX7_bySplits_223 : decode cX7_bySplits 223 = .ok (.ifCond .eq 26, 3) := by decide +kernel
theorem dX7_bySplits_226 : decode cX7_bySplits 226 = .ok (.iload 8, 2) := by decide +kernel
theorem dX7_bySplits_228 : decode cX7_bySplits 228 = .ok (.aload_n 0, 1) := by decide +kernel
theorem dX7_bySplits_229 : decode cX7_bySplits 229 = .ok (.iload 4, 2) := by decide +kernel
theorem dX7_bySplits_231 : decode cX7_bySplits 231 = .ok (.iload 10, 2) := by decide +kernel
theorem dX7_bySplits_233 : decode cX7_bySplits 233 = .ok (.invokevirtual 174, 3) := by decide +kernel
theorem dX7_bySplits_236 : decode cX7_bySplits 236 = .ok (.iadd, 1) := by decide +kernel
theorem dX7_bySplits_237 : decode cX7_bySplits 237 = .ok (.aload_n 0, 1) := by decide +kernel
theorem dX7_bySplits_238 : decode cX7_bySplits 238 = .ok (.iload 5, 2) := by decide +kernel
theorem dX7_bySplits_240 : decode cX7_bySplits 240 = .ok (.iload 11, 2) := by decide +kernel
theorem dX7_bySplits_242 : decode cX7_bySplits 242 = .ok (.invokevirtual 174, 3) := by decide +kernel
theorem dX7_bySplits_245 : decode cX7_bySplits 245 = .ok (.iadd, 1) := by decide +kernel
theorem dX7_bySplits_246 : decode cX7_bySplits 246 = .ok (.goto 5, 3) := by decide +kernel
theorem dX7_bySplits_249 : decode cX7_bySplits 249 = .ok (.ldc 170, 2) := by decide +kernel
theorem dX7_bySplits_251 : decode cX7_bySplits 251 = .ok (.istore 13, 2) := by decide +kernel
theorem dX7_bySplits_253 : decode cX7_bySplits 253 = .ok (.iload 13, 2) := by decide +kernel
theorem dX7_bySplits_255 : decode cX7_bySplits 255 = .ok (.iload 6, 2) := by decide +kernel
theorem dX7_bySplits_257 : decode cX7_bySplits 257 = .ok (.if_icmp .ge 8, 3) := by decide +kernel
theorem dX7_bySplits_260 : decode cX7_bySplits 260 = .ok (.iload 13, 2) := by decide +kernel
theorem dX7_bySplits_262 : decode cX7_bySplits 262 = .ok (.goto 5, 3) := by decide +kernel
theorem dX7_bySplits_265 : decode cX7_bySplits 265 = .ok (.iload 6, 2) := by decide +kernel
theorem dX7_bySplits_267 : decode cX7_bySplits 267 = .ok (.istore 6, 2) := by decide +kernel
theorem dX7_bySplits_269 : decode cX7_bySplits 269 = .ok (.iload 10, 2) := by decide +kernel
theorem dX7_bySplits_271 : decode cX7_bySplits 271 = .ok (.iconst 1, 1) := by decide +kernel
theorem dX7_bySplits_272 : decode cX7_bySplits 272 = .ok (.isub, 1) := by decide +kernel
theorem dX7_bySplits_273 : decode cX7_bySplits 273 = .ok (.iload 9, 2) := by decide +kernel
theorem dX7_bySplits_275 : decode cX7_bySplits 275 = .ok (.iand, 1) := by decide +kernel
theorem dX7_bySplits_276 : decode cX7_bySplits 276 = .ok (.istore 10, 2) := by decide +kernel
theorem dX7_bySplits_278 : decode cX7_bySplits 278 = .ok (.goto (-138), 3) := by decide +kernel
theorem dX7_bySplits_281 : decode cX7_bySplits 281 = .ok (.iload 7, 2) := by decide +kernel
theorem dX7_bySplits_283 : decode cX7_bySplits 283 = .ok (.iconst 1, 1) := by decide +kernel
theorem dX7_bySplits_284 : decode cX7_bySplits 284 = .ok (.isub, 1) := by decide +kernel
theorem dX7_bySplits_285 : decode cX7_bySplits 285 = .ok (.iload_n 2, 1) := by decide +kernel
theorem dX7_bySplits_286 : decode cX7_bySplits 286 = .ok (.iand, 1) := by decide +kernel
theorem dX7_bySplits_287 : decode cX7_bySplits 287 = .ok (.istore 7, 2) := by decide +kernel
theorem dX7_bySplits_289 : decode cX7_bySplits 289 = .ok (.goto (-245), 3) := by decide +kernel
theorem dX7_bySplits_292 : decode cX7_bySplits 292 = .ok (.iload 6, 2) := by decide +kernel
theorem dX7_bySplits_294 : decode cX7_bySplits 294 = .ok (.ireturn, 1) := by decide +kernel
theorem dX7_fewest_0 : decode cX7_fewest 0 = .ok (.iload_n 1, 1) := by decide +kernel
theorem dX7_fewest_1 : decode cX7_fewest 1 = .ok (.iconst 0, 1) := by decide +kernel
theorem dX7_fewest_2 : decode cX7_fewest 2 = .ok (.iconst 2, 1) := by decide +kernel
theorem dX7_fewest_3 : decode cX7_fewest 3 = .ok (.invokestatic 50, 3) := by decide +kernel
theorem dX7_fewest_6 : decode cX7_fewest 6 = .ok (.ifCond .eq 11, 3) := by decide +kernel
theorem dX7_fewest_9 : decode cX7_fewest 9 = .ok (.aload_n 0, 1) := by decide +kernel
theorem dX7_fewest_10 : decode cX7_fewest 10 = .ok (.iload_n 1, 1) := by decide +kernel
theorem dX7_fewest_11 : decode cX7_fewest 11 = .ok (.invokevirtual 207, 3) := by decide +kernel
theorem dX7_fewest_14 : decode cX7_fewest 14 = .ok (.goto 6, 3) := by decide +kernel
theorem dX7_fewest_17 : decode cX7_fewest 17 = .ok (.sipush (-1001), 3) := by decide +kernel
theorem dX7_fewest_20 : decode cX7_fewest 20 = .ok (.ireturn, 1) := by decide +kernel
theorem dX7_fewestNow_0 : decode cX7_fewestNow 0 = .ok (.aload_n 0, 1) := by decide +kernel
theorem dX7_fewestNow_1 : decode cX7_fewestNow 1 = .ok (.invokevirtual 152, 3) := by decide +kernel
theorem dX7_fewestNow_4 : decode cX7_fewestNow 4 = .ok (.ifCond .eq 19, 3) := by decide +kernel
theorem dX7_fewestNow_7 : decode cX7_fewestNow 7 = .ok (.aload_n 0, 1) := by decide +kernel
theorem dX7_fewestNow_8 : decode cX7_fewestNow 8 = .ok (.getfield 108, 3) := by decide +kernel
theorem dX7_fewestNow_11 : decode cX7_fewestNow 11 = .ok (.iconst 5, 1) := by decide +kernel
theorem dX7_fewestNow_12 : decode cX7_fewestNow 12 = .ok (.if_icmp .gt 11, 3) := by decide +kernel
theorem dX7_fewestNow_15 : decode cX7_fewestNow 15 = .ok (.aload_n 0, 1) := by decide +kernel
theorem dX7_fewestNow_16 : decode cX7_fewestNow 16 = .ok (.getfield 111, 3) := by decide +kernel
theorem dX7_fewestNow_19 : decode cX7_fewestNow 19 = .ok (.iconst 5, 1) := by decide +kernel
theorem dX7_fewestNow_20 : decode cX7_fewestNow 20 = .ok (.if_icmp .le 7, 3) := by decide +kernel
theorem dX7_fewestNow_23 : decode cX7_fewestNow 23 = .ok (.sipush (-1003), 3) := by decide +kernel
theorem dX7_fewestNow_26 : decode cX7_fewestNow 26 = .ok (.ireturn, 1) := by decide +kernel
theorem dX7_fewestNow_27 : decode cX7_fewestNow 27 = .ok (.aload_n 0, 1) := by decide +kernel
theorem dX7_fewestNow_28 : decode cX7_fewestNow 28 = .ok (.invokevirtual 204, 3) := by decide +kernel
theorem dX7_fewestNow_31 : decode cX7_fewestNow 31 = .ok (.aload_n 0, 1) := by decide +kernel
theorem dX7_fewestNow_32 : decode cX7_fewestNow 32 = .ok (.getfield 31, 3) := by decide +kernel
theorem dX7_fewestNow_35 : decode cX7_fewestNow 35 = .ok (.aload_n 0, 1) := by decide +kernel
theorem dX7_fewestNow_36 : decode cX7_fewestNow 36 = .ok (.iload_n 1, 1) := by decide +kernel
theorem dX7_fewestNow_37 : decode cX7_fewestNow 37 = .ok (.iconst 0, 1) := by decide +kernel
theorem dX7_fewestNow_38 : decode cX7_fewestNow 38 = .ok (.iconst 1, 1) := by decide +kernel
theorem dX7_fewestNow_39 : decode cX7_fewestNow 39 = .ok (.iconst 1, 1) := by decide +kernel
theorem dX7_fewestNow_40 : decode cX7_fewestNow 40 = .ok (.aload_n 0, 1) := by decide +kernel
theorem dX7_fewestNow_41 : decode cX7_fewestNow 41 = .ok (.getfield 108, 3) := by decide +kernel
theorem dX7_fewestNow_44 : decode cX7_fewestNow 44 = .ok (.ishl, 1) := by decide +kernel
theorem dX7_fewestNow_45 : decode cX7_fewestNow 45 = .ok (.iconst 1, 1) := by decide +kernel
theorem dX7_fewestNow_46 : decode cX7_fewestNow 46 = .ok (.isub, 1) := by decide +kernel
theorem dX7_fewestNow_47 : decode cX7_fewestNow 47 = .ok (.invokevirtual 166, 3) := by decide +kernel
theorem dX7_fewestNow_50 : decode cX7_fewestNow 50 = .ok (.iaload, 1) := by decide +kernel
theorem dX7_fewestNow_51 : decode cX7_fewestNow 51 = .ok (.istore_n 2, 1) := by decide +kernel
theorem dX7_fewestNow_52 : decode cX7_fewestNow 52 = .ok (.iload_n 2, 1) := by decide +kernel
theorem dX7_fewestNow_53 : decode cX7_fewestNow 53 = .ok (.ldc 170, 2) := by decide +kernel
theorem dX7_fewestNow_55 : decode cX7_fewestNow 55 = .ok (.if_icmp .ge 7, 3) := by decide +kernel
theorem dX7_fewestNow_58 : decode cX7_fewestNow 58 = .ok (.iload_n 2, 1) := by decide +kernel
theorem dX7_fewestNow_59 : decode cX7_fewestNow 59 = .ok (.goto 4, 3) := by decide +kernel
theorem dX7_fewestNow_62 : decode cX7_fewestNow 62 = .ok (.iconst (-1), 1) := by decide +kernel
theorem dX7_fewestNow_63 : decode cX7_fewestNow 63 = .ok (.ireturn, 1) := by decide +kernel
theorem dX7_layEnds_0 : decode cX7_layEnds 0 = .ok (.iconst 0, 1) := by decide +kernel
theorem dX7_layEnds_1 : decode cX7_layEnds 1 = .ok (.istore 4, 2) := by decide +kernel
theorem dX7_layEnds_3 : decode cX7_layEnds 3 = .ok (.iload 4, 2) := by decide +kernel
theorem dX7_layEnds_5 : decode cX7_layEnds 5 = .ok (.iconst 3, 1) := by decide +kernel
theorem dX7_layEnds_6 : decode cX7_layEnds 6 = .ok (.if_icmp .ge 25, 3) := by decide +kernel
theorem dX7_layEnds_9 : decode cX7_layEnds 9 = .ok (.aload_n 0, 1) := by decide +kernel
theorem dX7_layEnds_10 : decode cX7_layEnds 10 = .ok (.getfield 31, 3) := by decide +kernel
theorem dX7_layEnds_13 : decode cX7_layEnds 13 = .ok (.aload_n 0, 1) := by decide +kernel
theorem dX7_layEnds_14 : decode cX7_layEnds 14 = .ok (.iload 4, 2) := by decide +kernel
theorem dX7_layEnds_16 : decode cX7_layEnds 16 = .ok (.iload_n 1, 1) := by decide +kernel
theorem dX7_layEnds_17 : decode cX7_layEnds 17 = .ok (.iload_n 2, 1) := by decide +kernel
theorem dX7_layEnds_18 : decode cX7_layEnds 18 = .ok (.iload_n 3, 1) := by decide +kernel
theorem dX7_layEnds_19 : decode cX7_layEnds 19 = .ok (.invokevirtual 166, 3) := by decide +kernel
theorem dX7_layEnds_22 : decode cX7_layEnds 22 = .ok (.ldc 170, 2) := by decide +kernel
theorem dX7_layEnds_24 : decode cX7_layEnds 24 = .ok (.iastore, 1) := by decide +kernel
theorem dX7_layEnds_25 : decode cX7_layEnds 25 = .ok (.iinc 4 1, 3) := by decide +kernel
theorem dX7_layEnds_28 : decode cX7_layEnds 28 = .ok (.goto (-25), 3) := by decide +kernel
theorem dX7_layEnds_31 : decode cX7_layEnds 31 = .ok (.aload_n 0, 1) := by decide +kernel
theorem dX7_layEnds_32 : decode cX7_layEnds 32 = .ok (.getfield 37, 3) := by decide +kernel
theorem dX7_layEnds_35 : decode cX7_layEnds 35 = .ok (.iconst 0, 1) := by decide +kernel
theorem dX7_layEnds_36 : decode cX7_layEnds 36 = .ok (.iload_n 1, 1) := by decide +kernel
theorem dX7_layEnds_37 : decode cX7_layEnds 37 = .ok (.iastore, 1) := by decide +kernel
theorem dX7_layEnds_38 : decode cX7_layEnds 38 = .ok (.aload_n 0, 1) := by decide +kernel
theorem dX7_layEnds_39 : decode cX7_layEnds 39 = .ok (.getfield 37, 3) := by decide +kernel
theorem dX7_layEnds_42 : decode cX7_layEnds 42 = .ok (.iconst 1, 1) := by decide +kernel
theorem dX7_layEnds_43 : decode cX7_layEnds 43 = .ok (.iload_n 2, 1) := by decide +kernel
theorem dX7_layEnds_44 : decode cX7_layEnds 44 = .ok (.iastore, 1) := by decide +kernel
theorem dX7_layEnds_45 : decode cX7_layEnds 45 = .ok (.iconst 0, 1) := by decide +kernel
theorem dX7_layEnds_46 : decode cX7_layEnds 46 = .ok (.istore 4, 2) := by decide +kernel
theorem dX7_layEnds_48 : decode cX7_layEnds 48 = .ok (.iload 4, 2) := by decide +kernel
theorem dX7_layEnds_50 : decode cX7_layEnds 50 = .ok (.aload_n 0, 1) := by decide +kernel
theorem dX7_layEnds_51 : decode cX7_layEnds 51 = .ok (.getfield 94, 3) := by decide +kernel
theorem dX7_layEnds_54 : decode cX7_layEnds 54 = .ok (.if_icmp .ge 83, 3) := by decide +kernel
theorem dX7_layEnds_57 : decode cX7_layEnds 57 = .ok (.iload_n 1, 1) := by decide +kernel
theorem dX7_layEnds_58 : decode cX7_layEnds 58 = .ok (.iload_n 2, 1) := by decide +kernel
theorem dX7_layEnds_59 : decode cX7_layEnds 59 = .ok (.if_icmp .eq 78, 3) := by decide +kernel
theorem dX7_layEnds_62 : decode cX7_layEnds 62 = .ok (.aload_n 0, 1) := by decide +kernel
theorem dX7_layEnds_63 : decode cX7_layEnds 63 = .ok (.getfield 16, 3) := by decide +kernel
theorem dX7_layEnds_66 : decode cX7_layEnds 66 = .ok (.iload 4, 2) := by decide +kernel
theorem dX7_layEnds_68 : decode cX7_layEnds 68 = .ok (.iaload, 1) := by decide +kernel
theorem dX7_layEnds_69 : decode cX7_layEnds 69 = .ok (.iconst 1, 1) := by decide +kernel
theorem dX7_layEnds_70 : decode cX7_layEnds 70 = .ok (.if_icmp .le 61, 3) := by decide +kernel
theorem dX7_layEnds_73 : decode cX7_layEnds 73 = .ok (.aload_n 0, 1) := by decide +kernel
theorem dX7_layEnds_74 : decode cX7_layEnds 74 = .ok (.aload_n 0, 1) := by decide +kernel
theorem dX7_layEnds_75 : decode cX7_layEnds 75 = .ok (.getfield 13, 3) := by decide +kernel
theorem dX7_layEnds_78 : decode cX7_layEnds 78 = .ok (.iload 4, 2) := by decide +kernel
theorem dX7_layEnds_80 : decode cX7_layEnds 80 = .ok (.iaload, 1) := by decide +kernel
theorem dX7_layEnds_81 : decode cX7_layEnds 81 = .ok (.iload_n 1, 1) := by decide +kernel
theorem dX7_layEnds_82 : decode cX7_layEnds 82 = .ok (.iload_n 2, 1) := by decide +kernel
theorem dX7_layEnds_83 : decode cX7_layEnds 83 = .ok (.iload_n 3, 1) := by decide +kernel
theorem dX7_layEnds_84 : decode cX7_layEnds 84 = .ok (.invokevirtual 166, 3) := by decide +kernel
theorem dX7_layEnds_87 : decode cX7_layEnds 87 = .ok (.istore 5, 2) := by decide +kernel
theorem dX7_layEnds_89 : decode cX7_layEnds 89 = .ok (.aload_n 0, 1) := by decide +kernel
theorem dX7_layEnds_90 : decode cX7_layEnds 90 = .ok (.iload 4, 2) := by decide +kernel
theorem dX7_layEnds_92 : decode cX7_layEnds 92 = .ok (.iload_n 3, 1) := by decide +kernel
theorem dX7_layEnds_93 : decode cX7_layEnds 93 = .ok (.invokevirtual 194, 3) := by decide +kernel
theorem dX7_layEnds_96 : decode cX7_layEnds 96 = .ok (.iconst 1, 1) := by decide +kernel
theorem dX7_layEnds_97 : decode cX7_layEnds 97 = .ok (.iadd, 1) := by decide +kernel
theorem dX7_layEnds_98 : decode cX7_layEnds 98 = .ok (.istore 6, 2) := by decide +kernel
theorem dX7_layEnds_100 : decode cX7_layEnds 100 = .ok (.aload_n 0, 1) := by decide +kernel
theorem dX7_layEnds_101 : decode cX7_layEnds 101 = .ok (.getfield 31, 3) := by decide +kernel
theorem dX7_layEnds_104 : decode cX7_layEnds 104 = .ok (.iload 5, 2) := by decide +kernel
theorem dX7_layEnds_106 : decode cX7_layEnds 106 = .ok (.iload 6, 2) := by decide +kernel
theorem dX7_layEnds_108 : decode cX7_layEnds 108 = .ok (.aload_n 0, 1) := by decide +kernel
theorem dX7_layEnds_109 : decode cX7_layEnds 109 = .ok (.getfield 31, 3) := by decide +kernel
theorem dX7_layEnds_112 : decode cX7_layEnds 112 = .ok (.iload 5, 2) := by decide +kernel
theorem dX7_layEnds_114 : decode cX7_layEnds 114 = .ok (.iaload, 1) := by decide +kernel
theorem dX7_layEnds_115 : decode cX7_layEnds 115 = .ok (.if_icmp .ge 8, 3) := by decide +kernel
theorem dX7_layEnds_118 : decode cX7_layEnds 118 = .ok (.iload 6, 2) := by decide +kernel
theorem dX7_layEnds_120 : decode cX7_layEnds 120 = .ok (.goto 10, 3) := by decide +kernel
theorem dX7_layEnds_123 : decode cX7_layEnds 123 = .ok (.aload_n 0, 1) := by decide +kernel
theorem dX7_layEnds_124 : decode cX7_layEnds 124 = .ok (.getfield 31, 3) := by decide +kernel
theorem dX7_layEnds_127 : decode cX7_layEnds 127 = .ok (.iload 5, 2) := by decide +kernel
theorem dX7_layEnds_129 : decode cX7_layEnds 129 = .ok (.iaload, 1) := by decide +kernel
theorem dX7_layEnds_130 : decode cX7_layEnds 130 = .ok (.iastore, 1) := by decide +kernel
theorem dX7_layEnds_131 : decode cX7_layEnds 131 = .ok (.iinc 4 1, 3) := by decide +kernel
theorem dX7_layEnds_134 : decode cX7_layEnds 134 = .ok (.goto (-86), 3) := by decide +kernel
theorem dX7_layEnds_137 : decode cX7_layEnds 137 = .ok (.return_, 1) := by decide +kernel
theorem dX7_layFewest_0 : decode cX7_layFewest 0 = .ok (.aload_n 0, 1) := by decide +kernel
theorem dX7_layFewest_1 : decode cX7_layFewest 1 = .ok (.getfield 159, 3) := by decide +kernel
theorem dX7_layFewest_4 : decode cX7_layFewest 4 = .ok (.ifCond .eq 4, 3) := by decide +kernel
theorem dX7_layFewest_7 : decode cX7_layFewest 7 = .ok (.return_, 1) := by decide +kernel
theorem dX7_layFewest_8 : decode cX7_layFewest 8 = .ok (.aload_n 0, 1) := by decide +kernel
theorem dX7_layFewest_9 : decode cX7_layFewest 9 = .ok (.iconst 1, 1) := by decide +kernel
theorem dX7_layFewest_10 : decode cX7_layFewest 10 = .ok (.putfield 159, 3) := by decide +kernel
theorem dX7_layFewest_13 : decode cX7_layFewest 13 = .ok (.iconst 0, 1) := by decide +kernel
theorem dX7_layFewest_14 : decode cX7_layFewest 14 = .ok (.istore_n 1, 1) := by decide +kernel
theorem dX7_layFewest_15 : decode cX7_layFewest 15 = .ok (.iload_n 1, 1) := by decide +kernel
theorem dX7_layFewest_16 : decode cX7_layFewest 16 = .ok (.iconst 1, 1) := by decide +kernel
theorem dX7_layFewest_17 : decode cX7_layFewest 17 = .ok (.aload_n 0, 1) := by decide +kernel
theorem dX7_layFewest_18 : decode cX7_layFewest 18 = .ok (.getfield 108, 3) := by decide +kernel
theorem dX7_layFewest_21 : decode cX7_layFewest 21 = .ok (.ishl, 1) := by decide +kernel
theorem dX7_layFewest_22 : decode cX7_layFewest 22 = .ok (.if_icmp .ge 76, 3) := by decide +kernel
theorem dX7_layFewest_25 : decode cX7_layFewest 25 = .ok (.aload_n 0, 1) := by decide +kernel
theorem dX7_layFewest_26 : decode cX7_layFewest 26 = .ok (.getfield 34, 3) := by decide +kernel
theorem dX7_layFewest_29 : decode cX7_layFewest 29 = .ok (.iload_n 1, 1) := by decide +kernel
theorem dX7_layFewest_30 : decode cX7_layFewest 30 = .ok (.iconst 0, 1) := by decide +kernel
theorem dX7_layFewest_31 : decode cX7_layFewest 31 = .ok (.iastore, 1) := by decide +kernel
theorem dX7_layFewest_32 : decode cX7_layFewest 32 = .ok (.iconst 0, 1) := by decide +kernel
theorem dX7_layFewest_33 : decode cX7_layFewest 33 = .ok (.istore_n 2, 1) := by decide +kernel
theorem dX7_layFewest_34 : decode cX7_layFewest 34 = .ok (.iload_n 2, 1) := by decide +kernel
theorem dX7_layFewest_35 : decode cX7_layFewest 35 = .ok (.aload_n 0, 1) := by decide +kernel
theorem dX7_layFewest_36 : decode cX7_layFewest 36 = .ok (.getfield 108, 3) := by decide +kernel
theorem dX7_layFewest_39 : decode cX7_layFewest 39 = .ok (.if_icmp .ge 53, 3) := by decide +kernel
theorem dX7_layFewest_42 : decode cX7_layFewest 42 = .ok (.aload_n 0, 1) := by decide +kernel
theorem dX7_layFewest_43 : decode cX7_layFewest 43 = .ok (.getfield 34, 3) := by decide +kernel
theorem dX7_layFewest_46 : decode cX7_layFewest 46 = .ok (.iload_n 1, 1) := by decide +kernel
theorem dX7_layFewest_47 : decode cX7_layFewest 47 = .ok (.dup2, 1) := by decide +kernel
theorem dX7_layFewest_48 : decode cX7_layFewest 48 = .ok (.iaload, 1) := by decide +kernel
theorem dX7_layFewest_49 : decode cX7_layFewest 49 = .ok (.iload_n 1, 1) := by decide +kernel
theorem dX7_layFewest_50 : decode cX7_layFewest 50 = .ok (.iload_n 2, 1) := by decide +kernel
theorem dX7_layFewest_51 : decode cX7_layFewest 51 = .ok (.invokestatic 90, 3) := by decide +kernel
theorem dX7_layFewest_54 : decode cX7_layFewest 54 = .ok (.ifCond .eq 29, 3) := by decide +kernel
theorem dX7_layFewest_57 : decode cX7_layFewest 57 = .ok (.iconst 1, 1) := by decide +kernel
theorem dX7_layFewest_58 : decode cX7_layFewest 58 = .ok (.aload_n 0, 1) := by decide +kernel
theorem dX7_layFewest_59 : decode cX7_layFewest 59 = .ok (.getfield 25, 3) := by decide +kernel
theorem dX7_layFewest_62 : decode cX7_layFewest 62 = .ok (.iload_n 2, 1) := by decide +kernel
theorem dX7_layFewest_63 : decode cX7_layFewest 63 = .ok (.iaload, 1) := by decide +kernel
theorem dX7_layFewest_64 : decode cX7_layFewest 64 = .ok (.invokestatic 130, 3) := by decide +kernel
theorem dX7_layFewest_67 : decode cX7_layFewest 67 = .ok (.ishl, 1) := by decide +kernel
theorem dX7_layFewest_68 : decode cX7_layFewest 68 = .ok (.iconst 1, 1) := by decide +kernel
theorem dX7_layFewest_69 : decode cX7_layFewest 69 = .ok (.aload_n 0, 1) := by decide +kernel
theorem dX7_layFewest_70 : decode cX7_layFewest 70 = .ok (.getfield 25, 3) := by decide +kernel
theorem dX7_layFewest_73 : decode cX7_layFewest 73 = .ok (.iload_n 2, 1) := by decide +kernel
theorem dX7_layFewest_74 : decode cX7_layFewest 74 = .ok (.iaload, 1) := by decide +kernel
theorem dX7_layFewest_75 : decode cX7_layFewest 75 = .ok (.invokestatic 136, 3) := by decide +kernel
theorem dX7_layFewest_78 : decode cX7_layFewest 78 = .ok (.ishl, 1) := by decide +kernel
theorem dX7_layFewest_79 : decode cX7_layFewest 79 = .ok (.ior, 1) := by decide +kernel
theorem dX7_layFewest_80 : decode cX7_layFewest 80 = .ok (.goto 4, 3) := by decide +kernel
theorem dX7_layFewest_83 : decode cX7_layFewest 83 = .ok (.iconst 0, 1) := by decide +kernel
theorem dX7_layFewest_84 : decode cX7_layFewest 84 = .ok (.ior, 1) := by decide +kernel
theorem dX7_layFewest_85 : decode cX7_layFewest 85 = .ok (.iastore, 1) := by decide +kernel
theorem dX7_layFewest_86 : decode cX7_layFewest 86 = .ok (.iinc 2 1, 3) := by decide +kernel
theorem dX7_layFewest_89 : decode cX7_layFewest 89 = .ok (.goto (-55), 3) := by decide +kernel
theorem dX7_layFewest_92 : decode cX7_layFewest 92 = .ok (.iinc 1 1, 3) := by decide +kernel
theorem dX7_layFewest_95 : decode cX7_layFewest 95 = .ok (.goto (-80), 3) := by decide +kernel
theorem dX7_layFewest_98 : decode cX7_layFewest 98 = .ok (.iconst 1, 1) := by decide +kernel
theorem dX7_layFewest_99 : decode cX7_layFewest 99 = .ok (.istore_n 1, 1) := by decide +kernel
theorem dX7_layFewest_100 : decode cX7_layFewest 100 = .ok (.iload_n 1, 1) := by decide +kernel
theorem dX7_layFewest_101 : decode cX7_layFewest 101 = .ok (.aload_n 0, 1) := by decide +kernel
theorem dX7_layFewest_102 : decode cX7_layFewest 102 = .ok (.getfield 108, 3) := by decide +kernel
theorem dX7_layFewest_105 : decode cX7_layFewest 105 = .ok (.if_icmp .gt 40, 3) := by decide +kernel
theorem dX7_layFewest_108 : decode cX7_layFewest 108 = .ok (.iconst 1, 1) := by decide +kernel
theorem dX7_layFewest_109 : decode cX7_layFewest 109 = .ok (.istore_n 2, 1) := by decide +kernel
theorem dX7_layFewest_110 : decode cX7_layFewest 110 = .ok (.iload_n 2, 1) := by decide +kernel
theorem dX7_layFewest_111 : decode cX7_layFewest 111 = .ok (.iconst 1, 1) := by decide +kernel
theorem dX7_layFewest_112 : decode cX7_layFewest 112 = .ok (.aload_n 0, 1) := by decide +kernel
theorem dX7_layFewest_113 : decode cX7_layFewest 113 = .ok (.getfield 108, 3) := by decide +kernel
theorem dX7_layFewest_116 : decode cX7_layFewest 116 = .ok (.ishl, 1) := by decide +kernel
theorem dX7_layFewest_117 : decode cX7_layFewest 117 = .ok (.if_icmp .ge 22, 3) := by decide +kernel
theorem dX7_layFewest_120 : decode cX7_layFewest 120 = .ok (.iload_n 2, 1) := by decide +kernel
theorem dX7_layFewest_121 : decode cX7_layFewest 121 = .ok (.invokestatic 197, 3) := by decide +kernel
theorem dX7_layFewest_124 : decode cX7_layFewest 124 = .ok (.iload_n 1, 1) := by decide +kernel
theorem dX7_layFewest_125 : decode cX7_layFewest 125 = .ok (.if_icmp .ne 8, 3) := by decide +kernel
theorem dX7_layFewest_128 : decode cX7_layFewest 128 = .ok (.aload_n 0, 1) := by decide +kernel
theorem dX7_layFewest_129 : decode cX7_layFewest 129 = .ok (.iload_n 2, 1) := by decide +kernel
theorem dX7_layFewest_130 : decode cX7_layFewest 130 = .ok (.invokevirtual 200, 3) := by decide +kernel
theorem dX7_layFewest_133 : decode cX7_layFewest 133 = .ok (.iinc 2 1, 3) := by decide +kernel
theorem dX7_layFewest_136 : decode cX7_layFewest 136 = .ok (.goto (-26), 3) := by decide +kernel
theorem dX7_layFewest_139 : decode cX7_layFewest 139 = .ok (.iinc 1 1, 3) := by decide +kernel
theorem dX7_layFewest_142 : decode cX7_layFewest 142 = .ok (.goto (-42), 3) := by decide +kernel
theorem dX7_layFewest_145 : decode cX7_layFewest 145 = .ok (.return_, 1) := by decide +kernel
theorem dX7_laySet_0 : decode cX7_laySet 0 = .ok (.iconst 0, 1) := by decide +kernel
theorem dX7_laySet_1 : decode cX7_laySet 1 = .ok (.istore_n 2, 1) := by decide +kernel
theorem dX7_laySet_2 : decode cX7_laySet 2 = .ok (.iload_n 2, 1) := by decide +kernel
theorem dX7_laySet_3 : decode cX7_laySet 3 = .ok (.aload_n 0, 1) := by decide +kernel
theorem dX7_laySet_4 : decode cX7_laySet 4 = .ok (.getfield 111, 3) := by decide +kernel
theorem dX7_laySet_7 : decode cX7_laySet 7 = .ok (.if_icmp .ge 32, 3) := by decide +kernel
theorem dX7_laySet_10 : decode cX7_laySet 10 = .ok (.iconst 0, 1) := by decide +kernel
theorem dX7_laySet_11 : decode cX7_laySet 11 = .ok (.istore_n 3, 1) := by decide +kernel
theorem dX7_laySet_12 : decode cX7_laySet 12 = .ok (.iload_n 3, 1) := by decide +kernel
theorem dX7_laySet_13 : decode cX7_laySet 13 = .ok (.aload_n 0, 1) := by decide +kernel
theorem dX7_laySet_14 : decode cX7_laySet 14 = .ok (.getfield 111, 3) := by decide +kernel
theorem dX7_laySet_17 : decode cX7_laySet 17 = .ok (.if_icmp .ge 16, 3) := by decide +kernel
theorem dX7_laySet_20 : decode cX7_laySet 20 = .ok (.aload_n 0, 1) := by decide +kernel
theorem dX7_laySet_21 : decode cX7_laySet 21 = .ok (.iload_n 2, 1) := by decide +kernel
theorem dX7_laySet_22 : decode cX7_laySet 22 = .ok (.iload_n 3, 1) := by decide +kernel
theorem dX7_laySet_23 : decode cX7_laySet 23 = .ok (.iload_n 1, 1) := by decide +kernel
theorem dX7_laySet_24 : decode cX7_laySet 24 = .ok (.invokevirtual 187, 3) := by decide +kernel
theorem dX7_laySet_27 : decode cX7_laySet 27 = .ok (.iinc 3 1, 3) := by decide +kernel
theorem dX7_laySet_30 : decode cX7_laySet 30 = .ok (.goto (-18), 3) := by decide +kernel
theorem dX7_laySet_33 : decode cX7_laySet 33 = .ok (.iinc 2 1, 3) := by decide +kernel
theorem dX7_laySet_36 : decode cX7_laySet 36 = .ok (.goto (-34), 3) := by decide +kernel
theorem dX7_laySet_39 : decode cX7_laySet 39 = .ok (.iconst 1, 1) := by decide +kernel
theorem dX7_laySet_40 : decode cX7_laySet 40 = .ok (.istore_n 2, 1) := by decide +kernel
theorem dX7_laySet_41 : decode cX7_laySet 41 = .ok (.iload_n 2, 1) := by decide +kernel
theorem dX7_laySet_42 : decode cX7_laySet 42 = .ok (.ifCond .eq 63, 3) := by decide +kernel
theorem dX7_laySet_45 : decode cX7_laySet 45 = .ok (.iconst 0, 1) := by decide +kernel
theorem dX7_laySet_46 : decode cX7_laySet 46 = .ok (.istore_n 2, 1) := by decide +kernel
theorem dX7_laySet_47 : decode cX7_laySet 47 = .ok (.iconst 0, 1) := by decide +kernel
theorem dX7_laySet_48 : decode cX7_laySet 48 = .ok (.istore_n 3, 1) := by decide +kernel
theorem dX7_laySet_49 : decode cX7_laySet 49 = .ok (.iload_n 3, 1) := by decide +kernel
theorem dX7_laySet_50 : decode cX7_laySet 50 = .ok (.aload_n 0, 1) := by decide +kernel
theorem dX7_laySet_51 : decode cX7_laySet 51 = .ok (.getfield 111, 3) := by decide +kernel
theorem dX7_laySet_54 : decode cX7_laySet 54 = .ok (.if_icmp .ge 48, 3) := by decide +kernel
theorem dX7_laySet_57 : decode cX7_laySet 57 = .ok (.iconst 0, 1) := by decide +kernel
theorem dX7_laySet_58 : decode cX7_laySet 58 = .ok (.istore 4, 2) := by decide +kernel
theorem dX7_laySet_60 : decode cX7_laySet 60 = .ok (.iload 4, 2) := by decide +kernel
theorem dX7_laySet_62 : decode cX7_laySet 62 = .ok (.aload_n 0, 1) := by decide +kernel
theorem dX7_laySet_63 : decode cX7_laySet 63 = .ok (.getfield 111, 3) := by decide +kernel
theorem dX7_laySet_66 : decode cX7_laySet 66 = .ok (.if_icmp .ge 30, 3) := by decide +kernel
theorem dX7_laySet_69 : decode cX7_laySet 69 = .ok (.aload_n 0, 1) := by decide +kernel
theorem dX7_laySet_70 : decode cX7_laySet 70 = .ok (.iload_n 3, 1) := by decide +kernel
theorem dX7_laySet_71 : decode cX7_laySet 71 = .ok (.iload 4, 2) := by decide +kernel
theorem dX7_laySet_73 : decode cX7_laySet 73 = .ok (.iload_n 1, 1) := by decide +kernel
theorem dX7_laySet_74 : decode cX7_laySet 74 = .ok (.invokevirtual 191, 3) := by decide +kernel
theorem dX7_laySet_77 : decode cX7_laySet 77 = .ok (.ifCond .ne 7, 3) := by decide +kernel
theorem dX7_laySet_80 : decode cX7_laySet 80 = .ok (.iload_n 2, 1) := by decide +kernel
theorem dX7_laySet_81 : decode cX7_laySet 81 = .ok (.ifCond .eq 7, 3) := by decide +kernel
theorem dX7_laySet_84 : decode cX7_laySet 84 = .ok (.iconst 1, 1) := by decide +kernel
theorem dX7_laySet_85 : decode cX7_laySet 85 = .ok (.goto 4, 3) := by decide +kernel
theorem dX7_laySet_88 : decode cX7_laySet 88 = .ok (.iconst 0, 1) := by decide +kernel
theorem dX7_laySet_89 : decode cX7_laySet 89 = .ok (.istore_n 2, 1) := by decide +kernel
theorem dX7_laySet_90 : decode cX7_laySet 90 = .ok (.iinc 4 1, 3) := by decide +kernel
theorem dX7_laySet_93 : decode cX7_laySet 93 = .ok (.goto (-33), 3) := by decide +kernel
theorem dX7_laySet_96 : decode cX7_laySet 96 = .ok (.iinc 3 1, 3) := by decide +kernel
theorem dX7_laySet_99 : decode cX7_laySet 99 = .ok (.goto (-50), 3) := by decide +kernel
theorem dX7_laySet_102 : decode cX7_laySet 102 = .ok (.goto (-61), 3) := by decide +kernel
theorem dX7_laySet_105 : decode cX7_laySet 105 = .ok (.return_, 1) := by decide +kernel
theorem dX7_laySingles_0 : decode cX7_laySingles 0 = .ok (.iconst 0, 1) := by decide +kernel
theorem dX7_laySingles_1 : decode cX7_laySingles 1 = .ok (.istore 4, 2) := by decide +kernel
theorem dX7_laySingles_3 : decode cX7_laySingles 3 = .ok (.aload_n 0, 1) := by decide +kernel
theorem dX7_laySingles_4 : decode cX7_laySingles 4 = .ok (.getfield 37, 3) := by decide +kernel
theorem dX7_laySingles_7 : decode cX7_laySingles 7 = .ok (.iconst 0, 1) := by decide +kernel
theorem dX7_laySingles_8 : decode cX7_laySingles 8 = .ok (.iload_n 1, 1) := by decide +kernel
theorem dX7_laySingles_9 : decode cX7_laySingles 9 = .ok (.iastore, 1) := by decide +kernel
theorem dX7_laySingles_10 : decode cX7_laySingles 10 = .ok (.aload_n 0, 1) := by decide +kernel
theorem dX7_laySingles_11 : decode cX7_laySingles 11 = .ok (.getfield 37, 3) := by decide +kernel
theorem dX7_laySingles_14 : decode cX7_laySingles 14 = .ok (.iconst 1, 1) := by decide +kernel
theorem dX7_laySingles_15 : decode cX7_laySingles 15 = .ok (.iload_n 2, 1) := by decide +kernel
theorem dX7_laySingles_16 : decode cX7_laySingles 16 = .ok (.iastore, 1) := by decide +kernel
theorem dX7_laySingles_17 : decode cX7_laySingles 17 = .ok (.iconst 0, 1) := by decide +kernel
theorem dX7_laySingles_18 : decode cX7_laySingles 18 = .ok (.istore 5, 2) := by decide +kernel
theorem dX7_laySingles_20 : decode cX7_laySingles 20 = .ok (.iload 5, 2) := by decide +kernel
theorem dX7_laySingles_22 : decode cX7_laySingles 22 = .ok (.aload_n 0, 1) := by decide +kernel
theorem dX7_laySingles_23 : decode cX7_laySingles 23 = .ok (.getfield 94, 3) := by decide +kernel
theorem dX7_laySingles_26 : decode cX7_laySingles 26 = .ok (.if_icmp .ge 114, 3) := by decide +kernel
theorem dX7_laySingles_29 : decode cX7_laySingles 29 = .ok (.iload_n 1, 1) := by decide +kernel
theorem dX7_laySingles_30 : decode cX7_laySingles 30 = .ok (.iload_n 2, 1) := by decide +kernel
theorem dX7_laySingles_31 : decode cX7_laySingles 31 = .ok (.if_icmp .eq 109, 3) := by decide +kernel
theorem dX7_laySingles_34 : decode cX7_laySingles 34 = .ok (.aload_n 0, 1) := by decide +kernel
theorem dX7_laySingles_35 : decode cX7_laySingles 35 = .ok (.getfield 16, 3) := by decide +kernel
theorem dX7_laySingles_38 : decode cX7_laySingles 38 = .ok (.iload 5, 2) := by decide +kernel
theorem dX7_laySingles_40 : decode cX7_laySingles 40 = .ok (.iaload, 1) := by decide +kernel
theorem dX7_laySingles_41 : decode cX7_laySingles 41 = .ok (.iconst 1, 1) := by decide +kernel
theorem dX7_laySingles_42 : decode cX7_laySingles 42 = .ok (.if_icmp .ne 92, 3) := by decide +kernel
theorem dX7_laySingles_45 : decode cX7_laySingles 45 = .ok (.aload_n 0, 1) := by decide +kernel
theorem dX7_laySingles_46 : decode cX7_laySingles 46 = .ok (.aload_n 0, 1) := by decide +kernel
theorem dX7_laySingles_47 : decode cX7_laySingles 47 = .ok (.getfield 13, 3) := by decide +kernel
theorem dX7_laySingles_50 : decode cX7_laySingles 50 = .ok (.iload 5, 2) := by decide +kernel
theorem dX7_laySingles_52 : decode cX7_laySingles 52 = .ok (.iaload, 1) := by decide +kernel
theorem dX7_laySingles_53 : decode cX7_laySingles 53 = .ok (.iload_n 1, 1) := by decide +kernel
theorem dX7_laySingles_54 : decode cX7_laySingles 54 = .ok (.iload_n 2, 1) := by decide +kernel
theorem dX7_laySingles_55 : decode cX7_laySingles 55 = .ok (.iload_n 3, 1) := by decide +kernel
theorem dX7_laySingles_56 : decode cX7_laySingles 56 = .ok (.invokevirtual 166, 3) := by decide +kernel
theorem dX7_laySingles_59 : decode cX7_laySingles 59 = .ok (.istore 6, 2) := by decide +kernel
theorem dX7_laySingles_61 : decode cX7_laySingles 61 = .ok (.aload_n 0, 1) := by decide +kernel
theorem dX7_laySingles_62 : decode cX7_laySingles 62 = .ok (.aload_n 0, 1) := by decide +kernel
theorem dX7_laySingles_63 : decode cX7_laySingles 63 = .ok (.getfield 22, 3) := by decide +kernel
theorem dX7_laySingles_66 : decode cX7_laySingles 66 = .ok (.iconst 3, 1) := by decide +kernel
theorem dX7_laySingles_67 : decode cX7_laySingles 67 = .ok (.iload 5, 2) := by decide +kernel
theorem dX7_laySingles_69 : decode cX7_laySingles 69 = .ok (.imul, 1) := by decide +kernel
theorem dX7_laySingles_70 : decode cX7_laySingles 70 = .ok (.iaload, 1) := by decide +kernel
theorem dX7_laySingles_71 : decode cX7_laySingles 71 = .ok (.iload_n 3, 1) := by decide +kernel
theorem dX7_laySingles_72 : decode cX7_laySingles 72 = .ok (.invokevirtual 174, 3) := by decide +kernel
theorem dX7_laySingles_75 : decode cX7_laySingles 75 = .ok (.iconst 1, 1) := by decide +kernel
theorem dX7_laySingles_76 : decode cX7_laySingles 76 = .ok (.iadd, 1) := by decide +kernel
theorem dX7_laySingles_77 : decode cX7_laySingles 77 = .ok (.istore 7, 2) := by decide +kernel
theorem dX7_laySingles_79 : decode cX7_laySingles 79 = .ok (.iload 4, 2) := by decide +kernel
theorem dX7_laySingles_81 : decode cX7_laySingles 81 = .ok (.ifCond .ne 15, 3) := by decide +kernel
theorem dX7_laySingles_84 : decode cX7_laySingles 84 = .ok (.iload 7, 2) := by decide +kernel
theorem dX7_laySingles_86 : decode cX7_laySingles 86 = .ok (.aload_n 0, 1) := by decide +kernel
theorem dX7_laySingles_87 : decode cX7_laySingles 87 = .ok (.getfield 31, 3) := by decide +kernel
theorem dX7_laySingles_90 : decode cX7_laySingles 90 = .ok (.iload 6, 2) := by decide +kernel
theorem dX7_laySingles_92 : decode cX7_laySingles 92 = .ok (.iaload, 1) := by decide +kernel
theorem dX7_laySingles_93 : decode cX7_laySingles 93 = .ok (.if_icmp .ge 7, 3) := by decide +kernel
theorem dX7_laySingles_96 : decode cX7_laySingles 96 = .ok (.iconst 1, 1) := by decide +kernel
theorem dX7_laySingles_97 : decode cX7_laySingles 97 = .ok (.goto 4, 3) := by decide +kernel
theorem dX7_laySingles_100 : decode cX7_laySingles 100 = .ok (.iconst 0, 1) := by decide +kernel
theorem dX7_laySingles_101 : decode cX7_laySingles 101 = .ok (.istore 4, 2) := by decide +kernel
theorem dX7_laySingles_103 : decode cX7_laySingles 103 = .ok (.aload_n 0, 1) := by decide +kernel
theorem dX7_laySingles_104 : decode cX7_laySingles 104 = .ok (.getfield 31, 3) := by decide +kernel
theorem dX7_laySingles_107 : decode cX7_laySingles 107 = .ok (.iload 6, 2) := by decide +kernel
theorem dX7_laySingles_109 : decode cX7_laySingles 109 = .ok (.iload 7, 2) := by decide +kernel
theorem dX7_laySingles_111 : decode cX7_laySingles 111 = .ok (.aload_n 0, 1) := by decide +kernel
theorem dX7_laySingles_112 : decode cX7_laySingles 112 = .ok (.getfield 31, 3) := by decide +kernel
theorem dX7_laySingles_115 : decode cX7_laySingles 115 = .ok (.iload 6, 2) := by decide +kernel
theorem dX7_laySingles_117 : decode cX7_laySingles 117 = .ok (.iaload, 1) := by decide +kernel
theorem dX7_laySingles_118 : decode cX7_laySingles 118 = .ok (.if_icmp .ge 8, 3) := by decide +kernel
theorem dX7_laySingles_121 : decode cX7_laySingles 121 = .ok (.iload 7, 2) := by decide +kernel
theorem dX7_laySingles_123 : decode cX7_laySingles 123 = .ok (.goto 10, 3) := by decide +kernel
theorem dX7_laySingles_126 : decode cX7_laySingles 126 = .ok (.aload_n 0, 1) := by decide +kernel
theorem dX7_laySingles_127 : decode cX7_laySingles 127 = .ok (.getfield 31, 3) := by decide +kernel
theorem dX7_laySingles_130 : decode cX7_laySingles 130 = .ok (.iload 6, 2) := by decide +kernel
theorem dX7_laySingles_132 : decode cX7_laySingles 132 = .ok (.iaload, 1) := by decide +kernel
theorem dX7_laySingles_133 : decode cX7_laySingles 133 = .ok (.iastore, 1) := by decide +kernel
theorem dX7_laySingles_134 : decode cX7_laySingles 134 = .ok (.iinc 5 1, 3) := by decide +kernel
theorem dX7_laySingles_137 : decode cX7_laySingles 137 = .ok (.goto (-117), 3) := by decide +kernel
theorem dX7_laySingles_140 : decode cX7_laySingles 140 = .ok (.iload 4, 2) := by decide +kernel
theorem dX7_laySingles_142 : decode cX7_laySingles 142 = .ok (.ireturn, 1) := by decide +kernel
section
variable (l : Launch) (D : va_G) (cI cJ cZ cR : ClassId)
set_option maxHeartbeats 4000000 in
set_option maxRecDepth 100000 in
theorem c_X7_bySplits (sz : Nat) (m0 : Nat) (m1 : Nat) (m2 : Nat) (m3 : Nat) (m4 : Nat) (m5 : Nat) (m6 : Nat) (m7 : Nat) (m8 : Nat) (m9 : Nat) (m10 : Nat) (m11 : Nat) (m12 : Nat) (m13 : Nat) (z : Nat) (r9 : Nat) (n9 : Nat) (v : Nat) (k1 : Int32) (k2 : Int32) (k3 : Int32) (k4 : Int32) (k5 : Int32) (k6 : Int32) (k7 : Int32) (k8 : Int32) (k9 : Int32) (hv : Int64) (re : Nat → Int32) (rg : Nat → Int32) (ea : Nat → Int32) (fw : Nat → Int32) (nf : Nat → Int32) (na : Nat → Int32) (j : Nat) (d0 : Nat) (gr : GR) (hFW : FWI fw) (hn5 : n9 ≤ 5) (hv5 : v ≤ 5) (hEA : EAI n9 v ea) (hsd : SDn 4 na) (hNF : NFI n9 ea nf (2 ^ n9)) (hj : j < 9) (hMJ : MJE gr j re rg) (he2 : 2 ≤ yS gr j) (hd1 : 1 ≤ d0) (hd9 : d0 < 2 ^ n9) : CTi l D cI cJ cZ cR yX7_bySplits cX7_bySplits 14 (some .int) 3 72 0 0 sz [.ref m0, .int (nI j), .int (nI d0)] [kX7 m0 (nI z) m1 (nI r9) m2 m3 m4 m5 (nI n9) (nI v) m6 k1 k2 k3 k4 m7 k5 k6 k7 k8 m8 m9 m10 k9 m11 m12 m13 hv, kI cI m3 9 re, kI cI m5 27 rg, kI cI m6 12 ea, kI cI m8 2400 fw, kI cI m9 32 nf, kI cI m10 4 na] (fun (r : Int32) (u : Nat) => (r = (nI u)) ∧ (zLs zM9 (zSpA (gM n9 v ea) gr (TD zM9 (trb fw)) j (fun k_9 => tn (na k_9)) d0) u)) (fun (u : Nat) => [kX7 m0 (nI z) m1 (nI r9) m2 m3 m4 m5 (nI n9) (nI v) m6 k1 k2 k3 k4 m7 k5 k6 k7 k8 m8 m9 m10 k9 m11 m12 m13 hv, kI cI m3 9 re, kI cI m5 27 rg, kI cI m6 12 ea, kI cI m8 2400 fw, kI cI m9 32 nf, kI cI m10 4 na]) := by
  refine CTi.of (ty := .int) (by decide) (Nat.le_of_ble_eq_true rfl) rfl ?_
  intro p e s m below meth c A Q ls hd hin hK hsz hP hD hA hS hl hret
  obtain ⟨hx, hb, hml, hown, hts⟩ := id hd
  have hK1 := hK.1
  have hown : s.vm.findClass RX7 = some m.cls := hown
  have hl : lv_has ls 14 [(0, .ref m0), (1, .int (nI j)), (2, .int (nI d0))] := hl
  obtain ⟨x1, h1a, h1b, h1c, ex1, xl1, xf1, xt1⟩ := MJE_e hMJ (show 0 < yS gr j by omega)
  have ex1 : rg (3 * j) = nI x1 := ex1
  obtain ⟨x2, h2a, h2b, h2c, ex2, xl2, xf2, xt2⟩ := MJE_e hMJ (show 1 < yS gr j by omega)
  have hM9 : zM9 = 1000000 := rfl
  have h32 := pow_le5 hn5
  have he3 := hMJ.2.2.1
  have hZ : zZe (fun i_9 => zSl (gM n9 v ea) gr (TD zM9 (trb fw)) j i_9 (fun k_9 => tn (na k_9))) (yS gr j) := zZe_sl
  have he23 : yS gr j = 2 ∨ yS gr j = 3 := by omega
  obtain ⟨o1, ho1, ho1S, ho1k, eo1⟩ := dn_nx (S := d0) (on := d0) (by omega) SB_self (by omega) hd1
  refine lv_aload_n hx hb dX7_bySplits_0 rfl (lv_at hl 0 rfl) ?_
  refine va_get (D := D) (ci := 7) (v := .ref m5) (C := RX7) (T := TX7) (N := 27) hx hb hts iT_X7 hown hK1 hP 0 rfl rfl 6 (by decide) (hts _ t_557) (fun _ h9 => h9) rfl dX7_bySplits_1 ?_
  refine lv_iconst (v := 3) hx hb dX7_bySplits_4 (by decide) ?_
  refine lv_iload_n hx hb dX7_bySplits_5 rfl (lv_at hl 1 rfl) ?_
  refine lv_imul hx hb dX7_bySplits_6 ?_
  refine lv_nmi (show _ = (nI (3 * j)) from pk_mul (3) (j)) ?_
  refine va_iald hx hb hK1 hP 2 0 rfl rfl (vp_in_nI (by omega) (by omega)) dX7_bySplits_7 ?_
  refine lv_nmi (show _ = rg (3 * j) from by rw [nI_clamp (n := (3 * j)) (by omega)]) ?_
  refine lv_nmi (show _ = (nI x1 : Int32) from ex1) ?_
  refine lv_istore_n (lv' := [(3, .int (nI x1)), (0, .ref m0), (1, .int (nI j)), (2, .int (nI d0))]) hx hb dX7_bySplits_8 rfl hl (by decide) rfl (fun ls hl => ?_)
  refine lv_aload_n hx hb dX7_bySplits_9 rfl (lv_at hl 1 rfl) ?_
  refine va_get (D := D) (ci := 7) (v := .ref m5) (C := RX7) (T := TX7) (N := 27) hx hb hts iT_X7 hown hK1 hP 0 rfl rfl 6 (by decide) (hts _ t_557) (fun _ h9 => h9) rfl dX7_bySplits_10 ?_
  refine lv_iconst (v := 3) hx hb dX7_bySplits_13 (by decide) ?_
  refine lv_iload_n hx hb dX7_bySplits_14 rfl (lv_at hl 2 rfl) ?_
  refine lv_imul hx hb dX7_bySplits_15 ?_
  refine lv_nmi (show _ = (nI (3 * j)) from pk_mul (3) (j)) ?_
  refine lv_iconst (v := 1) hx hb dX7_bySplits_16 (by decide) ?_
  refine lv_iadd hx hb dX7_bySplits_17 ?_
  refine lv_nmi (show _ = (nI ((3 * j) + 1)) from nI_add ((3 * j)) (1)) ?_
  refine va_iald hx hb hK1 hP 2 0 rfl rfl (vp_in_nI (by omega) (by omega)) dX7_bySplits_18 ?_
  refine lv_nmi (show _ = rg ((3 * j) + 1) from by rw [nI_clamp (n := ((3 * j) + 1)) (by omega)]) ?_
  refine lv_nmi (show _ = (nI x2 : Int32) from ex2) ?_
  refine lv_istore (lv' := [(4, .int (nI x2)), (3, .int (nI x1)), (0, .ref m0), (1, .int (nI j)), (2, .int (nI d0))]) hx hb dX7_bySplits_19 hl (by decide) rfl (fun ls hl => ?_)
  refine lv_aload_n hx hb dX7_bySplits_21 rfl (lv_at hl 2 rfl) ?_
  refine va_get (D := D) (ci := 7) (v := .ref m5) (C := RX7) (T := TX7) (N := 27) hx hb hts iT_X7 hown hK1 hP 0 rfl rfl 6 (by decide) (hts _ t_557) (fun _ h9 => h9) rfl dX7_bySplits_22 ?_
  refine lv_iconst (v := 3) hx hb dX7_bySplits_25 (by decide) ?_
  refine lv_iload_n hx hb dX7_bySplits_26 rfl (lv_at hl 3 rfl) ?_
  refine lv_imul hx hb dX7_bySplits_27 ?_
  refine lv_nmi (show _ = (nI (3 * j)) from pk_mul (3) (j)) ?_
  refine lv_iconst (v := 2) hx hb dX7_bySplits_28 (by decide) ?_
  refine lv_iadd hx hb dX7_bySplits_29 ?_
  refine lv_nmi (show _ = (nI ((3 * j) + 2)) from nI_add ((3 * j)) (2)) ?_
  refine va_iald hx hb hK1 hP 2 0 rfl rfl (vp_in_nI (by omega) (by omega)) dX7_bySplits_30 ?_
  refine lv_nmi (show _ = rg ((3 * j) + 2) from by rw [nI_clamp (n := ((3 * j) + 2)) (by omega)]) ?_
  refine lv_istore (lv' := [(5, .int (rg ((3 * j) + 2))), (4, .int (nI x2)), (3, .int (nI x1)), (0, .ref m0), (1, .int (nI j)), (2, .int (nI d0))]) hx hb dX7_bySplits_31 hl (by decide) rfl (fun ls hl => ?_)
  refine lv_ldc hx hb hown (hts _ t_781) dX7_bySplits_33 ?_
  refine lv_istore (lv' := [(6, .int 1000000), (5, .int (rg ((3 * j) + 2))), (4, .int (nI x2)), (3, .int (nI x1)), (0, .ref m0), (1, .int (nI j)), (2, .int (nI d0))]) hx hb dX7_bySplits_35 hl (by decide) rfl (fun ls hl => ?_)
  refine lv_iload_n hx hb dX7_bySplits_37 rfl (lv_at hl 6 rfl) ?_
  refine lv_iconst (v := 1) hx hb dX7_bySplits_38 (by decide) ?_
  refine lv_isub hx hb dX7_bySplits_39 ?_
  refine lv_iload_n hx hb dX7_bySplits_40 rfl (lv_at hl 6 rfl) ?_
  refine lv_iand hx hb dX7_bySplits_41 ?_
  refine lv_nmi (show _ = (nI o1 : Int32) from eo1) ?_
  refine lv_istore (lv' := [(7, .int (nI o1)), (6, .int 1000000), (5, .int (rg ((3 * j) + 2))), (4, .int (nI x2)), (3, .int (nI x1)), (0, .ref m0), (1, .int (nI j)), (2, .int (nI d0))]) hx hb dX7_bySplits_42 hl (by decide) rfl (fun ls hl => ?_)
  have LOOP_44 : ∀ (n : Nat) (on : Nat) (be : Nat), (on ≤ n) → (on < d0) → (SB on d0) → (zRI (fun i_9 => zSl (gM n9 v ea) gr (TD zM9 (trb fw)) j i_9 (fun k_9 => tn (na k_9))) (zA1 (gM n9 v ea) gr j (fun k_9 => tn (na k_9))) d0 on be) → ∀ (H : Heap) (locs : List Loc) (ls : Array Slot), va_P D vwCl [kX7 m0 (nI z) m1 (nI r9) m2 m3 m4 m5 (nI n9) (nI v) m6 k1 k2 k3 k4 m7 k5 k6 k7 k8 m8 m9 m10 k9 m11 m12 m13 hv, kI cI m3 9 re, kI cI m5 27 rg, kI cI m6 12 ea, kI cI m8 2400 fw, kI cI m9 32 nf, kI cI m10 4 na] H → va_D A [kX7 m0 (nI z) m1 (nI r9) m2 m3 m4 m5 (nI n9) (nI v) m6 k1 k2 k3 k4 m7 k5 k6 k7 k8 m8 m9 m10 k9 m11 m12 m13 hv, kI cI m3 9 re, kI cI m5 27 rg, kI cI m6 12 ea, kI cI m8 2400 fw, kI cI m9 32 nf, kI cI m10 4 na] → va_S A s.heap H locs → lv_has ls 14 [(0, .ref m0), (1, .int (nI j)), (2, .int (nI d0)), (3, .int (nI x1)), (4, .int (nI x2)), (5, .int (rg ((3 * j) + 2))), (6, .int (nI be)), (7, .int (nI on))] → W p l e (rM 3 0 0 72) s m ([.ref m0, .int (nI j), .int (nI d0)] : List Value).toArray below meth c H locs 0 0 Q (F0 m 44 ls []) := by
    intro n
    induction n with
    | zero =>
      intro on be hon hod hSB hI H locs ls hP hD hS hl
      refine lv_iload hx hb dX7_bySplits_44 (lv_at hl 7 rfl) ?_
      refine lv_if_le (tgt := 292) hx hb dX7_bySplits_46 (by decide) (fun c_1 => ?_) (fun c_1 => ?_)
      rotate_left
      · exact absurd (nI_le (a := on) (b := 0) (by omega) (by omega)) c_1
      refine lv_iload hx hb dX7_bySplits_292 (lv_at hl 6 rfl) ?_
      exact hret _ _ _ _ _ _ (nI be) be dX7_bySplits_294 rfl hS (Nat.le_of_ble_eq_true rfl) (Nat.le_of_ble_eq_true rfl) ⟨rfl, zRI_e hZ (by omega) (by rw [show on = 0 from by omega] at hI; exact hI)⟩ (hP.sub [0, 1, 2, 3, 4, 5, 6] rfl) (hD.sub [0, 1, 2, 3, 4, 5, 6] rfl rfl)
    | succ n ih_44 =>
      intro on be hon hod hSB hI H locs ls hP hD hS hl
      refine lv_iload hx hb dX7_bySplits_44 (lv_at hl 7 rfl) ?_
      refine lv_if_le (tgt := 292) hx hb dX7_bySplits_46 (by decide) (fun c_2 => ?_) (fun c_2 => ?_)
      · skip
        refine lv_iload hx hb dX7_bySplits_292 (lv_at hl 6 rfl) ?_
        exact hret _ _ _ _ _ _ (nI be) be dX7_bySplits_294 rfl hS (Nat.le_of_ble_eq_true rfl) (Nat.le_of_ble_eq_true rfl) ⟨rfl, zRI_e hZ (by omega) (by rw [show on = 0 from by have := leN (a := on) (b := 0) (by decide) (by omega) c_2; omega] at hI; exact hI)⟩ (hP.sub [0, 1, 2, 3, 4, 5, 6] rfl) (hD.sub [0, 1, 2, 3, 4, 5, 6] rfl rfl)
      · skip
        have hon1 := nleN (a := on) (b := 0) (by decide) (by omega) c_2
        have hbe9 := hI.1
        refine lv_aload_n hx hb dX7_bySplits_49 rfl (lv_at hl 0 rfl) ?_
        refine lv_iload_n hx hb dX7_bySplits_50 rfl (lv_at hl 3 rfl) ?_
        refine lv_iload hx hb dX7_bySplits_51 (lv_at hl 7 rfl) ?_
        refine xc_i (wc := [kX7 m0 (nI z) m1 (nI r9) m2 m3 m4 m5 (nI n9) (nI v) m6 k1 k2 k3 k4 m7 k5 k6 k7 k8 m8 m9 m10 k9 m11 m12 m13 hv, kI cI m6 12 ea, kI cI m8 2400 fw, kI cI m10 4 na]) (wr := [kI cI m3 9 re, kI cI m5 27 rg, kI cI m9 32 nf]) (xrV (n := 2) (As := [.int (nI x1), .int (nI on)]) (rest := []) (ci := 7) (q0 := 0) hd hK hP hD (c_X7_stepsFor l D cI cJ cZ cR _ m0 m1 m2 m3 m4 m5 m6 m7 m8 m9 m10 m11 m12 m13 z r9 n9 v k1 k2 k3 k4 k5 k6 k7 k8 k9 hv ea fw na x1 on hFW hn5 hv5 hEA hsd h1a h1b h1c (by omega)) (gV t_794 mV_X7_stepsFor) hV_X7_stepsFor ⟨(Nat.le_of_ble_eq_true rfl), (Nat.le_of_ble_eq_true rfl)⟩ rfl rfl [0, 3, 4, 6] rfl rfl rfl hl.1 rfl (Nat.le_of_ble_eq_true rfl) dX7_bySplits_53 ⟨(Nat.le_of_ble_eq_true rfl), (Nat.le_of_ble_eq_true rfl)⟩) hP hD hS hA [0, 3, 4, 6] [1, 2, 5] rfl rfl rfl (by decide) (fun r_3 u_4 H locs hw_5 hP hD hS => ?_)
        obtain ⟨q_6, rfl⟩ : ∃ z9, z9 = u_4 := ⟨_, rfl⟩
        obtain ⟨hw_7, hw_8⟩ : (r_3 = (nI q_6)) ∧ (zLs zM9 (zSv (gM n9 v ea) (TD zM9 (trb fw)) (x1 / 100) on (tn (na (x1 / 10 % 10))) (tn (na (x1 % 10)))) q_6) := hw_5
        subst hw_7
        have hf0 := sf_Z (d := (fun k_9 => tn (na k_9))) (show 0 < yS gr j by omega) xl1 xf1 xt1 (show ¬ on = 0 by omega) hw_8
        have hf9 := hf0.1
        have hP : va_P D vwCl [kI cI m3 9 re, kI cI m5 27 rg, kI cI m9 32 nf, kX7 m0 (nI z) m1 (nI r9) m2 m3 m4 m5 (nI n9) (nI v) m6 k1 k2 k3 k4 m7 k5 k6 k7 k8 m8 m9 m10 k9 m11 m12 m13 hv, kI cI m6 12 ea, kI cI m8 2400 fw, kI cI m10 4 na] H := hP
        have hD : va_D A [kI cI m3 9 re, kI cI m5 27 rg, kI cI m9 32 nf, kX7 m0 (nI z) m1 (nI r9) m2 m3 m4 m5 (nI n9) (nI v) m6 k1 k2 k3 k4 m7 k5 k6 k7 k8 m8 m9 m10 k9 m11 m12 m13 hv, kI cI m6 12 ea, kI cI m8 2400 fw, kI cI m10 4 na] := hD
        refine lv_istore (lv' := [(8, .int (nI q_6)), (0, .ref m0), (1, .int (nI j)), (2, .int (nI d0)), (3, .int (nI x1)), (4, .int (nI x2)), (5, .int (rg ((3 * j) + 2))), (6, .int (nI be)), (7, .int (nI on))]) hx hb dX7_bySplits_56 hl (by decide) rfl (fun ls hl => ?_)
        have hrest := (zm_sub (S := d0) (p := on) (by omega) (by omega)).2 hSB
        refine lv_iload_n hx hb dX7_bySplits_58 rfl (lv_at hl 3 rfl) ?_
        refine lv_iload hx hb dX7_bySplits_59 (lv_at hl 8 rfl) ?_
        refine lv_iconst (v := -1) hx hb dX7_bySplits_61 (by decide) ?_
        refine lv_ixor hx hb dX7_bySplits_62 ?_
        refine lv_iand hx hb dX7_bySplits_63 ?_
        refine lv_nmi (show _ = (nI (d0 - on) : Int32) from hrest.1) ?_
        refine lv_istore (lv' := [(9, .int (nI (d0 - on))), (8, .int (nI q_6)), (0, .ref m0), (1, .int (nI j)), (2, .int (nI d0)), (3, .int (nI x1)), (4, .int (nI x2)), (5, .int (rg ((3 * j) + 2))), (6, .int (nI be)), (7, .int (nI on))]) hx hb dX7_bySplits_64 hl (by decide) rfl (fun ls hl => ?_)
        have CUT_131 : ∀ (bf : Nat), (zRJ (fun i_9 => zSl (gM n9 v ea) gr (TD zM9 (trb fw)) j i_9 (fun k_9 => tn (na k_9))) (zA1 (gM n9 v ea) gr j (fun k_9 => tn (na k_9))) d0 (yS gr j) on 32 bf) → ∀ (H : Heap) (locs : List Loc) (ls : Array Slot), va_P D vwCl [kI cI m3 9 re, kI cI m5 27 rg, kI cI m9 32 nf, kX7 m0 (nI z) m1 (nI r9) m2 m3 m4 m5 (nI n9) (nI v) m6 k1 k2 k3 k4 m7 k5 k6 k7 k8 m8 m9 m10 k9 m11 m12 m13 hv, kI cI m6 12 ea, kI cI m8 2400 fw, kI cI m10 4 na] H → va_D A [kI cI m3 9 re, kI cI m5 27 rg, kI cI m9 32 nf, kX7 m0 (nI z) m1 (nI r9) m2 m3 m4 m5 (nI n9) (nI v) m6 k1 k2 k3 k4 m7 k5 k6 k7 k8 m8 m9 m10 k9 m11 m12 m13 hv, kI cI m6 12 ea, kI cI m8 2400 fw, kI cI m10 4 na] → va_S A s.heap H locs → lv_has ls 14 [(0, .ref m0), (1, .int (nI j)), (2, .int (nI d0)), (3, .int (nI x1)), (4, .int (nI x2)), (5, .int (rg ((3 * j) + 2))), (6, .int (nI bf)), (7, .int (nI on)), (8, .int (nI q_6)), (9, .int (nI (d0 - on)))] → W p l e (rM 3 0 0 72) s m ([.ref m0, .int (nI j), .int (nI d0)] : List Value).toArray below meth c H locs 0 0 Q (F0 m 131 ls []) := by
          intro bf hRJ H locs ls hP hD hS hl
          have hbf9 := hRJ.1
          obtain ⟨u1, hu1, hu1S, hu1k, eu1⟩ := dn_nx (S := d0 - on) (on := d0 - on) (by omega) SB_self (by omega) (by omega)
          refine lv_iload hx hb dX7_bySplits_131 (lv_at hl 9 rfl) ?_
          refine lv_iconst (v := 1) hx hb dX7_bySplits_133 (by decide) ?_
          refine lv_isub hx hb dX7_bySplits_134 ?_
          refine lv_iload hx hb dX7_bySplits_135 (lv_at hl 9 rfl) ?_
          refine lv_iand hx hb dX7_bySplits_137 ?_
          refine lv_nmi (show _ = (nI u1 : Int32) from eu1) ?_
          refine lv_istore (lv' := [(10, .int (nI u1)), (0, .ref m0), (1, .int (nI j)), (2, .int (nI d0)), (3, .int (nI x1)), (4, .int (nI x2)), (5, .int (rg ((3 * j) + 2))), (6, .int (nI bf)), (7, .int (nI on)), (8, .int (nI q_6)), (9, .int (nI (d0 - on)))]) hx hb dX7_bySplits_138 hl (by decide) rfl (fun ls hl => ?_)
          have LOOP_140 : ∀ (n : Nat) (tw : Nat) (bg : Nat), (tw ≤ n) → (tw < d0 - on) → (SB tw (d0 - on)) → (tw < 32) → (zRJ (fun i_9 => zSl (gM n9 v ea) gr (TD zM9 (trb fw)) j i_9 (fun k_9 => tn (na k_9))) (zA1 (gM n9 v ea) gr j (fun k_9 => tn (na k_9))) d0 (yS gr j) on tw bg) → ∀ (H : Heap) (locs : List Loc) (ls : Array Slot), va_P D vwCl [kI cI m3 9 re, kI cI m5 27 rg, kI cI m9 32 nf, kX7 m0 (nI z) m1 (nI r9) m2 m3 m4 m5 (nI n9) (nI v) m6 k1 k2 k3 k4 m7 k5 k6 k7 k8 m8 m9 m10 k9 m11 m12 m13 hv, kI cI m6 12 ea, kI cI m8 2400 fw, kI cI m10 4 na] H → va_D A [kI cI m3 9 re, kI cI m5 27 rg, kI cI m9 32 nf, kX7 m0 (nI z) m1 (nI r9) m2 m3 m4 m5 (nI n9) (nI v) m6 k1 k2 k3 k4 m7 k5 k6 k7 k8 m8 m9 m10 k9 m11 m12 m13 hv, kI cI m6 12 ea, kI cI m8 2400 fw, kI cI m10 4 na] → va_S A s.heap H locs → lv_has ls 14 [(0, .ref m0), (1, .int (nI j)), (2, .int (nI d0)), (3, .int (nI x1)), (4, .int (nI x2)), (5, .int (rg ((3 * j) + 2))), (6, .int (nI bg)), (7, .int (nI on)), (8, .int (nI q_6)), (9, .int (nI (d0 - on))), (10, .int (nI tw))] → W p l e (rM 3 0 0 72) s m ([.ref m0, .int (nI j), .int (nI d0)] : List Value).toArray below meth c H locs 0 0 Q (F0 m 140 ls []) := by
            intro n
            induction n with
            | zero =>
              intro tw bg htw htl hSB2 ht32 hR2 H locs ls hP hD hS hl
              refine lv_iload hx hb dX7_bySplits_140 (lv_at hl 10 rfl) ?_
              refine lv_if_le (tgt := 281) hx hb dX7_bySplits_142 (by decide) (fun c_9 => ?_) (fun c_9 => ?_)
              rotate_left
              · exact absurd (nI_le (a := tw) (b := 0) (by omega) (by omega)) c_9
              obtain ⟨o2, ho2, ho2S, ho2k, eo2⟩ := dn_nx (S := d0) (on := on) (by omega) hSB (by omega) (by omega)
              refine lv_iload hx hb dX7_bySplits_281 (lv_at hl 7 rfl) ?_
              refine lv_iconst (v := 1) hx hb dX7_bySplits_283 (by decide) ?_
              refine lv_isub hx hb dX7_bySplits_284 ?_
              refine lv_iload_n hx hb dX7_bySplits_285 rfl (lv_at hl 2 rfl) ?_
              refine lv_iand hx hb dX7_bySplits_286 ?_
              refine lv_nmi (show _ = (nI o2 : Int32) from eo2) ?_
              refine lv_istore (lv' := [(7, .int (nI o2)), (0, .ref m0), (1, .int (nI j)), (2, .int (nI d0)), (3, .int (nI x1)), (4, .int (nI x2)), (5, .int (rg ((3 * j) + 2))), (6, .int (nI bg)), (8, .int (nI q_6)), (9, .int (nI (d0 - on))), (10, .int (nI tw))]) hx hb dX7_bySplits_287 hl (by decide) rfl (fun ls hl => ?_)
              refine lv_goto (tgt := 44) hx hb dX7_bySplits_289 (by decide) ?_
              exact ih_44 o2 bg (by omega) (by omega) ho2S (zRI_s (by omega) hZ he23 ho2k (Or.inr (by omega)) hR2) _ _ _ (hP.sub [3, 0, 1, 4, 5, 2, 6] rfl) (hD.sub [3, 0, 1, 4, 5, 2, 6] rfl rfl) hS (lv_sub hl [1, 2, 3, 4, 5, 6, 7, 0] rfl)
            | succ n ih_140 =>
              intro tw bg htw htl hSB2 ht32 hR2 H locs ls hP hD hS hl
              refine lv_iload hx hb dX7_bySplits_140 (lv_at hl 10 rfl) ?_
              refine lv_if_le (tgt := 281) hx hb dX7_bySplits_142 (by decide) (fun c_10 => ?_) (fun c_10 => ?_)
              · skip
                obtain ⟨o2, ho2, ho2S, ho2k, eo2⟩ := dn_nx (S := d0) (on := on) (by omega) hSB (by omega) (by omega)
                refine lv_iload hx hb dX7_bySplits_281 (lv_at hl 7 rfl) ?_
                refine lv_iconst (v := 1) hx hb dX7_bySplits_283 (by decide) ?_
                refine lv_isub hx hb dX7_bySplits_284 ?_
                refine lv_iload_n hx hb dX7_bySplits_285 rfl (lv_at hl 2 rfl) ?_
                refine lv_iand hx hb dX7_bySplits_286 ?_
                refine lv_nmi (show _ = (nI o2 : Int32) from eo2) ?_
                refine lv_istore (lv' := [(7, .int (nI o2)), (0, .ref m0), (1, .int (nI j)), (2, .int (nI d0)), (3, .int (nI x1)), (4, .int (nI x2)), (5, .int (rg ((3 * j) + 2))), (6, .int (nI bg)), (8, .int (nI q_6)), (9, .int (nI (d0 - on))), (10, .int (nI tw))]) hx hb dX7_bySplits_287 hl (by decide) rfl (fun ls hl => ?_)
                refine lv_goto (tgt := 44) hx hb dX7_bySplits_289 (by decide) ?_
                exact ih_44 o2 bg (by omega) (by omega) ho2S (zRI_s (by omega) hZ he23 ho2k (Or.inr (by have := leN (a := tw) (b := 0) (by decide) (by omega) c_10; omega)) hR2) _ _ _ (hP.sub [3, 0, 1, 4, 5, 2, 6] rfl) (hD.sub [3, 0, 1, 4, 5, 2, 6] rfl rfl) hS (lv_sub hl [1, 2, 3, 4, 5, 6, 7, 0] rfl)
              · skip
                have htw1 := nleN (a := tw) (b := 0) (by decide) (by omega) c_10
                have hbg9 := hR2.1
                refine lv_iload hx hb dX7_bySplits_145 (lv_at hl 8 rfl) ?_
                refine lv_ldc hx hb hown (hts _ t_781) dX7_bySplits_147 ?_
                refine lv_icmp_ge (tgt := 281) hx hb dX7_bySplits_149 (by decide) (fun c_11 => ?_) (fun c_11 => ?_)
                · skip
                  obtain ⟨o2, ho2, ho2S, ho2k, eo2⟩ := dn_nx (S := d0) (on := on) (by omega) hSB (by omega) (by omega)
                  refine lv_iload hx hb dX7_bySplits_281 (lv_at hl 7 rfl) ?_
                  refine lv_iconst (v := 1) hx hb dX7_bySplits_283 (by decide) ?_
                  refine lv_isub hx hb dX7_bySplits_284 ?_
                  refine lv_iload_n hx hb dX7_bySplits_285 rfl (lv_at hl 2 rfl) ?_
                  refine lv_iand hx hb dX7_bySplits_286 ?_
                  refine lv_nmi (show _ = (nI o2 : Int32) from eo2) ?_
                  refine lv_istore (lv' := [(7, .int (nI o2)), (0, .ref m0), (1, .int (nI j)), (2, .int (nI d0)), (3, .int (nI x1)), (4, .int (nI x2)), (5, .int (rg ((3 * j) + 2))), (6, .int (nI bg)), (8, .int (nI q_6)), (9, .int (nI (d0 - on))), (10, .int (nI tw))]) hx hb dX7_bySplits_287 hl (by decide) rfl (fun ls hl => ?_)
                  refine lv_goto (tgt := 44) hx hb dX7_bySplits_289 (by decide) ?_
                  exact ih_44 o2 bg (by omega) (by omega) ho2S (zRI_g (by omega) ho2k hf0 (leN (a := 1000000) (by omega) (by decide) c_11) hR2) _ _ _ (hP.sub [3, 0, 1, 4, 5, 2, 6] rfl) (hD.sub [3, 0, 1, 4, 5, 2, 6] rfl rfl) hS (lv_sub hl [1, 2, 3, 4, 5, 6, 7, 0] rfl)
                · skip
                  refine lv_aload_n hx hb dX7_bySplits_152 rfl (lv_at hl 0 rfl) ?_
                  refine va_get (D := D) (ci := 7) (v := .ref m3) (C := RX7) (T := TX7) (N := 27) hx hb hts iT_X7 hown hK1 hP 3 rfl rfl 4 (by decide) (hts _ t_555) (fun _ h9 => h9) rfl dX7_bySplits_153 ?_
                  refine lv_iload_n hx hb dX7_bySplits_156 rfl (lv_at hl 1 rfl) ?_
                  refine va_iald hx hb hK1 hP 0 0 rfl rfl (vp_in_nI (by omega) (by omega)) dX7_bySplits_157 ?_
                  refine lv_nmi (show _ = re j from by rw [nI_clamp (n := j) (by omega)]) ?_
                  refine lv_nmi (show _ = (nI (yS gr j) : Int32) from hMJ.1) ?_
                  refine lv_iconst (v := 3) hx hb dX7_bySplits_158 (by decide) ?_
                  refine lv_icmp_ne (tgt := 281) hx hb dX7_bySplits_159 (by decide) (fun c_12 => ?_) (fun c_12 => ?_)
                  · skip
                    obtain ⟨o2, ho2, ho2S, ho2k, eo2⟩ := dn_nx (S := d0) (on := on) (by omega) hSB (by omega) (by omega)
                    refine lv_iload hx hb dX7_bySplits_281 (lv_at hl 7 rfl) ?_
                    refine lv_iconst (v := 1) hx hb dX7_bySplits_283 (by decide) ?_
                    refine lv_isub hx hb dX7_bySplits_284 ?_
                    refine lv_iload_n hx hb dX7_bySplits_285 rfl (lv_at hl 2 rfl) ?_
                    refine lv_iand hx hb dX7_bySplits_286 ?_
                    refine lv_nmi (show _ = (nI o2 : Int32) from eo2) ?_
                    refine lv_istore (lv' := [(7, .int (nI o2)), (0, .ref m0), (1, .int (nI j)), (2, .int (nI d0)), (3, .int (nI x1)), (4, .int (nI x2)), (5, .int (rg ((3 * j) + 2))), (6, .int (nI bg)), (8, .int (nI q_6)), (9, .int (nI (d0 - on))), (10, .int (nI tw))]) hx hb dX7_bySplits_287 hl (by decide) rfl (fun ls hl => ?_)
                    refine lv_goto (tgt := 44) hx hb dX7_bySplits_289 (by decide) ?_
                    exact ih_44 o2 bg (by omega) (by omega) ho2S (zRI_s (by omega) hZ he23 ho2k (Or.inl (by have e8 : ¬ yS gr j = 3 := fun q => c_12 (by rw [q]; rfl); omega)) hR2) _ _ _ (hP.sub [3, 0, 1, 4, 5, 2, 6] rfl) (hD.sub [3, 0, 1, 4, 5, 2, 6] rfl rfl) hS (lv_sub hl [1, 2, 3, 4, 5, 6, 7, 0] rfl)
                  · skip
                    have he9 := (nI_eq (a := yS gr j) (b := 3) (by omega) (by decide)).mp c_12
                    obtain ⟨x3, h3a, h3b, h3c, ex3, xl3, xf3, xt3⟩ := MJE_e hMJ (show 2 < yS gr j by omega)
                    have hrest2 := (zm_sub (S := d0 - on) (p := tw) (by omega) (by omega)).2 hSB2
                    have hl : lv_has ls 14 [(0, .ref m0), (1, .int (nI j)), (2, .int (nI d0)), (3, .int (nI x1)), (4, .int (nI x2)), (5, .int (nI x3)), (6, .int (nI bg)), (7, .int (nI on)), (8, .int (nI q_6)), (9, .int (nI (d0 - on))), (10, .int (nI tw))] := by rw [← ex3]; exact hl
                    refine lv_iload hx hb dX7_bySplits_162 (lv_at hl 9 rfl) ?_
                    refine lv_iload hx hb dX7_bySplits_164 (lv_at hl 10 rfl) ?_
                    refine lv_iconst (v := -1) hx hb dX7_bySplits_166 (by decide) ?_
                    refine lv_ixor hx hb dX7_bySplits_167 ?_
                    refine lv_iand hx hb dX7_bySplits_168 ?_
                    refine lv_nmi (show _ = (nI (d0 - on - tw) : Int32) from hrest2.1) ?_
                    refine lv_istore (lv' := [(11, .int (nI (d0 - on - tw))), (0, .ref m0), (1, .int (nI j)), (2, .int (nI d0)), (3, .int (nI x1)), (4, .int (nI x2)), (5, .int (nI x3)), (6, .int (nI bg)), (7, .int (nI on)), (8, .int (nI q_6)), (9, .int (nI (d0 - on))), (10, .int (nI tw))]) hx hb dX7_bySplits_169 hl (by decide) rfl (fun ls hl => ?_)
                    refine lv_aload_n hx hb dX7_bySplits_171 rfl (lv_at hl 1 rfl) ?_
                    refine lv_iload_n hx hb dX7_bySplits_172 rfl (lv_at hl 4 rfl) ?_
                    refine lv_iload hx hb dX7_bySplits_173 (lv_at hl 8 rfl) ?_
                    refine lv_iload hx hb dX7_bySplits_175 (lv_at hl 5 rfl) ?_
                    refine lv_iload hx hb dX7_bySplits_177 (lv_at hl 11 rfl) ?_
                    refine xc_i (wc := [kX7 m0 (nI z) m1 (nI r9) m2 m3 m4 m5 (nI n9) (nI v) m6 k1 k2 k3 k4 m7 k5 k6 k7 k8 m8 m9 m10 k9 m11 m12 m13 hv, kI cI m9 32 nf, kI cI m10 4 na]) (wr := [kI cI m3 9 re, kI cI m5 27 rg, kI cI m6 12 ea, kI cI m8 2400 fw]) (xrV (n := 4) (As := [.int (nI x1), .int (nI on), .int (nI x2), .int (nI tw)]) (rest := []) (ci := 7) (q0 := 3) hd hK hP hD (c_X7_areApart l D cI cJ cZ cR _ m0 m1 m2 m3 m4 m5 m6 m7 m8 m9 m10 m11 m12 m13 z r9 n9 v k1 k2 k3 k4 k5 k6 k7 k8 k9 hv ea nf na x1 on x2 tw hn5 hv5 hEA hNF hsd h1a h1b h1c h2a h2b h2c (by omega) (by omega)) (gV t_802 mV_X7_areApart) hV_X7_areApart ⟨(Nat.le_of_ble_eq_true rfl), (Nat.le_of_ble_eq_true rfl)⟩ rfl rfl [3, 2, 6] rfl rfl rfl hl.1 rfl (Nat.le_of_ble_eq_true rfl) dX7_bySplits_179 ⟨(Nat.le_of_ble_eq_true rfl), (Nat.le_of_ble_eq_true rfl)⟩) hP hD hS hA [3, 2, 6] [0, 1, 4, 5] rfl rfl rfl (by decide) (fun r_13 u_14 H locs hw_15 hP hD hS => ?_)
                    have hw_16 : YN r_13 (zAq (gM n9 v ea) on tw (tn (na (x1 / 10 % 10))) (tn (na (x1 % 10))) (tn (na (x2 / 10 % 10))) (tn (na (x2 % 10)))) := hw_15
                    have hY1 := hw_16
                    rw [← xf1, ← xt1, ← xf2, ← xt2] at hY1
                    have hP : va_P D vwCl [kI cI m3 9 re, kI cI m5 27 rg, kI cI m6 12 ea, kI cI m8 2400 fw, kX7 m0 (nI z) m1 (nI r9) m2 m3 m4 m5 (nI n9) (nI v) m6 k1 k2 k3 k4 m7 k5 k6 k7 k8 m8 m9 m10 k9 m11 m12 m13 hv, kI cI m9 32 nf, kI cI m10 4 na] H := hP
                    have hD : va_D A [kI cI m3 9 re, kI cI m5 27 rg, kI cI m6 12 ea, kI cI m8 2400 fw, kX7 m0 (nI z) m1 (nI r9) m2 m3 m4 m5 (nI n9) (nI v) m6 k1 k2 k3 k4 m7 k5 k6 k7 k8 m8 m9 m10 k9 m11 m12 m13 hv, kI cI m9 32 nf, kI cI m10 4 na] := hD
                    refine lv_if_eq (tgt := 218) hx hb dX7_bySplits_182 (by decide) (fun c_17 => ?_) (fun c_17 => ?_)
                    · skip
                      refine lv_iconst (v := 0) hx hb dX7_bySplits_218 (by decide) ?_
                      refine lv_istore (lv' := [(12, .int 0), (11, .int (nI (d0 - on - tw))), (0, .ref m0), (1, .int (nI j)), (2, .int (nI d0)), (3, .int (nI x1)), (4, .int (nI x2)), (5, .int (nI x3)), (6, .int (nI bg)), (7, .int (nI on)), (8, .int (nI q_6)), (9, .int (nI (d0 - on))), (10, .int (nI tw))]) hx hb dX7_bySplits_219 hl (by decide) rfl (fun ls hl => ?_)
                      refine lv_iload hx hb dX7_bySplits_221 (lv_at hl 0 rfl) ?_
                      refine lv_if_eq (tgt := 249) hx hb dX7_bySplits_223 (by decide) (fun c_18 => ?_) (fun c_18 => ?_)
                      rotate_left
                      · exact absurd c_18 (by decide)
                      refine lv_ldc hx hb hown (hts _ t_781) dX7_bySplits_249 ?_
                      refine lv_istore (lv' := [(13, .int 1000000), (12, .int 0), (11, .int (nI (d0 - on - tw))), (0, .ref m0), (1, .int (nI j)), (2, .int (nI d0)), (3, .int (nI x1)), (4, .int (nI x2)), (5, .int (nI x3)), (6, .int (nI bg)), (7, .int (nI on)), (8, .int (nI q_6)), (9, .int (nI (d0 - on))), (10, .int (nI tw))]) hx hb dX7_bySplits_251 hl (by decide) rfl (fun ls hl => ?_)
                      refine lv_iload hx hb dX7_bySplits_253 (lv_at hl 0 rfl) ?_
                      refine lv_iload hx hb dX7_bySplits_255 (lv_at hl 9 rfl) ?_
                      refine lv_icmp_ge (tgt := 265) hx hb dX7_bySplits_257 (by decide) (fun c_19 => ?_) (fun c_19 => ?_)
                      rotate_left
                      · exact absurd (nI_le (a := bg) (b := 1000000) (by omega) (by omega)) c_19
                      refine lv_iload hx hb dX7_bySplits_265 (lv_at hl 9 rfl) ?_
                      refine lv_istore (lv' := [(6, .int (nI bg)), (13, .int 1000000), (12, .int 0), (11, .int (nI (d0 - on - tw))), (0, .ref m0), (1, .int (nI j)), (2, .int (nI d0)), (3, .int (nI x1)), (4, .int (nI x2)), (5, .int (nI x3)), (7, .int (nI on)), (8, .int (nI q_6)), (9, .int (nI (d0 - on))), (10, .int (nI tw))]) hx hb dX7_bySplits_267 hl (by decide) rfl (fun ls hl => ?_)
                      obtain ⟨u2, hu2, hu2S, hu2k, eu2⟩ := dn_nx (S := d0 - on) (on := tw) (by omega) hSB2 (by omega) (by omega)
                      have hl : lv_has ls 14 [(6, .int (nI bg)), (13, .int 1000000), (12, .int 0), (11, .int (nI (d0 - on - tw))), (0, .ref m0), (1, .int (nI j)), (2, .int (nI d0)), (3, .int (nI x1)), (4, .int (nI x2)), (5, .int (rg ((3 * j) + 2))), (7, .int (nI on)), (8, .int (nI q_6)), (9, .int (nI (d0 - on))), (10, .int (nI tw))] := by rw [ex3]; exact hl
                      refine lv_iload hx hb dX7_bySplits_269 (lv_at hl 13 rfl) ?_
                      refine lv_iconst (v := 1) hx hb dX7_bySplits_271 (by decide) ?_
                      refine lv_isub hx hb dX7_bySplits_272 ?_
                      refine lv_iload hx hb dX7_bySplits_273 (lv_at hl 12 rfl) ?_
                      refine lv_iand hx hb dX7_bySplits_275 ?_
                      refine lv_nmi (show _ = (nI u2 : Int32) from eu2) ?_
                      refine lv_istore (lv' := [(10, .int (nI u2)), (6, .int (nI bg)), (13, .int 1000000), (12, .int 0), (11, .int (nI (d0 - on - tw))), (0, .ref m0), (1, .int (nI j)), (2, .int (nI d0)), (3, .int (nI x1)), (4, .int (nI x2)), (5, .int (rg ((3 * j) + 2))), (7, .int (nI on)), (8, .int (nI q_6)), (9, .int (nI (d0 - on)))]) hx hb dX7_bySplits_276 hl (by decide) rfl (fun ls hl => ?_)
                      refine lv_goto (tgt := 140) hx hb dX7_bySplits_278 (by decide) ?_
                      exact ih_140 u2 bg (by omega) (by omega) hu2S (by omega) (zRJ_3n (by omega) hu2k he9 (sp3_n (d := (fun k_9 => tn (na k_9))) (fun q => hY1.no c_17 q.1)) hR2) _ _ _ (hP.sub [0, 1, 5, 4, 2, 3, 6] rfl) (hD.sub [0, 1, 5, 4, 2, 3, 6] rfl rfl) hS (lv_sub hl [5, 6, 7, 8, 9, 10, 1, 11, 12, 13, 0] rfl)
                    · skip
                      refine lv_aload_n hx hb dX7_bySplits_185 rfl (lv_at hl 1 rfl) ?_
                      refine lv_iload_n hx hb dX7_bySplits_186 rfl (lv_at hl 4 rfl) ?_
                      refine lv_iload hx hb dX7_bySplits_187 (lv_at hl 8 rfl) ?_
                      refine lv_iload hx hb dX7_bySplits_189 (lv_at hl 6 rfl) ?_
                      refine lv_iload hx hb dX7_bySplits_191 (lv_at hl 0 rfl) ?_
                      refine xc_i (wc := [kX7 m0 (nI z) m1 (nI r9) m2 m3 m4 m5 (nI n9) (nI v) m6 k1 k2 k3 k4 m7 k5 k6 k7 k8 m8 m9 m10 k9 m11 m12 m13 hv, kI cI m9 32 nf, kI cI m10 4 na]) (wr := [kI cI m3 9 re, kI cI m5 27 rg, kI cI m6 12 ea, kI cI m8 2400 fw]) (xrV (n := 4) (As := [.int (nI x1), .int (nI on), .int (nI x3), .int (nI (d0 - on - tw))]) (rest := []) (ci := 7) (q0 := 4) hd hK hP hD (c_X7_areApart l D cI cJ cZ cR _ m0 m1 m2 m3 m4 m5 m6 m7 m8 m9 m10 m11 m12 m13 z r9 n9 v k1 k2 k3 k4 k5 k6 k7 k8 k9 hv ea nf na x1 on x3 (d0 - on - tw) hn5 hv5 hEA hNF hsd h1a h1b h1c h3a h3b h3c (by omega) (by omega)) (gV t_802 mV_X7_areApart) hV_X7_areApart ⟨(Nat.le_of_ble_eq_true rfl), (Nat.le_of_ble_eq_true rfl)⟩ rfl rfl [4, 5, 6] rfl rfl rfl hl.1 rfl (Nat.le_of_ble_eq_true rfl) dX7_bySplits_193 ⟨(Nat.le_of_ble_eq_true rfl), (Nat.le_of_ble_eq_true rfl)⟩) hP hD hS hA [4, 5, 6] [0, 1, 2, 3] rfl rfl rfl (by decide) (fun r_20 u_21 H locs hw_22 hP hD hS => ?_)
                      have hw_23 : YN r_20 (zAq (gM n9 v ea) on (d0 - on - tw) (tn (na (x1 / 10 % 10))) (tn (na (x1 % 10))) (tn (na (x3 / 10 % 10))) (tn (na (x3 % 10)))) := hw_22
                      have hY2 := hw_23
                      rw [← xf1, ← xt1, ← xf3, ← xt3] at hY2
                      have hP : va_P D vwCl [kI cI m3 9 re, kI cI m5 27 rg, kI cI m6 12 ea, kI cI m8 2400 fw, kX7 m0 (nI z) m1 (nI r9) m2 m3 m4 m5 (nI n9) (nI v) m6 k1 k2 k3 k4 m7 k5 k6 k7 k8 m8 m9 m10 k9 m11 m12 m13 hv, kI cI m9 32 nf, kI cI m10 4 na] H := hP
                      have hD : va_D A [kI cI m3 9 re, kI cI m5 27 rg, kI cI m6 12 ea, kI cI m8 2400 fw, kX7 m0 (nI z) m1 (nI r9) m2 m3 m4 m5 (nI n9) (nI v) m6 k1 k2 k3 k4 m7 k5 k6 k7 k8 m8 m9 m10 k9 m11 m12 m13 hv, kI cI m9 32 nf, kI cI m10 4 na] := hD
                      refine lv_if_eq (tgt := 218) hx hb dX7_bySplits_196 (by decide) (fun c_24 => ?_) (fun c_24 => ?_)
                      · skip
                        refine lv_iconst (v := 0) hx hb dX7_bySplits_218 (by decide) ?_
                        refine lv_istore (lv' := [(12, .int 0), (11, .int (nI (d0 - on - tw))), (0, .ref m0), (1, .int (nI j)), (2, .int (nI d0)), (3, .int (nI x1)), (4, .int (nI x2)), (5, .int (nI x3)), (6, .int (nI bg)), (7, .int (nI on)), (8, .int (nI q_6)), (9, .int (nI (d0 - on))), (10, .int (nI tw))]) hx hb dX7_bySplits_219 hl (by decide) rfl (fun ls hl => ?_)
                        refine lv_iload hx hb dX7_bySplits_221 (lv_at hl 0 rfl) ?_
                        refine lv_if_eq (tgt := 249) hx hb dX7_bySplits_223 (by decide) (fun c_25 => ?_) (fun c_25 => ?_)
                        rotate_left
                        · exact absurd c_25 (by decide)
                        refine lv_ldc hx hb hown (hts _ t_781) dX7_bySplits_249 ?_
                        refine lv_istore (lv' := [(13, .int 1000000), (12, .int 0), (11, .int (nI (d0 - on - tw))), (0, .ref m0), (1, .int (nI j)), (2, .int (nI d0)), (3, .int (nI x1)), (4, .int (nI x2)), (5, .int (nI x3)), (6, .int (nI bg)), (7, .int (nI on)), (8, .int (nI q_6)), (9, .int (nI (d0 - on))), (10, .int (nI tw))]) hx hb dX7_bySplits_251 hl (by decide) rfl (fun ls hl => ?_)
                        refine lv_iload hx hb dX7_bySplits_253 (lv_at hl 0 rfl) ?_
                        refine lv_iload hx hb dX7_bySplits_255 (lv_at hl 9 rfl) ?_
                        refine lv_icmp_ge (tgt := 265) hx hb dX7_bySplits_257 (by decide) (fun c_26 => ?_) (fun c_26 => ?_)
                        rotate_left
                        · exact absurd (nI_le (a := bg) (b := 1000000) (by omega) (by omega)) c_26
                        refine lv_iload hx hb dX7_bySplits_265 (lv_at hl 9 rfl) ?_
                        refine lv_istore (lv' := [(6, .int (nI bg)), (13, .int 1000000), (12, .int 0), (11, .int (nI (d0 - on - tw))), (0, .ref m0), (1, .int (nI j)), (2, .int (nI d0)), (3, .int (nI x1)), (4, .int (nI x2)), (5, .int (nI x3)), (7, .int (nI on)), (8, .int (nI q_6)), (9, .int (nI (d0 - on))), (10, .int (nI tw))]) hx hb dX7_bySplits_267 hl (by decide) rfl (fun ls hl => ?_)
                        obtain ⟨u2, hu2, hu2S, hu2k, eu2⟩ := dn_nx (S := d0 - on) (on := tw) (by omega) hSB2 (by omega) (by omega)
                        have hl : lv_has ls 14 [(6, .int (nI bg)), (13, .int 1000000), (12, .int 0), (11, .int (nI (d0 - on - tw))), (0, .ref m0), (1, .int (nI j)), (2, .int (nI d0)), (3, .int (nI x1)), (4, .int (nI x2)), (5, .int (rg ((3 * j) + 2))), (7, .int (nI on)), (8, .int (nI q_6)), (9, .int (nI (d0 - on))), (10, .int (nI tw))] := by rw [ex3]; exact hl
                        refine lv_iload hx hb dX7_bySplits_269 (lv_at hl 13 rfl) ?_
                        refine lv_iconst (v := 1) hx hb dX7_bySplits_271 (by decide) ?_
                        refine lv_isub hx hb dX7_bySplits_272 ?_
                        refine lv_iload hx hb dX7_bySplits_273 (lv_at hl 12 rfl) ?_
                        refine lv_iand hx hb dX7_bySplits_275 ?_
                        refine lv_nmi (show _ = (nI u2 : Int32) from eu2) ?_
                        refine lv_istore (lv' := [(10, .int (nI u2)), (6, .int (nI bg)), (13, .int 1000000), (12, .int 0), (11, .int (nI (d0 - on - tw))), (0, .ref m0), (1, .int (nI j)), (2, .int (nI d0)), (3, .int (nI x1)), (4, .int (nI x2)), (5, .int (rg ((3 * j) + 2))), (7, .int (nI on)), (8, .int (nI q_6)), (9, .int (nI (d0 - on)))]) hx hb dX7_bySplits_276 hl (by decide) rfl (fun ls hl => ?_)
                        refine lv_goto (tgt := 140) hx hb dX7_bySplits_278 (by decide) ?_
                        exact ih_140 u2 bg (by omega) (by omega) hu2S (by omega) (zRJ_3n (by omega) hu2k he9 (sp3_n (d := (fun k_9 => tn (na k_9))) (fun q => hY2.no c_24 q.2.1)) hR2) _ _ _ (hP.sub [0, 1, 5, 4, 2, 3, 6] rfl) (hD.sub [0, 1, 5, 4, 2, 3, 6] rfl rfl) hS (lv_sub hl [5, 6, 7, 8, 9, 10, 1, 11, 12, 13, 0] rfl)
                      · skip
                        refine lv_aload_n hx hb dX7_bySplits_199 rfl (lv_at hl 1 rfl) ?_
                        refine lv_iload hx hb dX7_bySplits_200 (lv_at hl 5 rfl) ?_
                        refine lv_iload hx hb dX7_bySplits_202 (lv_at hl 11 rfl) ?_
                        refine lv_iload hx hb dX7_bySplits_204 (lv_at hl 6 rfl) ?_
                        refine lv_iload hx hb dX7_bySplits_206 (lv_at hl 0 rfl) ?_
                        refine xc_i (wc := [kX7 m0 (nI z) m1 (nI r9) m2 m3 m4 m5 (nI n9) (nI v) m6 k1 k2 k3 k4 m7 k5 k6 k7 k8 m8 m9 m10 k9 m11 m12 m13 hv, kI cI m9 32 nf, kI cI m10 4 na]) (wr := [kI cI m3 9 re, kI cI m5 27 rg, kI cI m6 12 ea, kI cI m8 2400 fw]) (xrV (n := 4) (As := [.int (nI x2), .int (nI tw), .int (nI x3), .int (nI (d0 - on - tw))]) (rest := []) (ci := 7) (q0 := 4) hd hK hP hD (c_X7_areApart l D cI cJ cZ cR _ m0 m1 m2 m3 m4 m5 m6 m7 m8 m9 m10 m11 m12 m13 z r9 n9 v k1 k2 k3 k4 k5 k6 k7 k8 k9 hv ea nf na x2 tw x3 (d0 - on - tw) hn5 hv5 hEA hNF hsd h2a h2b h2c h3a h3b h3c (by omega) (by omega)) (gV t_802 mV_X7_areApart) hV_X7_areApart ⟨(Nat.le_of_ble_eq_true rfl), (Nat.le_of_ble_eq_true rfl)⟩ rfl rfl [4, 5, 6] rfl rfl rfl hl.1 rfl (Nat.le_of_ble_eq_true rfl) dX7_bySplits_208 ⟨(Nat.le_of_ble_eq_true rfl), (Nat.le_of_ble_eq_true rfl)⟩) hP hD hS hA [4, 5, 6] [0, 1, 2, 3] rfl rfl rfl (by decide) (fun r_27 u_28 H locs hw_29 hP hD hS => ?_)
                        have hw_30 : YN r_27 (zAq (gM n9 v ea) tw (d0 - on - tw) (tn (na (x2 / 10 % 10))) (tn (na (x2 % 10))) (tn (na (x3 / 10 % 10))) (tn (na (x3 % 10)))) := hw_29
                        have hY3 := hw_30
                        rw [← xf2, ← xt2, ← xf3, ← xt3] at hY3
                        have hP : va_P D vwCl [kI cI m3 9 re, kI cI m5 27 rg, kI cI m6 12 ea, kI cI m8 2400 fw, kX7 m0 (nI z) m1 (nI r9) m2 m3 m4 m5 (nI n9) (nI v) m6 k1 k2 k3 k4 m7 k5 k6 k7 k8 m8 m9 m10 k9 m11 m12 m13 hv, kI cI m9 32 nf, kI cI m10 4 na] H := hP
                        have hD : va_D A [kI cI m3 9 re, kI cI m5 27 rg, kI cI m6 12 ea, kI cI m8 2400 fw, kX7 m0 (nI z) m1 (nI r9) m2 m3 m4 m5 (nI n9) (nI v) m6 k1 k2 k3 k4 m7 k5 k6 k7 k8 m8 m9 m10 k9 m11 m12 m13 hv, kI cI m9 32 nf, kI cI m10 4 na] := hD
                        refine lv_if_eq (tgt := 218) hx hb dX7_bySplits_211 (by decide) (fun c_31 => ?_) (fun c_31 => ?_)
                        · skip
                          refine lv_iconst (v := 0) hx hb dX7_bySplits_218 (by decide) ?_
                          refine lv_istore (lv' := [(12, .int 0), (11, .int (nI (d0 - on - tw))), (0, .ref m0), (1, .int (nI j)), (2, .int (nI d0)), (3, .int (nI x1)), (4, .int (nI x2)), (5, .int (nI x3)), (6, .int (nI bg)), (7, .int (nI on)), (8, .int (nI q_6)), (9, .int (nI (d0 - on))), (10, .int (nI tw))]) hx hb dX7_bySplits_219 hl (by decide) rfl (fun ls hl => ?_)
                          refine lv_iload hx hb dX7_bySplits_221 (lv_at hl 0 rfl) ?_
                          refine lv_if_eq (tgt := 249) hx hb dX7_bySplits_223 (by decide) (fun c_32 => ?_) (fun c_32 => ?_)
                          rotate_left
                          · exact absurd c_32 (by decide)
                          refine lv_ldc hx hb hown (hts _ t_781) dX7_bySplits_249 ?_
                          refine lv_istore (lv' := [(13, .int 1000000), (12, .int 0), (11, .int (nI (d0 - on - tw))), (0, .ref m0), (1, .int (nI j)), (2, .int (nI d0)), (3, .int (nI x1)), (4, .int (nI x2)), (5, .int (nI x3)), (6, .int (nI bg)), (7, .int (nI on)), (8, .int (nI q_6)), (9, .int (nI (d0 - on))), (10, .int (nI tw))]) hx hb dX7_bySplits_251 hl (by decide) rfl (fun ls hl => ?_)
                          refine lv_iload hx hb dX7_bySplits_253 (lv_at hl 0 rfl) ?_
                          refine lv_iload hx hb dX7_bySplits_255 (lv_at hl 9 rfl) ?_
                          refine lv_icmp_ge (tgt := 265) hx hb dX7_bySplits_257 (by decide) (fun c_33 => ?_) (fun c_33 => ?_)
                          rotate_left
                          · exact absurd (nI_le (a := bg) (b := 1000000) (by omega) (by omega)) c_33
                          refine lv_iload hx hb dX7_bySplits_265 (lv_at hl 9 rfl) ?_
                          refine lv_istore (lv' := [(6, .int (nI bg)), (13, .int 1000000), (12, .int 0), (11, .int (nI (d0 - on - tw))), (0, .ref m0), (1, .int (nI j)), (2, .int (nI d0)), (3, .int (nI x1)), (4, .int (nI x2)), (5, .int (nI x3)), (7, .int (nI on)), (8, .int (nI q_6)), (9, .int (nI (d0 - on))), (10, .int (nI tw))]) hx hb dX7_bySplits_267 hl (by decide) rfl (fun ls hl => ?_)
                          obtain ⟨u2, hu2, hu2S, hu2k, eu2⟩ := dn_nx (S := d0 - on) (on := tw) (by omega) hSB2 (by omega) (by omega)
                          have hl : lv_has ls 14 [(6, .int (nI bg)), (13, .int 1000000), (12, .int 0), (11, .int (nI (d0 - on - tw))), (0, .ref m0), (1, .int (nI j)), (2, .int (nI d0)), (3, .int (nI x1)), (4, .int (nI x2)), (5, .int (rg ((3 * j) + 2))), (7, .int (nI on)), (8, .int (nI q_6)), (9, .int (nI (d0 - on))), (10, .int (nI tw))] := by rw [ex3]; exact hl
                          refine lv_iload hx hb dX7_bySplits_269 (lv_at hl 13 rfl) ?_
                          refine lv_iconst (v := 1) hx hb dX7_bySplits_271 (by decide) ?_
                          refine lv_isub hx hb dX7_bySplits_272 ?_
                          refine lv_iload hx hb dX7_bySplits_273 (lv_at hl 12 rfl) ?_
                          refine lv_iand hx hb dX7_bySplits_275 ?_
                          refine lv_nmi (show _ = (nI u2 : Int32) from eu2) ?_
                          refine lv_istore (lv' := [(10, .int (nI u2)), (6, .int (nI bg)), (13, .int 1000000), (12, .int 0), (11, .int (nI (d0 - on - tw))), (0, .ref m0), (1, .int (nI j)), (2, .int (nI d0)), (3, .int (nI x1)), (4, .int (nI x2)), (5, .int (rg ((3 * j) + 2))), (7, .int (nI on)), (8, .int (nI q_6)), (9, .int (nI (d0 - on)))]) hx hb dX7_bySplits_276 hl (by decide) rfl (fun ls hl => ?_)
                          refine lv_goto (tgt := 140) hx hb dX7_bySplits_278 (by decide) ?_
                          exact ih_140 u2 bg (by omega) (by omega) hu2S (by omega) (zRJ_3n (by omega) hu2k he9 (sp3_n (d := (fun k_9 => tn (na k_9))) (fun q => hY3.no c_31 q.2.2)) hR2) _ _ _ (hP.sub [0, 1, 5, 4, 2, 3, 6] rfl) (hD.sub [0, 1, 5, 4, 2, 3, 6] rfl rfl) hS (lv_sub hl [5, 6, 7, 8, 9, 10, 1, 11, 12, 13, 0] rfl)
                        · skip
                          refine lv_iconst (v := 1) hx hb dX7_bySplits_214 (by decide) ?_
                          refine lv_goto (tgt := 219) hx hb dX7_bySplits_215 (by decide) ?_
                          refine lv_istore (lv' := [(12, .int 1), (11, .int (nI (d0 - on - tw))), (0, .ref m0), (1, .int (nI j)), (2, .int (nI d0)), (3, .int (nI x1)), (4, .int (nI x2)), (5, .int (nI x3)), (6, .int (nI bg)), (7, .int (nI on)), (8, .int (nI q_6)), (9, .int (nI (d0 - on))), (10, .int (nI tw))]) hx hb dX7_bySplits_219 hl (by decide) rfl (fun ls hl => ?_)
                          refine lv_iload hx hb dX7_bySplits_221 (lv_at hl 0 rfl) ?_
                          refine lv_if_eq (tgt := 249) hx hb dX7_bySplits_223 (by decide) (fun c_34 => ?_) (fun c_34 => ?_)
                          · exact absurd c_34 (by decide)
                          refine lv_iload hx hb dX7_bySplits_226 (lv_at hl 10 rfl) ?_
                          refine lv_aload_n hx hb dX7_bySplits_228 rfl (lv_at hl 2 rfl) ?_
                          refine lv_iload hx hb dX7_bySplits_229 (lv_at hl 6 rfl) ?_
                          refine lv_iload hx hb dX7_bySplits_231 (lv_at hl 12 rfl) ?_
                          refine xc_i (wc := [kX7 m0 (nI z) m1 (nI r9) m2 m3 m4 m5 (nI n9) (nI v) m6 k1 k2 k3 k4 m7 k5 k6 k7 k8 m8 m9 m10 k9 m11 m12 m13 hv, kI cI m6 12 ea, kI cI m8 2400 fw, kI cI m10 4 na]) (wr := [kI cI m3 9 re, kI cI m5 27 rg, kI cI m9 32 nf]) (xrV (n := 2) (As := [.int (nI x2), .int (nI tw)]) (rest := [.int (nI q_6)]) (ci := 7) (q0 := 4) hd hK hP hD (c_X7_stepsFor l D cI cJ cZ cR _ m0 m1 m2 m3 m4 m5 m6 m7 m8 m9 m10 m11 m12 m13 z r9 n9 v k1 k2 k3 k4 k5 k6 k7 k8 k9 hv ea fw na x2 tw hFW hn5 hv5 hEA hsd h2a h2b h2c (by omega)) (gV t_794 mV_X7_stepsFor) hV_X7_stepsFor ⟨(Nat.le_of_ble_eq_true rfl), (Nat.le_of_ble_eq_true rfl)⟩ rfl rfl [4, 2, 3, 6] rfl rfl rfl hl.1 rfl (Nat.le_of_ble_eq_true rfl) dX7_bySplits_233 ⟨(Nat.le_of_ble_eq_true rfl), (Nat.le_of_ble_eq_true rfl)⟩) hP hD hS hA [4, 2, 3, 6] [0, 1, 5] rfl rfl rfl (by decide) (fun r_35 u_36 H locs hw_37 hP hD hS => ?_)
                          obtain ⟨q_38, rfl⟩ : ∃ z9, z9 = u_36 := ⟨_, rfl⟩
                          obtain ⟨hw_39, hw_40⟩ : (r_35 = (nI q_38)) ∧ (zLs zM9 (zSv (gM n9 v ea) (TD zM9 (trb fw)) (x2 / 100) tw (tn (na (x2 / 10 % 10))) (tn (na (x2 % 10)))) q_38) := hw_37
                          subst hw_39
                          have hx0 := sf_Z (d := (fun k_9 => tn (na k_9))) (show 1 < yS gr j by omega) xl2 xf2 xt2 (show ¬ tw = 0 by omega) hw_40
                          have hx9 := hx0.1
                          have hP : va_P D vwCl [kI cI m3 9 re, kI cI m5 27 rg, kI cI m9 32 nf, kX7 m0 (nI z) m1 (nI r9) m2 m3 m4 m5 (nI n9) (nI v) m6 k1 k2 k3 k4 m7 k5 k6 k7 k8 m8 m9 m10 k9 m11 m12 m13 hv, kI cI m6 12 ea, kI cI m8 2400 fw, kI cI m10 4 na] H := hP
                          have hD : va_D A [kI cI m3 9 re, kI cI m5 27 rg, kI cI m9 32 nf, kX7 m0 (nI z) m1 (nI r9) m2 m3 m4 m5 (nI n9) (nI v) m6 k1 k2 k3 k4 m7 k5 k6 k7 k8 m8 m9 m10 k9 m11 m12 m13 hv, kI cI m6 12 ea, kI cI m8 2400 fw, kI cI m10 4 na] := hD
                          refine lv_iadd hx hb dX7_bySplits_236 ?_
                          refine lv_nmi (show _ = (nI (q_6 + q_38)) from nI_add (q_6) (q_38)) ?_
                          refine lv_aload_n hx hb dX7_bySplits_237 rfl (lv_at hl 2 rfl) ?_
                          refine lv_iload hx hb dX7_bySplits_238 (lv_at hl 7 rfl) ?_
                          refine lv_iload hx hb dX7_bySplits_240 (lv_at hl 1 rfl) ?_
                          refine xc_i (wc := [kX7 m0 (nI z) m1 (nI r9) m2 m3 m4 m5 (nI n9) (nI v) m6 k1 k2 k3 k4 m7 k5 k6 k7 k8 m8 m9 m10 k9 m11 m12 m13 hv, kI cI m6 12 ea, kI cI m8 2400 fw, kI cI m10 4 na]) (wr := [kI cI m3 9 re, kI cI m5 27 rg, kI cI m9 32 nf]) (xrV (n := 2) (As := [.int (nI x3), .int (nI (d0 - on - tw))]) (rest := [.int (nI (q_6 + q_38))]) (ci := 7) (q0 := 3) hd hK hP hD (c_X7_stepsFor l D cI cJ cZ cR _ m0 m1 m2 m3 m4 m5 m6 m7 m8 m9 m10 m11 m12 m13 z r9 n9 v k1 k2 k3 k4 k5 k6 k7 k8 k9 hv ea fw na x3 (d0 - on - tw) hFW hn5 hv5 hEA hsd h3a h3b h3c (by omega)) (gV t_794 mV_X7_stepsFor) hV_X7_stepsFor ⟨(Nat.le_of_ble_eq_true rfl), (Nat.le_of_ble_eq_true rfl)⟩ rfl rfl [3, 4, 5, 6] rfl rfl rfl hl.1 rfl (Nat.le_of_ble_eq_true rfl) dX7_bySplits_242 ⟨(Nat.le_of_ble_eq_true rfl), (Nat.le_of_ble_eq_true rfl)⟩) hP hD hS hA [3, 4, 5, 6] [0, 1, 2] rfl rfl rfl (by decide) (fun r_41 u_42 H locs hw_43 hP hD hS => ?_)
                          obtain ⟨q_44, rfl⟩ : ∃ z9, z9 = u_42 := ⟨_, rfl⟩
                          obtain ⟨hw_45, hw_46⟩ : (r_41 = (nI q_44)) ∧ (zLs zM9 (zSv (gM n9 v ea) (TD zM9 (trb fw)) (x3 / 100) (d0 - on - tw) (tn (na (x3 / 10 % 10))) (tn (na (x3 % 10)))) q_44) := hw_43
                          subst hw_45
                          have hy0 := sf_Z (d := (fun k_9 => tn (na k_9))) (show 2 < yS gr j by omega) xl3 xf3 xt3 (show ¬ d0 - on - tw = 0 by omega) hw_46
                          have hy9 := hy0.1
                          have hP : va_P D vwCl [kI cI m3 9 re, kI cI m5 27 rg, kI cI m9 32 nf, kX7 m0 (nI z) m1 (nI r9) m2 m3 m4 m5 (nI n9) (nI v) m6 k1 k2 k3 k4 m7 k5 k6 k7 k8 m8 m9 m10 k9 m11 m12 m13 hv, kI cI m6 12 ea, kI cI m8 2400 fw, kI cI m10 4 na] H := hP
                          have hD : va_D A [kI cI m3 9 re, kI cI m5 27 rg, kI cI m9 32 nf, kX7 m0 (nI z) m1 (nI r9) m2 m3 m4 m5 (nI n9) (nI v) m6 k1 k2 k3 k4 m7 k5 k6 k7 k8 m8 m9 m10 k9 m11 m12 m13 hv, kI cI m6 12 ea, kI cI m8 2400 fw, kI cI m10 4 na] := hD
                          refine lv_iadd hx hb dX7_bySplits_245 ?_
                          refine lv_nmi (show _ = (nI ((q_6 + q_38) + q_44)) from nI_add ((q_6 + q_38)) (q_44)) ?_
                          refine lv_goto (tgt := 251) hx hb dX7_bySplits_246 (by decide) ?_
                          refine lv_istore (lv' := [(13, .int (nI ((q_6 + q_38) + q_44))), (12, .int 1), (11, .int (nI (d0 - on - tw))), (0, .ref m0), (1, .int (nI j)), (2, .int (nI d0)), (3, .int (nI x1)), (4, .int (nI x2)), (5, .int (nI x3)), (6, .int (nI bg)), (7, .int (nI on)), (8, .int (nI q_6)), (9, .int (nI (d0 - on))), (10, .int (nI tw))]) hx hb dX7_bySplits_251 hl (by decide) rfl (fun ls hl => ?_)
                          refine lv_iload hx hb dX7_bySplits_253 (lv_at hl 0 rfl) ?_
                          refine lv_iload hx hb dX7_bySplits_255 (lv_at hl 9 rfl) ?_
                          refine lv_icmp_ge (tgt := 265) hx hb dX7_bySplits_257 (by decide) (fun c_47 => ?_) (fun c_47 => ?_)
                          · skip
                            refine lv_iload hx hb dX7_bySplits_265 (lv_at hl 9 rfl) ?_
                            refine lv_istore (lv' := [(6, .int (nI bg)), (13, .int (nI ((q_6 + q_38) + q_44))), (12, .int 1), (11, .int (nI (d0 - on - tw))), (0, .ref m0), (1, .int (nI j)), (2, .int (nI d0)), (3, .int (nI x1)), (4, .int (nI x2)), (5, .int (nI x3)), (7, .int (nI on)), (8, .int (nI q_6)), (9, .int (nI (d0 - on))), (10, .int (nI tw))]) hx hb dX7_bySplits_267 hl (by decide) rfl (fun ls hl => ?_)
                            obtain ⟨u2, hu2, hu2S, hu2k, eu2⟩ := dn_nx (S := d0 - on) (on := tw) (by omega) hSB2 (by omega) (by omega)
                            have hl : lv_has ls 14 [(6, .int (nI bg)), (13, .int (nI ((q_6 + q_38) + q_44))), (12, .int 1), (11, .int (nI (d0 - on - tw))), (0, .ref m0), (1, .int (nI j)), (2, .int (nI d0)), (3, .int (nI x1)), (4, .int (nI x2)), (5, .int (rg ((3 * j) + 2))), (7, .int (nI on)), (8, .int (nI q_6)), (9, .int (nI (d0 - on))), (10, .int (nI tw))] := by rw [ex3]; exact hl
                            refine lv_iload hx hb dX7_bySplits_269 (lv_at hl 13 rfl) ?_
                            refine lv_iconst (v := 1) hx hb dX7_bySplits_271 (by decide) ?_
                            refine lv_isub hx hb dX7_bySplits_272 ?_
                            refine lv_iload hx hb dX7_bySplits_273 (lv_at hl 12 rfl) ?_
                            refine lv_iand hx hb dX7_bySplits_275 ?_
                            refine lv_nmi (show _ = (nI u2 : Int32) from eu2) ?_
                            refine lv_istore (lv' := [(10, .int (nI u2)), (6, .int (nI bg)), (13, .int (nI ((q_6 + q_38) + q_44))), (12, .int 1), (11, .int (nI (d0 - on - tw))), (0, .ref m0), (1, .int (nI j)), (2, .int (nI d0)), (3, .int (nI x1)), (4, .int (nI x2)), (5, .int (rg ((3 * j) + 2))), (7, .int (nI on)), (8, .int (nI q_6)), (9, .int (nI (d0 - on)))]) hx hb dX7_bySplits_276 hl (by decide) rfl (fun ls hl => ?_)
                            refine lv_goto (tgt := 140) hx hb dX7_bySplits_278 (by decide) ?_
                            exact ih_140 u2 bg (by omega) (by omega) hu2S (by omega) (zRJ_3y (by omega) hu2k he9 hSB (by omega) hSB2 (by omega) hf0 hx0 hy0 (sp3_y (d := (fun k_9 => tn (na k_9))) (hY1.of c_17) (hY2.of c_24) (hY3.of c_31)) (Or.inr ⟨leN (a := bg) (b := ((q_6 + q_38) + q_44)) (by omega) (by omega) c_47, rfl⟩) hR2) _ _ _ (hP.sub [0, 1, 2, 3, 4, 5, 6] rfl) (hD.sub [0, 1, 2, 3, 4, 5, 6] rfl rfl) hS (lv_sub hl [5, 6, 7, 8, 9, 10, 1, 11, 12, 13, 0] rfl)
                          · skip
                            refine lv_iload hx hb dX7_bySplits_260 (lv_at hl 0 rfl) ?_
                            refine lv_goto (tgt := 267) hx hb dX7_bySplits_262 (by decide) ?_
                            refine lv_istore (lv' := [(6, .int (nI ((q_6 + q_38) + q_44))), (13, .int (nI ((q_6 + q_38) + q_44))), (12, .int 1), (11, .int (nI (d0 - on - tw))), (0, .ref m0), (1, .int (nI j)), (2, .int (nI d0)), (3, .int (nI x1)), (4, .int (nI x2)), (5, .int (nI x3)), (7, .int (nI on)), (8, .int (nI q_6)), (9, .int (nI (d0 - on))), (10, .int (nI tw))]) hx hb dX7_bySplits_267 hl (by decide) rfl (fun ls hl => ?_)
                            obtain ⟨u2, hu2, hu2S, hu2k, eu2⟩ := dn_nx (S := d0 - on) (on := tw) (by omega) hSB2 (by omega) (by omega)
                            have hl : lv_has ls 14 [(6, .int (nI ((q_6 + q_38) + q_44))), (13, .int (nI ((q_6 + q_38) + q_44))), (12, .int 1), (11, .int (nI (d0 - on - tw))), (0, .ref m0), (1, .int (nI j)), (2, .int (nI d0)), (3, .int (nI x1)), (4, .int (nI x2)), (5, .int (rg ((3 * j) + 2))), (7, .int (nI on)), (8, .int (nI q_6)), (9, .int (nI (d0 - on))), (10, .int (nI tw))] := by rw [ex3]; exact hl
                            refine lv_iload hx hb dX7_bySplits_269 (lv_at hl 13 rfl) ?_
                            refine lv_iconst (v := 1) hx hb dX7_bySplits_271 (by decide) ?_
                            refine lv_isub hx hb dX7_bySplits_272 ?_
                            refine lv_iload hx hb dX7_bySplits_273 (lv_at hl 12 rfl) ?_
                            refine lv_iand hx hb dX7_bySplits_275 ?_
                            refine lv_nmi (show _ = (nI u2 : Int32) from eu2) ?_
                            refine lv_istore (lv' := [(10, .int (nI u2)), (6, .int (nI ((q_6 + q_38) + q_44))), (13, .int (nI ((q_6 + q_38) + q_44))), (12, .int 1), (11, .int (nI (d0 - on - tw))), (0, .ref m0), (1, .int (nI j)), (2, .int (nI d0)), (3, .int (nI x1)), (4, .int (nI x2)), (5, .int (rg ((3 * j) + 2))), (7, .int (nI on)), (8, .int (nI q_6)), (9, .int (nI (d0 - on)))]) hx hb dX7_bySplits_276 hl (by decide) rfl (fun ls hl => ?_)
                            refine lv_goto (tgt := 140) hx hb dX7_bySplits_278 (by decide) ?_
                            exact ih_140 u2 ((q_6 + q_38) + q_44) (by omega) (by omega) hu2S (by omega) (zRJ_3y (by omega) hu2k he9 hSB (by omega) hSB2 (by omega) hf0 hx0 hy0 (sp3_y (d := (fun k_9 => tn (na k_9))) (hY1.of c_17) (hY2.of c_24) (hY3.of c_31)) (Or.inl ⟨nleN (a := bg) (b := ((q_6 + q_38) + q_44)) (by omega) (by omega) c_47, rfl⟩) hR2) _ _ _ (hP.sub [0, 1, 2, 3, 4, 5, 6] rfl) (hD.sub [0, 1, 2, 3, 4, 5, 6] rfl rfl) hS (lv_sub hl [5, 6, 7, 8, 9, 10, 1, 11, 12, 13, 0] rfl)
          exact LOOP_140 u1 u1 bf (by omega) hu1 hu1S (by omega) (zRJ_0 (by omega) hZ he23 hSB (by omega) hu1k hRJ) _ _ _ (hP.sub [0, 1, 2, 3, 4, 5, 6] rfl) (hD.sub [0, 1, 2, 3, 4, 5, 6] rfl rfl) hS (lv_sub hl [1, 2, 3, 4, 5, 6, 7, 8, 9, 10, 0] rfl)
        refine lv_iload hx hb dX7_bySplits_66 (lv_at hl 1 rfl) ?_
        refine lv_ldc hx hb hown (hts _ t_781) dX7_bySplits_68 ?_
        refine lv_icmp_ge (tgt := 131) hx hb dX7_bySplits_70 (by decide) (fun c_48 => ?_) (fun c_48 => ?_)
        · skip
          exact CUT_131 be (zRJ_f hf0 (leN (a := 1000000) (by omega) (by decide) c_48) hI) _ _ _ (hP.sub [0, 1, 2, 3, 4, 5, 6] rfl) (hD.sub [0, 1, 2, 3, 4, 5, 6] rfl rfl) hS (lv_sub hl [2, 3, 4, 5, 6, 7, 8, 9, 1, 0] rfl)
        · skip
          refine lv_aload_n hx hb dX7_bySplits_73 rfl (lv_at hl 2 rfl) ?_
          refine va_get (D := D) (ci := 7) (v := .ref m3) (C := RX7) (T := TX7) (N := 27) hx hb hts iT_X7 hown hK1 hP 3 rfl rfl 4 (by decide) (hts _ t_555) (fun _ h9 => h9) rfl dX7_bySplits_74 ?_
          refine lv_iload_n hx hb dX7_bySplits_77 rfl (lv_at hl 3 rfl) ?_
          refine va_iald hx hb hK1 hP 0 0 rfl rfl (vp_in_nI (by omega) (by omega)) dX7_bySplits_78 ?_
          refine lv_nmi (show _ = re j from by rw [nI_clamp (n := j) (by omega)]) ?_
          refine lv_nmi (show _ = (nI (yS gr j) : Int32) from hMJ.1) ?_
          refine lv_iconst (v := 2) hx hb dX7_bySplits_79 (by decide) ?_
          refine lv_icmp_ne (tgt := 131) hx hb dX7_bySplits_80 (by decide) (fun c_49 => ?_) (fun c_49 => ?_)
          · skip
            exact CUT_131 be (zRJ_n (by omega) (fun q => c_49 (by rw [q]; rfl)) hI) _ _ _ (hP.sub [0, 1, 2, 3, 4, 5, 6] rfl) (hD.sub [0, 1, 2, 3, 4, 5, 6] rfl rfl) hS (lv_sub hl [2, 3, 4, 5, 6, 7, 8, 9, 1, 0] rfl)
          · skip
            refine lv_aload_n hx hb dX7_bySplits_83 rfl (lv_at hl 2 rfl) ?_
            refine lv_iload_n hx hb dX7_bySplits_84 rfl (lv_at hl 5 rfl) ?_
            refine lv_iload hx hb dX7_bySplits_85 (lv_at hl 9 rfl) ?_
            refine lv_iload hx hb dX7_bySplits_87 (lv_at hl 6 rfl) ?_
            refine lv_iload hx hb dX7_bySplits_89 (lv_at hl 0 rfl) ?_
            refine xc_i (wc := [kX7 m0 (nI z) m1 (nI r9) m2 m3 m4 m5 (nI n9) (nI v) m6 k1 k2 k3 k4 m7 k5 k6 k7 k8 m8 m9 m10 k9 m11 m12 m13 hv, kI cI m9 32 nf, kI cI m10 4 na]) (wr := [kI cI m3 9 re, kI cI m5 27 rg, kI cI m6 12 ea, kI cI m8 2400 fw]) (xrV (n := 4) (As := [.int (nI x1), .int (nI on), .int (nI x2), .int (nI (d0 - on))]) (rest := []) (ci := 7) (q0 := 3) hd hK hP hD (c_X7_areApart l D cI cJ cZ cR _ m0 m1 m2 m3 m4 m5 m6 m7 m8 m9 m10 m11 m12 m13 z r9 n9 v k1 k2 k3 k4 k5 k6 k7 k8 k9 hv ea nf na x1 on x2 (d0 - on) hn5 hv5 hEA hNF hsd h1a h1b h1c h2a h2b h2c (by omega) (by omega)) (gV t_802 mV_X7_areApart) hV_X7_areApart ⟨(Nat.le_of_ble_eq_true rfl), (Nat.le_of_ble_eq_true rfl)⟩ rfl rfl [3, 2, 6] rfl rfl rfl hl.1 rfl (Nat.le_of_ble_eq_true rfl) dX7_bySplits_91 ⟨(Nat.le_of_ble_eq_true rfl), (Nat.le_of_ble_eq_true rfl)⟩) hP hD hS hA [3, 2, 6] [0, 1, 4, 5] rfl rfl rfl (by decide) (fun r_50 u_51 H locs hw_52 hP hD hS => ?_)
            have hw_53 : YN r_50 (zAq (gM n9 v ea) on (d0 - on) (tn (na (x1 / 10 % 10))) (tn (na (x1 % 10))) (tn (na (x2 / 10 % 10))) (tn (na (x2 % 10)))) := hw_52
            have hYA := hw_53
            rw [← xf1, ← xt1, ← xf2, ← xt2] at hYA
            have hP : va_P D vwCl [kI cI m3 9 re, kI cI m5 27 rg, kI cI m6 12 ea, kI cI m8 2400 fw, kX7 m0 (nI z) m1 (nI r9) m2 m3 m4 m5 (nI n9) (nI v) m6 k1 k2 k3 k4 m7 k5 k6 k7 k8 m8 m9 m10 k9 m11 m12 m13 hv, kI cI m9 32 nf, kI cI m10 4 na] H := hP
            have hD : va_D A [kI cI m3 9 re, kI cI m5 27 rg, kI cI m6 12 ea, kI cI m8 2400 fw, kX7 m0 (nI z) m1 (nI r9) m2 m3 m4 m5 (nI n9) (nI v) m6 k1 k2 k3 k4 m7 k5 k6 k7 k8 m8 m9 m10 k9 m11 m12 m13 hv, kI cI m9 32 nf, kI cI m10 4 na] := hD
            refine lv_if_eq (tgt := 111) hx hb dX7_bySplits_94 (by decide) (fun c_54 => ?_) (fun c_54 => ?_)
            · skip
              refine lv_ldc hx hb hown (hts _ t_781) dX7_bySplits_111 ?_
              refine lv_istore (lv' := [(10, .int 1000000), (9, .int (nI (d0 - on))), (8, .int (nI q_6)), (0, .ref m0), (1, .int (nI j)), (2, .int (nI d0)), (3, .int (nI x1)), (4, .int (nI x2)), (5, .int (rg ((3 * j) + 2))), (6, .int (nI be)), (7, .int (nI on))]) hx hb dX7_bySplits_113 hl (by decide) rfl (fun ls hl => ?_)
              refine lv_iload hx hb dX7_bySplits_115 (lv_at hl 0 rfl) ?_
              refine lv_iload hx hb dX7_bySplits_117 (lv_at hl 9 rfl) ?_
              refine lv_icmp_ge (tgt := 127) hx hb dX7_bySplits_119 (by decide) (fun c_55 => ?_) (fun c_55 => ?_)
              rotate_left
              · exact absurd (nI_le (a := be) (b := 1000000) (by omega) (by omega)) c_55
              refine lv_iload hx hb dX7_bySplits_127 (lv_at hl 9 rfl) ?_
              refine lv_istore (lv' := [(6, .int (nI be)), (10, .int 1000000), (9, .int (nI (d0 - on))), (8, .int (nI q_6)), (0, .ref m0), (1, .int (nI j)), (2, .int (nI d0)), (3, .int (nI x1)), (4, .int (nI x2)), (5, .int (rg ((3 * j) + 2))), (7, .int (nI on))]) hx hb dX7_bySplits_129 hl (by decide) rfl (fun ls hl => ?_)
              exact CUT_131 be (zRJ_2N ((nI_eq (a := yS gr j) (b := 2) (by omega) (by decide)).mp c_49) (by omega) hZ (sp2_n (d := (fun k_9 => tn (na k_9))) ((nI_eq (a := yS gr j) (b := 2) (by omega) (by decide)).mp c_49) (hYA.no c_54)) hI) _ _ _ (hP.sub [0, 1, 5, 4, 2, 3, 6] rfl) (hD.sub [0, 1, 5, 4, 2, 3, 6] rfl rfl) hS (lv_sub hl [4, 5, 6, 7, 8, 9, 0, 10, 3, 2] rfl)
            · skip
              refine lv_iload hx hb dX7_bySplits_97 (lv_at hl 1 rfl) ?_
              refine lv_aload_n hx hb dX7_bySplits_99 rfl (lv_at hl 2 rfl) ?_
              refine lv_iload hx hb dX7_bySplits_100 (lv_at hl 6 rfl) ?_
              refine lv_iload hx hb dX7_bySplits_102 (lv_at hl 0 rfl) ?_
              refine xc_i (wc := [kX7 m0 (nI z) m1 (nI r9) m2 m3 m4 m5 (nI n9) (nI v) m6 k1 k2 k3 k4 m7 k5 k6 k7 k8 m8 m9 m10 k9 m11 m12 m13 hv, kI cI m6 12 ea, kI cI m8 2400 fw, kI cI m10 4 na]) (wr := [kI cI m3 9 re, kI cI m5 27 rg, kI cI m9 32 nf]) (xrV (n := 2) (As := [.int (nI x2), .int (nI (d0 - on))]) (rest := [.int (nI q_6)]) (ci := 7) (q0 := 4) hd hK hP hD (c_X7_stepsFor l D cI cJ cZ cR _ m0 m1 m2 m3 m4 m5 m6 m7 m8 m9 m10 m11 m12 m13 z r9 n9 v k1 k2 k3 k4 k5 k6 k7 k8 k9 hv ea fw na x2 (d0 - on) hFW hn5 hv5 hEA hsd h2a h2b h2c (by omega)) (gV t_794 mV_X7_stepsFor) hV_X7_stepsFor ⟨(Nat.le_of_ble_eq_true rfl), (Nat.le_of_ble_eq_true rfl)⟩ rfl rfl [4, 2, 3, 6] rfl rfl rfl hl.1 rfl (Nat.le_of_ble_eq_true rfl) dX7_bySplits_104 ⟨(Nat.le_of_ble_eq_true rfl), (Nat.le_of_ble_eq_true rfl)⟩) hP hD hS hA [4, 2, 3, 6] [0, 1, 5] rfl rfl rfl (by decide) (fun r_56 u_57 H locs hw_58 hP hD hS => ?_)
              obtain ⟨q_59, rfl⟩ : ∃ z9, z9 = u_57 := ⟨_, rfl⟩
              obtain ⟨hw_60, hw_61⟩ : (r_56 = (nI q_59)) ∧ (zLs zM9 (zSv (gM n9 v ea) (TD zM9 (trb fw)) (x2 / 100) (d0 - on) (tn (na (x2 / 10 % 10))) (tn (na (x2 % 10)))) q_59) := hw_58
              subst hw_60
              have hx0 := sf_Z (d := (fun k_9 => tn (na k_9))) (show 1 < yS gr j by omega) xl2 xf2 xt2 (show ¬ d0 - on = 0 by omega) hw_61
              have hx9 := hx0.1
              have hP : va_P D vwCl [kI cI m3 9 re, kI cI m5 27 rg, kI cI m9 32 nf, kX7 m0 (nI z) m1 (nI r9) m2 m3 m4 m5 (nI n9) (nI v) m6 k1 k2 k3 k4 m7 k5 k6 k7 k8 m8 m9 m10 k9 m11 m12 m13 hv, kI cI m6 12 ea, kI cI m8 2400 fw, kI cI m10 4 na] H := hP
              have hD : va_D A [kI cI m3 9 re, kI cI m5 27 rg, kI cI m9 32 nf, kX7 m0 (nI z) m1 (nI r9) m2 m3 m4 m5 (nI n9) (nI v) m6 k1 k2 k3 k4 m7 k5 k6 k7 k8 m8 m9 m10 k9 m11 m12 m13 hv, kI cI m6 12 ea, kI cI m8 2400 fw, kI cI m10 4 na] := hD
              refine lv_iadd hx hb dX7_bySplits_107 ?_
              refine lv_nmi (show _ = (nI (q_6 + q_59)) from nI_add (q_6) (q_59)) ?_
              refine lv_goto (tgt := 113) hx hb dX7_bySplits_108 (by decide) ?_
              refine lv_istore (lv' := [(10, .int (nI (q_6 + q_59))), (9, .int (nI (d0 - on))), (8, .int (nI q_6)), (0, .ref m0), (1, .int (nI j)), (2, .int (nI d0)), (3, .int (nI x1)), (4, .int (nI x2)), (5, .int (rg ((3 * j) + 2))), (6, .int (nI be)), (7, .int (nI on))]) hx hb dX7_bySplits_113 hl (by decide) rfl (fun ls hl => ?_)
              refine lv_iload hx hb dX7_bySplits_115 (lv_at hl 0 rfl) ?_
              refine lv_iload hx hb dX7_bySplits_117 (lv_at hl 9 rfl) ?_
              refine lv_icmp_ge (tgt := 127) hx hb dX7_bySplits_119 (by decide) (fun c_62 => ?_) (fun c_62 => ?_)
              · skip
                refine lv_iload hx hb dX7_bySplits_127 (lv_at hl 9 rfl) ?_
                refine lv_istore (lv' := [(6, .int (nI be)), (10, .int (nI (q_6 + q_59))), (9, .int (nI (d0 - on))), (8, .int (nI q_6)), (0, .ref m0), (1, .int (nI j)), (2, .int (nI d0)), (3, .int (nI x1)), (4, .int (nI x2)), (5, .int (rg ((3 * j) + 2))), (7, .int (nI on))]) hx hb dX7_bySplits_129 hl (by decide) rfl (fun ls hl => ?_)
                exact CUT_131 be (zRJ_2Y ((nI_eq (a := yS gr j) (b := 2) (by omega) (by decide)).mp c_49) (by omega) hZ hSB (by omega) hf0 hx0 ((zSl_no (show ¬ 2 < yS gr j by have e8 := ((nI_eq (a := yS gr j) (b := 2) (by omega) (by decide)).mp c_49); omega)).mpr ⟨rfl, rfl⟩) (sp2_y (d := (fun k_9 => tn (na k_9))) ((nI_eq (a := yS gr j) (b := 2) (by omega) (by decide)).mp c_49) (hYA.of c_54)) (Or.inr ⟨leN (a := be) (b := (q_6 + q_59)) (by omega) (by omega) c_62, rfl⟩) hI) _ _ _ (hP.sub [0, 1, 2, 3, 4, 5, 6] rfl) (hD.sub [0, 1, 2, 3, 4, 5, 6] rfl rfl) hS (lv_sub hl [4, 5, 6, 7, 8, 9, 0, 10, 3, 2] rfl)
              · skip
                refine lv_iload hx hb dX7_bySplits_122 (lv_at hl 0 rfl) ?_
                refine lv_goto (tgt := 129) hx hb dX7_bySplits_124 (by decide) ?_
                refine lv_istore (lv' := [(6, .int (nI (q_6 + q_59))), (10, .int (nI (q_6 + q_59))), (9, .int (nI (d0 - on))), (8, .int (nI q_6)), (0, .ref m0), (1, .int (nI j)), (2, .int (nI d0)), (3, .int (nI x1)), (4, .int (nI x2)), (5, .int (rg ((3 * j) + 2))), (7, .int (nI on))]) hx hb dX7_bySplits_129 hl (by decide) rfl (fun ls hl => ?_)
                exact CUT_131 (q_6 + q_59) (zRJ_2Y ((nI_eq (a := yS gr j) (b := 2) (by omega) (by decide)).mp c_49) (by omega) hZ hSB (by omega) hf0 hx0 ((zSl_no (show ¬ 2 < yS gr j by have e8 := ((nI_eq (a := yS gr j) (b := 2) (by omega) (by decide)).mp c_49); omega)).mpr ⟨rfl, rfl⟩) (sp2_y (d := (fun k_9 => tn (na k_9))) ((nI_eq (a := yS gr j) (b := 2) (by omega) (by decide)).mp c_49) (hYA.of c_54)) (Or.inl ⟨nleN (a := be) (b := (q_6 + q_59)) (by omega) (by omega) c_62, rfl⟩) hI) _ _ _ (hP.sub [0, 1, 2, 3, 4, 5, 6] rfl) (hD.sub [0, 1, 2, 3, 4, 5, 6] rfl rfl) hS (lv_sub hl [4, 5, 6, 7, 8, 9, 0, 10, 3, 2] rfl)
  exact LOOP_44 o1 o1 1000000 (by omega) ho1 ho1S (zRI_0 (by omega) hZ he2 ho1k) _ _ _ (hP.sub [0, 1, 2, 3, 4, 5, 6] rfl) (hD.sub [0, 1, 2, 3, 4, 5, 6] rfl rfl) hS (lv_sub hl [5, 6, 7, 4, 3, 2, 1, 0] rfl)
set_option maxHeartbeats 4000000 in
set_option maxRecDepth 100000 in
theorem c_X7_byInner (sz : Nat) (m0 : Nat) (m1 : Nat) (m2 : Nat) (m3 : Nat) (m4 : Nat) (m5 : Nat) (m6 : Nat) (m7 : Nat) (m8 : Nat) (m9 : Nat) (m10 : Nat) (m11 : Nat) (m12 : Nat) (m13 : Nat) (z : Nat) (r9 : Nat) (n9 : Nat) (v : Nat) (k1 : Int32) (k2 : Int32) (k3 : Int32) (k4 : Int32) (k5 : Int32) (k6 : Int32) (k7 : Int32) (k8 : Int32) (k9 : Int32) (hv : Int64) (re : Nat → Int32) (rg : Nat → Int32) (rn : Nat → Int32) (ea : Nat → Int32) (fw : Nat → Int32) (nf : Nat → Int32) (na : Nat → Int32) (j : Nat) (d0 : Nat) (gr : GR) (hFW : FWI fw) (hn5 : n9 ≤ 5) (hv5 : v ≤ 5) (hEA : EAI n9 v ea) (hsd : SDn 4 na) (hNF : NFI n9 ea nf (2 ^ n9)) (hj : j < 9) (hMJ : MJE gr j re rg) (he2 : 2 ≤ yS gr j) (hd1 : 1 ≤ d0) (hd9 : d0 < 2 ^ n9) (hv1 : 1 ≤ v) (hwj : rn j = nI (yW gr j)) (hw2 : 2 ≤ yW gr j) (hw4 : yW gr j ≤ 4) : CTi l D cI cJ cZ cR yX7_byInner cX7_byInner 8 (some .int) 4 105 0 0 sz [.ref m0, .int (nI j), .int (nI d0)] [kX7 m0 (nI z) m1 (nI r9) m2 m3 m4 m5 (nI n9) (nI v) m6 k1 k2 k3 k4 m7 k5 k6 k7 k8 m8 m9 m10 k9 m11 m12 m13 hv, kI cI m3 9 re, kI cI m5 27 rg, kI cI m4 9 rn, kI cI m6 12 ea, kI cI m8 2400 fw, kI cI m9 32 nf, kI cI m10 4 na] (fun (r : Int32) (u : Nat × (Nat → Int32)) => (r = (nI u.1)) ∧ (zLs zM9 (zByA (gM n9 v ea) gr (TD zM9 (trb fw)) j (tn (na 0)) (tn (na 1)) d0) u.1) ∧ (SDn 4 u.2) ∧ (u.2 0 = na 0) ∧ (u.2 1 = na 1)) (fun (u : Nat × (Nat → Int32)) => [kX7 m0 (nI z) m1 (nI r9) m2 m3 m4 m5 (nI n9) (nI v) m6 k1 k2 k3 k4 m7 k5 k6 k7 k8 m8 m9 m10 k9 m11 m12 m13 hv, kI cI m3 9 re, kI cI m5 27 rg, kI cI m4 9 rn, kI cI m6 12 ea, kI cI m8 2400 fw, kI cI m9 32 nf, kI cI m10 4 u.2]) := by
  refine CTi.of (ty := .int) (by decide) (Nat.le_of_ble_eq_true rfl) rfl ?_
  intro p e s m below meth c A Q ls hd hin hK hsz hP hD hA hS hl hret
  obtain ⟨hx, hb, hml, hown, hts⟩ := id hd
  have hK1 := hK.1
  have hown : s.vm.findClass RX7 = some m.cls := hown
  have hl : lv_has ls 8 [(0, .ref m0), (1, .int (nI j)), (2, .int (nI d0))] := hl
  have hvv := sq_25 hv5
  have hM9 : zM9 = 1000000 := rfl
  refine lv_ldc hx hb hown (hts _ t_781) dX7_byInner_0 ?_
  refine lv_istore_n (lv' := [(3, .int 1000000), (0, .ref m0), (1, .int (nI j)), (2, .int (nI d0))]) hx hb dX7_byInner_2 rfl hl (by decide) rfl (fun ls hl => ?_)
  refine lv_aload_n hx hb dX7_byInner_3 rfl (lv_at hl 1 rfl) ?_
  refine va_get (D := D) (ci := 7) (v := .ref m4) (C := RX7) (T := TX7) (N := 27) hx hb hts iT_X7 hown hK1 hP 0 rfl rfl 5 (by decide) (hts _ t_556) (fun _ h9 => h9) rfl dX7_byInner_4 ?_
  refine lv_iload_n hx hb dX7_byInner_7 rfl (lv_at hl 2 rfl) ?_
  refine va_iald hx hb hK1 hP 3 0 rfl rfl (vp_in_nI (by omega) (by omega)) dX7_byInner_8 ?_
  refine lv_nmi (show _ = rn j from by rw [nI_clamp (n := j) (by omega)]) ?_
  refine lv_nmi (show _ = (nI (yW gr j) : Int32) from hwj) ?_
  refine lv_istore (lv' := [(4, .int (nI (yW gr j))), (3, .int 1000000), (0, .ref m0), (1, .int (nI j)), (2, .int (nI d0))]) hx hb dX7_byInner_9 hl (by decide) rfl (fun ls hl => ?_)
  have CUT_45 : ∀ (tr : Nat), (tMx (yW gr j) v tr) → ∀ (H : Heap) (locs : List Loc) (ls : Array Slot), va_P D vwCl [kX7 m0 (nI z) m1 (nI r9) m2 m3 m4 m5 (nI n9) (nI v) m6 k1 k2 k3 k4 m7 k5 k6 k7 k8 m8 m9 m10 k9 m11 m12 m13 hv, kI cI m3 9 re, kI cI m5 27 rg, kI cI m4 9 rn, kI cI m6 12 ea, kI cI m8 2400 fw, kI cI m9 32 nf, kI cI m10 4 na] H → va_D A [kX7 m0 (nI z) m1 (nI r9) m2 m3 m4 m5 (nI n9) (nI v) m6 k1 k2 k3 k4 m7 k5 k6 k7 k8 m8 m9 m10 k9 m11 m12 m13 hv, kI cI m3 9 re, kI cI m5 27 rg, kI cI m4 9 rn, kI cI m6 12 ea, kI cI m8 2400 fw, kI cI m9 32 nf, kI cI m10 4 na] → va_S A s.heap H locs → lv_has ls 8 [(0, .ref m0), (1, .int (nI j)), (2, .int (nI d0)), (3, .int 1000000), (4, .int (nI (yW gr j))), (5, .int (nI tr))] → W p l e (rM 4 0 0 105) s m ([.ref m0, .int (nI j), .int (nI d0)] : List Value).toArray below meth c H locs 0 0 Q (F0 m 45 ls []) := by
    intro tr htr H locs ls hP hD hS hl
    have htv := tMx_le htr hv1
    refine lv_iconst (v := 0) hx hb dX7_byInner_45 (by decide) ?_
    refine lv_istore (lv' := [(6, .int 0), (0, .ref m0), (1, .int (nI j)), (2, .int (nI d0)), (3, .int 1000000), (4, .int (nI (yW gr j))), (5, .int (nI tr))]) hx hb dX7_byInner_46 hl (by decide) rfl (fun ls hl => ?_)
    have LOOP_48 : ∀ (n : Nat) (t : Nat) (be : Nat) (nb : Nat → Int32), (t + n = tr) → (zBK (gM n9 v ea) gr (TD zM9 (trb fw)) j (tn (na 0)) (tn (na 1)) d0 t be) → (SDn 4 nb) → (nb 0 = na 0 ∧ nb 1 = na 1) → ∀ (H : Heap) (locs : List Loc) (ls : Array Slot), va_P D vwCl [kX7 m0 (nI z) m1 (nI r9) m2 m3 m4 m5 (nI n9) (nI v) m6 k1 k2 k3 k4 m7 k5 k6 k7 k8 m8 m9 m10 k9 m11 m12 m13 hv, kI cI m3 9 re, kI cI m5 27 rg, kI cI m4 9 rn, kI cI m6 12 ea, kI cI m8 2400 fw, kI cI m9 32 nf, kI cI m10 4 nb] H → va_D A [kX7 m0 (nI z) m1 (nI r9) m2 m3 m4 m5 (nI n9) (nI v) m6 k1 k2 k3 k4 m7 k5 k6 k7 k8 m8 m9 m10 k9 m11 m12 m13 hv, kI cI m3 9 re, kI cI m5 27 rg, kI cI m4 9 rn, kI cI m6 12 ea, kI cI m8 2400 fw, kI cI m9 32 nf, kI cI m10 4 nb] → va_S A s.heap H locs → lv_has ls 8 [(0, .ref m0), (1, .int (nI j)), (2, .int (nI d0)), (3, .int (nI be)), (4, .int (nI (yW gr j))), (5, .int (nI tr)), (6, .int (nI t))] → W p l e (rM 4 0 0 105) s m ([.ref m0, .int (nI j), .int (nI d0)] : List Value).toArray below meth c H locs 0 0 Q (F0 m 48 ls []) := by
      intro n
      induction n with
      | zero =>
        intro t be nb ht hBK hnb hn0 H locs ls hP hD hS hl
        refine lv_iload hx hb dX7_byInner_48 (lv_at hl 6 rfl) ?_
        refine lv_iload hx hb dX7_byInner_50 (lv_at hl 5 rfl) ?_
        refine lv_icmp_ge (tgt := 117) hx hb dX7_byInner_52 (by decide) (fun c_1 => ?_) (fun c_1 => ?_)
        rotate_left
        · exact absurd (nI_le (a := tr) (b := t) (by omega) (by omega)) c_1
        refine lv_iload_n hx hb dX7_byInner_117 rfl (lv_at hl 3 rfl) ?_
        exact hret _ _ _ _ _ _ (nI be) (be, nb) dX7_byInner_118 rfl hS (Nat.le_of_ble_eq_true rfl) (Nat.le_of_ble_eq_true rfl) ⟨rfl, zBK_e hv5 hv1 (by rw [show t = tr by omega]; exact htr) hBK, hnb, hn0.1, hn0.2⟩ (hP.sub [0, 1, 2, 3, 4, 5, 6, 7] rfl) (hD.sub [0, 1, 2, 3, 4, 5, 6, 7] rfl rfl)
      | succ n ih_48 =>
        intro t be nb ht hBK hnb hn0 H locs ls hP hD hS hl
        refine lv_iload hx hb dX7_byInner_48 (lv_at hl 6 rfl) ?_
        refine lv_iload hx hb dX7_byInner_50 (lv_at hl 5 rfl) ?_
        refine lv_icmp_ge (tgt := 117) hx hb dX7_byInner_52 (by decide) (fun c_2 => ?_) (fun c_2 => ?_)
        · exact absurd c_2 (nI_ge (a := t) (b := tr) (by omega) (by omega))
        refine lv_aload_n hx hb dX7_byInner_55 rfl (lv_at hl 0 rfl) ?_
        refine va_get (D := D) (ci := 7) (v := .ref m10) (C := RX7) (T := TX7) (N := 27) hx hb hts iT_X7 hown hK1 hP 0 rfl rfl 21 (by decide) (hts _ t_572) (fun _ h9 => h9) rfl dX7_byInner_56 ?_
        refine lv_iconst (v := 2) hx hb dX7_byInner_59 (by decide) ?_
        refine lv_iload hx hb dX7_byInner_60 (lv_at hl 6 rfl) ?_
        refine lv_aload_n hx hb dX7_byInner_62 rfl (lv_at hl 0 rfl) ?_
        refine va_get (D := D) (ci := 7) (v := .int (nI v)) (C := RX7) (T := TX7) (N := 27) hx hb hts iT_X7 hown hK1 hP 0 rfl rfl 8 (by decide) (hts _ t_559) (fun _ h9 => h9) rfl dX7_byInner_63 ?_
        refine lv_irem hx hb dX7_byInner_66 (nI_n0 hv1 hv5) ?_
        refine lv_nmi (show _ = (nI (t % v) : Int32) from pk_rem (d := v) (by omega) (by omega) (by omega)) ?_
        refine va_iast hx hb hK1 hP hD hS 7 0 rfl rfl (vin (by decide)) dX7_byInner_67 (fun H locs hP hD hS => ?_)
        have hP : va_P D vwCl [kX7 m0 (nI z) m1 (nI r9) m2 m3 m4 m5 (nI n9) (nI v) m6 k1 k2 k3 k4 m7 k5 k6 k7 k8 m8 m9 m10 k9 m11 m12 m13 hv, kI cI m3 9 re, kI cI m5 27 rg, kI cI m4 9 rn, kI cI m6 12 ea, kI cI m8 2400 fw, kI cI m9 32 nf, kI cI m10 4 (upd nb 2 (nI (t % v)))] H := hP
        have hD : va_D A [kX7 m0 (nI z) m1 (nI r9) m2 m3 m4 m5 (nI n9) (nI v) m6 k1 k2 k3 k4 m7 k5 k6 k7 k8 m8 m9 m10 k9 m11 m12 m13 hv, kI cI m3 9 re, kI cI m5 27 rg, kI cI m4 9 rn, kI cI m6 12 ea, kI cI m8 2400 fw, kI cI m9 32 nf, kI cI m10 4 (upd nb 2 (nI (t % v)))] := hD
        refine lv_aload_n hx hb dX7_byInner_68 rfl (lv_at hl 0 rfl) ?_
        refine va_get (D := D) (ci := 7) (v := .ref m10) (C := RX7) (T := TX7) (N := 27) hx hb hts iT_X7 hown hK1 hP 0 rfl rfl 21 (by decide) (hts _ t_572) (fun _ h9 => h9) rfl dX7_byInner_69 ?_
        refine lv_iconst (v := 3) hx hb dX7_byInner_72 (by decide) ?_
        refine lv_iload hx hb dX7_byInner_73 (lv_at hl 6 rfl) ?_
        refine lv_aload_n hx hb dX7_byInner_75 rfl (lv_at hl 0 rfl) ?_
        refine va_get (D := D) (ci := 7) (v := .int (nI v)) (C := RX7) (T := TX7) (N := 27) hx hb hts iT_X7 hown hK1 hP 0 rfl rfl 8 (by decide) (hts _ t_559) (fun _ h9 => h9) rfl dX7_byInner_76 ?_
        refine lv_idiv hx hb dX7_byInner_79 (nI_n0 hv1 hv5) ?_
        refine lv_nmi (show _ = (nI (t / v) : Int32) from pk_div (d := v) (by omega) (by omega) (by omega)) ?_
        refine va_iast hx hb hK1 hP hD hS 7 0 rfl rfl (vin (by decide)) dX7_byInner_80 (fun H locs hP hD hS => ?_)
        have hP : va_P D vwCl [kX7 m0 (nI z) m1 (nI r9) m2 m3 m4 m5 (nI n9) (nI v) m6 k1 k2 k3 k4 m7 k5 k6 k7 k8 m8 m9 m10 k9 m11 m12 m13 hv, kI cI m3 9 re, kI cI m5 27 rg, kI cI m4 9 rn, kI cI m6 12 ea, kI cI m8 2400 fw, kI cI m9 32 nf, kI cI m10 4 (upd (upd nb 2 (nI (t % v))) 3 (nI (t / v)))] H := hP
        have hD : va_D A [kX7 m0 (nI z) m1 (nI r9) m2 m3 m4 m5 (nI n9) (nI v) m6 k1 k2 k3 k4 m7 k5 k6 k7 k8 m8 m9 m10 k9 m11 m12 m13 hv, kI cI m3 9 re, kI cI m5 27 rg, kI cI m4 9 rn, kI cI m6 12 ea, kI cI m8 2400 fw, kI cI m9 32 nf, kI cI m10 4 (upd (upd nb 2 (nI (t % v))) 3 (nI (t / v)))] := hD
        have hm5 : t % v < 5 := sq_mod hv1 hv5
        have hd5 : t / v < 5 := sq_div (by omega) hv5
        have hs4 : SDn 4 (upd (upd nb 2 (nI (t % v))) 3 (nI (t / v))) := SDn_u (SDn_u hnb hm5) hd5
        obtain ⟨b0, b1, b2, b3⟩ := nb4 (na := na) (nb := nb) hn0 hm5 hd5
        have hUd := nbU hn0 hsd hw4 hv1 hv5 htr (show t < tr by omega) hm5 hd5
        have hbe9 := hBK.1
        refine lv_aload_n hx hb dX7_byInner_81 rfl (lv_at hl 0 rfl) ?_
        refine lv_iload hx hb dX7_byInner_82 (lv_at hl 4 rfl) ?_
        refine xc_i (wc := [kX7 m0 (nI z) m1 (nI r9) m2 m3 m4 m5 (nI n9) (nI v) m6 k1 k2 k3 k4 m7 k5 k6 k7 k8 m8 m9 m10 k9 m11 m12 m13 hv, kI cI m10 4 (upd (upd nb 2 (nI (t % v))) 3 (nI (t / v)))]) (wr := [kI cI m3 9 re, kI cI m5 27 rg, kI cI m4 9 rn, kI cI m6 12 ea, kI cI m8 2400 fw, kI cI m9 32 nf]) (xrV (n := 1) (As := [.int (nI (yW gr j))]) (rest := []) (ci := 7) (q0 := 0) hd hK hP hD (c_X7_areUnlike l D cI cJ cZ cR _ m0 m1 m2 m3 m4 m5 m6 m7 m8 m9 m10 m11 m12 m13 z r9 n9 v k1 k2 k3 k4 k5 k6 k7 k8 k9 hv (upd (upd nb 2 (nI (t % v))) 3 (nI (t / v))) (yW gr j) hw4 hw2) (gV t_786 mV_X7_areUnlike) hV_X7_areUnlike ⟨(Nat.le_of_ble_eq_true rfl), (Nat.le_of_ble_eq_true rfl)⟩ rfl rfl [0, 7] rfl rfl rfl hl.1 rfl (Nat.le_of_ble_eq_true rfl) dX7_byInner_84 ⟨(Nat.le_of_ble_eq_true rfl), (Nat.le_of_ble_eq_true rfl)⟩) hP hD hS hA [0, 7] [1, 2, 3, 4, 5, 6] rfl rfl rfl (by decide) (fun r_3 u_4 H locs hw_5 hP hD hS => ?_)
        have hw_6 : YN r_3 (uLk (yW gr j) (upd (upd nb 2 (nI (t % v))) 3 (nI (t / v)))) := hw_5
        have hYU := hw_6
        have hP : va_P D vwCl [kI cI m3 9 re, kI cI m5 27 rg, kI cI m4 9 rn, kI cI m6 12 ea, kI cI m8 2400 fw, kI cI m9 32 nf, kX7 m0 (nI z) m1 (nI r9) m2 m3 m4 m5 (nI n9) (nI v) m6 k1 k2 k3 k4 m7 k5 k6 k7 k8 m8 m9 m10 k9 m11 m12 m13 hv, kI cI m10 4 (upd (upd nb 2 (nI (t % v))) 3 (nI (t / v)))] H := hP
        have hD : va_D A [kI cI m3 9 re, kI cI m5 27 rg, kI cI m4 9 rn, kI cI m6 12 ea, kI cI m8 2400 fw, kI cI m9 32 nf, kX7 m0 (nI z) m1 (nI r9) m2 m3 m4 m5 (nI n9) (nI v) m6 k1 k2 k3 k4 m7 k5 k6 k7 k8 m8 m9 m10 k9 m11 m12 m13 hv, kI cI m10 4 (upd (upd nb 2 (nI (t % v))) 3 (nI (t / v)))] := hD
        refine lv_if_eq (tgt := 111) hx hb dX7_byInner_87 (by decide) (fun c_7 => ?_) (fun c_7 => ?_)
        · skip
          refine lv_iinc (v := nI (t + 1)) (lv' := [(6, .int (nI (t + 1))), (0, .ref m0), (1, .int (nI j)), (2, .int (nI d0)), (3, .int (nI be)), (4, .int (nI (yW gr j))), (5, .int (nI tr))]) hx hb dX7_byInner_111 hl (k := 6) rfl (nI_1 t) (by decide) rfl (fun ls hl => ?_)
          refine lv_goto (tgt := 48) hx hb dX7_byInner_114 (by decide) ?_
          exact ih_48 (t + 1) be (upd (upd nb 2 (nI (t % v))) 3 (nI (t / v))) (by omega) (zBK_n (na := (upd (upd nb 2 (nI (t % v))) 3 (nI (t / v)))) hv5 hv1 hw4 htr b0 b1 b2 b3 (fun q => hYU.no c_7 (hUd.mpr q)) hBK) hs4 ⟨(pk_un (by decide)).trans ((pk_un (by decide)).trans hn0.1), (pk_un (by decide)).trans ((pk_un (by decide)).trans hn0.2)⟩ _ _ _ (hP.sub [6, 0, 1, 2, 3, 4, 5, 7] rfl) (hD.sub [6, 0, 1, 2, 3, 4, 5, 7] rfl rfl) hS (lv_sub hl [1, 2, 3, 4, 5, 6, 0] rfl)
        · skip
          refine lv_aload_n hx hb dX7_byInner_90 rfl (lv_at hl 0 rfl) ?_
          refine lv_iload_n hx hb dX7_byInner_91 rfl (lv_at hl 1 rfl) ?_
          refine lv_iload_n hx hb dX7_byInner_92 rfl (lv_at hl 2 rfl) ?_
          refine xc_i (wc := [kX7 m0 (nI z) m1 (nI r9) m2 m3 m4 m5 (nI n9) (nI v) m6 k1 k2 k3 k4 m7 k5 k6 k7 k8 m8 m9 m10 k9 m11 m12 m13 hv, kI cI m3 9 re, kI cI m5 27 rg, kI cI m6 12 ea, kI cI m8 2400 fw, kI cI m9 32 nf, kI cI m10 4 (upd (upd nb 2 (nI (t % v))) 3 (nI (t / v)))]) (wr := [kI cI m4 9 rn]) (xrV (n := 2) (As := [.int (nI j), .int (nI d0)]) (rest := []) (ci := 7) (q0 := 6) hd hK hP hD (c_X7_bySplits l D cI cJ cZ cR _ m0 m1 m2 m3 m4 m5 m6 m7 m8 m9 m10 m11 m12 m13 z r9 n9 v k1 k2 k3 k4 k5 k6 k7 k8 k9 hv re rg ea fw nf (upd (upd nb 2 (nI (t % v))) 3 (nI (t / v))) j d0 gr hFW hn5 hv5 hEA hs4 hNF hj hMJ he2 hd1 hd9) (gV t_790 mV_X7_bySplits) hV_X7_bySplits ⟨(Nat.le_of_ble_eq_true rfl), (Nat.le_of_ble_eq_true rfl)⟩ rfl rfl [6, 0, 1, 3, 4, 5, 7] rfl rfl rfl hl.1 rfl (Nat.le_of_ble_eq_true rfl) dX7_byInner_93 ⟨(Nat.le_of_ble_eq_true rfl), (Nat.le_of_ble_eq_true rfl)⟩) hP hD hS hA [6, 0, 1, 3, 4, 5, 7] [2] rfl rfl rfl (by decide) (fun r_8 u_9 H locs hw_10 hP hD hS => ?_)
          obtain ⟨q_11, rfl⟩ : ∃ z9, z9 = u_9 := ⟨_, rfl⟩
          obtain ⟨hw_12, hw_13⟩ : (r_8 = (nI q_11)) ∧ (zLs zM9 (zSpA (gM n9 v ea) gr (TD zM9 (trb fw)) j (fun k_9 => tn ((upd (upd nb 2 (nI (t % v))) 3 (nI (t / v))) k_9)) d0) q_11) := hw_10
          subst hw_12
          have hq := hw_13
          have hq9 := hq.1
          have hP : va_P D vwCl [kI cI m4 9 rn, kX7 m0 (nI z) m1 (nI r9) m2 m3 m4 m5 (nI n9) (nI v) m6 k1 k2 k3 k4 m7 k5 k6 k7 k8 m8 m9 m10 k9 m11 m12 m13 hv, kI cI m3 9 re, kI cI m5 27 rg, kI cI m6 12 ea, kI cI m8 2400 fw, kI cI m9 32 nf, kI cI m10 4 (upd (upd nb 2 (nI (t % v))) 3 (nI (t / v)))] H := hP
          have hD : va_D A [kI cI m4 9 rn, kX7 m0 (nI z) m1 (nI r9) m2 m3 m4 m5 (nI n9) (nI v) m6 k1 k2 k3 k4 m7 k5 k6 k7 k8 m8 m9 m10 k9 m11 m12 m13 hv, kI cI m3 9 re, kI cI m5 27 rg, kI cI m6 12 ea, kI cI m8 2400 fw, kI cI m9 32 nf, kI cI m10 4 (upd (upd nb 2 (nI (t % v))) 3 (nI (t / v)))] := hD
          refine lv_istore (lv' := [(7, .int (nI q_11)), (0, .ref m0), (1, .int (nI j)), (2, .int (nI d0)), (3, .int (nI be)), (4, .int (nI (yW gr j))), (5, .int (nI tr)), (6, .int (nI t))]) hx hb dX7_byInner_96 hl (by decide) rfl (fun ls hl => ?_)
          refine lv_iload hx hb dX7_byInner_98 (lv_at hl 0 rfl) ?_
          refine lv_iload_n hx hb dX7_byInner_100 rfl (lv_at hl 4 rfl) ?_
          refine lv_icmp_ge (tgt := 109) hx hb dX7_byInner_101 (by decide) (fun c_14 => ?_) (fun c_14 => ?_)
          · skip
            refine lv_iload_n hx hb dX7_byInner_109 rfl (lv_at hl 4 rfl) ?_
            refine lv_istore_n (lv' := [(3, .int (nI be)), (7, .int (nI q_11)), (0, .ref m0), (1, .int (nI j)), (2, .int (nI d0)), (4, .int (nI (yW gr j))), (5, .int (nI tr)), (6, .int (nI t))]) hx hb dX7_byInner_110 rfl hl (by decide) rfl (fun ls hl => ?_)
            refine lv_iinc (v := nI (t + 1)) (lv' := [(6, .int (nI (t + 1))), (3, .int (nI be)), (7, .int (nI q_11)), (0, .ref m0), (1, .int (nI j)), (2, .int (nI d0)), (4, .int (nI (yW gr j))), (5, .int (nI tr))]) hx hb dX7_byInner_111 hl (k := 7) rfl (nI_1 t) (by decide) rfl (fun ls hl => ?_)
            refine lv_goto (tgt := 48) hx hb dX7_byInner_114 (by decide) ?_
            exact ih_48 (t + 1) be (upd (upd nb 2 (nI (t % v))) 3 (nI (t / v))) (by omega) (zBK_y (na := (upd (upd nb 2 (nI (t % v))) 3 (nI (t / v)))) hv5 hv1 hw4 htr (MJE_w hMJ) b0 b1 b2 b3 (hUd.mp (hYU.of c_7)) hq (Or.inr ⟨leN (a := be) (b := q_11) (by omega) (by omega) c_14, rfl⟩) hBK) hs4 ⟨(pk_un (by decide)).trans ((pk_un (by decide)).trans hn0.1), (pk_un (by decide)).trans ((pk_un (by decide)).trans hn0.2)⟩ _ _ _ (hP.sub [1, 2, 3, 0, 4, 5, 6, 7] rfl) (hD.sub [1, 2, 3, 0, 4, 5, 6, 7] rfl rfl) hS (lv_sub hl [3, 4, 5, 1, 6, 7, 0] rfl)
          · skip
            refine lv_iload hx hb dX7_byInner_104 (lv_at hl 0 rfl) ?_
            refine lv_goto (tgt := 110) hx hb dX7_byInner_106 (by decide) ?_
            refine lv_istore_n (lv' := [(3, .int (nI q_11)), (7, .int (nI q_11)), (0, .ref m0), (1, .int (nI j)), (2, .int (nI d0)), (4, .int (nI (yW gr j))), (5, .int (nI tr)), (6, .int (nI t))]) hx hb dX7_byInner_110 rfl hl (by decide) rfl (fun ls hl => ?_)
            refine lv_iinc (v := nI (t + 1)) (lv' := [(6, .int (nI (t + 1))), (3, .int (nI q_11)), (7, .int (nI q_11)), (0, .ref m0), (1, .int (nI j)), (2, .int (nI d0)), (4, .int (nI (yW gr j))), (5, .int (nI tr))]) hx hb dX7_byInner_111 hl (k := 7) rfl (nI_1 t) (by decide) rfl (fun ls hl => ?_)
            refine lv_goto (tgt := 48) hx hb dX7_byInner_114 (by decide) ?_
            exact ih_48 (t + 1) q_11 (upd (upd nb 2 (nI (t % v))) 3 (nI (t / v))) (by omega) (zBK_y (na := (upd (upd nb 2 (nI (t % v))) 3 (nI (t / v)))) hv5 hv1 hw4 htr (MJE_w hMJ) b0 b1 b2 b3 (hUd.mp (hYU.of c_7)) hq (Or.inl ⟨nleN (a := be) (b := q_11) (by omega) (by omega) c_14, rfl⟩) hBK) hs4 ⟨(pk_un (by decide)).trans ((pk_un (by decide)).trans hn0.1), (pk_un (by decide)).trans ((pk_un (by decide)).trans hn0.2)⟩ _ _ _ (hP.sub [1, 2, 3, 0, 4, 5, 6, 7] rfl) (hD.sub [1, 2, 3, 0, 4, 5, 6, 7] rfl rfl) hS (lv_sub hl [3, 4, 5, 1, 6, 7, 0] rfl)
    exact LOOP_48 tr 0 1000000 na (by omega) zBK_0 hsd ⟨rfl, rfl⟩ _ _ _ (hP.sub [0, 1, 2, 3, 4, 5, 6, 7] rfl) (hD.sub [0, 1, 2, 3, 4, 5, 6, 7] rfl rfl) hS (lv_sub hl [1, 2, 3, 4, 5, 6, 0] rfl)
  refine lv_iload hx hb dX7_byInner_11 (lv_at hl 0 rfl) ?_
  refine lv_iconst (v := 2) hx hb dX7_byInner_13 (by decide) ?_
  refine lv_icmp_ne (tgt := 21) hx hb dX7_byInner_14 (by decide) (fun c_15 => ?_) (fun c_15 => ?_)
  · skip
    refine lv_iload hx hb dX7_byInner_21 (lv_at hl 0 rfl) ?_
    refine lv_iconst (v := 3) hx hb dX7_byInner_23 (by decide) ?_
    refine lv_icmp_ne (tgt := 34) hx hb dX7_byInner_24 (by decide) (fun c_16 => ?_) (fun c_16 => ?_)
    · skip
      refine lv_aload_n hx hb dX7_byInner_34 rfl (lv_at hl 2 rfl) ?_
      refine va_get (D := D) (ci := 7) (v := .int (nI v)) (C := RX7) (T := TX7) (N := 27) hx hb hts iT_X7 hown hK1 hP 0 rfl rfl 8 (by decide) (hts _ t_559) (fun _ h9 => h9) rfl dX7_byInner_35 ?_
      refine lv_aload_n hx hb dX7_byInner_38 rfl (lv_at hl 2 rfl) ?_
      refine va_get (D := D) (ci := 7) (v := .int (nI v)) (C := RX7) (T := TX7) (N := 27) hx hb hts iT_X7 hown hK1 hP 0 rfl rfl 8 (by decide) (hts _ t_559) (fun _ h9 => h9) rfl dX7_byInner_39 ?_
      refine lv_imul hx hb dX7_byInner_42 ?_
      refine lv_nmi (show _ = (nI (v * v)) from pk_mul (v) (v)) ?_
      refine lv_istore (lv' := [(5, .int (nI (v * v))), (4, .int (nI (yW gr j))), (3, .int 1000000), (0, .ref m0), (1, .int (nI j)), (2, .int (nI d0))]) hx hb dX7_byInner_43 hl (by decide) rfl (fun ls hl => ?_)
      exact CUT_45 (v * v) (Or.inr (Or.inr ⟨by have a1 : ¬ yW gr j = 2 := fun q => c_15 (by rw [q]; rfl); have a2 : ¬ yW gr j = 3 := fun q => c_16 (by rw [q]; rfl); omega, rfl⟩)) _ _ _ (hP.sub [0, 1, 2, 3, 4, 5, 6, 7] rfl) (hD.sub [0, 1, 2, 3, 4, 5, 6, 7] rfl rfl) hS (lv_sub hl [3, 4, 5, 2, 1, 0] rfl)
    · skip
      refine lv_aload_n hx hb dX7_byInner_27 rfl (lv_at hl 2 rfl) ?_
      refine va_get (D := D) (ci := 7) (v := .int (nI v)) (C := RX7) (T := TX7) (N := 27) hx hb hts iT_X7 hown hK1 hP 0 rfl rfl 8 (by decide) (hts _ t_559) (fun _ h9 => h9) rfl dX7_byInner_28 ?_
      refine lv_goto (tgt := 43) hx hb dX7_byInner_31 (by decide) ?_
      refine lv_istore (lv' := [(5, .int (nI v)), (4, .int (nI (yW gr j))), (3, .int 1000000), (0, .ref m0), (1, .int (nI j)), (2, .int (nI d0))]) hx hb dX7_byInner_43 hl (by decide) rfl (fun ls hl => ?_)
      exact CUT_45 v (Or.inr (Or.inl ⟨((nI_eq (a := yW gr j) (b := 3) (by omega) (by decide)).mp c_16), rfl⟩)) _ _ _ (hP.sub [0, 1, 2, 3, 4, 5, 6, 7] rfl) (hD.sub [0, 1, 2, 3, 4, 5, 6, 7] rfl rfl) hS (lv_sub hl [3, 4, 5, 2, 1, 0] rfl)
  · skip
    refine lv_iconst (v := 1) hx hb dX7_byInner_17 (by decide) ?_
    refine lv_goto (tgt := 43) hx hb dX7_byInner_18 (by decide) ?_
    refine lv_istore (lv' := [(5, .int 1), (4, .int (nI (yW gr j))), (3, .int 1000000), (0, .ref m0), (1, .int (nI j)), (2, .int (nI d0))]) hx hb dX7_byInner_43 hl (by decide) rfl (fun ls hl => ?_)
    exact CUT_45 1 (Or.inl ⟨((nI_eq (a := yW gr j) (b := 2) (by omega) (by decide)).mp c_15), rfl⟩) _ _ _ (hP.sub [0, 1, 2, 3, 4, 5, 6, 7] rfl) (hD.sub [0, 1, 2, 3, 4, 5, 6, 7] rfl rfl) hS (lv_sub hl [3, 4, 5, 2, 1, 0] rfl)
set_option maxHeartbeats 4000000 in
set_option maxRecDepth 100000 in
theorem c_X7_layEnds (sz : Nat) (m0 : Nat) (m1 : Nat) (m2 : Nat) (m3 : Nat) (m4 : Nat) (m5 : Nat) (m6 : Nat) (m7 : Nat) (m8 : Nat) (m9 : Nat) (m10 : Nat) (m11 : Nat) (m12 : Nat) (m13 : Nat) (z : Nat) (r9 : Nat) (n9 : Nat) (v : Nat) (k1 : Int32) (k2 : Int32) (k3 : Int32) (k4 : Int32) (k5 : Int32) (k6 : Int32) (k7 : Int32) (k8 : Int32) (k9 : Int32) (hv : Int64) (ro : Nat → Int32) (re : Nat → Int32) (rn : Nat → Int32) (rg : Nat → Int32) (ea : Nat → Int32) (fw : Nat → Int32) (nf : Nat → Int32) (na : Nat → Int32) (a : Nat) (b : Nat) (d0 : Nat) (hr9 : r9 ≤ 9) (hMQ : MRQ ro re rn rg r9) (hFW : FWI fw) (hn5 : n9 ≤ 5) (hv5 : v ≤ 5) (hEA : EAI n9 v ea) (hsd : SDn 4 na) (hNF : NFI n9 ea nf (2 ^ n9)) (hd1 : 1 ≤ d0) (hd9 : d0 < 2 ^ n9) (hv1 : 1 ≤ v) (hav : a < v) (hbv : b < v) (hML : MLs (gM n9 v ea) (rMd r9 ro re rn rg) (trb fw) d0) : CTv l D cI cJ cZ cR yX7_layEnds cX7_layEnds 7 none 5 132 0 0 sz [.ref m0, .int (nI a), .int (nI b), .int (nI d0)] [kX7 m0 (nI z) m1 (nI r9) m2 m3 m4 m5 (nI n9) (nI v) m6 k1 k2 k3 k4 m7 k5 k6 k7 k8 m8 m9 m10 k9 m11 m12 m13 hv, kI cI m2 9 ro, kI cI m3 9 re, kI cI m4 9 rn, kI cI m5 27 rg, kI cI m6 12 ea, kI cI m8 2400 fw, kI cI m9 32 nf, kI cI m10 4 na] (fun (u : (Nat → Int32) × (Nat → Int32)) => (LEI (gM n9 v ea) (rMd r9 ro re rn rg) fw u.1 d0 a b r9) ∧ (SDn 4 u.2)) (fun (u : (Nat → Int32) × (Nat → Int32)) => [kX7 m0 (nI z) m1 (nI r9) m2 m3 m4 m5 (nI n9) (nI v) m6 k1 k2 k3 k4 m7 k5 k6 k7 k8 m8 m9 m10 k9 m11 m12 m13 hv, kI cI m2 9 ro, kI cI m3 9 re, kI cI m4 9 rn, kI cI m5 27 rg, kI cI m6 12 ea, kI cI m8 2400 u.1, kI cI m9 32 nf, kI cI m10 4 u.2]) := by
  refine CTv.of (by decide) (Nat.le_of_ble_eq_true rfl) rfl ?_
  intro p e s m below meth c A Q ls hd hin hK hsz hP hD hA hS hl hret
  obtain ⟨hx, hb, hml, hown, hts⟩ := id hd
  have hK1 := hK.1
  have hown : s.vm.findClass RX7 = some m.cls := hown
  have hl : lv_has ls 7 [(0, .ref m0), (1, .int (nI a)), (2, .int (nI b)), (3, .int (nI d0))] := hl
  have hM9 : zM9 = 1000000 := rfl
  have h32 := pow_le5 hn5
  have hd32 : d0 < 32 := by omega
  have hW := rM_wf hMQ
  refine lv_iconst (v := 0) hx hb dX7_layEnds_0 (by decide) ?_
  refine lv_istore (lv' := [(4, .int 0), (0, .ref m0), (1, .int (nI a)), (2, .int (nI b)), (3, .int (nI d0))]) hx hb dX7_layEnds_1 hl (by decide) rfl (fun ls hl => ?_)
  have LOOP_3 : ∀ (n : Nat) (k : Nat) (gw : Nat → Int32), (k + n = 3) → (LE0 fw gw d0 a b k) → ∀ (H : Heap) (locs : List Loc) (ls : Array Slot), va_P D vwCl [kX7 m0 (nI z) m1 (nI r9) m2 m3 m4 m5 (nI n9) (nI v) m6 k1 k2 k3 k4 m7 k5 k6 k7 k8 m8 m9 m10 k9 m11 m12 m13 hv, kI cI m2 9 ro, kI cI m3 9 re, kI cI m4 9 rn, kI cI m5 27 rg, kI cI m6 12 ea, kI cI m8 2400 gw, kI cI m9 32 nf, kI cI m10 4 na] H → va_D A [kX7 m0 (nI z) m1 (nI r9) m2 m3 m4 m5 (nI n9) (nI v) m6 k1 k2 k3 k4 m7 k5 k6 k7 k8 m8 m9 m10 k9 m11 m12 m13 hv, kI cI m2 9 ro, kI cI m3 9 re, kI cI m4 9 rn, kI cI m5 27 rg, kI cI m6 12 ea, kI cI m8 2400 gw, kI cI m9 32 nf, kI cI m10 4 na] → va_S A s.heap H locs → lv_has ls 7 [(0, .ref m0), (1, .int (nI a)), (2, .int (nI b)), (3, .int (nI d0)), (4, .int (nI k))] → W p l e (rM 5 0 0 132) s m ([.ref m0, .int (nI a), .int (nI b), .int (nI d0)] : List Value).toArray below meth c H locs 0 0 Q (F0 m 3 ls []) := by
    intro n
    induction n with
    | zero =>
      intro k gw hk hE0 H locs ls hP hD hS hl
      refine lv_iload hx hb dX7_layEnds_3 (lv_at hl 4 rfl) ?_
      refine lv_iconst (v := 3) hx hb dX7_layEnds_5 (by decide) ?_
      refine lv_icmp_ge (tgt := 31) hx hb dX7_layEnds_6 (by decide) (fun c_1 => ?_) (fun c_1 => ?_)
      rotate_left
      · exact absurd (nI_le (a := 3) (b := k) (by omega) (by omega)) c_1
      refine lv_aload_n hx hb dX7_layEnds_31 rfl (lv_at hl 0 rfl) ?_
      refine va_get (D := D) (ci := 7) (v := .ref m10) (C := RX7) (T := TX7) (N := 27) hx hb hts iT_X7 hown hK1 hP 0 rfl rfl 21 (by decide) (hts _ t_572) (fun _ h9 => h9) rfl dX7_layEnds_32 ?_
      refine lv_iconst (v := 0) hx hb dX7_layEnds_35 (by decide) ?_
      refine lv_iload_n hx hb dX7_layEnds_36 rfl (lv_at hl 1 rfl) ?_
      refine va_iast hx hb hK1 hP hD hS 8 0 rfl rfl (vin (by decide)) dX7_layEnds_37 (fun H locs hP hD hS => ?_)
      have hP : va_P D vwCl [kX7 m0 (nI z) m1 (nI r9) m2 m3 m4 m5 (nI n9) (nI v) m6 k1 k2 k3 k4 m7 k5 k6 k7 k8 m8 m9 m10 k9 m11 m12 m13 hv, kI cI m2 9 ro, kI cI m3 9 re, kI cI m4 9 rn, kI cI m5 27 rg, kI cI m6 12 ea, kI cI m8 2400 gw, kI cI m9 32 nf, kI cI m10 4 (upd na 0 (nI a))] H := hP
      have hD : va_D A [kX7 m0 (nI z) m1 (nI r9) m2 m3 m4 m5 (nI n9) (nI v) m6 k1 k2 k3 k4 m7 k5 k6 k7 k8 m8 m9 m10 k9 m11 m12 m13 hv, kI cI m2 9 ro, kI cI m3 9 re, kI cI m4 9 rn, kI cI m5 27 rg, kI cI m6 12 ea, kI cI m8 2400 gw, kI cI m9 32 nf, kI cI m10 4 (upd na 0 (nI a))] := hD
      refine lv_aload_n hx hb dX7_layEnds_38 rfl (lv_at hl 0 rfl) ?_
      refine va_get (D := D) (ci := 7) (v := .ref m10) (C := RX7) (T := TX7) (N := 27) hx hb hts iT_X7 hown hK1 hP 0 rfl rfl 21 (by decide) (hts _ t_572) (fun _ h9 => h9) rfl dX7_layEnds_39 ?_
      refine lv_iconst (v := 1) hx hb dX7_layEnds_42 (by decide) ?_
      refine lv_iload_n hx hb dX7_layEnds_43 rfl (lv_at hl 2 rfl) ?_
      refine va_iast hx hb hK1 hP hD hS 8 0 rfl rfl (vin (by decide)) dX7_layEnds_44 (fun H locs hP hD hS => ?_)
      have hP : va_P D vwCl [kX7 m0 (nI z) m1 (nI r9) m2 m3 m4 m5 (nI n9) (nI v) m6 k1 k2 k3 k4 m7 k5 k6 k7 k8 m8 m9 m10 k9 m11 m12 m13 hv, kI cI m2 9 ro, kI cI m3 9 re, kI cI m4 9 rn, kI cI m5 27 rg, kI cI m6 12 ea, kI cI m8 2400 gw, kI cI m9 32 nf, kI cI m10 4 (upd (upd na 0 (nI a)) 1 (nI b))] H := hP
      have hD : va_D A [kX7 m0 (nI z) m1 (nI r9) m2 m3 m4 m5 (nI n9) (nI v) m6 k1 k2 k3 k4 m7 k5 k6 k7 k8 m8 m9 m10 k9 m11 m12 m13 hv, kI cI m2 9 ro, kI cI m3 9 re, kI cI m4 9 rn, kI cI m5 27 rg, kI cI m6 12 ea, kI cI m8 2400 gw, kI cI m9 32 nf, kI cI m10 4 (upd (upd na 0 (nI a)) 1 (nI b))] := hD
      refine lv_iconst (v := 0) hx hb dX7_layEnds_45 (by decide) ?_
      refine lv_istore (lv' := [(4, .int 0), (0, .ref m0), (1, .int (nI a)), (2, .int (nI b)), (3, .int (nI d0))]) hx hb dX7_layEnds_46 hl (by decide) rfl (fun ls hl => ?_)
      have LOOP_48 : ∀ (n : Nat) (i : Nat) (gx : Nat → Int32) (nb : Nat → Int32), (i + n = r9) → (LEI (gM n9 v ea) (rMd r9 ro re rn rg) fw gx d0 a b i) → (SDn 4 nb) → (nb 0 = nI a ∧ nb 1 = nI b) → ∀ (H : Heap) (locs : List Loc) (ls : Array Slot), va_P D vwCl [kX7 m0 (nI z) m1 (nI r9) m2 m3 m4 m5 (nI n9) (nI v) m6 k1 k2 k3 k4 m7 k5 k6 k7 k8 m8 m9 m10 k9 m11 m12 m13 hv, kI cI m2 9 ro, kI cI m3 9 re, kI cI m4 9 rn, kI cI m5 27 rg, kI cI m6 12 ea, kI cI m8 2400 gx, kI cI m9 32 nf, kI cI m10 4 nb] H → va_D A [kX7 m0 (nI z) m1 (nI r9) m2 m3 m4 m5 (nI n9) (nI v) m6 k1 k2 k3 k4 m7 k5 k6 k7 k8 m8 m9 m10 k9 m11 m12 m13 hv, kI cI m2 9 ro, kI cI m3 9 re, kI cI m4 9 rn, kI cI m5 27 rg, kI cI m6 12 ea, kI cI m8 2400 gx, kI cI m9 32 nf, kI cI m10 4 nb] → va_S A s.heap H locs → lv_has ls 7 [(0, .ref m0), (1, .int (nI a)), (2, .int (nI b)), (3, .int (nI d0)), (4, .int (nI i))] → W p l e (rM 5 0 0 132) s m ([.ref m0, .int (nI a), .int (nI b), .int (nI d0)] : List Value).toArray below meth c H locs 0 0 Q (F0 m 48 ls []) := by
        intro n
        induction n with
        | zero =>
          intro i gx nb hi hLE hnb hnab H locs ls hP hD hS hl
          refine lv_iload hx hb dX7_layEnds_48 (lv_at hl 4 rfl) ?_
          refine lv_aload_n hx hb dX7_layEnds_50 rfl (lv_at hl 0 rfl) ?_
          refine va_get (D := D) (ci := 7) (v := .int (nI r9)) (C := RX7) (T := TX7) (N := 27) hx hb hts iT_X7 hown hK1 hP 0 rfl rfl 2 (by decide) (hts _ t_553) (fun _ h9 => h9) rfl dX7_layEnds_51 ?_
          refine lv_icmp_ge (tgt := 137) hx hb dX7_layEnds_54 (by decide) (fun c_2 => ?_) (fun c_2 => ?_)
          rotate_left
          · exact absurd (nI_le (a := r9) (b := i) (by omega) (by omega)) c_2
          exact hret _ _ _ _ _ _ (gx, nb) dX7_layEnds_137 hS (Nat.le_of_ble_eq_true rfl) (Nat.le_of_ble_eq_true rfl) ⟨(show i = r9 by omega) ▸ hLE, hnb⟩ (hP.sub [0, 1, 2, 3, 4, 5, 6, 7, 8] rfl) (hD.sub [0, 1, 2, 3, 4, 5, 6, 7, 8] rfl rfl)
        | succ n ih_48 =>
          intro i gx nb hi hLE hnb hnab H locs ls hP hD hS hl
          refine lv_iload hx hb dX7_layEnds_48 (lv_at hl 4 rfl) ?_
          refine lv_aload_n hx hb dX7_layEnds_50 rfl (lv_at hl 0 rfl) ?_
          refine va_get (D := D) (ci := 7) (v := .int (nI r9)) (C := RX7) (T := TX7) (N := 27) hx hb hts iT_X7 hown hK1 hP 0 rfl rfl 2 (by decide) (hts _ t_553) (fun _ h9 => h9) rfl dX7_layEnds_51 ?_
          refine lv_icmp_ge (tgt := 137) hx hb dX7_layEnds_54 (by decide) (fun c_3 => ?_) (fun c_3 => ?_)
          · exact absurd c_3 (nI_ge (a := i) (b := r9) (by omega) (by omega))
          refine lv_iload_n hx hb dX7_layEnds_57 rfl (lv_at hl 1 rfl) ?_
          refine lv_iload_n hx hb dX7_layEnds_58 rfl (lv_at hl 2 rfl) ?_
          refine lv_icmp_eq (tgt := 137) hx hb dX7_layEnds_59 (by decide) (fun c_4 => ?_) (fun c_4 => ?_)
          · skip
            exact hret _ _ _ _ _ _ (gx, nb) dX7_layEnds_137 hS (Nat.le_of_ble_eq_true rfl) (Nat.le_of_ble_eq_true rfl) ⟨LEI_x ((nI_eq (by omega) (by omega)).mp c_4) hLE, hnb⟩ (hP.sub [0, 1, 2, 3, 4, 5, 6, 7, 8] rfl) (hD.sub [0, 1, 2, 3, 4, 5, 6, 7, 8] rfl rfl)
          · skip
            have hMJ := MRQ_at hMQ (show i < r9 by omega)
            obtain ⟨eo9, ho9, ee9, he1, he3, ew9, hw2, hw4, hWf, hw1⟩ := id hMJ
            have hst : ¬ a = b := fun q => c_4 (by rw [q])
            refine lv_aload_n hx hb dX7_layEnds_62 rfl (lv_at hl 0 rfl) ?_
            refine va_get (D := D) (ci := 7) (v := .ref m3) (C := RX7) (T := TX7) (N := 27) hx hb hts iT_X7 hown hK1 hP 0 rfl rfl 4 (by decide) (hts _ t_555) (fun _ h9 => h9) rfl dX7_layEnds_63 ?_
            refine lv_iload hx hb dX7_layEnds_66 (lv_at hl 4 rfl) ?_
            refine va_iald hx hb hK1 hP 2 0 rfl rfl (vp_in_nI (by omega) (by omega)) dX7_layEnds_68 ?_
            refine lv_nmi (show _ = re i from by rw [nI_clamp (n := i) (by omega)]) ?_
            refine lv_nmi (show _ = (nI (yS (rMd r9 ro re rn rg) i) : Int32) from ee9) ?_
            refine lv_iconst (v := 1) hx hb dX7_layEnds_69 (by decide) ?_
            refine lv_icmp_le (tgt := 131) hx hb dX7_layEnds_70 (by decide) (fun c_5 => ?_) (fun c_5 => ?_)
            · skip
              refine lv_iinc (v := nI (i + 1)) (lv' := [(4, .int (nI (i + 1))), (0, .ref m0), (1, .int (nI a)), (2, .int (nI b)), (3, .int (nI d0))]) hx hb dX7_layEnds_131 hl (k := 4) rfl (nI_1 i) (by decide) rfl (fun ls hl => ?_)
              refine lv_goto (tgt := 48) hx hb dX7_layEnds_134 (by decide) ?_
              exact ih_48 (i + 1) gx nb (by omega) (LEI_k (fun q => absurd (leN (a := yS (rMd r9 ro re rn rg) i) (b := 1) (by decide) (by omega) c_5) (by omega)) hLE) hnb hnab _ _ _ (hP.sub [0, 1, 2, 3, 4, 5, 6, 7, 8] rfl) (hD.sub [0, 1, 2, 3, 4, 5, 6, 7, 8] rfl rfl) hS (lv_sub hl [1, 2, 3, 4, 0] rfl)
            · skip
              have he2 := nleN (a := yS (rMd r9 ro re rn rg) i) (b := 1) (by decide) (by omega) c_5
              refine lv_aload_n hx hb dX7_layEnds_73 rfl (lv_at hl 0 rfl) ?_
              refine lv_aload_n hx hb dX7_layEnds_74 rfl (lv_at hl 0 rfl) ?_
              refine va_get (D := D) (ci := 7) (v := .ref m2) (C := RX7) (T := TX7) (N := 27) hx hb hts iT_X7 hown hK1 hP 0 rfl rfl 3 (by decide) (hts _ t_554) (fun _ h9 => h9) rfl dX7_layEnds_75 ?_
              refine lv_iload hx hb dX7_layEnds_78 (lv_at hl 4 rfl) ?_
              refine va_iald hx hb hK1 hP 1 0 rfl rfl (vp_in_nI (by omega) (by omega)) dX7_layEnds_80 ?_
              refine lv_nmi (show _ = ro i from by rw [nI_clamp (n := i) (by omega)]) ?_
              refine lv_nmi (show _ = (nI (yO (rMd r9 ro re rn rg) i) : Int32) from eo9) ?_
              refine lv_iload_n hx hb dX7_layEnds_81 rfl (lv_at hl 1 rfl) ?_
              refine lv_iload_n hx hb dX7_layEnds_82 rfl (lv_at hl 2 rfl) ?_
              refine lv_iload_n hx hb dX7_layEnds_83 rfl (lv_at hl 3 rfl) ?_
              refine xc_i (wc := [kX7 m0 (nI z) m1 (nI r9) m2 m3 m4 m5 (nI n9) (nI v) m6 k1 k2 k3 k4 m7 k5 k6 k7 k8 m8 m9 m10 k9 m11 m12 m13 hv]) (wr := [kI cI m2 9 ro, kI cI m3 9 re, kI cI m4 9 rn, kI cI m5 27 rg, kI cI m6 12 ea, kI cI m8 2400 gx, kI cI m9 32 nf, kI cI m10 4 nb]) (xrV (n := 4) (As := [.int (nI (yO (rMd r9 ro re rn rg) i)), .int (nI a), .int (nI b), .int (nI d0)]) (rest := []) (ci := 7) (q0 := 0) hd hK hP hD (c_X7_at l D cI cJ cZ cR _ m0 m1 m2 m3 m4 m5 m6 m7 m8 m9 m10 m11 m12 m13 z r9 n9 v k1 k2 k3 k4 k5 k6 k7 k8 k9 hv (yO (rMd r9 ro re rn rg) i) a b d0 ) (gV t_777 mV_X7_at) hV_X7_at ⟨(Nat.le_of_ble_eq_true rfl), (Nat.le_of_ble_eq_true rfl)⟩ rfl rfl [0] rfl rfl rfl hl.1 rfl (Nat.le_of_ble_eq_true rfl) dX7_layEnds_84 ⟨(Nat.le_of_ble_eq_true rfl), (Nat.le_of_ble_eq_true rfl)⟩) hP hD hS hA [0] [1, 2, 3, 4, 5, 6, 7, 8] rfl rfl rfl (by decide) (fun r_6 u_7 H locs hw_8 hP hD hS => ?_)
              have hw_9 : r_6 = (nI (((((((yO (rMd r9 ro re rn rg) i) * 5) + a) * 5) + b) * 32) + d0)) := hw_8
              subst hw_9
              have hP : va_P D vwCl [kI cI m2 9 ro, kI cI m3 9 re, kI cI m4 9 rn, kI cI m5 27 rg, kI cI m6 12 ea, kI cI m8 2400 gx, kI cI m9 32 nf, kI cI m10 4 nb, kX7 m0 (nI z) m1 (nI r9) m2 m3 m4 m5 (nI n9) (nI v) m6 k1 k2 k3 k4 m7 k5 k6 k7 k8 m8 m9 m10 k9 m11 m12 m13 hv] H := hP
              have hD : va_D A [kI cI m2 9 ro, kI cI m3 9 re, kI cI m4 9 rn, kI cI m5 27 rg, kI cI m6 12 ea, kI cI m8 2400 gx, kI cI m9 32 nf, kI cI m10 4 nb, kX7 m0 (nI z) m1 (nI r9) m2 m3 m4 m5 (nI n9) (nI v) m6 k1 k2 k3 k4 m7 k5 k6 k7 k8 m8 m9 m10 k9 m11 m12 m13 hv] := hD
              refine lv_istore (lv' := [(5, .int (nI (((((((yO (rMd r9 ro re rn rg) i) * 5) + a) * 5) + b) * 32) + d0))), (0, .ref m0), (1, .int (nI a)), (2, .int (nI b)), (3, .int (nI d0)), (4, .int (nI i))]) hx hb dX7_layEnds_87 hl (by decide) rfl (fun ls hl => ?_)
              refine lv_aload_n hx hb dX7_layEnds_89 rfl (lv_at hl 1 rfl) ?_
              refine lv_iload hx hb dX7_layEnds_90 (lv_at hl 5 rfl) ?_
              refine lv_iload_n hx hb dX7_layEnds_92 rfl (lv_at hl 4 rfl) ?_
              refine xc_i (wc := [kX7 m0 (nI z) m1 (nI r9) m2 m3 m4 m5 (nI n9) (nI v) m6 k1 k2 k3 k4 m7 k5 k6 k7 k8 m8 m9 m10 k9 m11 m12 m13 hv, kI cI m3 9 re, kI cI m5 27 rg, kI cI m4 9 rn, kI cI m6 12 ea, kI cI m8 2400 gx, kI cI m9 32 nf, kI cI m10 4 nb]) (wr := [kI cI m2 9 ro]) (xrV (n := 2) (As := [.int (nI i), .int (nI d0)]) (rest := []) (ci := 7) (q0 := 8) hd hK hP hD (c_X7_byInner l D cI cJ cZ cR _ m0 m1 m2 m3 m4 m5 m6 m7 m8 m9 m10 m11 m12 m13 z r9 n9 v k1 k2 k3 k4 k5 k6 k7 k8 k9 hv re rg rn ea gx nf nb i d0 (rMd r9 ro re rn rg) hLE.1 hn5 hv5 hEA hnb hNF (by omega) (MJ_e hMJ) he2 hd1 hd9 hv1 ew9 hw2 hw4) (gV t_782 mV_X7_byInner) hV_X7_byInner ⟨(Nat.le_of_ble_eq_true rfl), (Nat.le_of_ble_eq_true rfl)⟩ rfl rfl [8, 1, 3, 2, 4, 5, 6, 7] rfl rfl rfl hl.1 rfl (Nat.le_of_ble_eq_true rfl) dX7_layEnds_93 ⟨(Nat.le_of_ble_eq_true rfl), (Nat.le_of_ble_eq_true rfl)⟩) hP hD hS hA [8, 1, 3, 2, 4, 5, 6, 7] [0] rfl rfl rfl (by decide) (fun r_10 u_11 H locs hw_12 hP hD hS => ?_)
              obtain ⟨q_13, na2_14⟩ := u_11
              obtain ⟨hw_15, hw_16, hw_17, hw_18, hw_19⟩ : (r_10 = (nI q_13)) ∧ (zLs zM9 (zByA (gM n9 v ea) (rMd r9 ro re rn rg) (TD zM9 (trb gx)) i (tn (nb 0)) (tn (nb 1)) d0) q_13) ∧ (SDn 4 na2_14) ∧ (na2_14 0 = nb 0) ∧ (na2_14 1 = nb 1) := hw_12
              subst hw_15
              have hq := hw_16
              have hS2 := hw_17
              have hn0 := hw_18
              have hn1 := hw_19
              rw [hnab.1, hnab.2, tn_nI (by omega), tn_nI (by omega)] at hq
              have hq9 := hq.1
              have hP : va_P D vwCl [kI cI m2 9 ro, kX7 m0 (nI z) m1 (nI r9) m2 m3 m4 m5 (nI n9) (nI v) m6 k1 k2 k3 k4 m7 k5 k6 k7 k8 m8 m9 m10 k9 m11 m12 m13 hv, kI cI m3 9 re, kI cI m5 27 rg, kI cI m4 9 rn, kI cI m6 12 ea, kI cI m8 2400 gx, kI cI m9 32 nf, kI cI m10 4 na2_14] H := hP
              have hD : va_D A [kI cI m2 9 ro, kX7 m0 (nI z) m1 (nI r9) m2 m3 m4 m5 (nI n9) (nI v) m6 k1 k2 k3 k4 m7 k5 k6 k7 k8 m8 m9 m10 k9 m11 m12 m13 hv, kI cI m3 9 re, kI cI m5 27 rg, kI cI m4 9 rn, kI cI m6 12 ea, kI cI m8 2400 gx, kI cI m9 32 nf, kI cI m10 4 na2_14] := hD
              refine lv_iconst (v := 1) hx hb dX7_layEnds_96 (by decide) ?_
              refine lv_iadd hx hb dX7_layEnds_97 ?_
              refine lv_nmi (show _ = (nI (q_13 + 1)) from nI_add (q_13) (1)) ?_
              refine lv_istore (lv' := [(6, .int (nI (q_13 + 1))), (5, .int (nI (((((((yO (rMd r9 ro re rn rg) i) * 5) + a) * 5) + b) * 32) + d0))), (0, .ref m0), (1, .int (nI a)), (2, .int (nI b)), (3, .int (nI d0)), (4, .int (nI i))]) hx hb dX7_layEnds_98 hl (by decide) rfl (fun ls hl => ?_)
              refine lv_aload_n hx hb dX7_layEnds_100 rfl (lv_at hl 2 rfl) ?_
              refine va_get (D := D) (ci := 7) (v := .ref m8) (C := RX7) (T := TX7) (N := 27) hx hb hts iT_X7 hown hK1 hP 1 rfl rfl 19 (by decide) (hts _ t_570) (fun _ h9 => h9) rfl dX7_layEnds_101 ?_
              refine lv_iload hx hb dX7_layEnds_104 (lv_at hl 1 rfl) ?_
              refine lv_iload hx hb dX7_layEnds_106 (lv_at hl 0 rfl) ?_
              refine lv_aload_n hx hb dX7_layEnds_108 rfl (lv_at hl 2 rfl) ?_
              refine va_get (D := D) (ci := 7) (v := .ref m8) (C := RX7) (T := TX7) (N := 27) hx hb hts iT_X7 hown hK1 hP 1 rfl rfl 19 (by decide) (hts _ t_570) (fun _ h9 => h9) rfl dX7_layEnds_109 ?_
              refine lv_iload hx hb dX7_layEnds_112 (lv_at hl 1 rfl) ?_
              refine va_iald hx hb hK1 hP 6 0 rfl rfl (vp_in_nI (by omega) (by omega)) dX7_layEnds_114 ?_
              refine lv_nmi (show _ = gx (((((((yO (rMd r9 ro re rn rg) i) * 5) + a) * 5) + b) * 32) + d0) from by rw [nI_clamp (n := (((((((yO (rMd r9 ro re rn rg) i) * 5) + a) * 5) + b) * 32) + d0)) (by omega)]) ?_
              refine lv_icmp_ge (tgt := 123) hx hb dX7_layEnds_115 (by decide) (fun c_20 => ?_) (fun c_20 => ?_)
              · skip
                refine lv_aload_n hx hb dX7_layEnds_123 rfl (lv_at hl 2 rfl) ?_
                refine va_get (D := D) (ci := 7) (v := .ref m8) (C := RX7) (T := TX7) (N := 27) hx hb hts iT_X7 hown hK1 hP 1 rfl rfl 19 (by decide) (hts _ t_570) (fun _ h9 => h9) rfl dX7_layEnds_124 ?_
                refine lv_iload hx hb dX7_layEnds_127 (lv_at hl 1 rfl) ?_
                refine va_iald hx hb hK1 hP 6 0 rfl rfl (vp_in_nI (by omega) (by omega)) dX7_layEnds_129 ?_
                refine lv_nmi (show _ = gx (((((((yO (rMd r9 ro re rn rg) i) * 5) + a) * 5) + b) * 32) + d0) from by rw [nI_clamp (n := (((((((yO (rMd r9 ro re rn rg) i) * 5) + a) * 5) + b) * 32) + d0)) (by omega)]) ?_
                refine va_iast hx hb hK1 hP hD hS 6 0 rfl rfl (vp_in_nI (by omega) (by omega)) dX7_layEnds_130 (fun H locs hP hD hS => ?_)
                rw [nI_clamp (n := (((((((yO (rMd r9 ro re rn rg) i) * 5) + a) * 5) + b) * 32) + d0)) (by omega)] at hP hD
                have hP : va_P D vwCl [kI cI m2 9 ro, kX7 m0 (nI z) m1 (nI r9) m2 m3 m4 m5 (nI n9) (nI v) m6 k1 k2 k3 k4 m7 k5 k6 k7 k8 m8 m9 m10 k9 m11 m12 m13 hv, kI cI m3 9 re, kI cI m5 27 rg, kI cI m4 9 rn, kI cI m6 12 ea, kI cI m8 2400 (upd gx (((((((yO (rMd r9 ro re rn rg) i) * 5) + a) * 5) + b) * 32) + d0) (gx (((((((yO (rMd r9 ro re rn rg) i) * 5) + a) * 5) + b) * 32) + d0))), kI cI m9 32 nf, kI cI m10 4 na2_14] H := hP
                have hD : va_D A [kI cI m2 9 ro, kX7 m0 (nI z) m1 (nI r9) m2 m3 m4 m5 (nI n9) (nI v) m6 k1 k2 k3 k4 m7 k5 k6 k7 k8 m8 m9 m10 k9 m11 m12 m13 hv, kI cI m3 9 re, kI cI m5 27 rg, kI cI m4 9 rn, kI cI m6 12 ea, kI cI m8 2400 (upd gx (((((((yO (rMd r9 ro re rn rg) i) * 5) + a) * 5) + b) * 32) + d0) (gx (((((((yO (rMd r9 ro re rn rg) i) * 5) + a) * 5) + b) * 32) + d0))), kI cI m9 32 nf, kI cI m10 4 na2_14] := hD
                refine lv_iinc (v := nI (i + 1)) (lv' := [(4, .int (nI (i + 1))), (6, .int (nI (q_13 + 1))), (5, .int (nI (((((((yO (rMd r9 ro re rn rg) i) * 5) + a) * 5) + b) * 32) + d0))), (0, .ref m0), (1, .int (nI a)), (2, .int (nI b)), (3, .int (nI d0))]) hx hb dX7_layEnds_131 hl (k := 6) rfl (nI_1 i) (by decide) rfl (fun ls hl => ?_)
                refine lv_goto (tgt := 48) hx hb dX7_layEnds_134 (by decide) ?_
                exact ih_48 (i + 1) (upd gx (((((((yO (rMd r9 ro re rn rg) i) * 5) + a) * 5) + b) * 32) + d0) (gx (((((((yO (rMd r9 ro re rn rg) i) * 5) + a) * 5) + b) * 32) + d0))) na2_14 (by omega) (by rw [updi_self]; exact LEI_n hd32 hq (fw_le hLE.1 (by omega) (by omega) c_20) hLE) hS2 ⟨hn0.trans hnab.1, hn1.trans hnab.2⟩ _ _ _ (hP.sub [1, 0, 2, 4, 3, 5, 6, 7, 8] rfl) (hD.sub [1, 0, 2, 4, 3, 5, 6, 7, 8] rfl rfl) hS (lv_sub hl [3, 4, 5, 6, 0] rfl)
              · skip
                refine lv_iload hx hb dX7_layEnds_118 (lv_at hl 0 rfl) ?_
                refine lv_goto (tgt := 130) hx hb dX7_layEnds_120 (by decide) ?_
                refine va_iast hx hb hK1 hP hD hS 6 0 rfl rfl (vp_in_nI (by omega) (by omega)) dX7_layEnds_130 (fun H locs hP hD hS => ?_)
                rw [nI_clamp (n := (((((((yO (rMd r9 ro re rn rg) i) * 5) + a) * 5) + b) * 32) + d0)) (by omega)] at hP hD
                have hP : va_P D vwCl [kI cI m2 9 ro, kX7 m0 (nI z) m1 (nI r9) m2 m3 m4 m5 (nI n9) (nI v) m6 k1 k2 k3 k4 m7 k5 k6 k7 k8 m8 m9 m10 k9 m11 m12 m13 hv, kI cI m3 9 re, kI cI m5 27 rg, kI cI m4 9 rn, kI cI m6 12 ea, kI cI m8 2400 (upd gx (((((((yO (rMd r9 ro re rn rg) i) * 5) + a) * 5) + b) * 32) + d0) (nI (q_13 + 1))), kI cI m9 32 nf, kI cI m10 4 na2_14] H := hP
                have hD : va_D A [kI cI m2 9 ro, kX7 m0 (nI z) m1 (nI r9) m2 m3 m4 m5 (nI n9) (nI v) m6 k1 k2 k3 k4 m7 k5 k6 k7 k8 m8 m9 m10 k9 m11 m12 m13 hv, kI cI m3 9 re, kI cI m5 27 rg, kI cI m4 9 rn, kI cI m6 12 ea, kI cI m8 2400 (upd gx (((((((yO (rMd r9 ro re rn rg) i) * 5) + a) * 5) + b) * 32) + d0) (nI (q_13 + 1))), kI cI m9 32 nf, kI cI m10 4 na2_14] := hD
                refine lv_iinc (v := nI (i + 1)) (lv' := [(4, .int (nI (i + 1))), (6, .int (nI (q_13 + 1))), (5, .int (nI (((((((yO (rMd r9 ro re rn rg) i) * 5) + a) * 5) + b) * 32) + d0))), (0, .ref m0), (1, .int (nI a)), (2, .int (nI b)), (3, .int (nI d0))]) hx hb dX7_layEnds_131 hl (k := 6) rfl (nI_1 i) (by decide) rfl (fun ls hl => ?_)
                refine lv_goto (tgt := 48) hx hb dX7_layEnds_134 (by decide) ?_
                exact ih_48 (i + 1) (upd gx (((((((yO (rMd r9 ro re rn rg) i) * 5) + a) * 5) + b) * 32) + d0) (nI (q_13 + 1))) na2_14 (by omega) (LEI_y hW hv5 hd32 hav hbv hst (show i < r9 by omega) he2 hML hq (fw_lt hLE.1 (by omega) (by omega) c_20) hLE) hS2 ⟨hn0.trans hnab.1, hn1.trans hnab.2⟩ _ _ _ (hP.sub [1, 0, 2, 4, 3, 5, 6, 7, 8] rfl) (hD.sub [1, 0, 2, 4, 3, 5, 6, 7, 8] rfl rfl) hS (lv_sub hl [3, 4, 5, 6, 0] rfl)
      exact LOOP_48 r9 0 gw (upd (upd na 0 (nI a)) 1 (nI b)) (by omega) (LEI_0 (by omega) hE0) (SDn_u (SDn_u hsd (by omega)) (by omega)) ⟨(pk_un (by decide)).trans pk_us, pk_us⟩ _ _ _ (hP.sub [0, 1, 2, 3, 4, 5, 6, 7, 8] rfl) (hD.sub [0, 1, 2, 3, 4, 5, 6, 7, 8] rfl rfl) hS (lv_sub hl [1, 2, 3, 4, 0] rfl)
    | succ n ih_3 =>
      intro k gw hk hE0 H locs ls hP hD hS hl
      refine lv_iload hx hb dX7_layEnds_3 (lv_at hl 4 rfl) ?_
      refine lv_iconst (v := 3) hx hb dX7_layEnds_5 (by decide) ?_
      refine lv_icmp_ge (tgt := 31) hx hb dX7_layEnds_6 (by decide) (fun c_21 => ?_) (fun c_21 => ?_)
      · exact absurd c_21 (nI_ge (a := k) (b := 3) (by omega) (by omega))
      refine lv_aload_n hx hb dX7_layEnds_9 rfl (lv_at hl 0 rfl) ?_
      refine va_get (D := D) (ci := 7) (v := .ref m8) (C := RX7) (T := TX7) (N := 27) hx hb hts iT_X7 hown hK1 hP 0 rfl rfl 19 (by decide) (hts _ t_570) (fun _ h9 => h9) rfl dX7_layEnds_10 ?_
      refine lv_aload_n hx hb dX7_layEnds_13 rfl (lv_at hl 0 rfl) ?_
      refine lv_iload hx hb dX7_layEnds_14 (lv_at hl 4 rfl) ?_
      refine lv_iload_n hx hb dX7_layEnds_16 rfl (lv_at hl 1 rfl) ?_
      refine lv_iload_n hx hb dX7_layEnds_17 rfl (lv_at hl 2 rfl) ?_
      refine lv_iload_n hx hb dX7_layEnds_18 rfl (lv_at hl 3 rfl) ?_
      refine xc_i (wc := [kX7 m0 (nI z) m1 (nI r9) m2 m3 m4 m5 (nI n9) (nI v) m6 k1 k2 k3 k4 m7 k5 k6 k7 k8 m8 m9 m10 k9 m11 m12 m13 hv]) (wr := [kI cI m2 9 ro, kI cI m3 9 re, kI cI m4 9 rn, kI cI m5 27 rg, kI cI m6 12 ea, kI cI m8 2400 gw, kI cI m9 32 nf, kI cI m10 4 na]) (xrV (n := 4) (As := [.int (nI k), .int (nI a), .int (nI b), .int (nI d0)]) (rest := [.ref m8]) (ci := 7) (q0 := 0) hd hK hP hD (c_X7_at l D cI cJ cZ cR _ m0 m1 m2 m3 m4 m5 m6 m7 m8 m9 m10 m11 m12 m13 z r9 n9 v k1 k2 k3 k4 k5 k6 k7 k8 k9 hv k a b d0 ) (gV t_777 mV_X7_at) hV_X7_at ⟨(Nat.le_of_ble_eq_true rfl), (Nat.le_of_ble_eq_true rfl)⟩ rfl rfl [0] rfl rfl rfl hl.1 rfl (Nat.le_of_ble_eq_true rfl) dX7_layEnds_19 ⟨(Nat.le_of_ble_eq_true rfl), (Nat.le_of_ble_eq_true rfl)⟩) hP hD hS hA [0] [1, 2, 3, 4, 5, 6, 7, 8] rfl rfl rfl (by decide) (fun r_22 u_23 H locs hw_24 hP hD hS => ?_)
      have hw_25 : r_22 = (nI ((((((k * 5) + a) * 5) + b) * 32) + d0)) := hw_24
      subst hw_25
      have hP : va_P D vwCl [kI cI m2 9 ro, kI cI m3 9 re, kI cI m4 9 rn, kI cI m5 27 rg, kI cI m6 12 ea, kI cI m8 2400 gw, kI cI m9 32 nf, kI cI m10 4 na, kX7 m0 (nI z) m1 (nI r9) m2 m3 m4 m5 (nI n9) (nI v) m6 k1 k2 k3 k4 m7 k5 k6 k7 k8 m8 m9 m10 k9 m11 m12 m13 hv] H := hP
      have hD : va_D A [kI cI m2 9 ro, kI cI m3 9 re, kI cI m4 9 rn, kI cI m5 27 rg, kI cI m6 12 ea, kI cI m8 2400 gw, kI cI m9 32 nf, kI cI m10 4 na, kX7 m0 (nI z) m1 (nI r9) m2 m3 m4 m5 (nI n9) (nI v) m6 k1 k2 k3 k4 m7 k5 k6 k7 k8 m8 m9 m10 k9 m11 m12 m13 hv] := hD
      refine lv_ldc hx hb hown (hts _ t_781) dX7_layEnds_22 ?_
      refine va_iast hx hb hK1 hP hD hS 5 0 rfl rfl (vp_in_nI (by omega) (by omega)) dX7_layEnds_24 (fun H locs hP hD hS => ?_)
      rw [nI_clamp (n := ((((((k * 5) + a) * 5) + b) * 32) + d0)) (by omega)] at hP hD
      have hP : va_P D vwCl [kI cI m2 9 ro, kI cI m3 9 re, kI cI m4 9 rn, kI cI m5 27 rg, kI cI m6 12 ea, kI cI m8 2400 (upd gw ((((((k * 5) + a) * 5) + b) * 32) + d0) 1000000), kI cI m9 32 nf, kI cI m10 4 na, kX7 m0 (nI z) m1 (nI r9) m2 m3 m4 m5 (nI n9) (nI v) m6 k1 k2 k3 k4 m7 k5 k6 k7 k8 m8 m9 m10 k9 m11 m12 m13 hv] H := hP
      have hD : va_D A [kI cI m2 9 ro, kI cI m3 9 re, kI cI m4 9 rn, kI cI m5 27 rg, kI cI m6 12 ea, kI cI m8 2400 (upd gw ((((((k * 5) + a) * 5) + b) * 32) + d0) 1000000), kI cI m9 32 nf, kI cI m10 4 na, kX7 m0 (nI z) m1 (nI r9) m2 m3 m4 m5 (nI n9) (nI v) m6 k1 k2 k3 k4 m7 k5 k6 k7 k8 m8 m9 m10 k9 m11 m12 m13 hv] := hD
      refine lv_iinc (v := nI (k + 1)) (lv' := [(4, .int (nI (k + 1))), (0, .ref m0), (1, .int (nI a)), (2, .int (nI b)), (3, .int (nI d0))]) hx hb dX7_layEnds_25 hl (k := 4) rfl (nI_1 k) (by decide) rfl (fun ls hl => ?_)
      refine lv_goto (tgt := 3) hx hb dX7_layEnds_28 (by decide) ?_
      exact ih_3 (k + 1) (upd gw ((((((k * 5) + a) * 5) + b) * 32) + d0) 1000000) (by omega) (LE0_s hd32 (by omega) (by omega) hE0) _ _ _ (hP.sub [8, 0, 1, 2, 3, 4, 5, 6, 7] rfl) (hD.sub [8, 0, 1, 2, 3, 4, 5, 6, 7] rfl rfl) hS (lv_sub hl [1, 2, 3, 4, 0] rfl)
  exact LOOP_3 3 0 fw (by omega) (LE0_0 hFW) _ _ _ (hP.sub [0, 1, 2, 3, 4, 5, 6, 7, 8] rfl) (hD.sub [0, 1, 2, 3, 4, 5, 6, 7, 8] rfl rfl) hS (lv_sub hl [1, 2, 3, 4, 0] rfl)
set_option maxHeartbeats 4000000 in
set_option maxRecDepth 100000 in
theorem c_X7_laySingles (sz : Nat) (m0 : Nat) (m1 : Nat) (m2 : Nat) (m3 : Nat) (m4 : Nat) (m5 : Nat) (m6 : Nat) (m7 : Nat) (m8 : Nat) (m9 : Nat) (m10 : Nat) (m11 : Nat) (m12 : Nat) (m13 : Nat) (z : Nat) (r9 : Nat) (n9 : Nat) (v : Nat) (k1 : Int32) (k2 : Int32) (k3 : Int32) (k4 : Int32) (k5 : Int32) (k6 : Int32) (k7 : Int32) (k8 : Int32) (k9 : Int32) (hv : Int64) (ro : Nat → Int32) (re : Nat → Int32) (rn : Nat → Int32) (rg : Nat → Int32) (ea : Nat → Int32) (fw : Nat → Int32) (nf : Nat → Int32) (na : Nat → Int32) (a : Nat) (b : Nat) (d0 : Nat) (hr9 : r9 ≤ 9) (hMQ : MRQ ro re rn rg r9) (hFW : FWI fw) (hn5 : n9 ≤ 5) (hv5 : v ≤ 5) (hEA : EAI n9 v ea) (hsd : SDn 4 na) (hd1 : 1 ≤ d0) (hd9 : d0 < 2 ^ n9) (hav : a < v) (hbv : b < v) (hSn : SND (gM n9 v ea) (rMd r9 ro re rn rg) fw d0) : CTi l D cI cJ cZ cR yX7_laySingles cX7_laySingles 8 (some .boolean) 3 72 0 0 sz [.ref m0, .int (nI a), .int (nI b), .int (nI d0)] [kX7 m0 (nI z) m1 (nI r9) m2 m3 m4 m5 (nI n9) (nI v) m6 k1 k2 k3 k4 m7 k5 k6 k7 k8 m8 m9 m10 k9 m11 m12 m13 hv, kI cI m2 9 ro, kI cI m3 9 re, kI cI m4 9 rn, kI cI m5 27 rg, kI cI m6 12 ea, kI cI m8 2400 fw, kI cI m9 32 nf, kI cI m10 4 na] (fun (r : Int32) (u : (Nat → Int32) × (Nat → Int32)) => (FD fw u.1 r) ∧ (LSI (gM n9 v ea) (rMd r9 ro re rn rg) fw u.1 d0 a b r9 r) ∧ (SDn 4 u.2)) (fun (u : (Nat → Int32) × (Nat → Int32)) => [kX7 m0 (nI z) m1 (nI r9) m2 m3 m4 m5 (nI n9) (nI v) m6 k1 k2 k3 k4 m7 k5 k6 k7 k8 m8 m9 m10 k9 m11 m12 m13 hv, kI cI m2 9 ro, kI cI m3 9 re, kI cI m4 9 rn, kI cI m5 27 rg, kI cI m6 12 ea, kI cI m8 2400 u.1, kI cI m9 32 nf, kI cI m10 4 u.2]) := by
  refine CTi.of (ty := .boolean) (by decide) (Nat.le_of_ble_eq_true rfl) rfl ?_
  intro p e s m below meth c A Q ls hd hin hK hsz hP hD hA hS hl hret
  obtain ⟨hx, hb, hml, hown, hts⟩ := id hd
  have hK1 := hK.1
  have hown : s.vm.findClass RX7 = some m.cls := hown
  have hl : lv_has ls 8 [(0, .ref m0), (1, .int (nI a)), (2, .int (nI b)), (3, .int (nI d0))] := hl
  have hM9 : zM9 = 1000000 := rfl
  have h32 := pow_le5 hn5
  have hd32 : d0 < 32 := by omega
  have hW := rM_wf hMQ
  refine lv_iconst (v := 0) hx hb dX7_laySingles_0 (by decide) ?_
  refine lv_istore (lv' := [(4, .int 0), (0, .ref m0), (1, .int (nI a)), (2, .int (nI b)), (3, .int (nI d0))]) hx hb dX7_laySingles_1 hl (by decide) rfl (fun ls hl => ?_)
  refine lv_aload_n hx hb dX7_laySingles_3 rfl (lv_at hl 1 rfl) ?_
  refine va_get (D := D) (ci := 7) (v := .ref m10) (C := RX7) (T := TX7) (N := 27) hx hb hts iT_X7 hown hK1 hP 0 rfl rfl 21 (by decide) (hts _ t_572) (fun _ h9 => h9) rfl dX7_laySingles_4 ?_
  refine lv_iconst (v := 0) hx hb dX7_laySingles_7 (by decide) ?_
  refine lv_iload_n hx hb dX7_laySingles_8 rfl (lv_at hl 2 rfl) ?_
  refine va_iast hx hb hK1 hP hD hS 8 0 rfl rfl (vin (by decide)) dX7_laySingles_9 (fun H locs hP hD hS => ?_)
  have hP : va_P D vwCl [kX7 m0 (nI z) m1 (nI r9) m2 m3 m4 m5 (nI n9) (nI v) m6 k1 k2 k3 k4 m7 k5 k6 k7 k8 m8 m9 m10 k9 m11 m12 m13 hv, kI cI m2 9 ro, kI cI m3 9 re, kI cI m4 9 rn, kI cI m5 27 rg, kI cI m6 12 ea, kI cI m8 2400 fw, kI cI m9 32 nf, kI cI m10 4 (upd na 0 (nI a))] H := hP
  have hD : va_D A [kX7 m0 (nI z) m1 (nI r9) m2 m3 m4 m5 (nI n9) (nI v) m6 k1 k2 k3 k4 m7 k5 k6 k7 k8 m8 m9 m10 k9 m11 m12 m13 hv, kI cI m2 9 ro, kI cI m3 9 re, kI cI m4 9 rn, kI cI m5 27 rg, kI cI m6 12 ea, kI cI m8 2400 fw, kI cI m9 32 nf, kI cI m10 4 (upd na 0 (nI a))] := hD
  refine lv_aload_n hx hb dX7_laySingles_10 rfl (lv_at hl 1 rfl) ?_
  refine va_get (D := D) (ci := 7) (v := .ref m10) (C := RX7) (T := TX7) (N := 27) hx hb hts iT_X7 hown hK1 hP 0 rfl rfl 21 (by decide) (hts _ t_572) (fun _ h9 => h9) rfl dX7_laySingles_11 ?_
  refine lv_iconst (v := 1) hx hb dX7_laySingles_14 (by decide) ?_
  refine lv_iload_n hx hb dX7_laySingles_15 rfl (lv_at hl 3 rfl) ?_
  refine va_iast hx hb hK1 hP hD hS 8 0 rfl rfl (vin (by decide)) dX7_laySingles_16 (fun H locs hP hD hS => ?_)
  have hP : va_P D vwCl [kX7 m0 (nI z) m1 (nI r9) m2 m3 m4 m5 (nI n9) (nI v) m6 k1 k2 k3 k4 m7 k5 k6 k7 k8 m8 m9 m10 k9 m11 m12 m13 hv, kI cI m2 9 ro, kI cI m3 9 re, kI cI m4 9 rn, kI cI m5 27 rg, kI cI m6 12 ea, kI cI m8 2400 fw, kI cI m9 32 nf, kI cI m10 4 (upd (upd na 0 (nI a)) 1 (nI b))] H := hP
  have hD : va_D A [kX7 m0 (nI z) m1 (nI r9) m2 m3 m4 m5 (nI n9) (nI v) m6 k1 k2 k3 k4 m7 k5 k6 k7 k8 m8 m9 m10 k9 m11 m12 m13 hv, kI cI m2 9 ro, kI cI m3 9 re, kI cI m4 9 rn, kI cI m5 27 rg, kI cI m6 12 ea, kI cI m8 2400 fw, kI cI m9 32 nf, kI cI m10 4 (upd (upd na 0 (nI a)) 1 (nI b))] := hD
  refine lv_iconst (v := 0) hx hb dX7_laySingles_17 (by decide) ?_
  refine lv_istore (lv' := [(5, .int 0), (4, .int 0), (0, .ref m0), (1, .int (nI a)), (2, .int (nI b)), (3, .int (nI d0))]) hx hb dX7_laySingles_18 hl (by decide) rfl (fun ls hl => ?_)
  have LOOP_20 : ∀ (n : Nat) (i : Nat) (gs : Int32) (gx : Nat → Int32), (i + n = r9) → (FD fw gx gs) → (LSI (gM n9 v ea) (rMd r9 ro re rn rg) fw gx d0 a b i gs) → ∀ (H : Heap) (locs : List Loc) (ls : Array Slot), va_P D vwCl [kX7 m0 (nI z) m1 (nI r9) m2 m3 m4 m5 (nI n9) (nI v) m6 k1 k2 k3 k4 m7 k5 k6 k7 k8 m8 m9 m10 k9 m11 m12 m13 hv, kI cI m2 9 ro, kI cI m3 9 re, kI cI m4 9 rn, kI cI m5 27 rg, kI cI m6 12 ea, kI cI m8 2400 gx, kI cI m9 32 nf, kI cI m10 4 (upd (upd na 0 (nI a)) 1 (nI b))] H → va_D A [kX7 m0 (nI z) m1 (nI r9) m2 m3 m4 m5 (nI n9) (nI v) m6 k1 k2 k3 k4 m7 k5 k6 k7 k8 m8 m9 m10 k9 m11 m12 m13 hv, kI cI m2 9 ro, kI cI m3 9 re, kI cI m4 9 rn, kI cI m5 27 rg, kI cI m6 12 ea, kI cI m8 2400 gx, kI cI m9 32 nf, kI cI m10 4 (upd (upd na 0 (nI a)) 1 (nI b))] → va_S A s.heap H locs → lv_has ls 8 [(0, .ref m0), (1, .int (nI a)), (2, .int (nI b)), (3, .int (nI d0)), (4, .int gs), (5, .int (nI i))] → W p l e (rM 3 0 0 72) s m ([.ref m0, .int (nI a), .int (nI b), .int (nI d0)] : List Value).toArray below meth c H locs 0 0 Q (F0 m 20 ls []) := by
    intro n
    induction n with
    | zero =>
      intro i gs gx hi hFD hLS H locs ls hP hD hS hl
      refine lv_iload hx hb dX7_laySingles_20 (lv_at hl 5 rfl) ?_
      refine lv_aload_n hx hb dX7_laySingles_22 rfl (lv_at hl 0 rfl) ?_
      refine va_get (D := D) (ci := 7) (v := .int (nI r9)) (C := RX7) (T := TX7) (N := 27) hx hb hts iT_X7 hown hK1 hP 0 rfl rfl 2 (by decide) (hts _ t_553) (fun _ h9 => h9) rfl dX7_laySingles_23 ?_
      refine lv_icmp_ge (tgt := 140) hx hb dX7_laySingles_26 (by decide) (fun c_1 => ?_) (fun c_1 => ?_)
      rotate_left
      · exact absurd (nI_le (a := r9) (b := i) (by omega) (by omega)) c_1
      refine lv_iload hx hb dX7_laySingles_140 (lv_at hl 4 rfl) ?_
      exact hret _ _ _ _ _ _ gs (gx, upd (upd na 0 (nI a)) 1 (nI b)) dX7_laySingles_142 (hFD.nar) hS (Nat.le_of_ble_eq_true rfl) (Nat.le_of_ble_eq_true rfl) ⟨hFD, (show i = r9 by omega) ▸ hLS, (SDn_u (SDn_u hsd (by omega)) (by omega))⟩ (hP.sub [0, 1, 2, 3, 4, 5, 6, 7, 8] rfl) (hD.sub [0, 1, 2, 3, 4, 5, 6, 7, 8] rfl rfl)
    | succ n ih_20 =>
      intro i gs gx hi hFD hLS H locs ls hP hD hS hl
      refine lv_iload hx hb dX7_laySingles_20 (lv_at hl 5 rfl) ?_
      refine lv_aload_n hx hb dX7_laySingles_22 rfl (lv_at hl 0 rfl) ?_
      refine va_get (D := D) (ci := 7) (v := .int (nI r9)) (C := RX7) (T := TX7) (N := 27) hx hb hts iT_X7 hown hK1 hP 0 rfl rfl 2 (by decide) (hts _ t_553) (fun _ h9 => h9) rfl dX7_laySingles_23 ?_
      refine lv_icmp_ge (tgt := 140) hx hb dX7_laySingles_26 (by decide) (fun c_2 => ?_) (fun c_2 => ?_)
      · exact absurd c_2 (nI_ge (a := i) (b := r9) (by omega) (by omega))
      refine lv_iload_n hx hb dX7_laySingles_29 rfl (lv_at hl 1 rfl) ?_
      refine lv_iload_n hx hb dX7_laySingles_30 rfl (lv_at hl 2 rfl) ?_
      refine lv_icmp_eq (tgt := 140) hx hb dX7_laySingles_31 (by decide) (fun c_3 => ?_) (fun c_3 => ?_)
      · skip
        refine lv_iload hx hb dX7_laySingles_140 (lv_at hl 4 rfl) ?_
        exact hret _ _ _ _ _ _ gs (gx, upd (upd na 0 (nI a)) 1 (nI b)) dX7_laySingles_142 (hFD.nar) hS (Nat.le_of_ble_eq_true rfl) (Nat.le_of_ble_eq_true rfl) ⟨hFD, LSI_x ((nI_eq (by omega) (by omega)).mp c_3) hLS, (SDn_u (SDn_u hsd (by omega)) (by omega))⟩ (hP.sub [0, 1, 2, 3, 4, 5, 6, 7, 8] rfl) (hD.sub [0, 1, 2, 3, 4, 5, 6, 7, 8] rfl rfl)
      · skip
        have hMJ := MRQ_at hMQ (show i < r9 by omega)
        obtain ⟨eo9, ho9, ee9, he1, he3, ew9, hw2, hw4, hWf, hw1⟩ := id hMJ
        have hst : ¬ a = b := fun q => c_3 (by rw [q])
        obtain ⟨x1, h1a, h1b, h1c, ex1, xl1, xf1, xt1⟩ := MJE_e (MJ_e hMJ) (show 0 < yS (rMd r9 ro re rn rg) i by omega)
        have ex1 : rg (3 * i) = nI x1 := ex1
        refine lv_aload_n hx hb dX7_laySingles_34 rfl (lv_at hl 0 rfl) ?_
        refine va_get (D := D) (ci := 7) (v := .ref m3) (C := RX7) (T := TX7) (N := 27) hx hb hts iT_X7 hown hK1 hP 0 rfl rfl 4 (by decide) (hts _ t_555) (fun _ h9 => h9) rfl dX7_laySingles_35 ?_
        refine lv_iload hx hb dX7_laySingles_38 (lv_at hl 5 rfl) ?_
        refine va_iald hx hb hK1 hP 2 0 rfl rfl (vp_in_nI (by omega) (by omega)) dX7_laySingles_40 ?_
        refine lv_nmi (show _ = re i from by rw [nI_clamp (n := i) (by omega)]) ?_
        refine lv_nmi (show _ = (nI (yS (rMd r9 ro re rn rg) i) : Int32) from ee9) ?_
        refine lv_iconst (v := 1) hx hb dX7_laySingles_41 (by decide) ?_
        refine lv_icmp_ne (tgt := 134) hx hb dX7_laySingles_42 (by decide) (fun c_4 => ?_) (fun c_4 => ?_)
        · skip
          refine lv_iinc (v := nI (i + 1)) (lv' := [(5, .int (nI (i + 1))), (0, .ref m0), (1, .int (nI a)), (2, .int (nI b)), (3, .int (nI d0)), (4, .int gs)]) hx hb dX7_laySingles_134 hl (k := 5) rfl (nI_1 i) (by decide) rfl (fun ls hl => ?_)
          refine lv_goto (tgt := 20) hx hb dX7_laySingles_137 (by decide) ?_
          exact ih_20 (i + 1) gs gx (by omega) hFD (LSI_k (fun q => c_4 (by rw [q]; rfl)) hLS) _ _ _ (hP.sub [0, 1, 2, 3, 4, 5, 6, 7, 8] rfl) (hD.sub [0, 1, 2, 3, 4, 5, 6, 7, 8] rfl rfl) hS (lv_sub hl [1, 2, 3, 4, 5, 0] rfl)
        · skip
          have hs1 : yS (rMd r9 ro re rn rg) i = 1 := (nI_eq (b := 1) (by omega) (by decide)).mp c_4
          have hwf2 := hWf 0 (by omega)
          have hw22 := hw1 hs1
          refine lv_aload_n hx hb dX7_laySingles_45 rfl (lv_at hl 0 rfl) ?_
          refine lv_aload_n hx hb dX7_laySingles_46 rfl (lv_at hl 0 rfl) ?_
          refine va_get (D := D) (ci := 7) (v := .ref m2) (C := RX7) (T := TX7) (N := 27) hx hb hts iT_X7 hown hK1 hP 0 rfl rfl 3 (by decide) (hts _ t_554) (fun _ h9 => h9) rfl dX7_laySingles_47 ?_
          refine lv_iload hx hb dX7_laySingles_50 (lv_at hl 5 rfl) ?_
          refine va_iald hx hb hK1 hP 1 0 rfl rfl (vp_in_nI (by omega) (by omega)) dX7_laySingles_52 ?_
          refine lv_nmi (show _ = ro i from by rw [nI_clamp (n := i) (by omega)]) ?_
          refine lv_nmi (show _ = (nI (yO (rMd r9 ro re rn rg) i) : Int32) from eo9) ?_
          refine lv_iload_n hx hb dX7_laySingles_53 rfl (lv_at hl 1 rfl) ?_
          refine lv_iload_n hx hb dX7_laySingles_54 rfl (lv_at hl 2 rfl) ?_
          refine lv_iload_n hx hb dX7_laySingles_55 rfl (lv_at hl 3 rfl) ?_
          refine xc_i (wc := [kX7 m0 (nI z) m1 (nI r9) m2 m3 m4 m5 (nI n9) (nI v) m6 k1 k2 k3 k4 m7 k5 k6 k7 k8 m8 m9 m10 k9 m11 m12 m13 hv]) (wr := [kI cI m2 9 ro, kI cI m3 9 re, kI cI m4 9 rn, kI cI m5 27 rg, kI cI m6 12 ea, kI cI m8 2400 gx, kI cI m9 32 nf, kI cI m10 4 (upd (upd na 0 (nI a)) 1 (nI b))]) (xrV (n := 4) (As := [.int (nI (yO (rMd r9 ro re rn rg) i)), .int (nI a), .int (nI b), .int (nI d0)]) (rest := []) (ci := 7) (q0 := 0) hd hK hP hD (c_X7_at l D cI cJ cZ cR _ m0 m1 m2 m3 m4 m5 m6 m7 m8 m9 m10 m11 m12 m13 z r9 n9 v k1 k2 k3 k4 k5 k6 k7 k8 k9 hv (yO (rMd r9 ro re rn rg) i) a b d0 ) (gV t_777 mV_X7_at) hV_X7_at ⟨(Nat.le_of_ble_eq_true rfl), (Nat.le_of_ble_eq_true rfl)⟩ rfl rfl [0] rfl rfl rfl hl.1 rfl (Nat.le_of_ble_eq_true rfl) dX7_laySingles_56 ⟨(Nat.le_of_ble_eq_true rfl), (Nat.le_of_ble_eq_true rfl)⟩) hP hD hS hA [0] [1, 2, 3, 4, 5, 6, 7, 8] rfl rfl rfl (by decide) (fun r_5 u_6 H locs hw_7 hP hD hS => ?_)
          have hw_8 : r_5 = (nI (((((((yO (rMd r9 ro re rn rg) i) * 5) + a) * 5) + b) * 32) + d0)) := hw_7
          subst hw_8
          have hP : va_P D vwCl [kI cI m2 9 ro, kI cI m3 9 re, kI cI m4 9 rn, kI cI m5 27 rg, kI cI m6 12 ea, kI cI m8 2400 gx, kI cI m9 32 nf, kI cI m10 4 (upd (upd na 0 (nI a)) 1 (nI b)), kX7 m0 (nI z) m1 (nI r9) m2 m3 m4 m5 (nI n9) (nI v) m6 k1 k2 k3 k4 m7 k5 k6 k7 k8 m8 m9 m10 k9 m11 m12 m13 hv] H := hP
          have hD : va_D A [kI cI m2 9 ro, kI cI m3 9 re, kI cI m4 9 rn, kI cI m5 27 rg, kI cI m6 12 ea, kI cI m8 2400 gx, kI cI m9 32 nf, kI cI m10 4 (upd (upd na 0 (nI a)) 1 (nI b)), kX7 m0 (nI z) m1 (nI r9) m2 m3 m4 m5 (nI n9) (nI v) m6 k1 k2 k3 k4 m7 k5 k6 k7 k8 m8 m9 m10 k9 m11 m12 m13 hv] := hD
          refine lv_istore (lv' := [(6, .int (nI (((((((yO (rMd r9 ro re rn rg) i) * 5) + a) * 5) + b) * 32) + d0))), (0, .ref m0), (1, .int (nI a)), (2, .int (nI b)), (3, .int (nI d0)), (4, .int gs), (5, .int (nI i))]) hx hb dX7_laySingles_59 hl (by decide) rfl (fun ls hl => ?_)
          refine lv_aload_n hx hb dX7_laySingles_61 rfl (lv_at hl 1 rfl) ?_
          refine lv_aload_n hx hb dX7_laySingles_62 rfl (lv_at hl 1 rfl) ?_
          refine va_get (D := D) (ci := 7) (v := .ref m5) (C := RX7) (T := TX7) (N := 27) hx hb hts iT_X7 hown hK1 hP 8 rfl rfl 6 (by decide) (hts _ t_557) (fun _ h9 => h9) rfl dX7_laySingles_63 ?_
          refine lv_iconst (v := 3) hx hb dX7_laySingles_66 (by decide) ?_
          refine lv_iload hx hb dX7_laySingles_67 (lv_at hl 6 rfl) ?_
          refine lv_imul hx hb dX7_laySingles_69 ?_
          refine lv_nmi (show _ = (nI (3 * i)) from pk_mul (3) (i)) ?_
          refine va_iald hx hb hK1 hP 3 0 rfl rfl (vp_in_nI (by omega) (by omega)) dX7_laySingles_70 ?_
          refine lv_nmi (show _ = rg (3 * i) from by rw [nI_clamp (n := (3 * i)) (by omega)]) ?_
          refine lv_nmi (show _ = (nI x1 : Int32) from ex1) ?_
          refine lv_iload_n hx hb dX7_laySingles_71 rfl (lv_at hl 4 rfl) ?_
          refine xc_i (wc := [kX7 m0 (nI z) m1 (nI r9) m2 m3 m4 m5 (nI n9) (nI v) m6 k1 k2 k3 k4 m7 k5 k6 k7 k8 m8 m9 m10 k9 m11 m12 m13 hv, kI cI m6 12 ea, kI cI m8 2400 gx, kI cI m10 4 (upd (upd na 0 (nI a)) 1 (nI b))]) (wr := [kI cI m2 9 ro, kI cI m3 9 re, kI cI m4 9 rn, kI cI m5 27 rg, kI cI m9 32 nf]) (xrV (n := 2) (As := [.int (nI x1), .int (nI d0)]) (rest := []) (ci := 7) (q0 := 8) hd hK hP hD (c_X7_stepsFor l D cI cJ cZ cR _ m0 m1 m2 m3 m4 m5 m6 m7 m8 m9 m10 m11 m12 m13 z r9 n9 v k1 k2 k3 k4 k5 k6 k7 k8 k9 hv ea gx (upd (upd na 0 (nI a)) 1 (nI b)) x1 d0 hFD.1 hn5 hv5 hEA (SDn_u (SDn_u hsd (by omega)) (by omega)) h1a h1b h1c hd32) (gV t_794 mV_X7_stepsFor) hV_X7_stepsFor ⟨(Nat.le_of_ble_eq_true rfl), (Nat.le_of_ble_eq_true rfl)⟩ rfl rfl [8, 4, 5, 7] rfl rfl rfl hl.1 rfl (Nat.le_of_ble_eq_true rfl) dX7_laySingles_72 ⟨(Nat.le_of_ble_eq_true rfl), (Nat.le_of_ble_eq_true rfl)⟩) hP hD hS hA [8, 4, 5, 7] [0, 1, 2, 3, 6] rfl rfl rfl (by decide) (fun r_9 u_10 H locs hw_11 hP hD hS => ?_)
          obtain ⟨q_12, rfl⟩ : ∃ z9, z9 = u_10 := ⟨_, rfl⟩
          obtain ⟨hw_13, hw_14⟩ : (r_9 = (nI q_12)) ∧ (zLs zM9 (zSv (gM n9 v ea) (TD zM9 (trb gx)) (x1 / 100) d0 (tn ((upd (upd na 0 (nI a)) 1 (nI b)) (x1 / 10 % 10))) (tn ((upd (upd na 0 (nI a)) 1 (nI b)) (x1 % 10)))) q_12) := hw_11
          subst hw_13
          have hq := hw_14
          rw [← xl1, ← xf1, ← xt1, na_dd (by omega) (by omega) (by omega), na_dd (by omega) (by omega) (by omega)] at hq
          have hq9 := hq.1
          have hP : va_P D vwCl [kI cI m2 9 ro, kI cI m3 9 re, kI cI m4 9 rn, kI cI m5 27 rg, kI cI m9 32 nf, kX7 m0 (nI z) m1 (nI r9) m2 m3 m4 m5 (nI n9) (nI v) m6 k1 k2 k3 k4 m7 k5 k6 k7 k8 m8 m9 m10 k9 m11 m12 m13 hv, kI cI m6 12 ea, kI cI m8 2400 gx, kI cI m10 4 (upd (upd na 0 (nI a)) 1 (nI b))] H := hP
          have hD : va_D A [kI cI m2 9 ro, kI cI m3 9 re, kI cI m4 9 rn, kI cI m5 27 rg, kI cI m9 32 nf, kX7 m0 (nI z) m1 (nI r9) m2 m3 m4 m5 (nI n9) (nI v) m6 k1 k2 k3 k4 m7 k5 k6 k7 k8 m8 m9 m10 k9 m11 m12 m13 hv, kI cI m6 12 ea, kI cI m8 2400 gx, kI cI m10 4 (upd (upd na 0 (nI a)) 1 (nI b))] := hD
          refine lv_iconst (v := 1) hx hb dX7_laySingles_75 (by decide) ?_
          refine lv_iadd hx hb dX7_laySingles_76 ?_
          refine lv_nmi (show _ = (nI (q_12 + 1)) from nI_add (q_12) (1)) ?_
          refine lv_istore (lv' := [(7, .int (nI (q_12 + 1))), (6, .int (nI (((((((yO (rMd r9 ro re rn rg) i) * 5) + a) * 5) + b) * 32) + d0))), (0, .ref m0), (1, .int (nI a)), (2, .int (nI b)), (3, .int (nI d0)), (4, .int gs), (5, .int (nI i))]) hx hb dX7_laySingles_77 hl (by decide) rfl (fun ls hl => ?_)
          refine lv_iload hx hb dX7_laySingles_79 (lv_at hl 6 rfl) ?_
          refine lv_if_ne (tgt := 96) hx hb dX7_laySingles_81 (by decide) (fun c_15 => ?_) (fun c_15 => ?_)
          · skip
            refine lv_iconst (v := 1) hx hb dX7_laySingles_96 (by decide) ?_
            refine lv_goto (tgt := 101) hx hb dX7_laySingles_97 (by decide) ?_
            refine lv_istore (lv' := [(4, .int 1), (7, .int (nI (q_12 + 1))), (6, .int (nI (((((((yO (rMd r9 ro re rn rg) i) * 5) + a) * 5) + b) * 32) + d0))), (0, .ref m0), (1, .int (nI a)), (2, .int (nI b)), (3, .int (nI d0)), (5, .int (nI i))]) hx hb dX7_laySingles_101 hl (by decide) rfl (fun ls hl => ?_)
            refine lv_aload_n hx hb dX7_laySingles_103 rfl (lv_at hl 3 rfl) ?_
            refine va_get (D := D) (ci := 7) (v := .ref m8) (C := RX7) (T := TX7) (N := 27) hx hb hts iT_X7 hown hK1 hP 5 rfl rfl 19 (by decide) (hts _ t_570) (fun _ h9 => h9) rfl dX7_laySingles_104 ?_
            refine lv_iload hx hb dX7_laySingles_107 (lv_at hl 2 rfl) ?_
            refine lv_iload hx hb dX7_laySingles_109 (lv_at hl 1 rfl) ?_
            refine lv_aload_n hx hb dX7_laySingles_111 rfl (lv_at hl 3 rfl) ?_
            refine va_get (D := D) (ci := 7) (v := .ref m8) (C := RX7) (T := TX7) (N := 27) hx hb hts iT_X7 hown hK1 hP 5 rfl rfl 19 (by decide) (hts _ t_570) (fun _ h9 => h9) rfl dX7_laySingles_112 ?_
            refine lv_iload hx hb dX7_laySingles_115 (lv_at hl 2 rfl) ?_
            refine va_iald hx hb hK1 hP 7 0 rfl rfl (vp_in_nI (by omega) (by omega)) dX7_laySingles_117 ?_
            refine lv_nmi (show _ = gx (((((((yO (rMd r9 ro re rn rg) i) * 5) + a) * 5) + b) * 32) + d0) from by rw [nI_clamp (n := (((((((yO (rMd r9 ro re rn rg) i) * 5) + a) * 5) + b) * 32) + d0)) (by omega)]) ?_
            refine lv_icmp_ge (tgt := 126) hx hb dX7_laySingles_118 (by decide) (fun c_16 => ?_) (fun c_16 => ?_)
            · skip
              refine lv_aload_n hx hb dX7_laySingles_126 rfl (lv_at hl 3 rfl) ?_
              refine va_get (D := D) (ci := 7) (v := .ref m8) (C := RX7) (T := TX7) (N := 27) hx hb hts iT_X7 hown hK1 hP 5 rfl rfl 19 (by decide) (hts _ t_570) (fun _ h9 => h9) rfl dX7_laySingles_127 ?_
              refine lv_iload hx hb dX7_laySingles_130 (lv_at hl 2 rfl) ?_
              refine va_iald hx hb hK1 hP 7 0 rfl rfl (vp_in_nI (by omega) (by omega)) dX7_laySingles_132 ?_
              refine lv_nmi (show _ = gx (((((((yO (rMd r9 ro re rn rg) i) * 5) + a) * 5) + b) * 32) + d0) from by rw [nI_clamp (n := (((((((yO (rMd r9 ro re rn rg) i) * 5) + a) * 5) + b) * 32) + d0)) (by omega)]) ?_
              refine va_iast hx hb hK1 hP hD hS 7 0 rfl rfl (vp_in_nI (by omega) (by omega)) dX7_laySingles_133 (fun H locs hP hD hS => ?_)
              rw [nI_clamp (n := (((((((yO (rMd r9 ro re rn rg) i) * 5) + a) * 5) + b) * 32) + d0)) (by omega)] at hP hD
              have hP : va_P D vwCl [kI cI m2 9 ro, kI cI m3 9 re, kI cI m4 9 rn, kI cI m5 27 rg, kI cI m9 32 nf, kX7 m0 (nI z) m1 (nI r9) m2 m3 m4 m5 (nI n9) (nI v) m6 k1 k2 k3 k4 m7 k5 k6 k7 k8 m8 m9 m10 k9 m11 m12 m13 hv, kI cI m6 12 ea, kI cI m8 2400 (upd gx (((((((yO (rMd r9 ro re rn rg) i) * 5) + a) * 5) + b) * 32) + d0) (gx (((((((yO (rMd r9 ro re rn rg) i) * 5) + a) * 5) + b) * 32) + d0))), kI cI m10 4 (upd (upd na 0 (nI a)) 1 (nI b))] H := hP
              have hD : va_D A [kI cI m2 9 ro, kI cI m3 9 re, kI cI m4 9 rn, kI cI m5 27 rg, kI cI m9 32 nf, kX7 m0 (nI z) m1 (nI r9) m2 m3 m4 m5 (nI n9) (nI v) m6 k1 k2 k3 k4 m7 k5 k6 k7 k8 m8 m9 m10 k9 m11 m12 m13 hv, kI cI m6 12 ea, kI cI m8 2400 (upd gx (((((((yO (rMd r9 ro re rn rg) i) * 5) + a) * 5) + b) * 32) + d0) (gx (((((((yO (rMd r9 ro re rn rg) i) * 5) + a) * 5) + b) * 32) + d0))), kI cI m10 4 (upd (upd na 0 (nI a)) 1 (nI b))] := hD
              refine lv_iinc (v := nI (i + 1)) (lv' := [(5, .int (nI (i + 1))), (4, .int 1), (7, .int (nI (q_12 + 1))), (6, .int (nI (((((((yO (rMd r9 ro re rn rg) i) * 5) + a) * 5) + b) * 32) + d0))), (0, .ref m0), (1, .int (nI a)), (2, .int (nI b)), (3, .int (nI d0))]) hx hb dX7_laySingles_134 hl (k := 7) rfl (nI_1 i) (by decide) rfl (fun ls hl => ?_)
              refine lv_goto (tgt := 20) hx hb dX7_laySingles_137 (by decide) ?_
              exact ih_20 (i + 1) 1 (upd gx (((((((yO (rMd r9 ro re rn rg) i) * 5) + a) * 5) + b) * 32) + d0) (gx (((((((yO (rMd r9 ro re rn rg) i) * 5) + a) * 5) + b) * 32) + d0))) (by omega) (by rw [updi_self]; exact FD_2 hFD (FD_no hFD.1) c_15) (by rw [updi_self]; exact LSI_n (fun z => absurd z (by decide)) hq (fw_le hFD.1 (by omega) (by omega) c_16) hLS) _ _ _ (hP.sub [5, 0, 1, 2, 3, 6, 7, 4, 8] rfl) (hD.sub [5, 0, 1, 2, 3, 6, 7, 4, 8] rfl rfl) hS (lv_sub hl [4, 5, 6, 7, 1, 0] rfl)
            · skip
              refine lv_iload hx hb dX7_laySingles_121 (lv_at hl 1 rfl) ?_
              refine lv_goto (tgt := 133) hx hb dX7_laySingles_123 (by decide) ?_
              refine va_iast hx hb hK1 hP hD hS 7 0 rfl rfl (vp_in_nI (by omega) (by omega)) dX7_laySingles_133 (fun H locs hP hD hS => ?_)
              rw [nI_clamp (n := (((((((yO (rMd r9 ro re rn rg) i) * 5) + a) * 5) + b) * 32) + d0)) (by omega)] at hP hD
              have hP : va_P D vwCl [kI cI m2 9 ro, kI cI m3 9 re, kI cI m4 9 rn, kI cI m5 27 rg, kI cI m9 32 nf, kX7 m0 (nI z) m1 (nI r9) m2 m3 m4 m5 (nI n9) (nI v) m6 k1 k2 k3 k4 m7 k5 k6 k7 k8 m8 m9 m10 k9 m11 m12 m13 hv, kI cI m6 12 ea, kI cI m8 2400 (upd gx (((((((yO (rMd r9 ro re rn rg) i) * 5) + a) * 5) + b) * 32) + d0) (nI (q_12 + 1))), kI cI m10 4 (upd (upd na 0 (nI a)) 1 (nI b))] H := hP
              have hD : va_D A [kI cI m2 9 ro, kI cI m3 9 re, kI cI m4 9 rn, kI cI m5 27 rg, kI cI m9 32 nf, kX7 m0 (nI z) m1 (nI r9) m2 m3 m4 m5 (nI n9) (nI v) m6 k1 k2 k3 k4 m7 k5 k6 k7 k8 m8 m9 m10 k9 m11 m12 m13 hv, kI cI m6 12 ea, kI cI m8 2400 (upd gx (((((((yO (rMd r9 ro re rn rg) i) * 5) + a) * 5) + b) * 32) + d0) (nI (q_12 + 1))), kI cI m10 4 (upd (upd na 0 (nI a)) 1 (nI b))] := hD
              refine lv_iinc (v := nI (i + 1)) (lv' := [(5, .int (nI (i + 1))), (4, .int 1), (7, .int (nI (q_12 + 1))), (6, .int (nI (((((((yO (rMd r9 ro re rn rg) i) * 5) + a) * 5) + b) * 32) + d0))), (0, .ref m0), (1, .int (nI a)), (2, .int (nI b)), (3, .int (nI d0))]) hx hb dX7_laySingles_134 hl (k := 7) rfl (nI_1 i) (by decide) rfl (fun ls hl => ?_)
              refine lv_goto (tgt := 20) hx hb dX7_laySingles_137 (by decide) ?_
              exact ih_20 (i + 1) 1 (upd gx (((((((yO (rMd r9 ro re rn rg) i) * 5) + a) * 5) + b) * 32) + d0) (nI (q_12 + 1))) (by omega) (FD_2 hFD (FD_yes hFD.1 (by omega) (by omega) c_16) c_15) (LSI_y hW hv5 hFD.1 (show i < r9 by omega) hs1 hst (by omega) hd32 hav hbv hq (fw_lt hFD.1 (by omega) (by omega) c_16) hLS) _ _ _ (hP.sub [5, 0, 1, 2, 3, 6, 7, 4, 8] rfl) (hD.sub [5, 0, 1, 2, 3, 6, 7, 4, 8] rfl rfl) hS (lv_sub hl [4, 5, 6, 7, 1, 0] rfl)
          · skip
            refine lv_iload hx hb dX7_laySingles_84 (lv_at hl 0 rfl) ?_
            refine lv_aload_n hx hb dX7_laySingles_86 rfl (lv_at hl 2 rfl) ?_
            refine va_get (D := D) (ci := 7) (v := .ref m8) (C := RX7) (T := TX7) (N := 27) hx hb hts iT_X7 hown hK1 hP 5 rfl rfl 19 (by decide) (hts _ t_570) (fun _ h9 => h9) rfl dX7_laySingles_87 ?_
            refine lv_iload hx hb dX7_laySingles_90 (lv_at hl 1 rfl) ?_
            refine va_iald hx hb hK1 hP 7 0 rfl rfl (vp_in_nI (by omega) (by omega)) dX7_laySingles_92 ?_
            refine lv_nmi (show _ = gx (((((((yO (rMd r9 ro re rn rg) i) * 5) + a) * 5) + b) * 32) + d0) from by rw [nI_clamp (n := (((((((yO (rMd r9 ro re rn rg) i) * 5) + a) * 5) + b) * 32) + d0)) (by omega)]) ?_
            refine lv_icmp_ge (tgt := 100) hx hb dX7_laySingles_93 (by decide) (fun c_17 => ?_) (fun c_17 => ?_)
            · skip
              refine lv_iconst (v := 0) hx hb dX7_laySingles_100 (by decide) ?_
              refine lv_istore (lv' := [(4, .int 0), (7, .int (nI (q_12 + 1))), (6, .int (nI (((((((yO (rMd r9 ro re rn rg) i) * 5) + a) * 5) + b) * 32) + d0))), (0, .ref m0), (1, .int (nI a)), (2, .int (nI b)), (3, .int (nI d0)), (5, .int (nI i))]) hx hb dX7_laySingles_101 hl (by decide) rfl (fun ls hl => ?_)
              refine lv_aload_n hx hb dX7_laySingles_103 rfl (lv_at hl 3 rfl) ?_
              refine va_get (D := D) (ci := 7) (v := .ref m8) (C := RX7) (T := TX7) (N := 27) hx hb hts iT_X7 hown hK1 hP 5 rfl rfl 19 (by decide) (hts _ t_570) (fun _ h9 => h9) rfl dX7_laySingles_104 ?_
              refine lv_iload hx hb dX7_laySingles_107 (lv_at hl 2 rfl) ?_
              refine lv_iload hx hb dX7_laySingles_109 (lv_at hl 1 rfl) ?_
              refine lv_aload_n hx hb dX7_laySingles_111 rfl (lv_at hl 3 rfl) ?_
              refine va_get (D := D) (ci := 7) (v := .ref m8) (C := RX7) (T := TX7) (N := 27) hx hb hts iT_X7 hown hK1 hP 5 rfl rfl 19 (by decide) (hts _ t_570) (fun _ h9 => h9) rfl dX7_laySingles_112 ?_
              refine lv_iload hx hb dX7_laySingles_115 (lv_at hl 2 rfl) ?_
              refine va_iald hx hb hK1 hP 7 0 rfl rfl (vp_in_nI (by omega) (by omega)) dX7_laySingles_117 ?_
              refine lv_nmi (show _ = gx (((((((yO (rMd r9 ro re rn rg) i) * 5) + a) * 5) + b) * 32) + d0) from by rw [nI_clamp (n := (((((((yO (rMd r9 ro re rn rg) i) * 5) + a) * 5) + b) * 32) + d0)) (by omega)]) ?_
              refine lv_icmp_ge (tgt := 126) hx hb dX7_laySingles_118 (by decide) (fun c_18 => ?_) (fun c_18 => ?_)
              rotate_left
              · exact absurd c_17 c_18
              refine lv_aload_n hx hb dX7_laySingles_126 rfl (lv_at hl 3 rfl) ?_
              refine va_get (D := D) (ci := 7) (v := .ref m8) (C := RX7) (T := TX7) (N := 27) hx hb hts iT_X7 hown hK1 hP 5 rfl rfl 19 (by decide) (hts _ t_570) (fun _ h9 => h9) rfl dX7_laySingles_127 ?_
              refine lv_iload hx hb dX7_laySingles_130 (lv_at hl 2 rfl) ?_
              refine va_iald hx hb hK1 hP 7 0 rfl rfl (vp_in_nI (by omega) (by omega)) dX7_laySingles_132 ?_
              refine lv_nmi (show _ = gx (((((((yO (rMd r9 ro re rn rg) i) * 5) + a) * 5) + b) * 32) + d0) from by rw [nI_clamp (n := (((((((yO (rMd r9 ro re rn rg) i) * 5) + a) * 5) + b) * 32) + d0)) (by omega)]) ?_
              refine va_iast hx hb hK1 hP hD hS 7 0 rfl rfl (vp_in_nI (by omega) (by omega)) dX7_laySingles_133 (fun H locs hP hD hS => ?_)
              rw [nI_clamp (n := (((((((yO (rMd r9 ro re rn rg) i) * 5) + a) * 5) + b) * 32) + d0)) (by omega)] at hP hD
              have hP : va_P D vwCl [kI cI m2 9 ro, kI cI m3 9 re, kI cI m4 9 rn, kI cI m5 27 rg, kI cI m9 32 nf, kX7 m0 (nI z) m1 (nI r9) m2 m3 m4 m5 (nI n9) (nI v) m6 k1 k2 k3 k4 m7 k5 k6 k7 k8 m8 m9 m10 k9 m11 m12 m13 hv, kI cI m6 12 ea, kI cI m8 2400 (upd gx (((((((yO (rMd r9 ro re rn rg) i) * 5) + a) * 5) + b) * 32) + d0) (gx (((((((yO (rMd r9 ro re rn rg) i) * 5) + a) * 5) + b) * 32) + d0))), kI cI m10 4 (upd (upd na 0 (nI a)) 1 (nI b))] H := hP
              have hD : va_D A [kI cI m2 9 ro, kI cI m3 9 re, kI cI m4 9 rn, kI cI m5 27 rg, kI cI m9 32 nf, kX7 m0 (nI z) m1 (nI r9) m2 m3 m4 m5 (nI n9) (nI v) m6 k1 k2 k3 k4 m7 k5 k6 k7 k8 m8 m9 m10 k9 m11 m12 m13 hv, kI cI m6 12 ea, kI cI m8 2400 (upd gx (((((((yO (rMd r9 ro re rn rg) i) * 5) + a) * 5) + b) * 32) + d0) (gx (((((((yO (rMd r9 ro re rn rg) i) * 5) + a) * 5) + b) * 32) + d0))), kI cI m10 4 (upd (upd na 0 (nI a)) 1 (nI b))] := hD
              refine lv_iinc (v := nI (i + 1)) (lv' := [(5, .int (nI (i + 1))), (4, .int 0), (7, .int (nI (q_12 + 1))), (6, .int (nI (((((((yO (rMd r9 ro re rn rg) i) * 5) + a) * 5) + b) * 32) + d0))), (0, .ref m0), (1, .int (nI a)), (2, .int (nI b)), (3, .int (nI d0))]) hx hb dX7_laySingles_134 hl (k := 7) rfl (nI_1 i) (by decide) rfl (fun ls hl => ?_)
              refine lv_goto (tgt := 20) hx hb dX7_laySingles_137 (by decide) ?_
              exact ih_20 (i + 1) 0 (upd gx (((((((yO (rMd r9 ro re rn rg) i) * 5) + a) * 5) + b) * 32) + d0) (gx (((((((yO (rMd r9 ro re rn rg) i) * 5) + a) * 5) + b) * 32) + d0))) (by omega) (by rw [updi_self]; exact FD_0 hFD) (by rw [updi_self]; exact LSI_n (fun _ => c_15) hq (fw_le hFD.1 (by omega) (by omega) c_17) hLS) _ _ _ (hP.sub [5, 0, 1, 2, 3, 6, 7, 4, 8] rfl) (hD.sub [5, 0, 1, 2, 3, 6, 7, 4, 8] rfl rfl) hS (lv_sub hl [4, 5, 6, 7, 1, 0] rfl)
            · skip
              refine lv_iconst (v := 1) hx hb dX7_laySingles_96 (by decide) ?_
              refine lv_goto (tgt := 101) hx hb dX7_laySingles_97 (by decide) ?_
              refine lv_istore (lv' := [(4, .int 1), (7, .int (nI (q_12 + 1))), (6, .int (nI (((((((yO (rMd r9 ro re rn rg) i) * 5) + a) * 5) + b) * 32) + d0))), (0, .ref m0), (1, .int (nI a)), (2, .int (nI b)), (3, .int (nI d0)), (5, .int (nI i))]) hx hb dX7_laySingles_101 hl (by decide) rfl (fun ls hl => ?_)
              refine lv_aload_n hx hb dX7_laySingles_103 rfl (lv_at hl 3 rfl) ?_
              refine va_get (D := D) (ci := 7) (v := .ref m8) (C := RX7) (T := TX7) (N := 27) hx hb hts iT_X7 hown hK1 hP 5 rfl rfl 19 (by decide) (hts _ t_570) (fun _ h9 => h9) rfl dX7_laySingles_104 ?_
              refine lv_iload hx hb dX7_laySingles_107 (lv_at hl 2 rfl) ?_
              refine lv_iload hx hb dX7_laySingles_109 (lv_at hl 1 rfl) ?_
              refine lv_aload_n hx hb dX7_laySingles_111 rfl (lv_at hl 3 rfl) ?_
              refine va_get (D := D) (ci := 7) (v := .ref m8) (C := RX7) (T := TX7) (N := 27) hx hb hts iT_X7 hown hK1 hP 5 rfl rfl 19 (by decide) (hts _ t_570) (fun _ h9 => h9) rfl dX7_laySingles_112 ?_
              refine lv_iload hx hb dX7_laySingles_115 (lv_at hl 2 rfl) ?_
              refine va_iald hx hb hK1 hP 7 0 rfl rfl (vp_in_nI (by omega) (by omega)) dX7_laySingles_117 ?_
              refine lv_nmi (show _ = gx (((((((yO (rMd r9 ro re rn rg) i) * 5) + a) * 5) + b) * 32) + d0) from by rw [nI_clamp (n := (((((((yO (rMd r9 ro re rn rg) i) * 5) + a) * 5) + b) * 32) + d0)) (by omega)]) ?_
              refine lv_icmp_ge (tgt := 126) hx hb dX7_laySingles_118 (by decide) (fun c_19 => ?_) (fun c_19 => ?_)
              · exact absurd c_19 c_17
              refine lv_iload hx hb dX7_laySingles_121 (lv_at hl 1 rfl) ?_
              refine lv_goto (tgt := 133) hx hb dX7_laySingles_123 (by decide) ?_
              refine va_iast hx hb hK1 hP hD hS 7 0 rfl rfl (vp_in_nI (by omega) (by omega)) dX7_laySingles_133 (fun H locs hP hD hS => ?_)
              rw [nI_clamp (n := (((((((yO (rMd r9 ro re rn rg) i) * 5) + a) * 5) + b) * 32) + d0)) (by omega)] at hP hD
              have hP : va_P D vwCl [kI cI m2 9 ro, kI cI m3 9 re, kI cI m4 9 rn, kI cI m5 27 rg, kI cI m9 32 nf, kX7 m0 (nI z) m1 (nI r9) m2 m3 m4 m5 (nI n9) (nI v) m6 k1 k2 k3 k4 m7 k5 k6 k7 k8 m8 m9 m10 k9 m11 m12 m13 hv, kI cI m6 12 ea, kI cI m8 2400 (upd gx (((((((yO (rMd r9 ro re rn rg) i) * 5) + a) * 5) + b) * 32) + d0) (nI (q_12 + 1))), kI cI m10 4 (upd (upd na 0 (nI a)) 1 (nI b))] H := hP
              have hD : va_D A [kI cI m2 9 ro, kI cI m3 9 re, kI cI m4 9 rn, kI cI m5 27 rg, kI cI m9 32 nf, kX7 m0 (nI z) m1 (nI r9) m2 m3 m4 m5 (nI n9) (nI v) m6 k1 k2 k3 k4 m7 k5 k6 k7 k8 m8 m9 m10 k9 m11 m12 m13 hv, kI cI m6 12 ea, kI cI m8 2400 (upd gx (((((((yO (rMd r9 ro re rn rg) i) * 5) + a) * 5) + b) * 32) + d0) (nI (q_12 + 1))), kI cI m10 4 (upd (upd na 0 (nI a)) 1 (nI b))] := hD
              refine lv_iinc (v := nI (i + 1)) (lv' := [(5, .int (nI (i + 1))), (4, .int 1), (7, .int (nI (q_12 + 1))), (6, .int (nI (((((((yO (rMd r9 ro re rn rg) i) * 5) + a) * 5) + b) * 32) + d0))), (0, .ref m0), (1, .int (nI a)), (2, .int (nI b)), (3, .int (nI d0))]) hx hb dX7_laySingles_134 hl (k := 7) rfl (nI_1 i) (by decide) rfl (fun ls hl => ?_)
              refine lv_goto (tgt := 20) hx hb dX7_laySingles_137 (by decide) ?_
              exact ih_20 (i + 1) 1 (upd gx (((((((yO (rMd r9 ro re rn rg) i) * 5) + a) * 5) + b) * 32) + d0) (nI (q_12 + 1))) (by omega) (FD_r hFD (FD_yes hFD.1 (by omega) (by omega) c_17) (by decide)) (LSI_y hW hv5 hFD.1 (show i < r9 by omega) hs1 hst (by omega) hd32 hav hbv hq (fw_lt hFD.1 (by omega) (by omega) c_17) hLS) _ _ _ (hP.sub [5, 0, 1, 2, 3, 6, 7, 4, 8] rfl) (hD.sub [5, 0, 1, 2, 3, 6, 7, 4, 8] rfl rfl) hS (lv_sub hl [4, 5, 6, 7, 1, 0] rfl)
  exact LOOP_20 r9 0 0 fw (by omega) (FD_no hFW) (LSI_0 hSn) _ _ _ (hP.sub [0, 1, 2, 3, 4, 5, 6, 7, 8] rfl) (hD.sub [0, 1, 2, 3, 4, 5, 6, 7, 8] rfl rfl) hS (lv_sub hl [2, 3, 4, 5, 1, 0] rfl)
set_option maxHeartbeats 4000000 in
set_option maxRecDepth 100000 in
theorem c_X7_laySet (sz : Nat) (m0 : Nat) (m1 : Nat) (m2 : Nat) (m3 : Nat) (m4 : Nat) (m5 : Nat) (m6 : Nat) (m7 : Nat) (m8 : Nat) (m9 : Nat) (m10 : Nat) (m11 : Nat) (m12 : Nat) (m13 : Nat) (z : Nat) (r9 : Nat) (n9 : Nat) (v : Nat) (k1 : Int32) (k2 : Int32) (k3 : Int32) (k4 : Int32) (k5 : Int32) (k6 : Int32) (k7 : Int32) (k8 : Int32) (k9 : Int32) (hv : Int64) (ro : Nat → Int32) (re : Nat → Int32) (rn : Nat → Int32) (rg : Nat → Int32) (ea : Nat → Int32) (fw : Nat → Int32) (nf : Nat → Int32) (na : Nat → Int32) (d0 : Nat) (hr9 : r9 ≤ 9) (hMQ : MRQ ro re rn rg r9) (hFW : FWI fw) (hn5 : n9 ≤ 5) (hv5 : v ≤ 5) (hEA : EAI n9 v ea) (hsd : SDn 4 na) (hNF : NFI n9 ea nf (2 ^ n9)) (hd1 : 1 ≤ d0) (hd9 : d0 < 2 ^ n9) (hv1 : 1 ≤ v) (hML : MLs (gM n9 v ea) (rMd r9 ro re rn rg) (trb fw) d0) : CTv l D cI cJ cZ cR yX7_laySet cX7_laySet 5 none 6 158 0 0 sz [.ref m0, .int (nI d0)] [kX7 m0 (nI z) m1 (nI r9) m2 m3 m4 m5 (nI n9) (nI v) m6 k1 k2 k3 k4 m7 k5 k6 k7 k8 m8 m9 m10 k9 m11 m12 m13 hv, kI cI m2 9 ro, kI cI m3 9 re, kI cI m4 9 rn, kI cI m5 27 rg, kI cI m6 12 ea, kI cI m8 2400 fw, kI cI m9 32 nf, kI cI m10 4 na] (fun (u : (Nat → Int32) × (Nat → Int32)) => (FWI u.1) ∧ (KS fw u.1 d0) ∧ (MOK (gM n9 v ea) (rMd r9 ro re rn rg) (trb u.1) d0) ∧ (SDn 4 u.2)) (fun (u : (Nat → Int32) × (Nat → Int32)) => [kX7 m0 (nI z) m1 (nI r9) m2 m3 m4 m5 (nI n9) (nI v) m6 k1 k2 k3 k4 m7 k5 k6 k7 k8 m8 m9 m10 k9 m11 m12 m13 hv, kI cI m2 9 ro, kI cI m3 9 re, kI cI m4 9 rn, kI cI m5 27 rg, kI cI m6 12 ea, kI cI m8 2400 u.1, kI cI m9 32 nf, kI cI m10 4 u.2]) := by
  refine CTv.of (by decide) (Nat.le_of_ble_eq_true rfl) rfl ?_
  intro p e s m below meth c A Q ls hd hin hK hsz hP hD hA hS hl hret
  obtain ⟨hx, hb, hml, hown, hts⟩ := id hd
  have hK1 := hK.1
  have hown : s.vm.findClass RX7 = some m.cls := hown
  have hl : lv_has ls 5 [(0, .ref m0), (1, .int (nI d0))] := hl
  have hM9 : zM9 = 1000000 := rfl
  have h32 := pow_le5 hn5
  have hd32 : d0 < 32 := by omega
  have hW := rM_wf hMQ
  refine lv_iconst (v := 0) hx hb dX7_laySet_0 (by decide) ?_
  refine lv_istore_n (lv' := [(2, .int 0), (0, .ref m0), (1, .int (nI d0))]) hx hb dX7_laySet_1 rfl hl (by decide) rfl (fun ls hl => ?_)
  have LOOP_2 : ∀ (n : Nat) (i : Nat) (gw : Nat → Int32) (nw : Nat → Int32), (i + n = v) → (EPI (gM n9 v ea) (rMd r9 ro re rn rg) fw gw d0 i 0) → (SDn 4 nw) → ∀ (H : Heap) (locs : List Loc) (ls : Array Slot), va_P D vwCl [kX7 m0 (nI z) m1 (nI r9) m2 m3 m4 m5 (nI n9) (nI v) m6 k1 k2 k3 k4 m7 k5 k6 k7 k8 m8 m9 m10 k9 m11 m12 m13 hv, kI cI m2 9 ro, kI cI m3 9 re, kI cI m4 9 rn, kI cI m5 27 rg, kI cI m6 12 ea, kI cI m8 2400 gw, kI cI m9 32 nf, kI cI m10 4 nw] H → va_D A [kX7 m0 (nI z) m1 (nI r9) m2 m3 m4 m5 (nI n9) (nI v) m6 k1 k2 k3 k4 m7 k5 k6 k7 k8 m8 m9 m10 k9 m11 m12 m13 hv, kI cI m2 9 ro, kI cI m3 9 re, kI cI m4 9 rn, kI cI m5 27 rg, kI cI m6 12 ea, kI cI m8 2400 gw, kI cI m9 32 nf, kI cI m10 4 nw] → va_S A s.heap H locs → lv_has ls 5 [(0, .ref m0), (1, .int (nI d0)), (2, .int (nI i))] → W p l e (rM 6 0 0 158) s m ([.ref m0, .int (nI d0)] : List Value).toArray below meth c H locs 0 0 Q (F0 m 2 ls []) := by
    intro n
    induction n with
    | zero =>
      intro i gw nw hi hEP hnw H locs ls hP hD hS hl
      refine lv_iload_n hx hb dX7_laySet_2 rfl (lv_at hl 2 rfl) ?_
      refine lv_aload_n hx hb dX7_laySet_3 rfl (lv_at hl 0 rfl) ?_
      refine va_get (D := D) (ci := 7) (v := .int (nI v)) (C := RX7) (T := TX7) (N := 27) hx hb hts iT_X7 hown hK1 hP 0 rfl rfl 8 (by decide) (hts _ t_559) (fun _ h9 => h9) rfl dX7_laySet_4 ?_
      refine lv_icmp_ge (tgt := 39) hx hb dX7_laySet_7 (by decide) (fun c_1 => ?_) (fun c_1 => ?_)
      rotate_left
      · exact absurd (nI_le (a := v) (b := i) (by omega) (by omega)) c_1
      refine lv_iconst (v := 1) hx hb dX7_laySet_39 (by decide) ?_
      refine lv_istore_n (lv' := [(2, .int 1), (0, .ref m0), (1, .int (nI d0))]) hx hb dX7_laySet_40 rfl hl (by decide) rfl (fun ls hl => ?_)
      have LOOP_41 : ∀ (n : Nat) (go : Int32) (gv : Nat → Int32) (nv : Nat → Int32), (¬ go = 0 → Ffw gv < n) → (FWI gv) → (WSI (gM n9 v ea) (rMd r9 ro re rn rg) fw gv d0 go) → (SDn 4 nv) → ∀ (H : Heap) (locs : List Loc) (ls : Array Slot), va_P D vwCl [kX7 m0 (nI z) m1 (nI r9) m2 m3 m4 m5 (nI n9) (nI v) m6 k1 k2 k3 k4 m7 k5 k6 k7 k8 m8 m9 m10 k9 m11 m12 m13 hv, kI cI m2 9 ro, kI cI m3 9 re, kI cI m4 9 rn, kI cI m5 27 rg, kI cI m6 12 ea, kI cI m8 2400 gv, kI cI m9 32 nf, kI cI m10 4 nv] H → va_D A [kX7 m0 (nI z) m1 (nI r9) m2 m3 m4 m5 (nI n9) (nI v) m6 k1 k2 k3 k4 m7 k5 k6 k7 k8 m8 m9 m10 k9 m11 m12 m13 hv, kI cI m2 9 ro, kI cI m3 9 re, kI cI m4 9 rn, kI cI m5 27 rg, kI cI m6 12 ea, kI cI m8 2400 gv, kI cI m9 32 nf, kI cI m10 4 nv] → va_S A s.heap H locs → lv_has ls 5 [(0, .ref m0), (1, .int (nI d0)), (2, .int go)] → W p l e (rM 6 0 0 158) s m ([.ref m0, .int (nI d0)] : List Value).toArray below meth c H locs 0 0 Q (F0 m 41 ls []) := by
        intro n
        induction n with
        | zero =>
          intro go gv nv hM hgv hWS hnv H locs ls hP hD hS hl
          refine lv_iload_n hx hb dX7_laySet_41 rfl (lv_at hl 2 rfl) ?_
          refine lv_if_eq (tgt := 105) hx hb dX7_laySet_42 (by decide) (fun c_2 => ?_) (fun c_2 => ?_)
          rotate_left
          · exact absurd (hM c_2) (Nat.not_lt_zero _)
          exact hret _ _ _ _ _ _ (gv, nv) dX7_laySet_105 hS (Nat.le_of_ble_eq_true rfl) (Nat.le_of_ble_eq_true rfl) ⟨hgv, (WSI_e (g := (gM n9 v ea)) hW hv5 hd32 hML hgv (Classical.byContradiction (fun q => Nat.not_lt_zero _ (hM q))) hWS).1, (WSI_e (g := (gM n9 v ea)) hW hv5 hd32 hML hgv (Classical.byContradiction (fun q => Nat.not_lt_zero _ (hM q))) hWS).2, hnv⟩ (hP.sub [0, 1, 2, 3, 4, 5, 6, 7, 8] rfl) (hD.sub [0, 1, 2, 3, 4, 5, 6, 7, 8] rfl rfl)
        | succ n ih_41 =>
          intro go gv nv hM hgv hWS hnv H locs ls hP hD hS hl
          refine lv_iload_n hx hb dX7_laySet_41 rfl (lv_at hl 2 rfl) ?_
          refine lv_if_eq (tgt := 105) hx hb dX7_laySet_42 (by decide) (fun c_3 => ?_) (fun c_3 => ?_)
          · skip
            exact hret _ _ _ _ _ _ (gv, nv) dX7_laySet_105 hS (Nat.le_of_ble_eq_true rfl) (Nat.le_of_ble_eq_true rfl) ⟨hgv, (WSI_e (g := (gM n9 v ea)) hW hv5 hd32 hML hgv c_3 hWS).1, (WSI_e (g := (gM n9 v ea)) hW hv5 hd32 hML hgv c_3 hWS).2, hnv⟩ (hP.sub [0, 1, 2, 3, 4, 5, 6, 7, 8] rfl) (hD.sub [0, 1, 2, 3, 4, 5, 6, 7, 8] rfl rfl)
          · skip
            have hgo := c_3
            refine lv_iconst (v := 0) hx hb dX7_laySet_45 (by decide) ?_
            refine lv_istore_n (lv' := [(2, .int 0), (0, .ref m0), (1, .int (nI d0))]) hx hb dX7_laySet_46 rfl hl (by decide) rfl (fun ls hl => ?_)
            refine lv_iconst (v := 0) hx hb dX7_laySet_47 (by decide) ?_
            refine lv_istore_n (lv' := [(3, .int 0), (2, .int 0), (0, .ref m0), (1, .int (nI d0))]) hx hb dX7_laySet_48 rfl hl (by decide) rfl (fun ls hl => ?_)
            have LOOP_49 : ∀ (n : Nat) (kc : Nat) (g2 : Int32) (fy : Nat → Int32) (ny : Nat → Int32), (kc + n = v) → (FD gv fy g2) → (PSI (gM n9 v ea) (rMd r9 ro re rn rg) gv fy d0 kc 0 g2) → (SDn 4 ny) → ∀ (H : Heap) (locs : List Loc) (ls : Array Slot), va_P D vwCl [kX7 m0 (nI z) m1 (nI r9) m2 m3 m4 m5 (nI n9) (nI v) m6 k1 k2 k3 k4 m7 k5 k6 k7 k8 m8 m9 m10 k9 m11 m12 m13 hv, kI cI m2 9 ro, kI cI m3 9 re, kI cI m4 9 rn, kI cI m5 27 rg, kI cI m6 12 ea, kI cI m8 2400 fy, kI cI m9 32 nf, kI cI m10 4 ny] H → va_D A [kX7 m0 (nI z) m1 (nI r9) m2 m3 m4 m5 (nI n9) (nI v) m6 k1 k2 k3 k4 m7 k5 k6 k7 k8 m8 m9 m10 k9 m11 m12 m13 hv, kI cI m2 9 ro, kI cI m3 9 re, kI cI m4 9 rn, kI cI m5 27 rg, kI cI m6 12 ea, kI cI m8 2400 fy, kI cI m9 32 nf, kI cI m10 4 ny] → va_S A s.heap H locs → lv_has ls 5 [(0, .ref m0), (1, .int (nI d0)), (2, .int g2), (3, .int (nI kc))] → W p l e (rM 6 0 0 158) s m ([.ref m0, .int (nI d0)] : List Value).toArray below meth c H locs 0 0 Q (F0 m 49 ls []) := by
              intro n
              induction n with
              | zero =>
                intro kc g2 fy ny hkc hFD hPS hny H locs ls hP hD hS hl
                refine lv_iload_n hx hb dX7_laySet_49 rfl (lv_at hl 3 rfl) ?_
                refine lv_aload_n hx hb dX7_laySet_50 rfl (lv_at hl 0 rfl) ?_
                refine va_get (D := D) (ci := 7) (v := .int (nI v)) (C := RX7) (T := TX7) (N := 27) hx hb hts iT_X7 hown hK1 hP 0 rfl rfl 8 (by decide) (hts _ t_559) (fun _ h9 => h9) rfl dX7_laySet_51 ?_
                refine lv_icmp_ge (tgt := 102) hx hb dX7_laySet_54 (by decide) (fun c_4 => ?_) (fun c_4 => ?_)
                rotate_left
                · exact absurd (nI_le (a := v) (b := kc) (by omega) (by omega)) c_4
                refine lv_goto (tgt := 41) hx hb dX7_laySet_102 (by decide) ?_
                exact ih_41 g2 fy ny (hFD.fall (hM hgo)) hFD.1 (WSI_s hd32 (show v ≤ kc by omega) hPS hWS) hny _ _ _ (hP.sub [0, 1, 2, 3, 4, 5, 6, 7, 8] rfl) (hD.sub [0, 1, 2, 3, 4, 5, 6, 7, 8] rfl rfl) hS (lv_sub hl [0, 1, 2] rfl)
              | succ n ih_49 =>
                intro kc g2 fy ny hkc hFD hPS hny H locs ls hP hD hS hl
                refine lv_iload_n hx hb dX7_laySet_49 rfl (lv_at hl 3 rfl) ?_
                refine lv_aload_n hx hb dX7_laySet_50 rfl (lv_at hl 0 rfl) ?_
                refine va_get (D := D) (ci := 7) (v := .int (nI v)) (C := RX7) (T := TX7) (N := 27) hx hb hts iT_X7 hown hK1 hP 0 rfl rfl 8 (by decide) (hts _ t_559) (fun _ h9 => h9) rfl dX7_laySet_51 ?_
                refine lv_icmp_ge (tgt := 102) hx hb dX7_laySet_54 (by decide) (fun c_5 => ?_) (fun c_5 => ?_)
                · exact absurd c_5 (nI_ge (a := kc) (b := v) (by omega) (by omega))
                refine lv_iconst (v := 0) hx hb dX7_laySet_57 (by decide) ?_
                refine lv_istore (lv' := [(4, .int 0), (0, .ref m0), (1, .int (nI d0)), (2, .int g2), (3, .int (nI kc))]) hx hb dX7_laySet_58 hl (by decide) rfl (fun ls hl => ?_)
                have LOOP_60 : ∀ (n : Nat) (kd : Nat) (g3 : Int32) (fz : Nat → Int32) (nz : Nat → Int32), (kd + n = v) → (FD gv fz g3) → (PSI (gM n9 v ea) (rMd r9 ro re rn rg) gv fz d0 kc kd g3) → (SDn 4 nz) → ∀ (H : Heap) (locs : List Loc) (ls : Array Slot), va_P D vwCl [kX7 m0 (nI z) m1 (nI r9) m2 m3 m4 m5 (nI n9) (nI v) m6 k1 k2 k3 k4 m7 k5 k6 k7 k8 m8 m9 m10 k9 m11 m12 m13 hv, kI cI m2 9 ro, kI cI m3 9 re, kI cI m4 9 rn, kI cI m5 27 rg, kI cI m6 12 ea, kI cI m8 2400 fz, kI cI m9 32 nf, kI cI m10 4 nz] H → va_D A [kX7 m0 (nI z) m1 (nI r9) m2 m3 m4 m5 (nI n9) (nI v) m6 k1 k2 k3 k4 m7 k5 k6 k7 k8 m8 m9 m10 k9 m11 m12 m13 hv, kI cI m2 9 ro, kI cI m3 9 re, kI cI m4 9 rn, kI cI m5 27 rg, kI cI m6 12 ea, kI cI m8 2400 fz, kI cI m9 32 nf, kI cI m10 4 nz] → va_S A s.heap H locs → lv_has ls 5 [(0, .ref m0), (1, .int (nI d0)), (2, .int g3), (3, .int (nI kc)), (4, .int (nI kd))] → W p l e (rM 6 0 0 158) s m ([.ref m0, .int (nI d0)] : List Value).toArray below meth c H locs 0 0 Q (F0 m 60 ls []) := by
                  intro n
                  induction n with
                  | zero =>
                    intro kd g3 fz nz hkd hFE hPT hnz H locs ls hP hD hS hl
                    refine lv_iload hx hb dX7_laySet_60 (lv_at hl 4 rfl) ?_
                    refine lv_aload_n hx hb dX7_laySet_62 rfl (lv_at hl 0 rfl) ?_
                    refine va_get (D := D) (ci := 7) (v := .int (nI v)) (C := RX7) (T := TX7) (N := 27) hx hb hts iT_X7 hown hK1 hP 0 rfl rfl 8 (by decide) (hts _ t_559) (fun _ h9 => h9) rfl dX7_laySet_63 ?_
                    refine lv_icmp_ge (tgt := 96) hx hb dX7_laySet_66 (by decide) (fun c_6 => ?_) (fun c_6 => ?_)
                    rotate_left
                    · exact absurd (nI_le (a := v) (b := kd) (by omega) (by omega)) c_6
                    refine lv_iinc (v := nI (kc + 1)) (lv' := [(3, .int (nI (kc + 1))), (0, .ref m0), (1, .int (nI d0)), (2, .int g3), (4, .int (nI kd))]) hx hb dX7_laySet_96 hl (k := 3) rfl (nI_1 kc) (by decide) rfl (fun ls hl => ?_)
                    refine lv_goto (tgt := 49) hx hb dX7_laySet_99 (by decide) ?_
                    exact ih_49 (kc + 1) g3 fz nz (by omega) hFE (PSI_r (show v ≤ kd by omega) hPT) hnz _ _ _ (hP.sub [0, 1, 2, 3, 4, 5, 6, 7, 8] rfl) (hD.sub [0, 1, 2, 3, 4, 5, 6, 7, 8] rfl rfl) hS (lv_sub hl [1, 2, 3, 0] rfl)
                  | succ n ih_60 =>
                    intro kd g3 fz nz hkd hFE hPT hnz H locs ls hP hD hS hl
                    refine lv_iload hx hb dX7_laySet_60 (lv_at hl 4 rfl) ?_
                    refine lv_aload_n hx hb dX7_laySet_62 rfl (lv_at hl 0 rfl) ?_
                    refine va_get (D := D) (ci := 7) (v := .int (nI v)) (C := RX7) (T := TX7) (N := 27) hx hb hts iT_X7 hown hK1 hP 0 rfl rfl 8 (by decide) (hts _ t_559) (fun _ h9 => h9) rfl dX7_laySet_63 ?_
                    refine lv_icmp_ge (tgt := 96) hx hb dX7_laySet_66 (by decide) (fun c_7 => ?_) (fun c_7 => ?_)
                    · exact absurd c_7 (nI_ge (a := kd) (b := v) (by omega) (by omega))
                    refine lv_aload_n hx hb dX7_laySet_69 rfl (lv_at hl 0 rfl) ?_
                    refine lv_iload_n hx hb dX7_laySet_70 rfl (lv_at hl 3 rfl) ?_
                    refine lv_iload hx hb dX7_laySet_71 (lv_at hl 4 rfl) ?_
                    refine lv_iload_n hx hb dX7_laySet_73 rfl (lv_at hl 1 rfl) ?_
                    refine xc_i (wc := [kX7 m0 (nI z) m1 (nI r9) m2 m3 m4 m5 (nI n9) (nI v) m6 k1 k2 k3 k4 m7 k5 k6 k7 k8 m8 m9 m10 k9 m11 m12 m13 hv, kI cI m2 9 ro, kI cI m3 9 re, kI cI m4 9 rn, kI cI m5 27 rg, kI cI m6 12 ea, kI cI m8 2400 fz, kI cI m9 32 nf, kI cI m10 4 nz]) (wr := []) (xrV (n := 3) (As := [.int (nI kc), .int (nI kd), .int (nI d0)]) (rest := []) (ci := 7) (q0 := 0) hd hK hP hD (c_X7_laySingles l D cI cJ cZ cR _ m0 m1 m2 m3 m4 m5 m6 m7 m8 m9 m10 m11 m12 m13 z r9 n9 v k1 k2 k3 k4 k5 k6 k7 k8 k9 hv ro re rn rg ea fz nf nz kc kd d0 hr9 hMQ hFE.1 hn5 hv5 hEA hnz hd1 hd9 (by omega) (by omega) hPT.2.2.1) (gV t_806 mV_X7_laySingles) hV_X7_laySingles ⟨(Nat.le_of_ble_eq_true rfl), (Nat.le_of_ble_eq_true rfl)⟩ rfl rfl [0, 1, 2, 3, 4, 5, 6, 7, 8] rfl rfl rfl hl.1 rfl (Nat.le_of_ble_eq_true rfl) dX7_laySet_74 ⟨(Nat.le_of_ble_eq_true rfl), (Nat.le_of_ble_eq_true rfl)⟩) hP hD hS hA [0, 1, 2, 3, 4, 5, 6, 7, 8] [] rfl rfl rfl (by decide) (fun r_8 u_9 H locs hw_10 hP hD hS => ?_)
                    obtain ⟨fw2_11, na2_12⟩ := u_9
                    obtain ⟨hw_13, hw_14, hw_15⟩ : (FD fz fw2_11 r_8) ∧ (LSI (gM n9 v ea) (rMd r9 ro re rn rg) fz fw2_11 d0 kc kd r9 r_8) ∧ (SDn 4 na2_12) := hw_10
                    have hL2 := hw_13
                    have hLS := hw_14
                    have hS2 := hw_15
                    have hP : va_P D vwCl [kX7 m0 (nI z) m1 (nI r9) m2 m3 m4 m5 (nI n9) (nI v) m6 k1 k2 k3 k4 m7 k5 k6 k7 k8 m8 m9 m10 k9 m11 m12 m13 hv, kI cI m2 9 ro, kI cI m3 9 re, kI cI m4 9 rn, kI cI m5 27 rg, kI cI m6 12 ea, kI cI m8 2400 fw2_11, kI cI m9 32 nf, kI cI m10 4 na2_12] H := hP
                    have hD : va_D A [kX7 m0 (nI z) m1 (nI r9) m2 m3 m4 m5 (nI n9) (nI v) m6 k1 k2 k3 k4 m7 k5 k6 k7 k8 m8 m9 m10 k9 m11 m12 m13 hv, kI cI m2 9 ro, kI cI m3 9 re, kI cI m4 9 rn, kI cI m5 27 rg, kI cI m6 12 ea, kI cI m8 2400 fw2_11, kI cI m9 32 nf, kI cI m10 4 na2_12] := hD
                    refine lv_if_ne (tgt := 84) hx hb dX7_laySet_77 (by decide) (fun c_16 => ?_) (fun c_16 => ?_)
                    · skip
                      refine lv_iconst (v := 1) hx hb dX7_laySet_84 (by decide) ?_
                      refine lv_goto (tgt := 89) hx hb dX7_laySet_85 (by decide) ?_
                      refine lv_istore_n (lv' := [(2, .int 1), (0, .ref m0), (1, .int (nI d0)), (3, .int (nI kc)), (4, .int (nI kd))]) hx hb dX7_laySet_89 rfl hl (by decide) rfl (fun ls hl => ?_)
                      refine lv_iinc (v := nI (kd + 1)) (lv' := [(4, .int (nI (kd + 1))), (2, .int 1), (0, .ref m0), (1, .int (nI d0)), (3, .int (nI kc))]) hx hb dX7_laySet_90 hl (k := 4) rfl (nI_1 kd) (by decide) rfl (fun ls hl => ?_)
                      refine lv_goto (tgt := 60) hx hb dX7_laySet_93 (by decide) ?_
                      exact ih_60 (kd + 1) 1 fw2_11 na2_12 (by omega) (FD_r hFE hL2 c_16) (PSI_s (fun z => absurd z (by decide)) hLS hPT) hS2 _ _ _ (hP.sub [0, 1, 2, 3, 4, 5, 6, 7, 8] rfl) (hD.sub [0, 1, 2, 3, 4, 5, 6, 7, 8] rfl rfl) hS (lv_sub hl [2, 3, 1, 4, 0] rfl)
                    · skip
                      refine lv_iload_n hx hb dX7_laySet_80 rfl (lv_at hl 2 rfl) ?_
                      refine lv_if_eq (tgt := 88) hx hb dX7_laySet_81 (by decide) (fun c_17 => ?_) (fun c_17 => ?_)
                      · skip
                        refine lv_iconst (v := 0) hx hb dX7_laySet_88 (by decide) ?_
                        refine lv_istore_n (lv' := [(2, .int 0), (0, .ref m0), (1, .int (nI d0)), (3, .int (nI kc)), (4, .int (nI kd))]) hx hb dX7_laySet_89 rfl hl (by decide) rfl (fun ls hl => ?_)
                        refine lv_iinc (v := nI (kd + 1)) (lv' := [(4, .int (nI (kd + 1))), (2, .int 0), (0, .ref m0), (1, .int (nI d0)), (3, .int (nI kc))]) hx hb dX7_laySet_90 hl (k := 4) rfl (nI_1 kd) (by decide) rfl (fun ls hl => ?_)
                        refine lv_goto (tgt := 60) hx hb dX7_laySet_93 (by decide) ?_
                        exact ih_60 (kd + 1) 0 fw2_11 na2_12 (by omega) (FD_3 hFE hL2) (PSI_s (fun _ => ⟨c_17, c_16⟩) hLS hPT) hS2 _ _ _ (hP.sub [0, 1, 2, 3, 4, 5, 6, 7, 8] rfl) (hD.sub [0, 1, 2, 3, 4, 5, 6, 7, 8] rfl rfl) hS (lv_sub hl [2, 3, 1, 4, 0] rfl)
                      · skip
                        refine lv_iconst (v := 1) hx hb dX7_laySet_84 (by decide) ?_
                        refine lv_goto (tgt := 89) hx hb dX7_laySet_85 (by decide) ?_
                        refine lv_istore_n (lv' := [(2, .int 1), (0, .ref m0), (1, .int (nI d0)), (3, .int (nI kc)), (4, .int (nI kd))]) hx hb dX7_laySet_89 rfl hl (by decide) rfl (fun ls hl => ?_)
                        refine lv_iinc (v := nI (kd + 1)) (lv' := [(4, .int (nI (kd + 1))), (2, .int 1), (0, .ref m0), (1, .int (nI d0)), (3, .int (nI kc))]) hx hb dX7_laySet_90 hl (k := 4) rfl (nI_1 kd) (by decide) rfl (fun ls hl => ?_)
                        refine lv_goto (tgt := 60) hx hb dX7_laySet_93 (by decide) ?_
                        exact ih_60 (kd + 1) 1 fw2_11 na2_12 (by omega) (FD_2 hFE hL2 c_17) (PSI_s (fun z => absurd z (by decide)) hLS hPT) hS2 _ _ _ (hP.sub [0, 1, 2, 3, 4, 5, 6, 7, 8] rfl) (hD.sub [0, 1, 2, 3, 4, 5, 6, 7, 8] rfl rfl) hS (lv_sub hl [2, 3, 1, 4, 0] rfl)
                exact LOOP_60 v 0 g2 fy ny (by omega) hFD hPS hny _ _ _ (hP.sub [0, 1, 2, 3, 4, 5, 6, 7, 8] rfl) (hD.sub [0, 1, 2, 3, 4, 5, 6, 7, 8] rfl rfl) hS (lv_sub hl [1, 2, 3, 4, 0] rfl)
            exact LOOP_49 v 0 0 gv nv (by omega) (FD_no hgv) (PSI_0 hWS.2.1) hnv _ _ _ (hP.sub [0, 1, 2, 3, 4, 5, 6, 7, 8] rfl) (hD.sub [0, 1, 2, 3, 4, 5, 6, 7, 8] rfl rfl) hS (lv_sub hl [2, 3, 1, 0] rfl)
      exact LOOP_41 (Ffw gw + 1) 1 gw nw (fun _ => Nat.lt_succ_self _) hEP.1 (EPI_e hd32 (show v ≤ i by omega) hEP) hnw _ _ _ (hP.sub [0, 1, 2, 3, 4, 5, 6, 7, 8] rfl) (hD.sub [0, 1, 2, 3, 4, 5, 6, 7, 8] rfl rfl) hS (lv_sub hl [1, 2, 0] rfl)
    | succ n ih_2 =>
      intro i gw nw hi hEP hnw H locs ls hP hD hS hl
      refine lv_iload_n hx hb dX7_laySet_2 rfl (lv_at hl 2 rfl) ?_
      refine lv_aload_n hx hb dX7_laySet_3 rfl (lv_at hl 0 rfl) ?_
      refine va_get (D := D) (ci := 7) (v := .int (nI v)) (C := RX7) (T := TX7) (N := 27) hx hb hts iT_X7 hown hK1 hP 0 rfl rfl 8 (by decide) (hts _ t_559) (fun _ h9 => h9) rfl dX7_laySet_4 ?_
      refine lv_icmp_ge (tgt := 39) hx hb dX7_laySet_7 (by decide) (fun c_18 => ?_) (fun c_18 => ?_)
      · exact absurd c_18 (nI_ge (a := i) (b := v) (by omega) (by omega))
      refine lv_iconst (v := 0) hx hb dX7_laySet_10 (by decide) ?_
      refine lv_istore_n (lv' := [(3, .int 0), (0, .ref m0), (1, .int (nI d0)), (2, .int (nI i))]) hx hb dX7_laySet_11 rfl hl (by decide) rfl (fun ls hl => ?_)
      have LOOP_12 : ∀ (n : Nat) (k : Nat) (gx : Nat → Int32) (nx : Nat → Int32), (k + n = v) → (EPI (gM n9 v ea) (rMd r9 ro re rn rg) fw gx d0 i k) → (SDn 4 nx) → ∀ (H : Heap) (locs : List Loc) (ls : Array Slot), va_P D vwCl [kX7 m0 (nI z) m1 (nI r9) m2 m3 m4 m5 (nI n9) (nI v) m6 k1 k2 k3 k4 m7 k5 k6 k7 k8 m8 m9 m10 k9 m11 m12 m13 hv, kI cI m2 9 ro, kI cI m3 9 re, kI cI m4 9 rn, kI cI m5 27 rg, kI cI m6 12 ea, kI cI m8 2400 gx, kI cI m9 32 nf, kI cI m10 4 nx] H → va_D A [kX7 m0 (nI z) m1 (nI r9) m2 m3 m4 m5 (nI n9) (nI v) m6 k1 k2 k3 k4 m7 k5 k6 k7 k8 m8 m9 m10 k9 m11 m12 m13 hv, kI cI m2 9 ro, kI cI m3 9 re, kI cI m4 9 rn, kI cI m5 27 rg, kI cI m6 12 ea, kI cI m8 2400 gx, kI cI m9 32 nf, kI cI m10 4 nx] → va_S A s.heap H locs → lv_has ls 5 [(0, .ref m0), (1, .int (nI d0)), (2, .int (nI i)), (3, .int (nI k))] → W p l e (rM 6 0 0 158) s m ([.ref m0, .int (nI d0)] : List Value).toArray below meth c H locs 0 0 Q (F0 m 12 ls []) := by
        intro n
        induction n with
        | zero =>
          intro k gx nx hk hEQ hnx H locs ls hP hD hS hl
          refine lv_iload_n hx hb dX7_laySet_12 rfl (lv_at hl 3 rfl) ?_
          refine lv_aload_n hx hb dX7_laySet_13 rfl (lv_at hl 0 rfl) ?_
          refine va_get (D := D) (ci := 7) (v := .int (nI v)) (C := RX7) (T := TX7) (N := 27) hx hb hts iT_X7 hown hK1 hP 0 rfl rfl 8 (by decide) (hts _ t_559) (fun _ h9 => h9) rfl dX7_laySet_14 ?_
          refine lv_icmp_ge (tgt := 33) hx hb dX7_laySet_17 (by decide) (fun c_19 => ?_) (fun c_19 => ?_)
          rotate_left
          · exact absurd (nI_le (a := v) (b := k) (by omega) (by omega)) c_19
          refine lv_iinc (v := nI (i + 1)) (lv' := [(2, .int (nI (i + 1))), (0, .ref m0), (1, .int (nI d0)), (3, .int (nI k))]) hx hb dX7_laySet_33 hl (k := 2) rfl (nI_1 i) (by decide) rfl (fun ls hl => ?_)
          refine lv_goto (tgt := 2) hx hb dX7_laySet_36 (by decide) ?_
          exact ih_2 (i + 1) gx nx (by omega) (EPI_r (show v ≤ k by omega) hEQ) hnx _ _ _ (hP.sub [0, 1, 2, 3, 4, 5, 6, 7, 8] rfl) (hD.sub [0, 1, 2, 3, 4, 5, 6, 7, 8] rfl rfl) hS (lv_sub hl [1, 2, 0] rfl)
        | succ n ih_12 =>
          intro k gx nx hk hEQ hnx H locs ls hP hD hS hl
          refine lv_iload_n hx hb dX7_laySet_12 rfl (lv_at hl 3 rfl) ?_
          refine lv_aload_n hx hb dX7_laySet_13 rfl (lv_at hl 0 rfl) ?_
          refine va_get (D := D) (ci := 7) (v := .int (nI v)) (C := RX7) (T := TX7) (N := 27) hx hb hts iT_X7 hown hK1 hP 0 rfl rfl 8 (by decide) (hts _ t_559) (fun _ h9 => h9) rfl dX7_laySet_14 ?_
          refine lv_icmp_ge (tgt := 33) hx hb dX7_laySet_17 (by decide) (fun c_20 => ?_) (fun c_20 => ?_)
          · exact absurd c_20 (nI_ge (a := k) (b := v) (by omega) (by omega))
          refine lv_aload_n hx hb dX7_laySet_20 rfl (lv_at hl 0 rfl) ?_
          refine lv_iload_n hx hb dX7_laySet_21 rfl (lv_at hl 2 rfl) ?_
          refine lv_iload_n hx hb dX7_laySet_22 rfl (lv_at hl 3 rfl) ?_
          refine lv_iload_n hx hb dX7_laySet_23 rfl (lv_at hl 1 rfl) ?_
          refine xc_v (wc := [kX7 m0 (nI z) m1 (nI r9) m2 m3 m4 m5 (nI n9) (nI v) m6 k1 k2 k3 k4 m7 k5 k6 k7 k8 m8 m9 m10 k9 m11 m12 m13 hv, kI cI m2 9 ro, kI cI m3 9 re, kI cI m4 9 rn, kI cI m5 27 rg, kI cI m6 12 ea, kI cI m8 2400 gx, kI cI m9 32 nf, kI cI m10 4 nx]) (wr := []) (xrV (n := 3) (As := [.int (nI i), .int (nI k), .int (nI d0)]) (rest := []) (ci := 7) (q0 := 0) hd hK hP hD (c_X7_layEnds l D cI cJ cZ cR _ m0 m1 m2 m3 m4 m5 m6 m7 m8 m9 m10 m11 m12 m13 z r9 n9 v k1 k2 k3 k4 k5 k6 k7 k8 k9 hv ro re rn rg ea gx nf nx i k d0 hr9 hMQ hEQ.1 hn5 hv5 hEA hnx hNF hd1 hd9 hv1 (by omega) (by omega) (MLs_k hv5 hEQ.2.1 hML)) (gV t_773 mV_X7_layEnds) hV_X7_layEnds ⟨(Nat.le_of_ble_eq_true rfl), (Nat.le_of_ble_eq_true rfl)⟩ rfl rfl [0, 1, 2, 3, 4, 5, 6, 7, 8] rfl rfl rfl hl.1 rfl (Nat.le_of_ble_eq_true rfl) dX7_laySet_24 ⟨(Nat.le_of_ble_eq_true rfl), (Nat.le_of_ble_eq_true rfl)⟩) hP hD hS hA [0, 1, 2, 3, 4, 5, 6, 7, 8] [] rfl rfl rfl (by decide) (fun u_22 H locs hw_23 hP hD hS => ?_)
          obtain ⟨fw2_24, na2_25⟩ := u_22
          obtain ⟨hw_26, hw_27⟩ : (LEI (gM n9 v ea) (rMd r9 ro re rn rg) gx fw2_24 d0 i k r9) ∧ (SDn 4 na2_25) := hw_23
          have hF2 := hw_26
          have hS2 := hw_27
          have hP : va_P D vwCl [kX7 m0 (nI z) m1 (nI r9) m2 m3 m4 m5 (nI n9) (nI v) m6 k1 k2 k3 k4 m7 k5 k6 k7 k8 m8 m9 m10 k9 m11 m12 m13 hv, kI cI m2 9 ro, kI cI m3 9 re, kI cI m4 9 rn, kI cI m5 27 rg, kI cI m6 12 ea, kI cI m8 2400 fw2_24, kI cI m9 32 nf, kI cI m10 4 na2_25] H := hP
          have hD : va_D A [kX7 m0 (nI z) m1 (nI r9) m2 m3 m4 m5 (nI n9) (nI v) m6 k1 k2 k3 k4 m7 k5 k6 k7 k8 m8 m9 m10 k9 m11 m12 m13 hv, kI cI m2 9 ro, kI cI m3 9 re, kI cI m4 9 rn, kI cI m5 27 rg, kI cI m6 12 ea, kI cI m8 2400 fw2_24, kI cI m9 32 nf, kI cI m10 4 na2_25] := hD
          refine lv_iinc (v := nI (k + 1)) (lv' := [(3, .int (nI (k + 1))), (0, .ref m0), (1, .int (nI d0)), (2, .int (nI i))]) hx hb dX7_laySet_27 hl (k := 3) rfl (nI_1 k) (by decide) rfl (fun ls hl => ?_)
          refine lv_goto (tgt := 12) hx hb dX7_laySet_30 (by decide) ?_
          exact ih_12 (k + 1) fw2_24 na2_25 (by omega) (EPI_s hW hd32 hv5 hF2 hEQ) hS2 _ _ _ (hP.sub [0, 1, 2, 3, 4, 5, 6, 7, 8] rfl) (hD.sub [0, 1, 2, 3, 4, 5, 6, 7, 8] rfl rfl) hS (lv_sub hl [1, 2, 3, 0] rfl)
      exact LOOP_12 v 0 gw nw (by omega) hEP hnw _ _ _ (hP.sub [0, 1, 2, 3, 4, 5, 6, 7, 8] rfl) (hD.sub [0, 1, 2, 3, 4, 5, 6, 7, 8] rfl rfl) hS (lv_sub hl [1, 2, 3, 0] rfl)
  exact LOOP_2 v 0 fw na (by omega) (EPI_0 hFW) hsd _ _ _ (hP.sub [0, 1, 2, 3, 4, 5, 6, 7, 8] rfl) (hD.sub [0, 1, 2, 3, 4, 5, 6, 7, 8] rfl rfl) hS (lv_sub hl [1, 2, 0] rfl)
set_option maxHeartbeats 4000000 in
set_option maxRecDepth 100000 in
theorem c_X7_layFewest (sz : Nat) (m0 : Nat) (m1 : Nat) (m2 : Nat) (m3 : Nat) (m4 : Nat) (m5 : Nat) (m6 : Nat) (m7 : Nat) (m8 : Nat) (m9 : Nat) (m10 : Nat) (m11 : Nat) (m12 : Nat) (m13 : Nat) (z : Nat) (r9 : Nat) (n9 : Nat) (v : Nat) (k1 : Int32) (k2 : Int32) (k3 : Int32) (k4 : Int32) (k5 : Int32) (k6 : Int32) (k7 : Int32) (k8 : Int32) (k9 : Int32) (hv : Int64) (ro : Nat → Int32) (re : Nat → Int32) (rn : Nat → Int32) (rg : Nat → Int32) (ea : Nat → Int32) (fw : Nat → Int32) (nf : Nat → Int32) (na : Nat → Int32) (hr9 : r9 ≤ 9) (hMQ : MRQ ro re rn rg r9) (hFW : FWI fw) (hn5 : n9 ≤ 5) (hv5 : v ≤ 5) (hEA : EAI n9 v ea) (hsd : SDn 4 na) (hv1 : 1 ≤ v) (hMO : ¬ k8 = 0 → MOF n9 v ea ro re rn rg r9 fw) : CTv l D cI cJ cZ cR yX7_layFewest cX7_layFewest 3 none 7 182 0 0 sz [.ref m0] [kX7 m0 (nI z) m1 (nI r9) m2 m3 m4 m5 (nI n9) (nI v) m6 k1 k2 k3 k4 m7 k5 k6 k7 k8 m8 m9 m10 k9 m11 m12 m13 hv, kI cI m2 9 ro, kI cI m3 9 re, kI cI m4 9 rn, kI cI m5 27 rg, kI cI m6 12 ea, kI cI m8 2400 fw, kI cI m9 32 nf, kI cI m10 4 na] (fun (u : Int32 × (Nat → Int32) × (Nat → Int32) × (Nat → Int32)) => (FWI u.2.1) ∧ (SDn 4 u.2.2.2) ∧ (MOF n9 v ea ro re rn rg r9 u.2.1)) (fun (u : Int32 × (Nat → Int32) × (Nat → Int32) × (Nat → Int32)) => [kX7 m0 (nI z) m1 (nI r9) m2 m3 m4 m5 (nI n9) (nI v) m6 k1 k2 k3 k4 m7 k5 k6 k7 u.1 m8 m9 m10 k9 m11 m12 m13 hv, kI cI m2 9 ro, kI cI m3 9 re, kI cI m4 9 rn, kI cI m5 27 rg, kI cI m6 12 ea, kI cI m8 2400 u.2.1, kI cI m9 32 u.2.2.1, kI cI m10 4 u.2.2.2]) := by
  refine CTv.of (by decide) (Nat.le_of_ble_eq_true rfl) rfl ?_
  intro p e s m below meth c A Q ls hd hin hK hsz hP hD hA hS hl hret
  obtain ⟨hx, hb, hml, hown, hts⟩ := id hd
  have hK1 := hK.1
  have hown : s.vm.findClass RX7 = some m.cls := hown
  have hl : lv_has ls 3 [(0, .ref m0)] := hl
  have h32 := pow_le5 hn5
  have h21 := pow_ge1 (v := n9)
  refine lv_aload_n hx hb dX7_layFewest_0 rfl (lv_at hl 0 rfl) ?_
  refine va_get (D := D) (ci := 7) (v := .int k8) (C := RX7) (T := TX7) (N := 27) hx hb hts iT_X7 hown hK1 hP 0 rfl rfl 18 (by decide) (hts _ t_569) (fun _ h9 => h9) rfl dX7_layFewest_1 ?_
  refine lv_if_eq (tgt := 8) hx hb dX7_layFewest_4 (by decide) (fun c_1 => ?_) (fun c_1 => ?_)
  · skip
    refine lv_aload_n hx hb dX7_layFewest_8 rfl (lv_at hl 0 rfl) ?_
    refine lv_iconst (v := 1) hx hb dX7_layFewest_9 (by decide) ?_
    refine va_put (D := D) (ci := 7) (v := .int 1) (ty := .boolean) (C := RX7) (T := TX7) (N := 27) hx hb hts iT_X7 tyX7 tyX7_ok nmX7 hown hK1 hP hD hS 0 rfl rfl 18 (by decide) (hts _ t_569) (fun _ h9 => h9) rfl (by decide +kernel) rfl rfl (Nat.le_of_ble_eq_true rfl) dX7_layFewest_10 (fun H locs hP hD hS => ?_)
    have hP : va_P D vwCl [kX7 m0 (nI z) m1 (nI r9) m2 m3 m4 m5 (nI n9) (nI v) m6 k1 k2 k3 k4 m7 k5 k6 k7 1 m8 m9 m10 k9 m11 m12 m13 hv, kI cI m2 9 ro, kI cI m3 9 re, kI cI m4 9 rn, kI cI m5 27 rg, kI cI m6 12 ea, kI cI m8 2400 fw, kI cI m9 32 nf, kI cI m10 4 na] H := hP
    have hD : va_D A [kX7 m0 (nI z) m1 (nI r9) m2 m3 m4 m5 (nI n9) (nI v) m6 k1 k2 k3 k4 m7 k5 k6 k7 1 m8 m9 m10 k9 m11 m12 m13 hv, kI cI m2 9 ro, kI cI m3 9 re, kI cI m4 9 rn, kI cI m5 27 rg, kI cI m6 12 ea, kI cI m8 2400 fw, kI cI m9 32 nf, kI cI m10 4 na] := hD
    refine lv_iconst (v := 0) hx hb dX7_layFewest_13 (by decide) ?_
    refine lv_istore_n (lv' := [(1, .int 0), (0, .ref m0)]) hx hb dX7_layFewest_14 rfl hl (by decide) rfl (fun ls hl => ?_)
    have LOOP_15 : ∀ (n : Nat) (i : Nat) (gf : Nat → Int32), (i + n = 2 ^ n9) → (NFI n9 ea gf i) → ∀ (H : Heap) (locs : List Loc) (ls : Array Slot), va_P D vwCl [kX7 m0 (nI z) m1 (nI r9) m2 m3 m4 m5 (nI n9) (nI v) m6 k1 k2 k3 k4 m7 k5 k6 k7 1 m8 m9 m10 k9 m11 m12 m13 hv, kI cI m2 9 ro, kI cI m3 9 re, kI cI m4 9 rn, kI cI m5 27 rg, kI cI m6 12 ea, kI cI m8 2400 fw, kI cI m9 32 gf, kI cI m10 4 na] H → va_D A [kX7 m0 (nI z) m1 (nI r9) m2 m3 m4 m5 (nI n9) (nI v) m6 k1 k2 k3 k4 m7 k5 k6 k7 1 m8 m9 m10 k9 m11 m12 m13 hv, kI cI m2 9 ro, kI cI m3 9 re, kI cI m4 9 rn, kI cI m5 27 rg, kI cI m6 12 ea, kI cI m8 2400 fw, kI cI m9 32 gf, kI cI m10 4 na] → va_S A s.heap H locs → lv_has ls 3 [(0, .ref m0), (1, .int (nI i))] → W p l e (rM 7 0 0 182) s m ([.ref m0] : List Value).toArray below meth c H locs 0 0 Q (F0 m 15 ls []) := by
      intro n
      induction n with
      | zero =>
        intro i gf hi hNF H locs ls hP hD hS hl
        refine lv_iload_n hx hb dX7_layFewest_15 rfl (lv_at hl 1 rfl) ?_
        refine lv_iconst (v := 1) hx hb dX7_layFewest_16 (by decide) ?_
        refine lv_aload_n hx hb dX7_layFewest_17 rfl (lv_at hl 0 rfl) ?_
        refine va_get (D := D) (ci := 7) (v := .int (nI n9)) (C := RX7) (T := TX7) (N := 27) hx hb hts iT_X7 hown hK1 hP 0 rfl rfl 7 (by decide) (hts _ t_558) (fun _ h9 => h9) rfl dX7_layFewest_18 ?_
        refine lv_ishl hx hb dX7_layFewest_21 ?_
        refine lv_nmi (show _ = (nI (2 ^ n9) : Int32) from shl1 (by omega)) ?_
        refine lv_icmp_ge (tgt := 98) hx hb dX7_layFewest_22 (by decide) (fun c_2 => ?_) (fun c_2 => ?_)
        rotate_left
        · exact absurd (nI_le (a := (2 ^ n9)) (b := i) (by omega) (by omega)) c_2
        have hNF9 : NFI n9 ea gf (2 ^ n9) := by rw [show 2 ^ n9 = i by omega]; exact hNF
        refine lv_iconst (v := 1) hx hb dX7_layFewest_98 (by decide) ?_
        refine lv_istore_n (lv' := [(1, .int 1), (0, .ref m0)]) hx hb dX7_layFewest_99 rfl hl (by decide) rfl (fun ls hl => ?_)
        have LOOP_100 : ∀ (n : Nat) (mm : Nat) (gw : Nat → Int32) (nw : Nat → Int32), (mm + n = n9 + 1) → (LFI (gM n9 v ea) (rMd r9 ro re rn rg) gw mm 1) → (SDn 4 nw) → ∀ (H : Heap) (locs : List Loc) (ls : Array Slot), va_P D vwCl [kX7 m0 (nI z) m1 (nI r9) m2 m3 m4 m5 (nI n9) (nI v) m6 k1 k2 k3 k4 m7 k5 k6 k7 1 m8 m9 m10 k9 m11 m12 m13 hv, kI cI m2 9 ro, kI cI m3 9 re, kI cI m4 9 rn, kI cI m5 27 rg, kI cI m6 12 ea, kI cI m8 2400 gw, kI cI m9 32 gf, kI cI m10 4 nw] H → va_D A [kX7 m0 (nI z) m1 (nI r9) m2 m3 m4 m5 (nI n9) (nI v) m6 k1 k2 k3 k4 m7 k5 k6 k7 1 m8 m9 m10 k9 m11 m12 m13 hv, kI cI m2 9 ro, kI cI m3 9 re, kI cI m4 9 rn, kI cI m5 27 rg, kI cI m6 12 ea, kI cI m8 2400 gw, kI cI m9 32 gf, kI cI m10 4 nw] → va_S A s.heap H locs → lv_has ls 3 [(0, .ref m0), (1, .int (nI mm))] → W p l e (rM 7 0 0 182) s m ([.ref m0] : List Value).toArray below meth c H locs 0 0 Q (F0 m 100 ls []) := by
          intro n
          induction n with
          | zero =>
            intro mm gw nw hm hLF hnw H locs ls hP hD hS hl
            refine lv_iload_n hx hb dX7_layFewest_100 rfl (lv_at hl 1 rfl) ?_
            refine lv_aload_n hx hb dX7_layFewest_101 rfl (lv_at hl 0 rfl) ?_
            refine va_get (D := D) (ci := 7) (v := .int (nI n9)) (C := RX7) (T := TX7) (N := 27) hx hb hts iT_X7 hown hK1 hP 0 rfl rfl 7 (by decide) (hts _ t_558) (fun _ h9 => h9) rfl dX7_layFewest_102 ?_
            refine lv_icmp_gt (tgt := 145) hx hb dX7_layFewest_105 (by decide) (fun c_3 => ?_) (fun c_3 => ?_)
            rotate_left
            · exact absurd (nI_lt (a := n9) (b := mm) (by omega) (by omega)) c_3
            exact hret _ _ _ _ _ _ (1, gw, gf, nw) dX7_layFewest_145 hS (Nat.le_of_ble_eq_true rfl) (Nat.le_of_ble_eq_true rfl) ⟨hLF.1, hnw, hn5, hv5, LFI_e (g := (gM n9 v ea)) hn5 (show n9 < mm by omega) hLF⟩ (hP.sub [0, 1, 2, 3, 4, 5, 6, 7, 8] rfl) (hD.sub [0, 1, 2, 3, 4, 5, 6, 7, 8] rfl rfl)
          | succ n ih_100 =>
            intro mm gw nw hm hLF hnw H locs ls hP hD hS hl
            refine lv_iload_n hx hb dX7_layFewest_100 rfl (lv_at hl 1 rfl) ?_
            refine lv_aload_n hx hb dX7_layFewest_101 rfl (lv_at hl 0 rfl) ?_
            refine va_get (D := D) (ci := 7) (v := .int (nI n9)) (C := RX7) (T := TX7) (N := 27) hx hb hts iT_X7 hown hK1 hP 0 rfl rfl 7 (by decide) (hts _ t_558) (fun _ h9 => h9) rfl dX7_layFewest_102 ?_
            refine lv_icmp_gt (tgt := 145) hx hb dX7_layFewest_105 (by decide) (fun c_4 => ?_) (fun c_4 => ?_)
            · exact absurd c_4 (nI_nlt (a := n9) (b := mm) (by omega) (by omega))
            refine lv_iconst (v := 1) hx hb dX7_layFewest_108 (by decide) ?_
            refine lv_istore_n (lv' := [(2, .int 1), (0, .ref m0), (1, .int (nI mm))]) hx hb dX7_layFewest_109 rfl hl (by decide) rfl (fun ls hl => ?_)
            have LOOP_110 : ∀ (n : Nat) (sx : Nat) (gx : Nat → Int32) (nx : Nat → Int32), (sx + n = 2 ^ n9) → (1 ≤ sx) → (LFI (gM n9 v ea) (rMd r9 ro re rn rg) gx mm sx) → (SDn 4 nx) → ∀ (H : Heap) (locs : List Loc) (ls : Array Slot), va_P D vwCl [kX7 m0 (nI z) m1 (nI r9) m2 m3 m4 m5 (nI n9) (nI v) m6 k1 k2 k3 k4 m7 k5 k6 k7 1 m8 m9 m10 k9 m11 m12 m13 hv, kI cI m2 9 ro, kI cI m3 9 re, kI cI m4 9 rn, kI cI m5 27 rg, kI cI m6 12 ea, kI cI m8 2400 gx, kI cI m9 32 gf, kI cI m10 4 nx] H → va_D A [kX7 m0 (nI z) m1 (nI r9) m2 m3 m4 m5 (nI n9) (nI v) m6 k1 k2 k3 k4 m7 k5 k6 k7 1 m8 m9 m10 k9 m11 m12 m13 hv, kI cI m2 9 ro, kI cI m3 9 re, kI cI m4 9 rn, kI cI m5 27 rg, kI cI m6 12 ea, kI cI m8 2400 gx, kI cI m9 32 gf, kI cI m10 4 nx] → va_S A s.heap H locs → lv_has ls 3 [(0, .ref m0), (1, .int (nI mm)), (2, .int (nI sx))] → W p l e (rM 7 0 0 182) s m ([.ref m0] : List Value).toArray below meth c H locs 0 0 Q (F0 m 110 ls []) := by
              intro n
              induction n with
              | zero =>
                intro sx gx nx hsx hs1 hLG hnx H locs ls hP hD hS hl
                refine lv_iload_n hx hb dX7_layFewest_110 rfl (lv_at hl 2 rfl) ?_
                refine lv_iconst (v := 1) hx hb dX7_layFewest_111 (by decide) ?_
                refine lv_aload_n hx hb dX7_layFewest_112 rfl (lv_at hl 0 rfl) ?_
                refine va_get (D := D) (ci := 7) (v := .int (nI n9)) (C := RX7) (T := TX7) (N := 27) hx hb hts iT_X7 hown hK1 hP 0 rfl rfl 7 (by decide) (hts _ t_558) (fun _ h9 => h9) rfl dX7_layFewest_113 ?_
                refine lv_ishl hx hb dX7_layFewest_116 ?_
                refine lv_nmi (show _ = (nI (2 ^ n9) : Int32) from shl1 (by omega)) ?_
                refine lv_icmp_ge (tgt := 139) hx hb dX7_layFewest_117 (by decide) (fun c_5 => ?_) (fun c_5 => ?_)
                rotate_left
                · exact absurd (nI_le (a := (2 ^ n9)) (b := sx) (by omega) (by omega)) c_5
                refine lv_iinc (v := nI (mm + 1)) (lv' := [(1, .int (nI (mm + 1))), (0, .ref m0), (2, .int (nI sx))]) hx hb dX7_layFewest_139 hl (k := 1) rfl (nI_1 mm) (by decide) rfl (fun ls hl => ?_)
                refine lv_goto (tgt := 100) hx hb dX7_layFewest_142 (by decide) ?_
                exact ih_100 (mm + 1) gx nx (by omega) (LFI_r (show 2 ^ n9 ≤ sx by omega) hLG) hnx _ _ _ (hP.sub [0, 1, 2, 3, 4, 5, 6, 7, 8] rfl) (hD.sub [0, 1, 2, 3, 4, 5, 6, 7, 8] rfl rfl) hS (lv_sub hl [1, 0] rfl)
              | succ n ih_110 =>
                intro sx gx nx hsx hs1 hLG hnx H locs ls hP hD hS hl
                refine lv_iload_n hx hb dX7_layFewest_110 rfl (lv_at hl 2 rfl) ?_
                refine lv_iconst (v := 1) hx hb dX7_layFewest_111 (by decide) ?_
                refine lv_aload_n hx hb dX7_layFewest_112 rfl (lv_at hl 0 rfl) ?_
                refine va_get (D := D) (ci := 7) (v := .int (nI n9)) (C := RX7) (T := TX7) (N := 27) hx hb hts iT_X7 hown hK1 hP 0 rfl rfl 7 (by decide) (hts _ t_558) (fun _ h9 => h9) rfl dX7_layFewest_113 ?_
                refine lv_ishl hx hb dX7_layFewest_116 ?_
                refine lv_nmi (show _ = (nI (2 ^ n9) : Int32) from shl1 (by omega)) ?_
                refine lv_icmp_ge (tgt := 139) hx hb dX7_layFewest_117 (by decide) (fun c_6 => ?_) (fun c_6 => ?_)
                · exact absurd c_6 (nI_ge (a := sx) (b := (2 ^ n9)) (by omega) (by omega))
                have hz5 : zpc sx ≤ 5 := zpc_le (n := 5) (by decide) (show sx < 2 ^ 5 by omega)
                refine lv_iload_n hx hb dX7_layFewest_120 rfl (lv_at hl 2 rfl) ?_
                refine xc_i (wc := []) (wr := [kX7 m0 (nI z) m1 (nI r9) m2 m3 m4 m5 (nI n9) (nI v) m6 k1 k2 k3 k4 m7 k5 k6 k7 1 m8 m9 m10 k9 m11 m12 m13 hv, kI cI m2 9 ro, kI cI m3 9 re, kI cI m4 9 rn, kI cI m5 27 rg, kI cI m6 12 ea, kI cI m8 2400 gx, kI cI m9 32 gf, kI cI m10 4 nx]) (xrS (n := 1) (As := [.int (nI sx)]) (rest := []) hd hK hP hD (c_X7_ones l D cI cJ cZ cR _ sx (by omega)) (gS t_766 mS_X7_ones) hS_X7_ones ⟨(Nat.le_of_ble_eq_true rfl), (Nat.le_of_ble_eq_true rfl)⟩ [] rfl rfl rfl hl.1 rfl (Nat.le_of_ble_eq_true rfl) dX7_layFewest_121 ⟨(Nat.le_of_ble_eq_true rfl), (Nat.le_of_ble_eq_true rfl)⟩) hP hD hS hA [] [0, 1, 2, 3, 4, 5, 6, 7, 8] rfl rfl rfl (by decide) (fun r_7 u_8 H locs hw_9 hP hD hS => ?_)
                have hw_10 : r_7 = (nI (zpc sx)) := hw_9
                subst hw_10
                have hP : va_P D vwCl [kX7 m0 (nI z) m1 (nI r9) m2 m3 m4 m5 (nI n9) (nI v) m6 k1 k2 k3 k4 m7 k5 k6 k7 1 m8 m9 m10 k9 m11 m12 m13 hv, kI cI m2 9 ro, kI cI m3 9 re, kI cI m4 9 rn, kI cI m5 27 rg, kI cI m6 12 ea, kI cI m8 2400 gx, kI cI m9 32 gf, kI cI m10 4 nx] H := hP
                have hD : va_D A [kX7 m0 (nI z) m1 (nI r9) m2 m3 m4 m5 (nI n9) (nI v) m6 k1 k2 k3 k4 m7 k5 k6 k7 1 m8 m9 m10 k9 m11 m12 m13 hv, kI cI m2 9 ro, kI cI m3 9 re, kI cI m4 9 rn, kI cI m5 27 rg, kI cI m6 12 ea, kI cI m8 2400 gx, kI cI m9 32 gf, kI cI m10 4 nx] := hD
                refine lv_iload_n hx hb dX7_layFewest_124 rfl (lv_at hl 1 rfl) ?_
                refine lv_icmp_ne (tgt := 133) hx hb dX7_layFewest_125 (by decide) (fun c_11 => ?_) (fun c_11 => ?_)
                · skip
                  refine lv_iinc (v := nI (sx + 1)) (lv' := [(2, .int (nI (sx + 1))), (0, .ref m0), (1, .int (nI mm))]) hx hb dX7_layFewest_133 hl (k := 2) rfl (nI_1 sx) (by decide) rfl (fun ls hl => ?_)
                  refine lv_goto (tgt := 110) hx hb dX7_layFewest_136 (by decide) ?_
                  exact ih_110 (sx + 1) gx nx (by omega) (by omega) (LFI_n (fun q => c_11 (by rw [q])) hLG) hnx _ _ _ (hP.sub [0, 1, 2, 3, 4, 5, 6, 7, 8] rfl) (hD.sub [0, 1, 2, 3, 4, 5, 6, 7, 8] rfl rfl) hS (lv_sub hl [1, 2, 0] rfl)
                · skip
                  have hpc := (nI_eq (a := zpc sx) (b := mm) (by omega) (by omega)).mp c_11
                  refine lv_aload_n hx hb dX7_layFewest_128 rfl (lv_at hl 0 rfl) ?_
                  refine lv_iload_n hx hb dX7_layFewest_129 rfl (lv_at hl 2 rfl) ?_
                  refine xc_v (wc := [kX7 m0 (nI z) m1 (nI r9) m2 m3 m4 m5 (nI n9) (nI v) m6 k1 k2 k3 k4 m7 k5 k6 k7 1 m8 m9 m10 k9 m11 m12 m13 hv, kI cI m2 9 ro, kI cI m3 9 re, kI cI m4 9 rn, kI cI m5 27 rg, kI cI m6 12 ea, kI cI m8 2400 gx, kI cI m9 32 gf, kI cI m10 4 nx]) (wr := []) (xrV (n := 1) (As := [.int (nI sx)]) (rest := []) (ci := 7) (q0 := 0) hd hK hP hD (c_X7_laySet l D cI cJ cZ cR _ m0 m1 m2 m3 m4 m5 m6 m7 m8 m9 m10 m11 m12 m13 z r9 n9 v k1 k2 k3 k4 k5 k6 k7 1 k9 hv ro re rn rg ea gx gf nx sx hr9 hMQ hLG.1 hn5 hv5 hEA hnx hNF9 hs1 (by omega) hv1 (LFI_m hpc (show sx < 2 ^ n9 by omega) hn5 hLG)) (gV t_769 mV_X7_laySet) hV_X7_laySet ⟨(Nat.le_of_ble_eq_true rfl), (Nat.le_of_ble_eq_true rfl)⟩ rfl rfl [0, 1, 2, 3, 4, 5, 6, 7, 8] rfl rfl rfl hl.1 rfl (Nat.le_of_ble_eq_true rfl) dX7_layFewest_130 ⟨(Nat.le_of_ble_eq_true rfl), (Nat.le_of_ble_eq_true rfl)⟩) hP hD hS hA [0, 1, 2, 3, 4, 5, 6, 7, 8] [] rfl rfl rfl (by decide) (fun u_13 H locs hw_14 hP hD hS => ?_)
                  obtain ⟨fw2_15, na2_16⟩ := u_13
                  obtain ⟨hw_17, hw_18, hw_19, hw_20⟩ : (FWI fw2_15) ∧ (KS gx fw2_15 sx) ∧ (MOK (gM n9 v ea) (rMd r9 ro re rn rg) (trb fw2_15) sx) ∧ (SDn 4 na2_16) := hw_14
                  have hF2 := hw_17
                  have hK2 := hw_18
                  have hM2 := hw_19
                  have hS2 := hw_20
                  have hP : va_P D vwCl [kX7 m0 (nI z) m1 (nI r9) m2 m3 m4 m5 (nI n9) (nI v) m6 k1 k2 k3 k4 m7 k5 k6 k7 1 m8 m9 m10 k9 m11 m12 m13 hv, kI cI m2 9 ro, kI cI m3 9 re, kI cI m4 9 rn, kI cI m5 27 rg, kI cI m6 12 ea, kI cI m8 2400 fw2_15, kI cI m9 32 gf, kI cI m10 4 na2_16] H := hP
                  have hD : va_D A [kX7 m0 (nI z) m1 (nI r9) m2 m3 m4 m5 (nI n9) (nI v) m6 k1 k2 k3 k4 m7 k5 k6 k7 1 m8 m9 m10 k9 m11 m12 m13 hv, kI cI m2 9 ro, kI cI m3 9 re, kI cI m4 9 rn, kI cI m5 27 rg, kI cI m6 12 ea, kI cI m8 2400 fw2_15, kI cI m9 32 gf, kI cI m10 4 na2_16] := hD
                  refine lv_iinc (v := nI (sx + 1)) (lv' := [(2, .int (nI (sx + 1))), (0, .ref m0), (1, .int (nI mm))]) hx hb dX7_layFewest_133 hl (k := 2) rfl (nI_1 sx) (by decide) rfl (fun ls hl => ?_)
                  refine lv_goto (tgt := 110) hx hb dX7_layFewest_136 (by decide) ?_
                  exact ih_110 (sx + 1) fw2_15 na2_16 (by omega) (by omega) (LFI_y hv5 hn5 hF2 hK2 hM2 hLG) hS2 _ _ _ (hP.sub [0, 1, 2, 3, 4, 5, 6, 7, 8] rfl) (hD.sub [0, 1, 2, 3, 4, 5, 6, 7, 8] rfl rfl) hS (lv_sub hl [1, 2, 0] rfl)
            exact LOOP_110 (2 ^ n9 - 1) 1 gw nw (by omega) (by omega) hLF hnw _ _ _ (hP.sub [0, 1, 2, 3, 4, 5, 6, 7, 8] rfl) (hD.sub [0, 1, 2, 3, 4, 5, 6, 7, 8] rfl rfl) hS (lv_sub hl [1, 2, 0] rfl)
        exact LOOP_100 n9 1 fw na (by omega) (LFI_0 hn5 hFW) hsd _ _ _ (hP.sub [0, 1, 2, 3, 4, 5, 6, 7, 8] rfl) (hD.sub [0, 1, 2, 3, 4, 5, 6, 7, 8] rfl rfl) hS (lv_sub hl [1, 0] rfl)
      | succ n ih_15 =>
        intro i gf hi hNF H locs ls hP hD hS hl
        refine lv_iload_n hx hb dX7_layFewest_15 rfl (lv_at hl 1 rfl) ?_
        refine lv_iconst (v := 1) hx hb dX7_layFewest_16 (by decide) ?_
        refine lv_aload_n hx hb dX7_layFewest_17 rfl (lv_at hl 0 rfl) ?_
        refine va_get (D := D) (ci := 7) (v := .int (nI n9)) (C := RX7) (T := TX7) (N := 27) hx hb hts iT_X7 hown hK1 hP 0 rfl rfl 7 (by decide) (hts _ t_558) (fun _ h9 => h9) rfl dX7_layFewest_18 ?_
        refine lv_ishl hx hb dX7_layFewest_21 ?_
        refine lv_nmi (show _ = (nI (2 ^ n9) : Int32) from shl1 (by omega)) ?_
        refine lv_icmp_ge (tgt := 98) hx hb dX7_layFewest_22 (by decide) (fun c_21 => ?_) (fun c_21 => ?_)
        · exact absurd c_21 (nI_ge (a := i) (b := (2 ^ n9)) (by omega) (by omega))
        refine lv_aload_n hx hb dX7_layFewest_25 rfl (lv_at hl 0 rfl) ?_
        refine va_get (D := D) (ci := 7) (v := .ref m9) (C := RX7) (T := TX7) (N := 27) hx hb hts iT_X7 hown hK1 hP 0 rfl rfl 20 (by decide) (hts _ t_571) (fun _ h9 => h9) rfl dX7_layFewest_26 ?_
        refine lv_iload_n hx hb dX7_layFewest_29 rfl (lv_at hl 1 rfl) ?_
        refine lv_iconst (v := 0) hx hb dX7_layFewest_30 (by decide) ?_
        refine va_iast hx hb hK1 hP hD hS 7 0 rfl rfl (vp_in_nI (by omega) (by omega)) dX7_layFewest_31 (fun H locs hP hD hS => ?_)
        rw [nI_clamp (n := i) (by omega)] at hP hD
        have hP : va_P D vwCl [kX7 m0 (nI z) m1 (nI r9) m2 m3 m4 m5 (nI n9) (nI v) m6 k1 k2 k3 k4 m7 k5 k6 k7 1 m8 m9 m10 k9 m11 m12 m13 hv, kI cI m2 9 ro, kI cI m3 9 re, kI cI m4 9 rn, kI cI m5 27 rg, kI cI m6 12 ea, kI cI m8 2400 fw, kI cI m9 32 (upd gf i 0), kI cI m10 4 na] H := hP
        have hD : va_D A [kX7 m0 (nI z) m1 (nI r9) m2 m3 m4 m5 (nI n9) (nI v) m6 k1 k2 k3 k4 m7 k5 k6 k7 1 m8 m9 m10 k9 m11 m12 m13 hv, kI cI m2 9 ro, kI cI m3 9 re, kI cI m4 9 rn, kI cI m5 27 rg, kI cI m6 12 ea, kI cI m8 2400 fw, kI cI m9 32 (upd gf i 0), kI cI m10 4 na] := hD
        refine lv_iconst (v := 0) hx hb dX7_layFewest_32 (by decide) ?_
        refine lv_istore_n (lv' := [(2, .int 0), (0, .ref m0), (1, .int (nI i))]) hx hb dX7_layFewest_33 rfl hl (by decide) rfl (fun ls hl => ?_)
        have LOOP_34 : ∀ (n : Nat) (k : Nat) (gg : Nat → Int32), (k + n = n9) → (NFI n9 ea gg i ∧ gg i = nI (NMm ea i k)) → ∀ (H : Heap) (locs : List Loc) (ls : Array Slot), va_P D vwCl [kX7 m0 (nI z) m1 (nI r9) m2 m3 m4 m5 (nI n9) (nI v) m6 k1 k2 k3 k4 m7 k5 k6 k7 1 m8 m9 m10 k9 m11 m12 m13 hv, kI cI m2 9 ro, kI cI m3 9 re, kI cI m4 9 rn, kI cI m5 27 rg, kI cI m6 12 ea, kI cI m8 2400 fw, kI cI m9 32 gg, kI cI m10 4 na] H → va_D A [kX7 m0 (nI z) m1 (nI r9) m2 m3 m4 m5 (nI n9) (nI v) m6 k1 k2 k3 k4 m7 k5 k6 k7 1 m8 m9 m10 k9 m11 m12 m13 hv, kI cI m2 9 ro, kI cI m3 9 re, kI cI m4 9 rn, kI cI m5 27 rg, kI cI m6 12 ea, kI cI m8 2400 fw, kI cI m9 32 gg, kI cI m10 4 na] → va_S A s.heap H locs → lv_has ls 3 [(0, .ref m0), (1, .int (nI i)), (2, .int (nI k))] → W p l e (rM 7 0 0 182) s m ([.ref m0] : List Value).toArray below meth c H locs 0 0 Q (F0 m 34 ls []) := by
          intro n
          induction n with
          | zero =>
            intro k gg hk hNG H locs ls hP hD hS hl
            refine lv_iload_n hx hb dX7_layFewest_34 rfl (lv_at hl 2 rfl) ?_
            refine lv_aload_n hx hb dX7_layFewest_35 rfl (lv_at hl 0 rfl) ?_
            refine va_get (D := D) (ci := 7) (v := .int (nI n9)) (C := RX7) (T := TX7) (N := 27) hx hb hts iT_X7 hown hK1 hP 0 rfl rfl 7 (by decide) (hts _ t_558) (fun _ h9 => h9) rfl dX7_layFewest_36 ?_
            refine lv_icmp_ge (tgt := 92) hx hb dX7_layFewest_39 (by decide) (fun c_22 => ?_) (fun c_22 => ?_)
            rotate_left
            · exact absurd (nI_le (a := n9) (b := k) (by omega) (by omega)) c_22
            refine lv_iinc (v := nI (i + 1)) (lv' := [(1, .int (nI (i + 1))), (0, .ref m0), (2, .int (nI k))]) hx hb dX7_layFewest_92 hl (k := 1) rfl (nI_1 i) (by decide) rfl (fun ls hl => ?_)
            refine lv_goto (tgt := 15) hx hb dX7_layFewest_95 (by decide) ?_
            exact ih_15 (i + 1) gg (by omega) (NFI_s (show k = n9 by omega) hNG) _ _ _ (hP.sub [0, 1, 2, 3, 4, 5, 6, 7, 8] rfl) (hD.sub [0, 1, 2, 3, 4, 5, 6, 7, 8] rfl rfl) hS (lv_sub hl [1, 0] rfl)
          | succ n ih_34 =>
            intro k gg hk hNG H locs ls hP hD hS hl
            refine lv_iload_n hx hb dX7_layFewest_34 rfl (lv_at hl 2 rfl) ?_
            refine lv_aload_n hx hb dX7_layFewest_35 rfl (lv_at hl 0 rfl) ?_
            refine va_get (D := D) (ci := 7) (v := .int (nI n9)) (C := RX7) (T := TX7) (N := 27) hx hb hts iT_X7 hown hK1 hP 0 rfl rfl 7 (by decide) (hts _ t_558) (fun _ h9 => h9) rfl dX7_layFewest_36 ?_
            refine lv_icmp_ge (tgt := 92) hx hb dX7_layFewest_39 (by decide) (fun c_23 => ?_) (fun c_23 => ?_)
            · exact absurd c_23 (nI_ge (a := k) (b := n9) (by omega) (by omega))
            obtain ⟨ek1, ek2, ek3, ek4⟩ := EAI_at hEA hv5 (show k < n9 by omega)
            refine lv_aload_n hx hb dX7_layFewest_42 rfl (lv_at hl 0 rfl) ?_
            refine va_get (D := D) (ci := 7) (v := .ref m9) (C := RX7) (T := TX7) (N := 27) hx hb hts iT_X7 hown hK1 hP 0 rfl rfl 20 (by decide) (hts _ t_571) (fun _ h9 => h9) rfl dX7_layFewest_43 ?_
            refine lv_iload_n hx hb dX7_layFewest_46 rfl (lv_at hl 1 rfl) ?_
            refine lv_dup2_11 hx hb dX7_layFewest_47 rfl rfl ?_
            refine va_iald hx hb hK1 hP 7 0 rfl rfl (vp_in_nI (by omega) (by omega)) dX7_layFewest_48 ?_
            refine lv_nmi (show _ = gg i from by rw [nI_clamp (n := i) (by omega)]) ?_
            refine lv_nmi (show _ = (nI (NMm ea i k) : Int32) from hNG.2) ?_
            refine lv_iload_n hx hb dX7_layFewest_49 rfl (lv_at hl 1 rfl) ?_
            refine lv_iload_n hx hb dX7_layFewest_50 rfl (lv_at hl 2 rfl) ?_
            refine xc_i (wc := []) (wr := [kX7 m0 (nI z) m1 (nI r9) m2 m3 m4 m5 (nI n9) (nI v) m6 k1 k2 k3 k4 m7 k5 k6 k7 1 m8 m9 m10 k9 m11 m12 m13 hv, kI cI m2 9 ro, kI cI m3 9 re, kI cI m4 9 rn, kI cI m5 27 rg, kI cI m6 12 ea, kI cI m8 2400 fw, kI cI m9 32 gg, kI cI m10 4 na]) (xrS (n := 2) (As := [.int (nI i), .int (nI k)]) (rest := [.int (nI (NMm ea i k)), .int (nI i), .ref m9]) hd hK hP hD (n_has l D cI cJ cZ cR _ i k (by omega) (by omega)) (gS t_671 mS_X7_has) hS_X7_has ⟨(Nat.le_of_ble_eq_true rfl), (Nat.le_of_ble_eq_true rfl)⟩ [] rfl rfl rfl hl.1 rfl (Nat.le_of_ble_eq_true rfl) dX7_layFewest_51 ⟨(Nat.le_of_ble_eq_true rfl), (Nat.le_of_ble_eq_true rfl)⟩) hP hD hS hA [] [0, 1, 2, 3, 4, 5, 6, 7, 8] rfl rfl rfl (by decide) (fun r_24 u_25 H locs hw_26 hP hD hS => ?_)
            have hw_27 : r_24 = (tB i k) := hw_26
            subst hw_27
            have hP : va_P D vwCl [kX7 m0 (nI z) m1 (nI r9) m2 m3 m4 m5 (nI n9) (nI v) m6 k1 k2 k3 k4 m7 k5 k6 k7 1 m8 m9 m10 k9 m11 m12 m13 hv, kI cI m2 9 ro, kI cI m3 9 re, kI cI m4 9 rn, kI cI m5 27 rg, kI cI m6 12 ea, kI cI m8 2400 fw, kI cI m9 32 gg, kI cI m10 4 na] H := hP
            have hD : va_D A [kX7 m0 (nI z) m1 (nI r9) m2 m3 m4 m5 (nI n9) (nI v) m6 k1 k2 k3 k4 m7 k5 k6 k7 1 m8 m9 m10 k9 m11 m12 m13 hv, kI cI m2 9 ro, kI cI m3 9 re, kI cI m4 9 rn, kI cI m5 27 rg, kI cI m6 12 ea, kI cI m8 2400 fw, kI cI m9 32 gg, kI cI m10 4 na] := hD
            refine lv_if_eq (tgt := 83) hx hb dX7_layFewest_54 (by decide) (fun c_28 => ?_) (fun c_28 => ?_)
            · skip
              refine lv_iconst (v := 0) hx hb dX7_layFewest_83 (by decide) ?_
              refine lv_ior hx hb dX7_layFewest_84 ?_
              refine lv_nmi (show _ = (nI (NMm ea i (k + 1)) : Int32) from nm_n (tB_n c_28)) ?_
              refine va_iast hx hb hK1 hP hD hS 7 0 rfl rfl (vp_in_nI (by omega) (by omega)) dX7_layFewest_85 (fun H locs hP hD hS => ?_)
              rw [nI_clamp (n := i) (by omega)] at hP hD
              have hP : va_P D vwCl [kX7 m0 (nI z) m1 (nI r9) m2 m3 m4 m5 (nI n9) (nI v) m6 k1 k2 k3 k4 m7 k5 k6 k7 1 m8 m9 m10 k9 m11 m12 m13 hv, kI cI m2 9 ro, kI cI m3 9 re, kI cI m4 9 rn, kI cI m5 27 rg, kI cI m6 12 ea, kI cI m8 2400 fw, kI cI m9 32 (upd gg i (nI (NMm ea i (k + 1)))), kI cI m10 4 na] H := hP
              have hD : va_D A [kX7 m0 (nI z) m1 (nI r9) m2 m3 m4 m5 (nI n9) (nI v) m6 k1 k2 k3 k4 m7 k5 k6 k7 1 m8 m9 m10 k9 m11 m12 m13 hv, kI cI m2 9 ro, kI cI m3 9 re, kI cI m4 9 rn, kI cI m5 27 rg, kI cI m6 12 ea, kI cI m8 2400 fw, kI cI m9 32 (upd gg i (nI (NMm ea i (k + 1)))), kI cI m10 4 na] := hD
              refine lv_iinc (v := nI (k + 1)) (lv' := [(2, .int (nI (k + 1))), (0, .ref m0), (1, .int (nI i))]) hx hb dX7_layFewest_86 hl (k := 2) rfl (nI_1 k) (by decide) rfl (fun ls hl => ?_)
              refine lv_goto (tgt := 34) hx hb dX7_layFewest_89 (by decide) ?_
              exact ih_34 (k + 1) (upd gg i (nI (NMm ea i (k + 1)))) (by omega) ⟨NFI_u hNG.1, pk_us⟩ _ _ _ (hP.sub [0, 1, 2, 3, 4, 5, 6, 7, 8] rfl) (hD.sub [0, 1, 2, 3, 4, 5, 6, 7, 8] rfl rfl) hS (lv_sub hl [1, 2, 0] rfl)
            · skip
              refine lv_iconst (v := 1) hx hb dX7_layFewest_57 (by decide) ?_
              refine lv_aload_n hx hb dX7_layFewest_58 rfl (lv_at hl 0 rfl) ?_
              refine va_get (D := D) (ci := 7) (v := .ref m6) (C := RX7) (T := TX7) (N := 27) hx hb hts iT_X7 hown hK1 hP 0 rfl rfl 9 (by decide) (hts _ t_560) (fun _ h9 => h9) rfl dX7_layFewest_59 ?_
              refine lv_iload_n hx hb dX7_layFewest_62 rfl (lv_at hl 2 rfl) ?_
              refine va_iald hx hb hK1 hP 5 0 rfl rfl (vp_in_nI (by omega) (by omega)) dX7_layFewest_63 ?_
              refine lv_nmi (show _ = ea k from by rw [nI_clamp (n := k) (by omega)]) ?_
              refine lv_nmi (show _ = (nI (tn (ea k)) : Int32) from ek1) ?_
              refine xc_i (wc := []) (wr := [kX7 m0 (nI z) m1 (nI r9) m2 m3 m4 m5 (nI n9) (nI v) m6 k1 k2 k3 k4 m7 k5 k6 k7 1 m8 m9 m10 k9 m11 m12 m13 hv, kI cI m2 9 ro, kI cI m3 9 re, kI cI m4 9 rn, kI cI m5 27 rg, kI cI m6 12 ea, kI cI m8 2400 fw, kI cI m9 32 gg, kI cI m10 4 na]) (xrS (n := 1) (As := [.int (nI (tn (ea k)))]) (rest := [.int 1, .int (nI (NMm ea i k)), .int (nI i), .ref m9]) hd hK hP hD (n_fromOf l D cI cJ cZ cR _ (tn (ea k)) (by omega)) (gS t_716 mS_X7_fromOf) hS_X7_fromOf ⟨(Nat.le_of_ble_eq_true rfl), (Nat.le_of_ble_eq_true rfl)⟩ [] rfl rfl rfl hl.1 rfl (Nat.le_of_ble_eq_true rfl) dX7_layFewest_64 ⟨(Nat.le_of_ble_eq_true rfl), (Nat.le_of_ble_eq_true rfl)⟩) hP hD hS hA [] [0, 1, 2, 3, 4, 5, 6, 7, 8] rfl rfl rfl (by decide) (fun r_29 u_30 H locs hw_31 hP hD hS => ?_)
              have hw_32 : r_29 = (nI ((tn (ea k)) / 10 % 10)) := hw_31
              subst hw_32
              have hP : va_P D vwCl [kX7 m0 (nI z) m1 (nI r9) m2 m3 m4 m5 (nI n9) (nI v) m6 k1 k2 k3 k4 m7 k5 k6 k7 1 m8 m9 m10 k9 m11 m12 m13 hv, kI cI m2 9 ro, kI cI m3 9 re, kI cI m4 9 rn, kI cI m5 27 rg, kI cI m6 12 ea, kI cI m8 2400 fw, kI cI m9 32 gg, kI cI m10 4 na] H := hP
              have hD : va_D A [kX7 m0 (nI z) m1 (nI r9) m2 m3 m4 m5 (nI n9) (nI v) m6 k1 k2 k3 k4 m7 k5 k6 k7 1 m8 m9 m10 k9 m11 m12 m13 hv, kI cI m2 9 ro, kI cI m3 9 re, kI cI m4 9 rn, kI cI m5 27 rg, kI cI m6 12 ea, kI cI m8 2400 fw, kI cI m9 32 gg, kI cI m10 4 na] := hD
              refine lv_ishl hx hb dX7_layFewest_67 ?_
              refine lv_iconst (v := 1) hx hb dX7_layFewest_68 (by decide) ?_
              refine lv_aload_n hx hb dX7_layFewest_69 rfl (lv_at hl 0 rfl) ?_
              refine va_get (D := D) (ci := 7) (v := .ref m6) (C := RX7) (T := TX7) (N := 27) hx hb hts iT_X7 hown hK1 hP 0 rfl rfl 9 (by decide) (hts _ t_560) (fun _ h9 => h9) rfl dX7_layFewest_70 ?_
              refine lv_iload_n hx hb dX7_layFewest_73 rfl (lv_at hl 2 rfl) ?_
              refine va_iald hx hb hK1 hP 5 0 rfl rfl (vp_in_nI (by omega) (by omega)) dX7_layFewest_74 ?_
              refine lv_nmi (show _ = ea k from by rw [nI_clamp (n := k) (by omega)]) ?_
              refine lv_nmi (show _ = (nI (tn (ea k)) : Int32) from ek1) ?_
              refine xc_i (wc := []) (wr := [kX7 m0 (nI z) m1 (nI r9) m2 m3 m4 m5 (nI n9) (nI v) m6 k1 k2 k3 k4 m7 k5 k6 k7 1 m8 m9 m10 k9 m11 m12 m13 hv, kI cI m2 9 ro, kI cI m3 9 re, kI cI m4 9 rn, kI cI m5 27 rg, kI cI m6 12 ea, kI cI m8 2400 fw, kI cI m9 32 gg, kI cI m10 4 na]) (xrS (n := 1) (As := [.int (nI (tn (ea k)))]) (rest := [.int 1, .int ((1 : Int32) <<< ((nI ((tn (ea k)) / 10 % 10)) &&& 31)), .int (nI (NMm ea i k)), .int (nI i), .ref m9]) hd hK hP hD (n_toOf l D cI cJ cZ cR _ (tn (ea k)) (by omega)) (gS t_723 mS_X7_toOf) hS_X7_toOf ⟨(Nat.le_of_ble_eq_true rfl), (Nat.le_of_ble_eq_true rfl)⟩ [] rfl rfl rfl hl.1 rfl (Nat.le_of_ble_eq_true rfl) dX7_layFewest_75 ⟨(Nat.le_of_ble_eq_true rfl), (Nat.le_of_ble_eq_true rfl)⟩) hP hD hS hA [] [0, 1, 2, 3, 4, 5, 6, 7, 8] rfl rfl rfl (by decide) (fun r_33 u_34 H locs hw_35 hP hD hS => ?_)
              have hw_36 : r_33 = (nI ((tn (ea k)) % 10)) := hw_35
              subst hw_36
              have hP : va_P D vwCl [kX7 m0 (nI z) m1 (nI r9) m2 m3 m4 m5 (nI n9) (nI v) m6 k1 k2 k3 k4 m7 k5 k6 k7 1 m8 m9 m10 k9 m11 m12 m13 hv, kI cI m2 9 ro, kI cI m3 9 re, kI cI m4 9 rn, kI cI m5 27 rg, kI cI m6 12 ea, kI cI m8 2400 fw, kI cI m9 32 gg, kI cI m10 4 na] H := hP
              have hD : va_D A [kX7 m0 (nI z) m1 (nI r9) m2 m3 m4 m5 (nI n9) (nI v) m6 k1 k2 k3 k4 m7 k5 k6 k7 1 m8 m9 m10 k9 m11 m12 m13 hv, kI cI m2 9 ro, kI cI m3 9 re, kI cI m4 9 rn, kI cI m5 27 rg, kI cI m6 12 ea, kI cI m8 2400 fw, kI cI m9 32 gg, kI cI m10 4 na] := hD
              refine lv_ishl hx hb dX7_layFewest_78 ?_
              refine lv_ior hx hb dX7_layFewest_79 ?_
              refine lv_goto (tgt := 84) hx hb dX7_layFewest_80 (by decide) ?_
              refine lv_ior hx hb dX7_layFewest_84 ?_
              refine lv_nmi (show _ = (nI (NMm ea i (k + 1)) : Int32) from nm_y hEA hv5 (by omega) (tB_y c_28)) ?_
              refine va_iast hx hb hK1 hP hD hS 7 0 rfl rfl (vp_in_nI (by omega) (by omega)) dX7_layFewest_85 (fun H locs hP hD hS => ?_)
              rw [nI_clamp (n := i) (by omega)] at hP hD
              have hP : va_P D vwCl [kX7 m0 (nI z) m1 (nI r9) m2 m3 m4 m5 (nI n9) (nI v) m6 k1 k2 k3 k4 m7 k5 k6 k7 1 m8 m9 m10 k9 m11 m12 m13 hv, kI cI m2 9 ro, kI cI m3 9 re, kI cI m4 9 rn, kI cI m5 27 rg, kI cI m6 12 ea, kI cI m8 2400 fw, kI cI m9 32 (upd gg i (nI (NMm ea i (k + 1)))), kI cI m10 4 na] H := hP
              have hD : va_D A [kX7 m0 (nI z) m1 (nI r9) m2 m3 m4 m5 (nI n9) (nI v) m6 k1 k2 k3 k4 m7 k5 k6 k7 1 m8 m9 m10 k9 m11 m12 m13 hv, kI cI m2 9 ro, kI cI m3 9 re, kI cI m4 9 rn, kI cI m5 27 rg, kI cI m6 12 ea, kI cI m8 2400 fw, kI cI m9 32 (upd gg i (nI (NMm ea i (k + 1)))), kI cI m10 4 na] := hD
              refine lv_iinc (v := nI (k + 1)) (lv' := [(2, .int (nI (k + 1))), (0, .ref m0), (1, .int (nI i))]) hx hb dX7_layFewest_86 hl (k := 2) rfl (nI_1 k) (by decide) rfl (fun ls hl => ?_)
              refine lv_goto (tgt := 34) hx hb dX7_layFewest_89 (by decide) ?_
              exact ih_34 (k + 1) (upd gg i (nI (NMm ea i (k + 1)))) (by omega) ⟨NFI_u hNG.1, pk_us⟩ _ _ _ (hP.sub [0, 1, 2, 3, 4, 5, 6, 7, 8] rfl) (hD.sub [0, 1, 2, 3, 4, 5, 6, 7, 8] rfl rfl) hS (lv_sub hl [1, 2, 0] rfl)
        exact LOOP_34 n9 0 (upd gf i 0) (by omega) ⟨NFI_u hNF, pk_us.trans rfl⟩ _ _ _ (hP.sub [0, 1, 2, 3, 4, 5, 6, 7, 8] rfl) (hD.sub [0, 1, 2, 3, 4, 5, 6, 7, 8] rfl rfl) hS (lv_sub hl [1, 2, 0] rfl)
    exact LOOP_15 (2 ^ n9) 0 nf (by omega) (fun S hS => absurd hS (Nat.not_lt_zero _)) _ _ _ (hP.sub [0, 1, 2, 3, 4, 5, 6, 7, 8] rfl) (hD.sub [0, 1, 2, 3, 4, 5, 6, 7, 8] rfl rfl) hS (lv_sub hl [1, 0] rfl)
  · skip
    exact hret _ _ _ _ _ _ (k8, fw, nf, na) dX7_layFewest_7 hS (Nat.le_of_ble_eq_true rfl) (Nat.le_of_ble_eq_true rfl) ⟨hFW, hsd, hMO c_1⟩ (hP.sub [0, 1, 2, 3, 4, 5, 6, 7, 8] rfl) (hD.sub [0, 1, 2, 3, 4, 5, 6, 7, 8] rfl rfl)
set_option maxHeartbeats 4000000 in
set_option maxRecDepth 100000 in
theorem c_X7_fewestNow (sz : Nat) (m0 : Nat) (m1 : Nat) (m2 : Nat) (m3 : Nat) (m4 : Nat) (m5 : Nat) (m6 : Nat) (m7 : Nat) (m8 : Nat) (m9 : Nat) (m10 : Nat) (m11 : Nat) (m12 : Nat) (m13 : Nat) (z : Nat) (r9 : Nat) (n9 : Nat) (v : Nat) (k1 : Int32) (k2 : Int32) (k3 : Int32) (k4 : Int32) (k5 : Int32) (k6 : Int32) (k7 : Int32) (k8 : Int32) (k9 : Int32) (hv : Int64) (ro : Nat → Int32) (re : Nat → Int32) (rn : Nat → Int32) (rg : Nat → Int32) (ea : Nat → Int32) (fw : Nat → Int32) (nf : Nat → Int32) (na : Nat → Int32) (a : Nat) (hr9 : r9 ≤ 9) (hMQ : MRQ ro re rn rg r9) (hf : FgI n9 v) (hFW : FWI fw) (hsd : SDn 4 na) (hEA : EAI n9 v ea) (hMO : ¬ k8 = 0 → MOF n9 v ea ro re rn rg r9 fw) (ha3 : a < 3) : CTi l D cI cJ cZ cR yX7_fewestNow cX7_fewestNow 3 (some .int) 8 204 0 0 sz [.ref m0, .int (nI a)] [kX7 m0 (nI z) m1 (nI r9) m2 m3 m4 m5 (nI n9) (nI v) m6 k1 k2 k3 k4 m7 k5 k6 k7 k8 m8 m9 m10 k9 m11 m12 m13 hv, kI cI m2 9 ro, kI cI m3 9 re, kI cI m4 9 rn, kI cI m5 27 rg, kI cI m6 12 ea, kI cI m8 2400 fw, kI cI m9 32 nf, kI cI m10 4 na] (fun (r : Int32) (u : Int32 × (Nat → Int32) × (Nat → Int32) × (Nat → Int32)) => (FWI u.2.1) ∧ (SDn 4 u.2.2.2) ∧ (¬ u.1 = 0 → MOF n9 v ea ro re rn rg r9 u.2.1) ∧ (FeN a n9 v ea ro re rn rg r9 r)) (fun (u : Int32 × (Nat → Int32) × (Nat → Int32) × (Nat → Int32)) => [kX7 m0 (nI z) m1 (nI r9) m2 m3 m4 m5 (nI n9) (nI v) m6 k1 k2 k3 k4 m7 k5 k6 k7 u.1 m8 m9 m10 k9 m11 m12 m13 hv, kI cI m2 9 ro, kI cI m3 9 re, kI cI m4 9 rn, kI cI m5 27 rg, kI cI m6 12 ea, kI cI m8 2400 u.2.1, kI cI m9 32 u.2.2.1, kI cI m10 4 u.2.2.2]) := by
  refine CTi.of (ty := .int) (by decide) (Nat.le_of_ble_eq_true rfl) rfl ?_
  intro p e s m below meth c A Q ls hd hin hK hsz hP hD hA hS hl hret
  obtain ⟨hx, hb, hml, hown, hts⟩ := id hd
  have hK1 := hK.1
  have hown : s.vm.findClass RX7 = some m.cls := hown
  have hl : lv_has ls 3 [(0, .ref m0), (1, .int (nI a))] := hl
  have hn12 := hf.1
  have hfv := hf.2.2
  have hM9 : zM9 = 1000000 := rfl
  refine lv_aload_n hx hb dX7_fewestNow_0 rfl (lv_at hl 0 rfl) ?_
  refine xc_i (wc := [kX7 m0 (nI z) m1 (nI r9) m2 m3 m4 m5 (nI n9) (nI v) m6 k1 k2 k3 k4 m7 k5 k6 k7 k8 m8 m9 m10 k9 m11 m12 m13 hv, kI cI m6 12 ea]) (wr := [kI cI m2 9 ro, kI cI m3 9 re, kI cI m4 9 rn, kI cI m5 27 rg, kI cI m8 2400 fw, kI cI m9 32 nf, kI cI m10 4 na]) (xrV (n := 0) (As := []) (rest := []) (ci := 7) (q0 := 0) hd hK hP hD (c_X7_isDone l D cI cJ cZ cR _ m0 m1 m2 m3 m4 m5 m6 m7 m8 m9 m10 m11 m12 m13 z r9 n9 v k1 k2 k3 k4 k5 k6 k7 k8 k9 hv ea hf) (gV t_734 mV_X7_isDone) hV_X7_isDone ⟨(Nat.le_of_ble_eq_true rfl), (Nat.le_of_ble_eq_true rfl)⟩ rfl rfl [0, 5] rfl rfl rfl hl.1 rfl (Nat.le_of_ble_eq_true rfl) dX7_fewestNow_1 ⟨(Nat.le_of_ble_eq_true rfl), (Nat.le_of_ble_eq_true rfl)⟩) hP hD hS hA [0, 5] [1, 2, 3, 4, 6, 7, 8] rfl rfl rfl (by decide) (fun r_1 u_2 H locs hw_3 hP hD hS => ?_)
  obtain ⟨hw_4, hw_5⟩ : (r_1 = (mDn ea n9)) ∧ (mDn ea n9 = 0 ∨ ¬ n9 = 0) := hw_3
  subst hw_4
  have hdn := hw_5
  have hP : va_P D vwCl [kI cI m2 9 ro, kI cI m3 9 re, kI cI m4 9 rn, kI cI m5 27 rg, kI cI m8 2400 fw, kI cI m9 32 nf, kI cI m10 4 na, kX7 m0 (nI z) m1 (nI r9) m2 m3 m4 m5 (nI n9) (nI v) m6 k1 k2 k3 k4 m7 k5 k6 k7 k8 m8 m9 m10 k9 m11 m12 m13 hv, kI cI m6 12 ea] H := hP
  have hD : va_D A [kI cI m2 9 ro, kI cI m3 9 re, kI cI m4 9 rn, kI cI m5 27 rg, kI cI m8 2400 fw, kI cI m9 32 nf, kI cI m10 4 na, kX7 m0 (nI z) m1 (nI r9) m2 m3 m4 m5 (nI n9) (nI v) m6 k1 k2 k3 k4 m7 k5 k6 k7 k8 m8 m9 m10 k9 m11 m12 m13 hv, kI cI m6 12 ea] := hD
  refine lv_if_eq (tgt := 23) hx hb dX7_fewestNow_4 (by decide) (fun c_6 => ?_) (fun c_6 => ?_)
  · skip
    refine lv_sipush (v := -1003) hx hb dX7_fewestNow_23 (by decide) ?_
    exact hret _ _ _ _ _ _ (-1003) (k8, fw, nf, na) dX7_fewestNow_26 rfl hS (Nat.le_of_ble_eq_true rfl) (Nat.le_of_ble_eq_true rfl) ⟨hFW, hsd, hMO, Or.inl ⟨Or.inl c_6, rfl⟩⟩ (hP.sub [7, 0, 1, 2, 3, 8, 4, 5, 6] rfl) (hD.sub [7, 0, 1, 2, 3, 8, 4, 5, 6] rfl rfl)
  · skip
    refine lv_aload_n hx hb dX7_fewestNow_7 rfl (lv_at hl 0 rfl) ?_
    refine va_get (D := D) (ci := 7) (v := .int (nI n9)) (C := RX7) (T := TX7) (N := 27) hx hb hts iT_X7 hown hK1 hP 7 rfl rfl 7 (by decide) (hts _ t_558) (fun _ h9 => h9) rfl dX7_fewestNow_8 ?_
    refine lv_iconst (v := 5) hx hb dX7_fewestNow_11 (by decide) ?_
    refine lv_icmp_gt (tgt := 23) hx hb dX7_fewestNow_12 (by decide) (fun c_7 => ?_) (fun c_7 => ?_)
    · skip
      refine lv_sipush (v := -1003) hx hb dX7_fewestNow_23 (by decide) ?_
      exact hret _ _ _ _ _ _ (-1003) (k8, fw, nf, na) dX7_fewestNow_26 rfl hS (Nat.le_of_ble_eq_true rfl) (Nat.le_of_ble_eq_true rfl) ⟨hFW, hsd, hMO, Or.inl ⟨Or.inr (Or.inl (ltN (a := 5) (b := n9) (by omega) (by decide) c_7)), rfl⟩⟩ (hP.sub [7, 0, 1, 2, 3, 8, 4, 5, 6] rfl) (hD.sub [7, 0, 1, 2, 3, 8, 4, 5, 6] rfl rfl)
    · skip
      refine lv_aload_n hx hb dX7_fewestNow_15 rfl (lv_at hl 0 rfl) ?_
      refine va_get (D := D) (ci := 7) (v := .int (nI v)) (C := RX7) (T := TX7) (N := 27) hx hb hts iT_X7 hown hK1 hP 7 rfl rfl 8 (by decide) (hts _ t_559) (fun _ h9 => h9) rfl dX7_fewestNow_16 ?_
      refine lv_iconst (v := 5) hx hb dX7_fewestNow_19 (by decide) ?_
      refine lv_icmp_le (tgt := 27) hx hb dX7_fewestNow_20 (by decide) (fun c_8 => ?_) (fun c_8 => ?_)
      · skip
        have hn0 := hdn.resolve_left c_6
        have hn5 := nltN (a := 5) (b := n9) (by omega) (by omega) c_7
        have hv5 := leN (a := v) (b := 5) (by decide) (by have := hf.2.1; omega) c_8
        have h32 := pow_le5 hn5
        have h21 := pow_ge1 (v := n9)
        refine lv_aload_n hx hb dX7_fewestNow_27 rfl (lv_at hl 0 rfl) ?_
        refine xc_v (wc := [kX7 m0 (nI z) m1 (nI r9) m2 m3 m4 m5 (nI n9) (nI v) m6 k1 k2 k3 k4 m7 k5 k6 k7 k8 m8 m9 m10 k9 m11 m12 m13 hv, kI cI m2 9 ro, kI cI m3 9 re, kI cI m4 9 rn, kI cI m5 27 rg, kI cI m6 12 ea, kI cI m8 2400 fw, kI cI m9 32 nf, kI cI m10 4 na]) (wr := []) (xrV (n := 0) (As := []) (rest := []) (ci := 7) (q0 := 7) hd hK hP hD (c_X7_layFewest l D cI cJ cZ cR _ m0 m1 m2 m3 m4 m5 m6 m7 m8 m9 m10 m11 m12 m13 z r9 n9 v k1 k2 k3 k4 k5 k6 k7 k8 k9 hv ro re rn rg ea fw nf na hr9 hMQ hFW hn5 hv5 hEA hsd (by omega) hMO) (gV t_762 mV_X7_layFewest) hV_X7_layFewest ⟨(Nat.le_of_ble_eq_true rfl), (Nat.le_of_ble_eq_true rfl)⟩ rfl rfl [7, 0, 1, 2, 3, 8, 4, 5, 6] rfl rfl rfl hl.1 rfl (Nat.le_of_ble_eq_true rfl) dX7_fewestNow_28 ⟨(Nat.le_of_ble_eq_true rfl), (Nat.le_of_ble_eq_true rfl)⟩) hP hD hS hA [7, 0, 1, 2, 3, 8, 4, 5, 6] [] rfl rfl rfl (by decide) (fun u_10 H locs hw_11 hP hD hS => ?_)
        obtain ⟨k8b_12, fw2_13, nf2_14, na2_15⟩ := u_10
        obtain ⟨hw_16, hw_17, hw_18⟩ : (FWI fw2_13) ∧ (SDn 4 na2_15) ∧ (MOF n9 v ea ro re rn rg r9 fw2_13) := hw_11
        have hF2 := hw_16
        have hS2 := hw_17
        have hO2 := hw_18
        have hP : va_P D vwCl [kX7 m0 (nI z) m1 (nI r9) m2 m3 m4 m5 (nI n9) (nI v) m6 k1 k2 k3 k4 m7 k5 k6 k7 k8b_12 m8 m9 m10 k9 m11 m12 m13 hv, kI cI m2 9 ro, kI cI m3 9 re, kI cI m4 9 rn, kI cI m5 27 rg, kI cI m6 12 ea, kI cI m8 2400 fw2_13, kI cI m9 32 nf2_14, kI cI m10 4 na2_15] H := hP
        have hD : va_D A [kX7 m0 (nI z) m1 (nI r9) m2 m3 m4 m5 (nI n9) (nI v) m6 k1 k2 k3 k4 m7 k5 k6 k7 k8b_12 m8 m9 m10 k9 m11 m12 m13 hv, kI cI m2 9 ro, kI cI m3 9 re, kI cI m4 9 rn, kI cI m5 27 rg, kI cI m6 12 ea, kI cI m8 2400 fw2_13, kI cI m9 32 nf2_14, kI cI m10 4 na2_15] := hD
        refine lv_aload_n hx hb dX7_fewestNow_31 rfl (lv_at hl 0 rfl) ?_
        refine va_get (D := D) (ci := 7) (v := .ref m8) (C := RX7) (T := TX7) (N := 27) hx hb hts iT_X7 hown hK1 hP 0 rfl rfl 19 (by decide) (hts _ t_570) (fun _ h9 => h9) rfl dX7_fewestNow_32 ?_
        refine lv_aload_n hx hb dX7_fewestNow_35 rfl (lv_at hl 0 rfl) ?_
        refine lv_iload_n hx hb dX7_fewestNow_36 rfl (lv_at hl 1 rfl) ?_
        refine lv_iconst (v := 0) hx hb dX7_fewestNow_37 (by decide) ?_
        refine lv_iconst (v := 1) hx hb dX7_fewestNow_38 (by decide) ?_
        refine lv_iconst (v := 1) hx hb dX7_fewestNow_39 (by decide) ?_
        refine lv_aload_n hx hb dX7_fewestNow_40 rfl (lv_at hl 0 rfl) ?_
        refine va_get (D := D) (ci := 7) (v := .int (nI n9)) (C := RX7) (T := TX7) (N := 27) hx hb hts iT_X7 hown hK1 hP 0 rfl rfl 7 (by decide) (hts _ t_558) (fun _ h9 => h9) rfl dX7_fewestNow_41 ?_
        refine lv_ishl hx hb dX7_fewestNow_44 ?_
        refine lv_nmi (show _ = (nI (2 ^ n9) : Int32) from shl1 (by omega)) ?_
        refine lv_iconst (v := 1) hx hb dX7_fewestNow_45 (by decide) ?_
        refine lv_isub hx hb dX7_fewestNow_46 ?_
        refine lv_nmi (show _ = (nI (2 ^ n9 - 1) : Int32) from pk_sub (a := 2 ^ n9) (b := 1) h21) ?_
        refine xc_i (wc := [kX7 m0 (nI z) m1 (nI r9) m2 m3 m4 m5 (nI n9) (nI v) m6 k1 k2 k3 k4 m7 k5 k6 k7 k8b_12 m8 m9 m10 k9 m11 m12 m13 hv]) (wr := [kI cI m2 9 ro, kI cI m3 9 re, kI cI m4 9 rn, kI cI m5 27 rg, kI cI m6 12 ea, kI cI m8 2400 fw2_13, kI cI m9 32 nf2_14, kI cI m10 4 na2_15]) (xrV (n := 4) (As := [.int (nI a), .int 0, .int 1, .int (nI (2 ^ n9 - 1))]) (rest := [.ref m8]) (ci := 7) (q0 := 0) hd hK hP hD (c_X7_at l D cI cJ cZ cR _ m0 m1 m2 m3 m4 m5 m6 m7 m8 m9 m10 m11 m12 m13 z r9 n9 v k1 k2 k3 k4 k5 k6 k7 k8b_12 k9 hv a 0 1 (2 ^ n9 - 1) ) (gV t_777 mV_X7_at) hV_X7_at ⟨(Nat.le_of_ble_eq_true rfl), (Nat.le_of_ble_eq_true rfl)⟩ rfl rfl [0] rfl rfl rfl hl.1 rfl (Nat.le_of_ble_eq_true rfl) dX7_fewestNow_47 ⟨(Nat.le_of_ble_eq_true rfl), (Nat.le_of_ble_eq_true rfl)⟩) hP hD hS hA [0] [1, 2, 3, 4, 5, 6, 7, 8] rfl rfl rfl (by decide) (fun r_19 u_20 H locs hw_21 hP hD hS => ?_)
        have hw_22 : r_19 = (nI ((((((a * 5) + 0) * 5) + 1) * 32) + (2 ^ n9 - 1))) := hw_21
        subst hw_22
        have hP : va_P D vwCl [kI cI m2 9 ro, kI cI m3 9 re, kI cI m4 9 rn, kI cI m5 27 rg, kI cI m6 12 ea, kI cI m8 2400 fw2_13, kI cI m9 32 nf2_14, kI cI m10 4 na2_15, kX7 m0 (nI z) m1 (nI r9) m2 m3 m4 m5 (nI n9) (nI v) m6 k1 k2 k3 k4 m7 k5 k6 k7 k8b_12 m8 m9 m10 k9 m11 m12 m13 hv] H := hP
        have hD : va_D A [kI cI m2 9 ro, kI cI m3 9 re, kI cI m4 9 rn, kI cI m5 27 rg, kI cI m6 12 ea, kI cI m8 2400 fw2_13, kI cI m9 32 nf2_14, kI cI m10 4 na2_15, kX7 m0 (nI z) m1 (nI r9) m2 m3 m4 m5 (nI n9) (nI v) m6 k1 k2 k3 k4 m7 k5 k6 k7 k8b_12 m8 m9 m10 k9 m11 m12 m13 hv] := hD
        refine va_iald hx hb hK1 hP 5 0 rfl rfl (vp_in_nI (by omega) (by omega)) dX7_fewestNow_50 ?_
        refine lv_nmi (show _ = fw2_13 ((((((a * 5) + 0) * 5) + 1) * 32) + (2 ^ n9 - 1)) from by rw [nI_clamp (n := ((((((a * 5) + 0) * 5) + 1) * 32) + (2 ^ n9 - 1))) (by omega)]) ?_
        refine lv_nmi (show _ = (nI (trb fw2_13 a (2 ^ n9 - 1) 0 1) : Int32) from (FWI_at hF2 (by omega)).1) ?_
        have hT9 : (trb fw2_13 a (2 ^ n9 - 1) 0 1) ≤ zM9 := (FWI_at hF2 (by omega)).2
        refine lv_istore_n (lv' := [(2, .int (nI (trb fw2_13 a (2 ^ n9 - 1) 0 1))), (0, .ref m0), (1, .int (nI a))]) hx hb dX7_fewestNow_51 rfl hl (by decide) rfl (fun ls hl => ?_)
        refine lv_iload_n hx hb dX7_fewestNow_52 rfl (lv_at hl 0 rfl) ?_
        refine lv_ldc hx hb hown (hts _ t_781) dX7_fewestNow_53 ?_
        refine lv_icmp_ge (tgt := 62) hx hb dX7_fewestNow_55 (by decide) (fun c_23 => ?_) (fun c_23 => ?_)
        · skip
          refine lv_iconst (v := -1) hx hb dX7_fewestNow_62 (by decide) ?_
          exact hret _ _ _ _ _ _ (-1) (k8b_12, fw2_13, nf2_14, na2_15) dX7_fewestNow_63 rfl hS (Nat.le_of_ble_eq_true rfl) (Nat.le_of_ble_eq_true rfl) ⟨hF2, hS2, fun _ => hO2, Or.inr ⟨_, c_6, by omega, hF2, hO2, by rw [if_neg (Nat.not_lt.mpr (leN (a := 1000000) (by omega) (by omega) c_23))]⟩⟩ (hP.sub [8, 0, 1, 2, 3, 4, 5, 6, 7] rfl) (hD.sub [8, 0, 1, 2, 3, 4, 5, 6, 7] rfl rfl)
        · skip
          refine lv_iload_n hx hb dX7_fewestNow_58 rfl (lv_at hl 0 rfl) ?_
          refine lv_goto (tgt := 63) hx hb dX7_fewestNow_59 (by decide) ?_
          exact hret _ _ _ _ _ _ (nI (trb fw2_13 a (2 ^ n9 - 1) 0 1)) (k8b_12, fw2_13, nf2_14, na2_15) dX7_fewestNow_63 rfl hS (Nat.le_of_ble_eq_true rfl) (Nat.le_of_ble_eq_true rfl) ⟨hF2, hS2, fun _ => hO2, Or.inr ⟨_, c_6, by omega, hF2, hO2, by rw [if_pos (nleN (a := 1000000) (by omega) (by omega) c_23)]⟩⟩ (hP.sub [8, 0, 1, 2, 3, 4, 5, 6, 7] rfl) (hD.sub [8, 0, 1, 2, 3, 4, 5, 6, 7] rfl rfl)
      · skip
        refine lv_sipush (v := -1003) hx hb dX7_fewestNow_23 (by decide) ?_
        exact hret _ _ _ _ _ _ (-1003) (k8, fw, nf, na) dX7_fewestNow_26 rfl hS (Nat.le_of_ble_eq_true rfl) (Nat.le_of_ble_eq_true rfl) ⟨hFW, hsd, hMO, Or.inl ⟨Or.inr (Or.inr (nleN (a := v) (b := 5) (by decide) (by have := hf.2.1; omega) c_8)), rfl⟩⟩ (hP.sub [7, 0, 1, 2, 3, 8, 4, 5, 6] rfl) (hD.sub [7, 0, 1, 2, 3, 8, 4, 5, 6] rfl rfl)
set_option maxHeartbeats 4000000 in
set_option maxRecDepth 100000 in
theorem c_X7_fewest (sz : Nat) (m0 : Nat) (m1 : Nat) (m2 : Nat) (m3 : Nat) (m4 : Nat) (m5 : Nat) (m6 : Nat) (m7 : Nat) (m8 : Nat) (m9 : Nat) (m10 : Nat) (m11 : Nat) (m12 : Nat) (m13 : Nat) (z : Nat) (r9 : Nat) (n9 : Nat) (v : Nat) (k1 : Int32) (k2 : Int32) (k3 : Int32) (k4 : Int32) (k5 : Int32) (k6 : Int32) (k7 : Int32) (k8 : Int32) (k9 : Int32) (hv : Int64) (ro : Nat → Int32) (re : Nat → Int32) (rn : Nat → Int32) (rg : Nat → Int32) (ea : Nat → Int32) (fw : Nat → Int32) (nf : Nat → Int32) (na : Nat → Int32) (p0 : Int32) (hr9 : r9 ≤ 9) (hMQ : MRQ ro re rn rg r9) (hf : FgI n9 v) (hFW : FWI fw) (hsd : SDn 4 na) (hEA : EAI n9 v ea) (hMO : ¬ k8 = 0 → MOF n9 v ea ro re rn rg r9 fw) : CTi l D cI cJ cZ cR yX7_fewest cX7_fewest 2 (some .int) 9 226 0 0 sz [.ref m0, .int p0] [kX7 m0 (nI z) m1 (nI r9) m2 m3 m4 m5 (nI n9) (nI v) m6 k1 k2 k3 k4 m7 k5 k6 k7 k8 m8 m9 m10 k9 m11 m12 m13 hv, kI cI m2 9 ro, kI cI m3 9 re, kI cI m4 9 rn, kI cI m5 27 rg, kI cI m6 12 ea, kI cI m8 2400 fw, kI cI m9 32 nf, kI cI m10 4 na] (fun (r : Int32) (u : Int32 × (Nat → Int32) × (Nat → Int32) × (Nat → Int32)) => (FWI u.2.1) ∧ (SDn 4 u.2.2.2) ∧ (¬ u.1 = 0 → MOF n9 v ea ro re rn rg r9 u.2.1) ∧ (FeM p0 n9 v ea ro re rn rg r9 r)) (fun (u : Int32 × (Nat → Int32) × (Nat → Int32) × (Nat → Int32)) => [kX7 m0 (nI z) m1 (nI r9) m2 m3 m4 m5 (nI n9) (nI v) m6 k1 k2 k3 k4 m7 k5 k6 k7 u.1 m8 m9 m10 k9 m11 m12 m13 hv, kI cI m2 9 ro, kI cI m3 9 re, kI cI m4 9 rn, kI cI m5 27 rg, kI cI m6 12 ea, kI cI m8 2400 u.2.1, kI cI m9 32 u.2.2.1, kI cI m10 4 u.2.2.2]) := by
  refine CTi.of (ty := .int) (by decide) (Nat.le_of_ble_eq_true rfl) rfl ?_
  intro p e s m below meth c A Q ls hd hin hK hsz hP hD hA hS hl hret
  obtain ⟨hx, hb, hml, hown, hts⟩ := id hd
  have hK1 := hK.1
  have hown : s.vm.findClass RX7 = some m.cls := hown
  have hl : lv_has ls 2 [(0, .ref m0), (1, .int p0)] := hl
  refine lv_iload_n hx hb dX7_fewest_0 rfl (lv_at hl 1 rfl) ?_
  refine lv_iconst (v := 0) hx hb dX7_fewest_1 (by decide) ?_
  refine lv_iconst (v := 2) hx hb dX7_fewest_2 (by decide) ?_
  refine xc_i (wc := []) (wr := [kX7 m0 (nI z) m1 (nI r9) m2 m3 m4 m5 (nI n9) (nI v) m6 k1 k2 k3 k4 m7 k5 k6 k7 k8 m8 m9 m10 k9 m11 m12 m13 hv, kI cI m2 9 ro, kI cI m3 9 re, kI cI m4 9 rn, kI cI m5 27 rg, kI cI m6 12 ea, kI cI m8 2400 fw, kI cI m9 32 nf, kI cI m10 4 na]) (xrS (n := 3) (As := [.int p0, .int 0, .int 2]) (rest := []) hd hK hP hD (c_X7_within l D cI cJ cZ cR _ p0 0 2 ) (gS t_637 mS_X7_within) hS_X7_within ⟨(Nat.le_of_ble_eq_true rfl), (Nat.le_of_ble_eq_true rfl)⟩ [] rfl rfl rfl hl.1 rfl (Nat.le_of_ble_eq_true rfl) dX7_fewest_3 ⟨(Nat.le_of_ble_eq_true rfl), (Nat.le_of_ble_eq_true rfl)⟩) hP hD hS hA [] [0, 1, 2, 3, 4, 5, 6, 7, 8] rfl rfl rfl (by decide) (fun r_1 u_2 H locs hw_3 hP hD hS => ?_)
  have hw_4 : r_1 = (wi p0 0 2) := hw_3
  subst hw_4
  have hP : va_P D vwCl [kX7 m0 (nI z) m1 (nI r9) m2 m3 m4 m5 (nI n9) (nI v) m6 k1 k2 k3 k4 m7 k5 k6 k7 k8 m8 m9 m10 k9 m11 m12 m13 hv, kI cI m2 9 ro, kI cI m3 9 re, kI cI m4 9 rn, kI cI m5 27 rg, kI cI m6 12 ea, kI cI m8 2400 fw, kI cI m9 32 nf, kI cI m10 4 na] H := hP
  have hD : va_D A [kX7 m0 (nI z) m1 (nI r9) m2 m3 m4 m5 (nI n9) (nI v) m6 k1 k2 k3 k4 m7 k5 k6 k7 k8 m8 m9 m10 k9 m11 m12 m13 hv, kI cI m2 9 ro, kI cI m3 9 re, kI cI m4 9 rn, kI cI m5 27 rg, kI cI m6 12 ea, kI cI m8 2400 fw, kI cI m9 32 nf, kI cI m10 4 na] := hD
  refine lv_if_eq (tgt := 17) hx hb dX7_fewest_6 (by decide) (fun c_5 => ?_) (fun c_5 => ?_)
  · skip
    refine lv_sipush (v := -1001) hx hb dX7_fewest_17 (by decide) ?_
    exact hret _ _ _ _ _ _ (-1001) (k8, fw, nf, na) dX7_fewest_20 rfl hS (Nat.le_of_ble_eq_true rfl) (Nat.le_of_ble_eq_true rfl) ⟨hFW, hsd, hMO, Or.inl ⟨c_5, rfl⟩⟩ (hP.sub [0, 1, 2, 3, 4, 5, 6, 7, 8] rfl) (hD.sub [0, 1, 2, 3, 4, 5, 6, 7, 8] rfl rfl)
  · skip
    obtain ⟨a9, h0a, ha2, ea9⟩ := wi_rng (a := 0) (b := 2) (by decide) (by decide) c_5
    refine lv_aload_n hx hb dX7_fewest_9 rfl (lv_at hl 0 rfl) ?_
    refine lv_iload_n hx hb dX7_fewest_10 rfl (lv_at hl 1 rfl) ?_
    refine lv_nmi (show _ = (nI a9 : Int32) from ea9) ?_
    refine xc_i (wc := [kX7 m0 (nI z) m1 (nI r9) m2 m3 m4 m5 (nI n9) (nI v) m6 k1 k2 k3 k4 m7 k5 k6 k7 k8 m8 m9 m10 k9 m11 m12 m13 hv, kI cI m2 9 ro, kI cI m3 9 re, kI cI m4 9 rn, kI cI m5 27 rg, kI cI m6 12 ea, kI cI m8 2400 fw, kI cI m9 32 nf, kI cI m10 4 na]) (wr := []) (xrV (n := 1) (As := [.int (nI a9)]) (rest := []) (ci := 7) (q0 := 0) hd hK hP hD (c_X7_fewestNow l D cI cJ cZ cR _ m0 m1 m2 m3 m4 m5 m6 m7 m8 m9 m10 m11 m12 m13 z r9 n9 v k1 k2 k3 k4 k5 k6 k7 k8 k9 hv ro re rn rg ea fw nf na a9 hr9 hMQ hf hFW hsd hEA hMO (by omega)) (gV t_758 mV_X7_fewestNow) hV_X7_fewestNow ⟨(Nat.le_of_ble_eq_true rfl), (Nat.le_of_ble_eq_true rfl)⟩ rfl rfl [0, 1, 2, 3, 4, 5, 6, 7, 8] rfl rfl rfl hl.1 rfl (Nat.le_of_ble_eq_true rfl) dX7_fewest_11 ⟨(Nat.le_of_ble_eq_true rfl), (Nat.le_of_ble_eq_true rfl)⟩) hP hD hS hA [0, 1, 2, 3, 4, 5, 6, 7, 8] [] rfl rfl rfl (by decide) (fun r_6 u_7 H locs hw_8 hP hD hS => ?_)
    obtain ⟨k8b_9, fw2_10, nf2_11, na2_12⟩ := u_7
    obtain ⟨hw_13, hw_14, hw_15, hw_16⟩ : (FWI fw2_10) ∧ (SDn 4 na2_12) ∧ (¬ k8b_9 = 0 → MOF n9 v ea ro re rn rg r9 fw2_10) ∧ (FeN a9 n9 v ea ro re rn rg r9 r_6) := hw_8
    have hP : va_P D vwCl [kX7 m0 (nI z) m1 (nI r9) m2 m3 m4 m5 (nI n9) (nI v) m6 k1 k2 k3 k4 m7 k5 k6 k7 k8b_9 m8 m9 m10 k9 m11 m12 m13 hv, kI cI m2 9 ro, kI cI m3 9 re, kI cI m4 9 rn, kI cI m5 27 rg, kI cI m6 12 ea, kI cI m8 2400 fw2_10, kI cI m9 32 nf2_11, kI cI m10 4 na2_12] H := hP
    have hD : va_D A [kX7 m0 (nI z) m1 (nI r9) m2 m3 m4 m5 (nI n9) (nI v) m6 k1 k2 k3 k4 m7 k5 k6 k7 k8b_9 m8 m9 m10 k9 m11 m12 m13 hv, kI cI m2 9 ro, kI cI m3 9 re, kI cI m4 9 rn, kI cI m5 27 rg, kI cI m6 12 ea, kI cI m8 2400 fw2_10, kI cI m9 32 nf2_11, kI cI m10 4 na2_12] := hD
    refine lv_goto (tgt := 20) hx hb dX7_fewest_14 (by decide) ?_
    exact hret _ _ _ _ _ _ r_6 (k8b_9, fw2_10, nf2_11, na2_12) dX7_fewest_20 rfl hS (Nat.le_of_ble_eq_true rfl) (Nat.le_of_ble_eq_true rfl) ⟨hw_13, hw_14, hw_15, FeN_M (by omega) ea9 c_5 hw_16⟩ (hP.sub [0, 1, 2, 3, 4, 5, 6, 7, 8] rfl) (hD.sub [0, 1, 2, 3, 4, 5, 6, 7, 8] rfl rfl)
end
