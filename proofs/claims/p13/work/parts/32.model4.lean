theorem mS_X7_classOf : Cond.static yX7_classOf ∈ gT ∧ Cond.initialized yX7_classOf.cls ∈ gT ∧ Cond.code yX7_classOf cX7_classOf 1 (some .int) ∈ gT := ⟨t_823, t_8, t_824⟩
theorem hS_X7_classOf : yX7_classOf.cls ≠ "java/lang/invoke/MethodHandle" ∧ yX7_classOf.cls ≠ "java/lang/invoke/VarHandle" ∧ (parseMethodDescriptor yX7_classOf.desc).map (fun d => d.parameters.length) = some 1 := by decide +kernel
theorem mV_X7_leads : Cond.instanceMethod yX7_leads ∈ gT ∧ Cond.selects RX7 yX7_leads yX7_leads ∈ gT ∧ Cond.initialized RX7 ∈ gT ∧ Cond.code yX7_leads cX7_leads 7 (some .boolean) ∈ gT := ⟨t_836, ts_58, t_8, t_837⟩
theorem hV_X7_leads : yX7_leads.cls = RX7 ∧ yX7_leads.cls ≠ "java/lang/invoke/MethodHandle" ∧ yX7_leads.cls ≠ "java/lang/invoke/VarHandle" ∧ (parseMethodDescriptor yX7_leads.desc).map (fun d => d.parameters.length) = some 2 := by decide +kernel
theorem mV_X7_colouredBy : Cond.instanceMethod yX7_colouredBy ∈ gT ∧ Cond.selects RX7 yX7_colouredBy yX7_colouredBy ∈ gT ∧ Cond.initialized RX7 ∈ gT ∧ Cond.code yX7_colouredBy cX7_colouredBy 7 (some .int) ∈ gT := ⟨t_840, ts_59, t_8, t_841⟩
theorem hV_X7_colouredBy : yX7_colouredBy.cls = RX7 ∧ yX7_colouredBy.cls ≠ "java/lang/invoke/MethodHandle" ∧ yX7_colouredBy.cls ≠ "java/lang/invoke/VarHandle" ∧ (parseMethodDescriptor yX7_colouredBy.desc).map (fun d => d.parameters.length) = some 1 := by decide +kernel
theorem mV_X7_layLight : Cond.instanceMethod yX7_layLight ∈ gT ∧ Cond.selects RX7 yX7_layLight yX7_layLight ∈ gT ∧ Cond.initialized RX7 ∈ gT ∧ Cond.code yX7_layLight cX7_layLight 7 (some .boolean) ∈ gT := ⟨t_832, ts_57, t_8, t_833⟩
theorem hV_X7_layLight : yX7_layLight.cls = RX7 ∧ yX7_layLight.cls ≠ "java/lang/invoke/MethodHandle" ∧ yX7_layLight.cls ≠ "java/lang/invoke/VarHandle" ∧ (parseMethodDescriptor yX7_layLight.desc).map (fun d => d.parameters.length) = some 3 := by decide +kernel
theorem dX7_classOf_0 : decode cX7_classOf 0 = .ok (.iload_n 0, 1) := by decide +kernel
theorem dX7_classOf_1 : decode cX7_classOf 1 = .ok (.iconst 3, 1) := by decide +kernel
theorem dX7_classOf_2 : decode cX7_classOf 2 = .ok (.if_icmp .ne 8, 3) := by decide +kernel
theorem dX7_classOf_5 : decode cX7_classOf 5 = .ok (.bipush 9, 2) := by decide +kernel
theorem dX7_classOf_7 : decode cX7_classOf 7 = .ok (.goto 5, 3) := by decide +kernel
theorem dX7_classOf_10 : decode cX7_classOf 10 = .ok (.bipush 15, 2) := by decide +kernel
theorem dX7_classOf_12 : decode cX7_classOf 12 = .ok (.ireturn, 1) := by decide +kernel
theorem dX7_colouredBy_0 : decode cX7_colouredBy 0 = .ok (.iconst 0, 1) := by decide +kernel
theorem dX7_colouredBy_1 : decode cX7_colouredBy 1 = .ok (.istore_n 2, 1) := by decide +kernel
theorem dX7_colouredBy_2 : decode cX7_colouredBy 2 = .ok (.iconst 0, 1) := by decide +kernel
theorem dX7_colouredBy_3 : decode cX7_colouredBy 3 = .ok (.istore_n 3, 1) := by decide +kernel
theorem dX7_colouredBy_4 : decode cX7_colouredBy 4 = .ok (.iload_n 3, 1) := by decide +kernel
theorem dX7_colouredBy_5 : decode cX7_colouredBy 5 = .ok (.bipush 16, 2) := by decide +kernel
theorem dX7_colouredBy_7 : decode cX7_colouredBy 7 = .ok (.if_icmp .ge 127, 3) := by decide +kernel
theorem dX7_colouredBy_10 : decode cX7_colouredBy 10 = .ok (.iconst 1, 1) := by decide +kernel
theorem dX7_colouredBy_11 : decode cX7_colouredBy 11 = .ok (.istore 4, 2) := by decide +kernel
theorem dX7_colouredBy_13 : decode cX7_colouredBy 13 = .ok (.iconst 0, 1) := by decide +kernel
theorem dX7_colouredBy_14 : decode cX7_colouredBy 14 = .ok (.istore 5, 2) := by decide +kernel
theorem dX7_colouredBy_16 : decode cX7_colouredBy 16 = .ok (.iload 5, 2) := by decide +kernel
theorem dX7_colouredBy_18 : decode cX7_colouredBy 18 = .ok (.aload_n 0, 1) := by decide +kernel
theorem dX7_colouredBy_19 : decode cX7_colouredBy 19 = .ok (.getfield 16, 3) := by decide +kernel
theorem dX7_colouredBy_22 : decode cX7_colouredBy 22 = .ok (.iload_n 1, 1) := by decide +kernel
theorem dX7_colouredBy_23 : decode cX7_colouredBy 23 = .ok (.iaload, 1) := by decide +kernel
theorem dX7_colouredBy_24 : decode cX7_colouredBy 24 = .ok (.if_icmp .ge 73, 3) := by decide +kernel
theorem dX7_colouredBy_27 : decode cX7_colouredBy 27 = .ok (.aload_n 0, 1) := by decide +kernel
theorem dX7_colouredBy_28 : decode cX7_colouredBy 28 = .ok (.getfield 22, 3) := by decide +kernel
theorem dX7_colouredBy_31 : decode cX7_colouredBy 31 = .ok (.iconst 3, 1) := by decide +kernel
theorem dX7_colouredBy_32 : decode cX7_colouredBy 32 = .ok (.iload_n 1, 1) := by decide +kernel
theorem dX7_colouredBy_33 : decode cX7_colouredBy 33 = .ok (.imul, 1) := by decide +kernel
theorem dX7_colouredBy_34 : decode cX7_colouredBy 34 = .ok (.iload 5, 2) := by decide +kernel
theorem dX7_colouredBy_36 : decode cX7_colouredBy 36 = .ok (.iadd, 1) := by decide +kernel
theorem dX7_colouredBy_37 : decode cX7_colouredBy 37 = .ok (.iaload, 1) := by decide +kernel
theorem dX7_colouredBy_38 : decode cX7_colouredBy 38 = .ok (.istore 6, 2) := by decide +kernel
theorem dX7_colouredBy_40 : decode cX7_colouredBy 40 = .ok (.iload 4, 2) := by decide +kernel
theorem dX7_colouredBy_42 : decode cX7_colouredBy 42 = .ok (.ifCond .eq 46, 3) := by decide +kernel
theorem dX7_colouredBy_45 : decode cX7_colouredBy 45 = .ok (.aload_n 0, 1) := by decide +kernel
theorem dX7_colouredBy_46 : decode cX7_colouredBy 46 = .ok (.getfield 47, 3) := by decide +kernel
theorem dX7_colouredBy_49 : decode cX7_colouredBy 49 = .ok (.iload 5, 2) := by decide +kernel
theorem dX7_colouredBy_51 : decode cX7_colouredBy 51 = .ok (.iaload, 1) := by decide +kernel
theorem dX7_colouredBy_52 : decode cX7_colouredBy 52 = .ok (.iload_n 3, 1) := by decide +kernel
theorem dX7_colouredBy_53 : decode cX7_colouredBy 53 = .ok (.iload 6, 2) := by decide +kernel
theorem dX7_colouredBy_55 : decode cX7_colouredBy 55 = .ok (.invokestatic 130, 3) := by decide +kernel
theorem dX7_colouredBy_58 : decode cX7_colouredBy 58 = .ok (.invokestatic 90, 3) := by decide +kernel
theorem dX7_colouredBy_61 : decode cX7_colouredBy 61 = .ok (.iload_n 3, 1) := by decide +kernel
theorem dX7_colouredBy_62 : decode cX7_colouredBy 62 = .ok (.iload 6, 2) := by decide +kernel
theorem dX7_colouredBy_64 : decode cX7_colouredBy 64 = .ok (.invokestatic 136, 3) := by decide +kernel
theorem dX7_colouredBy_67 : decode cX7_colouredBy 67 = .ok (.invokestatic 90, 3) := by decide +kernel
theorem dX7_colouredBy_70 : decode cX7_colouredBy 70 = .ok (.if_icmp .ne 7, 3) := by decide +kernel
theorem dX7_colouredBy_73 : decode cX7_colouredBy 73 = .ok (.iconst 2, 1) := by decide +kernel
theorem dX7_colouredBy_74 : decode cX7_colouredBy 74 = .ok (.goto 4, 3) := by decide +kernel
theorem dX7_colouredBy_77 : decode cX7_colouredBy 77 = .ok (.iconst 3, 1) := by decide +kernel
theorem dX7_colouredBy_78 : decode cX7_colouredBy 78 = .ok (.invokestatic 90, 3) := by decide +kernel
theorem dX7_colouredBy_81 : decode cX7_colouredBy 81 = .ok (.ifCond .eq 7, 3) := by decide +kernel
theorem dX7_colouredBy_84 : decode cX7_colouredBy 84 = .ok (.iconst 1, 1) := by decide +kernel
theorem dX7_colouredBy_85 : decode cX7_colouredBy 85 = .ok (.goto 4, 3) := by decide +kernel
theorem dX7_colouredBy_88 : decode cX7_colouredBy 88 = .ok (.iconst 0, 1) := by decide +kernel
theorem dX7_colouredBy_89 : decode cX7_colouredBy 89 = .ok (.istore 4, 2) := by decide +kernel
theorem dX7_colouredBy_91 : decode cX7_colouredBy 91 = .ok (.iinc 5 1, 3) := by decide +kernel
theorem dX7_colouredBy_94 : decode cX7_colouredBy 94 = .ok (.goto (-78), 3) := by decide +kernel
theorem dX7_colouredBy_97 : decode cX7_colouredBy 97 = .ok (.iload_n 2, 1) := by decide +kernel
theorem dX7_colouredBy_98 : decode cX7_colouredBy 98 = .ok (.iload 4, 2) := by decide +kernel
theorem dX7_colouredBy_100 : decode cX7_colouredBy 100 = .ok (.ifCond .ne 7, 3) := by decide +kernel
theorem dX7_colouredBy_103 : decode cX7_colouredBy 103 = .ok (.iconst 0, 1) := by decide +kernel
theorem dX7_colouredBy_104 : decode cX7_colouredBy 104 = .ok (.goto 22, 3) := by decide +kernel
theorem dX7_colouredBy_107 : decode cX7_colouredBy 107 = .ok (.iload_n 3, 1) := by decide +kernel
theorem dX7_colouredBy_108 : decode cX7_colouredBy 108 = .ok (.iconst 0, 1) := by decide +kernel
theorem dX7_colouredBy_109 : decode cX7_colouredBy 109 = .ok (.invokestatic 90, 3) := by decide +kernel
theorem dX7_colouredBy_112 : decode cX7_colouredBy 112 = .ok (.iload_n 3, 1) := by decide +kernel
theorem dX7_colouredBy_113 : decode cX7_colouredBy 113 = .ok (.iconst 1, 1) := by decide +kernel
theorem dX7_colouredBy_114 : decode cX7_colouredBy 114 = .ok (.invokestatic 90, 3) := by decide +kernel
theorem dX7_colouredBy_117 : decode cX7_colouredBy 117 = .ok (.if_icmp .ne 7, 3) := by decide +kernel
theorem dX7_colouredBy_120 : decode cX7_colouredBy 120 = .ok (.iconst 4, 1) := by decide +kernel
theorem dX7_colouredBy_121 : decode cX7_colouredBy 121 = .ok (.goto 5, 3) := by decide +kernel
theorem dX7_colouredBy_124 : decode cX7_colouredBy 124 = .ok (.bipush 8, 2) := by decide +kernel
theorem dX7_colouredBy_126 : decode cX7_colouredBy 126 = .ok (.ior, 1) := by decide +kernel
theorem dX7_colouredBy_127 : decode cX7_colouredBy 127 = .ok (.istore_n 2, 1) := by decide +kernel
theorem dX7_colouredBy_128 : decode cX7_colouredBy 128 = .ok (.iinc 3 1, 3) := by decide +kernel
theorem dX7_colouredBy_131 : decode cX7_colouredBy 131 = .ok (.goto (-127), 3) := by decide +kernel
theorem dX7_colouredBy_134 : decode cX7_colouredBy 134 = .ok (.iload_n 2, 1) := by decide +kernel
theorem dX7_colouredBy_135 : decode cX7_colouredBy 135 = .ok (.ireturn, 1) := by decide +kernel
theorem dX7_layLight_0 : decode cX7_layLight 0 = .ok (.bipush 16, 2) := by decide +kernel
theorem dX7_layLight_2 : decode cX7_layLight 2 = .ok (.aload_n 0, 1) := by decide +kernel
theorem dX7_layLight_3 : decode cX7_layLight 3 = .ok (.getfield 13, 3) := by decide +kernel
theorem dX7_layLight_6 : decode cX7_layLight 6 = .ok (.iload_n 1, 1) := by decide +kernel
theorem dX7_layLight_7 : decode cX7_layLight 7 = .ok (.iaload, 1) := by decide +kernel
theorem dX7_layLight_8 : decode cX7_layLight 8 = .ok (.imul, 1) := by decide +kernel
theorem dX7_layLight_9 : decode cX7_layLight 9 = .ok (.aload_n 0, 1) := by decide +kernel
theorem dX7_layLight_10 : decode cX7_layLight 10 = .ok (.iload_n 1, 1) := by decide +kernel
theorem dX7_layLight_11 : decode cX7_layLight 11 = .ok (.iconst 0, 1) := by decide +kernel
theorem dX7_layLight_12 : decode cX7_layLight 12 = .ok (.invokevirtual 216, 3) := by decide +kernel
theorem dX7_layLight_15 : decode cX7_layLight 15 = .ok (.ifCond .eq 7, 3) := by decide +kernel
theorem dX7_layLight_18 : decode cX7_layLight 18 = .ok (.iconst 1, 1) := by decide +kernel
theorem dX7_layLight_19 : decode cX7_layLight 19 = .ok (.goto 4, 3) := by decide +kernel
theorem dX7_layLight_22 : decode cX7_layLight 22 = .ok (.iconst 0, 1) := by decide +kernel
theorem dX7_layLight_23 : decode cX7_layLight 23 = .ok (.aload_n 0, 1) := by decide +kernel
theorem dX7_layLight_24 : decode cX7_layLight 24 = .ok (.iload_n 1, 1) := by decide +kernel
theorem dX7_layLight_25 : decode cX7_layLight 25 = .ok (.iconst 1, 1) := by decide +kernel
theorem dX7_layLight_26 : decode cX7_layLight 26 = .ok (.invokevirtual 216, 3) := by decide +kernel
theorem dX7_layLight_29 : decode cX7_layLight 29 = .ok (.ifCond .eq 7, 3) := by decide +kernel
theorem dX7_layLight_32 : decode cX7_layLight 32 = .ok (.iconst 2, 1) := by decide +kernel
theorem dX7_layLight_33 : decode cX7_layLight 33 = .ok (.goto 4, 3) := by decide +kernel
theorem dX7_layLight_36 : decode cX7_layLight 36 = .ok (.iconst 0, 1) := by decide +kernel
theorem dX7_layLight_37 : decode cX7_layLight 37 = .ok (.ior, 1) := by decide +kernel
theorem dX7_layLight_38 : decode cX7_layLight 38 = .ok (.aload_n 0, 1) := by decide +kernel
theorem dX7_layLight_39 : decode cX7_layLight 39 = .ok (.iload_n 1, 1) := by decide +kernel
theorem dX7_layLight_40 : decode cX7_layLight 40 = .ok (.invokevirtual 219, 3) := by decide +kernel
theorem dX7_layLight_43 : decode cX7_layLight 43 = .ok (.ior, 1) := by decide +kernel
theorem dX7_layLight_44 : decode cX7_layLight 44 = .ok (.iadd, 1) := by decide +kernel
theorem dX7_layLight_45 : decode cX7_layLight 45 = .ok (.istore 5, 2) := by decide +kernel
theorem dX7_layLight_47 : decode cX7_layLight 47 = .ok (.iload 4, 2) := by decide +kernel
theorem dX7_layLight_49 : decode cX7_layLight 49 = .ok (.ifCond .eq 46, 3) := by decide +kernel
theorem dX7_layLight_52 : decode cX7_layLight 52 = .ok (.aload_n 0, 1) := by decide +kernel
theorem dX7_layLight_53 : decode cX7_layLight 53 = .ok (.getfield 44, 3) := by decide +kernel
theorem dX7_layLight_56 : decode cX7_layLight 56 = .ok (.iload 5, 2) := by decide +kernel
theorem dX7_layLight_58 : decode cX7_layLight 58 = .ok (.aload_n 0, 1) := by decide +kernel
theorem dX7_layLight_59 : decode cX7_layLight 59 = .ok (.getfield 44, 3) := by decide +kernel
theorem dX7_layLight_62 : decode cX7_layLight 62 = .ok (.iload 5, 2) := by decide +kernel
theorem dX7_layLight_64 : decode cX7_layLight 64 = .ok (.iaload, 1) := by decide +kernel
theorem dX7_layLight_65 : decode cX7_layLight 65 = .ok (.iconst (-1), 1) := by decide +kernel
theorem dX7_layLight_66 : decode cX7_layLight 66 = .ok (.if_icmp .ne 19, 3) := by decide +kernel
theorem dX7_layLight_69 : decode cX7_layLight 69 = .ok (.lload_n 2, 1) := by decide +kernel
theorem dX7_layLight_70 : decode cX7_layLight 70 = .ok (.aload_n 0, 1) := by decide +kernel
theorem dX7_layLight_71 : decode cX7_layLight 71 = .ok (.getfield 40, 3) := by decide +kernel
theorem dX7_layLight_74 : decode cX7_layLight 74 = .ok (.iload 5, 2) := by decide +kernel
theorem dX7_layLight_76 : decode cX7_layLight 76 = .ok (.laload, 1) := by decide +kernel
theorem dX7_layLight_77 : decode cX7_layLight 77 = .ok (.lcmp, 1) := by decide +kernel
theorem dX7_layLight_78 : decode cX7_layLight 78 = .ok (.ifCond .ne 7, 3) := by decide +kernel
theorem dX7_layLight_81 : decode cX7_layLight 81 = .ok (.iload_n 1, 1) := by decide +kernel
theorem dX7_layLight_82 : decode cX7_layLight 82 = .ok (.goto 10, 3) := by decide +kernel
theorem dX7_layLight_85 : decode cX7_layLight 85 = .ok (.aload_n 0, 1) := by decide +kernel
theorem dX7_layLight_86 : decode cX7_layLight 86 = .ok (.getfield 44, 3) := by decide +kernel
theorem dX7_layLight_89 : decode cX7_layLight 89 = .ok (.iload 5, 2) := by decide +kernel
theorem dX7_layLight_91 : decode cX7_layLight 91 = .ok (.iaload, 1) := by decide +kernel
theorem dX7_layLight_92 : decode cX7_layLight 92 = .ok (.iastore, 1) := by decide +kernel
theorem dX7_layLight_93 : decode cX7_layLight 93 = .ok (.iconst 0, 1) := by decide +kernel
theorem dX7_layLight_94 : decode cX7_layLight 94 = .ok (.ireturn, 1) := by decide +kernel
theorem dX7_layLight_95 : decode cX7_layLight 95 = .ok (.lload_n 2, 1) := by decide +kernel
theorem dX7_layLight_96 : decode cX7_layLight 96 = .ok (.aload_n 0, 1) := by decide +kernel
theorem dX7_layLight_97 : decode cX7_layLight 97 = .ok (.getfield 40, 3) := by decide +kernel
theorem dX7_layLight_100 : decode cX7_layLight 100 = .ok (.iload 5, 2) := by decide +kernel
theorem dX7_layLight_102 : decode cX7_layLight 102 = .ok (.laload, 1) := by decide +kernel
theorem dX7_layLight_103 : decode cX7_layLight 103 = .ok (.lcmp, 1) := by decide +kernel
theorem dX7_layLight_104 : decode cX7_layLight 104 = .ok (.ifCond .ge 7, 3) := by decide +kernel
theorem dX7_layLight_107 : decode cX7_layLight 107 = .ok (.iconst 1, 1) := by decide +kernel
theorem dX7_layLight_108 : decode cX7_layLight 108 = .ok (.goto 4, 3) := by decide +kernel
theorem dX7_layLight_111 : decode cX7_layLight 111 = .ok (.iconst 0, 1) := by decide +kernel
theorem dX7_layLight_112 : decode cX7_layLight 112 = .ok (.istore 6, 2) := by decide +kernel
theorem dX7_layLight_114 : decode cX7_layLight 114 = .ok (.aload_n 0, 1) := by decide +kernel
theorem dX7_layLight_115 : decode cX7_layLight 115 = .ok (.getfield 40, 3) := by decide +kernel
theorem dX7_layLight_118 : decode cX7_layLight 118 = .ok (.iload 5, 2) := by decide +kernel
theorem dX7_layLight_120 : decode cX7_layLight 120 = .ok (.iload 6, 2) := by decide +kernel
theorem dX7_layLight_122 : decode cX7_layLight 122 = .ok (.ifCond .eq 7, 3) := by decide +kernel
theorem dX7_layLight_125 : decode cX7_layLight 125 = .ok (.lload_n 2, 1) := by decide +kernel
theorem dX7_layLight_126 : decode cX7_layLight 126 = .ok (.goto 10, 3) := by decide +kernel
theorem dX7_layLight_129 : decode cX7_layLight 129 = .ok (.aload_n 0, 1) := by decide +kernel
theorem dX7_layLight_130 : decode cX7_layLight 130 = .ok (.getfield 40, 3) := by decide +kernel
theorem dX7_layLight_133 : decode cX7_layLight 133 = .ok (.iload 5, 2) := by decide +kernel
theorem dX7_layLight_135 : decode cX7_layLight 135 = .ok (.laload, 1) := by decide +kernel
theorem dX7_layLight_136 : decode cX7_layLight 136 = .ok (.lastore, 1) := by decide +kernel
theorem dX7_layLight_137 : decode cX7_layLight 137 = .ok (.iload 6, 2) := by decide +kernel
theorem dX7_layLight_139 : decode cX7_layLight 139 = .ok (.ireturn, 1) := by decide +kernel
theorem dX7_leads_0 : decode cX7_leads 0 = .ok (.iload_n 2, 1) := by decide +kernel
theorem dX7_leads_1 : decode cX7_leads 1 = .ok (.ifCond .eq 7, 3) := by decide +kernel
theorem dX7_leads_4 : decode cX7_leads 4 = .ok (.iconst 2, 1) := by decide +kernel
theorem dX7_leads_5 : decode cX7_leads 5 = .ok (.goto 4, 3) := by decide +kernel
theorem dX7_leads_8 : decode cX7_leads 8 = .ok (.iconst 1, 1) := by decide +kernel
theorem dX7_leads_9 : decode cX7_leads 9 = .ok (.istore_n 3, 1) := by decide +kernel
theorem dX7_leads_10 : decode cX7_leads 10 = .ok (.iconst 0, 1) := by decide +kernel
theorem dX7_leads_11 : decode cX7_leads 11 = .ok (.istore 4, 2) := by decide +kernel
theorem dX7_leads_13 : decode cX7_leads 13 = .ok (.iload 4, 2) := by decide +kernel
theorem dX7_leads_15 : decode cX7_leads 15 = .ok (.iconst 4, 1) := by decide +kernel
theorem dX7_leads_16 : decode cX7_leads 16 = .ok (.if_icmp .ge 122, 3) := by decide +kernel
theorem dX7_leads_19 : decode cX7_leads 19 = .ok (.iconst 0, 1) := by decide +kernel
theorem dX7_leads_20 : decode cX7_leads 20 = .ok (.istore 5, 2) := by decide +kernel
theorem dX7_leads_22 : decode cX7_leads 22 = .ok (.iload 5, 2) := by decide +kernel
theorem dX7_leads_24 : decode cX7_leads 24 = .ok (.aload_n 0, 1) := by decide +kernel
theorem dX7_leads_25 : decode cX7_leads 25 = .ok (.getfield 16, 3) := by decide +kernel
theorem dX7_leads_28 : decode cX7_leads 28 = .ok (.iload_n 1, 1) := by decide +kernel
theorem dX7_leads_29 : decode cX7_leads 29 = .ok (.iaload, 1) := by decide +kernel
theorem dX7_leads_30 : decode cX7_leads 30 = .ok (.if_icmp .ge 102, 3) := by decide +kernel
theorem dX7_leads_33 : decode cX7_leads 33 = .ok (.aload_n 0, 1) := by decide +kernel
theorem dX7_leads_34 : decode cX7_leads 34 = .ok (.getfield 22, 3) := by decide +kernel
theorem dX7_leads_37 : decode cX7_leads 37 = .ok (.iconst 3, 1) := by decide +kernel
theorem dX7_leads_38 : decode cX7_leads 38 = .ok (.iload_n 1, 1) := by decide +kernel
theorem dX7_leads_39 : decode cX7_leads 39 = .ok (.imul, 1) := by decide +kernel
theorem dX7_leads_40 : decode cX7_leads 40 = .ok (.iload 5, 2) := by decide +kernel
theorem dX7_leads_42 : decode cX7_leads 42 = .ok (.iadd, 1) := by decide +kernel
theorem dX7_leads_43 : decode cX7_leads 43 = .ok (.iaload, 1) := by decide +kernel
theorem dX7_leads_44 : decode cX7_leads 44 = .ok (.istore 6, 2) := by decide +kernel
theorem dX7_leads_46 : decode cX7_leads 46 = .ok (.iload_n 3, 1) := by decide +kernel
theorem dX7_leads_47 : decode cX7_leads 47 = .ok (.iload_n 3, 1) := by decide +kernel
theorem dX7_leads_48 : decode cX7_leads 48 = .ok (.iload 6, 2) := by decide +kernel
theorem dX7_leads_50 : decode cX7_leads 50 = .ok (.invokestatic 130, 3) := by decide +kernel
theorem dX7_leads_53 : decode cX7_leads 53 = .ok (.invokestatic 90, 3) := by decide +kernel
theorem dX7_leads_56 : decode cX7_leads 56 = .ok (.ifCond .eq 27, 3) := by decide +kernel
theorem dX7_leads_59 : decode cX7_leads 59 = .ok (.aload_n 0, 1) := by decide +kernel
theorem dX7_leads_60 : decode cX7_leads 60 = .ok (.getfield 47, 3) := by decide +kernel
theorem dX7_leads_63 : decode cX7_leads 63 = .ok (.iload 5, 2) := by decide +kernel
theorem dX7_leads_65 : decode cX7_leads 65 = .ok (.iaload, 1) := by decide +kernel
theorem dX7_leads_66 : decode cX7_leads 66 = .ok (.iconst 0, 1) := by decide +kernel
theorem dX7_leads_67 : decode cX7_leads 67 = .ok (.invokestatic 90, 3) := by decide +kernel
theorem dX7_leads_70 : decode cX7_leads 70 = .ok (.ifCond .eq 13, 3) := by decide +kernel
theorem dX7_leads_73 : decode cX7_leads 73 = .ok (.iconst 1, 1) := by decide +kernel
theorem dX7_leads_74 : decode cX7_leads 74 = .ok (.iload 6, 2) := by decide +kernel
theorem dX7_leads_76 : decode cX7_leads 76 = .ok (.invokestatic 136, 3) := by decide +kernel
theorem dX7_leads_79 : decode cX7_leads 79 = .ok (.ishl, 1) := by decide +kernel
theorem dX7_leads_80 : decode cX7_leads 80 = .ok (.goto 4, 3) := by decide +kernel
theorem dX7_leads_83 : decode cX7_leads 83 = .ok (.iconst 0, 1) := by decide +kernel
theorem dX7_leads_84 : decode cX7_leads 84 = .ok (.ior, 1) := by decide +kernel
theorem dX7_leads_85 : decode cX7_leads 85 = .ok (.istore_n 3, 1) := by decide +kernel
theorem dX7_leads_86 : decode cX7_leads 86 = .ok (.iload_n 3, 1) := by decide +kernel
theorem dX7_leads_87 : decode cX7_leads 87 = .ok (.iload_n 3, 1) := by decide +kernel
theorem dX7_leads_88 : decode cX7_leads 88 = .ok (.iload 6, 2) := by decide +kernel
theorem dX7_leads_90 : decode cX7_leads 90 = .ok (.invokestatic 136, 3) := by decide +kernel
theorem dX7_leads_93 : decode cX7_leads 93 = .ok (.invokestatic 90, 3) := by decide +kernel
theorem dX7_leads_96 : decode cX7_leads 96 = .ok (.ifCond .eq 27, 3) := by decide +kernel
theorem dX7_leads_99 : decode cX7_leads 99 = .ok (.aload_n 0, 1) := by decide +kernel
theorem dX7_leads_100 : decode cX7_leads 100 = .ok (.getfield 47, 3) := by decide +kernel
theorem dX7_leads_103 : decode cX7_leads 103 = .ok (.iload 5, 2) := by decide +kernel
theorem dX7_leads_105 : decode cX7_leads 105 = .ok (.iaload, 1) := by decide +kernel
theorem dX7_leads_106 : decode cX7_leads 106 = .ok (.iconst 1, 1) := by decide +kernel
theorem dX7_leads_107 : decode cX7_leads 107 = .ok (.invokestatic 90, 3) := by decide +kernel
theorem dX7_leads_110 : decode cX7_leads 110 = .ok (.ifCond .eq 13, 3) := by decide +kernel
theorem dX7_leads_113 : decode cX7_leads 113 = .ok (.iconst 1, 1) := by decide +kernel
theorem dX7_leads_114 : decode cX7_leads 114 = .ok (.iload 6, 2) := by decide +kernel
theorem dX7_leads_116 : decode cX7_leads 116 = .ok (.invokestatic 130, 3) := by decide +kernel
theorem dX7_leads_119 : decode cX7_leads 119 = .ok (.ishl, 1) := by decide +kernel
theorem dX7_leads_120 : decode cX7_leads 120 = .ok (.goto 4, 3) := by decide +kernel
theorem dX7_leads_123 : decode cX7_leads 123 = .ok (.iconst 0, 1) := by decide +kernel
theorem dX7_leads_124 : decode cX7_leads 124 = .ok (.ior, 1) := by decide +kernel
theorem dX7_leads_125 : decode cX7_leads 125 = .ok (.istore_n 3, 1) := by decide +kernel
theorem dX7_leads_126 : decode cX7_leads 126 = .ok (.iinc 5 1, 3) := by decide +kernel
theorem dX7_leads_129 : decode cX7_leads 129 = .ok (.goto (-107), 3) := by decide +kernel
theorem dX7_leads_132 : decode cX7_leads 132 = .ok (.iinc 4 1, 3) := by decide +kernel
theorem dX7_leads_135 : decode cX7_leads 135 = .ok (.goto (-122), 3) := by decide +kernel
theorem dX7_leads_138 : decode cX7_leads 138 = .ok (.iload_n 3, 1) := by decide +kernel
theorem dX7_leads_139 : decode cX7_leads 139 = .ok (.iload_n 2, 1) := by decide +kernel
theorem dX7_leads_140 : decode cX7_leads 140 = .ok (.ifCond .eq 7, 3) := by decide +kernel
theorem dX7_leads_143 : decode cX7_leads 143 = .ok (.iconst 0, 1) := by decide +kernel
theorem dX7_leads_144 : decode cX7_leads 144 = .ok (.goto 4, 3) := by decide +kernel
theorem dX7_leads_147 : decode cX7_leads 147 = .ok (.iconst 1, 1) := by decide +kernel
theorem dX7_leads_148 : decode cX7_leads 148 = .ok (.invokestatic 90, 3) := by decide +kernel
theorem dX7_leads_151 : decode cX7_leads 151 = .ok (.ireturn, 1) := by decide +kernel
section
variable (l : Launch) (D : va_G) (cI cJ cZ cR : ClassId)
set_option maxHeartbeats 4000000 in
set_option maxRecDepth 100000 in
theorem c_X7_classOf (sz : Nat) (p0 : Int32)  : CTi l D cI cJ cZ cR yX7_classOf cX7_classOf 1 (some .int) 0 0 0 0 sz [.int p0] [] (fun (r : Int32) (u : Unit) => True) (fun (u : Unit) => []) := by
  refine CTi.of (ty := .int) (by decide) (Nat.le_of_ble_eq_true rfl) rfl ?_
  intro p e s m below meth c A Q ls hd hin hK hsz hP hD hA hS hl hret
  obtain ⟨hx, hb, hml, hown, hts⟩ := id hd
  have hK1 := hK.1
  have hown : s.vm.findClass RX7 = some m.cls := hown
  have hl : lv_has ls 1 [(0, .int p0)] := hl
  refine lv_iload_n hx hb dX7_classOf_0 rfl (lv_at hl 0 rfl) ?_
  refine lv_iconst (v := 3) hx hb dX7_classOf_1 (by decide) ?_
  refine lv_icmp_ne (tgt := 10) hx hb dX7_classOf_2 (by decide) (fun c_1 => ?_) (fun c_1 => ?_)
  · skip
    refine lv_bipush (v := 15) hx hb dX7_classOf_10 (by decide) ?_
    exact hret _ _ _ _ _ _ 15 () dX7_classOf_12 rfl hS (Nat.le_of_ble_eq_true rfl) (Nat.le_of_ble_eq_true rfl) trivial (hP.sub [] rfl) (hD.sub [] rfl rfl)
  · skip
    refine lv_bipush (v := 9) hx hb dX7_classOf_5 (by decide) ?_
    refine lv_goto (tgt := 12) hx hb dX7_classOf_7 (by decide) ?_
    exact hret _ _ _ _ _ _ 9 () dX7_classOf_12 rfl hS (Nat.le_of_ble_eq_true rfl) (Nat.le_of_ble_eq_true rfl) trivial (hP.sub [] rfl) (hD.sub [] rfl rfl)
set_option maxHeartbeats 4000000 in
set_option maxRecDepth 100000 in
theorem g_leads_0 (sz : Nat) (m0 : Nat) (m1 : Nat) (m2 : Nat) (m3 : Nat) (m4 : Nat) (m5 : Nat) (m6 : Nat) (m7 : Nat) (m8 : Nat) (m9 : Nat) (m10 : Nat) (m11 : Nat) (m12 : Nat) (m13 : Nat) (z : Nat) (r9 : Nat) (n9 : Nat) (v : Nat) (k1 : Int32) (k2 : Int32) (k3 : Int32) (k4 : Int32) (k5 : Int32) (k6 : Int32) (k7 : Int32) (k8 : Int32) (k9 : Int32) (hv : Int64) (j : Nat) (e9 : Nat) (re : Nat → Int32) (rg : Nat → Int32) (cn : Nat → Int32) (hj : j < 9) (hej : re j = nI e9) (he3 : e9 ≤ 3) : CTi l D cI cJ cZ cR yX7_leads cX7_leads 7 (some .boolean) 1 21 0 0 sz [.ref m0, .int (nI j), .int 0] [kX7 m0 (nI z) m1 (nI r9) m2 m3 m4 m5 (nI n9) (nI v) m6 k1 k2 k3 k4 m7 k5 k6 k7 k8 m8 m9 m10 k9 m11 m12 m13 hv, kI cI m3 9 re, kI cI m5 27 rg, kI cI m13 3 cn] (fun (r : Int32) (u : Unit) => True) (fun (u : Unit) => [kX7 m0 (nI z) m1 (nI r9) m2 m3 m4 m5 (nI n9) (nI v) m6 k1 k2 k3 k4 m7 k5 k6 k7 k8 m8 m9 m10 k9 m11 m12 m13 hv, kI cI m3 9 re, kI cI m5 27 rg, kI cI m13 3 cn]) := by
  refine CTi.of (ty := .boolean) (by decide) (Nat.le_of_ble_eq_true rfl) rfl ?_
  intro p e s m below meth c A Q ls hd hin hK hsz hP hD hA hS hl hret
  obtain ⟨hx, hb, hml, hown, hts⟩ := id hd
  have hK1 := hK.1
  have hown : s.vm.findClass RX7 = some m.cls := hown
  have hl : lv_has ls 7 [(0, .ref m0), (1, .int (nI j)), (2, .int 0)] := hl
  refine lv_iload_n hx hb dX7_leads_0 rfl (lv_at hl 2 rfl) ?_
  refine lv_if_eq (tgt := 8) hx hb dX7_leads_1 (by decide) (fun c_1 => ?_) (fun c_1 => ?_)
  rotate_left
  · exact absurd c_1 (by decide)
  refine lv_iconst (v := 1) hx hb dX7_leads_8 (by decide) ?_
  refine lv_istore_n (lv' := [(3, .int 1), (0, .ref m0), (1, .int (nI j)), (2, .int 0)]) hx hb dX7_leads_9 rfl hl (by decide) rfl (fun ls hl => ?_)
  refine lv_iconst (v := 0) hx hb dX7_leads_10 (by decide) ?_
  refine lv_istore (lv' := [(4, .int 0), (3, .int 1), (0, .ref m0), (1, .int (nI j)), (2, .int 0)]) hx hb dX7_leads_11 hl (by decide) rfl (fun ls hl => ?_)
  have LOOP_13 : ∀ (n : Nat) (q : Nat) (me : Int32), (q + n = 4) → ∀ (H : Heap) (locs : List Loc) (ls : Array Slot), va_P D vwCl [kX7 m0 (nI z) m1 (nI r9) m2 m3 m4 m5 (nI n9) (nI v) m6 k1 k2 k3 k4 m7 k5 k6 k7 k8 m8 m9 m10 k9 m11 m12 m13 hv, kI cI m3 9 re, kI cI m5 27 rg, kI cI m13 3 cn] H → va_D A [kX7 m0 (nI z) m1 (nI r9) m2 m3 m4 m5 (nI n9) (nI v) m6 k1 k2 k3 k4 m7 k5 k6 k7 k8 m8 m9 m10 k9 m11 m12 m13 hv, kI cI m3 9 re, kI cI m5 27 rg, kI cI m13 3 cn] → va_S A s.heap H locs → lv_has ls 7 [(0, .ref m0), (1, .int (nI j)), (2, .int 0), (3, .int me), (4, .int (nI q))] → W p l e (rM 1 0 0 21) s m ([.ref m0, .int (nI j), .int 0] : List Value).toArray below meth c H locs 0 0 Q (F0 m 13 ls []) := by
    intro n
    induction n with
    | zero =>
      intro q me hq H locs ls hP hD hS hl
      refine lv_iload hx hb dX7_leads_13 (lv_at hl 4 rfl) ?_
      refine lv_iconst (v := 4) hx hb dX7_leads_15 (by decide) ?_
      refine lv_icmp_ge (tgt := 138) hx hb dX7_leads_16 (by decide) (fun c_2 => ?_) (fun c_2 => ?_)
      rotate_left
      · exact absurd (nI_le (a := 4) (b := q) (by omega) (by omega)) c_2
      refine lv_iload_n hx hb dX7_leads_138 rfl (lv_at hl 3 rfl) ?_
      refine lv_iload_n hx hb dX7_leads_139 rfl (lv_at hl 2 rfl) ?_
      refine lv_if_eq (tgt := 147) hx hb dX7_leads_140 (by decide) (fun c_3 => ?_) (fun c_3 => ?_)
      rotate_left
      · exact absurd c_3 (by decide)
      refine lv_iconst (v := 1) hx hb dX7_leads_147 (by decide) ?_
      refine xc_i (wc := []) (wr := [kX7 m0 (nI z) m1 (nI r9) m2 m3 m4 m5 (nI n9) (nI v) m6 k1 k2 k3 k4 m7 k5 k6 k7 k8 m8 m9 m10 k9 m11 m12 m13 hv, kI cI m3 9 re, kI cI m5 27 rg, kI cI m13 3 cn]) (xrS (n := 2) (As := [.int me, .int 1]) (rest := []) hd hK hP hD (c_X7_has l D cI cJ cZ cR _ me 1 ) (gS t_671 mS_X7_has) hS_X7_has ⟨(Nat.le_of_ble_eq_true rfl), (Nat.le_of_ble_eq_true rfl)⟩ [] rfl rfl rfl hl.1 rfl (Nat.le_of_ble_eq_true rfl) dX7_leads_148 ⟨(Nat.le_of_ble_eq_true rfl), (Nat.le_of_ble_eq_true rfl)⟩) hP hD hS hA [] [0, 1, 2, 3] rfl rfl rfl (by decide) (fun r_4 u_5 H locs hw_6 hP hD hS => ?_)
      have hw_7 : r_4 = (hR me 1) := hw_6
      subst hw_7
      have hP : va_P D vwCl [kX7 m0 (nI z) m1 (nI r9) m2 m3 m4 m5 (nI n9) (nI v) m6 k1 k2 k3 k4 m7 k5 k6 k7 k8 m8 m9 m10 k9 m11 m12 m13 hv, kI cI m3 9 re, kI cI m5 27 rg, kI cI m13 3 cn] H := hP
      have hD : va_D A [kX7 m0 (nI z) m1 (nI r9) m2 m3 m4 m5 (nI n9) (nI v) m6 k1 k2 k3 k4 m7 k5 k6 k7 k8 m8 m9 m10 k9 m11 m12 m13 hv, kI cI m3 9 re, kI cI m5 27 rg, kI cI m13 3 cn] := hD
      exact hret _ _ _ _ _ _ (hR me 1) () dX7_leads_151 (nar_01 (hR_01 _ _)) hS (Nat.le_of_ble_eq_true rfl) (Nat.le_of_ble_eq_true rfl) trivial (hP.sub [0, 1, 2, 3] rfl) (hD.sub [0, 1, 2, 3] rfl rfl)
    | succ n ih_13 =>
      intro q me hq H locs ls hP hD hS hl
      refine lv_iload hx hb dX7_leads_13 (lv_at hl 4 rfl) ?_
      refine lv_iconst (v := 4) hx hb dX7_leads_15 (by decide) ?_
      refine lv_icmp_ge (tgt := 138) hx hb dX7_leads_16 (by decide) (fun c_8 => ?_) (fun c_8 => ?_)
      · exact absurd c_8 (nI_ge (a := q) (b := 4) (by omega) (by omega))
      refine lv_iconst (v := 0) hx hb dX7_leads_19 (by decide) ?_
      refine lv_istore (lv' := [(5, .int 0), (0, .ref m0), (1, .int (nI j)), (2, .int 0), (3, .int me), (4, .int (nI q))]) hx hb dX7_leads_20 hl (by decide) rfl (fun ls hl => ?_)
      have LOOP_22 : ∀ (n : Nat) (i : Nat) (mf : Int32), (i + n = e9) → ∀ (H : Heap) (locs : List Loc) (ls : Array Slot), va_P D vwCl [kX7 m0 (nI z) m1 (nI r9) m2 m3 m4 m5 (nI n9) (nI v) m6 k1 k2 k3 k4 m7 k5 k6 k7 k8 m8 m9 m10 k9 m11 m12 m13 hv, kI cI m3 9 re, kI cI m5 27 rg, kI cI m13 3 cn] H → va_D A [kX7 m0 (nI z) m1 (nI r9) m2 m3 m4 m5 (nI n9) (nI v) m6 k1 k2 k3 k4 m7 k5 k6 k7 k8 m8 m9 m10 k9 m11 m12 m13 hv, kI cI m3 9 re, kI cI m5 27 rg, kI cI m13 3 cn] → va_S A s.heap H locs → lv_has ls 7 [(0, .ref m0), (1, .int (nI j)), (2, .int 0), (3, .int mf), (4, .int (nI q)), (5, .int (nI i))] → W p l e (rM 1 0 0 21) s m ([.ref m0, .int (nI j), .int 0] : List Value).toArray below meth c H locs 0 0 Q (F0 m 22 ls []) := by
        intro n
        induction n with
        | zero =>
          intro i mf hi H locs ls hP hD hS hl
          refine lv_iload hx hb dX7_leads_22 (lv_at hl 5 rfl) ?_
          refine lv_aload_n hx hb dX7_leads_24 rfl (lv_at hl 0 rfl) ?_
          refine va_get (D := D) (ci := 7) (v := .ref m3) (C := RX7) (T := TX7) (N := 27) hx hb hts iT_X7 hown hK1 hP 0 rfl rfl 4 (by decide) (hts _ t_555) (fun _ h9 => h9) rfl dX7_leads_25 ?_
          refine lv_iload_n hx hb dX7_leads_28 rfl (lv_at hl 1 rfl) ?_
          refine va_iald hx hb hK1 hP 1 0 rfl rfl (vp_in_nI (by omega) (by omega)) dX7_leads_29 ?_
          refine lv_nmi (show _ = re j from by rw [nI_clamp (n := j) (by omega)]) ?_
          refine lv_nmi (show _ = (nI e9 : Int32) from hej) ?_
          refine lv_icmp_ge (tgt := 132) hx hb dX7_leads_30 (by decide) (fun c_9 => ?_) (fun c_9 => ?_)
          rotate_left
          · exact absurd (nI_le (a := e9) (b := i) (by omega) (by omega)) c_9
          refine lv_iinc (v := nI (q + 1)) (lv' := [(4, .int (nI (q + 1))), (0, .ref m0), (1, .int (nI j)), (2, .int 0), (3, .int mf), (5, .int (nI i))]) hx hb dX7_leads_132 hl (k := 4) rfl (nI_1 q) (by decide) rfl (fun ls hl => ?_)
          refine lv_goto (tgt := 13) hx hb dX7_leads_135 (by decide) ?_
          exact ih_13 (q + 1) mf (by omega) _ _ _ (hP.sub [0, 1, 2, 3] rfl) (hD.sub [0, 1, 2, 3] rfl rfl) hS (lv_sub hl [1, 2, 3, 4, 0] rfl)
        | succ n ih_22 =>
          intro i mf hi H locs ls hP hD hS hl
          refine lv_iload hx hb dX7_leads_22 (lv_at hl 5 rfl) ?_
          refine lv_aload_n hx hb dX7_leads_24 rfl (lv_at hl 0 rfl) ?_
          refine va_get (D := D) (ci := 7) (v := .ref m3) (C := RX7) (T := TX7) (N := 27) hx hb hts iT_X7 hown hK1 hP 0 rfl rfl 4 (by decide) (hts _ t_555) (fun _ h9 => h9) rfl dX7_leads_25 ?_
          refine lv_iload_n hx hb dX7_leads_28 rfl (lv_at hl 1 rfl) ?_
          refine va_iald hx hb hK1 hP 1 0 rfl rfl (vp_in_nI (by omega) (by omega)) dX7_leads_29 ?_
          refine lv_nmi (show _ = re j from by rw [nI_clamp (n := j) (by omega)]) ?_
          refine lv_nmi (show _ = (nI e9 : Int32) from hej) ?_
          refine lv_icmp_ge (tgt := 132) hx hb dX7_leads_30 (by decide) (fun c_10 => ?_) (fun c_10 => ?_)
          · exact absurd c_10 (nI_ge (a := i) (b := e9) (by omega) (by omega))
          refine lv_aload_n hx hb dX7_leads_33 rfl (lv_at hl 0 rfl) ?_
          refine va_get (D := D) (ci := 7) (v := .ref m5) (C := RX7) (T := TX7) (N := 27) hx hb hts iT_X7 hown hK1 hP 0 rfl rfl 6 (by decide) (hts _ t_557) (fun _ h9 => h9) rfl dX7_leads_34 ?_
          refine lv_iconst (v := 3) hx hb dX7_leads_37 (by decide) ?_
          refine lv_iload_n hx hb dX7_leads_38 rfl (lv_at hl 1 rfl) ?_
          refine lv_imul hx hb dX7_leads_39 ?_
          refine lv_nmi (show _ = (nI (3 * j)) from pk_mul (3) (j)) ?_
          refine lv_iload hx hb dX7_leads_40 (lv_at hl 5 rfl) ?_
          refine lv_iadd hx hb dX7_leads_42 ?_
          refine lv_nmi (show _ = (nI ((3 * j) + i)) from nI_add ((3 * j)) (i)) ?_
          refine va_iald hx hb hK1 hP 2 0 rfl rfl (vp_in_nI (by omega) (by omega)) dX7_leads_43 ?_
          refine lv_nmi (show _ = rg ((3 * j) + i) from by rw [nI_clamp (n := ((3 * j) + i)) (by omega)]) ?_
          refine lv_istore (lv' := [(6, .int (rg ((3 * j) + i))), (0, .ref m0), (1, .int (nI j)), (2, .int 0), (3, .int mf), (4, .int (nI q)), (5, .int (nI i))]) hx hb dX7_leads_44 hl (by decide) rfl (fun ls hl => ?_)
          refine lv_iload_n hx hb dX7_leads_46 rfl (lv_at hl 4 rfl) ?_
          refine lv_iload_n hx hb dX7_leads_47 rfl (lv_at hl 4 rfl) ?_
          refine lv_iload hx hb dX7_leads_48 (lv_at hl 0 rfl) ?_
          refine xc_i (wc := []) (wr := [kX7 m0 (nI z) m1 (nI r9) m2 m3 m4 m5 (nI n9) (nI v) m6 k1 k2 k3 k4 m7 k5 k6 k7 k8 m8 m9 m10 k9 m11 m12 m13 hv, kI cI m3 9 re, kI cI m5 27 rg, kI cI m13 3 cn]) (xrS (n := 1) (As := [.int (rg ((3 * j) + i))]) (rest := [.int mf, .int mf]) hd hK hP hD (c_X7_fromOf l D cI cJ cZ cR _ (rg ((3 * j) + i)) ) (gS t_716 mS_X7_fromOf) hS_X7_fromOf ⟨(Nat.le_of_ble_eq_true rfl), (Nat.le_of_ble_eq_true rfl)⟩ [] rfl rfl rfl hl.1 rfl (Nat.le_of_ble_eq_true rfl) dX7_leads_50 ⟨(Nat.le_of_ble_eq_true rfl), (Nat.le_of_ble_eq_true rfl)⟩) hP hD hS hA [] [0, 1, 2, 3] rfl rfl rfl (by decide) (fun r_11 u_12 H locs hw_13 hP hD hS => ?_)
          have hw_14 : r_11 = (fO (rg ((3 * j) + i))) := hw_13
          subst hw_14
          have hP : va_P D vwCl [kX7 m0 (nI z) m1 (nI r9) m2 m3 m4 m5 (nI n9) (nI v) m6 k1 k2 k3 k4 m7 k5 k6 k7 k8 m8 m9 m10 k9 m11 m12 m13 hv, kI cI m3 9 re, kI cI m5 27 rg, kI cI m13 3 cn] H := hP
          have hD : va_D A [kX7 m0 (nI z) m1 (nI r9) m2 m3 m4 m5 (nI n9) (nI v) m6 k1 k2 k3 k4 m7 k5 k6 k7 k8 m8 m9 m10 k9 m11 m12 m13 hv, kI cI m3 9 re, kI cI m5 27 rg, kI cI m13 3 cn] := hD
          refine xc_i (wc := []) (wr := [kX7 m0 (nI z) m1 (nI r9) m2 m3 m4 m5 (nI n9) (nI v) m6 k1 k2 k3 k4 m7 k5 k6 k7 k8 m8 m9 m10 k9 m11 m12 m13 hv, kI cI m3 9 re, kI cI m5 27 rg, kI cI m13 3 cn]) (xrS (n := 2) (As := [.int mf, .int (fO (rg ((3 * j) + i)))]) (rest := [.int mf]) hd hK hP hD (c_X7_has l D cI cJ cZ cR _ mf (fO (rg ((3 * j) + i))) ) (gS t_671 mS_X7_has) hS_X7_has ⟨(Nat.le_of_ble_eq_true rfl), (Nat.le_of_ble_eq_true rfl)⟩ [] rfl rfl rfl hl.1 rfl (Nat.le_of_ble_eq_true rfl) dX7_leads_53 ⟨(Nat.le_of_ble_eq_true rfl), (Nat.le_of_ble_eq_true rfl)⟩) hP hD hS hA [] [0, 1, 2, 3] rfl rfl rfl (by decide) (fun r_15 u_16 H locs hw_17 hP hD hS => ?_)
          have hw_18 : r_15 = (hR mf (fO (rg ((3 * j) + i)))) := hw_17
          subst hw_18
          have hP : va_P D vwCl [kX7 m0 (nI z) m1 (nI r9) m2 m3 m4 m5 (nI n9) (nI v) m6 k1 k2 k3 k4 m7 k5 k6 k7 k8 m8 m9 m10 k9 m11 m12 m13 hv, kI cI m3 9 re, kI cI m5 27 rg, kI cI m13 3 cn] H := hP
          have hD : va_D A [kX7 m0 (nI z) m1 (nI r9) m2 m3 m4 m5 (nI n9) (nI v) m6 k1 k2 k3 k4 m7 k5 k6 k7 k8 m8 m9 m10 k9 m11 m12 m13 hv, kI cI m3 9 re, kI cI m5 27 rg, kI cI m13 3 cn] := hD
          refine lv_if_eq (tgt := 83) hx hb dX7_leads_56 (by decide) (fun c_19 => ?_) (fun c_19 => ?_)
          · skip
            refine lv_iconst (v := 0) hx hb dX7_leads_83 (by decide) ?_
            refine lv_ior hx hb dX7_leads_84 ?_
            refine lv_istore_n (lv' := [(3, .int (mf ||| 0)), (6, .int (rg ((3 * j) + i))), (0, .ref m0), (1, .int (nI j)), (2, .int 0), (4, .int (nI q)), (5, .int (nI i))]) hx hb dX7_leads_85 rfl hl (by decide) rfl (fun ls hl => ?_)
            refine lv_iload_n hx hb dX7_leads_86 rfl (lv_at hl 0 rfl) ?_
            refine lv_iload_n hx hb dX7_leads_87 rfl (lv_at hl 0 rfl) ?_
            refine lv_iload hx hb dX7_leads_88 (lv_at hl 1 rfl) ?_
            refine xc_i (wc := []) (wr := [kX7 m0 (nI z) m1 (nI r9) m2 m3 m4 m5 (nI n9) (nI v) m6 k1 k2 k3 k4 m7 k5 k6 k7 k8 m8 m9 m10 k9 m11 m12 m13 hv, kI cI m3 9 re, kI cI m5 27 rg, kI cI m13 3 cn]) (xrS (n := 1) (As := [.int (rg ((3 * j) + i))]) (rest := [.int (mf ||| 0), .int (mf ||| 0)]) hd hK hP hD (c_X7_toOf l D cI cJ cZ cR _ (rg ((3 * j) + i)) ) (gS t_723 mS_X7_toOf) hS_X7_toOf ⟨(Nat.le_of_ble_eq_true rfl), (Nat.le_of_ble_eq_true rfl)⟩ [] rfl rfl rfl hl.1 rfl (Nat.le_of_ble_eq_true rfl) dX7_leads_90 ⟨(Nat.le_of_ble_eq_true rfl), (Nat.le_of_ble_eq_true rfl)⟩) hP hD hS hA [] [0, 1, 2, 3] rfl rfl rfl (by decide) (fun r_20 u_21 H locs hw_22 hP hD hS => ?_)
            have hw_23 : r_20 = (tO (rg ((3 * j) + i))) := hw_22
            subst hw_23
            have hP : va_P D vwCl [kX7 m0 (nI z) m1 (nI r9) m2 m3 m4 m5 (nI n9) (nI v) m6 k1 k2 k3 k4 m7 k5 k6 k7 k8 m8 m9 m10 k9 m11 m12 m13 hv, kI cI m3 9 re, kI cI m5 27 rg, kI cI m13 3 cn] H := hP
            have hD : va_D A [kX7 m0 (nI z) m1 (nI r9) m2 m3 m4 m5 (nI n9) (nI v) m6 k1 k2 k3 k4 m7 k5 k6 k7 k8 m8 m9 m10 k9 m11 m12 m13 hv, kI cI m3 9 re, kI cI m5 27 rg, kI cI m13 3 cn] := hD
            refine xc_i (wc := []) (wr := [kX7 m0 (nI z) m1 (nI r9) m2 m3 m4 m5 (nI n9) (nI v) m6 k1 k2 k3 k4 m7 k5 k6 k7 k8 m8 m9 m10 k9 m11 m12 m13 hv, kI cI m3 9 re, kI cI m5 27 rg, kI cI m13 3 cn]) (xrS (n := 2) (As := [.int (mf ||| 0), .int (tO (rg ((3 * j) + i)))]) (rest := [.int (mf ||| 0)]) hd hK hP hD (c_X7_has l D cI cJ cZ cR _ (mf ||| 0) (tO (rg ((3 * j) + i))) ) (gS t_671 mS_X7_has) hS_X7_has ⟨(Nat.le_of_ble_eq_true rfl), (Nat.le_of_ble_eq_true rfl)⟩ [] rfl rfl rfl hl.1 rfl (Nat.le_of_ble_eq_true rfl) dX7_leads_93 ⟨(Nat.le_of_ble_eq_true rfl), (Nat.le_of_ble_eq_true rfl)⟩) hP hD hS hA [] [0, 1, 2, 3] rfl rfl rfl (by decide) (fun r_24 u_25 H locs hw_26 hP hD hS => ?_)
            have hw_27 : r_24 = (hR (mf ||| 0) (tO (rg ((3 * j) + i)))) := hw_26
            subst hw_27
            have hP : va_P D vwCl [kX7 m0 (nI z) m1 (nI r9) m2 m3 m4 m5 (nI n9) (nI v) m6 k1 k2 k3 k4 m7 k5 k6 k7 k8 m8 m9 m10 k9 m11 m12 m13 hv, kI cI m3 9 re, kI cI m5 27 rg, kI cI m13 3 cn] H := hP
            have hD : va_D A [kX7 m0 (nI z) m1 (nI r9) m2 m3 m4 m5 (nI n9) (nI v) m6 k1 k2 k3 k4 m7 k5 k6 k7 k8 m8 m9 m10 k9 m11 m12 m13 hv, kI cI m3 9 re, kI cI m5 27 rg, kI cI m13 3 cn] := hD
            refine lv_if_eq (tgt := 123) hx hb dX7_leads_96 (by decide) (fun c_28 => ?_) (fun c_28 => ?_)
            · skip
              refine lv_iconst (v := 0) hx hb dX7_leads_123 (by decide) ?_
              refine lv_ior hx hb dX7_leads_124 ?_
              refine lv_istore_n (lv' := [(3, .int ((mf ||| 0) ||| 0)), (6, .int (rg ((3 * j) + i))), (0, .ref m0), (1, .int (nI j)), (2, .int 0), (4, .int (nI q)), (5, .int (nI i))]) hx hb dX7_leads_125 rfl hl (by decide) rfl (fun ls hl => ?_)
              refine lv_iinc (v := nI (i + 1)) (lv' := [(5, .int (nI (i + 1))), (3, .int ((mf ||| 0) ||| 0)), (6, .int (rg ((3 * j) + i))), (0, .ref m0), (1, .int (nI j)), (2, .int 0), (4, .int (nI q))]) hx hb dX7_leads_126 hl (k := 6) rfl (nI_1 i) (by decide) rfl (fun ls hl => ?_)
              refine lv_goto (tgt := 22) hx hb dX7_leads_129 (by decide) ?_
              exact ih_22 (i + 1) ((mf ||| 0) ||| 0) (by omega) _ _ _ (hP.sub [0, 1, 2, 3] rfl) (hD.sub [0, 1, 2, 3] rfl rfl) hS (lv_sub hl [3, 4, 5, 1, 6, 0] rfl)
            · skip
              refine lv_aload_n hx hb dX7_leads_99 rfl (lv_at hl 2 rfl) ?_
              refine va_get (D := D) (ci := 7) (v := .ref m13) (C := RX7) (T := TX7) (N := 27) hx hb hts iT_X7 hown hK1 hP 0 rfl rfl 25 (by decide) (hts _ t_576) (fun _ h9 => h9) rfl dX7_leads_100 ?_
              refine lv_iload hx hb dX7_leads_103 (lv_at hl 6 rfl) ?_
              refine va_iald hx hb hK1 hP 3 0 rfl rfl (vp_in_nI (by omega) (by omega)) dX7_leads_105 ?_
              refine lv_nmi (show _ = cn i from by rw [nI_clamp (n := i) (by omega)]) ?_
              refine lv_iconst (v := 1) hx hb dX7_leads_106 (by decide) ?_
              refine xc_i (wc := []) (wr := [kX7 m0 (nI z) m1 (nI r9) m2 m3 m4 m5 (nI n9) (nI v) m6 k1 k2 k3 k4 m7 k5 k6 k7 k8 m8 m9 m10 k9 m11 m12 m13 hv, kI cI m3 9 re, kI cI m5 27 rg, kI cI m13 3 cn]) (xrS (n := 2) (As := [.int (cn i), .int 1]) (rest := [.int (mf ||| 0)]) hd hK hP hD (c_X7_has l D cI cJ cZ cR _ (cn i) 1 ) (gS t_671 mS_X7_has) hS_X7_has ⟨(Nat.le_of_ble_eq_true rfl), (Nat.le_of_ble_eq_true rfl)⟩ [] rfl rfl rfl hl.1 rfl (Nat.le_of_ble_eq_true rfl) dX7_leads_107 ⟨(Nat.le_of_ble_eq_true rfl), (Nat.le_of_ble_eq_true rfl)⟩) hP hD hS hA [] [0, 1, 2, 3] rfl rfl rfl (by decide) (fun r_29 u_30 H locs hw_31 hP hD hS => ?_)
              have hw_32 : r_29 = (hR (cn i) 1) := hw_31
              subst hw_32
              have hP : va_P D vwCl [kX7 m0 (nI z) m1 (nI r9) m2 m3 m4 m5 (nI n9) (nI v) m6 k1 k2 k3 k4 m7 k5 k6 k7 k8 m8 m9 m10 k9 m11 m12 m13 hv, kI cI m3 9 re, kI cI m5 27 rg, kI cI m13 3 cn] H := hP
              have hD : va_D A [kX7 m0 (nI z) m1 (nI r9) m2 m3 m4 m5 (nI n9) (nI v) m6 k1 k2 k3 k4 m7 k5 k6 k7 k8 m8 m9 m10 k9 m11 m12 m13 hv, kI cI m3 9 re, kI cI m5 27 rg, kI cI m13 3 cn] := hD
              refine lv_if_eq (tgt := 123) hx hb dX7_leads_110 (by decide) (fun c_33 => ?_) (fun c_33 => ?_)
              · skip
                refine lv_iconst (v := 0) hx hb dX7_leads_123 (by decide) ?_
                refine lv_ior hx hb dX7_leads_124 ?_
                refine lv_istore_n (lv' := [(3, .int ((mf ||| 0) ||| 0)), (6, .int (rg ((3 * j) + i))), (0, .ref m0), (1, .int (nI j)), (2, .int 0), (4, .int (nI q)), (5, .int (nI i))]) hx hb dX7_leads_125 rfl hl (by decide) rfl (fun ls hl => ?_)
                refine lv_iinc (v := nI (i + 1)) (lv' := [(5, .int (nI (i + 1))), (3, .int ((mf ||| 0) ||| 0)), (6, .int (rg ((3 * j) + i))), (0, .ref m0), (1, .int (nI j)), (2, .int 0), (4, .int (nI q))]) hx hb dX7_leads_126 hl (k := 6) rfl (nI_1 i) (by decide) rfl (fun ls hl => ?_)
                refine lv_goto (tgt := 22) hx hb dX7_leads_129 (by decide) ?_
                exact ih_22 (i + 1) ((mf ||| 0) ||| 0) (by omega) _ _ _ (hP.sub [0, 1, 2, 3] rfl) (hD.sub [0, 1, 2, 3] rfl rfl) hS (lv_sub hl [3, 4, 5, 1, 6, 0] rfl)
              · skip
                refine lv_iconst (v := 1) hx hb dX7_leads_113 (by decide) ?_
                refine lv_iload hx hb dX7_leads_114 (lv_at hl 1 rfl) ?_
                refine xc_i (wc := []) (wr := [kX7 m0 (nI z) m1 (nI r9) m2 m3 m4 m5 (nI n9) (nI v) m6 k1 k2 k3 k4 m7 k5 k6 k7 k8 m8 m9 m10 k9 m11 m12 m13 hv, kI cI m3 9 re, kI cI m5 27 rg, kI cI m13 3 cn]) (xrS (n := 1) (As := [.int (rg ((3 * j) + i))]) (rest := [.int 1, .int (mf ||| 0)]) hd hK hP hD (c_X7_fromOf l D cI cJ cZ cR _ (rg ((3 * j) + i)) ) (gS t_716 mS_X7_fromOf) hS_X7_fromOf ⟨(Nat.le_of_ble_eq_true rfl), (Nat.le_of_ble_eq_true rfl)⟩ [] rfl rfl rfl hl.1 rfl (Nat.le_of_ble_eq_true rfl) dX7_leads_116 ⟨(Nat.le_of_ble_eq_true rfl), (Nat.le_of_ble_eq_true rfl)⟩) hP hD hS hA [] [0, 1, 2, 3] rfl rfl rfl (by decide) (fun r_34 u_35 H locs hw_36 hP hD hS => ?_)
                have hw_37 : r_34 = (fO (rg ((3 * j) + i))) := hw_36
                subst hw_37
                have hP : va_P D vwCl [kX7 m0 (nI z) m1 (nI r9) m2 m3 m4 m5 (nI n9) (nI v) m6 k1 k2 k3 k4 m7 k5 k6 k7 k8 m8 m9 m10 k9 m11 m12 m13 hv, kI cI m3 9 re, kI cI m5 27 rg, kI cI m13 3 cn] H := hP
                have hD : va_D A [kX7 m0 (nI z) m1 (nI r9) m2 m3 m4 m5 (nI n9) (nI v) m6 k1 k2 k3 k4 m7 k5 k6 k7 k8 m8 m9 m10 k9 m11 m12 m13 hv, kI cI m3 9 re, kI cI m5 27 rg, kI cI m13 3 cn] := hD
                refine lv_ishl hx hb dX7_leads_119 ?_
                refine lv_goto (tgt := 124) hx hb dX7_leads_120 (by decide) ?_
                refine lv_ior hx hb dX7_leads_124 ?_
                refine lv_istore_n (lv' := [(3, .int ((mf ||| 0) ||| ((1 : Int32) <<< ((fO (rg ((3 * j) + i))) &&& 31)))), (6, .int (rg ((3 * j) + i))), (0, .ref m0), (1, .int (nI j)), (2, .int 0), (4, .int (nI q)), (5, .int (nI i))]) hx hb dX7_leads_125 rfl hl (by decide) rfl (fun ls hl => ?_)
                refine lv_iinc (v := nI (i + 1)) (lv' := [(5, .int (nI (i + 1))), (3, .int ((mf ||| 0) ||| ((1 : Int32) <<< ((fO (rg ((3 * j) + i))) &&& 31)))), (6, .int (rg ((3 * j) + i))), (0, .ref m0), (1, .int (nI j)), (2, .int 0), (4, .int (nI q))]) hx hb dX7_leads_126 hl (k := 6) rfl (nI_1 i) (by decide) rfl (fun ls hl => ?_)
                refine lv_goto (tgt := 22) hx hb dX7_leads_129 (by decide) ?_
                exact ih_22 (i + 1) ((mf ||| 0) ||| ((1 : Int32) <<< ((fO (rg ((3 * j) + i))) &&& 31))) (by omega) _ _ _ (hP.sub [0, 1, 2, 3] rfl) (hD.sub [0, 1, 2, 3] rfl rfl) hS (lv_sub hl [3, 4, 5, 1, 6, 0] rfl)
          · skip
            refine lv_aload_n hx hb dX7_leads_59 rfl (lv_at hl 1 rfl) ?_
            refine va_get (D := D) (ci := 7) (v := .ref m13) (C := RX7) (T := TX7) (N := 27) hx hb hts iT_X7 hown hK1 hP 0 rfl rfl 25 (by decide) (hts _ t_576) (fun _ h9 => h9) rfl dX7_leads_60 ?_
            refine lv_iload hx hb dX7_leads_63 (lv_at hl 6 rfl) ?_
            refine va_iald hx hb hK1 hP 3 0 rfl rfl (vp_in_nI (by omega) (by omega)) dX7_leads_65 ?_
            refine lv_nmi (show _ = cn i from by rw [nI_clamp (n := i) (by omega)]) ?_
            refine lv_iconst (v := 0) hx hb dX7_leads_66 (by decide) ?_
            refine xc_i (wc := []) (wr := [kX7 m0 (nI z) m1 (nI r9) m2 m3 m4 m5 (nI n9) (nI v) m6 k1 k2 k3 k4 m7 k5 k6 k7 k8 m8 m9 m10 k9 m11 m12 m13 hv, kI cI m3 9 re, kI cI m5 27 rg, kI cI m13 3 cn]) (xrS (n := 2) (As := [.int (cn i), .int 0]) (rest := [.int mf]) hd hK hP hD (c_X7_has l D cI cJ cZ cR _ (cn i) 0 ) (gS t_671 mS_X7_has) hS_X7_has ⟨(Nat.le_of_ble_eq_true rfl), (Nat.le_of_ble_eq_true rfl)⟩ [] rfl rfl rfl hl.1 rfl (Nat.le_of_ble_eq_true rfl) dX7_leads_67 ⟨(Nat.le_of_ble_eq_true rfl), (Nat.le_of_ble_eq_true rfl)⟩) hP hD hS hA [] [0, 1, 2, 3] rfl rfl rfl (by decide) (fun r_38 u_39 H locs hw_40 hP hD hS => ?_)
            have hw_41 : r_38 = (hR (cn i) 0) := hw_40
            subst hw_41
            have hP : va_P D vwCl [kX7 m0 (nI z) m1 (nI r9) m2 m3 m4 m5 (nI n9) (nI v) m6 k1 k2 k3 k4 m7 k5 k6 k7 k8 m8 m9 m10 k9 m11 m12 m13 hv, kI cI m3 9 re, kI cI m5 27 rg, kI cI m13 3 cn] H := hP
            have hD : va_D A [kX7 m0 (nI z) m1 (nI r9) m2 m3 m4 m5 (nI n9) (nI v) m6 k1 k2 k3 k4 m7 k5 k6 k7 k8 m8 m9 m10 k9 m11 m12 m13 hv, kI cI m3 9 re, kI cI m5 27 rg, kI cI m13 3 cn] := hD
            refine lv_if_eq (tgt := 83) hx hb dX7_leads_70 (by decide) (fun c_42 => ?_) (fun c_42 => ?_)
            · skip
              refine lv_iconst (v := 0) hx hb dX7_leads_83 (by decide) ?_
              refine lv_ior hx hb dX7_leads_84 ?_
              refine lv_istore_n (lv' := [(3, .int (mf ||| 0)), (6, .int (rg ((3 * j) + i))), (0, .ref m0), (1, .int (nI j)), (2, .int 0), (4, .int (nI q)), (5, .int (nI i))]) hx hb dX7_leads_85 rfl hl (by decide) rfl (fun ls hl => ?_)
              refine lv_iload_n hx hb dX7_leads_86 rfl (lv_at hl 0 rfl) ?_
              refine lv_iload_n hx hb dX7_leads_87 rfl (lv_at hl 0 rfl) ?_
              refine lv_iload hx hb dX7_leads_88 (lv_at hl 1 rfl) ?_
              refine xc_i (wc := []) (wr := [kX7 m0 (nI z) m1 (nI r9) m2 m3 m4 m5 (nI n9) (nI v) m6 k1 k2 k3 k4 m7 k5 k6 k7 k8 m8 m9 m10 k9 m11 m12 m13 hv, kI cI m3 9 re, kI cI m5 27 rg, kI cI m13 3 cn]) (xrS (n := 1) (As := [.int (rg ((3 * j) + i))]) (rest := [.int (mf ||| 0), .int (mf ||| 0)]) hd hK hP hD (c_X7_toOf l D cI cJ cZ cR _ (rg ((3 * j) + i)) ) (gS t_723 mS_X7_toOf) hS_X7_toOf ⟨(Nat.le_of_ble_eq_true rfl), (Nat.le_of_ble_eq_true rfl)⟩ [] rfl rfl rfl hl.1 rfl (Nat.le_of_ble_eq_true rfl) dX7_leads_90 ⟨(Nat.le_of_ble_eq_true rfl), (Nat.le_of_ble_eq_true rfl)⟩) hP hD hS hA [] [0, 1, 2, 3] rfl rfl rfl (by decide) (fun r_43 u_44 H locs hw_45 hP hD hS => ?_)
              have hw_46 : r_43 = (tO (rg ((3 * j) + i))) := hw_45
              subst hw_46
              have hP : va_P D vwCl [kX7 m0 (nI z) m1 (nI r9) m2 m3 m4 m5 (nI n9) (nI v) m6 k1 k2 k3 k4 m7 k5 k6 k7 k8 m8 m9 m10 k9 m11 m12 m13 hv, kI cI m3 9 re, kI cI m5 27 rg, kI cI m13 3 cn] H := hP
              have hD : va_D A [kX7 m0 (nI z) m1 (nI r9) m2 m3 m4 m5 (nI n9) (nI v) m6 k1 k2 k3 k4 m7 k5 k6 k7 k8 m8 m9 m10 k9 m11 m12 m13 hv, kI cI m3 9 re, kI cI m5 27 rg, kI cI m13 3 cn] := hD
              refine xc_i (wc := []) (wr := [kX7 m0 (nI z) m1 (nI r9) m2 m3 m4 m5 (nI n9) (nI v) m6 k1 k2 k3 k4 m7 k5 k6 k7 k8 m8 m9 m10 k9 m11 m12 m13 hv, kI cI m3 9 re, kI cI m5 27 rg, kI cI m13 3 cn]) (xrS (n := 2) (As := [.int (mf ||| 0), .int (tO (rg ((3 * j) + i)))]) (rest := [.int (mf ||| 0)]) hd hK hP hD (c_X7_has l D cI cJ cZ cR _ (mf ||| 0) (tO (rg ((3 * j) + i))) ) (gS t_671 mS_X7_has) hS_X7_has ⟨(Nat.le_of_ble_eq_true rfl), (Nat.le_of_ble_eq_true rfl)⟩ [] rfl rfl rfl hl.1 rfl (Nat.le_of_ble_eq_true rfl) dX7_leads_93 ⟨(Nat.le_of_ble_eq_true rfl), (Nat.le_of_ble_eq_true rfl)⟩) hP hD hS hA [] [0, 1, 2, 3] rfl rfl rfl (by decide) (fun r_47 u_48 H locs hw_49 hP hD hS => ?_)
              have hw_50 : r_47 = (hR (mf ||| 0) (tO (rg ((3 * j) + i)))) := hw_49
              subst hw_50
              have hP : va_P D vwCl [kX7 m0 (nI z) m1 (nI r9) m2 m3 m4 m5 (nI n9) (nI v) m6 k1 k2 k3 k4 m7 k5 k6 k7 k8 m8 m9 m10 k9 m11 m12 m13 hv, kI cI m3 9 re, kI cI m5 27 rg, kI cI m13 3 cn] H := hP
              have hD : va_D A [kX7 m0 (nI z) m1 (nI r9) m2 m3 m4 m5 (nI n9) (nI v) m6 k1 k2 k3 k4 m7 k5 k6 k7 k8 m8 m9 m10 k9 m11 m12 m13 hv, kI cI m3 9 re, kI cI m5 27 rg, kI cI m13 3 cn] := hD
              refine lv_if_eq (tgt := 123) hx hb dX7_leads_96 (by decide) (fun c_51 => ?_) (fun c_51 => ?_)
              · skip
                refine lv_iconst (v := 0) hx hb dX7_leads_123 (by decide) ?_
                refine lv_ior hx hb dX7_leads_124 ?_
                refine lv_istore_n (lv' := [(3, .int ((mf ||| 0) ||| 0)), (6, .int (rg ((3 * j) + i))), (0, .ref m0), (1, .int (nI j)), (2, .int 0), (4, .int (nI q)), (5, .int (nI i))]) hx hb dX7_leads_125 rfl hl (by decide) rfl (fun ls hl => ?_)
                refine lv_iinc (v := nI (i + 1)) (lv' := [(5, .int (nI (i + 1))), (3, .int ((mf ||| 0) ||| 0)), (6, .int (rg ((3 * j) + i))), (0, .ref m0), (1, .int (nI j)), (2, .int 0), (4, .int (nI q))]) hx hb dX7_leads_126 hl (k := 6) rfl (nI_1 i) (by decide) rfl (fun ls hl => ?_)
                refine lv_goto (tgt := 22) hx hb dX7_leads_129 (by decide) ?_
                exact ih_22 (i + 1) ((mf ||| 0) ||| 0) (by omega) _ _ _ (hP.sub [0, 1, 2, 3] rfl) (hD.sub [0, 1, 2, 3] rfl rfl) hS (lv_sub hl [3, 4, 5, 1, 6, 0] rfl)
              · skip
                refine lv_aload_n hx hb dX7_leads_99 rfl (lv_at hl 2 rfl) ?_
                refine va_get (D := D) (ci := 7) (v := .ref m13) (C := RX7) (T := TX7) (N := 27) hx hb hts iT_X7 hown hK1 hP 0 rfl rfl 25 (by decide) (hts _ t_576) (fun _ h9 => h9) rfl dX7_leads_100 ?_
                refine lv_iload hx hb dX7_leads_103 (lv_at hl 6 rfl) ?_
                refine va_iald hx hb hK1 hP 3 0 rfl rfl (vp_in_nI (by omega) (by omega)) dX7_leads_105 ?_
                refine lv_nmi (show _ = cn i from by rw [nI_clamp (n := i) (by omega)]) ?_
                refine lv_iconst (v := 1) hx hb dX7_leads_106 (by decide) ?_
                refine xc_i (wc := []) (wr := [kX7 m0 (nI z) m1 (nI r9) m2 m3 m4 m5 (nI n9) (nI v) m6 k1 k2 k3 k4 m7 k5 k6 k7 k8 m8 m9 m10 k9 m11 m12 m13 hv, kI cI m3 9 re, kI cI m5 27 rg, kI cI m13 3 cn]) (xrS (n := 2) (As := [.int (cn i), .int 1]) (rest := [.int (mf ||| 0)]) hd hK hP hD (c_X7_has l D cI cJ cZ cR _ (cn i) 1 ) (gS t_671 mS_X7_has) hS_X7_has ⟨(Nat.le_of_ble_eq_true rfl), (Nat.le_of_ble_eq_true rfl)⟩ [] rfl rfl rfl hl.1 rfl (Nat.le_of_ble_eq_true rfl) dX7_leads_107 ⟨(Nat.le_of_ble_eq_true rfl), (Nat.le_of_ble_eq_true rfl)⟩) hP hD hS hA [] [0, 1, 2, 3] rfl rfl rfl (by decide) (fun r_52 u_53 H locs hw_54 hP hD hS => ?_)
                have hw_55 : r_52 = (hR (cn i) 1) := hw_54
                subst hw_55
                have hP : va_P D vwCl [kX7 m0 (nI z) m1 (nI r9) m2 m3 m4 m5 (nI n9) (nI v) m6 k1 k2 k3 k4 m7 k5 k6 k7 k8 m8 m9 m10 k9 m11 m12 m13 hv, kI cI m3 9 re, kI cI m5 27 rg, kI cI m13 3 cn] H := hP
                have hD : va_D A [kX7 m0 (nI z) m1 (nI r9) m2 m3 m4 m5 (nI n9) (nI v) m6 k1 k2 k3 k4 m7 k5 k6 k7 k8 m8 m9 m10 k9 m11 m12 m13 hv, kI cI m3 9 re, kI cI m5 27 rg, kI cI m13 3 cn] := hD
                refine lv_if_eq (tgt := 123) hx hb dX7_leads_110 (by decide) (fun c_56 => ?_) (fun c_56 => ?_)
                · skip
                  refine lv_iconst (v := 0) hx hb dX7_leads_123 (by decide) ?_
                  refine lv_ior hx hb dX7_leads_124 ?_
                  refine lv_istore_n (lv' := [(3, .int ((mf ||| 0) ||| 0)), (6, .int (rg ((3 * j) + i))), (0, .ref m0), (1, .int (nI j)), (2, .int 0), (4, .int (nI q)), (5, .int (nI i))]) hx hb dX7_leads_125 rfl hl (by decide) rfl (fun ls hl => ?_)
                  refine lv_iinc (v := nI (i + 1)) (lv' := [(5, .int (nI (i + 1))), (3, .int ((mf ||| 0) ||| 0)), (6, .int (rg ((3 * j) + i))), (0, .ref m0), (1, .int (nI j)), (2, .int 0), (4, .int (nI q))]) hx hb dX7_leads_126 hl (k := 6) rfl (nI_1 i) (by decide) rfl (fun ls hl => ?_)
                  refine lv_goto (tgt := 22) hx hb dX7_leads_129 (by decide) ?_
                  exact ih_22 (i + 1) ((mf ||| 0) ||| 0) (by omega) _ _ _ (hP.sub [0, 1, 2, 3] rfl) (hD.sub [0, 1, 2, 3] rfl rfl) hS (lv_sub hl [3, 4, 5, 1, 6, 0] rfl)
                · skip
                  refine lv_iconst (v := 1) hx hb dX7_leads_113 (by decide) ?_
                  refine lv_iload hx hb dX7_leads_114 (lv_at hl 1 rfl) ?_
                  refine xc_i (wc := []) (wr := [kX7 m0 (nI z) m1 (nI r9) m2 m3 m4 m5 (nI n9) (nI v) m6 k1 k2 k3 k4 m7 k5 k6 k7 k8 m8 m9 m10 k9 m11 m12 m13 hv, kI cI m3 9 re, kI cI m5 27 rg, kI cI m13 3 cn]) (xrS (n := 1) (As := [.int (rg ((3 * j) + i))]) (rest := [.int 1, .int (mf ||| 0)]) hd hK hP hD (c_X7_fromOf l D cI cJ cZ cR _ (rg ((3 * j) + i)) ) (gS t_716 mS_X7_fromOf) hS_X7_fromOf ⟨(Nat.le_of_ble_eq_true rfl), (Nat.le_of_ble_eq_true rfl)⟩ [] rfl rfl rfl hl.1 rfl (Nat.le_of_ble_eq_true rfl) dX7_leads_116 ⟨(Nat.le_of_ble_eq_true rfl), (Nat.le_of_ble_eq_true rfl)⟩) hP hD hS hA [] [0, 1, 2, 3] rfl rfl rfl (by decide) (fun r_57 u_58 H locs hw_59 hP hD hS => ?_)
                  have hw_60 : r_57 = (fO (rg ((3 * j) + i))) := hw_59
                  subst hw_60
                  have hP : va_P D vwCl [kX7 m0 (nI z) m1 (nI r9) m2 m3 m4 m5 (nI n9) (nI v) m6 k1 k2 k3 k4 m7 k5 k6 k7 k8 m8 m9 m10 k9 m11 m12 m13 hv, kI cI m3 9 re, kI cI m5 27 rg, kI cI m13 3 cn] H := hP
                  have hD : va_D A [kX7 m0 (nI z) m1 (nI r9) m2 m3 m4 m5 (nI n9) (nI v) m6 k1 k2 k3 k4 m7 k5 k6 k7 k8 m8 m9 m10 k9 m11 m12 m13 hv, kI cI m3 9 re, kI cI m5 27 rg, kI cI m13 3 cn] := hD
                  refine lv_ishl hx hb dX7_leads_119 ?_
                  refine lv_goto (tgt := 124) hx hb dX7_leads_120 (by decide) ?_
                  refine lv_ior hx hb dX7_leads_124 ?_
                  refine lv_istore_n (lv' := [(3, .int ((mf ||| 0) ||| ((1 : Int32) <<< ((fO (rg ((3 * j) + i))) &&& 31)))), (6, .int (rg ((3 * j) + i))), (0, .ref m0), (1, .int (nI j)), (2, .int 0), (4, .int (nI q)), (5, .int (nI i))]) hx hb dX7_leads_125 rfl hl (by decide) rfl (fun ls hl => ?_)
                  refine lv_iinc (v := nI (i + 1)) (lv' := [(5, .int (nI (i + 1))), (3, .int ((mf ||| 0) ||| ((1 : Int32) <<< ((fO (rg ((3 * j) + i))) &&& 31)))), (6, .int (rg ((3 * j) + i))), (0, .ref m0), (1, .int (nI j)), (2, .int 0), (4, .int (nI q))]) hx hb dX7_leads_126 hl (k := 6) rfl (nI_1 i) (by decide) rfl (fun ls hl => ?_)
                  refine lv_goto (tgt := 22) hx hb dX7_leads_129 (by decide) ?_
                  exact ih_22 (i + 1) ((mf ||| 0) ||| ((1 : Int32) <<< ((fO (rg ((3 * j) + i))) &&& 31))) (by omega) _ _ _ (hP.sub [0, 1, 2, 3] rfl) (hD.sub [0, 1, 2, 3] rfl rfl) hS (lv_sub hl [3, 4, 5, 1, 6, 0] rfl)
            · skip
              refine lv_iconst (v := 1) hx hb dX7_leads_73 (by decide) ?_
              refine lv_iload hx hb dX7_leads_74 (lv_at hl 0 rfl) ?_
              refine xc_i (wc := []) (wr := [kX7 m0 (nI z) m1 (nI r9) m2 m3 m4 m5 (nI n9) (nI v) m6 k1 k2 k3 k4 m7 k5 k6 k7 k8 m8 m9 m10 k9 m11 m12 m13 hv, kI cI m3 9 re, kI cI m5 27 rg, kI cI m13 3 cn]) (xrS (n := 1) (As := [.int (rg ((3 * j) + i))]) (rest := [.int 1, .int mf]) hd hK hP hD (c_X7_toOf l D cI cJ cZ cR _ (rg ((3 * j) + i)) ) (gS t_723 mS_X7_toOf) hS_X7_toOf ⟨(Nat.le_of_ble_eq_true rfl), (Nat.le_of_ble_eq_true rfl)⟩ [] rfl rfl rfl hl.1 rfl (Nat.le_of_ble_eq_true rfl) dX7_leads_76 ⟨(Nat.le_of_ble_eq_true rfl), (Nat.le_of_ble_eq_true rfl)⟩) hP hD hS hA [] [0, 1, 2, 3] rfl rfl rfl (by decide) (fun r_61 u_62 H locs hw_63 hP hD hS => ?_)
              have hw_64 : r_61 = (tO (rg ((3 * j) + i))) := hw_63
              subst hw_64
              have hP : va_P D vwCl [kX7 m0 (nI z) m1 (nI r9) m2 m3 m4 m5 (nI n9) (nI v) m6 k1 k2 k3 k4 m7 k5 k6 k7 k8 m8 m9 m10 k9 m11 m12 m13 hv, kI cI m3 9 re, kI cI m5 27 rg, kI cI m13 3 cn] H := hP
              have hD : va_D A [kX7 m0 (nI z) m1 (nI r9) m2 m3 m4 m5 (nI n9) (nI v) m6 k1 k2 k3 k4 m7 k5 k6 k7 k8 m8 m9 m10 k9 m11 m12 m13 hv, kI cI m3 9 re, kI cI m5 27 rg, kI cI m13 3 cn] := hD
              refine lv_ishl hx hb dX7_leads_79 ?_
              refine lv_goto (tgt := 84) hx hb dX7_leads_80 (by decide) ?_
              refine lv_ior hx hb dX7_leads_84 ?_
              refine lv_istore_n (lv' := [(3, .int (mf ||| ((1 : Int32) <<< ((tO (rg ((3 * j) + i))) &&& 31)))), (6, .int (rg ((3 * j) + i))), (0, .ref m0), (1, .int (nI j)), (2, .int 0), (4, .int (nI q)), (5, .int (nI i))]) hx hb dX7_leads_85 rfl hl (by decide) rfl (fun ls hl => ?_)
              refine lv_iload_n hx hb dX7_leads_86 rfl (lv_at hl 0 rfl) ?_
              refine lv_iload_n hx hb dX7_leads_87 rfl (lv_at hl 0 rfl) ?_
              refine lv_iload hx hb dX7_leads_88 (lv_at hl 1 rfl) ?_
              refine xc_i (wc := []) (wr := [kX7 m0 (nI z) m1 (nI r9) m2 m3 m4 m5 (nI n9) (nI v) m6 k1 k2 k3 k4 m7 k5 k6 k7 k8 m8 m9 m10 k9 m11 m12 m13 hv, kI cI m3 9 re, kI cI m5 27 rg, kI cI m13 3 cn]) (xrS (n := 1) (As := [.int (rg ((3 * j) + i))]) (rest := [.int (mf ||| ((1 : Int32) <<< ((tO (rg ((3 * j) + i))) &&& 31))), .int (mf ||| ((1 : Int32) <<< ((tO (rg ((3 * j) + i))) &&& 31)))]) hd hK hP hD (c_X7_toOf l D cI cJ cZ cR _ (rg ((3 * j) + i)) ) (gS t_723 mS_X7_toOf) hS_X7_toOf ⟨(Nat.le_of_ble_eq_true rfl), (Nat.le_of_ble_eq_true rfl)⟩ [] rfl rfl rfl hl.1 rfl (Nat.le_of_ble_eq_true rfl) dX7_leads_90 ⟨(Nat.le_of_ble_eq_true rfl), (Nat.le_of_ble_eq_true rfl)⟩) hP hD hS hA [] [0, 1, 2, 3] rfl rfl rfl (by decide) (fun r_65 u_66 H locs hw_67 hP hD hS => ?_)
              have hw_68 : r_65 = (tO (rg ((3 * j) + i))) := hw_67
              subst hw_68
              have hP : va_P D vwCl [kX7 m0 (nI z) m1 (nI r9) m2 m3 m4 m5 (nI n9) (nI v) m6 k1 k2 k3 k4 m7 k5 k6 k7 k8 m8 m9 m10 k9 m11 m12 m13 hv, kI cI m3 9 re, kI cI m5 27 rg, kI cI m13 3 cn] H := hP
              have hD : va_D A [kX7 m0 (nI z) m1 (nI r9) m2 m3 m4 m5 (nI n9) (nI v) m6 k1 k2 k3 k4 m7 k5 k6 k7 k8 m8 m9 m10 k9 m11 m12 m13 hv, kI cI m3 9 re, kI cI m5 27 rg, kI cI m13 3 cn] := hD
              refine xc_i (wc := []) (wr := [kX7 m0 (nI z) m1 (nI r9) m2 m3 m4 m5 (nI n9) (nI v) m6 k1 k2 k3 k4 m7 k5 k6 k7 k8 m8 m9 m10 k9 m11 m12 m13 hv, kI cI m3 9 re, kI cI m5 27 rg, kI cI m13 3 cn]) (xrS (n := 2) (As := [.int (mf ||| ((1 : Int32) <<< ((tO (rg ((3 * j) + i))) &&& 31))), .int (tO (rg ((3 * j) + i)))]) (rest := [.int (mf ||| ((1 : Int32) <<< ((tO (rg ((3 * j) + i))) &&& 31)))]) hd hK hP hD (c_X7_has l D cI cJ cZ cR _ (mf ||| ((1 : Int32) <<< ((tO (rg ((3 * j) + i))) &&& 31))) (tO (rg ((3 * j) + i))) ) (gS t_671 mS_X7_has) hS_X7_has ⟨(Nat.le_of_ble_eq_true rfl), (Nat.le_of_ble_eq_true rfl)⟩ [] rfl rfl rfl hl.1 rfl (Nat.le_of_ble_eq_true rfl) dX7_leads_93 ⟨(Nat.le_of_ble_eq_true rfl), (Nat.le_of_ble_eq_true rfl)⟩) hP hD hS hA [] [0, 1, 2, 3] rfl rfl rfl (by decide) (fun r_69 u_70 H locs hw_71 hP hD hS => ?_)
              have hw_72 : r_69 = (hR (mf ||| ((1 : Int32) <<< ((tO (rg ((3 * j) + i))) &&& 31))) (tO (rg ((3 * j) + i)))) := hw_71
              subst hw_72
              have hP : va_P D vwCl [kX7 m0 (nI z) m1 (nI r9) m2 m3 m4 m5 (nI n9) (nI v) m6 k1 k2 k3 k4 m7 k5 k6 k7 k8 m8 m9 m10 k9 m11 m12 m13 hv, kI cI m3 9 re, kI cI m5 27 rg, kI cI m13 3 cn] H := hP
              have hD : va_D A [kX7 m0 (nI z) m1 (nI r9) m2 m3 m4 m5 (nI n9) (nI v) m6 k1 k2 k3 k4 m7 k5 k6 k7 k8 m8 m9 m10 k9 m11 m12 m13 hv, kI cI m3 9 re, kI cI m5 27 rg, kI cI m13 3 cn] := hD
              refine lv_if_eq (tgt := 123) hx hb dX7_leads_96 (by decide) (fun c_73 => ?_) (fun c_73 => ?_)
              · skip
                refine lv_iconst (v := 0) hx hb dX7_leads_123 (by decide) ?_
                refine lv_ior hx hb dX7_leads_124 ?_
                refine lv_istore_n (lv' := [(3, .int ((mf ||| ((1 : Int32) <<< ((tO (rg ((3 * j) + i))) &&& 31))) ||| 0)), (6, .int (rg ((3 * j) + i))), (0, .ref m0), (1, .int (nI j)), (2, .int 0), (4, .int (nI q)), (5, .int (nI i))]) hx hb dX7_leads_125 rfl hl (by decide) rfl (fun ls hl => ?_)
                refine lv_iinc (v := nI (i + 1)) (lv' := [(5, .int (nI (i + 1))), (3, .int ((mf ||| ((1 : Int32) <<< ((tO (rg ((3 * j) + i))) &&& 31))) ||| 0)), (6, .int (rg ((3 * j) + i))), (0, .ref m0), (1, .int (nI j)), (2, .int 0), (4, .int (nI q))]) hx hb dX7_leads_126 hl (k := 6) rfl (nI_1 i) (by decide) rfl (fun ls hl => ?_)
                refine lv_goto (tgt := 22) hx hb dX7_leads_129 (by decide) ?_
                exact ih_22 (i + 1) ((mf ||| ((1 : Int32) <<< ((tO (rg ((3 * j) + i))) &&& 31))) ||| 0) (by omega) _ _ _ (hP.sub [0, 1, 2, 3] rfl) (hD.sub [0, 1, 2, 3] rfl rfl) hS (lv_sub hl [3, 4, 5, 1, 6, 0] rfl)
              · skip
                refine lv_aload_n hx hb dX7_leads_99 rfl (lv_at hl 2 rfl) ?_
                refine va_get (D := D) (ci := 7) (v := .ref m13) (C := RX7) (T := TX7) (N := 27) hx hb hts iT_X7 hown hK1 hP 0 rfl rfl 25 (by decide) (hts _ t_576) (fun _ h9 => h9) rfl dX7_leads_100 ?_
                refine lv_iload hx hb dX7_leads_103 (lv_at hl 6 rfl) ?_
                refine va_iald hx hb hK1 hP 3 0 rfl rfl (vp_in_nI (by omega) (by omega)) dX7_leads_105 ?_
                refine lv_nmi (show _ = cn i from by rw [nI_clamp (n := i) (by omega)]) ?_
                refine lv_iconst (v := 1) hx hb dX7_leads_106 (by decide) ?_
                refine xc_i (wc := []) (wr := [kX7 m0 (nI z) m1 (nI r9) m2 m3 m4 m5 (nI n9) (nI v) m6 k1 k2 k3 k4 m7 k5 k6 k7 k8 m8 m9 m10 k9 m11 m12 m13 hv, kI cI m3 9 re, kI cI m5 27 rg, kI cI m13 3 cn]) (xrS (n := 2) (As := [.int (cn i), .int 1]) (rest := [.int (mf ||| ((1 : Int32) <<< ((tO (rg ((3 * j) + i))) &&& 31)))]) hd hK hP hD (c_X7_has l D cI cJ cZ cR _ (cn i) 1 ) (gS t_671 mS_X7_has) hS_X7_has ⟨(Nat.le_of_ble_eq_true rfl), (Nat.le_of_ble_eq_true rfl)⟩ [] rfl rfl rfl hl.1 rfl (Nat.le_of_ble_eq_true rfl) dX7_leads_107 ⟨(Nat.le_of_ble_eq_true rfl), (Nat.le_of_ble_eq_true rfl)⟩) hP hD hS hA [] [0, 1, 2, 3] rfl rfl rfl (by decide) (fun r_74 u_75 H locs hw_76 hP hD hS => ?_)
                have hw_77 : r_74 = (hR (cn i) 1) := hw_76
                subst hw_77
                have hP : va_P D vwCl [kX7 m0 (nI z) m1 (nI r9) m2 m3 m4 m5 (nI n9) (nI v) m6 k1 k2 k3 k4 m7 k5 k6 k7 k8 m8 m9 m10 k9 m11 m12 m13 hv, kI cI m3 9 re, kI cI m5 27 rg, kI cI m13 3 cn] H := hP
                have hD : va_D A [kX7 m0 (nI z) m1 (nI r9) m2 m3 m4 m5 (nI n9) (nI v) m6 k1 k2 k3 k4 m7 k5 k6 k7 k8 m8 m9 m10 k9 m11 m12 m13 hv, kI cI m3 9 re, kI cI m5 27 rg, kI cI m13 3 cn] := hD
                refine lv_if_eq (tgt := 123) hx hb dX7_leads_110 (by decide) (fun c_78 => ?_) (fun c_78 => ?_)
                · skip
                  refine lv_iconst (v := 0) hx hb dX7_leads_123 (by decide) ?_
                  refine lv_ior hx hb dX7_leads_124 ?_
                  refine lv_istore_n (lv' := [(3, .int ((mf ||| ((1 : Int32) <<< ((tO (rg ((3 * j) + i))) &&& 31))) ||| 0)), (6, .int (rg ((3 * j) + i))), (0, .ref m0), (1, .int (nI j)), (2, .int 0), (4, .int (nI q)), (5, .int (nI i))]) hx hb dX7_leads_125 rfl hl (by decide) rfl (fun ls hl => ?_)
                  refine lv_iinc (v := nI (i + 1)) (lv' := [(5, .int (nI (i + 1))), (3, .int ((mf ||| ((1 : Int32) <<< ((tO (rg ((3 * j) + i))) &&& 31))) ||| 0)), (6, .int (rg ((3 * j) + i))), (0, .ref m0), (1, .int (nI j)), (2, .int 0), (4, .int (nI q))]) hx hb dX7_leads_126 hl (k := 6) rfl (nI_1 i) (by decide) rfl (fun ls hl => ?_)
                  refine lv_goto (tgt := 22) hx hb dX7_leads_129 (by decide) ?_
                  exact ih_22 (i + 1) ((mf ||| ((1 : Int32) <<< ((tO (rg ((3 * j) + i))) &&& 31))) ||| 0) (by omega) _ _ _ (hP.sub [0, 1, 2, 3] rfl) (hD.sub [0, 1, 2, 3] rfl rfl) hS (lv_sub hl [3, 4, 5, 1, 6, 0] rfl)
                · skip
                  refine lv_iconst (v := 1) hx hb dX7_leads_113 (by decide) ?_
                  refine lv_iload hx hb dX7_leads_114 (lv_at hl 1 rfl) ?_
                  refine xc_i (wc := []) (wr := [kX7 m0 (nI z) m1 (nI r9) m2 m3 m4 m5 (nI n9) (nI v) m6 k1 k2 k3 k4 m7 k5 k6 k7 k8 m8 m9 m10 k9 m11 m12 m13 hv, kI cI m3 9 re, kI cI m5 27 rg, kI cI m13 3 cn]) (xrS (n := 1) (As := [.int (rg ((3 * j) + i))]) (rest := [.int 1, .int (mf ||| ((1 : Int32) <<< ((tO (rg ((3 * j) + i))) &&& 31)))]) hd hK hP hD (c_X7_fromOf l D cI cJ cZ cR _ (rg ((3 * j) + i)) ) (gS t_716 mS_X7_fromOf) hS_X7_fromOf ⟨(Nat.le_of_ble_eq_true rfl), (Nat.le_of_ble_eq_true rfl)⟩ [] rfl rfl rfl hl.1 rfl (Nat.le_of_ble_eq_true rfl) dX7_leads_116 ⟨(Nat.le_of_ble_eq_true rfl), (Nat.le_of_ble_eq_true rfl)⟩) hP hD hS hA [] [0, 1, 2, 3] rfl rfl rfl (by decide) (fun r_79 u_80 H locs hw_81 hP hD hS => ?_)
                  have hw_82 : r_79 = (fO (rg ((3 * j) + i))) := hw_81
                  subst hw_82
                  have hP : va_P D vwCl [kX7 m0 (nI z) m1 (nI r9) m2 m3 m4 m5 (nI n9) (nI v) m6 k1 k2 k3 k4 m7 k5 k6 k7 k8 m8 m9 m10 k9 m11 m12 m13 hv, kI cI m3 9 re, kI cI m5 27 rg, kI cI m13 3 cn] H := hP
                  have hD : va_D A [kX7 m0 (nI z) m1 (nI r9) m2 m3 m4 m5 (nI n9) (nI v) m6 k1 k2 k3 k4 m7 k5 k6 k7 k8 m8 m9 m10 k9 m11 m12 m13 hv, kI cI m3 9 re, kI cI m5 27 rg, kI cI m13 3 cn] := hD
                  refine lv_ishl hx hb dX7_leads_119 ?_
                  refine lv_goto (tgt := 124) hx hb dX7_leads_120 (by decide) ?_
                  refine lv_ior hx hb dX7_leads_124 ?_
                  refine lv_istore_n (lv' := [(3, .int ((mf ||| ((1 : Int32) <<< ((tO (rg ((3 * j) + i))) &&& 31))) ||| ((1 : Int32) <<< ((fO (rg ((3 * j) + i))) &&& 31)))), (6, .int (rg ((3 * j) + i))), (0, .ref m0), (1, .int (nI j)), (2, .int 0), (4, .int (nI q)), (5, .int (nI i))]) hx hb dX7_leads_125 rfl hl (by decide) rfl (fun ls hl => ?_)
                  refine lv_iinc (v := nI (i + 1)) (lv' := [(5, .int (nI (i + 1))), (3, .int ((mf ||| ((1 : Int32) <<< ((tO (rg ((3 * j) + i))) &&& 31))) ||| ((1 : Int32) <<< ((fO (rg ((3 * j) + i))) &&& 31)))), (6, .int (rg ((3 * j) + i))), (0, .ref m0), (1, .int (nI j)), (2, .int 0), (4, .int (nI q))]) hx hb dX7_leads_126 hl (k := 6) rfl (nI_1 i) (by decide) rfl (fun ls hl => ?_)
                  refine lv_goto (tgt := 22) hx hb dX7_leads_129 (by decide) ?_
                  exact ih_22 (i + 1) ((mf ||| ((1 : Int32) <<< ((tO (rg ((3 * j) + i))) &&& 31))) ||| ((1 : Int32) <<< ((fO (rg ((3 * j) + i))) &&& 31))) (by omega) _ _ _ (hP.sub [0, 1, 2, 3] rfl) (hD.sub [0, 1, 2, 3] rfl rfl) hS (lv_sub hl [3, 4, 5, 1, 6, 0] rfl)
      exact LOOP_22 e9 0 me (by omega) _ _ _ (hP.sub [0, 1, 2, 3] rfl) (hD.sub [0, 1, 2, 3] rfl rfl) hS (lv_sub hl [1, 2, 3, 4, 5, 0] rfl)
  exact LOOP_13 4 0 1 (by omega) _ _ _ (hP.sub [0, 1, 2, 3] rfl) (hD.sub [0, 1, 2, 3] rfl rfl) hS (lv_sub hl [2, 3, 4, 1, 0] rfl)
set_option maxHeartbeats 4000000 in
set_option maxRecDepth 100000 in
theorem g_leads_1 (sz : Nat) (m0 : Nat) (m1 : Nat) (m2 : Nat) (m3 : Nat) (m4 : Nat) (m5 : Nat) (m6 : Nat) (m7 : Nat) (m8 : Nat) (m9 : Nat) (m10 : Nat) (m11 : Nat) (m12 : Nat) (m13 : Nat) (z : Nat) (r9 : Nat) (n9 : Nat) (v : Nat) (k1 : Int32) (k2 : Int32) (k3 : Int32) (k4 : Int32) (k5 : Int32) (k6 : Int32) (k7 : Int32) (k8 : Int32) (k9 : Int32) (hv : Int64) (j : Nat) (e9 : Nat) (re : Nat → Int32) (rg : Nat → Int32) (cn : Nat → Int32) (hj : j < 9) (hej : re j = nI e9) (he3 : e9 ≤ 3) : CTi l D cI cJ cZ cR yX7_leads cX7_leads 7 (some .boolean) 1 21 0 0 sz [.ref m0, .int (nI j), .int 1] [kX7 m0 (nI z) m1 (nI r9) m2 m3 m4 m5 (nI n9) (nI v) m6 k1 k2 k3 k4 m7 k5 k6 k7 k8 m8 m9 m10 k9 m11 m12 m13 hv, kI cI m3 9 re, kI cI m5 27 rg, kI cI m13 3 cn] (fun (r : Int32) (u : Unit) => True) (fun (u : Unit) => [kX7 m0 (nI z) m1 (nI r9) m2 m3 m4 m5 (nI n9) (nI v) m6 k1 k2 k3 k4 m7 k5 k6 k7 k8 m8 m9 m10 k9 m11 m12 m13 hv, kI cI m3 9 re, kI cI m5 27 rg, kI cI m13 3 cn]) := by
  refine CTi.of (ty := .boolean) (by decide) (Nat.le_of_ble_eq_true rfl) rfl ?_
  intro p e s m below meth c A Q ls hd hin hK hsz hP hD hA hS hl hret
  obtain ⟨hx, hb, hml, hown, hts⟩ := id hd
  have hK1 := hK.1
  have hown : s.vm.findClass RX7 = some m.cls := hown
  have hl : lv_has ls 7 [(0, .ref m0), (1, .int (nI j)), (2, .int 1)] := hl
  refine lv_iload_n hx hb dX7_leads_0 rfl (lv_at hl 2 rfl) ?_
  refine lv_if_eq (tgt := 8) hx hb dX7_leads_1 (by decide) (fun c_1 => ?_) (fun c_1 => ?_)
  · exact absurd c_1 (by decide)
  refine lv_iconst (v := 2) hx hb dX7_leads_4 (by decide) ?_
  refine lv_goto (tgt := 9) hx hb dX7_leads_5 (by decide) ?_
  refine lv_istore_n (lv' := [(3, .int 2), (0, .ref m0), (1, .int (nI j)), (2, .int 1)]) hx hb dX7_leads_9 rfl hl (by decide) rfl (fun ls hl => ?_)
  refine lv_iconst (v := 0) hx hb dX7_leads_10 (by decide) ?_
  refine lv_istore (lv' := [(4, .int 0), (3, .int 2), (0, .ref m0), (1, .int (nI j)), (2, .int 1)]) hx hb dX7_leads_11 hl (by decide) rfl (fun ls hl => ?_)
  have LOOP_13 : ∀ (n : Nat) (q : Nat) (me : Int32), (q + n = 4) → ∀ (H : Heap) (locs : List Loc) (ls : Array Slot), va_P D vwCl [kX7 m0 (nI z) m1 (nI r9) m2 m3 m4 m5 (nI n9) (nI v) m6 k1 k2 k3 k4 m7 k5 k6 k7 k8 m8 m9 m10 k9 m11 m12 m13 hv, kI cI m3 9 re, kI cI m5 27 rg, kI cI m13 3 cn] H → va_D A [kX7 m0 (nI z) m1 (nI r9) m2 m3 m4 m5 (nI n9) (nI v) m6 k1 k2 k3 k4 m7 k5 k6 k7 k8 m8 m9 m10 k9 m11 m12 m13 hv, kI cI m3 9 re, kI cI m5 27 rg, kI cI m13 3 cn] → va_S A s.heap H locs → lv_has ls 7 [(0, .ref m0), (1, .int (nI j)), (2, .int 1), (3, .int me), (4, .int (nI q))] → W p l e (rM 1 0 0 21) s m ([.ref m0, .int (nI j), .int 1] : List Value).toArray below meth c H locs 0 0 Q (F0 m 13 ls []) := by
    intro n
    induction n with
    | zero =>
      intro q me hq H locs ls hP hD hS hl
      refine lv_iload hx hb dX7_leads_13 (lv_at hl 4 rfl) ?_
      refine lv_iconst (v := 4) hx hb dX7_leads_15 (by decide) ?_
      refine lv_icmp_ge (tgt := 138) hx hb dX7_leads_16 (by decide) (fun c_2 => ?_) (fun c_2 => ?_)
      rotate_left
      · exact absurd (nI_le (a := 4) (b := q) (by omega) (by omega)) c_2
      refine lv_iload_n hx hb dX7_leads_138 rfl (lv_at hl 3 rfl) ?_
      refine lv_iload_n hx hb dX7_leads_139 rfl (lv_at hl 2 rfl) ?_
      refine lv_if_eq (tgt := 147) hx hb dX7_leads_140 (by decide) (fun c_3 => ?_) (fun c_3 => ?_)
      · exact absurd c_3 (by decide)
      refine lv_iconst (v := 0) hx hb dX7_leads_143 (by decide) ?_
      refine lv_goto (tgt := 148) hx hb dX7_leads_144 (by decide) ?_
      refine xc_i (wc := []) (wr := [kX7 m0 (nI z) m1 (nI r9) m2 m3 m4 m5 (nI n9) (nI v) m6 k1 k2 k3 k4 m7 k5 k6 k7 k8 m8 m9 m10 k9 m11 m12 m13 hv, kI cI m3 9 re, kI cI m5 27 rg, kI cI m13 3 cn]) (xrS (n := 2) (As := [.int me, .int 0]) (rest := []) hd hK hP hD (c_X7_has l D cI cJ cZ cR _ me 0 ) (gS t_671 mS_X7_has) hS_X7_has ⟨(Nat.le_of_ble_eq_true rfl), (Nat.le_of_ble_eq_true rfl)⟩ [] rfl rfl rfl hl.1 rfl (Nat.le_of_ble_eq_true rfl) dX7_leads_148 ⟨(Nat.le_of_ble_eq_true rfl), (Nat.le_of_ble_eq_true rfl)⟩) hP hD hS hA [] [0, 1, 2, 3] rfl rfl rfl (by decide) (fun r_4 u_5 H locs hw_6 hP hD hS => ?_)
      have hw_7 : r_4 = (hR me 0) := hw_6
      subst hw_7
      have hP : va_P D vwCl [kX7 m0 (nI z) m1 (nI r9) m2 m3 m4 m5 (nI n9) (nI v) m6 k1 k2 k3 k4 m7 k5 k6 k7 k8 m8 m9 m10 k9 m11 m12 m13 hv, kI cI m3 9 re, kI cI m5 27 rg, kI cI m13 3 cn] H := hP
      have hD : va_D A [kX7 m0 (nI z) m1 (nI r9) m2 m3 m4 m5 (nI n9) (nI v) m6 k1 k2 k3 k4 m7 k5 k6 k7 k8 m8 m9 m10 k9 m11 m12 m13 hv, kI cI m3 9 re, kI cI m5 27 rg, kI cI m13 3 cn] := hD
      exact hret _ _ _ _ _ _ (hR me 0) () dX7_leads_151 (nar_01 (hR_01 _ _)) hS (Nat.le_of_ble_eq_true rfl) (Nat.le_of_ble_eq_true rfl) trivial (hP.sub [0, 1, 2, 3] rfl) (hD.sub [0, 1, 2, 3] rfl rfl)
    | succ n ih_13 =>
      intro q me hq H locs ls hP hD hS hl
      refine lv_iload hx hb dX7_leads_13 (lv_at hl 4 rfl) ?_
      refine lv_iconst (v := 4) hx hb dX7_leads_15 (by decide) ?_
      refine lv_icmp_ge (tgt := 138) hx hb dX7_leads_16 (by decide) (fun c_8 => ?_) (fun c_8 => ?_)
      · exact absurd c_8 (nI_ge (a := q) (b := 4) (by omega) (by omega))
      refine lv_iconst (v := 0) hx hb dX7_leads_19 (by decide) ?_
      refine lv_istore (lv' := [(5, .int 0), (0, .ref m0), (1, .int (nI j)), (2, .int 1), (3, .int me), (4, .int (nI q))]) hx hb dX7_leads_20 hl (by decide) rfl (fun ls hl => ?_)
      have LOOP_22 : ∀ (n : Nat) (i : Nat) (mf : Int32), (i + n = e9) → ∀ (H : Heap) (locs : List Loc) (ls : Array Slot), va_P D vwCl [kX7 m0 (nI z) m1 (nI r9) m2 m3 m4 m5 (nI n9) (nI v) m6 k1 k2 k3 k4 m7 k5 k6 k7 k8 m8 m9 m10 k9 m11 m12 m13 hv, kI cI m3 9 re, kI cI m5 27 rg, kI cI m13 3 cn] H → va_D A [kX7 m0 (nI z) m1 (nI r9) m2 m3 m4 m5 (nI n9) (nI v) m6 k1 k2 k3 k4 m7 k5 k6 k7 k8 m8 m9 m10 k9 m11 m12 m13 hv, kI cI m3 9 re, kI cI m5 27 rg, kI cI m13 3 cn] → va_S A s.heap H locs → lv_has ls 7 [(0, .ref m0), (1, .int (nI j)), (2, .int 1), (3, .int mf), (4, .int (nI q)), (5, .int (nI i))] → W p l e (rM 1 0 0 21) s m ([.ref m0, .int (nI j), .int 1] : List Value).toArray below meth c H locs 0 0 Q (F0 m 22 ls []) := by
        intro n
        induction n with
        | zero =>
          intro i mf hi H locs ls hP hD hS hl
          refine lv_iload hx hb dX7_leads_22 (lv_at hl 5 rfl) ?_
          refine lv_aload_n hx hb dX7_leads_24 rfl (lv_at hl 0 rfl) ?_
          refine va_get (D := D) (ci := 7) (v := .ref m3) (C := RX7) (T := TX7) (N := 27) hx hb hts iT_X7 hown hK1 hP 0 rfl rfl 4 (by decide) (hts _ t_555) (fun _ h9 => h9) rfl dX7_leads_25 ?_
          refine lv_iload_n hx hb dX7_leads_28 rfl (lv_at hl 1 rfl) ?_
          refine va_iald hx hb hK1 hP 1 0 rfl rfl (vp_in_nI (by omega) (by omega)) dX7_leads_29 ?_
          refine lv_nmi (show _ = re j from by rw [nI_clamp (n := j) (by omega)]) ?_
          refine lv_nmi (show _ = (nI e9 : Int32) from hej) ?_
          refine lv_icmp_ge (tgt := 132) hx hb dX7_leads_30 (by decide) (fun c_9 => ?_) (fun c_9 => ?_)
          rotate_left
          · exact absurd (nI_le (a := e9) (b := i) (by omega) (by omega)) c_9
          refine lv_iinc (v := nI (q + 1)) (lv' := [(4, .int (nI (q + 1))), (0, .ref m0), (1, .int (nI j)), (2, .int 1), (3, .int mf), (5, .int (nI i))]) hx hb dX7_leads_132 hl (k := 4) rfl (nI_1 q) (by decide) rfl (fun ls hl => ?_)
          refine lv_goto (tgt := 13) hx hb dX7_leads_135 (by decide) ?_
          exact ih_13 (q + 1) mf (by omega) _ _ _ (hP.sub [0, 1, 2, 3] rfl) (hD.sub [0, 1, 2, 3] rfl rfl) hS (lv_sub hl [1, 2, 3, 4, 0] rfl)
        | succ n ih_22 =>
          intro i mf hi H locs ls hP hD hS hl
          refine lv_iload hx hb dX7_leads_22 (lv_at hl 5 rfl) ?_
          refine lv_aload_n hx hb dX7_leads_24 rfl (lv_at hl 0 rfl) ?_
          refine va_get (D := D) (ci := 7) (v := .ref m3) (C := RX7) (T := TX7) (N := 27) hx hb hts iT_X7 hown hK1 hP 0 rfl rfl 4 (by decide) (hts _ t_555) (fun _ h9 => h9) rfl dX7_leads_25 ?_
          refine lv_iload_n hx hb dX7_leads_28 rfl (lv_at hl 1 rfl) ?_
          refine va_iald hx hb hK1 hP 1 0 rfl rfl (vp_in_nI (by omega) (by omega)) dX7_leads_29 ?_
          refine lv_nmi (show _ = re j from by rw [nI_clamp (n := j) (by omega)]) ?_
          refine lv_nmi (show _ = (nI e9 : Int32) from hej) ?_
          refine lv_icmp_ge (tgt := 132) hx hb dX7_leads_30 (by decide) (fun c_10 => ?_) (fun c_10 => ?_)
          · exact absurd c_10 (nI_ge (a := i) (b := e9) (by omega) (by omega))
          refine lv_aload_n hx hb dX7_leads_33 rfl (lv_at hl 0 rfl) ?_
          refine va_get (D := D) (ci := 7) (v := .ref m5) (C := RX7) (T := TX7) (N := 27) hx hb hts iT_X7 hown hK1 hP 0 rfl rfl 6 (by decide) (hts _ t_557) (fun _ h9 => h9) rfl dX7_leads_34 ?_
          refine lv_iconst (v := 3) hx hb dX7_leads_37 (by decide) ?_
          refine lv_iload_n hx hb dX7_leads_38 rfl (lv_at hl 1 rfl) ?_
          refine lv_imul hx hb dX7_leads_39 ?_
          refine lv_nmi (show _ = (nI (3 * j)) from pk_mul (3) (j)) ?_
          refine lv_iload hx hb dX7_leads_40 (lv_at hl 5 rfl) ?_
          refine lv_iadd hx hb dX7_leads_42 ?_
          refine lv_nmi (show _ = (nI ((3 * j) + i)) from nI_add ((3 * j)) (i)) ?_
          refine va_iald hx hb hK1 hP 2 0 rfl rfl (vp_in_nI (by omega) (by omega)) dX7_leads_43 ?_
          refine lv_nmi (show _ = rg ((3 * j) + i) from by rw [nI_clamp (n := ((3 * j) + i)) (by omega)]) ?_
          refine lv_istore (lv' := [(6, .int (rg ((3 * j) + i))), (0, .ref m0), (1, .int (nI j)), (2, .int 1), (3, .int mf), (4, .int (nI q)), (5, .int (nI i))]) hx hb dX7_leads_44 hl (by decide) rfl (fun ls hl => ?_)
          refine lv_iload_n hx hb dX7_leads_46 rfl (lv_at hl 4 rfl) ?_
          refine lv_iload_n hx hb dX7_leads_47 rfl (lv_at hl 4 rfl) ?_
          refine lv_iload hx hb dX7_leads_48 (lv_at hl 0 rfl) ?_
          refine xc_i (wc := []) (wr := [kX7 m0 (nI z) m1 (nI r9) m2 m3 m4 m5 (nI n9) (nI v) m6 k1 k2 k3 k4 m7 k5 k6 k7 k8 m8 m9 m10 k9 m11 m12 m13 hv, kI cI m3 9 re, kI cI m5 27 rg, kI cI m13 3 cn]) (xrS (n := 1) (As := [.int (rg ((3 * j) + i))]) (rest := [.int mf, .int mf]) hd hK hP hD (c_X7_fromOf l D cI cJ cZ cR _ (rg ((3 * j) + i)) ) (gS t_716 mS_X7_fromOf) hS_X7_fromOf ⟨(Nat.le_of_ble_eq_true rfl), (Nat.le_of_ble_eq_true rfl)⟩ [] rfl rfl rfl hl.1 rfl (Nat.le_of_ble_eq_true rfl) dX7_leads_50 ⟨(Nat.le_of_ble_eq_true rfl), (Nat.le_of_ble_eq_true rfl)⟩) hP hD hS hA [] [0, 1, 2, 3] rfl rfl rfl (by decide) (fun r_11 u_12 H locs hw_13 hP hD hS => ?_)
          have hw_14 : r_11 = (fO (rg ((3 * j) + i))) := hw_13
          subst hw_14
          have hP : va_P D vwCl [kX7 m0 (nI z) m1 (nI r9) m2 m3 m4 m5 (nI n9) (nI v) m6 k1 k2 k3 k4 m7 k5 k6 k7 k8 m8 m9 m10 k9 m11 m12 m13 hv, kI cI m3 9 re, kI cI m5 27 rg, kI cI m13 3 cn] H := hP
          have hD : va_D A [kX7 m0 (nI z) m1 (nI r9) m2 m3 m4 m5 (nI n9) (nI v) m6 k1 k2 k3 k4 m7 k5 k6 k7 k8 m8 m9 m10 k9 m11 m12 m13 hv, kI cI m3 9 re, kI cI m5 27 rg, kI cI m13 3 cn] := hD
          refine xc_i (wc := []) (wr := [kX7 m0 (nI z) m1 (nI r9) m2 m3 m4 m5 (nI n9) (nI v) m6 k1 k2 k3 k4 m7 k5 k6 k7 k8 m8 m9 m10 k9 m11 m12 m13 hv, kI cI m3 9 re, kI cI m5 27 rg, kI cI m13 3 cn]) (xrS (n := 2) (As := [.int mf, .int (fO (rg ((3 * j) + i)))]) (rest := [.int mf]) hd hK hP hD (c_X7_has l D cI cJ cZ cR _ mf (fO (rg ((3 * j) + i))) ) (gS t_671 mS_X7_has) hS_X7_has ⟨(Nat.le_of_ble_eq_true rfl), (Nat.le_of_ble_eq_true rfl)⟩ [] rfl rfl rfl hl.1 rfl (Nat.le_of_ble_eq_true rfl) dX7_leads_53 ⟨(Nat.le_of_ble_eq_true rfl), (Nat.le_of_ble_eq_true rfl)⟩) hP hD hS hA [] [0, 1, 2, 3] rfl rfl rfl (by decide) (fun r_15 u_16 H locs hw_17 hP hD hS => ?_)
          have hw_18 : r_15 = (hR mf (fO (rg ((3 * j) + i)))) := hw_17
          subst hw_18
          have hP : va_P D vwCl [kX7 m0 (nI z) m1 (nI r9) m2 m3 m4 m5 (nI n9) (nI v) m6 k1 k2 k3 k4 m7 k5 k6 k7 k8 m8 m9 m10 k9 m11 m12 m13 hv, kI cI m3 9 re, kI cI m5 27 rg, kI cI m13 3 cn] H := hP
          have hD : va_D A [kX7 m0 (nI z) m1 (nI r9) m2 m3 m4 m5 (nI n9) (nI v) m6 k1 k2 k3 k4 m7 k5 k6 k7 k8 m8 m9 m10 k9 m11 m12 m13 hv, kI cI m3 9 re, kI cI m5 27 rg, kI cI m13 3 cn] := hD
          refine lv_if_eq (tgt := 83) hx hb dX7_leads_56 (by decide) (fun c_19 => ?_) (fun c_19 => ?_)
          · skip
            refine lv_iconst (v := 0) hx hb dX7_leads_83 (by decide) ?_
            refine lv_ior hx hb dX7_leads_84 ?_
            refine lv_istore_n (lv' := [(3, .int (mf ||| 0)), (6, .int (rg ((3 * j) + i))), (0, .ref m0), (1, .int (nI j)), (2, .int 1), (4, .int (nI q)), (5, .int (nI i))]) hx hb dX7_leads_85 rfl hl (by decide) rfl (fun ls hl => ?_)
            refine lv_iload_n hx hb dX7_leads_86 rfl (lv_at hl 0 rfl) ?_
            refine lv_iload_n hx hb dX7_leads_87 rfl (lv_at hl 0 rfl) ?_
            refine lv_iload hx hb dX7_leads_88 (lv_at hl 1 rfl) ?_
            refine xc_i (wc := []) (wr := [kX7 m0 (nI z) m1 (nI r9) m2 m3 m4 m5 (nI n9) (nI v) m6 k1 k2 k3 k4 m7 k5 k6 k7 k8 m8 m9 m10 k9 m11 m12 m13 hv, kI cI m3 9 re, kI cI m5 27 rg, kI cI m13 3 cn]) (xrS (n := 1) (As := [.int (rg ((3 * j) + i))]) (rest := [.int (mf ||| 0), .int (mf ||| 0)]) hd hK hP hD (c_X7_toOf l D cI cJ cZ cR _ (rg ((3 * j) + i)) ) (gS t_723 mS_X7_toOf) hS_X7_toOf ⟨(Nat.le_of_ble_eq_true rfl), (Nat.le_of_ble_eq_true rfl)⟩ [] rfl rfl rfl hl.1 rfl (Nat.le_of_ble_eq_true rfl) dX7_leads_90 ⟨(Nat.le_of_ble_eq_true rfl), (Nat.le_of_ble_eq_true rfl)⟩) hP hD hS hA [] [0, 1, 2, 3] rfl rfl rfl (by decide) (fun r_20 u_21 H locs hw_22 hP hD hS => ?_)
            have hw_23 : r_20 = (tO (rg ((3 * j) + i))) := hw_22
            subst hw_23
            have hP : va_P D vwCl [kX7 m0 (nI z) m1 (nI r9) m2 m3 m4 m5 (nI n9) (nI v) m6 k1 k2 k3 k4 m7 k5 k6 k7 k8 m8 m9 m10 k9 m11 m12 m13 hv, kI cI m3 9 re, kI cI m5 27 rg, kI cI m13 3 cn] H := hP
            have hD : va_D A [kX7 m0 (nI z) m1 (nI r9) m2 m3 m4 m5 (nI n9) (nI v) m6 k1 k2 k3 k4 m7 k5 k6 k7 k8 m8 m9 m10 k9 m11 m12 m13 hv, kI cI m3 9 re, kI cI m5 27 rg, kI cI m13 3 cn] := hD
            refine xc_i (wc := []) (wr := [kX7 m0 (nI z) m1 (nI r9) m2 m3 m4 m5 (nI n9) (nI v) m6 k1 k2 k3 k4 m7 k5 k6 k7 k8 m8 m9 m10 k9 m11 m12 m13 hv, kI cI m3 9 re, kI cI m5 27 rg, kI cI m13 3 cn]) (xrS (n := 2) (As := [.int (mf ||| 0), .int (tO (rg ((3 * j) + i)))]) (rest := [.int (mf ||| 0)]) hd hK hP hD (c_X7_has l D cI cJ cZ cR _ (mf ||| 0) (tO (rg ((3 * j) + i))) ) (gS t_671 mS_X7_has) hS_X7_has ⟨(Nat.le_of_ble_eq_true rfl), (Nat.le_of_ble_eq_true rfl)⟩ [] rfl rfl rfl hl.1 rfl (Nat.le_of_ble_eq_true rfl) dX7_leads_93 ⟨(Nat.le_of_ble_eq_true rfl), (Nat.le_of_ble_eq_true rfl)⟩) hP hD hS hA [] [0, 1, 2, 3] rfl rfl rfl (by decide) (fun r_24 u_25 H locs hw_26 hP hD hS => ?_)
            have hw_27 : r_24 = (hR (mf ||| 0) (tO (rg ((3 * j) + i)))) := hw_26
            subst hw_27
            have hP : va_P D vwCl [kX7 m0 (nI z) m1 (nI r9) m2 m3 m4 m5 (nI n9) (nI v) m6 k1 k2 k3 k4 m7 k5 k6 k7 k8 m8 m9 m10 k9 m11 m12 m13 hv, kI cI m3 9 re, kI cI m5 27 rg, kI cI m13 3 cn] H := hP
            have hD : va_D A [kX7 m0 (nI z) m1 (nI r9) m2 m3 m4 m5 (nI n9) (nI v) m6 k1 k2 k3 k4 m7 k5 k6 k7 k8 m8 m9 m10 k9 m11 m12 m13 hv, kI cI m3 9 re, kI cI m5 27 rg, kI cI m13 3 cn] := hD
            refine lv_if_eq (tgt := 123) hx hb dX7_leads_96 (by decide) (fun c_28 => ?_) (fun c_28 => ?_)
            · skip
              refine lv_iconst (v := 0) hx hb dX7_leads_123 (by decide) ?_
              refine lv_ior hx hb dX7_leads_124 ?_
              refine lv_istore_n (lv' := [(3, .int ((mf ||| 0) ||| 0)), (6, .int (rg ((3 * j) + i))), (0, .ref m0), (1, .int (nI j)), (2, .int 1), (4, .int (nI q)), (5, .int (nI i))]) hx hb dX7_leads_125 rfl hl (by decide) rfl (fun ls hl => ?_)
              refine lv_iinc (v := nI (i + 1)) (lv' := [(5, .int (nI (i + 1))), (3, .int ((mf ||| 0) ||| 0)), (6, .int (rg ((3 * j) + i))), (0, .ref m0), (1, .int (nI j)), (2, .int 1), (4, .int (nI q))]) hx hb dX7_leads_126 hl (k := 6) rfl (nI_1 i) (by decide) rfl (fun ls hl => ?_)
              refine lv_goto (tgt := 22) hx hb dX7_leads_129 (by decide) ?_
              exact ih_22 (i + 1) ((mf ||| 0) ||| 0) (by omega) _ _ _ (hP.sub [0, 1, 2, 3] rfl) (hD.sub [0, 1, 2, 3] rfl rfl) hS (lv_sub hl [3, 4, 5, 1, 6, 0] rfl)
            · skip
              refine lv_aload_n hx hb dX7_leads_99 rfl (lv_at hl 2 rfl) ?_
              refine va_get (D := D) (ci := 7) (v := .ref m13) (C := RX7) (T := TX7) (N := 27) hx hb hts iT_X7 hown hK1 hP 0 rfl rfl 25 (by decide) (hts _ t_576) (fun _ h9 => h9) rfl dX7_leads_100 ?_
              refine lv_iload hx hb dX7_leads_103 (lv_at hl 6 rfl) ?_
              refine va_iald hx hb hK1 hP 3 0 rfl rfl (vp_in_nI (by omega) (by omega)) dX7_leads_105 ?_
              refine lv_nmi (show _ = cn i from by rw [nI_clamp (n := i) (by omega)]) ?_
              refine lv_iconst (v := 1) hx hb dX7_leads_106 (by decide) ?_
              refine xc_i (wc := []) (wr := [kX7 m0 (nI z) m1 (nI r9) m2 m3 m4 m5 (nI n9) (nI v) m6 k1 k2 k3 k4 m7 k5 k6 k7 k8 m8 m9 m10 k9 m11 m12 m13 hv, kI cI m3 9 re, kI cI m5 27 rg, kI cI m13 3 cn]) (xrS (n := 2) (As := [.int (cn i), .int 1]) (rest := [.int (mf ||| 0)]) hd hK hP hD (c_X7_has l D cI cJ cZ cR _ (cn i) 1 ) (gS t_671 mS_X7_has) hS_X7_has ⟨(Nat.le_of_ble_eq_true rfl), (Nat.le_of_ble_eq_true rfl)⟩ [] rfl rfl rfl hl.1 rfl (Nat.le_of_ble_eq_true rfl) dX7_leads_107 ⟨(Nat.le_of_ble_eq_true rfl), (Nat.le_of_ble_eq_true rfl)⟩) hP hD hS hA [] [0, 1, 2, 3] rfl rfl rfl (by decide) (fun r_29 u_30 H locs hw_31 hP hD hS => ?_)
              have hw_32 : r_29 = (hR (cn i) 1) := hw_31
              subst hw_32
              have hP : va_P D vwCl [kX7 m0 (nI z) m1 (nI r9) m2 m3 m4 m5 (nI n9) (nI v) m6 k1 k2 k3 k4 m7 k5 k6 k7 k8 m8 m9 m10 k9 m11 m12 m13 hv, kI cI m3 9 re, kI cI m5 27 rg, kI cI m13 3 cn] H := hP
              have hD : va_D A [kX7 m0 (nI z) m1 (nI r9) m2 m3 m4 m5 (nI n9) (nI v) m6 k1 k2 k3 k4 m7 k5 k6 k7 k8 m8 m9 m10 k9 m11 m12 m13 hv, kI cI m3 9 re, kI cI m5 27 rg, kI cI m13 3 cn] := hD
              refine lv_if_eq (tgt := 123) hx hb dX7_leads_110 (by decide) (fun c_33 => ?_) (fun c_33 => ?_)
              · skip
                refine lv_iconst (v := 0) hx hb dX7_leads_123 (by decide) ?_
                refine lv_ior hx hb dX7_leads_124 ?_
                refine lv_istore_n (lv' := [(3, .int ((mf ||| 0) ||| 0)), (6, .int (rg ((3 * j) + i))), (0, .ref m0), (1, .int (nI j)), (2, .int 1), (4, .int (nI q)), (5, .int (nI i))]) hx hb dX7_leads_125 rfl hl (by decide) rfl (fun ls hl => ?_)
                refine lv_iinc (v := nI (i + 1)) (lv' := [(5, .int (nI (i + 1))), (3, .int ((mf ||| 0) ||| 0)), (6, .int (rg ((3 * j) + i))), (0, .ref m0), (1, .int (nI j)), (2, .int 1), (4, .int (nI q))]) hx hb dX7_leads_126 hl (k := 6) rfl (nI_1 i) (by decide) rfl (fun ls hl => ?_)
                refine lv_goto (tgt := 22) hx hb dX7_leads_129 (by decide) ?_
                exact ih_22 (i + 1) ((mf ||| 0) ||| 0) (by omega) _ _ _ (hP.sub [0, 1, 2, 3] rfl) (hD.sub [0, 1, 2, 3] rfl rfl) hS (lv_sub hl [3, 4, 5, 1, 6, 0] rfl)
              · skip
                refine lv_iconst (v := 1) hx hb dX7_leads_113 (by decide) ?_
                refine lv_iload hx hb dX7_leads_114 (lv_at hl 1 rfl) ?_
                refine xc_i (wc := []) (wr := [kX7 m0 (nI z) m1 (nI r9) m2 m3 m4 m5 (nI n9) (nI v) m6 k1 k2 k3 k4 m7 k5 k6 k7 k8 m8 m9 m10 k9 m11 m12 m13 hv, kI cI m3 9 re, kI cI m5 27 rg, kI cI m13 3 cn]) (xrS (n := 1) (As := [.int (rg ((3 * j) + i))]) (rest := [.int 1, .int (mf ||| 0)]) hd hK hP hD (c_X7_fromOf l D cI cJ cZ cR _ (rg ((3 * j) + i)) ) (gS t_716 mS_X7_fromOf) hS_X7_fromOf ⟨(Nat.le_of_ble_eq_true rfl), (Nat.le_of_ble_eq_true rfl)⟩ [] rfl rfl rfl hl.1 rfl (Nat.le_of_ble_eq_true rfl) dX7_leads_116 ⟨(Nat.le_of_ble_eq_true rfl), (Nat.le_of_ble_eq_true rfl)⟩) hP hD hS hA [] [0, 1, 2, 3] rfl rfl rfl (by decide) (fun r_34 u_35 H locs hw_36 hP hD hS => ?_)
                have hw_37 : r_34 = (fO (rg ((3 * j) + i))) := hw_36
                subst hw_37
                have hP : va_P D vwCl [kX7 m0 (nI z) m1 (nI r9) m2 m3 m4 m5 (nI n9) (nI v) m6 k1 k2 k3 k4 m7 k5 k6 k7 k8 m8 m9 m10 k9 m11 m12 m13 hv, kI cI m3 9 re, kI cI m5 27 rg, kI cI m13 3 cn] H := hP
                have hD : va_D A [kX7 m0 (nI z) m1 (nI r9) m2 m3 m4 m5 (nI n9) (nI v) m6 k1 k2 k3 k4 m7 k5 k6 k7 k8 m8 m9 m10 k9 m11 m12 m13 hv, kI cI m3 9 re, kI cI m5 27 rg, kI cI m13 3 cn] := hD
                refine lv_ishl hx hb dX7_leads_119 ?_
                refine lv_goto (tgt := 124) hx hb dX7_leads_120 (by decide) ?_
                refine lv_ior hx hb dX7_leads_124 ?_
                refine lv_istore_n (lv' := [(3, .int ((mf ||| 0) ||| ((1 : Int32) <<< ((fO (rg ((3 * j) + i))) &&& 31)))), (6, .int (rg ((3 * j) + i))), (0, .ref m0), (1, .int (nI j)), (2, .int 1), (4, .int (nI q)), (5, .int (nI i))]) hx hb dX7_leads_125 rfl hl (by decide) rfl (fun ls hl => ?_)
                refine lv_iinc (v := nI (i + 1)) (lv' := [(5, .int (nI (i + 1))), (3, .int ((mf ||| 0) ||| ((1 : Int32) <<< ((fO (rg ((3 * j) + i))) &&& 31)))), (6, .int (rg ((3 * j) + i))), (0, .ref m0), (1, .int (nI j)), (2, .int 1), (4, .int (nI q))]) hx hb dX7_leads_126 hl (k := 6) rfl (nI_1 i) (by decide) rfl (fun ls hl => ?_)
                refine lv_goto (tgt := 22) hx hb dX7_leads_129 (by decide) ?_
                exact ih_22 (i + 1) ((mf ||| 0) ||| ((1 : Int32) <<< ((fO (rg ((3 * j) + i))) &&& 31))) (by omega) _ _ _ (hP.sub [0, 1, 2, 3] rfl) (hD.sub [0, 1, 2, 3] rfl rfl) hS (lv_sub hl [3, 4, 5, 1, 6, 0] rfl)
          · skip
            refine lv_aload_n hx hb dX7_leads_59 rfl (lv_at hl 1 rfl) ?_
            refine va_get (D := D) (ci := 7) (v := .ref m13) (C := RX7) (T := TX7) (N := 27) hx hb hts iT_X7 hown hK1 hP 0 rfl rfl 25 (by decide) (hts _ t_576) (fun _ h9 => h9) rfl dX7_leads_60 ?_
            refine lv_iload hx hb dX7_leads_63 (lv_at hl 6 rfl) ?_
            refine va_iald hx hb hK1 hP 3 0 rfl rfl (vp_in_nI (by omega) (by omega)) dX7_leads_65 ?_
            refine lv_nmi (show _ = cn i from by rw [nI_clamp (n := i) (by omega)]) ?_
            refine lv_iconst (v := 0) hx hb dX7_leads_66 (by decide) ?_
            refine xc_i (wc := []) (wr := [kX7 m0 (nI z) m1 (nI r9) m2 m3 m4 m5 (nI n9) (nI v) m6 k1 k2 k3 k4 m7 k5 k6 k7 k8 m8 m9 m10 k9 m11 m12 m13 hv, kI cI m3 9 re, kI cI m5 27 rg, kI cI m13 3 cn]) (xrS (n := 2) (As := [.int (cn i), .int 0]) (rest := [.int mf]) hd hK hP hD (c_X7_has l D cI cJ cZ cR _ (cn i) 0 ) (gS t_671 mS_X7_has) hS_X7_has ⟨(Nat.le_of_ble_eq_true rfl), (Nat.le_of_ble_eq_true rfl)⟩ [] rfl rfl rfl hl.1 rfl (Nat.le_of_ble_eq_true rfl) dX7_leads_67 ⟨(Nat.le_of_ble_eq_true rfl), (Nat.le_of_ble_eq_true rfl)⟩) hP hD hS hA [] [0, 1, 2, 3] rfl rfl rfl (by decide) (fun r_38 u_39 H locs hw_40 hP hD hS => ?_)
            have hw_41 : r_38 = (hR (cn i) 0) := hw_40
            subst hw_41
            have hP : va_P D vwCl [kX7 m0 (nI z) m1 (nI r9) m2 m3 m4 m5 (nI n9) (nI v) m6 k1 k2 k3 k4 m7 k5 k6 k7 k8 m8 m9 m10 k9 m11 m12 m13 hv, kI cI m3 9 re, kI cI m5 27 rg, kI cI m13 3 cn] H := hP
            have hD : va_D A [kX7 m0 (nI z) m1 (nI r9) m2 m3 m4 m5 (nI n9) (nI v) m6 k1 k2 k3 k4 m7 k5 k6 k7 k8 m8 m9 m10 k9 m11 m12 m13 hv, kI cI m3 9 re, kI cI m5 27 rg, kI cI m13 3 cn] := hD
            refine lv_if_eq (tgt := 83) hx hb dX7_leads_70 (by decide) (fun c_42 => ?_) (fun c_42 => ?_)
            · skip
              refine lv_iconst (v := 0) hx hb dX7_leads_83 (by decide) ?_
              refine lv_ior hx hb dX7_leads_84 ?_
              refine lv_istore_n (lv' := [(3, .int (mf ||| 0)), (6, .int (rg ((3 * j) + i))), (0, .ref m0), (1, .int (nI j)), (2, .int 1), (4, .int (nI q)), (5, .int (nI i))]) hx hb dX7_leads_85 rfl hl (by decide) rfl (fun ls hl => ?_)
              refine lv_iload_n hx hb dX7_leads_86 rfl (lv_at hl 0 rfl) ?_
              refine lv_iload_n hx hb dX7_leads_87 rfl (lv_at hl 0 rfl) ?_
              refine lv_iload hx hb dX7_leads_88 (lv_at hl 1 rfl) ?_
              refine xc_i (wc := []) (wr := [kX7 m0 (nI z) m1 (nI r9) m2 m3 m4 m5 (nI n9) (nI v) m6 k1 k2 k3 k4 m7 k5 k6 k7 k8 m8 m9 m10 k9 m11 m12 m13 hv, kI cI m3 9 re, kI cI m5 27 rg, kI cI m13 3 cn]) (xrS (n := 1) (As := [.int (rg ((3 * j) + i))]) (rest := [.int (mf ||| 0), .int (mf ||| 0)]) hd hK hP hD (c_X7_toOf l D cI cJ cZ cR _ (rg ((3 * j) + i)) ) (gS t_723 mS_X7_toOf) hS_X7_toOf ⟨(Nat.le_of_ble_eq_true rfl), (Nat.le_of_ble_eq_true rfl)⟩ [] rfl rfl rfl hl.1 rfl (Nat.le_of_ble_eq_true rfl) dX7_leads_90 ⟨(Nat.le_of_ble_eq_true rfl), (Nat.le_of_ble_eq_true rfl)⟩) hP hD hS hA [] [0, 1, 2, 3] rfl rfl rfl (by decide) (fun r_43 u_44 H locs hw_45 hP hD hS => ?_)
              have hw_46 : r_43 = (tO (rg ((3 * j) + i))) := hw_45
              subst hw_46
              have hP : va_P D vwCl [kX7 m0 (nI z) m1 (nI r9) m2 m3 m4 m5 (nI n9) (nI v) m6 k1 k2 k3 k4 m7 k5 k6 k7 k8 m8 m9 m10 k9 m11 m12 m13 hv, kI cI m3 9 re, kI cI m5 27 rg, kI cI m13 3 cn] H := hP
              have hD : va_D A [kX7 m0 (nI z) m1 (nI r9) m2 m3 m4 m5 (nI n9) (nI v) m6 k1 k2 k3 k4 m7 k5 k6 k7 k8 m8 m9 m10 k9 m11 m12 m13 hv, kI cI m3 9 re, kI cI m5 27 rg, kI cI m13 3 cn] := hD
              refine xc_i (wc := []) (wr := [kX7 m0 (nI z) m1 (nI r9) m2 m3 m4 m5 (nI n9) (nI v) m6 k1 k2 k3 k4 m7 k5 k6 k7 k8 m8 m9 m10 k9 m11 m12 m13 hv, kI cI m3 9 re, kI cI m5 27 rg, kI cI m13 3 cn]) (xrS (n := 2) (As := [.int (mf ||| 0), .int (tO (rg ((3 * j) + i)))]) (rest := [.int (mf ||| 0)]) hd hK hP hD (c_X7_has l D cI cJ cZ cR _ (mf ||| 0) (tO (rg ((3 * j) + i))) ) (gS t_671 mS_X7_has) hS_X7_has ⟨(Nat.le_of_ble_eq_true rfl), (Nat.le_of_ble_eq_true rfl)⟩ [] rfl rfl rfl hl.1 rfl (Nat.le_of_ble_eq_true rfl) dX7_leads_93 ⟨(Nat.le_of_ble_eq_true rfl), (Nat.le_of_ble_eq_true rfl)⟩) hP hD hS hA [] [0, 1, 2, 3] rfl rfl rfl (by decide) (fun r_47 u_48 H locs hw_49 hP hD hS => ?_)
              have hw_50 : r_47 = (hR (mf ||| 0) (tO (rg ((3 * j) + i)))) := hw_49
              subst hw_50
              have hP : va_P D vwCl [kX7 m0 (nI z) m1 (nI r9) m2 m3 m4 m5 (nI n9) (nI v) m6 k1 k2 k3 k4 m7 k5 k6 k7 k8 m8 m9 m10 k9 m11 m12 m13 hv, kI cI m3 9 re, kI cI m5 27 rg, kI cI m13 3 cn] H := hP
              have hD : va_D A [kX7 m0 (nI z) m1 (nI r9) m2 m3 m4 m5 (nI n9) (nI v) m6 k1 k2 k3 k4 m7 k5 k6 k7 k8 m8 m9 m10 k9 m11 m12 m13 hv, kI cI m3 9 re, kI cI m5 27 rg, kI cI m13 3 cn] := hD
              refine lv_if_eq (tgt := 123) hx hb dX7_leads_96 (by decide) (fun c_51 => ?_) (fun c_51 => ?_)
              · skip
                refine lv_iconst (v := 0) hx hb dX7_leads_123 (by decide) ?_
                refine lv_ior hx hb dX7_leads_124 ?_
                refine lv_istore_n (lv' := [(3, .int ((mf ||| 0) ||| 0)), (6, .int (rg ((3 * j) + i))), (0, .ref m0), (1, .int (nI j)), (2, .int 1), (4, .int (nI q)), (5, .int (nI i))]) hx hb dX7_leads_125 rfl hl (by decide) rfl (fun ls hl => ?_)
                refine lv_iinc (v := nI (i + 1)) (lv' := [(5, .int (nI (i + 1))), (3, .int ((mf ||| 0) ||| 0)), (6, .int (rg ((3 * j) + i))), (0, .ref m0), (1, .int (nI j)), (2, .int 1), (4, .int (nI q))]) hx hb dX7_leads_126 hl (k := 6) rfl (nI_1 i) (by decide) rfl (fun ls hl => ?_)
                refine lv_goto (tgt := 22) hx hb dX7_leads_129 (by decide) ?_
                exact ih_22 (i + 1) ((mf ||| 0) ||| 0) (by omega) _ _ _ (hP.sub [0, 1, 2, 3] rfl) (hD.sub [0, 1, 2, 3] rfl rfl) hS (lv_sub hl [3, 4, 5, 1, 6, 0] rfl)
              · skip
                refine lv_aload_n hx hb dX7_leads_99 rfl (lv_at hl 2 rfl) ?_
                refine va_get (D := D) (ci := 7) (v := .ref m13) (C := RX7) (T := TX7) (N := 27) hx hb hts iT_X7 hown hK1 hP 0 rfl rfl 25 (by decide) (hts _ t_576) (fun _ h9 => h9) rfl dX7_leads_100 ?_
                refine lv_iload hx hb dX7_leads_103 (lv_at hl 6 rfl) ?_
                refine va_iald hx hb hK1 hP 3 0 rfl rfl (vp_in_nI (by omega) (by omega)) dX7_leads_105 ?_
                refine lv_nmi (show _ = cn i from by rw [nI_clamp (n := i) (by omega)]) ?_
                refine lv_iconst (v := 1) hx hb dX7_leads_106 (by decide) ?_
                refine xc_i (wc := []) (wr := [kX7 m0 (nI z) m1 (nI r9) m2 m3 m4 m5 (nI n9) (nI v) m6 k1 k2 k3 k4 m7 k5 k6 k7 k8 m8 m9 m10 k9 m11 m12 m13 hv, kI cI m3 9 re, kI cI m5 27 rg, kI cI m13 3 cn]) (xrS (n := 2) (As := [.int (cn i), .int 1]) (rest := [.int (mf ||| 0)]) hd hK hP hD (c_X7_has l D cI cJ cZ cR _ (cn i) 1 ) (gS t_671 mS_X7_has) hS_X7_has ⟨(Nat.le_of_ble_eq_true rfl), (Nat.le_of_ble_eq_true rfl)⟩ [] rfl rfl rfl hl.1 rfl (Nat.le_of_ble_eq_true rfl) dX7_leads_107 ⟨(Nat.le_of_ble_eq_true rfl), (Nat.le_of_ble_eq_true rfl)⟩) hP hD hS hA [] [0, 1, 2, 3] rfl rfl rfl (by decide) (fun r_52 u_53 H locs hw_54 hP hD hS => ?_)
                have hw_55 : r_52 = (hR (cn i) 1) := hw_54
                subst hw_55
                have hP : va_P D vwCl [kX7 m0 (nI z) m1 (nI r9) m2 m3 m4 m5 (nI n9) (nI v) m6 k1 k2 k3 k4 m7 k5 k6 k7 k8 m8 m9 m10 k9 m11 m12 m13 hv, kI cI m3 9 re, kI cI m5 27 rg, kI cI m13 3 cn] H := hP
                have hD : va_D A [kX7 m0 (nI z) m1 (nI r9) m2 m3 m4 m5 (nI n9) (nI v) m6 k1 k2 k3 k4 m7 k5 k6 k7 k8 m8 m9 m10 k9 m11 m12 m13 hv, kI cI m3 9 re, kI cI m5 27 rg, kI cI m13 3 cn] := hD
                refine lv_if_eq (tgt := 123) hx hb dX7_leads_110 (by decide) (fun c_56 => ?_) (fun c_56 => ?_)
                · skip
                  refine lv_iconst (v := 0) hx hb dX7_leads_123 (by decide) ?_
                  refine lv_ior hx hb dX7_leads_124 ?_
                  refine lv_istore_n (lv' := [(3, .int ((mf ||| 0) ||| 0)), (6, .int (rg ((3 * j) + i))), (0, .ref m0), (1, .int (nI j)), (2, .int 1), (4, .int (nI q)), (5, .int (nI i))]) hx hb dX7_leads_125 rfl hl (by decide) rfl (fun ls hl => ?_)
                  refine lv_iinc (v := nI (i + 1)) (lv' := [(5, .int (nI (i + 1))), (3, .int ((mf ||| 0) ||| 0)), (6, .int (rg ((3 * j) + i))), (0, .ref m0), (1, .int (nI j)), (2, .int 1), (4, .int (nI q))]) hx hb dX7_leads_126 hl (k := 6) rfl (nI_1 i) (by decide) rfl (fun ls hl => ?_)
                  refine lv_goto (tgt := 22) hx hb dX7_leads_129 (by decide) ?_
                  exact ih_22 (i + 1) ((mf ||| 0) ||| 0) (by omega) _ _ _ (hP.sub [0, 1, 2, 3] rfl) (hD.sub [0, 1, 2, 3] rfl rfl) hS (lv_sub hl [3, 4, 5, 1, 6, 0] rfl)
                · skip
                  refine lv_iconst (v := 1) hx hb dX7_leads_113 (by decide) ?_
                  refine lv_iload hx hb dX7_leads_114 (lv_at hl 1 rfl) ?_
                  refine xc_i (wc := []) (wr := [kX7 m0 (nI z) m1 (nI r9) m2 m3 m4 m5 (nI n9) (nI v) m6 k1 k2 k3 k4 m7 k5 k6 k7 k8 m8 m9 m10 k9 m11 m12 m13 hv, kI cI m3 9 re, kI cI m5 27 rg, kI cI m13 3 cn]) (xrS (n := 1) (As := [.int (rg ((3 * j) + i))]) (rest := [.int 1, .int (mf ||| 0)]) hd hK hP hD (c_X7_fromOf l D cI cJ cZ cR _ (rg ((3 * j) + i)) ) (gS t_716 mS_X7_fromOf) hS_X7_fromOf ⟨(Nat.le_of_ble_eq_true rfl), (Nat.le_of_ble_eq_true rfl)⟩ [] rfl rfl rfl hl.1 rfl (Nat.le_of_ble_eq_true rfl) dX7_leads_116 ⟨(Nat.le_of_ble_eq_true rfl), (Nat.le_of_ble_eq_true rfl)⟩) hP hD hS hA [] [0, 1, 2, 3] rfl rfl rfl (by decide) (fun r_57 u_58 H locs hw_59 hP hD hS => ?_)
                  have hw_60 : r_57 = (fO (rg ((3 * j) + i))) := hw_59
                  subst hw_60
                  have hP : va_P D vwCl [kX7 m0 (nI z) m1 (nI r9) m2 m3 m4 m5 (nI n9) (nI v) m6 k1 k2 k3 k4 m7 k5 k6 k7 k8 m8 m9 m10 k9 m11 m12 m13 hv, kI cI m3 9 re, kI cI m5 27 rg, kI cI m13 3 cn] H := hP
                  have hD : va_D A [kX7 m0 (nI z) m1 (nI r9) m2 m3 m4 m5 (nI n9) (nI v) m6 k1 k2 k3 k4 m7 k5 k6 k7 k8 m8 m9 m10 k9 m11 m12 m13 hv, kI cI m3 9 re, kI cI m5 27 rg, kI cI m13 3 cn] := hD
                  refine lv_ishl hx hb dX7_leads_119 ?_
                  refine lv_goto (tgt := 124) hx hb dX7_leads_120 (by decide) ?_
                  refine lv_ior hx hb dX7_leads_124 ?_
                  refine lv_istore_n (lv' := [(3, .int ((mf ||| 0) ||| ((1 : Int32) <<< ((fO (rg ((3 * j) + i))) &&& 31)))), (6, .int (rg ((3 * j) + i))), (0, .ref m0), (1, .int (nI j)), (2, .int 1), (4, .int (nI q)), (5, .int (nI i))]) hx hb dX7_leads_125 rfl hl (by decide) rfl (fun ls hl => ?_)
                  refine lv_iinc (v := nI (i + 1)) (lv' := [(5, .int (nI (i + 1))), (3, .int ((mf ||| 0) ||| ((1 : Int32) <<< ((fO (rg ((3 * j) + i))) &&& 31)))), (6, .int (rg ((3 * j) + i))), (0, .ref m0), (1, .int (nI j)), (2, .int 1), (4, .int (nI q))]) hx hb dX7_leads_126 hl (k := 6) rfl (nI_1 i) (by decide) rfl (fun ls hl => ?_)
                  refine lv_goto (tgt := 22) hx hb dX7_leads_129 (by decide) ?_
                  exact ih_22 (i + 1) ((mf ||| 0) ||| ((1 : Int32) <<< ((fO (rg ((3 * j) + i))) &&& 31))) (by omega) _ _ _ (hP.sub [0, 1, 2, 3] rfl) (hD.sub [0, 1, 2, 3] rfl rfl) hS (lv_sub hl [3, 4, 5, 1, 6, 0] rfl)
            · skip
              refine lv_iconst (v := 1) hx hb dX7_leads_73 (by decide) ?_
              refine lv_iload hx hb dX7_leads_74 (lv_at hl 0 rfl) ?_
              refine xc_i (wc := []) (wr := [kX7 m0 (nI z) m1 (nI r9) m2 m3 m4 m5 (nI n9) (nI v) m6 k1 k2 k3 k4 m7 k5 k6 k7 k8 m8 m9 m10 k9 m11 m12 m13 hv, kI cI m3 9 re, kI cI m5 27 rg, kI cI m13 3 cn]) (xrS (n := 1) (As := [.int (rg ((3 * j) + i))]) (rest := [.int 1, .int mf]) hd hK hP hD (c_X7_toOf l D cI cJ cZ cR _ (rg ((3 * j) + i)) ) (gS t_723 mS_X7_toOf) hS_X7_toOf ⟨(Nat.le_of_ble_eq_true rfl), (Nat.le_of_ble_eq_true rfl)⟩ [] rfl rfl rfl hl.1 rfl (Nat.le_of_ble_eq_true rfl) dX7_leads_76 ⟨(Nat.le_of_ble_eq_true rfl), (Nat.le_of_ble_eq_true rfl)⟩) hP hD hS hA [] [0, 1, 2, 3] rfl rfl rfl (by decide) (fun r_61 u_62 H locs hw_63 hP hD hS => ?_)
              have hw_64 : r_61 = (tO (rg ((3 * j) + i))) := hw_63
              subst hw_64
              have hP : va_P D vwCl [kX7 m0 (nI z) m1 (nI r9) m2 m3 m4 m5 (nI n9) (nI v) m6 k1 k2 k3 k4 m7 k5 k6 k7 k8 m8 m9 m10 k9 m11 m12 m13 hv, kI cI m3 9 re, kI cI m5 27 rg, kI cI m13 3 cn] H := hP
              have hD : va_D A [kX7 m0 (nI z) m1 (nI r9) m2 m3 m4 m5 (nI n9) (nI v) m6 k1 k2 k3 k4 m7 k5 k6 k7 k8 m8 m9 m10 k9 m11 m12 m13 hv, kI cI m3 9 re, kI cI m5 27 rg, kI cI m13 3 cn] := hD
              refine lv_ishl hx hb dX7_leads_79 ?_
              refine lv_goto (tgt := 84) hx hb dX7_leads_80 (by decide) ?_
              refine lv_ior hx hb dX7_leads_84 ?_
              refine lv_istore_n (lv' := [(3, .int (mf ||| ((1 : Int32) <<< ((tO (rg ((3 * j) + i))) &&& 31)))), (6, .int (rg ((3 * j) + i))), (0, .ref m0), (1, .int (nI j)), (2, .int 1), (4, .int (nI q)), (5, .int (nI i))]) hx hb dX7_leads_85 rfl hl (by decide) rfl (fun ls hl => ?_)
              refine lv_iload_n hx hb dX7_leads_86 rfl (lv_at hl 0 rfl) ?_
              refine lv_iload_n hx hb dX7_leads_87 rfl (lv_at hl 0 rfl) ?_
              refine lv_iload hx hb dX7_leads_88 (lv_at hl 1 rfl) ?_
              refine xc_i (wc := []) (wr := [kX7 m0 (nI z) m1 (nI r9) m2 m3 m4 m5 (nI n9) (nI v) m6 k1 k2 k3 k4 m7 k5 k6 k7 k8 m8 m9 m10 k9 m11 m12 m13 hv, kI cI m3 9 re, kI cI m5 27 rg, kI cI m13 3 cn]) (xrS (n := 1) (As := [.int (rg ((3 * j) + i))]) (rest := [.int (mf ||| ((1 : Int32) <<< ((tO (rg ((3 * j) + i))) &&& 31))), .int (mf ||| ((1 : Int32) <<< ((tO (rg ((3 * j) + i))) &&& 31)))]) hd hK hP hD (c_X7_toOf l D cI cJ cZ cR _ (rg ((3 * j) + i)) ) (gS t_723 mS_X7_toOf) hS_X7_toOf ⟨(Nat.le_of_ble_eq_true rfl), (Nat.le_of_ble_eq_true rfl)⟩ [] rfl rfl rfl hl.1 rfl (Nat.le_of_ble_eq_true rfl) dX7_leads_90 ⟨(Nat.le_of_ble_eq_true rfl), (Nat.le_of_ble_eq_true rfl)⟩) hP hD hS hA [] [0, 1, 2, 3] rfl rfl rfl (by decide) (fun r_65 u_66 H locs hw_67 hP hD hS => ?_)
              have hw_68 : r_65 = (tO (rg ((3 * j) + i))) := hw_67
              subst hw_68
              have hP : va_P D vwCl [kX7 m0 (nI z) m1 (nI r9) m2 m3 m4 m5 (nI n9) (nI v) m6 k1 k2 k3 k4 m7 k5 k6 k7 k8 m8 m9 m10 k9 m11 m12 m13 hv, kI cI m3 9 re, kI cI m5 27 rg, kI cI m13 3 cn] H := hP
              have hD : va_D A [kX7 m0 (nI z) m1 (nI r9) m2 m3 m4 m5 (nI n9) (nI v) m6 k1 k2 k3 k4 m7 k5 k6 k7 k8 m8 m9 m10 k9 m11 m12 m13 hv, kI cI m3 9 re, kI cI m5 27 rg, kI cI m13 3 cn] := hD
              refine xc_i (wc := []) (wr := [kX7 m0 (nI z) m1 (nI r9) m2 m3 m4 m5 (nI n9) (nI v) m6 k1 k2 k3 k4 m7 k5 k6 k7 k8 m8 m9 m10 k9 m11 m12 m13 hv, kI cI m3 9 re, kI cI m5 27 rg, kI cI m13 3 cn]) (xrS (n := 2) (As := [.int (mf ||| ((1 : Int32) <<< ((tO (rg ((3 * j) + i))) &&& 31))), .int (tO (rg ((3 * j) + i)))]) (rest := [.int (mf ||| ((1 : Int32) <<< ((tO (rg ((3 * j) + i))) &&& 31)))]) hd hK hP hD (c_X7_has l D cI cJ cZ cR _ (mf ||| ((1 : Int32) <<< ((tO (rg ((3 * j) + i))) &&& 31))) (tO (rg ((3 * j) + i))) ) (gS t_671 mS_X7_has) hS_X7_has ⟨(Nat.le_of_ble_eq_true rfl), (Nat.le_of_ble_eq_true rfl)⟩ [] rfl rfl rfl hl.1 rfl (Nat.le_of_ble_eq_true rfl) dX7_leads_93 ⟨(Nat.le_of_ble_eq_true rfl), (Nat.le_of_ble_eq_true rfl)⟩) hP hD hS hA [] [0, 1, 2, 3] rfl rfl rfl (by decide) (fun r_69 u_70 H locs hw_71 hP hD hS => ?_)
              have hw_72 : r_69 = (hR (mf ||| ((1 : Int32) <<< ((tO (rg ((3 * j) + i))) &&& 31))) (tO (rg ((3 * j) + i)))) := hw_71
              subst hw_72
              have hP : va_P D vwCl [kX7 m0 (nI z) m1 (nI r9) m2 m3 m4 m5 (nI n9) (nI v) m6 k1 k2 k3 k4 m7 k5 k6 k7 k8 m8 m9 m10 k9 m11 m12 m13 hv, kI cI m3 9 re, kI cI m5 27 rg, kI cI m13 3 cn] H := hP
              have hD : va_D A [kX7 m0 (nI z) m1 (nI r9) m2 m3 m4 m5 (nI n9) (nI v) m6 k1 k2 k3 k4 m7 k5 k6 k7 k8 m8 m9 m10 k9 m11 m12 m13 hv, kI cI m3 9 re, kI cI m5 27 rg, kI cI m13 3 cn] := hD
              refine lv_if_eq (tgt := 123) hx hb dX7_leads_96 (by decide) (fun c_73 => ?_) (fun c_73 => ?_)
              · skip
                refine lv_iconst (v := 0) hx hb dX7_leads_123 (by decide) ?_
                refine lv_ior hx hb dX7_leads_124 ?_
                refine lv_istore_n (lv' := [(3, .int ((mf ||| ((1 : Int32) <<< ((tO (rg ((3 * j) + i))) &&& 31))) ||| 0)), (6, .int (rg ((3 * j) + i))), (0, .ref m0), (1, .int (nI j)), (2, .int 1), (4, .int (nI q)), (5, .int (nI i))]) hx hb dX7_leads_125 rfl hl (by decide) rfl (fun ls hl => ?_)
                refine lv_iinc (v := nI (i + 1)) (lv' := [(5, .int (nI (i + 1))), (3, .int ((mf ||| ((1 : Int32) <<< ((tO (rg ((3 * j) + i))) &&& 31))) ||| 0)), (6, .int (rg ((3 * j) + i))), (0, .ref m0), (1, .int (nI j)), (2, .int 1), (4, .int (nI q))]) hx hb dX7_leads_126 hl (k := 6) rfl (nI_1 i) (by decide) rfl (fun ls hl => ?_)
                refine lv_goto (tgt := 22) hx hb dX7_leads_129 (by decide) ?_
                exact ih_22 (i + 1) ((mf ||| ((1 : Int32) <<< ((tO (rg ((3 * j) + i))) &&& 31))) ||| 0) (by omega) _ _ _ (hP.sub [0, 1, 2, 3] rfl) (hD.sub [0, 1, 2, 3] rfl rfl) hS (lv_sub hl [3, 4, 5, 1, 6, 0] rfl)
              · skip
                refine lv_aload_n hx hb dX7_leads_99 rfl (lv_at hl 2 rfl) ?_
                refine va_get (D := D) (ci := 7) (v := .ref m13) (C := RX7) (T := TX7) (N := 27) hx hb hts iT_X7 hown hK1 hP 0 rfl rfl 25 (by decide) (hts _ t_576) (fun _ h9 => h9) rfl dX7_leads_100 ?_
                refine lv_iload hx hb dX7_leads_103 (lv_at hl 6 rfl) ?_
                refine va_iald hx hb hK1 hP 3 0 rfl rfl (vp_in_nI (by omega) (by omega)) dX7_leads_105 ?_
                refine lv_nmi (show _ = cn i from by rw [nI_clamp (n := i) (by omega)]) ?_
                refine lv_iconst (v := 1) hx hb dX7_leads_106 (by decide) ?_
                refine xc_i (wc := []) (wr := [kX7 m0 (nI z) m1 (nI r9) m2 m3 m4 m5 (nI n9) (nI v) m6 k1 k2 k3 k4 m7 k5 k6 k7 k8 m8 m9 m10 k9 m11 m12 m13 hv, kI cI m3 9 re, kI cI m5 27 rg, kI cI m13 3 cn]) (xrS (n := 2) (As := [.int (cn i), .int 1]) (rest := [.int (mf ||| ((1 : Int32) <<< ((tO (rg ((3 * j) + i))) &&& 31)))]) hd hK hP hD (c_X7_has l D cI cJ cZ cR _ (cn i) 1 ) (gS t_671 mS_X7_has) hS_X7_has ⟨(Nat.le_of_ble_eq_true rfl), (Nat.le_of_ble_eq_true rfl)⟩ [] rfl rfl rfl hl.1 rfl (Nat.le_of_ble_eq_true rfl) dX7_leads_107 ⟨(Nat.le_of_ble_eq_true rfl), (Nat.le_of_ble_eq_true rfl)⟩) hP hD hS hA [] [0, 1, 2, 3] rfl rfl rfl (by decide) (fun r_74 u_75 H locs hw_76 hP hD hS => ?_)
                have hw_77 : r_74 = (hR (cn i) 1) := hw_76
                subst hw_77
                have hP : va_P D vwCl [kX7 m0 (nI z) m1 (nI r9) m2 m3 m4 m5 (nI n9) (nI v) m6 k1 k2 k3 k4 m7 k5 k6 k7 k8 m8 m9 m10 k9 m11 m12 m13 hv, kI cI m3 9 re, kI cI m5 27 rg, kI cI m13 3 cn] H := hP
                have hD : va_D A [kX7 m0 (nI z) m1 (nI r9) m2 m3 m4 m5 (nI n9) (nI v) m6 k1 k2 k3 k4 m7 k5 k6 k7 k8 m8 m9 m10 k9 m11 m12 m13 hv, kI cI m3 9 re, kI cI m5 27 rg, kI cI m13 3 cn] := hD
                refine lv_if_eq (tgt := 123) hx hb dX7_leads_110 (by decide) (fun c_78 => ?_) (fun c_78 => ?_)
                · skip
                  refine lv_iconst (v := 0) hx hb dX7_leads_123 (by decide) ?_
                  refine lv_ior hx hb dX7_leads_124 ?_
                  refine lv_istore_n (lv' := [(3, .int ((mf ||| ((1 : Int32) <<< ((tO (rg ((3 * j) + i))) &&& 31))) ||| 0)), (6, .int (rg ((3 * j) + i))), (0, .ref m0), (1, .int (nI j)), (2, .int 1), (4, .int (nI q)), (5, .int (nI i))]) hx hb dX7_leads_125 rfl hl (by decide) rfl (fun ls hl => ?_)
                  refine lv_iinc (v := nI (i + 1)) (lv' := [(5, .int (nI (i + 1))), (3, .int ((mf ||| ((1 : Int32) <<< ((tO (rg ((3 * j) + i))) &&& 31))) ||| 0)), (6, .int (rg ((3 * j) + i))), (0, .ref m0), (1, .int (nI j)), (2, .int 1), (4, .int (nI q))]) hx hb dX7_leads_126 hl (k := 6) rfl (nI_1 i) (by decide) rfl (fun ls hl => ?_)
                  refine lv_goto (tgt := 22) hx hb dX7_leads_129 (by decide) ?_
                  exact ih_22 (i + 1) ((mf ||| ((1 : Int32) <<< ((tO (rg ((3 * j) + i))) &&& 31))) ||| 0) (by omega) _ _ _ (hP.sub [0, 1, 2, 3] rfl) (hD.sub [0, 1, 2, 3] rfl rfl) hS (lv_sub hl [3, 4, 5, 1, 6, 0] rfl)
                · skip
                  refine lv_iconst (v := 1) hx hb dX7_leads_113 (by decide) ?_
                  refine lv_iload hx hb dX7_leads_114 (lv_at hl 1 rfl) ?_
                  refine xc_i (wc := []) (wr := [kX7 m0 (nI z) m1 (nI r9) m2 m3 m4 m5 (nI n9) (nI v) m6 k1 k2 k3 k4 m7 k5 k6 k7 k8 m8 m9 m10 k9 m11 m12 m13 hv, kI cI m3 9 re, kI cI m5 27 rg, kI cI m13 3 cn]) (xrS (n := 1) (As := [.int (rg ((3 * j) + i))]) (rest := [.int 1, .int (mf ||| ((1 : Int32) <<< ((tO (rg ((3 * j) + i))) &&& 31)))]) hd hK hP hD (c_X7_fromOf l D cI cJ cZ cR _ (rg ((3 * j) + i)) ) (gS t_716 mS_X7_fromOf) hS_X7_fromOf ⟨(Nat.le_of_ble_eq_true rfl), (Nat.le_of_ble_eq_true rfl)⟩ [] rfl rfl rfl hl.1 rfl (Nat.le_of_ble_eq_true rfl) dX7_leads_116 ⟨(Nat.le_of_ble_eq_true rfl), (Nat.le_of_ble_eq_true rfl)⟩) hP hD hS hA [] [0, 1, 2, 3] rfl rfl rfl (by decide) (fun r_79 u_80 H locs hw_81 hP hD hS => ?_)
                  have hw_82 : r_79 = (fO (rg ((3 * j) + i))) := hw_81
                  subst hw_82
                  have hP : va_P D vwCl [kX7 m0 (nI z) m1 (nI r9) m2 m3 m4 m5 (nI n9) (nI v) m6 k1 k2 k3 k4 m7 k5 k6 k7 k8 m8 m9 m10 k9 m11 m12 m13 hv, kI cI m3 9 re, kI cI m5 27 rg, kI cI m13 3 cn] H := hP
                  have hD : va_D A [kX7 m0 (nI z) m1 (nI r9) m2 m3 m4 m5 (nI n9) (nI v) m6 k1 k2 k3 k4 m7 k5 k6 k7 k8 m8 m9 m10 k9 m11 m12 m13 hv, kI cI m3 9 re, kI cI m5 27 rg, kI cI m13 3 cn] := hD
                  refine lv_ishl hx hb dX7_leads_119 ?_
                  refine lv_goto (tgt := 124) hx hb dX7_leads_120 (by decide) ?_
                  refine lv_ior hx hb dX7_leads_124 ?_
                  refine lv_istore_n (lv' := [(3, .int ((mf ||| ((1 : Int32) <<< ((tO (rg ((3 * j) + i))) &&& 31))) ||| ((1 : Int32) <<< ((fO (rg ((3 * j) + i))) &&& 31)))), (6, .int (rg ((3 * j) + i))), (0, .ref m0), (1, .int (nI j)), (2, .int 1), (4, .int (nI q)), (5, .int (nI i))]) hx hb dX7_leads_125 rfl hl (by decide) rfl (fun ls hl => ?_)
                  refine lv_iinc (v := nI (i + 1)) (lv' := [(5, .int (nI (i + 1))), (3, .int ((mf ||| ((1 : Int32) <<< ((tO (rg ((3 * j) + i))) &&& 31))) ||| ((1 : Int32) <<< ((fO (rg ((3 * j) + i))) &&& 31)))), (6, .int (rg ((3 * j) + i))), (0, .ref m0), (1, .int (nI j)), (2, .int 1), (4, .int (nI q))]) hx hb dX7_leads_126 hl (k := 6) rfl (nI_1 i) (by decide) rfl (fun ls hl => ?_)
                  refine lv_goto (tgt := 22) hx hb dX7_leads_129 (by decide) ?_
                  exact ih_22 (i + 1) ((mf ||| ((1 : Int32) <<< ((tO (rg ((3 * j) + i))) &&& 31))) ||| ((1 : Int32) <<< ((fO (rg ((3 * j) + i))) &&& 31))) (by omega) _ _ _ (hP.sub [0, 1, 2, 3] rfl) (hD.sub [0, 1, 2, 3] rfl rfl) hS (lv_sub hl [3, 4, 5, 1, 6, 0] rfl)
      exact LOOP_22 e9 0 me (by omega) _ _ _ (hP.sub [0, 1, 2, 3] rfl) (hD.sub [0, 1, 2, 3] rfl rfl) hS (lv_sub hl [1, 2, 3, 4, 5, 0] rfl)
  exact LOOP_13 4 0 2 (by omega) _ _ _ (hP.sub [0, 1, 2, 3] rfl) (hD.sub [0, 1, 2, 3] rfl rfl) hS (lv_sub hl [2, 3, 4, 1, 0] rfl)
set_option maxHeartbeats 4000000 in
set_option maxRecDepth 100000 in
theorem c_X7_colouredBy (sz : Nat) (m0 : Nat) (m1 : Nat) (m2 : Nat) (m3 : Nat) (m4 : Nat) (m5 : Nat) (m6 : Nat) (m7 : Nat) (m8 : Nat) (m9 : Nat) (m10 : Nat) (m11 : Nat) (m12 : Nat) (m13 : Nat) (z : Nat) (r9 : Nat) (n9 : Nat) (v : Nat) (k1 : Int32) (k2 : Int32) (k3 : Int32) (k4 : Int32) (k5 : Int32) (k6 : Int32) (k7 : Int32) (k8 : Int32) (k9 : Int32) (hv : Int64) (j : Nat) (e9 : Nat) (re : Nat → Int32) (rg : Nat → Int32) (cn : Nat → Int32) (hj : j < 9) (hej : re j = nI e9) (he3 : e9 ≤ 3) : CTi l D cI cJ cZ cR yX7_colouredBy cX7_colouredBy 7 (some .int) 1 21 0 0 sz [.ref m0, .int (nI j)] [kX7 m0 (nI z) m1 (nI r9) m2 m3 m4 m5 (nI n9) (nI v) m6 k1 k2 k3 k4 m7 k5 k6 k7 k8 m8 m9 m10 k9 m11 m12 m13 hv, kI cI m3 9 re, kI cI m5 27 rg, kI cI m13 3 cn] (fun (r : Int32) (u : Unit) => (B12 r)) (fun (u : Unit) => [kX7 m0 (nI z) m1 (nI r9) m2 m3 m4 m5 (nI n9) (nI v) m6 k1 k2 k3 k4 m7 k5 k6 k7 k8 m8 m9 m10 k9 m11 m12 m13 hv, kI cI m3 9 re, kI cI m5 27 rg, kI cI m13 3 cn]) := by
  refine CTi.of (ty := .int) (by decide) (Nat.le_of_ble_eq_true rfl) rfl ?_
  intro p e s m below meth c A Q ls hd hin hK hsz hP hD hA hS hl hret
  obtain ⟨hx, hb, hml, hown, hts⟩ := id hd
  have hK1 := hK.1
  have hown : s.vm.findClass RX7 = some m.cls := hown
  have hl : lv_has ls 7 [(0, .ref m0), (1, .int (nI j))] := hl
  refine lv_iconst (v := 0) hx hb dX7_colouredBy_0 (by decide) ?_
  refine lv_istore_n (lv' := [(2, .int 0), (0, .ref m0), (1, .int (nI j))]) hx hb dX7_colouredBy_1 rfl hl (by decide) rfl (fun ls hl => ?_)
  refine lv_iconst (v := 0) hx hb dX7_colouredBy_2 (by decide) ?_
  refine lv_istore_n (lv' := [(3, .int 0), (2, .int 0), (0, .ref m0), (1, .int (nI j))]) hx hb dX7_colouredBy_3 rfl hl (by decide) rfl (fun ls hl => ?_)
  have LOOP_4 : ∀ (n : Nat) (q : Nat) (bi : Int32), (q + n = 16) → (B12 bi) → ∀ (H : Heap) (locs : List Loc) (ls : Array Slot), va_P D vwCl [kX7 m0 (nI z) m1 (nI r9) m2 m3 m4 m5 (nI n9) (nI v) m6 k1 k2 k3 k4 m7 k5 k6 k7 k8 m8 m9 m10 k9 m11 m12 m13 hv, kI cI m3 9 re, kI cI m5 27 rg, kI cI m13 3 cn] H → va_D A [kX7 m0 (nI z) m1 (nI r9) m2 m3 m4 m5 (nI n9) (nI v) m6 k1 k2 k3 k4 m7 k5 k6 k7 k8 m8 m9 m10 k9 m11 m12 m13 hv, kI cI m3 9 re, kI cI m5 27 rg, kI cI m13 3 cn] → va_S A s.heap H locs → lv_has ls 7 [(0, .ref m0), (1, .int (nI j)), (2, .int bi), (3, .int (nI q))] → W p l e (rM 1 0 0 21) s m ([.ref m0, .int (nI j)] : List Value).toArray below meth c H locs 0 0 Q (F0 m 4 ls []) := by
    intro n
    induction n with
    | zero =>
      intro q bi hq hb12 H locs ls hP hD hS hl
      refine lv_iload_n hx hb dX7_colouredBy_4 rfl (lv_at hl 3 rfl) ?_
      refine lv_bipush (v := 16) hx hb dX7_colouredBy_5 (by decide) ?_
      refine lv_icmp_ge (tgt := 134) hx hb dX7_colouredBy_7 (by decide) (fun c_1 => ?_) (fun c_1 => ?_)
      rotate_left
      · exact absurd (nI_le (a := 16) (b := q) (by omega) (by omega)) c_1
      refine lv_iload_n hx hb dX7_colouredBy_134 rfl (lv_at hl 2 rfl) ?_
      exact hret _ _ _ _ _ _ bi () dX7_colouredBy_135 rfl hS (Nat.le_of_ble_eq_true rfl) (Nat.le_of_ble_eq_true rfl) hb12 (hP.sub [0, 1, 2, 3] rfl) (hD.sub [0, 1, 2, 3] rfl rfl)
    | succ n ih_4 =>
      intro q bi hq hb12 H locs ls hP hD hS hl
      refine lv_iload_n hx hb dX7_colouredBy_4 rfl (lv_at hl 3 rfl) ?_
      refine lv_bipush (v := 16) hx hb dX7_colouredBy_5 (by decide) ?_
      refine lv_icmp_ge (tgt := 134) hx hb dX7_colouredBy_7 (by decide) (fun c_2 => ?_) (fun c_2 => ?_)
      · exact absurd c_2 (nI_ge (a := q) (b := 16) (by omega) (by omega))
      refine lv_iconst (v := 1) hx hb dX7_colouredBy_10 (by decide) ?_
      refine lv_istore (lv' := [(4, .int 1), (0, .ref m0), (1, .int (nI j)), (2, .int bi), (3, .int (nI q))]) hx hb dX7_colouredBy_11 hl (by decide) rfl (fun ls hl => ?_)
      refine lv_iconst (v := 0) hx hb dX7_colouredBy_13 (by decide) ?_
      refine lv_istore (lv' := [(5, .int 0), (4, .int 1), (0, .ref m0), (1, .int (nI j)), (2, .int bi), (3, .int (nI q))]) hx hb dX7_colouredBy_14 hl (by decide) rfl (fun ls hl => ?_)
      have LOOP_16 : ∀ (n : Nat) (i : Nat) (is : Int32) (bj : Int32), (i + n = e9) → (B12 bj) → ∀ (H : Heap) (locs : List Loc) (ls : Array Slot), va_P D vwCl [kX7 m0 (nI z) m1 (nI r9) m2 m3 m4 m5 (nI n9) (nI v) m6 k1 k2 k3 k4 m7 k5 k6 k7 k8 m8 m9 m10 k9 m11 m12 m13 hv, kI cI m3 9 re, kI cI m5 27 rg, kI cI m13 3 cn] H → va_D A [kX7 m0 (nI z) m1 (nI r9) m2 m3 m4 m5 (nI n9) (nI v) m6 k1 k2 k3 k4 m7 k5 k6 k7 k8 m8 m9 m10 k9 m11 m12 m13 hv, kI cI m3 9 re, kI cI m5 27 rg, kI cI m13 3 cn] → va_S A s.heap H locs → lv_has ls 7 [(0, .ref m0), (1, .int (nI j)), (2, .int bj), (3, .int (nI q)), (4, .int is), (5, .int (nI i))] → W p l e (rM 1 0 0 21) s m ([.ref m0, .int (nI j)] : List Value).toArray below meth c H locs 0 0 Q (F0 m 16 ls []) := by
        intro n
        induction n with
        | zero =>
          intro i is bj hi hb12b H locs ls hP hD hS hl
          refine lv_iload hx hb dX7_colouredBy_16 (lv_at hl 5 rfl) ?_
          refine lv_aload_n hx hb dX7_colouredBy_18 rfl (lv_at hl 0 rfl) ?_
          refine va_get (D := D) (ci := 7) (v := .ref m3) (C := RX7) (T := TX7) (N := 27) hx hb hts iT_X7 hown hK1 hP 0 rfl rfl 4 (by decide) (hts _ t_555) (fun _ h9 => h9) rfl dX7_colouredBy_19 ?_
          refine lv_iload_n hx hb dX7_colouredBy_22 rfl (lv_at hl 1 rfl) ?_
          refine va_iald hx hb hK1 hP 1 0 rfl rfl (vp_in_nI (by omega) (by omega)) dX7_colouredBy_23 ?_
          refine lv_nmi (show _ = re j from by rw [nI_clamp (n := j) (by omega)]) ?_
          refine lv_nmi (show _ = (nI e9 : Int32) from hej) ?_
          refine lv_icmp_ge (tgt := 97) hx hb dX7_colouredBy_24 (by decide) (fun c_3 => ?_) (fun c_3 => ?_)
          rotate_left
          · exact absurd (nI_le (a := e9) (b := i) (by omega) (by omega)) c_3
          refine lv_iload_n hx hb dX7_colouredBy_97 rfl (lv_at hl 2 rfl) ?_
          refine lv_iload hx hb dX7_colouredBy_98 (lv_at hl 4 rfl) ?_
          refine lv_if_ne (tgt := 107) hx hb dX7_colouredBy_100 (by decide) (fun c_4 => ?_) (fun c_4 => ?_)
          · skip
            refine lv_iload_n hx hb dX7_colouredBy_107 rfl (lv_at hl 3 rfl) ?_
            refine lv_iconst (v := 0) hx hb dX7_colouredBy_108 (by decide) ?_
            refine xc_i (wc := []) (wr := [kX7 m0 (nI z) m1 (nI r9) m2 m3 m4 m5 (nI n9) (nI v) m6 k1 k2 k3 k4 m7 k5 k6 k7 k8 m8 m9 m10 k9 m11 m12 m13 hv, kI cI m3 9 re, kI cI m5 27 rg, kI cI m13 3 cn]) (xrS (n := 2) (As := [.int (nI q), .int 0]) (rest := [.int bj]) hd hK hP hD (c_X7_has l D cI cJ cZ cR _ (nI q) 0 ) (gS t_671 mS_X7_has) hS_X7_has ⟨(Nat.le_of_ble_eq_true rfl), (Nat.le_of_ble_eq_true rfl)⟩ [] rfl rfl rfl hl.1 rfl (Nat.le_of_ble_eq_true rfl) dX7_colouredBy_109 ⟨(Nat.le_of_ble_eq_true rfl), (Nat.le_of_ble_eq_true rfl)⟩) hP hD hS hA [] [0, 1, 2, 3] rfl rfl rfl (by decide) (fun r_5 u_6 H locs hw_7 hP hD hS => ?_)
            have hw_8 : r_5 = (hR (nI q) 0) := hw_7
            subst hw_8
            have hP : va_P D vwCl [kX7 m0 (nI z) m1 (nI r9) m2 m3 m4 m5 (nI n9) (nI v) m6 k1 k2 k3 k4 m7 k5 k6 k7 k8 m8 m9 m10 k9 m11 m12 m13 hv, kI cI m3 9 re, kI cI m5 27 rg, kI cI m13 3 cn] H := hP
            have hD : va_D A [kX7 m0 (nI z) m1 (nI r9) m2 m3 m4 m5 (nI n9) (nI v) m6 k1 k2 k3 k4 m7 k5 k6 k7 k8 m8 m9 m10 k9 m11 m12 m13 hv, kI cI m3 9 re, kI cI m5 27 rg, kI cI m13 3 cn] := hD
            refine lv_iload_n hx hb dX7_colouredBy_112 rfl (lv_at hl 3 rfl) ?_
            refine lv_iconst (v := 1) hx hb dX7_colouredBy_113 (by decide) ?_
            refine xc_i (wc := []) (wr := [kX7 m0 (nI z) m1 (nI r9) m2 m3 m4 m5 (nI n9) (nI v) m6 k1 k2 k3 k4 m7 k5 k6 k7 k8 m8 m9 m10 k9 m11 m12 m13 hv, kI cI m3 9 re, kI cI m5 27 rg, kI cI m13 3 cn]) (xrS (n := 2) (As := [.int (nI q), .int 1]) (rest := [.int (hR (nI q) 0), .int bj]) hd hK hP hD (c_X7_has l D cI cJ cZ cR _ (nI q) 1 ) (gS t_671 mS_X7_has) hS_X7_has ⟨(Nat.le_of_ble_eq_true rfl), (Nat.le_of_ble_eq_true rfl)⟩ [] rfl rfl rfl hl.1 rfl (Nat.le_of_ble_eq_true rfl) dX7_colouredBy_114 ⟨(Nat.le_of_ble_eq_true rfl), (Nat.le_of_ble_eq_true rfl)⟩) hP hD hS hA [] [0, 1, 2, 3] rfl rfl rfl (by decide) (fun r_9 u_10 H locs hw_11 hP hD hS => ?_)
            have hw_12 : r_9 = (hR (nI q) 1) := hw_11
            subst hw_12
            have hP : va_P D vwCl [kX7 m0 (nI z) m1 (nI r9) m2 m3 m4 m5 (nI n9) (nI v) m6 k1 k2 k3 k4 m7 k5 k6 k7 k8 m8 m9 m10 k9 m11 m12 m13 hv, kI cI m3 9 re, kI cI m5 27 rg, kI cI m13 3 cn] H := hP
            have hD : va_D A [kX7 m0 (nI z) m1 (nI r9) m2 m3 m4 m5 (nI n9) (nI v) m6 k1 k2 k3 k4 m7 k5 k6 k7 k8 m8 m9 m10 k9 m11 m12 m13 hv, kI cI m3 9 re, kI cI m5 27 rg, kI cI m13 3 cn] := hD
            refine lv_icmp_ne (tgt := 124) hx hb dX7_colouredBy_117 (by decide) (fun c_13 => ?_) (fun c_13 => ?_)
            · skip
              refine lv_bipush (v := 8) hx hb dX7_colouredBy_124 (by decide) ?_
              refine lv_ior hx hb dX7_colouredBy_126 ?_
              refine lv_istore_n (lv' := [(2, .int (bj ||| 8)), (0, .ref m0), (1, .int (nI j)), (3, .int (nI q)), (4, .int is), (5, .int (nI i))]) hx hb dX7_colouredBy_127 rfl hl (by decide) rfl (fun ls hl => ?_)
              refine lv_iinc (v := nI (q + 1)) (lv' := [(3, .int (nI (q + 1))), (2, .int (bj ||| 8)), (0, .ref m0), (1, .int (nI j)), (4, .int is), (5, .int (nI i))]) hx hb dX7_colouredBy_128 hl (k := 3) rfl (nI_1 q) (by decide) rfl (fun ls hl => ?_)
              refine lv_goto (tgt := 4) hx hb dX7_colouredBy_131 (by decide) ?_
              exact ih_4 (q + 1) (bj ||| 8) (by omega) (B12_8 hb12b) _ _ _ (hP.sub [0, 1, 2, 3] rfl) (hD.sub [0, 1, 2, 3] rfl rfl) hS (lv_sub hl [2, 3, 1, 0] rfl)
            · skip
              refine lv_iconst (v := 4) hx hb dX7_colouredBy_120 (by decide) ?_
              refine lv_goto (tgt := 126) hx hb dX7_colouredBy_121 (by decide) ?_
              refine lv_ior hx hb dX7_colouredBy_126 ?_
              refine lv_istore_n (lv' := [(2, .int (bj ||| 4)), (0, .ref m0), (1, .int (nI j)), (3, .int (nI q)), (4, .int is), (5, .int (nI i))]) hx hb dX7_colouredBy_127 rfl hl (by decide) rfl (fun ls hl => ?_)
              refine lv_iinc (v := nI (q + 1)) (lv' := [(3, .int (nI (q + 1))), (2, .int (bj ||| 4)), (0, .ref m0), (1, .int (nI j)), (4, .int is), (5, .int (nI i))]) hx hb dX7_colouredBy_128 hl (k := 3) rfl (nI_1 q) (by decide) rfl (fun ls hl => ?_)
              refine lv_goto (tgt := 4) hx hb dX7_colouredBy_131 (by decide) ?_
              exact ih_4 (q + 1) (bj ||| 4) (by omega) (B12_4 hb12b) _ _ _ (hP.sub [0, 1, 2, 3] rfl) (hD.sub [0, 1, 2, 3] rfl rfl) hS (lv_sub hl [2, 3, 1, 0] rfl)
          · skip
            refine lv_iconst (v := 0) hx hb dX7_colouredBy_103 (by decide) ?_
            refine lv_goto (tgt := 126) hx hb dX7_colouredBy_104 (by decide) ?_
            refine lv_ior hx hb dX7_colouredBy_126 ?_
            refine lv_istore_n (lv' := [(2, .int (bj ||| 0)), (0, .ref m0), (1, .int (nI j)), (3, .int (nI q)), (4, .int is), (5, .int (nI i))]) hx hb dX7_colouredBy_127 rfl hl (by decide) rfl (fun ls hl => ?_)
            refine lv_iinc (v := nI (q + 1)) (lv' := [(3, .int (nI (q + 1))), (2, .int (bj ||| 0)), (0, .ref m0), (1, .int (nI j)), (4, .int is), (5, .int (nI i))]) hx hb dX7_colouredBy_128 hl (k := 3) rfl (nI_1 q) (by decide) rfl (fun ls hl => ?_)
            refine lv_goto (tgt := 4) hx hb dX7_colouredBy_131 (by decide) ?_
            exact ih_4 (q + 1) (bj ||| 0) (by omega) (B12_0 hb12b) _ _ _ (hP.sub [0, 1, 2, 3] rfl) (hD.sub [0, 1, 2, 3] rfl rfl) hS (lv_sub hl [2, 3, 1, 0] rfl)
        | succ n ih_16 =>
          intro i is bj hi hb12b H locs ls hP hD hS hl
          refine lv_iload hx hb dX7_colouredBy_16 (lv_at hl 5 rfl) ?_
          refine lv_aload_n hx hb dX7_colouredBy_18 rfl (lv_at hl 0 rfl) ?_
          refine va_get (D := D) (ci := 7) (v := .ref m3) (C := RX7) (T := TX7) (N := 27) hx hb hts iT_X7 hown hK1 hP 0 rfl rfl 4 (by decide) (hts _ t_555) (fun _ h9 => h9) rfl dX7_colouredBy_19 ?_
          refine lv_iload_n hx hb dX7_colouredBy_22 rfl (lv_at hl 1 rfl) ?_
          refine va_iald hx hb hK1 hP 1 0 rfl rfl (vp_in_nI (by omega) (by omega)) dX7_colouredBy_23 ?_
          refine lv_nmi (show _ = re j from by rw [nI_clamp (n := j) (by omega)]) ?_
          refine lv_nmi (show _ = (nI e9 : Int32) from hej) ?_
          refine lv_icmp_ge (tgt := 97) hx hb dX7_colouredBy_24 (by decide) (fun c_14 => ?_) (fun c_14 => ?_)
          · exact absurd c_14 (nI_ge (a := i) (b := e9) (by omega) (by omega))
          refine lv_aload_n hx hb dX7_colouredBy_27 rfl (lv_at hl 0 rfl) ?_
          refine va_get (D := D) (ci := 7) (v := .ref m5) (C := RX7) (T := TX7) (N := 27) hx hb hts iT_X7 hown hK1 hP 0 rfl rfl 6 (by decide) (hts _ t_557) (fun _ h9 => h9) rfl dX7_colouredBy_28 ?_
          refine lv_iconst (v := 3) hx hb dX7_colouredBy_31 (by decide) ?_
          refine lv_iload_n hx hb dX7_colouredBy_32 rfl (lv_at hl 1 rfl) ?_
          refine lv_imul hx hb dX7_colouredBy_33 ?_
          refine lv_nmi (show _ = (nI (3 * j)) from pk_mul (3) (j)) ?_
          refine lv_iload hx hb dX7_colouredBy_34 (lv_at hl 5 rfl) ?_
          refine lv_iadd hx hb dX7_colouredBy_36 ?_
          refine lv_nmi (show _ = (nI ((3 * j) + i)) from nI_add ((3 * j)) (i)) ?_
          refine va_iald hx hb hK1 hP 2 0 rfl rfl (vp_in_nI (by omega) (by omega)) dX7_colouredBy_37 ?_
          refine lv_nmi (show _ = rg ((3 * j) + i) from by rw [nI_clamp (n := ((3 * j) + i)) (by omega)]) ?_
          refine lv_istore (lv' := [(6, .int (rg ((3 * j) + i))), (0, .ref m0), (1, .int (nI j)), (2, .int bj), (3, .int (nI q)), (4, .int is), (5, .int (nI i))]) hx hb dX7_colouredBy_38 hl (by decide) rfl (fun ls hl => ?_)
          refine lv_iload hx hb dX7_colouredBy_40 (lv_at hl 5 rfl) ?_
          refine lv_if_eq (tgt := 88) hx hb dX7_colouredBy_42 (by decide) (fun c_15 => ?_) (fun c_15 => ?_)
          · skip
            refine lv_iconst (v := 0) hx hb dX7_colouredBy_88 (by decide) ?_
            refine lv_istore (lv' := [(4, .int 0), (6, .int (rg ((3 * j) + i))), (0, .ref m0), (1, .int (nI j)), (2, .int bj), (3, .int (nI q)), (5, .int (nI i))]) hx hb dX7_colouredBy_89 hl (by decide) rfl (fun ls hl => ?_)
            refine lv_iinc (v := nI (i + 1)) (lv' := [(5, .int (nI (i + 1))), (4, .int 0), (6, .int (rg ((3 * j) + i))), (0, .ref m0), (1, .int (nI j)), (2, .int bj), (3, .int (nI q))]) hx hb dX7_colouredBy_91 hl (k := 6) rfl (nI_1 i) (by decide) rfl (fun ls hl => ?_)
            refine lv_goto (tgt := 16) hx hb dX7_colouredBy_94 (by decide) ?_
            exact ih_16 (i + 1) 0 bj (by omega) hb12b _ _ _ (hP.sub [0, 1, 2, 3] rfl) (hD.sub [0, 1, 2, 3] rfl rfl) hS (lv_sub hl [3, 4, 5, 6, 1, 0] rfl)
          · skip
            refine lv_aload_n hx hb dX7_colouredBy_45 rfl (lv_at hl 1 rfl) ?_
            refine va_get (D := D) (ci := 7) (v := .ref m13) (C := RX7) (T := TX7) (N := 27) hx hb hts iT_X7 hown hK1 hP 0 rfl rfl 25 (by decide) (hts _ t_576) (fun _ h9 => h9) rfl dX7_colouredBy_46 ?_
            refine lv_iload hx hb dX7_colouredBy_49 (lv_at hl 6 rfl) ?_
            refine va_iald hx hb hK1 hP 3 0 rfl rfl (vp_in_nI (by omega) (by omega)) dX7_colouredBy_51 ?_
            refine lv_nmi (show _ = cn i from by rw [nI_clamp (n := i) (by omega)]) ?_
            refine lv_iload_n hx hb dX7_colouredBy_52 rfl (lv_at hl 4 rfl) ?_
            refine lv_iload hx hb dX7_colouredBy_53 (lv_at hl 0 rfl) ?_
            refine xc_i (wc := []) (wr := [kX7 m0 (nI z) m1 (nI r9) m2 m3 m4 m5 (nI n9) (nI v) m6 k1 k2 k3 k4 m7 k5 k6 k7 k8 m8 m9 m10 k9 m11 m12 m13 hv, kI cI m3 9 re, kI cI m5 27 rg, kI cI m13 3 cn]) (xrS (n := 1) (As := [.int (rg ((3 * j) + i))]) (rest := [.int (nI q), .int (cn i)]) hd hK hP hD (c_X7_fromOf l D cI cJ cZ cR _ (rg ((3 * j) + i)) ) (gS t_716 mS_X7_fromOf) hS_X7_fromOf ⟨(Nat.le_of_ble_eq_true rfl), (Nat.le_of_ble_eq_true rfl)⟩ [] rfl rfl rfl hl.1 rfl (Nat.le_of_ble_eq_true rfl) dX7_colouredBy_55 ⟨(Nat.le_of_ble_eq_true rfl), (Nat.le_of_ble_eq_true rfl)⟩) hP hD hS hA [] [0, 1, 2, 3] rfl rfl rfl (by decide) (fun r_16 u_17 H locs hw_18 hP hD hS => ?_)
            have hw_19 : r_16 = (fO (rg ((3 * j) + i))) := hw_18
            subst hw_19
            have hP : va_P D vwCl [kX7 m0 (nI z) m1 (nI r9) m2 m3 m4 m5 (nI n9) (nI v) m6 k1 k2 k3 k4 m7 k5 k6 k7 k8 m8 m9 m10 k9 m11 m12 m13 hv, kI cI m3 9 re, kI cI m5 27 rg, kI cI m13 3 cn] H := hP
            have hD : va_D A [kX7 m0 (nI z) m1 (nI r9) m2 m3 m4 m5 (nI n9) (nI v) m6 k1 k2 k3 k4 m7 k5 k6 k7 k8 m8 m9 m10 k9 m11 m12 m13 hv, kI cI m3 9 re, kI cI m5 27 rg, kI cI m13 3 cn] := hD
            refine xc_i (wc := []) (wr := [kX7 m0 (nI z) m1 (nI r9) m2 m3 m4 m5 (nI n9) (nI v) m6 k1 k2 k3 k4 m7 k5 k6 k7 k8 m8 m9 m10 k9 m11 m12 m13 hv, kI cI m3 9 re, kI cI m5 27 rg, kI cI m13 3 cn]) (xrS (n := 2) (As := [.int (nI q), .int (fO (rg ((3 * j) + i)))]) (rest := [.int (cn i)]) hd hK hP hD (c_X7_has l D cI cJ cZ cR _ (nI q) (fO (rg ((3 * j) + i))) ) (gS t_671 mS_X7_has) hS_X7_has ⟨(Nat.le_of_ble_eq_true rfl), (Nat.le_of_ble_eq_true rfl)⟩ [] rfl rfl rfl hl.1 rfl (Nat.le_of_ble_eq_true rfl) dX7_colouredBy_58 ⟨(Nat.le_of_ble_eq_true rfl), (Nat.le_of_ble_eq_true rfl)⟩) hP hD hS hA [] [0, 1, 2, 3] rfl rfl rfl (by decide) (fun r_20 u_21 H locs hw_22 hP hD hS => ?_)
            have hw_23 : r_20 = (hR (nI q) (fO (rg ((3 * j) + i)))) := hw_22
            subst hw_23
            have hP : va_P D vwCl [kX7 m0 (nI z) m1 (nI r9) m2 m3 m4 m5 (nI n9) (nI v) m6 k1 k2 k3 k4 m7 k5 k6 k7 k8 m8 m9 m10 k9 m11 m12 m13 hv, kI cI m3 9 re, kI cI m5 27 rg, kI cI m13 3 cn] H := hP
            have hD : va_D A [kX7 m0 (nI z) m1 (nI r9) m2 m3 m4 m5 (nI n9) (nI v) m6 k1 k2 k3 k4 m7 k5 k6 k7 k8 m8 m9 m10 k9 m11 m12 m13 hv, kI cI m3 9 re, kI cI m5 27 rg, kI cI m13 3 cn] := hD
            refine lv_iload_n hx hb dX7_colouredBy_61 rfl (lv_at hl 4 rfl) ?_
            refine lv_iload hx hb dX7_colouredBy_62 (lv_at hl 0 rfl) ?_
            refine xc_i (wc := []) (wr := [kX7 m0 (nI z) m1 (nI r9) m2 m3 m4 m5 (nI n9) (nI v) m6 k1 k2 k3 k4 m7 k5 k6 k7 k8 m8 m9 m10 k9 m11 m12 m13 hv, kI cI m3 9 re, kI cI m5 27 rg, kI cI m13 3 cn]) (xrS (n := 1) (As := [.int (rg ((3 * j) + i))]) (rest := [.int (nI q), .int (hR (nI q) (fO (rg ((3 * j) + i)))), .int (cn i)]) hd hK hP hD (c_X7_toOf l D cI cJ cZ cR _ (rg ((3 * j) + i)) ) (gS t_723 mS_X7_toOf) hS_X7_toOf ⟨(Nat.le_of_ble_eq_true rfl), (Nat.le_of_ble_eq_true rfl)⟩ [] rfl rfl rfl hl.1 rfl (Nat.le_of_ble_eq_true rfl) dX7_colouredBy_64 ⟨(Nat.le_of_ble_eq_true rfl), (Nat.le_of_ble_eq_true rfl)⟩) hP hD hS hA [] [0, 1, 2, 3] rfl rfl rfl (by decide) (fun r_24 u_25 H locs hw_26 hP hD hS => ?_)
            have hw_27 : r_24 = (tO (rg ((3 * j) + i))) := hw_26
            subst hw_27
            have hP : va_P D vwCl [kX7 m0 (nI z) m1 (nI r9) m2 m3 m4 m5 (nI n9) (nI v) m6 k1 k2 k3 k4 m7 k5 k6 k7 k8 m8 m9 m10 k9 m11 m12 m13 hv, kI cI m3 9 re, kI cI m5 27 rg, kI cI m13 3 cn] H := hP
            have hD : va_D A [kX7 m0 (nI z) m1 (nI r9) m2 m3 m4 m5 (nI n9) (nI v) m6 k1 k2 k3 k4 m7 k5 k6 k7 k8 m8 m9 m10 k9 m11 m12 m13 hv, kI cI m3 9 re, kI cI m5 27 rg, kI cI m13 3 cn] := hD
            refine xc_i (wc := []) (wr := [kX7 m0 (nI z) m1 (nI r9) m2 m3 m4 m5 (nI n9) (nI v) m6 k1 k2 k3 k4 m7 k5 k6 k7 k8 m8 m9 m10 k9 m11 m12 m13 hv, kI cI m3 9 re, kI cI m5 27 rg, kI cI m13 3 cn]) (xrS (n := 2) (As := [.int (nI q), .int (tO (rg ((3 * j) + i)))]) (rest := [.int (hR (nI q) (fO (rg ((3 * j) + i)))), .int (cn i)]) hd hK hP hD (c_X7_has l D cI cJ cZ cR _ (nI q) (tO (rg ((3 * j) + i))) ) (gS t_671 mS_X7_has) hS_X7_has ⟨(Nat.le_of_ble_eq_true rfl), (Nat.le_of_ble_eq_true rfl)⟩ [] rfl rfl rfl hl.1 rfl (Nat.le_of_ble_eq_true rfl) dX7_colouredBy_67 ⟨(Nat.le_of_ble_eq_true rfl), (Nat.le_of_ble_eq_true rfl)⟩) hP hD hS hA [] [0, 1, 2, 3] rfl rfl rfl (by decide) (fun r_28 u_29 H locs hw_30 hP hD hS => ?_)
            have hw_31 : r_28 = (hR (nI q) (tO (rg ((3 * j) + i)))) := hw_30
            subst hw_31
            have hP : va_P D vwCl [kX7 m0 (nI z) m1 (nI r9) m2 m3 m4 m5 (nI n9) (nI v) m6 k1 k2 k3 k4 m7 k5 k6 k7 k8 m8 m9 m10 k9 m11 m12 m13 hv, kI cI m3 9 re, kI cI m5 27 rg, kI cI m13 3 cn] H := hP
            have hD : va_D A [kX7 m0 (nI z) m1 (nI r9) m2 m3 m4 m5 (nI n9) (nI v) m6 k1 k2 k3 k4 m7 k5 k6 k7 k8 m8 m9 m10 k9 m11 m12 m13 hv, kI cI m3 9 re, kI cI m5 27 rg, kI cI m13 3 cn] := hD
            refine lv_icmp_ne (tgt := 77) hx hb dX7_colouredBy_70 (by decide) (fun c_32 => ?_) (fun c_32 => ?_)
            · skip
              refine lv_iconst (v := 3) hx hb dX7_colouredBy_77 (by decide) ?_
              refine xc_i (wc := []) (wr := [kX7 m0 (nI z) m1 (nI r9) m2 m3 m4 m5 (nI n9) (nI v) m6 k1 k2 k3 k4 m7 k5 k6 k7 k8 m8 m9 m10 k9 m11 m12 m13 hv, kI cI m3 9 re, kI cI m5 27 rg, kI cI m13 3 cn]) (xrS (n := 2) (As := [.int (cn i), .int 3]) (rest := []) hd hK hP hD (c_X7_has l D cI cJ cZ cR _ (cn i) 3 ) (gS t_671 mS_X7_has) hS_X7_has ⟨(Nat.le_of_ble_eq_true rfl), (Nat.le_of_ble_eq_true rfl)⟩ [] rfl rfl rfl hl.1 rfl (Nat.le_of_ble_eq_true rfl) dX7_colouredBy_78 ⟨(Nat.le_of_ble_eq_true rfl), (Nat.le_of_ble_eq_true rfl)⟩) hP hD hS hA [] [0, 1, 2, 3] rfl rfl rfl (by decide) (fun r_33 u_34 H locs hw_35 hP hD hS => ?_)
              have hw_36 : r_33 = (hR (cn i) 3) := hw_35
              subst hw_36
              have hP : va_P D vwCl [kX7 m0 (nI z) m1 (nI r9) m2 m3 m4 m5 (nI n9) (nI v) m6 k1 k2 k3 k4 m7 k5 k6 k7 k8 m8 m9 m10 k9 m11 m12 m13 hv, kI cI m3 9 re, kI cI m5 27 rg, kI cI m13 3 cn] H := hP
              have hD : va_D A [kX7 m0 (nI z) m1 (nI r9) m2 m3 m4 m5 (nI n9) (nI v) m6 k1 k2 k3 k4 m7 k5 k6 k7 k8 m8 m9 m10 k9 m11 m12 m13 hv, kI cI m3 9 re, kI cI m5 27 rg, kI cI m13 3 cn] := hD
              refine lv_if_eq (tgt := 88) hx hb dX7_colouredBy_81 (by decide) (fun c_37 => ?_) (fun c_37 => ?_)
              · skip
                refine lv_iconst (v := 0) hx hb dX7_colouredBy_88 (by decide) ?_
                refine lv_istore (lv' := [(4, .int 0), (6, .int (rg ((3 * j) + i))), (0, .ref m0), (1, .int (nI j)), (2, .int bj), (3, .int (nI q)), (5, .int (nI i))]) hx hb dX7_colouredBy_89 hl (by decide) rfl (fun ls hl => ?_)
                refine lv_iinc (v := nI (i + 1)) (lv' := [(5, .int (nI (i + 1))), (4, .int 0), (6, .int (rg ((3 * j) + i))), (0, .ref m0), (1, .int (nI j)), (2, .int bj), (3, .int (nI q))]) hx hb dX7_colouredBy_91 hl (k := 6) rfl (nI_1 i) (by decide) rfl (fun ls hl => ?_)
                refine lv_goto (tgt := 16) hx hb dX7_colouredBy_94 (by decide) ?_
                exact ih_16 (i + 1) 0 bj (by omega) hb12b _ _ _ (hP.sub [0, 1, 2, 3] rfl) (hD.sub [0, 1, 2, 3] rfl rfl) hS (lv_sub hl [3, 4, 5, 6, 1, 0] rfl)
              · skip
                refine lv_iconst (v := 1) hx hb dX7_colouredBy_84 (by decide) ?_
                refine lv_goto (tgt := 89) hx hb dX7_colouredBy_85 (by decide) ?_
                refine lv_istore (lv' := [(4, .int 1), (6, .int (rg ((3 * j) + i))), (0, .ref m0), (1, .int (nI j)), (2, .int bj), (3, .int (nI q)), (5, .int (nI i))]) hx hb dX7_colouredBy_89 hl (by decide) rfl (fun ls hl => ?_)
                refine lv_iinc (v := nI (i + 1)) (lv' := [(5, .int (nI (i + 1))), (4, .int 1), (6, .int (rg ((3 * j) + i))), (0, .ref m0), (1, .int (nI j)), (2, .int bj), (3, .int (nI q))]) hx hb dX7_colouredBy_91 hl (k := 6) rfl (nI_1 i) (by decide) rfl (fun ls hl => ?_)
                refine lv_goto (tgt := 16) hx hb dX7_colouredBy_94 (by decide) ?_
                exact ih_16 (i + 1) 1 bj (by omega) hb12b _ _ _ (hP.sub [0, 1, 2, 3] rfl) (hD.sub [0, 1, 2, 3] rfl rfl) hS (lv_sub hl [3, 4, 5, 6, 1, 0] rfl)
            · skip
              refine lv_iconst (v := 2) hx hb dX7_colouredBy_73 (by decide) ?_
              refine lv_goto (tgt := 78) hx hb dX7_colouredBy_74 (by decide) ?_
              refine xc_i (wc := []) (wr := [kX7 m0 (nI z) m1 (nI r9) m2 m3 m4 m5 (nI n9) (nI v) m6 k1 k2 k3 k4 m7 k5 k6 k7 k8 m8 m9 m10 k9 m11 m12 m13 hv, kI cI m3 9 re, kI cI m5 27 rg, kI cI m13 3 cn]) (xrS (n := 2) (As := [.int (cn i), .int 2]) (rest := []) hd hK hP hD (c_X7_has l D cI cJ cZ cR _ (cn i) 2 ) (gS t_671 mS_X7_has) hS_X7_has ⟨(Nat.le_of_ble_eq_true rfl), (Nat.le_of_ble_eq_true rfl)⟩ [] rfl rfl rfl hl.1 rfl (Nat.le_of_ble_eq_true rfl) dX7_colouredBy_78 ⟨(Nat.le_of_ble_eq_true rfl), (Nat.le_of_ble_eq_true rfl)⟩) hP hD hS hA [] [0, 1, 2, 3] rfl rfl rfl (by decide) (fun r_38 u_39 H locs hw_40 hP hD hS => ?_)
              have hw_41 : r_38 = (hR (cn i) 2) := hw_40
              subst hw_41
              have hP : va_P D vwCl [kX7 m0 (nI z) m1 (nI r9) m2 m3 m4 m5 (nI n9) (nI v) m6 k1 k2 k3 k4 m7 k5 k6 k7 k8 m8 m9 m10 k9 m11 m12 m13 hv, kI cI m3 9 re, kI cI m5 27 rg, kI cI m13 3 cn] H := hP
              have hD : va_D A [kX7 m0 (nI z) m1 (nI r9) m2 m3 m4 m5 (nI n9) (nI v) m6 k1 k2 k3 k4 m7 k5 k6 k7 k8 m8 m9 m10 k9 m11 m12 m13 hv, kI cI m3 9 re, kI cI m5 27 rg, kI cI m13 3 cn] := hD
              refine lv_if_eq (tgt := 88) hx hb dX7_colouredBy_81 (by decide) (fun c_42 => ?_) (fun c_42 => ?_)
              · skip
                refine lv_iconst (v := 0) hx hb dX7_colouredBy_88 (by decide) ?_
                refine lv_istore (lv' := [(4, .int 0), (6, .int (rg ((3 * j) + i))), (0, .ref m0), (1, .int (nI j)), (2, .int bj), (3, .int (nI q)), (5, .int (nI i))]) hx hb dX7_colouredBy_89 hl (by decide) rfl (fun ls hl => ?_)
                refine lv_iinc (v := nI (i + 1)) (lv' := [(5, .int (nI (i + 1))), (4, .int 0), (6, .int (rg ((3 * j) + i))), (0, .ref m0), (1, .int (nI j)), (2, .int bj), (3, .int (nI q))]) hx hb dX7_colouredBy_91 hl (k := 6) rfl (nI_1 i) (by decide) rfl (fun ls hl => ?_)
                refine lv_goto (tgt := 16) hx hb dX7_colouredBy_94 (by decide) ?_
                exact ih_16 (i + 1) 0 bj (by omega) hb12b _ _ _ (hP.sub [0, 1, 2, 3] rfl) (hD.sub [0, 1, 2, 3] rfl rfl) hS (lv_sub hl [3, 4, 5, 6, 1, 0] rfl)
              · skip
                refine lv_iconst (v := 1) hx hb dX7_colouredBy_84 (by decide) ?_
                refine lv_goto (tgt := 89) hx hb dX7_colouredBy_85 (by decide) ?_
                refine lv_istore (lv' := [(4, .int 1), (6, .int (rg ((3 * j) + i))), (0, .ref m0), (1, .int (nI j)), (2, .int bj), (3, .int (nI q)), (5, .int (nI i))]) hx hb dX7_colouredBy_89 hl (by decide) rfl (fun ls hl => ?_)
                refine lv_iinc (v := nI (i + 1)) (lv' := [(5, .int (nI (i + 1))), (4, .int 1), (6, .int (rg ((3 * j) + i))), (0, .ref m0), (1, .int (nI j)), (2, .int bj), (3, .int (nI q))]) hx hb dX7_colouredBy_91 hl (k := 6) rfl (nI_1 i) (by decide) rfl (fun ls hl => ?_)
                refine lv_goto (tgt := 16) hx hb dX7_colouredBy_94 (by decide) ?_
                exact ih_16 (i + 1) 1 bj (by omega) hb12b _ _ _ (hP.sub [0, 1, 2, 3] rfl) (hD.sub [0, 1, 2, 3] rfl rfl) hS (lv_sub hl [3, 4, 5, 6, 1, 0] rfl)
      exact LOOP_16 e9 0 1 bi (by omega) hb12 _ _ _ (hP.sub [0, 1, 2, 3] rfl) (hD.sub [0, 1, 2, 3] rfl rfl) hS (lv_sub hl [2, 3, 4, 5, 1, 0] rfl)
  exact LOOP_4 16 0 0 (by omega) (Or.inl rfl) _ _ _ (hP.sub [0, 1, 2, 3] rfl) (hD.sub [0, 1, 2, 3] rfl rfl) hS (lv_sub hl [2, 3, 1, 0] rfl)
set_option maxHeartbeats 4000000 in
set_option maxRecDepth 100000 in
theorem g_layLight_0 (sz : Nat) (m0 : Nat) (m1 : Nat) (m2 : Nat) (m3 : Nat) (m4 : Nat) (m5 : Nat) (m6 : Nat) (m7 : Nat) (m8 : Nat) (m9 : Nat) (m10 : Nat) (m11 : Nat) (m12 : Nat) (m13 : Nat) (z : Nat) (r9 : Nat) (n9 : Nat) (v : Nat) (k1 : Int32) (k2 : Int32) (k3 : Int32) (k4 : Int32) (k5 : Int32) (k6 : Int32) (k7 : Int32) (k8 : Int32) (k9 : Int32) (hv : Int64) (j : Nat) (e9 : Nat) (re : Nat → Int32) (rg : Nat → Int32) (cn : Nat → Int32) (ro : Nat → Int32) (fa : Nat → Int32) (la : Nat → Int64) (o9 : Nat) (p2 : Int64) (hj : j < 9) (hej : re j = nI e9) (he3 : e9 ≤ 3) (hoj : ro j = nI o9) (ho3 : o9 < 3) (hLR : LR la) (hp0 : 0 ≤ p2.toInt) : CTi l D cI cJ cZ cR yX7_layLight cX7_layLight 7 (some .boolean) 2 47 0 0 sz [.ref m0, .int (nI j), .long p2, .int 0] [kX7 m0 (nI z) m1 (nI r9) m2 m3 m4 m5 (nI n9) (nI v) m6 k1 k2 k3 k4 m7 k5 k6 k7 k8 m8 m9 m10 k9 m11 m12 m13 hv, kI cI m3 9 re, kI cI m5 27 rg, kI cI m13 3 cn, kI cI m2 9 ro, kJ cJ m11 80 la, kI cI m12 48 fa] (fun (r : Int32) (u : (Nat → Int64)) => (LD la u r)) (fun (u : (Nat → Int64)) => [kX7 m0 (nI z) m1 (nI r9) m2 m3 m4 m5 (nI n9) (nI v) m6 k1 k2 k3 k4 m7 k5 k6 k7 k8 m8 m9 m10 k9 m11 m12 m13 hv, kI cI m3 9 re, kI cI m5 27 rg, kI cI m13 3 cn, kI cI m2 9 ro, kJ cJ m11 80 u, kI cI m12 48 fa]) := by
  refine CTi.of (ty := .boolean) (by decide) (Nat.le_of_ble_eq_true rfl) rfl ?_
  intro p e s m below meth c A Q ls hd hin hK hsz hP hD hA hS hl hret
  obtain ⟨hx, hb, hml, hown, hts⟩ := id hd
  have hK1 := hK.1
  have hown : s.vm.findClass RX7 = some m.cls := hown
  have hl : lv_has ls 7 [(0, .ref m0), (1, .int (nI j)), (2, .long p2), (4, .int 0)] := hl
  refine lv_bipush (v := 16) hx hb dX7_layLight_0 (by decide) ?_
  refine lv_aload_n hx hb dX7_layLight_2 rfl (lv_at hl 0 rfl) ?_
  refine va_get (D := D) (ci := 7) (v := .ref m2) (C := RX7) (T := TX7) (N := 27) hx hb hts iT_X7 hown hK1 hP 0 rfl rfl 3 (by decide) (hts _ t_554) (fun _ h9 => h9) rfl dX7_layLight_3 ?_
  refine lv_iload_n hx hb dX7_layLight_6 rfl (lv_at hl 1 rfl) ?_
  refine va_iald hx hb hK1 hP 4 0 rfl rfl (vp_in_nI (by omega) (by omega)) dX7_layLight_7 ?_
  refine lv_nmi (show _ = ro j from by rw [nI_clamp (n := j) (by omega)]) ?_
  refine lv_nmi (show _ = (nI o9 : Int32) from hoj) ?_
  refine lv_imul hx hb dX7_layLight_8 ?_
  refine lv_nmi (show _ = (nI (16 * o9)) from pk_mul (16) (o9)) ?_
  refine lv_aload_n hx hb dX7_layLight_9 rfl (lv_at hl 0 rfl) ?_
  refine lv_iload_n hx hb dX7_layLight_10 rfl (lv_at hl 1 rfl) ?_
  refine lv_iconst (v := 0) hx hb dX7_layLight_11 (by decide) ?_
  refine xc_i (wc := [kX7 m0 (nI z) m1 (nI r9) m2 m3 m4 m5 (nI n9) (nI v) m6 k1 k2 k3 k4 m7 k5 k6 k7 k8 m8 m9 m10 k9 m11 m12 m13 hv, kI cI m3 9 re, kI cI m5 27 rg, kI cI m13 3 cn]) (wr := [kI cI m2 9 ro, kJ cJ m11 80 la, kI cI m12 48 fa]) (xrV (n := 2) (As := [.int (nI j), .int 0]) (rest := [.int (nI (16 * o9))]) (ci := 7) (q0 := 0) hd hK hP hD (g_leads_0 l D cI cJ cZ cR _ m0 m1 m2 m3 m4 m5 m6 m7 m8 m9 m10 m11 m12 m13 z r9 n9 v k1 k2 k3 k4 k5 k6 k7 k8 k9 hv j e9 re rg cn hj hej he3) (gV t_834 mV_X7_leads) hV_X7_leads ⟨(Nat.le_of_ble_eq_true rfl), (Nat.le_of_ble_eq_true rfl)⟩ rfl rfl [0, 1, 2, 3] rfl rfl rfl hl.1 rfl (Nat.le_of_ble_eq_true rfl) dX7_layLight_12 ⟨(Nat.le_of_ble_eq_true rfl), (Nat.le_of_ble_eq_true rfl)⟩) hP hD hS hA [0, 1, 2, 3] [4, 5, 6] rfl rfl rfl (by decide) (fun r_1 u_2 H locs hw_3 hP hD hS => ?_)
  have hP : va_P D vwCl [kI cI m2 9 ro, kJ cJ m11 80 la, kI cI m12 48 fa, kX7 m0 (nI z) m1 (nI r9) m2 m3 m4 m5 (nI n9) (nI v) m6 k1 k2 k3 k4 m7 k5 k6 k7 k8 m8 m9 m10 k9 m11 m12 m13 hv, kI cI m3 9 re, kI cI m5 27 rg, kI cI m13 3 cn] H := hP
  have hD : va_D A [kI cI m2 9 ro, kJ cJ m11 80 la, kI cI m12 48 fa, kX7 m0 (nI z) m1 (nI r9) m2 m3 m4 m5 (nI n9) (nI v) m6 k1 k2 k3 k4 m7 k5 k6 k7 k8 m8 m9 m10 k9 m11 m12 m13 hv, kI cI m3 9 re, kI cI m5 27 rg, kI cI m13 3 cn] := hD
  refine lv_if_eq (tgt := 22) hx hb dX7_layLight_15 (by decide) (fun c_4 => ?_) (fun c_4 => ?_)
  · skip
    refine lv_iconst (v := 0) hx hb dX7_layLight_22 (by decide) ?_
    refine lv_aload_n hx hb dX7_layLight_23 rfl (lv_at hl 0 rfl) ?_
    refine lv_iload_n hx hb dX7_layLight_24 rfl (lv_at hl 1 rfl) ?_
    refine lv_iconst (v := 1) hx hb dX7_layLight_25 (by decide) ?_
    refine xc_i (wc := [kX7 m0 (nI z) m1 (nI r9) m2 m3 m4 m5 (nI n9) (nI v) m6 k1 k2 k3 k4 m7 k5 k6 k7 k8 m8 m9 m10 k9 m11 m12 m13 hv, kI cI m3 9 re, kI cI m5 27 rg, kI cI m13 3 cn]) (wr := [kI cI m2 9 ro, kJ cJ m11 80 la, kI cI m12 48 fa]) (xrV (n := 2) (As := [.int (nI j), .int 1]) (rest := [.int 0, .int (nI (16 * o9))]) (ci := 7) (q0 := 3) hd hK hP hD (g_leads_1 l D cI cJ cZ cR _ m0 m1 m2 m3 m4 m5 m6 m7 m8 m9 m10 m11 m12 m13 z r9 n9 v k1 k2 k3 k4 k5 k6 k7 k8 k9 hv j e9 re rg cn hj hej he3) (gV t_834 mV_X7_leads) hV_X7_leads ⟨(Nat.le_of_ble_eq_true rfl), (Nat.le_of_ble_eq_true rfl)⟩ rfl rfl [3, 4, 5, 6] rfl rfl rfl hl.1 rfl (Nat.le_of_ble_eq_true rfl) dX7_layLight_26 ⟨(Nat.le_of_ble_eq_true rfl), (Nat.le_of_ble_eq_true rfl)⟩) hP hD hS hA [3, 4, 5, 6] [0, 1, 2] rfl rfl rfl (by decide) (fun r_5 u_6 H locs hw_7 hP hD hS => ?_)
    have hP : va_P D vwCl [kI cI m2 9 ro, kJ cJ m11 80 la, kI cI m12 48 fa, kX7 m0 (nI z) m1 (nI r9) m2 m3 m4 m5 (nI n9) (nI v) m6 k1 k2 k3 k4 m7 k5 k6 k7 k8 m8 m9 m10 k9 m11 m12 m13 hv, kI cI m3 9 re, kI cI m5 27 rg, kI cI m13 3 cn] H := hP
    have hD : va_D A [kI cI m2 9 ro, kJ cJ m11 80 la, kI cI m12 48 fa, kX7 m0 (nI z) m1 (nI r9) m2 m3 m4 m5 (nI n9) (nI v) m6 k1 k2 k3 k4 m7 k5 k6 k7 k8 m8 m9 m10 k9 m11 m12 m13 hv, kI cI m3 9 re, kI cI m5 27 rg, kI cI m13 3 cn] := hD
    refine lv_if_eq (tgt := 36) hx hb dX7_layLight_29 (by decide) (fun c_8 => ?_) (fun c_8 => ?_)
    · skip
      refine lv_iconst (v := 0) hx hb dX7_layLight_36 (by decide) ?_
      refine lv_ior hx hb dX7_layLight_37 ?_
      refine lv_nmi (show _ = (0 : Int32) from by decide +kernel) ?_
      refine lv_aload_n hx hb dX7_layLight_38 rfl (lv_at hl 0 rfl) ?_
      refine lv_iload_n hx hb dX7_layLight_39 rfl (lv_at hl 1 rfl) ?_
      refine xc_i (wc := [kX7 m0 (nI z) m1 (nI r9) m2 m3 m4 m5 (nI n9) (nI v) m6 k1 k2 k3 k4 m7 k5 k6 k7 k8 m8 m9 m10 k9 m11 m12 m13 hv, kI cI m3 9 re, kI cI m5 27 rg, kI cI m13 3 cn]) (wr := [kI cI m2 9 ro, kJ cJ m11 80 la, kI cI m12 48 fa]) (xrV (n := 1) (As := [.int (nI j)]) (rest := [.int 0, .int (nI (16 * o9))]) (ci := 7) (q0 := 3) hd hK hP hD (c_X7_colouredBy l D cI cJ cZ cR _ m0 m1 m2 m3 m4 m5 m6 m7 m8 m9 m10 m11 m12 m13 z r9 n9 v k1 k2 k3 k4 k5 k6 k7 k8 k9 hv j e9 re rg cn hj hej he3) (gV t_838 mV_X7_colouredBy) hV_X7_colouredBy ⟨(Nat.le_of_ble_eq_true rfl), (Nat.le_of_ble_eq_true rfl)⟩ rfl rfl [3, 4, 5, 6] rfl rfl rfl hl.1 rfl (Nat.le_of_ble_eq_true rfl) dX7_layLight_40 ⟨(Nat.le_of_ble_eq_true rfl), (Nat.le_of_ble_eq_true rfl)⟩) hP hD hS hA [3, 4, 5, 6] [0, 1, 2] rfl rfl rfl (by decide) (fun r_9 u_10 H locs hw_11 hP hD hS => ?_)
      have hw_12 : B12 r_9 := hw_11
      have hB := hw_12
      have hP : va_P D vwCl [kI cI m2 9 ro, kJ cJ m11 80 la, kI cI m12 48 fa, kX7 m0 (nI z) m1 (nI r9) m2 m3 m4 m5 (nI n9) (nI v) m6 k1 k2 k3 k4 m7 k5 k6 k7 k8 m8 m9 m10 k9 m11 m12 m13 hv, kI cI m3 9 re, kI cI m5 27 rg, kI cI m13 3 cn] H := hP
      have hD : va_D A [kI cI m2 9 ro, kJ cJ m11 80 la, kI cI m12 48 fa, kX7 m0 (nI z) m1 (nI r9) m2 m3 m4 m5 (nI n9) (nI v) m6 k1 k2 k3 k4 m7 k5 k6 k7 k8 m8 m9 m10 k9 m11 m12 m13 hv, kI cI m3 9 re, kI cI m5 27 rg, kI cI m13 3 cn] := hD
      obtain ⟨k16, hk16, ek16⟩ := or12 (c := 0) (by decide) hB
      refine lv_ior hx hb dX7_layLight_43 ?_
      refine lv_nmi (show _ = (nI k16 : Int32) from ek16) ?_
      refine lv_iadd hx hb dX7_layLight_44 ?_
      refine lv_nmi (show _ = (nI ((16 * o9) + k16)) from nI_add ((16 * o9)) (k16)) ?_
      refine lv_istore (lv' := [(5, .int (nI ((16 * o9) + k16))), (0, .ref m0), (1, .int (nI j)), (2, .long p2), (4, .int 0)]) hx hb dX7_layLight_45 hl (by decide) rfl (fun ls hl => ?_)
      refine lv_iload hx hb dX7_layLight_47 (lv_at hl 4 rfl) ?_
      refine lv_if_eq (tgt := 95) hx hb dX7_layLight_49 (by decide) (fun c_13 => ?_) (fun c_13 => ?_)
      rotate_left
      · exact absurd c_13 (by decide)
      refine lv_lload_n hx hb dX7_layLight_95 rfl (lv_at hl 3 rfl) ?_
      refine lv_aload_n hx hb dX7_layLight_96 rfl (lv_at hl 1 rfl) ?_
      refine va_get (D := D) (ci := 7) (v := .ref m11) (C := RX7) (T := TX7) (N := 27) hx hb hts iT_X7 hown hK1 hP 3 rfl rfl 23 (by decide) (hts _ t_574) (fun _ h9 => h9) rfl dX7_layLight_97 ?_
      refine lv_iload hx hb dX7_layLight_100 (lv_at hl 0 rfl) ?_
      refine va_lald hx hb hK1 hP 1 1 rfl rfl (vp_in_nI (by omega) (by omega)) dX7_layLight_102 ?_
      refine lv_nml (show _ = la ((16 * o9) + k16) from by rw [nI_clamp (n := ((16 * o9) + k16)) (by omega)]) ?_
      refine W.lcmp hx hb dX7_layLight_103 ?_
      refine lv_if_ge (tgt := 111) hx hb dX7_layLight_104 (by decide) (fun c_14 => ?_) (fun c_14 => ?_)
      · skip
        refine lv_iconst (v := 0) hx hb dX7_layLight_111 (by decide) ?_
        refine lv_istore (lv' := [(6, .int 0), (5, .int (nI ((16 * o9) + k16))), (0, .ref m0), (1, .int (nI j)), (2, .long p2), (4, .int 0)]) hx hb dX7_layLight_112 hl (by decide) rfl (fun ls hl => ?_)
        refine lv_aload_n hx hb dX7_layLight_114 rfl (lv_at hl 2 rfl) ?_
        refine va_get (D := D) (ci := 7) (v := .ref m11) (C := RX7) (T := TX7) (N := 27) hx hb hts iT_X7 hown hK1 hP 3 rfl rfl 23 (by decide) (hts _ t_574) (fun _ h9 => h9) rfl dX7_layLight_115 ?_
        refine lv_iload hx hb dX7_layLight_118 (lv_at hl 1 rfl) ?_
        refine lv_iload hx hb dX7_layLight_120 (lv_at hl 0 rfl) ?_
        refine lv_if_eq (tgt := 129) hx hb dX7_layLight_122 (by decide) (fun c_15 => ?_) (fun c_15 => ?_)
        rotate_left
        · exact absurd c_15 (by decide)
        refine lv_aload_n hx hb dX7_layLight_129 rfl (lv_at hl 2 rfl) ?_
        refine va_get (D := D) (ci := 7) (v := .ref m11) (C := RX7) (T := TX7) (N := 27) hx hb hts iT_X7 hown hK1 hP 3 rfl rfl 23 (by decide) (hts _ t_574) (fun _ h9 => h9) rfl dX7_layLight_130 ?_
        refine lv_iload hx hb dX7_layLight_133 (lv_at hl 1 rfl) ?_
        refine va_lald hx hb hK1 hP 1 1 rfl rfl (vp_in_nI (by omega) (by omega)) dX7_layLight_135 ?_
        refine lv_nml (show _ = la ((16 * o9) + k16) from by rw [nI_clamp (n := ((16 * o9) + k16)) (by omega)]) ?_
        refine va_last hx hb hK1 hP hD hS 1 1 rfl rfl (vp_in_nI (by omega) (by omega)) dX7_layLight_136 (fun H locs hP hD hS => ?_)
        rw [nI_clamp (n := ((16 * o9) + k16)) (by omega)] at hP hD
        have hP : va_P D vwCl [kI cI m2 9 ro, kJ cJ m11 80 (vp_updL la ((16 * o9) + k16) (la ((16 * o9) + k16))), kI cI m12 48 fa, kX7 m0 (nI z) m1 (nI r9) m2 m3 m4 m5 (nI n9) (nI v) m6 k1 k2 k3 k4 m7 k5 k6 k7 k8 m8 m9 m10 k9 m11 m12 m13 hv, kI cI m3 9 re, kI cI m5 27 rg, kI cI m13 3 cn] H := hP
        have hD : va_D A [kI cI m2 9 ro, kJ cJ m11 80 (vp_updL la ((16 * o9) + k16) (la ((16 * o9) + k16))), kI cI m12 48 fa, kX7 m0 (nI z) m1 (nI r9) m2 m3 m4 m5 (nI n9) (nI v) m6 k1 k2 k3 k4 m7 k5 k6 k7 k8 m8 m9 m10 k9 m11 m12 m13 hv, kI cI m3 9 re, kI cI m5 27 rg, kI cI m13 3 cn] := hD
        refine lv_iload hx hb dX7_layLight_137 (lv_at hl 0 rfl) ?_
        exact hret _ _ _ _ _ _ 0 (vp_updL la ((16 * o9) + k16) (la ((16 * o9) + k16))) dX7_layLight_139 rfl hS (Nat.le_of_ble_eq_true rfl) (Nat.le_of_ble_eq_true rfl) (by rw [upd_self]; exact LD_no hLR) (hP.sub [3, 4, 5, 6, 0, 1, 2] rfl) (hD.sub [3, 4, 5, 6, 0, 1, 2] rfl rfl)
      · skip
        refine lv_iconst (v := 1) hx hb dX7_layLight_107 (by decide) ?_
        refine lv_goto (tgt := 112) hx hb dX7_layLight_108 (by decide) ?_
        refine lv_istore (lv' := [(6, .int 1), (5, .int (nI ((16 * o9) + k16))), (0, .ref m0), (1, .int (nI j)), (2, .long p2), (4, .int 0)]) hx hb dX7_layLight_112 hl (by decide) rfl (fun ls hl => ?_)
        refine lv_aload_n hx hb dX7_layLight_114 rfl (lv_at hl 2 rfl) ?_
        refine va_get (D := D) (ci := 7) (v := .ref m11) (C := RX7) (T := TX7) (N := 27) hx hb hts iT_X7 hown hK1 hP 3 rfl rfl 23 (by decide) (hts _ t_574) (fun _ h9 => h9) rfl dX7_layLight_115 ?_
        refine lv_iload hx hb dX7_layLight_118 (lv_at hl 1 rfl) ?_
        refine lv_iload hx hb dX7_layLight_120 (lv_at hl 0 rfl) ?_
        refine lv_if_eq (tgt := 129) hx hb dX7_layLight_122 (by decide) (fun c_16 => ?_) (fun c_16 => ?_)
        · exact absurd c_16 (by decide)
        refine lv_lload_n hx hb dX7_layLight_125 rfl (lv_at hl 4 rfl) ?_
        refine lv_goto (tgt := 136) hx hb dX7_layLight_126 (by decide) ?_
        refine va_last hx hb hK1 hP hD hS 1 1 rfl rfl (vp_in_nI (by omega) (by omega)) dX7_layLight_136 (fun H locs hP hD hS => ?_)
        rw [nI_clamp (n := ((16 * o9) + k16)) (by omega)] at hP hD
        have hP : va_P D vwCl [kI cI m2 9 ro, kJ cJ m11 80 (vp_updL la ((16 * o9) + k16) p2), kI cI m12 48 fa, kX7 m0 (nI z) m1 (nI r9) m2 m3 m4 m5 (nI n9) (nI v) m6 k1 k2 k3 k4 m7 k5 k6 k7 k8 m8 m9 m10 k9 m11 m12 m13 hv, kI cI m3 9 re, kI cI m5 27 rg, kI cI m13 3 cn] H := hP
        have hD : va_D A [kI cI m2 9 ro, kJ cJ m11 80 (vp_updL la ((16 * o9) + k16) p2), kI cI m12 48 fa, kX7 m0 (nI z) m1 (nI r9) m2 m3 m4 m5 (nI n9) (nI v) m6 k1 k2 k3 k4 m7 k5 k6 k7 k8 m8 m9 m10 k9 m11 m12 m13 hv, kI cI m3 9 re, kI cI m5 27 rg, kI cI m13 3 cn] := hD
        refine lv_iload hx hb dX7_layLight_137 (lv_at hl 0 rfl) ?_
        exact hret _ _ _ _ _ _ 1 (vp_updL la ((16 * o9) + k16) p2) dX7_layLight_139 rfl hS (Nat.le_of_ble_eq_true rfl) (Nat.le_of_ble_eq_true rfl) (LD_yes hLR (by omega) hp0 c_14) (hP.sub [3, 4, 5, 6, 0, 1, 2] rfl) (hD.sub [3, 4, 5, 6, 0, 1, 2] rfl rfl)
    · skip
      refine lv_iconst (v := 2) hx hb dX7_layLight_32 (by decide) ?_
      refine lv_goto (tgt := 37) hx hb dX7_layLight_33 (by decide) ?_
      refine lv_ior hx hb dX7_layLight_37 ?_
      refine lv_nmi (show _ = (2 : Int32) from by decide +kernel) ?_
      refine lv_aload_n hx hb dX7_layLight_38 rfl (lv_at hl 0 rfl) ?_
      refine lv_iload_n hx hb dX7_layLight_39 rfl (lv_at hl 1 rfl) ?_
      refine xc_i (wc := [kX7 m0 (nI z) m1 (nI r9) m2 m3 m4 m5 (nI n9) (nI v) m6 k1 k2 k3 k4 m7 k5 k6 k7 k8 m8 m9 m10 k9 m11 m12 m13 hv, kI cI m3 9 re, kI cI m5 27 rg, kI cI m13 3 cn]) (wr := [kI cI m2 9 ro, kJ cJ m11 80 la, kI cI m12 48 fa]) (xrV (n := 1) (As := [.int (nI j)]) (rest := [.int 2, .int (nI (16 * o9))]) (ci := 7) (q0 := 3) hd hK hP hD (c_X7_colouredBy l D cI cJ cZ cR _ m0 m1 m2 m3 m4 m5 m6 m7 m8 m9 m10 m11 m12 m13 z r9 n9 v k1 k2 k3 k4 k5 k6 k7 k8 k9 hv j e9 re rg cn hj hej he3) (gV t_838 mV_X7_colouredBy) hV_X7_colouredBy ⟨(Nat.le_of_ble_eq_true rfl), (Nat.le_of_ble_eq_true rfl)⟩ rfl rfl [3, 4, 5, 6] rfl rfl rfl hl.1 rfl (Nat.le_of_ble_eq_true rfl) dX7_layLight_40 ⟨(Nat.le_of_ble_eq_true rfl), (Nat.le_of_ble_eq_true rfl)⟩) hP hD hS hA [3, 4, 5, 6] [0, 1, 2] rfl rfl rfl (by decide) (fun r_17 u_18 H locs hw_19 hP hD hS => ?_)
      have hw_20 : B12 r_17 := hw_19
      have hB := hw_20
      have hP : va_P D vwCl [kI cI m2 9 ro, kJ cJ m11 80 la, kI cI m12 48 fa, kX7 m0 (nI z) m1 (nI r9) m2 m3 m4 m5 (nI n9) (nI v) m6 k1 k2 k3 k4 m7 k5 k6 k7 k8 m8 m9 m10 k9 m11 m12 m13 hv, kI cI m3 9 re, kI cI m5 27 rg, kI cI m13 3 cn] H := hP
      have hD : va_D A [kI cI m2 9 ro, kJ cJ m11 80 la, kI cI m12 48 fa, kX7 m0 (nI z) m1 (nI r9) m2 m3 m4 m5 (nI n9) (nI v) m6 k1 k2 k3 k4 m7 k5 k6 k7 k8 m8 m9 m10 k9 m11 m12 m13 hv, kI cI m3 9 re, kI cI m5 27 rg, kI cI m13 3 cn] := hD
      obtain ⟨k16, hk16, ek16⟩ := or12 (c := 2) (by decide) hB
      refine lv_ior hx hb dX7_layLight_43 ?_
      refine lv_nmi (show _ = (nI k16 : Int32) from ek16) ?_
      refine lv_iadd hx hb dX7_layLight_44 ?_
      refine lv_nmi (show _ = (nI ((16 * o9) + k16)) from nI_add ((16 * o9)) (k16)) ?_
      refine lv_istore (lv' := [(5, .int (nI ((16 * o9) + k16))), (0, .ref m0), (1, .int (nI j)), (2, .long p2), (4, .int 0)]) hx hb dX7_layLight_45 hl (by decide) rfl (fun ls hl => ?_)
      refine lv_iload hx hb dX7_layLight_47 (lv_at hl 4 rfl) ?_
      refine lv_if_eq (tgt := 95) hx hb dX7_layLight_49 (by decide) (fun c_21 => ?_) (fun c_21 => ?_)
      rotate_left
      · exact absurd c_21 (by decide)
      refine lv_lload_n hx hb dX7_layLight_95 rfl (lv_at hl 3 rfl) ?_
      refine lv_aload_n hx hb dX7_layLight_96 rfl (lv_at hl 1 rfl) ?_
      refine va_get (D := D) (ci := 7) (v := .ref m11) (C := RX7) (T := TX7) (N := 27) hx hb hts iT_X7 hown hK1 hP 3 rfl rfl 23 (by decide) (hts _ t_574) (fun _ h9 => h9) rfl dX7_layLight_97 ?_
      refine lv_iload hx hb dX7_layLight_100 (lv_at hl 0 rfl) ?_
      refine va_lald hx hb hK1 hP 1 1 rfl rfl (vp_in_nI (by omega) (by omega)) dX7_layLight_102 ?_
      refine lv_nml (show _ = la ((16 * o9) + k16) from by rw [nI_clamp (n := ((16 * o9) + k16)) (by omega)]) ?_
      refine W.lcmp hx hb dX7_layLight_103 ?_
      refine lv_if_ge (tgt := 111) hx hb dX7_layLight_104 (by decide) (fun c_22 => ?_) (fun c_22 => ?_)
      · skip
        refine lv_iconst (v := 0) hx hb dX7_layLight_111 (by decide) ?_
        refine lv_istore (lv' := [(6, .int 0), (5, .int (nI ((16 * o9) + k16))), (0, .ref m0), (1, .int (nI j)), (2, .long p2), (4, .int 0)]) hx hb dX7_layLight_112 hl (by decide) rfl (fun ls hl => ?_)
        refine lv_aload_n hx hb dX7_layLight_114 rfl (lv_at hl 2 rfl) ?_
        refine va_get (D := D) (ci := 7) (v := .ref m11) (C := RX7) (T := TX7) (N := 27) hx hb hts iT_X7 hown hK1 hP 3 rfl rfl 23 (by decide) (hts _ t_574) (fun _ h9 => h9) rfl dX7_layLight_115 ?_
        refine lv_iload hx hb dX7_layLight_118 (lv_at hl 1 rfl) ?_
        refine lv_iload hx hb dX7_layLight_120 (lv_at hl 0 rfl) ?_
        refine lv_if_eq (tgt := 129) hx hb dX7_layLight_122 (by decide) (fun c_23 => ?_) (fun c_23 => ?_)
        rotate_left
        · exact absurd c_23 (by decide)
        refine lv_aload_n hx hb dX7_layLight_129 rfl (lv_at hl 2 rfl) ?_
        refine va_get (D := D) (ci := 7) (v := .ref m11) (C := RX7) (T := TX7) (N := 27) hx hb hts iT_X7 hown hK1 hP 3 rfl rfl 23 (by decide) (hts _ t_574) (fun _ h9 => h9) rfl dX7_layLight_130 ?_
        refine lv_iload hx hb dX7_layLight_133 (lv_at hl 1 rfl) ?_
        refine va_lald hx hb hK1 hP 1 1 rfl rfl (vp_in_nI (by omega) (by omega)) dX7_layLight_135 ?_
        refine lv_nml (show _ = la ((16 * o9) + k16) from by rw [nI_clamp (n := ((16 * o9) + k16)) (by omega)]) ?_
        refine va_last hx hb hK1 hP hD hS 1 1 rfl rfl (vp_in_nI (by omega) (by omega)) dX7_layLight_136 (fun H locs hP hD hS => ?_)
        rw [nI_clamp (n := ((16 * o9) + k16)) (by omega)] at hP hD
        have hP : va_P D vwCl [kI cI m2 9 ro, kJ cJ m11 80 (vp_updL la ((16 * o9) + k16) (la ((16 * o9) + k16))), kI cI m12 48 fa, kX7 m0 (nI z) m1 (nI r9) m2 m3 m4 m5 (nI n9) (nI v) m6 k1 k2 k3 k4 m7 k5 k6 k7 k8 m8 m9 m10 k9 m11 m12 m13 hv, kI cI m3 9 re, kI cI m5 27 rg, kI cI m13 3 cn] H := hP
        have hD : va_D A [kI cI m2 9 ro, kJ cJ m11 80 (vp_updL la ((16 * o9) + k16) (la ((16 * o9) + k16))), kI cI m12 48 fa, kX7 m0 (nI z) m1 (nI r9) m2 m3 m4 m5 (nI n9) (nI v) m6 k1 k2 k3 k4 m7 k5 k6 k7 k8 m8 m9 m10 k9 m11 m12 m13 hv, kI cI m3 9 re, kI cI m5 27 rg, kI cI m13 3 cn] := hD
        refine lv_iload hx hb dX7_layLight_137 (lv_at hl 0 rfl) ?_
        exact hret _ _ _ _ _ _ 0 (vp_updL la ((16 * o9) + k16) (la ((16 * o9) + k16))) dX7_layLight_139 rfl hS (Nat.le_of_ble_eq_true rfl) (Nat.le_of_ble_eq_true rfl) (by rw [upd_self]; exact LD_no hLR) (hP.sub [3, 4, 5, 6, 0, 1, 2] rfl) (hD.sub [3, 4, 5, 6, 0, 1, 2] rfl rfl)
      · skip
        refine lv_iconst (v := 1) hx hb dX7_layLight_107 (by decide) ?_
        refine lv_goto (tgt := 112) hx hb dX7_layLight_108 (by decide) ?_
        refine lv_istore (lv' := [(6, .int 1), (5, .int (nI ((16 * o9) + k16))), (0, .ref m0), (1, .int (nI j)), (2, .long p2), (4, .int 0)]) hx hb dX7_layLight_112 hl (by decide) rfl (fun ls hl => ?_)
        refine lv_aload_n hx hb dX7_layLight_114 rfl (lv_at hl 2 rfl) ?_
        refine va_get (D := D) (ci := 7) (v := .ref m11) (C := RX7) (T := TX7) (N := 27) hx hb hts iT_X7 hown hK1 hP 3 rfl rfl 23 (by decide) (hts _ t_574) (fun _ h9 => h9) rfl dX7_layLight_115 ?_
        refine lv_iload hx hb dX7_layLight_118 (lv_at hl 1 rfl) ?_
        refine lv_iload hx hb dX7_layLight_120 (lv_at hl 0 rfl) ?_
        refine lv_if_eq (tgt := 129) hx hb dX7_layLight_122 (by decide) (fun c_24 => ?_) (fun c_24 => ?_)
        · exact absurd c_24 (by decide)
        refine lv_lload_n hx hb dX7_layLight_125 rfl (lv_at hl 4 rfl) ?_
        refine lv_goto (tgt := 136) hx hb dX7_layLight_126 (by decide) ?_
        refine va_last hx hb hK1 hP hD hS 1 1 rfl rfl (vp_in_nI (by omega) (by omega)) dX7_layLight_136 (fun H locs hP hD hS => ?_)
        rw [nI_clamp (n := ((16 * o9) + k16)) (by omega)] at hP hD
        have hP : va_P D vwCl [kI cI m2 9 ro, kJ cJ m11 80 (vp_updL la ((16 * o9) + k16) p2), kI cI m12 48 fa, kX7 m0 (nI z) m1 (nI r9) m2 m3 m4 m5 (nI n9) (nI v) m6 k1 k2 k3 k4 m7 k5 k6 k7 k8 m8 m9 m10 k9 m11 m12 m13 hv, kI cI m3 9 re, kI cI m5 27 rg, kI cI m13 3 cn] H := hP
        have hD : va_D A [kI cI m2 9 ro, kJ cJ m11 80 (vp_updL la ((16 * o9) + k16) p2), kI cI m12 48 fa, kX7 m0 (nI z) m1 (nI r9) m2 m3 m4 m5 (nI n9) (nI v) m6 k1 k2 k3 k4 m7 k5 k6 k7 k8 m8 m9 m10 k9 m11 m12 m13 hv, kI cI m3 9 re, kI cI m5 27 rg, kI cI m13 3 cn] := hD
        refine lv_iload hx hb dX7_layLight_137 (lv_at hl 0 rfl) ?_
        exact hret _ _ _ _ _ _ 1 (vp_updL la ((16 * o9) + k16) p2) dX7_layLight_139 rfl hS (Nat.le_of_ble_eq_true rfl) (Nat.le_of_ble_eq_true rfl) (LD_yes hLR (by omega) hp0 c_22) (hP.sub [3, 4, 5, 6, 0, 1, 2] rfl) (hD.sub [3, 4, 5, 6, 0, 1, 2] rfl rfl)
  · skip
    refine lv_iconst (v := 1) hx hb dX7_layLight_18 (by decide) ?_
    refine lv_goto (tgt := 23) hx hb dX7_layLight_19 (by decide) ?_
    refine lv_aload_n hx hb dX7_layLight_23 rfl (lv_at hl 0 rfl) ?_
    refine lv_iload_n hx hb dX7_layLight_24 rfl (lv_at hl 1 rfl) ?_
    refine lv_iconst (v := 1) hx hb dX7_layLight_25 (by decide) ?_
    refine xc_i (wc := [kX7 m0 (nI z) m1 (nI r9) m2 m3 m4 m5 (nI n9) (nI v) m6 k1 k2 k3 k4 m7 k5 k6 k7 k8 m8 m9 m10 k9 m11 m12 m13 hv, kI cI m3 9 re, kI cI m5 27 rg, kI cI m13 3 cn]) (wr := [kI cI m2 9 ro, kJ cJ m11 80 la, kI cI m12 48 fa]) (xrV (n := 2) (As := [.int (nI j), .int 1]) (rest := [.int 1, .int (nI (16 * o9))]) (ci := 7) (q0 := 3) hd hK hP hD (g_leads_1 l D cI cJ cZ cR _ m0 m1 m2 m3 m4 m5 m6 m7 m8 m9 m10 m11 m12 m13 z r9 n9 v k1 k2 k3 k4 k5 k6 k7 k8 k9 hv j e9 re rg cn hj hej he3) (gV t_834 mV_X7_leads) hV_X7_leads ⟨(Nat.le_of_ble_eq_true rfl), (Nat.le_of_ble_eq_true rfl)⟩ rfl rfl [3, 4, 5, 6] rfl rfl rfl hl.1 rfl (Nat.le_of_ble_eq_true rfl) dX7_layLight_26 ⟨(Nat.le_of_ble_eq_true rfl), (Nat.le_of_ble_eq_true rfl)⟩) hP hD hS hA [3, 4, 5, 6] [0, 1, 2] rfl rfl rfl (by decide) (fun r_25 u_26 H locs hw_27 hP hD hS => ?_)
    have hP : va_P D vwCl [kI cI m2 9 ro, kJ cJ m11 80 la, kI cI m12 48 fa, kX7 m0 (nI z) m1 (nI r9) m2 m3 m4 m5 (nI n9) (nI v) m6 k1 k2 k3 k4 m7 k5 k6 k7 k8 m8 m9 m10 k9 m11 m12 m13 hv, kI cI m3 9 re, kI cI m5 27 rg, kI cI m13 3 cn] H := hP
    have hD : va_D A [kI cI m2 9 ro, kJ cJ m11 80 la, kI cI m12 48 fa, kX7 m0 (nI z) m1 (nI r9) m2 m3 m4 m5 (nI n9) (nI v) m6 k1 k2 k3 k4 m7 k5 k6 k7 k8 m8 m9 m10 k9 m11 m12 m13 hv, kI cI m3 9 re, kI cI m5 27 rg, kI cI m13 3 cn] := hD
    refine lv_if_eq (tgt := 36) hx hb dX7_layLight_29 (by decide) (fun c_28 => ?_) (fun c_28 => ?_)
    · skip
      refine lv_iconst (v := 0) hx hb dX7_layLight_36 (by decide) ?_
      refine lv_ior hx hb dX7_layLight_37 ?_
      refine lv_nmi (show _ = (1 : Int32) from by decide +kernel) ?_
      refine lv_aload_n hx hb dX7_layLight_38 rfl (lv_at hl 0 rfl) ?_
      refine lv_iload_n hx hb dX7_layLight_39 rfl (lv_at hl 1 rfl) ?_
      refine xc_i (wc := [kX7 m0 (nI z) m1 (nI r9) m2 m3 m4 m5 (nI n9) (nI v) m6 k1 k2 k3 k4 m7 k5 k6 k7 k8 m8 m9 m10 k9 m11 m12 m13 hv, kI cI m3 9 re, kI cI m5 27 rg, kI cI m13 3 cn]) (wr := [kI cI m2 9 ro, kJ cJ m11 80 la, kI cI m12 48 fa]) (xrV (n := 1) (As := [.int (nI j)]) (rest := [.int 1, .int (nI (16 * o9))]) (ci := 7) (q0 := 3) hd hK hP hD (c_X7_colouredBy l D cI cJ cZ cR _ m0 m1 m2 m3 m4 m5 m6 m7 m8 m9 m10 m11 m12 m13 z r9 n9 v k1 k2 k3 k4 k5 k6 k7 k8 k9 hv j e9 re rg cn hj hej he3) (gV t_838 mV_X7_colouredBy) hV_X7_colouredBy ⟨(Nat.le_of_ble_eq_true rfl), (Nat.le_of_ble_eq_true rfl)⟩ rfl rfl [3, 4, 5, 6] rfl rfl rfl hl.1 rfl (Nat.le_of_ble_eq_true rfl) dX7_layLight_40 ⟨(Nat.le_of_ble_eq_true rfl), (Nat.le_of_ble_eq_true rfl)⟩) hP hD hS hA [3, 4, 5, 6] [0, 1, 2] rfl rfl rfl (by decide) (fun r_29 u_30 H locs hw_31 hP hD hS => ?_)
      have hw_32 : B12 r_29 := hw_31
      have hB := hw_32
      have hP : va_P D vwCl [kI cI m2 9 ro, kJ cJ m11 80 la, kI cI m12 48 fa, kX7 m0 (nI z) m1 (nI r9) m2 m3 m4 m5 (nI n9) (nI v) m6 k1 k2 k3 k4 m7 k5 k6 k7 k8 m8 m9 m10 k9 m11 m12 m13 hv, kI cI m3 9 re, kI cI m5 27 rg, kI cI m13 3 cn] H := hP
      have hD : va_D A [kI cI m2 9 ro, kJ cJ m11 80 la, kI cI m12 48 fa, kX7 m0 (nI z) m1 (nI r9) m2 m3 m4 m5 (nI n9) (nI v) m6 k1 k2 k3 k4 m7 k5 k6 k7 k8 m8 m9 m10 k9 m11 m12 m13 hv, kI cI m3 9 re, kI cI m5 27 rg, kI cI m13 3 cn] := hD
      obtain ⟨k16, hk16, ek16⟩ := or12 (c := 1) (by decide) hB
      refine lv_ior hx hb dX7_layLight_43 ?_
      refine lv_nmi (show _ = (nI k16 : Int32) from ek16) ?_
      refine lv_iadd hx hb dX7_layLight_44 ?_
      refine lv_nmi (show _ = (nI ((16 * o9) + k16)) from nI_add ((16 * o9)) (k16)) ?_
      refine lv_istore (lv' := [(5, .int (nI ((16 * o9) + k16))), (0, .ref m0), (1, .int (nI j)), (2, .long p2), (4, .int 0)]) hx hb dX7_layLight_45 hl (by decide) rfl (fun ls hl => ?_)
      refine lv_iload hx hb dX7_layLight_47 (lv_at hl 4 rfl) ?_
      refine lv_if_eq (tgt := 95) hx hb dX7_layLight_49 (by decide) (fun c_33 => ?_) (fun c_33 => ?_)
      rotate_left
      · exact absurd c_33 (by decide)
      refine lv_lload_n hx hb dX7_layLight_95 rfl (lv_at hl 3 rfl) ?_
      refine lv_aload_n hx hb dX7_layLight_96 rfl (lv_at hl 1 rfl) ?_
      refine va_get (D := D) (ci := 7) (v := .ref m11) (C := RX7) (T := TX7) (N := 27) hx hb hts iT_X7 hown hK1 hP 3 rfl rfl 23 (by decide) (hts _ t_574) (fun _ h9 => h9) rfl dX7_layLight_97 ?_
      refine lv_iload hx hb dX7_layLight_100 (lv_at hl 0 rfl) ?_
      refine va_lald hx hb hK1 hP 1 1 rfl rfl (vp_in_nI (by omega) (by omega)) dX7_layLight_102 ?_
      refine lv_nml (show _ = la ((16 * o9) + k16) from by rw [nI_clamp (n := ((16 * o9) + k16)) (by omega)]) ?_
      refine W.lcmp hx hb dX7_layLight_103 ?_
      refine lv_if_ge (tgt := 111) hx hb dX7_layLight_104 (by decide) (fun c_34 => ?_) (fun c_34 => ?_)
      · skip
        refine lv_iconst (v := 0) hx hb dX7_layLight_111 (by decide) ?_
        refine lv_istore (lv' := [(6, .int 0), (5, .int (nI ((16 * o9) + k16))), (0, .ref m0), (1, .int (nI j)), (2, .long p2), (4, .int 0)]) hx hb dX7_layLight_112 hl (by decide) rfl (fun ls hl => ?_)
        refine lv_aload_n hx hb dX7_layLight_114 rfl (lv_at hl 2 rfl) ?_
        refine va_get (D := D) (ci := 7) (v := .ref m11) (C := RX7) (T := TX7) (N := 27) hx hb hts iT_X7 hown hK1 hP 3 rfl rfl 23 (by decide) (hts _ t_574) (fun _ h9 => h9) rfl dX7_layLight_115 ?_
        refine lv_iload hx hb dX7_layLight_118 (lv_at hl 1 rfl) ?_
        refine lv_iload hx hb dX7_layLight_120 (lv_at hl 0 rfl) ?_
        refine lv_if_eq (tgt := 129) hx hb dX7_layLight_122 (by decide) (fun c_35 => ?_) (fun c_35 => ?_)
        rotate_left
        · exact absurd c_35 (by decide)
        refine lv_aload_n hx hb dX7_layLight_129 rfl (lv_at hl 2 rfl) ?_
        refine va_get (D := D) (ci := 7) (v := .ref m11) (C := RX7) (T := TX7) (N := 27) hx hb hts iT_X7 hown hK1 hP 3 rfl rfl 23 (by decide) (hts _ t_574) (fun _ h9 => h9) rfl dX7_layLight_130 ?_
        refine lv_iload hx hb dX7_layLight_133 (lv_at hl 1 rfl) ?_
        refine va_lald hx hb hK1 hP 1 1 rfl rfl (vp_in_nI (by omega) (by omega)) dX7_layLight_135 ?_
        refine lv_nml (show _ = la ((16 * o9) + k16) from by rw [nI_clamp (n := ((16 * o9) + k16)) (by omega)]) ?_
        refine va_last hx hb hK1 hP hD hS 1 1 rfl rfl (vp_in_nI (by omega) (by omega)) dX7_layLight_136 (fun H locs hP hD hS => ?_)
        rw [nI_clamp (n := ((16 * o9) + k16)) (by omega)] at hP hD
        have hP : va_P D vwCl [kI cI m2 9 ro, kJ cJ m11 80 (vp_updL la ((16 * o9) + k16) (la ((16 * o9) + k16))), kI cI m12 48 fa, kX7 m0 (nI z) m1 (nI r9) m2 m3 m4 m5 (nI n9) (nI v) m6 k1 k2 k3 k4 m7 k5 k6 k7 k8 m8 m9 m10 k9 m11 m12 m13 hv, kI cI m3 9 re, kI cI m5 27 rg, kI cI m13 3 cn] H := hP
        have hD : va_D A [kI cI m2 9 ro, kJ cJ m11 80 (vp_updL la ((16 * o9) + k16) (la ((16 * o9) + k16))), kI cI m12 48 fa, kX7 m0 (nI z) m1 (nI r9) m2 m3 m4 m5 (nI n9) (nI v) m6 k1 k2 k3 k4 m7 k5 k6 k7 k8 m8 m9 m10 k9 m11 m12 m13 hv, kI cI m3 9 re, kI cI m5 27 rg, kI cI m13 3 cn] := hD
        refine lv_iload hx hb dX7_layLight_137 (lv_at hl 0 rfl) ?_
        exact hret _ _ _ _ _ _ 0 (vp_updL la ((16 * o9) + k16) (la ((16 * o9) + k16))) dX7_layLight_139 rfl hS (Nat.le_of_ble_eq_true rfl) (Nat.le_of_ble_eq_true rfl) (by rw [upd_self]; exact LD_no hLR) (hP.sub [3, 4, 5, 6, 0, 1, 2] rfl) (hD.sub [3, 4, 5, 6, 0, 1, 2] rfl rfl)
      · skip
        refine lv_iconst (v := 1) hx hb dX7_layLight_107 (by decide) ?_
        refine lv_goto (tgt := 112) hx hb dX7_layLight_108 (by decide) ?_
        refine lv_istore (lv' := [(6, .int 1), (5, .int (nI ((16 * o9) + k16))), (0, .ref m0), (1, .int (nI j)), (2, .long p2), (4, .int 0)]) hx hb dX7_layLight_112 hl (by decide) rfl (fun ls hl => ?_)
        refine lv_aload_n hx hb dX7_layLight_114 rfl (lv_at hl 2 rfl) ?_
        refine va_get (D := D) (ci := 7) (v := .ref m11) (C := RX7) (T := TX7) (N := 27) hx hb hts iT_X7 hown hK1 hP 3 rfl rfl 23 (by decide) (hts _ t_574) (fun _ h9 => h9) rfl dX7_layLight_115 ?_
        refine lv_iload hx hb dX7_layLight_118 (lv_at hl 1 rfl) ?_
        refine lv_iload hx hb dX7_layLight_120 (lv_at hl 0 rfl) ?_
        refine lv_if_eq (tgt := 129) hx hb dX7_layLight_122 (by decide) (fun c_36 => ?_) (fun c_36 => ?_)
        · exact absurd c_36 (by decide)
        refine lv_lload_n hx hb dX7_layLight_125 rfl (lv_at hl 4 rfl) ?_
        refine lv_goto (tgt := 136) hx hb dX7_layLight_126 (by decide) ?_
        refine va_last hx hb hK1 hP hD hS 1 1 rfl rfl (vp_in_nI (by omega) (by omega)) dX7_layLight_136 (fun H locs hP hD hS => ?_)
        rw [nI_clamp (n := ((16 * o9) + k16)) (by omega)] at hP hD
        have hP : va_P D vwCl [kI cI m2 9 ro, kJ cJ m11 80 (vp_updL la ((16 * o9) + k16) p2), kI cI m12 48 fa, kX7 m0 (nI z) m1 (nI r9) m2 m3 m4 m5 (nI n9) (nI v) m6 k1 k2 k3 k4 m7 k5 k6 k7 k8 m8 m9 m10 k9 m11 m12 m13 hv, kI cI m3 9 re, kI cI m5 27 rg, kI cI m13 3 cn] H := hP
        have hD : va_D A [kI cI m2 9 ro, kJ cJ m11 80 (vp_updL la ((16 * o9) + k16) p2), kI cI m12 48 fa, kX7 m0 (nI z) m1 (nI r9) m2 m3 m4 m5 (nI n9) (nI v) m6 k1 k2 k3 k4 m7 k5 k6 k7 k8 m8 m9 m10 k9 m11 m12 m13 hv, kI cI m3 9 re, kI cI m5 27 rg, kI cI m13 3 cn] := hD
        refine lv_iload hx hb dX7_layLight_137 (lv_at hl 0 rfl) ?_
        exact hret _ _ _ _ _ _ 1 (vp_updL la ((16 * o9) + k16) p2) dX7_layLight_139 rfl hS (Nat.le_of_ble_eq_true rfl) (Nat.le_of_ble_eq_true rfl) (LD_yes hLR (by omega) hp0 c_34) (hP.sub [3, 4, 5, 6, 0, 1, 2] rfl) (hD.sub [3, 4, 5, 6, 0, 1, 2] rfl rfl)
    · skip
      refine lv_iconst (v := 2) hx hb dX7_layLight_32 (by decide) ?_
      refine lv_goto (tgt := 37) hx hb dX7_layLight_33 (by decide) ?_
      refine lv_ior hx hb dX7_layLight_37 ?_
      refine lv_nmi (show _ = (3 : Int32) from by decide +kernel) ?_
      refine lv_aload_n hx hb dX7_layLight_38 rfl (lv_at hl 0 rfl) ?_
      refine lv_iload_n hx hb dX7_layLight_39 rfl (lv_at hl 1 rfl) ?_
      refine xc_i (wc := [kX7 m0 (nI z) m1 (nI r9) m2 m3 m4 m5 (nI n9) (nI v) m6 k1 k2 k3 k4 m7 k5 k6 k7 k8 m8 m9 m10 k9 m11 m12 m13 hv, kI cI m3 9 re, kI cI m5 27 rg, kI cI m13 3 cn]) (wr := [kI cI m2 9 ro, kJ cJ m11 80 la, kI cI m12 48 fa]) (xrV (n := 1) (As := [.int (nI j)]) (rest := [.int 3, .int (nI (16 * o9))]) (ci := 7) (q0 := 3) hd hK hP hD (c_X7_colouredBy l D cI cJ cZ cR _ m0 m1 m2 m3 m4 m5 m6 m7 m8 m9 m10 m11 m12 m13 z r9 n9 v k1 k2 k3 k4 k5 k6 k7 k8 k9 hv j e9 re rg cn hj hej he3) (gV t_838 mV_X7_colouredBy) hV_X7_colouredBy ⟨(Nat.le_of_ble_eq_true rfl), (Nat.le_of_ble_eq_true rfl)⟩ rfl rfl [3, 4, 5, 6] rfl rfl rfl hl.1 rfl (Nat.le_of_ble_eq_true rfl) dX7_layLight_40 ⟨(Nat.le_of_ble_eq_true rfl), (Nat.le_of_ble_eq_true rfl)⟩) hP hD hS hA [3, 4, 5, 6] [0, 1, 2] rfl rfl rfl (by decide) (fun r_37 u_38 H locs hw_39 hP hD hS => ?_)
      have hw_40 : B12 r_37 := hw_39
      have hB := hw_40
      have hP : va_P D vwCl [kI cI m2 9 ro, kJ cJ m11 80 la, kI cI m12 48 fa, kX7 m0 (nI z) m1 (nI r9) m2 m3 m4 m5 (nI n9) (nI v) m6 k1 k2 k3 k4 m7 k5 k6 k7 k8 m8 m9 m10 k9 m11 m12 m13 hv, kI cI m3 9 re, kI cI m5 27 rg, kI cI m13 3 cn] H := hP
      have hD : va_D A [kI cI m2 9 ro, kJ cJ m11 80 la, kI cI m12 48 fa, kX7 m0 (nI z) m1 (nI r9) m2 m3 m4 m5 (nI n9) (nI v) m6 k1 k2 k3 k4 m7 k5 k6 k7 k8 m8 m9 m10 k9 m11 m12 m13 hv, kI cI m3 9 re, kI cI m5 27 rg, kI cI m13 3 cn] := hD
      obtain ⟨k16, hk16, ek16⟩ := or12 (c := 3) (by decide) hB
      refine lv_ior hx hb dX7_layLight_43 ?_
      refine lv_nmi (show _ = (nI k16 : Int32) from ek16) ?_
      refine lv_iadd hx hb dX7_layLight_44 ?_
      refine lv_nmi (show _ = (nI ((16 * o9) + k16)) from nI_add ((16 * o9)) (k16)) ?_
      refine lv_istore (lv' := [(5, .int (nI ((16 * o9) + k16))), (0, .ref m0), (1, .int (nI j)), (2, .long p2), (4, .int 0)]) hx hb dX7_layLight_45 hl (by decide) rfl (fun ls hl => ?_)
      refine lv_iload hx hb dX7_layLight_47 (lv_at hl 4 rfl) ?_
      refine lv_if_eq (tgt := 95) hx hb dX7_layLight_49 (by decide) (fun c_41 => ?_) (fun c_41 => ?_)
      rotate_left
      · exact absurd c_41 (by decide)
      refine lv_lload_n hx hb dX7_layLight_95 rfl (lv_at hl 3 rfl) ?_
      refine lv_aload_n hx hb dX7_layLight_96 rfl (lv_at hl 1 rfl) ?_
      refine va_get (D := D) (ci := 7) (v := .ref m11) (C := RX7) (T := TX7) (N := 27) hx hb hts iT_X7 hown hK1 hP 3 rfl rfl 23 (by decide) (hts _ t_574) (fun _ h9 => h9) rfl dX7_layLight_97 ?_
      refine lv_iload hx hb dX7_layLight_100 (lv_at hl 0 rfl) ?_
      refine va_lald hx hb hK1 hP 1 1 rfl rfl (vp_in_nI (by omega) (by omega)) dX7_layLight_102 ?_
      refine lv_nml (show _ = la ((16 * o9) + k16) from by rw [nI_clamp (n := ((16 * o9) + k16)) (by omega)]) ?_
      refine W.lcmp hx hb dX7_layLight_103 ?_
      refine lv_if_ge (tgt := 111) hx hb dX7_layLight_104 (by decide) (fun c_42 => ?_) (fun c_42 => ?_)
      · skip
        refine lv_iconst (v := 0) hx hb dX7_layLight_111 (by decide) ?_
        refine lv_istore (lv' := [(6, .int 0), (5, .int (nI ((16 * o9) + k16))), (0, .ref m0), (1, .int (nI j)), (2, .long p2), (4, .int 0)]) hx hb dX7_layLight_112 hl (by decide) rfl (fun ls hl => ?_)
        refine lv_aload_n hx hb dX7_layLight_114 rfl (lv_at hl 2 rfl) ?_
        refine va_get (D := D) (ci := 7) (v := .ref m11) (C := RX7) (T := TX7) (N := 27) hx hb hts iT_X7 hown hK1 hP 3 rfl rfl 23 (by decide) (hts _ t_574) (fun _ h9 => h9) rfl dX7_layLight_115 ?_
        refine lv_iload hx hb dX7_layLight_118 (lv_at hl 1 rfl) ?_
        refine lv_iload hx hb dX7_layLight_120 (lv_at hl 0 rfl) ?_
        refine lv_if_eq (tgt := 129) hx hb dX7_layLight_122 (by decide) (fun c_43 => ?_) (fun c_43 => ?_)
        rotate_left
        · exact absurd c_43 (by decide)
        refine lv_aload_n hx hb dX7_layLight_129 rfl (lv_at hl 2 rfl) ?_
        refine va_get (D := D) (ci := 7) (v := .ref m11) (C := RX7) (T := TX7) (N := 27) hx hb hts iT_X7 hown hK1 hP 3 rfl rfl 23 (by decide) (hts _ t_574) (fun _ h9 => h9) rfl dX7_layLight_130 ?_
        refine lv_iload hx hb dX7_layLight_133 (lv_at hl 1 rfl) ?_
        refine va_lald hx hb hK1 hP 1 1 rfl rfl (vp_in_nI (by omega) (by omega)) dX7_layLight_135 ?_
        refine lv_nml (show _ = la ((16 * o9) + k16) from by rw [nI_clamp (n := ((16 * o9) + k16)) (by omega)]) ?_
        refine va_last hx hb hK1 hP hD hS 1 1 rfl rfl (vp_in_nI (by omega) (by omega)) dX7_layLight_136 (fun H locs hP hD hS => ?_)
        rw [nI_clamp (n := ((16 * o9) + k16)) (by omega)] at hP hD
        have hP : va_P D vwCl [kI cI m2 9 ro, kJ cJ m11 80 (vp_updL la ((16 * o9) + k16) (la ((16 * o9) + k16))), kI cI m12 48 fa, kX7 m0 (nI z) m1 (nI r9) m2 m3 m4 m5 (nI n9) (nI v) m6 k1 k2 k3 k4 m7 k5 k6 k7 k8 m8 m9 m10 k9 m11 m12 m13 hv, kI cI m3 9 re, kI cI m5 27 rg, kI cI m13 3 cn] H := hP
        have hD : va_D A [kI cI m2 9 ro, kJ cJ m11 80 (vp_updL la ((16 * o9) + k16) (la ((16 * o9) + k16))), kI cI m12 48 fa, kX7 m0 (nI z) m1 (nI r9) m2 m3 m4 m5 (nI n9) (nI v) m6 k1 k2 k3 k4 m7 k5 k6 k7 k8 m8 m9 m10 k9 m11 m12 m13 hv, kI cI m3 9 re, kI cI m5 27 rg, kI cI m13 3 cn] := hD
        refine lv_iload hx hb dX7_layLight_137 (lv_at hl 0 rfl) ?_
        exact hret _ _ _ _ _ _ 0 (vp_updL la ((16 * o9) + k16) (la ((16 * o9) + k16))) dX7_layLight_139 rfl hS (Nat.le_of_ble_eq_true rfl) (Nat.le_of_ble_eq_true rfl) (by rw [upd_self]; exact LD_no hLR) (hP.sub [3, 4, 5, 6, 0, 1, 2] rfl) (hD.sub [3, 4, 5, 6, 0, 1, 2] rfl rfl)
      · skip
        refine lv_iconst (v := 1) hx hb dX7_layLight_107 (by decide) ?_
        refine lv_goto (tgt := 112) hx hb dX7_layLight_108 (by decide) ?_
        refine lv_istore (lv' := [(6, .int 1), (5, .int (nI ((16 * o9) + k16))), (0, .ref m0), (1, .int (nI j)), (2, .long p2), (4, .int 0)]) hx hb dX7_layLight_112 hl (by decide) rfl (fun ls hl => ?_)
        refine lv_aload_n hx hb dX7_layLight_114 rfl (lv_at hl 2 rfl) ?_
        refine va_get (D := D) (ci := 7) (v := .ref m11) (C := RX7) (T := TX7) (N := 27) hx hb hts iT_X7 hown hK1 hP 3 rfl rfl 23 (by decide) (hts _ t_574) (fun _ h9 => h9) rfl dX7_layLight_115 ?_
        refine lv_iload hx hb dX7_layLight_118 (lv_at hl 1 rfl) ?_
        refine lv_iload hx hb dX7_layLight_120 (lv_at hl 0 rfl) ?_
        refine lv_if_eq (tgt := 129) hx hb dX7_layLight_122 (by decide) (fun c_44 => ?_) (fun c_44 => ?_)
        · exact absurd c_44 (by decide)
        refine lv_lload_n hx hb dX7_layLight_125 rfl (lv_at hl 4 rfl) ?_
        refine lv_goto (tgt := 136) hx hb dX7_layLight_126 (by decide) ?_
        refine va_last hx hb hK1 hP hD hS 1 1 rfl rfl (vp_in_nI (by omega) (by omega)) dX7_layLight_136 (fun H locs hP hD hS => ?_)
        rw [nI_clamp (n := ((16 * o9) + k16)) (by omega)] at hP hD
        have hP : va_P D vwCl [kI cI m2 9 ro, kJ cJ m11 80 (vp_updL la ((16 * o9) + k16) p2), kI cI m12 48 fa, kX7 m0 (nI z) m1 (nI r9) m2 m3 m4 m5 (nI n9) (nI v) m6 k1 k2 k3 k4 m7 k5 k6 k7 k8 m8 m9 m10 k9 m11 m12 m13 hv, kI cI m3 9 re, kI cI m5 27 rg, kI cI m13 3 cn] H := hP
        have hD : va_D A [kI cI m2 9 ro, kJ cJ m11 80 (vp_updL la ((16 * o9) + k16) p2), kI cI m12 48 fa, kX7 m0 (nI z) m1 (nI r9) m2 m3 m4 m5 (nI n9) (nI v) m6 k1 k2 k3 k4 m7 k5 k6 k7 k8 m8 m9 m10 k9 m11 m12 m13 hv, kI cI m3 9 re, kI cI m5 27 rg, kI cI m13 3 cn] := hD
        refine lv_iload hx hb dX7_layLight_137 (lv_at hl 0 rfl) ?_
        exact hret _ _ _ _ _ _ 1 (vp_updL la ((16 * o9) + k16) p2) dX7_layLight_139 rfl hS (Nat.le_of_ble_eq_true rfl) (Nat.le_of_ble_eq_true rfl) (LD_yes hLR (by omega) hp0 c_42) (hP.sub [3, 4, 5, 6, 0, 1, 2] rfl) (hD.sub [3, 4, 5, 6, 0, 1, 2] rfl rfl)
set_option maxHeartbeats 4000000 in
set_option maxRecDepth 100000 in
theorem g_layLight_1 (sz : Nat) (m0 : Nat) (m1 : Nat) (m2 : Nat) (m3 : Nat) (m4 : Nat) (m5 : Nat) (m6 : Nat) (m7 : Nat) (m8 : Nat) (m9 : Nat) (m10 : Nat) (m11 : Nat) (m12 : Nat) (m13 : Nat) (z : Nat) (r9 : Nat) (n9 : Nat) (v : Nat) (k1 : Int32) (k2 : Int32) (k3 : Int32) (k4 : Int32) (k5 : Int32) (k6 : Int32) (k7 : Int32) (k8 : Int32) (k9 : Int32) (hv : Int64) (j : Nat) (e9 : Nat) (re : Nat → Int32) (rg : Nat → Int32) (cn : Nat → Int32) (ro : Nat → Int32) (fa : Nat → Int32) (la : Nat → Int64) (o9 : Nat) (p2 : Int64) (hj : j < 9) (hej : re j = nI e9) (he3 : e9 ≤ 3) (hoj : ro j = nI o9) (ho3 : o9 < 3) (hLR : LR la) : CTi l D cI cJ cZ cR yX7_layLight cX7_layLight 7 (some .boolean) 2 47 0 0 sz [.ref m0, .int (nI j), .long p2, .int 1] [kX7 m0 (nI z) m1 (nI r9) m2 m3 m4 m5 (nI n9) (nI v) m6 k1 k2 k3 k4 m7 k5 k6 k7 k8 m8 m9 m10 k9 m11 m12 m13 hv, kI cI m3 9 re, kI cI m5 27 rg, kI cI m13 3 cn, kI cI m2 9 ro, kJ cJ m11 80 la, kI cI m12 48 fa] (fun (r : Int32) (u : (Nat → Int32)) => (r = 0)) (fun (u : (Nat → Int32)) => [kX7 m0 (nI z) m1 (nI r9) m2 m3 m4 m5 (nI n9) (nI v) m6 k1 k2 k3 k4 m7 k5 k6 k7 k8 m8 m9 m10 k9 m11 m12 m13 hv, kI cI m3 9 re, kI cI m5 27 rg, kI cI m13 3 cn, kI cI m2 9 ro, kJ cJ m11 80 la, kI cI m12 48 u]) := by
  refine CTi.of (ty := .boolean) (by decide) (Nat.le_of_ble_eq_true rfl) rfl ?_
  intro p e s m below meth c A Q ls hd hin hK hsz hP hD hA hS hl hret
  obtain ⟨hx, hb, hml, hown, hts⟩ := id hd
  have hK1 := hK.1
  have hown : s.vm.findClass RX7 = some m.cls := hown
  have hl : lv_has ls 7 [(0, .ref m0), (1, .int (nI j)), (2, .long p2), (4, .int 1)] := hl
  refine lv_bipush (v := 16) hx hb dX7_layLight_0 (by decide) ?_
  refine lv_aload_n hx hb dX7_layLight_2 rfl (lv_at hl 0 rfl) ?_
  refine va_get (D := D) (ci := 7) (v := .ref m2) (C := RX7) (T := TX7) (N := 27) hx hb hts iT_X7 hown hK1 hP 0 rfl rfl 3 (by decide) (hts _ t_554) (fun _ h9 => h9) rfl dX7_layLight_3 ?_
  refine lv_iload_n hx hb dX7_layLight_6 rfl (lv_at hl 1 rfl) ?_
  refine va_iald hx hb hK1 hP 4 0 rfl rfl (vp_in_nI (by omega) (by omega)) dX7_layLight_7 ?_
  refine lv_nmi (show _ = ro j from by rw [nI_clamp (n := j) (by omega)]) ?_
  refine lv_nmi (show _ = (nI o9 : Int32) from hoj) ?_
  refine lv_imul hx hb dX7_layLight_8 ?_
  refine lv_nmi (show _ = (nI (16 * o9)) from pk_mul (16) (o9)) ?_
  refine lv_aload_n hx hb dX7_layLight_9 rfl (lv_at hl 0 rfl) ?_
  refine lv_iload_n hx hb dX7_layLight_10 rfl (lv_at hl 1 rfl) ?_
  refine lv_iconst (v := 0) hx hb dX7_layLight_11 (by decide) ?_
  refine xc_i (wc := [kX7 m0 (nI z) m1 (nI r9) m2 m3 m4 m5 (nI n9) (nI v) m6 k1 k2 k3 k4 m7 k5 k6 k7 k8 m8 m9 m10 k9 m11 m12 m13 hv, kI cI m3 9 re, kI cI m5 27 rg, kI cI m13 3 cn]) (wr := [kI cI m2 9 ro, kJ cJ m11 80 la, kI cI m12 48 fa]) (xrV (n := 2) (As := [.int (nI j), .int 0]) (rest := [.int (nI (16 * o9))]) (ci := 7) (q0 := 0) hd hK hP hD (g_leads_0 l D cI cJ cZ cR _ m0 m1 m2 m3 m4 m5 m6 m7 m8 m9 m10 m11 m12 m13 z r9 n9 v k1 k2 k3 k4 k5 k6 k7 k8 k9 hv j e9 re rg cn hj hej he3) (gV t_834 mV_X7_leads) hV_X7_leads ⟨(Nat.le_of_ble_eq_true rfl), (Nat.le_of_ble_eq_true rfl)⟩ rfl rfl [0, 1, 2, 3] rfl rfl rfl hl.1 rfl (Nat.le_of_ble_eq_true rfl) dX7_layLight_12 ⟨(Nat.le_of_ble_eq_true rfl), (Nat.le_of_ble_eq_true rfl)⟩) hP hD hS hA [0, 1, 2, 3] [4, 5, 6] rfl rfl rfl (by decide) (fun r_1 u_2 H locs hw_3 hP hD hS => ?_)
  have hP : va_P D vwCl [kI cI m2 9 ro, kJ cJ m11 80 la, kI cI m12 48 fa, kX7 m0 (nI z) m1 (nI r9) m2 m3 m4 m5 (nI n9) (nI v) m6 k1 k2 k3 k4 m7 k5 k6 k7 k8 m8 m9 m10 k9 m11 m12 m13 hv, kI cI m3 9 re, kI cI m5 27 rg, kI cI m13 3 cn] H := hP
  have hD : va_D A [kI cI m2 9 ro, kJ cJ m11 80 la, kI cI m12 48 fa, kX7 m0 (nI z) m1 (nI r9) m2 m3 m4 m5 (nI n9) (nI v) m6 k1 k2 k3 k4 m7 k5 k6 k7 k8 m8 m9 m10 k9 m11 m12 m13 hv, kI cI m3 9 re, kI cI m5 27 rg, kI cI m13 3 cn] := hD
  refine lv_if_eq (tgt := 22) hx hb dX7_layLight_15 (by decide) (fun c_4 => ?_) (fun c_4 => ?_)
  · skip
    refine lv_iconst (v := 0) hx hb dX7_layLight_22 (by decide) ?_
    refine lv_aload_n hx hb dX7_layLight_23 rfl (lv_at hl 0 rfl) ?_
    refine lv_iload_n hx hb dX7_layLight_24 rfl (lv_at hl 1 rfl) ?_
    refine lv_iconst (v := 1) hx hb dX7_layLight_25 (by decide) ?_
    refine xc_i (wc := [kX7 m0 (nI z) m1 (nI r9) m2 m3 m4 m5 (nI n9) (nI v) m6 k1 k2 k3 k4 m7 k5 k6 k7 k8 m8 m9 m10 k9 m11 m12 m13 hv, kI cI m3 9 re, kI cI m5 27 rg, kI cI m13 3 cn]) (wr := [kI cI m2 9 ro, kJ cJ m11 80 la, kI cI m12 48 fa]) (xrV (n := 2) (As := [.int (nI j), .int 1]) (rest := [.int 0, .int (nI (16 * o9))]) (ci := 7) (q0 := 3) hd hK hP hD (g_leads_1 l D cI cJ cZ cR _ m0 m1 m2 m3 m4 m5 m6 m7 m8 m9 m10 m11 m12 m13 z r9 n9 v k1 k2 k3 k4 k5 k6 k7 k8 k9 hv j e9 re rg cn hj hej he3) (gV t_834 mV_X7_leads) hV_X7_leads ⟨(Nat.le_of_ble_eq_true rfl), (Nat.le_of_ble_eq_true rfl)⟩ rfl rfl [3, 4, 5, 6] rfl rfl rfl hl.1 rfl (Nat.le_of_ble_eq_true rfl) dX7_layLight_26 ⟨(Nat.le_of_ble_eq_true rfl), (Nat.le_of_ble_eq_true rfl)⟩) hP hD hS hA [3, 4, 5, 6] [0, 1, 2] rfl rfl rfl (by decide) (fun r_5 u_6 H locs hw_7 hP hD hS => ?_)
    have hP : va_P D vwCl [kI cI m2 9 ro, kJ cJ m11 80 la, kI cI m12 48 fa, kX7 m0 (nI z) m1 (nI r9) m2 m3 m4 m5 (nI n9) (nI v) m6 k1 k2 k3 k4 m7 k5 k6 k7 k8 m8 m9 m10 k9 m11 m12 m13 hv, kI cI m3 9 re, kI cI m5 27 rg, kI cI m13 3 cn] H := hP
    have hD : va_D A [kI cI m2 9 ro, kJ cJ m11 80 la, kI cI m12 48 fa, kX7 m0 (nI z) m1 (nI r9) m2 m3 m4 m5 (nI n9) (nI v) m6 k1 k2 k3 k4 m7 k5 k6 k7 k8 m8 m9 m10 k9 m11 m12 m13 hv, kI cI m3 9 re, kI cI m5 27 rg, kI cI m13 3 cn] := hD
    refine lv_if_eq (tgt := 36) hx hb dX7_layLight_29 (by decide) (fun c_8 => ?_) (fun c_8 => ?_)
    · skip
      refine lv_iconst (v := 0) hx hb dX7_layLight_36 (by decide) ?_
      refine lv_ior hx hb dX7_layLight_37 ?_
      refine lv_nmi (show _ = (0 : Int32) from by decide +kernel) ?_
      refine lv_aload_n hx hb dX7_layLight_38 rfl (lv_at hl 0 rfl) ?_
      refine lv_iload_n hx hb dX7_layLight_39 rfl (lv_at hl 1 rfl) ?_
      refine xc_i (wc := [kX7 m0 (nI z) m1 (nI r9) m2 m3 m4 m5 (nI n9) (nI v) m6 k1 k2 k3 k4 m7 k5 k6 k7 k8 m8 m9 m10 k9 m11 m12 m13 hv, kI cI m3 9 re, kI cI m5 27 rg, kI cI m13 3 cn]) (wr := [kI cI m2 9 ro, kJ cJ m11 80 la, kI cI m12 48 fa]) (xrV (n := 1) (As := [.int (nI j)]) (rest := [.int 0, .int (nI (16 * o9))]) (ci := 7) (q0 := 3) hd hK hP hD (c_X7_colouredBy l D cI cJ cZ cR _ m0 m1 m2 m3 m4 m5 m6 m7 m8 m9 m10 m11 m12 m13 z r9 n9 v k1 k2 k3 k4 k5 k6 k7 k8 k9 hv j e9 re rg cn hj hej he3) (gV t_838 mV_X7_colouredBy) hV_X7_colouredBy ⟨(Nat.le_of_ble_eq_true rfl), (Nat.le_of_ble_eq_true rfl)⟩ rfl rfl [3, 4, 5, 6] rfl rfl rfl hl.1 rfl (Nat.le_of_ble_eq_true rfl) dX7_layLight_40 ⟨(Nat.le_of_ble_eq_true rfl), (Nat.le_of_ble_eq_true rfl)⟩) hP hD hS hA [3, 4, 5, 6] [0, 1, 2] rfl rfl rfl (by decide) (fun r_9 u_10 H locs hw_11 hP hD hS => ?_)
      have hw_12 : B12 r_9 := hw_11
      have hB := hw_12
      have hP : va_P D vwCl [kI cI m2 9 ro, kJ cJ m11 80 la, kI cI m12 48 fa, kX7 m0 (nI z) m1 (nI r9) m2 m3 m4 m5 (nI n9) (nI v) m6 k1 k2 k3 k4 m7 k5 k6 k7 k8 m8 m9 m10 k9 m11 m12 m13 hv, kI cI m3 9 re, kI cI m5 27 rg, kI cI m13 3 cn] H := hP
      have hD : va_D A [kI cI m2 9 ro, kJ cJ m11 80 la, kI cI m12 48 fa, kX7 m0 (nI z) m1 (nI r9) m2 m3 m4 m5 (nI n9) (nI v) m6 k1 k2 k3 k4 m7 k5 k6 k7 k8 m8 m9 m10 k9 m11 m12 m13 hv, kI cI m3 9 re, kI cI m5 27 rg, kI cI m13 3 cn] := hD
      obtain ⟨k16, hk16, ek16⟩ := or12 (c := 0) (by decide) hB
      refine lv_ior hx hb dX7_layLight_43 ?_
      refine lv_nmi (show _ = (nI k16 : Int32) from ek16) ?_
      refine lv_iadd hx hb dX7_layLight_44 ?_
      refine lv_nmi (show _ = (nI ((16 * o9) + k16)) from nI_add ((16 * o9)) (k16)) ?_
      refine lv_istore (lv' := [(5, .int (nI ((16 * o9) + k16))), (0, .ref m0), (1, .int (nI j)), (2, .long p2), (4, .int 1)]) hx hb dX7_layLight_45 hl (by decide) rfl (fun ls hl => ?_)
      refine lv_iload hx hb dX7_layLight_47 (lv_at hl 4 rfl) ?_
      refine lv_if_eq (tgt := 95) hx hb dX7_layLight_49 (by decide) (fun c_13 => ?_) (fun c_13 => ?_)
      · exact absurd c_13 (by decide)
      refine lv_aload_n hx hb dX7_layLight_52 rfl (lv_at hl 1 rfl) ?_
      refine va_get (D := D) (ci := 7) (v := .ref m12) (C := RX7) (T := TX7) (N := 27) hx hb hts iT_X7 hown hK1 hP 3 rfl rfl 24 (by decide) (hts _ t_575) (fun _ h9 => h9) rfl dX7_layLight_53 ?_
      refine lv_iload hx hb dX7_layLight_56 (lv_at hl 0 rfl) ?_
      refine lv_aload_n hx hb dX7_layLight_58 rfl (lv_at hl 1 rfl) ?_
      refine va_get (D := D) (ci := 7) (v := .ref m12) (C := RX7) (T := TX7) (N := 27) hx hb hts iT_X7 hown hK1 hP 3 rfl rfl 24 (by decide) (hts _ t_575) (fun _ h9 => h9) rfl dX7_layLight_59 ?_
      refine lv_iload hx hb dX7_layLight_62 (lv_at hl 0 rfl) ?_
      refine va_iald hx hb hK1 hP 2 0 rfl rfl (vp_in_nI (by omega) (by omega)) dX7_layLight_64 ?_
      refine lv_nmi (show _ = fa ((16 * o9) + k16) from by rw [nI_clamp (n := ((16 * o9) + k16)) (by omega)]) ?_
      refine lv_iconst (v := -1) hx hb dX7_layLight_65 (by decide) ?_
      refine lv_icmp_ne (tgt := 85) hx hb dX7_layLight_66 (by decide) (fun c_14 => ?_) (fun c_14 => ?_)
      · skip
        refine lv_aload_n hx hb dX7_layLight_85 rfl (lv_at hl 1 rfl) ?_
        refine va_get (D := D) (ci := 7) (v := .ref m12) (C := RX7) (T := TX7) (N := 27) hx hb hts iT_X7 hown hK1 hP 3 rfl rfl 24 (by decide) (hts _ t_575) (fun _ h9 => h9) rfl dX7_layLight_86 ?_
        refine lv_iload hx hb dX7_layLight_89 (lv_at hl 0 rfl) ?_
        refine va_iald hx hb hK1 hP 2 0 rfl rfl (vp_in_nI (by omega) (by omega)) dX7_layLight_91 ?_
        refine lv_nmi (show _ = fa ((16 * o9) + k16) from by rw [nI_clamp (n := ((16 * o9) + k16)) (by omega)]) ?_
        refine va_iast hx hb hK1 hP hD hS 2 0 rfl rfl (vp_in_nI (by omega) (by omega)) dX7_layLight_92 (fun H locs hP hD hS => ?_)
        rw [nI_clamp (n := ((16 * o9) + k16)) (by omega)] at hP hD
        have hP : va_P D vwCl [kI cI m2 9 ro, kJ cJ m11 80 la, kI cI m12 48 (upd fa ((16 * o9) + k16) (fa ((16 * o9) + k16))), kX7 m0 (nI z) m1 (nI r9) m2 m3 m4 m5 (nI n9) (nI v) m6 k1 k2 k3 k4 m7 k5 k6 k7 k8 m8 m9 m10 k9 m11 m12 m13 hv, kI cI m3 9 re, kI cI m5 27 rg, kI cI m13 3 cn] H := hP
        have hD : va_D A [kI cI m2 9 ro, kJ cJ m11 80 la, kI cI m12 48 (upd fa ((16 * o9) + k16) (fa ((16 * o9) + k16))), kX7 m0 (nI z) m1 (nI r9) m2 m3 m4 m5 (nI n9) (nI v) m6 k1 k2 k3 k4 m7 k5 k6 k7 k8 m8 m9 m10 k9 m11 m12 m13 hv, kI cI m3 9 re, kI cI m5 27 rg, kI cI m13 3 cn] := hD
        refine lv_iconst (v := 0) hx hb dX7_layLight_93 (by decide) ?_
        exact hret _ _ _ _ _ _ 0 (upd fa ((16 * o9) + k16) (fa ((16 * o9) + k16))) dX7_layLight_94 rfl hS (Nat.le_of_ble_eq_true rfl) (Nat.le_of_ble_eq_true rfl) rfl (hP.sub [3, 4, 5, 6, 0, 1, 2] rfl) (hD.sub [3, 4, 5, 6, 0, 1, 2] rfl rfl)
      · skip
        refine lv_lload_n hx hb dX7_layLight_69 rfl (lv_at hl 3 rfl) ?_
        refine lv_aload_n hx hb dX7_layLight_70 rfl (lv_at hl 1 rfl) ?_
        refine va_get (D := D) (ci := 7) (v := .ref m11) (C := RX7) (T := TX7) (N := 27) hx hb hts iT_X7 hown hK1 hP 3 rfl rfl 23 (by decide) (hts _ t_574) (fun _ h9 => h9) rfl dX7_layLight_71 ?_
        refine lv_iload hx hb dX7_layLight_74 (lv_at hl 0 rfl) ?_
        refine va_lald hx hb hK1 hP 1 1 rfl rfl (vp_in_nI (by omega) (by omega)) dX7_layLight_76 ?_
        refine lv_nml (show _ = la ((16 * o9) + k16) from by rw [nI_clamp (n := ((16 * o9) + k16)) (by omega)]) ?_
        refine W.lcmp hx hb dX7_layLight_77 ?_
        refine lv_if_ne (tgt := 85) hx hb dX7_layLight_78 (by decide) (fun c_15 => ?_) (fun c_15 => ?_)
        · skip
          refine lv_aload_n hx hb dX7_layLight_85 rfl (lv_at hl 1 rfl) ?_
          refine va_get (D := D) (ci := 7) (v := .ref m12) (C := RX7) (T := TX7) (N := 27) hx hb hts iT_X7 hown hK1 hP 3 rfl rfl 24 (by decide) (hts _ t_575) (fun _ h9 => h9) rfl dX7_layLight_86 ?_
          refine lv_iload hx hb dX7_layLight_89 (lv_at hl 0 rfl) ?_
          refine va_iald hx hb hK1 hP 2 0 rfl rfl (vp_in_nI (by omega) (by omega)) dX7_layLight_91 ?_
          refine lv_nmi (show _ = fa ((16 * o9) + k16) from by rw [nI_clamp (n := ((16 * o9) + k16)) (by omega)]) ?_
          refine va_iast hx hb hK1 hP hD hS 2 0 rfl rfl (vp_in_nI (by omega) (by omega)) dX7_layLight_92 (fun H locs hP hD hS => ?_)
          rw [nI_clamp (n := ((16 * o9) + k16)) (by omega)] at hP hD
          have hP : va_P D vwCl [kI cI m2 9 ro, kJ cJ m11 80 la, kI cI m12 48 (upd fa ((16 * o9) + k16) (fa ((16 * o9) + k16))), kX7 m0 (nI z) m1 (nI r9) m2 m3 m4 m5 (nI n9) (nI v) m6 k1 k2 k3 k4 m7 k5 k6 k7 k8 m8 m9 m10 k9 m11 m12 m13 hv, kI cI m3 9 re, kI cI m5 27 rg, kI cI m13 3 cn] H := hP
          have hD : va_D A [kI cI m2 9 ro, kJ cJ m11 80 la, kI cI m12 48 (upd fa ((16 * o9) + k16) (fa ((16 * o9) + k16))), kX7 m0 (nI z) m1 (nI r9) m2 m3 m4 m5 (nI n9) (nI v) m6 k1 k2 k3 k4 m7 k5 k6 k7 k8 m8 m9 m10 k9 m11 m12 m13 hv, kI cI m3 9 re, kI cI m5 27 rg, kI cI m13 3 cn] := hD
          refine lv_iconst (v := 0) hx hb dX7_layLight_93 (by decide) ?_
          exact hret _ _ _ _ _ _ 0 (upd fa ((16 * o9) + k16) (fa ((16 * o9) + k16))) dX7_layLight_94 rfl hS (Nat.le_of_ble_eq_true rfl) (Nat.le_of_ble_eq_true rfl) rfl (hP.sub [3, 4, 5, 6, 0, 1, 2] rfl) (hD.sub [3, 4, 5, 6, 0, 1, 2] rfl rfl)
        · skip
          refine lv_iload_n hx hb dX7_layLight_81 rfl (lv_at hl 2 rfl) ?_
          refine lv_goto (tgt := 92) hx hb dX7_layLight_82 (by decide) ?_
          refine va_iast hx hb hK1 hP hD hS 2 0 rfl rfl (vp_in_nI (by omega) (by omega)) dX7_layLight_92 (fun H locs hP hD hS => ?_)
          rw [nI_clamp (n := ((16 * o9) + k16)) (by omega)] at hP hD
          have hP : va_P D vwCl [kI cI m2 9 ro, kJ cJ m11 80 la, kI cI m12 48 (upd fa ((16 * o9) + k16) (nI j)), kX7 m0 (nI z) m1 (nI r9) m2 m3 m4 m5 (nI n9) (nI v) m6 k1 k2 k3 k4 m7 k5 k6 k7 k8 m8 m9 m10 k9 m11 m12 m13 hv, kI cI m3 9 re, kI cI m5 27 rg, kI cI m13 3 cn] H := hP
          have hD : va_D A [kI cI m2 9 ro, kJ cJ m11 80 la, kI cI m12 48 (upd fa ((16 * o9) + k16) (nI j)), kX7 m0 (nI z) m1 (nI r9) m2 m3 m4 m5 (nI n9) (nI v) m6 k1 k2 k3 k4 m7 k5 k6 k7 k8 m8 m9 m10 k9 m11 m12 m13 hv, kI cI m3 9 re, kI cI m5 27 rg, kI cI m13 3 cn] := hD
          refine lv_iconst (v := 0) hx hb dX7_layLight_93 (by decide) ?_
          exact hret _ _ _ _ _ _ 0 (upd fa ((16 * o9) + k16) (nI j)) dX7_layLight_94 rfl hS (Nat.le_of_ble_eq_true rfl) (Nat.le_of_ble_eq_true rfl) rfl (hP.sub [3, 4, 5, 6, 0, 1, 2] rfl) (hD.sub [3, 4, 5, 6, 0, 1, 2] rfl rfl)
    · skip
      refine lv_iconst (v := 2) hx hb dX7_layLight_32 (by decide) ?_
      refine lv_goto (tgt := 37) hx hb dX7_layLight_33 (by decide) ?_
      refine lv_ior hx hb dX7_layLight_37 ?_
      refine lv_nmi (show _ = (2 : Int32) from by decide +kernel) ?_
      refine lv_aload_n hx hb dX7_layLight_38 rfl (lv_at hl 0 rfl) ?_
      refine lv_iload_n hx hb dX7_layLight_39 rfl (lv_at hl 1 rfl) ?_
      refine xc_i (wc := [kX7 m0 (nI z) m1 (nI r9) m2 m3 m4 m5 (nI n9) (nI v) m6 k1 k2 k3 k4 m7 k5 k6 k7 k8 m8 m9 m10 k9 m11 m12 m13 hv, kI cI m3 9 re, kI cI m5 27 rg, kI cI m13 3 cn]) (wr := [kI cI m2 9 ro, kJ cJ m11 80 la, kI cI m12 48 fa]) (xrV (n := 1) (As := [.int (nI j)]) (rest := [.int 2, .int (nI (16 * o9))]) (ci := 7) (q0 := 3) hd hK hP hD (c_X7_colouredBy l D cI cJ cZ cR _ m0 m1 m2 m3 m4 m5 m6 m7 m8 m9 m10 m11 m12 m13 z r9 n9 v k1 k2 k3 k4 k5 k6 k7 k8 k9 hv j e9 re rg cn hj hej he3) (gV t_838 mV_X7_colouredBy) hV_X7_colouredBy ⟨(Nat.le_of_ble_eq_true rfl), (Nat.le_of_ble_eq_true rfl)⟩ rfl rfl [3, 4, 5, 6] rfl rfl rfl hl.1 rfl (Nat.le_of_ble_eq_true rfl) dX7_layLight_40 ⟨(Nat.le_of_ble_eq_true rfl), (Nat.le_of_ble_eq_true rfl)⟩) hP hD hS hA [3, 4, 5, 6] [0, 1, 2] rfl rfl rfl (by decide) (fun r_16 u_17 H locs hw_18 hP hD hS => ?_)
      have hw_19 : B12 r_16 := hw_18
      have hB := hw_19
      have hP : va_P D vwCl [kI cI m2 9 ro, kJ cJ m11 80 la, kI cI m12 48 fa, kX7 m0 (nI z) m1 (nI r9) m2 m3 m4 m5 (nI n9) (nI v) m6 k1 k2 k3 k4 m7 k5 k6 k7 k8 m8 m9 m10 k9 m11 m12 m13 hv, kI cI m3 9 re, kI cI m5 27 rg, kI cI m13 3 cn] H := hP
      have hD : va_D A [kI cI m2 9 ro, kJ cJ m11 80 la, kI cI m12 48 fa, kX7 m0 (nI z) m1 (nI r9) m2 m3 m4 m5 (nI n9) (nI v) m6 k1 k2 k3 k4 m7 k5 k6 k7 k8 m8 m9 m10 k9 m11 m12 m13 hv, kI cI m3 9 re, kI cI m5 27 rg, kI cI m13 3 cn] := hD
      obtain ⟨k16, hk16, ek16⟩ := or12 (c := 2) (by decide) hB
      refine lv_ior hx hb dX7_layLight_43 ?_
      refine lv_nmi (show _ = (nI k16 : Int32) from ek16) ?_
      refine lv_iadd hx hb dX7_layLight_44 ?_
      refine lv_nmi (show _ = (nI ((16 * o9) + k16)) from nI_add ((16 * o9)) (k16)) ?_
      refine lv_istore (lv' := [(5, .int (nI ((16 * o9) + k16))), (0, .ref m0), (1, .int (nI j)), (2, .long p2), (4, .int 1)]) hx hb dX7_layLight_45 hl (by decide) rfl (fun ls hl => ?_)
      refine lv_iload hx hb dX7_layLight_47 (lv_at hl 4 rfl) ?_
      refine lv_if_eq (tgt := 95) hx hb dX7_layLight_49 (by decide) (fun c_20 => ?_) (fun c_20 => ?_)
      · exact absurd c_20 (by decide)
      refine lv_aload_n hx hb dX7_layLight_52 rfl (lv_at hl 1 rfl) ?_
      refine va_get (D := D) (ci := 7) (v := .ref m12) (C := RX7) (T := TX7) (N := 27) hx hb hts iT_X7 hown hK1 hP 3 rfl rfl 24 (by decide) (hts _ t_575) (fun _ h9 => h9) rfl dX7_layLight_53 ?_
      refine lv_iload hx hb dX7_layLight_56 (lv_at hl 0 rfl) ?_
      refine lv_aload_n hx hb dX7_layLight_58 rfl (lv_at hl 1 rfl) ?_
      refine va_get (D := D) (ci := 7) (v := .ref m12) (C := RX7) (T := TX7) (N := 27) hx hb hts iT_X7 hown hK1 hP 3 rfl rfl 24 (by decide) (hts _ t_575) (fun _ h9 => h9) rfl dX7_layLight_59 ?_
      refine lv_iload hx hb dX7_layLight_62 (lv_at hl 0 rfl) ?_
      refine va_iald hx hb hK1 hP 2 0 rfl rfl (vp_in_nI (by omega) (by omega)) dX7_layLight_64 ?_
      refine lv_nmi (show _ = fa ((16 * o9) + k16) from by rw [nI_clamp (n := ((16 * o9) + k16)) (by omega)]) ?_
      refine lv_iconst (v := -1) hx hb dX7_layLight_65 (by decide) ?_
      refine lv_icmp_ne (tgt := 85) hx hb dX7_layLight_66 (by decide) (fun c_21 => ?_) (fun c_21 => ?_)
      · skip
        refine lv_aload_n hx hb dX7_layLight_85 rfl (lv_at hl 1 rfl) ?_
        refine va_get (D := D) (ci := 7) (v := .ref m12) (C := RX7) (T := TX7) (N := 27) hx hb hts iT_X7 hown hK1 hP 3 rfl rfl 24 (by decide) (hts _ t_575) (fun _ h9 => h9) rfl dX7_layLight_86 ?_
        refine lv_iload hx hb dX7_layLight_89 (lv_at hl 0 rfl) ?_
        refine va_iald hx hb hK1 hP 2 0 rfl rfl (vp_in_nI (by omega) (by omega)) dX7_layLight_91 ?_
        refine lv_nmi (show _ = fa ((16 * o9) + k16) from by rw [nI_clamp (n := ((16 * o9) + k16)) (by omega)]) ?_
        refine va_iast hx hb hK1 hP hD hS 2 0 rfl rfl (vp_in_nI (by omega) (by omega)) dX7_layLight_92 (fun H locs hP hD hS => ?_)
        rw [nI_clamp (n := ((16 * o9) + k16)) (by omega)] at hP hD
        have hP : va_P D vwCl [kI cI m2 9 ro, kJ cJ m11 80 la, kI cI m12 48 (upd fa ((16 * o9) + k16) (fa ((16 * o9) + k16))), kX7 m0 (nI z) m1 (nI r9) m2 m3 m4 m5 (nI n9) (nI v) m6 k1 k2 k3 k4 m7 k5 k6 k7 k8 m8 m9 m10 k9 m11 m12 m13 hv, kI cI m3 9 re, kI cI m5 27 rg, kI cI m13 3 cn] H := hP
        have hD : va_D A [kI cI m2 9 ro, kJ cJ m11 80 la, kI cI m12 48 (upd fa ((16 * o9) + k16) (fa ((16 * o9) + k16))), kX7 m0 (nI z) m1 (nI r9) m2 m3 m4 m5 (nI n9) (nI v) m6 k1 k2 k3 k4 m7 k5 k6 k7 k8 m8 m9 m10 k9 m11 m12 m13 hv, kI cI m3 9 re, kI cI m5 27 rg, kI cI m13 3 cn] := hD
        refine lv_iconst (v := 0) hx hb dX7_layLight_93 (by decide) ?_
        exact hret _ _ _ _ _ _ 0 (upd fa ((16 * o9) + k16) (fa ((16 * o9) + k16))) dX7_layLight_94 rfl hS (Nat.le_of_ble_eq_true rfl) (Nat.le_of_ble_eq_true rfl) rfl (hP.sub [3, 4, 5, 6, 0, 1, 2] rfl) (hD.sub [3, 4, 5, 6, 0, 1, 2] rfl rfl)
      · skip
        refine lv_lload_n hx hb dX7_layLight_69 rfl (lv_at hl 3 rfl) ?_
        refine lv_aload_n hx hb dX7_layLight_70 rfl (lv_at hl 1 rfl) ?_
        refine va_get (D := D) (ci := 7) (v := .ref m11) (C := RX7) (T := TX7) (N := 27) hx hb hts iT_X7 hown hK1 hP 3 rfl rfl 23 (by decide) (hts _ t_574) (fun _ h9 => h9) rfl dX7_layLight_71 ?_
        refine lv_iload hx hb dX7_layLight_74 (lv_at hl 0 rfl) ?_
        refine va_lald hx hb hK1 hP 1 1 rfl rfl (vp_in_nI (by omega) (by omega)) dX7_layLight_76 ?_
        refine lv_nml (show _ = la ((16 * o9) + k16) from by rw [nI_clamp (n := ((16 * o9) + k16)) (by omega)]) ?_
        refine W.lcmp hx hb dX7_layLight_77 ?_
        refine lv_if_ne (tgt := 85) hx hb dX7_layLight_78 (by decide) (fun c_22 => ?_) (fun c_22 => ?_)
        · skip
          refine lv_aload_n hx hb dX7_layLight_85 rfl (lv_at hl 1 rfl) ?_
          refine va_get (D := D) (ci := 7) (v := .ref m12) (C := RX7) (T := TX7) (N := 27) hx hb hts iT_X7 hown hK1 hP 3 rfl rfl 24 (by decide) (hts _ t_575) (fun _ h9 => h9) rfl dX7_layLight_86 ?_
          refine lv_iload hx hb dX7_layLight_89 (lv_at hl 0 rfl) ?_
          refine va_iald hx hb hK1 hP 2 0 rfl rfl (vp_in_nI (by omega) (by omega)) dX7_layLight_91 ?_
          refine lv_nmi (show _ = fa ((16 * o9) + k16) from by rw [nI_clamp (n := ((16 * o9) + k16)) (by omega)]) ?_
          refine va_iast hx hb hK1 hP hD hS 2 0 rfl rfl (vp_in_nI (by omega) (by omega)) dX7_layLight_92 (fun H locs hP hD hS => ?_)
          rw [nI_clamp (n := ((16 * o9) + k16)) (by omega)] at hP hD
          have hP : va_P D vwCl [kI cI m2 9 ro, kJ cJ m11 80 la, kI cI m12 48 (upd fa ((16 * o9) + k16) (fa ((16 * o9) + k16))), kX7 m0 (nI z) m1 (nI r9) m2 m3 m4 m5 (nI n9) (nI v) m6 k1 k2 k3 k4 m7 k5 k6 k7 k8 m8 m9 m10 k9 m11 m12 m13 hv, kI cI m3 9 re, kI cI m5 27 rg, kI cI m13 3 cn] H := hP
          have hD : va_D A [kI cI m2 9 ro, kJ cJ m11 80 la, kI cI m12 48 (upd fa ((16 * o9) + k16) (fa ((16 * o9) + k16))), kX7 m0 (nI z) m1 (nI r9) m2 m3 m4 m5 (nI n9) (nI v) m6 k1 k2 k3 k4 m7 k5 k6 k7 k8 m8 m9 m10 k9 m11 m12 m13 hv, kI cI m3 9 re, kI cI m5 27 rg, kI cI m13 3 cn] := hD
          refine lv_iconst (v := 0) hx hb dX7_layLight_93 (by decide) ?_
          exact hret _ _ _ _ _ _ 0 (upd fa ((16 * o9) + k16) (fa ((16 * o9) + k16))) dX7_layLight_94 rfl hS (Nat.le_of_ble_eq_true rfl) (Nat.le_of_ble_eq_true rfl) rfl (hP.sub [3, 4, 5, 6, 0, 1, 2] rfl) (hD.sub [3, 4, 5, 6, 0, 1, 2] rfl rfl)
        · skip
          refine lv_iload_n hx hb dX7_layLight_81 rfl (lv_at hl 2 rfl) ?_
          refine lv_goto (tgt := 92) hx hb dX7_layLight_82 (by decide) ?_
          refine va_iast hx hb hK1 hP hD hS 2 0 rfl rfl (vp_in_nI (by omega) (by omega)) dX7_layLight_92 (fun H locs hP hD hS => ?_)
          rw [nI_clamp (n := ((16 * o9) + k16)) (by omega)] at hP hD
          have hP : va_P D vwCl [kI cI m2 9 ro, kJ cJ m11 80 la, kI cI m12 48 (upd fa ((16 * o9) + k16) (nI j)), kX7 m0 (nI z) m1 (nI r9) m2 m3 m4 m5 (nI n9) (nI v) m6 k1 k2 k3 k4 m7 k5 k6 k7 k8 m8 m9 m10 k9 m11 m12 m13 hv, kI cI m3 9 re, kI cI m5 27 rg, kI cI m13 3 cn] H := hP
          have hD : va_D A [kI cI m2 9 ro, kJ cJ m11 80 la, kI cI m12 48 (upd fa ((16 * o9) + k16) (nI j)), kX7 m0 (nI z) m1 (nI r9) m2 m3 m4 m5 (nI n9) (nI v) m6 k1 k2 k3 k4 m7 k5 k6 k7 k8 m8 m9 m10 k9 m11 m12 m13 hv, kI cI m3 9 re, kI cI m5 27 rg, kI cI m13 3 cn] := hD
          refine lv_iconst (v := 0) hx hb dX7_layLight_93 (by decide) ?_
          exact hret _ _ _ _ _ _ 0 (upd fa ((16 * o9) + k16) (nI j)) dX7_layLight_94 rfl hS (Nat.le_of_ble_eq_true rfl) (Nat.le_of_ble_eq_true rfl) rfl (hP.sub [3, 4, 5, 6, 0, 1, 2] rfl) (hD.sub [3, 4, 5, 6, 0, 1, 2] rfl rfl)
  · skip
    refine lv_iconst (v := 1) hx hb dX7_layLight_18 (by decide) ?_
    refine lv_goto (tgt := 23) hx hb dX7_layLight_19 (by decide) ?_
    refine lv_aload_n hx hb dX7_layLight_23 rfl (lv_at hl 0 rfl) ?_
    refine lv_iload_n hx hb dX7_layLight_24 rfl (lv_at hl 1 rfl) ?_
    refine lv_iconst (v := 1) hx hb dX7_layLight_25 (by decide) ?_
    refine xc_i (wc := [kX7 m0 (nI z) m1 (nI r9) m2 m3 m4 m5 (nI n9) (nI v) m6 k1 k2 k3 k4 m7 k5 k6 k7 k8 m8 m9 m10 k9 m11 m12 m13 hv, kI cI m3 9 re, kI cI m5 27 rg, kI cI m13 3 cn]) (wr := [kI cI m2 9 ro, kJ cJ m11 80 la, kI cI m12 48 fa]) (xrV (n := 2) (As := [.int (nI j), .int 1]) (rest := [.int 1, .int (nI (16 * o9))]) (ci := 7) (q0 := 3) hd hK hP hD (g_leads_1 l D cI cJ cZ cR _ m0 m1 m2 m3 m4 m5 m6 m7 m8 m9 m10 m11 m12 m13 z r9 n9 v k1 k2 k3 k4 k5 k6 k7 k8 k9 hv j e9 re rg cn hj hej he3) (gV t_834 mV_X7_leads) hV_X7_leads ⟨(Nat.le_of_ble_eq_true rfl), (Nat.le_of_ble_eq_true rfl)⟩ rfl rfl [3, 4, 5, 6] rfl rfl rfl hl.1 rfl (Nat.le_of_ble_eq_true rfl) dX7_layLight_26 ⟨(Nat.le_of_ble_eq_true rfl), (Nat.le_of_ble_eq_true rfl)⟩) hP hD hS hA [3, 4, 5, 6] [0, 1, 2] rfl rfl rfl (by decide) (fun r_23 u_24 H locs hw_25 hP hD hS => ?_)
    have hP : va_P D vwCl [kI cI m2 9 ro, kJ cJ m11 80 la, kI cI m12 48 fa, kX7 m0 (nI z) m1 (nI r9) m2 m3 m4 m5 (nI n9) (nI v) m6 k1 k2 k3 k4 m7 k5 k6 k7 k8 m8 m9 m10 k9 m11 m12 m13 hv, kI cI m3 9 re, kI cI m5 27 rg, kI cI m13 3 cn] H := hP
    have hD : va_D A [kI cI m2 9 ro, kJ cJ m11 80 la, kI cI m12 48 fa, kX7 m0 (nI z) m1 (nI r9) m2 m3 m4 m5 (nI n9) (nI v) m6 k1 k2 k3 k4 m7 k5 k6 k7 k8 m8 m9 m10 k9 m11 m12 m13 hv, kI cI m3 9 re, kI cI m5 27 rg, kI cI m13 3 cn] := hD
    refine lv_if_eq (tgt := 36) hx hb dX7_layLight_29 (by decide) (fun c_26 => ?_) (fun c_26 => ?_)
    · skip
      refine lv_iconst (v := 0) hx hb dX7_layLight_36 (by decide) ?_
      refine lv_ior hx hb dX7_layLight_37 ?_
      refine lv_nmi (show _ = (1 : Int32) from by decide +kernel) ?_
      refine lv_aload_n hx hb dX7_layLight_38 rfl (lv_at hl 0 rfl) ?_
      refine lv_iload_n hx hb dX7_layLight_39 rfl (lv_at hl 1 rfl) ?_
      refine xc_i (wc := [kX7 m0 (nI z) m1 (nI r9) m2 m3 m4 m5 (nI n9) (nI v) m6 k1 k2 k3 k4 m7 k5 k6 k7 k8 m8 m9 m10 k9 m11 m12 m13 hv, kI cI m3 9 re, kI cI m5 27 rg, kI cI m13 3 cn]) (wr := [kI cI m2 9 ro, kJ cJ m11 80 la, kI cI m12 48 fa]) (xrV (n := 1) (As := [.int (nI j)]) (rest := [.int 1, .int (nI (16 * o9))]) (ci := 7) (q0 := 3) hd hK hP hD (c_X7_colouredBy l D cI cJ cZ cR _ m0 m1 m2 m3 m4 m5 m6 m7 m8 m9 m10 m11 m12 m13 z r9 n9 v k1 k2 k3 k4 k5 k6 k7 k8 k9 hv j e9 re rg cn hj hej he3) (gV t_838 mV_X7_colouredBy) hV_X7_colouredBy ⟨(Nat.le_of_ble_eq_true rfl), (Nat.le_of_ble_eq_true rfl)⟩ rfl rfl [3, 4, 5, 6] rfl rfl rfl hl.1 rfl (Nat.le_of_ble_eq_true rfl) dX7_layLight_40 ⟨(Nat.le_of_ble_eq_true rfl), (Nat.le_of_ble_eq_true rfl)⟩) hP hD hS hA [3, 4, 5, 6] [0, 1, 2] rfl rfl rfl (by decide) (fun r_27 u_28 H locs hw_29 hP hD hS => ?_)
      have hw_30 : B12 r_27 := hw_29
      have hB := hw_30
      have hP : va_P D vwCl [kI cI m2 9 ro, kJ cJ m11 80 la, kI cI m12 48 fa, kX7 m0 (nI z) m1 (nI r9) m2 m3 m4 m5 (nI n9) (nI v) m6 k1 k2 k3 k4 m7 k5 k6 k7 k8 m8 m9 m10 k9 m11 m12 m13 hv, kI cI m3 9 re, kI cI m5 27 rg, kI cI m13 3 cn] H := hP
      have hD : va_D A [kI cI m2 9 ro, kJ cJ m11 80 la, kI cI m12 48 fa, kX7 m0 (nI z) m1 (nI r9) m2 m3 m4 m5 (nI n9) (nI v) m6 k1 k2 k3 k4 m7 k5 k6 k7 k8 m8 m9 m10 k9 m11 m12 m13 hv, kI cI m3 9 re, kI cI m5 27 rg, kI cI m13 3 cn] := hD
      obtain ⟨k16, hk16, ek16⟩ := or12 (c := 1) (by decide) hB
      refine lv_ior hx hb dX7_layLight_43 ?_
      refine lv_nmi (show _ = (nI k16 : Int32) from ek16) ?_
      refine lv_iadd hx hb dX7_layLight_44 ?_
      refine lv_nmi (show _ = (nI ((16 * o9) + k16)) from nI_add ((16 * o9)) (k16)) ?_
      refine lv_istore (lv' := [(5, .int (nI ((16 * o9) + k16))), (0, .ref m0), (1, .int (nI j)), (2, .long p2), (4, .int 1)]) hx hb dX7_layLight_45 hl (by decide) rfl (fun ls hl => ?_)
      refine lv_iload hx hb dX7_layLight_47 (lv_at hl 4 rfl) ?_
      refine lv_if_eq (tgt := 95) hx hb dX7_layLight_49 (by decide) (fun c_31 => ?_) (fun c_31 => ?_)
      · exact absurd c_31 (by decide)
      refine lv_aload_n hx hb dX7_layLight_52 rfl (lv_at hl 1 rfl) ?_
      refine va_get (D := D) (ci := 7) (v := .ref m12) (C := RX7) (T := TX7) (N := 27) hx hb hts iT_X7 hown hK1 hP 3 rfl rfl 24 (by decide) (hts _ t_575) (fun _ h9 => h9) rfl dX7_layLight_53 ?_
      refine lv_iload hx hb dX7_layLight_56 (lv_at hl 0 rfl) ?_
      refine lv_aload_n hx hb dX7_layLight_58 rfl (lv_at hl 1 rfl) ?_
      refine va_get (D := D) (ci := 7) (v := .ref m12) (C := RX7) (T := TX7) (N := 27) hx hb hts iT_X7 hown hK1 hP 3 rfl rfl 24 (by decide) (hts _ t_575) (fun _ h9 => h9) rfl dX7_layLight_59 ?_
      refine lv_iload hx hb dX7_layLight_62 (lv_at hl 0 rfl) ?_
      refine va_iald hx hb hK1 hP 2 0 rfl rfl (vp_in_nI (by omega) (by omega)) dX7_layLight_64 ?_
      refine lv_nmi (show _ = fa ((16 * o9) + k16) from by rw [nI_clamp (n := ((16 * o9) + k16)) (by omega)]) ?_
      refine lv_iconst (v := -1) hx hb dX7_layLight_65 (by decide) ?_
      refine lv_icmp_ne (tgt := 85) hx hb dX7_layLight_66 (by decide) (fun c_32 => ?_) (fun c_32 => ?_)
      · skip
        refine lv_aload_n hx hb dX7_layLight_85 rfl (lv_at hl 1 rfl) ?_
        refine va_get (D := D) (ci := 7) (v := .ref m12) (C := RX7) (T := TX7) (N := 27) hx hb hts iT_X7 hown hK1 hP 3 rfl rfl 24 (by decide) (hts _ t_575) (fun _ h9 => h9) rfl dX7_layLight_86 ?_
        refine lv_iload hx hb dX7_layLight_89 (lv_at hl 0 rfl) ?_
        refine va_iald hx hb hK1 hP 2 0 rfl rfl (vp_in_nI (by omega) (by omega)) dX7_layLight_91 ?_
        refine lv_nmi (show _ = fa ((16 * o9) + k16) from by rw [nI_clamp (n := ((16 * o9) + k16)) (by omega)]) ?_
        refine va_iast hx hb hK1 hP hD hS 2 0 rfl rfl (vp_in_nI (by omega) (by omega)) dX7_layLight_92 (fun H locs hP hD hS => ?_)
        rw [nI_clamp (n := ((16 * o9) + k16)) (by omega)] at hP hD
        have hP : va_P D vwCl [kI cI m2 9 ro, kJ cJ m11 80 la, kI cI m12 48 (upd fa ((16 * o9) + k16) (fa ((16 * o9) + k16))), kX7 m0 (nI z) m1 (nI r9) m2 m3 m4 m5 (nI n9) (nI v) m6 k1 k2 k3 k4 m7 k5 k6 k7 k8 m8 m9 m10 k9 m11 m12 m13 hv, kI cI m3 9 re, kI cI m5 27 rg, kI cI m13 3 cn] H := hP
        have hD : va_D A [kI cI m2 9 ro, kJ cJ m11 80 la, kI cI m12 48 (upd fa ((16 * o9) + k16) (fa ((16 * o9) + k16))), kX7 m0 (nI z) m1 (nI r9) m2 m3 m4 m5 (nI n9) (nI v) m6 k1 k2 k3 k4 m7 k5 k6 k7 k8 m8 m9 m10 k9 m11 m12 m13 hv, kI cI m3 9 re, kI cI m5 27 rg, kI cI m13 3 cn] := hD
        refine lv_iconst (v := 0) hx hb dX7_layLight_93 (by decide) ?_
        exact hret _ _ _ _ _ _ 0 (upd fa ((16 * o9) + k16) (fa ((16 * o9) + k16))) dX7_layLight_94 rfl hS (Nat.le_of_ble_eq_true rfl) (Nat.le_of_ble_eq_true rfl) rfl (hP.sub [3, 4, 5, 6, 0, 1, 2] rfl) (hD.sub [3, 4, 5, 6, 0, 1, 2] rfl rfl)
      · skip
        refine lv_lload_n hx hb dX7_layLight_69 rfl (lv_at hl 3 rfl) ?_
        refine lv_aload_n hx hb dX7_layLight_70 rfl (lv_at hl 1 rfl) ?_
        refine va_get (D := D) (ci := 7) (v := .ref m11) (C := RX7) (T := TX7) (N := 27) hx hb hts iT_X7 hown hK1 hP 3 rfl rfl 23 (by decide) (hts _ t_574) (fun _ h9 => h9) rfl dX7_layLight_71 ?_
        refine lv_iload hx hb dX7_layLight_74 (lv_at hl 0 rfl) ?_
        refine va_lald hx hb hK1 hP 1 1 rfl rfl (vp_in_nI (by omega) (by omega)) dX7_layLight_76 ?_
        refine lv_nml (show _ = la ((16 * o9) + k16) from by rw [nI_clamp (n := ((16 * o9) + k16)) (by omega)]) ?_
        refine W.lcmp hx hb dX7_layLight_77 ?_
        refine lv_if_ne (tgt := 85) hx hb dX7_layLight_78 (by decide) (fun c_33 => ?_) (fun c_33 => ?_)
        · skip
          refine lv_aload_n hx hb dX7_layLight_85 rfl (lv_at hl 1 rfl) ?_
          refine va_get (D := D) (ci := 7) (v := .ref m12) (C := RX7) (T := TX7) (N := 27) hx hb hts iT_X7 hown hK1 hP 3 rfl rfl 24 (by decide) (hts _ t_575) (fun _ h9 => h9) rfl dX7_layLight_86 ?_
          refine lv_iload hx hb dX7_layLight_89 (lv_at hl 0 rfl) ?_
          refine va_iald hx hb hK1 hP 2 0 rfl rfl (vp_in_nI (by omega) (by omega)) dX7_layLight_91 ?_
          refine lv_nmi (show _ = fa ((16 * o9) + k16) from by rw [nI_clamp (n := ((16 * o9) + k16)) (by omega)]) ?_
          refine va_iast hx hb hK1 hP hD hS 2 0 rfl rfl (vp_in_nI (by omega) (by omega)) dX7_layLight_92 (fun H locs hP hD hS => ?_)
          rw [nI_clamp (n := ((16 * o9) + k16)) (by omega)] at hP hD
          have hP : va_P D vwCl [kI cI m2 9 ro, kJ cJ m11 80 la, kI cI m12 48 (upd fa ((16 * o9) + k16) (fa ((16 * o9) + k16))), kX7 m0 (nI z) m1 (nI r9) m2 m3 m4 m5 (nI n9) (nI v) m6 k1 k2 k3 k4 m7 k5 k6 k7 k8 m8 m9 m10 k9 m11 m12 m13 hv, kI cI m3 9 re, kI cI m5 27 rg, kI cI m13 3 cn] H := hP
          have hD : va_D A [kI cI m2 9 ro, kJ cJ m11 80 la, kI cI m12 48 (upd fa ((16 * o9) + k16) (fa ((16 * o9) + k16))), kX7 m0 (nI z) m1 (nI r9) m2 m3 m4 m5 (nI n9) (nI v) m6 k1 k2 k3 k4 m7 k5 k6 k7 k8 m8 m9 m10 k9 m11 m12 m13 hv, kI cI m3 9 re, kI cI m5 27 rg, kI cI m13 3 cn] := hD
          refine lv_iconst (v := 0) hx hb dX7_layLight_93 (by decide) ?_
          exact hret _ _ _ _ _ _ 0 (upd fa ((16 * o9) + k16) (fa ((16 * o9) + k16))) dX7_layLight_94 rfl hS (Nat.le_of_ble_eq_true rfl) (Nat.le_of_ble_eq_true rfl) rfl (hP.sub [3, 4, 5, 6, 0, 1, 2] rfl) (hD.sub [3, 4, 5, 6, 0, 1, 2] rfl rfl)
        · skip
          refine lv_iload_n hx hb dX7_layLight_81 rfl (lv_at hl 2 rfl) ?_
          refine lv_goto (tgt := 92) hx hb dX7_layLight_82 (by decide) ?_
          refine va_iast hx hb hK1 hP hD hS 2 0 rfl rfl (vp_in_nI (by omega) (by omega)) dX7_layLight_92 (fun H locs hP hD hS => ?_)
          rw [nI_clamp (n := ((16 * o9) + k16)) (by omega)] at hP hD
          have hP : va_P D vwCl [kI cI m2 9 ro, kJ cJ m11 80 la, kI cI m12 48 (upd fa ((16 * o9) + k16) (nI j)), kX7 m0 (nI z) m1 (nI r9) m2 m3 m4 m5 (nI n9) (nI v) m6 k1 k2 k3 k4 m7 k5 k6 k7 k8 m8 m9 m10 k9 m11 m12 m13 hv, kI cI m3 9 re, kI cI m5 27 rg, kI cI m13 3 cn] H := hP
          have hD : va_D A [kI cI m2 9 ro, kJ cJ m11 80 la, kI cI m12 48 (upd fa ((16 * o9) + k16) (nI j)), kX7 m0 (nI z) m1 (nI r9) m2 m3 m4 m5 (nI n9) (nI v) m6 k1 k2 k3 k4 m7 k5 k6 k7 k8 m8 m9 m10 k9 m11 m12 m13 hv, kI cI m3 9 re, kI cI m5 27 rg, kI cI m13 3 cn] := hD
          refine lv_iconst (v := 0) hx hb dX7_layLight_93 (by decide) ?_
          exact hret _ _ _ _ _ _ 0 (upd fa ((16 * o9) + k16) (nI j)) dX7_layLight_94 rfl hS (Nat.le_of_ble_eq_true rfl) (Nat.le_of_ble_eq_true rfl) rfl (hP.sub [3, 4, 5, 6, 0, 1, 2] rfl) (hD.sub [3, 4, 5, 6, 0, 1, 2] rfl rfl)
    · skip
      refine lv_iconst (v := 2) hx hb dX7_layLight_32 (by decide) ?_
      refine lv_goto (tgt := 37) hx hb dX7_layLight_33 (by decide) ?_
      refine lv_ior hx hb dX7_layLight_37 ?_
      refine lv_nmi (show _ = (3 : Int32) from by decide +kernel) ?_
      refine lv_aload_n hx hb dX7_layLight_38 rfl (lv_at hl 0 rfl) ?_
      refine lv_iload_n hx hb dX7_layLight_39 rfl (lv_at hl 1 rfl) ?_
      refine xc_i (wc := [kX7 m0 (nI z) m1 (nI r9) m2 m3 m4 m5 (nI n9) (nI v) m6 k1 k2 k3 k4 m7 k5 k6 k7 k8 m8 m9 m10 k9 m11 m12 m13 hv, kI cI m3 9 re, kI cI m5 27 rg, kI cI m13 3 cn]) (wr := [kI cI m2 9 ro, kJ cJ m11 80 la, kI cI m12 48 fa]) (xrV (n := 1) (As := [.int (nI j)]) (rest := [.int 3, .int (nI (16 * o9))]) (ci := 7) (q0 := 3) hd hK hP hD (c_X7_colouredBy l D cI cJ cZ cR _ m0 m1 m2 m3 m4 m5 m6 m7 m8 m9 m10 m11 m12 m13 z r9 n9 v k1 k2 k3 k4 k5 k6 k7 k8 k9 hv j e9 re rg cn hj hej he3) (gV t_838 mV_X7_colouredBy) hV_X7_colouredBy ⟨(Nat.le_of_ble_eq_true rfl), (Nat.le_of_ble_eq_true rfl)⟩ rfl rfl [3, 4, 5, 6] rfl rfl rfl hl.1 rfl (Nat.le_of_ble_eq_true rfl) dX7_layLight_40 ⟨(Nat.le_of_ble_eq_true rfl), (Nat.le_of_ble_eq_true rfl)⟩) hP hD hS hA [3, 4, 5, 6] [0, 1, 2] rfl rfl rfl (by decide) (fun r_34 u_35 H locs hw_36 hP hD hS => ?_)
      have hw_37 : B12 r_34 := hw_36
      have hB := hw_37
      have hP : va_P D vwCl [kI cI m2 9 ro, kJ cJ m11 80 la, kI cI m12 48 fa, kX7 m0 (nI z) m1 (nI r9) m2 m3 m4 m5 (nI n9) (nI v) m6 k1 k2 k3 k4 m7 k5 k6 k7 k8 m8 m9 m10 k9 m11 m12 m13 hv, kI cI m3 9 re, kI cI m5 27 rg, kI cI m13 3 cn] H := hP
      have hD : va_D A [kI cI m2 9 ro, kJ cJ m11 80 la, kI cI m12 48 fa, kX7 m0 (nI z) m1 (nI r9) m2 m3 m4 m5 (nI n9) (nI v) m6 k1 k2 k3 k4 m7 k5 k6 k7 k8 m8 m9 m10 k9 m11 m12 m13 hv, kI cI m3 9 re, kI cI m5 27 rg, kI cI m13 3 cn] := hD
      obtain ⟨k16, hk16, ek16⟩ := or12 (c := 3) (by decide) hB
      refine lv_ior hx hb dX7_layLight_43 ?_
      refine lv_nmi (show _ = (nI k16 : Int32) from ek16) ?_
      refine lv_iadd hx hb dX7_layLight_44 ?_
      refine lv_nmi (show _ = (nI ((16 * o9) + k16)) from nI_add ((16 * o9)) (k16)) ?_
      refine lv_istore (lv' := [(5, .int (nI ((16 * o9) + k16))), (0, .ref m0), (1, .int (nI j)), (2, .long p2), (4, .int 1)]) hx hb dX7_layLight_45 hl (by decide) rfl (fun ls hl => ?_)
      refine lv_iload hx hb dX7_layLight_47 (lv_at hl 4 rfl) ?_
      refine lv_if_eq (tgt := 95) hx hb dX7_layLight_49 (by decide) (fun c_38 => ?_) (fun c_38 => ?_)
      · exact absurd c_38 (by decide)
      refine lv_aload_n hx hb dX7_layLight_52 rfl (lv_at hl 1 rfl) ?_
      refine va_get (D := D) (ci := 7) (v := .ref m12) (C := RX7) (T := TX7) (N := 27) hx hb hts iT_X7 hown hK1 hP 3 rfl rfl 24 (by decide) (hts _ t_575) (fun _ h9 => h9) rfl dX7_layLight_53 ?_
      refine lv_iload hx hb dX7_layLight_56 (lv_at hl 0 rfl) ?_
      refine lv_aload_n hx hb dX7_layLight_58 rfl (lv_at hl 1 rfl) ?_
      refine va_get (D := D) (ci := 7) (v := .ref m12) (C := RX7) (T := TX7) (N := 27) hx hb hts iT_X7 hown hK1 hP 3 rfl rfl 24 (by decide) (hts _ t_575) (fun _ h9 => h9) rfl dX7_layLight_59 ?_
      refine lv_iload hx hb dX7_layLight_62 (lv_at hl 0 rfl) ?_
      refine va_iald hx hb hK1 hP 2 0 rfl rfl (vp_in_nI (by omega) (by omega)) dX7_layLight_64 ?_
      refine lv_nmi (show _ = fa ((16 * o9) + k16) from by rw [nI_clamp (n := ((16 * o9) + k16)) (by omega)]) ?_
      refine lv_iconst (v := -1) hx hb dX7_layLight_65 (by decide) ?_
      refine lv_icmp_ne (tgt := 85) hx hb dX7_layLight_66 (by decide) (fun c_39 => ?_) (fun c_39 => ?_)
      · skip
        refine lv_aload_n hx hb dX7_layLight_85 rfl (lv_at hl 1 rfl) ?_
        refine va_get (D := D) (ci := 7) (v := .ref m12) (C := RX7) (T := TX7) (N := 27) hx hb hts iT_X7 hown hK1 hP 3 rfl rfl 24 (by decide) (hts _ t_575) (fun _ h9 => h9) rfl dX7_layLight_86 ?_
        refine lv_iload hx hb dX7_layLight_89 (lv_at hl 0 rfl) ?_
        refine va_iald hx hb hK1 hP 2 0 rfl rfl (vp_in_nI (by omega) (by omega)) dX7_layLight_91 ?_
        refine lv_nmi (show _ = fa ((16 * o9) + k16) from by rw [nI_clamp (n := ((16 * o9) + k16)) (by omega)]) ?_
        refine va_iast hx hb hK1 hP hD hS 2 0 rfl rfl (vp_in_nI (by omega) (by omega)) dX7_layLight_92 (fun H locs hP hD hS => ?_)
        rw [nI_clamp (n := ((16 * o9) + k16)) (by omega)] at hP hD
        have hP : va_P D vwCl [kI cI m2 9 ro, kJ cJ m11 80 la, kI cI m12 48 (upd fa ((16 * o9) + k16) (fa ((16 * o9) + k16))), kX7 m0 (nI z) m1 (nI r9) m2 m3 m4 m5 (nI n9) (nI v) m6 k1 k2 k3 k4 m7 k5 k6 k7 k8 m8 m9 m10 k9 m11 m12 m13 hv, kI cI m3 9 re, kI cI m5 27 rg, kI cI m13 3 cn] H := hP
        have hD : va_D A [kI cI m2 9 ro, kJ cJ m11 80 la, kI cI m12 48 (upd fa ((16 * o9) + k16) (fa ((16 * o9) + k16))), kX7 m0 (nI z) m1 (nI r9) m2 m3 m4 m5 (nI n9) (nI v) m6 k1 k2 k3 k4 m7 k5 k6 k7 k8 m8 m9 m10 k9 m11 m12 m13 hv, kI cI m3 9 re, kI cI m5 27 rg, kI cI m13 3 cn] := hD
        refine lv_iconst (v := 0) hx hb dX7_layLight_93 (by decide) ?_
        exact hret _ _ _ _ _ _ 0 (upd fa ((16 * o9) + k16) (fa ((16 * o9) + k16))) dX7_layLight_94 rfl hS (Nat.le_of_ble_eq_true rfl) (Nat.le_of_ble_eq_true rfl) rfl (hP.sub [3, 4, 5, 6, 0, 1, 2] rfl) (hD.sub [3, 4, 5, 6, 0, 1, 2] rfl rfl)
      · skip
        refine lv_lload_n hx hb dX7_layLight_69 rfl (lv_at hl 3 rfl) ?_
        refine lv_aload_n hx hb dX7_layLight_70 rfl (lv_at hl 1 rfl) ?_
        refine va_get (D := D) (ci := 7) (v := .ref m11) (C := RX7) (T := TX7) (N := 27) hx hb hts iT_X7 hown hK1 hP 3 rfl rfl 23 (by decide) (hts _ t_574) (fun _ h9 => h9) rfl dX7_layLight_71 ?_
        refine lv_iload hx hb dX7_layLight_74 (lv_at hl 0 rfl) ?_
        refine va_lald hx hb hK1 hP 1 1 rfl rfl (vp_in_nI (by omega) (by omega)) dX7_layLight_76 ?_
        refine lv_nml (show _ = la ((16 * o9) + k16) from by rw [nI_clamp (n := ((16 * o9) + k16)) (by omega)]) ?_
        refine W.lcmp hx hb dX7_layLight_77 ?_
        refine lv_if_ne (tgt := 85) hx hb dX7_layLight_78 (by decide) (fun c_40 => ?_) (fun c_40 => ?_)
        · skip
          refine lv_aload_n hx hb dX7_layLight_85 rfl (lv_at hl 1 rfl) ?_
          refine va_get (D := D) (ci := 7) (v := .ref m12) (C := RX7) (T := TX7) (N := 27) hx hb hts iT_X7 hown hK1 hP 3 rfl rfl 24 (by decide) (hts _ t_575) (fun _ h9 => h9) rfl dX7_layLight_86 ?_
          refine lv_iload hx hb dX7_layLight_89 (lv_at hl 0 rfl) ?_
          refine va_iald hx hb hK1 hP 2 0 rfl rfl (vp_in_nI (by omega) (by omega)) dX7_layLight_91 ?_
          refine lv_nmi (show _ = fa ((16 * o9) + k16) from by rw [nI_clamp (n := ((16 * o9) + k16)) (by omega)]) ?_
          refine va_iast hx hb hK1 hP hD hS 2 0 rfl rfl (vp_in_nI (by omega) (by omega)) dX7_layLight_92 (fun H locs hP hD hS => ?_)
          rw [nI_clamp (n := ((16 * o9) + k16)) (by omega)] at hP hD
          have hP : va_P D vwCl [kI cI m2 9 ro, kJ cJ m11 80 la, kI cI m12 48 (upd fa ((16 * o9) + k16) (fa ((16 * o9) + k16))), kX7 m0 (nI z) m1 (nI r9) m2 m3 m4 m5 (nI n9) (nI v) m6 k1 k2 k3 k4 m7 k5 k6 k7 k8 m8 m9 m10 k9 m11 m12 m13 hv, kI cI m3 9 re, kI cI m5 27 rg, kI cI m13 3 cn] H := hP
          have hD : va_D A [kI cI m2 9 ro, kJ cJ m11 80 la, kI cI m12 48 (upd fa ((16 * o9) + k16) (fa ((16 * o9) + k16))), kX7 m0 (nI z) m1 (nI r9) m2 m3 m4 m5 (nI n9) (nI v) m6 k1 k2 k3 k4 m7 k5 k6 k7 k8 m8 m9 m10 k9 m11 m12 m13 hv, kI cI m3 9 re, kI cI m5 27 rg, kI cI m13 3 cn] := hD
          refine lv_iconst (v := 0) hx hb dX7_layLight_93 (by decide) ?_
          exact hret _ _ _ _ _ _ 0 (upd fa ((16 * o9) + k16) (fa ((16 * o9) + k16))) dX7_layLight_94 rfl hS (Nat.le_of_ble_eq_true rfl) (Nat.le_of_ble_eq_true rfl) rfl (hP.sub [3, 4, 5, 6, 0, 1, 2] rfl) (hD.sub [3, 4, 5, 6, 0, 1, 2] rfl rfl)
        · skip
          refine lv_iload_n hx hb dX7_layLight_81 rfl (lv_at hl 2 rfl) ?_
          refine lv_goto (tgt := 92) hx hb dX7_layLight_82 (by decide) ?_
          refine va_iast hx hb hK1 hP hD hS 2 0 rfl rfl (vp_in_nI (by omega) (by omega)) dX7_layLight_92 (fun H locs hP hD hS => ?_)
          rw [nI_clamp (n := ((16 * o9) + k16)) (by omega)] at hP hD
          have hP : va_P D vwCl [kI cI m2 9 ro, kJ cJ m11 80 la, kI cI m12 48 (upd fa ((16 * o9) + k16) (nI j)), kX7 m0 (nI z) m1 (nI r9) m2 m3 m4 m5 (nI n9) (nI v) m6 k1 k2 k3 k4 m7 k5 k6 k7 k8 m8 m9 m10 k9 m11 m12 m13 hv, kI cI m3 9 re, kI cI m5 27 rg, kI cI m13 3 cn] H := hP
          have hD : va_D A [kI cI m2 9 ro, kJ cJ m11 80 la, kI cI m12 48 (upd fa ((16 * o9) + k16) (nI j)), kX7 m0 (nI z) m1 (nI r9) m2 m3 m4 m5 (nI n9) (nI v) m6 k1 k2 k3 k4 m7 k5 k6 k7 k8 m8 m9 m10 k9 m11 m12 m13 hv, kI cI m3 9 re, kI cI m5 27 rg, kI cI m13 3 cn] := hD
          refine lv_iconst (v := 0) hx hb dX7_layLight_93 (by decide) ?_
          exact hret _ _ _ _ _ _ 0 (upd fa ((16 * o9) + k16) (nI j)) dX7_layLight_94 rfl hS (Nat.le_of_ble_eq_true rfl) (Nat.le_of_ble_eq_true rfl) rfl (hP.sub [3, 4, 5, 6, 0, 1, 2] rfl) (hD.sub [3, 4, 5, 6, 0, 1, 2] rfl rfl)
end
