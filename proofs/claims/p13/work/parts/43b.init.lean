theorem mI_X0_init : Cond.code yX0_init cX0_init 2 none ∈ gT ∧ Cond.initialized yX0_init.cls ∈ gT ∧ Cond.instanceMethod yX0_init ∈ gT := ⟨t_53, t_5, t_52⟩
theorem hS_X0_init : yX0_init.cls ≠ "java/lang/invoke/MethodHandle" ∧ yX0_init.cls ≠ "java/lang/invoke/VarHandle" ∧ (parseMethodDescriptor yX0_init.desc).map (fun d => d.parameters.length) = some 1 := by decide +kernel
theorem mI_X3_init : Cond.code yX3_init cX3_init 1 none ∈ gT ∧ Cond.initialized yX3_init.cls ∈ gT ∧ Cond.instanceMethod yX3_init ∈ gT := ⟨t_24, t_2, t_23⟩
theorem hS_X3_init : yX3_init.cls ≠ "java/lang/invoke/MethodHandle" ∧ yX3_init.cls ≠ "java/lang/invoke/VarHandle" ∧ (parseMethodDescriptor yX3_init.desc).map (fun d => d.parameters.length) = some 0 := by decide +kernel
theorem mI_X4_init : Cond.code yX4_init cX4_init 1 none ∈ gT ∧ Cond.initialized yX4_init.cls ∈ gT ∧ Cond.instanceMethod yX4_init ∈ gT := ⟨t_47, t_4, t_46⟩
theorem hS_X4_init : yX4_init.cls ≠ "java/lang/invoke/MethodHandle" ∧ yX4_init.cls ≠ "java/lang/invoke/VarHandle" ∧ (parseMethodDescriptor yX4_init.desc).map (fun d => d.parameters.length) = some 0 := by decide +kernel
theorem mI_X5_init : Cond.code yX5_init cX5_init 2 none ∈ gT ∧ Cond.initialized yX5_init.cls ∈ gT ∧ Cond.instanceMethod yX5_init ∈ gT := ⟨t_40, t_3, t_39⟩
theorem hS_X5_init : yX5_init.cls ≠ "java/lang/invoke/MethodHandle" ∧ yX5_init.cls ≠ "java/lang/invoke/VarHandle" ∧ (parseMethodDescriptor yX5_init.desc).map (fun d => d.parameters.length) = some 0 := by decide +kernel
theorem mI_X2_init : Cond.code yX2_init cX2_init 1 none ∈ gT ∧ Cond.initialized yX2_init.cls ∈ gT ∧ Cond.instanceMethod yX2_init ∈ gT := ⟨t_121, t_6, t_120⟩
theorem hS_X2_init : yX2_init.cls ≠ "java/lang/invoke/MethodHandle" ∧ yX2_init.cls ≠ "java/lang/invoke/VarHandle" ∧ (parseMethodDescriptor yX2_init.desc).map (fun d => d.parameters.length) = some 0 := by decide +kernel
theorem mI_X1_init : Cond.code yX1_init cX1_init 1 none ∈ gT ∧ Cond.initialized yX1_init.cls ∈ gT ∧ Cond.instanceMethod yX1_init ∈ gT := ⟨t_134, t_7, t_133⟩
theorem hS_X1_init : yX1_init.cls ≠ "java/lang/invoke/MethodHandle" ∧ yX1_init.cls ≠ "java/lang/invoke/VarHandle" ∧ (parseMethodDescriptor yX1_init.desc).map (fun d => d.parameters.length) = some 0 := by decide +kernel
theorem mI_X6_init : Cond.code yX6_init cX6_init 1 none ∈ gT ∧ Cond.initialized yX6_init.cls ∈ gT ∧ Cond.instanceMethod yX6_init ∈ gT := ⟨t_16, t_1, t_15⟩
theorem hS_X6_init : yX6_init.cls ≠ "java/lang/invoke/MethodHandle" ∧ yX6_init.cls ≠ "java/lang/invoke/VarHandle" ∧ (parseMethodDescriptor yX6_init.desc).map (fun d => d.parameters.length) = some 0 := by decide +kernel
theorem mI_X7_init : Cond.code yX7_init cX7_init 1 none ∈ gT ∧ Cond.initialized yX7_init.cls ∈ gT ∧ Cond.instanceMethod yX7_init ∈ gT := ⟨t_549, t_8, t_548⟩
theorem hS_X7_init : yX7_init.cls ≠ "java/lang/invoke/MethodHandle" ∧ yX7_init.cls ≠ "java/lang/invoke/VarHandle" ∧ (parseMethodDescriptor yX7_init.desc).map (fun d => d.parameters.length) = some 0 := by decide +kernel
theorem pm_1 {c0 c1 c2 : Nat × va_E} : List.Perm ([c0, c1, c2] : va_W) ([c2] ++ [c0, c1]) := pick_perm 3 rfl [2] [0, 1] (by decide +kernel) rfl rfl
theorem pm_2 {c0 c1 c2 c3 c4 c5 c6 c7 c8 c9 : Nat × va_E} : List.Perm ([c0, c1, c2, c3, c4, c5, c6, c7, c8, c9] : va_W) ([c0, c1, c2, c3, c4, c5, c6, c7, c8, c9] ++ []) := pick_perm 10 rfl [0, 1, 2, 3, 4, 5, 6, 7, 8, 9] [] (by decide +kernel) rfl rfl
theorem pm_3 {c0 c1 : Nat × va_E} : List.Perm ([c0, c1] : va_W) ([c0, c1] ++ []) := pick_perm 2 rfl [0, 1] [] (by decide +kernel) rfl rfl
theorem pm_4 {c0 c1 c2 c3 c4 c5 : Nat × va_E} : List.Perm ([c0, c1, c2, c3, c4, c5] : va_W) ([c5] ++ [c0, c1, c2, c3, c4]) := pick_perm 6 rfl [5] [0, 1, 2, 3, 4] (by decide +kernel) rfl rfl
theorem pm_5 {c0 c1 c2 c3 c4 c5 c6 c7 c8 c9 : Nat × va_E} : List.Perm ([c0, c1, c2, c3, c4, c5, c6, c7, c8, c9] : va_W) ([c9] ++ [c0, c1, c2, c3, c4, c5, c6, c7, c8]) := pick_perm 10 rfl [9] [0, 1, 2, 3, 4, 5, 6, 7, 8] (by decide +kernel) rfl rfl
theorem pm_6 {c0 c1 c2 c3 c4 c5 c6 c7 c8 c9 c10 c11 c12 : Nat × va_E} : List.Perm ([c0, c1, c2, c3, c4, c5, c6, c7, c8, c9, c10, c11, c12] : va_W) ([c12] ++ [c0, c1, c2, c3, c4, c5, c6, c7, c8, c9, c10, c11]) := pick_perm 13 rfl [12] [0, 1, 2, 3, 4, 5, 6, 7, 8, 9, 10, 11] (by decide +kernel) rfl rfl
theorem pm_7 {c0 c1 c2 c3 c4 c5 c6 c7 c8 c9 c10 c11 c12 c13 c14 c15 c16 c17 : Nat × va_E} : List.Perm ([c0, c1, c2, c3, c4, c5, c6, c7, c8, c9, c10, c11, c12, c13, c14, c15, c16, c17] : va_W) ([c0, c1, c2, c3, c4, c5, c6, c7, c8, c9, c10, c11, c12, c13, c14, c15, c16, c17] ++ []) := pick_perm 18 rfl [0, 1, 2, 3, 4, 5, 6, 7, 8, 9, 10, 11, 12, 13, 14, 15, 16, 17] [] (by decide +kernel) rfl rfl
theorem dX0_init_0 : decode cX0_init 0 = .ok (.aload_n 0, 1) := by decide +kernel
theorem dX0_init_1 : decode cX0_init 1 = .ok (.invokespecial 3, 3) := by decide +kernel
theorem dX0_init_4 : decode cX0_init 4 = .ok (.aload_n 0, 1) := by decide +kernel
theorem dX0_init_5 : decode cX0_init 5 = .ok (.iconst 0, 1) := by decide +kernel
theorem dX0_init_6 : decode cX0_init 6 = .ok (.putfield 9, 3) := by decide +kernel
theorem dX0_init_9 : decode cX0_init 9 = .ok (.aload_n 0, 1) := by decide +kernel
theorem dX0_init_10 : decode cX0_init 10 = .ok (.iconst 0, 1) := by decide +kernel
theorem dX0_init_11 : decode cX0_init 11 = .ok (.putfield 15, 3) := by decide +kernel
theorem dX0_init_14 : decode cX0_init 14 = .ok (.aload_n 0, 1) := by decide +kernel
theorem dX0_init_15 : decode cX0_init 15 = .ok (.iload_n 1, 1) := by decide +kernel
theorem dX0_init_16 : decode cX0_init 16 = .ok (.newarray .int, 2) := by decide +kernel
theorem dX0_init_18 : decode cX0_init 18 = .ok (.putfield 18, 3) := by decide +kernel
theorem dX0_init_21 : decode cX0_init 21 = .ok (.aload_n 0, 1) := by decide +kernel
theorem dX0_init_22 : decode cX0_init 22 = .ok (.iload_n 1, 1) := by decide +kernel
theorem dX0_init_23 : decode cX0_init 23 = .ok (.newarray .int, 2) := by decide +kernel
theorem dX0_init_25 : decode cX0_init 25 = .ok (.putfield 22, 3) := by decide +kernel
theorem dX0_init_28 : decode cX0_init 28 = .ok (.aload_n 0, 1) := by decide +kernel
theorem dX0_init_29 : decode cX0_init 29 = .ok (.iload_n 1, 1) := by decide +kernel
theorem dX0_init_30 : decode cX0_init 30 = .ok (.newarray .int, 2) := by decide +kernel
theorem dX0_init_32 : decode cX0_init 32 = .ok (.putfield 25, 3) := by decide +kernel
theorem dX0_init_35 : decode cX0_init 35 = .ok (.return_, 1) := by decide +kernel
theorem dX1_init_0 : decode cX1_init 0 = .ok (.aload_n 0, 1) := by decide +kernel
theorem dX1_init_1 : decode cX1_init 1 = .ok (.invokespecial 3, 3) := by decide +kernel
theorem dX1_init_4 : decode cX1_init 4 = .ok (.aload_n 0, 1) := by decide +kernel
theorem dX1_init_5 : decode cX1_init 5 = .ok (.bipush 96, 2) := by decide +kernel
theorem dX1_init_7 : decode cX1_init 7 = .ok (.newarray .long, 2) := by decide +kernel
theorem dX1_init_9 : decode cX1_init 9 = .ok (.putfield 11, 3) := by decide +kernel
theorem dX1_init_12 : decode cX1_init 12 = .ok (.aload_n 0, 1) := by decide +kernel
theorem dX1_init_13 : decode cX1_init 13 = .ok (.bipush 96, 2) := by decide +kernel
theorem dX1_init_15 : decode cX1_init 15 = .ok (.newarray .int, 2) := by decide +kernel
theorem dX1_init_17 : decode cX1_init 17 = .ok (.putfield 15, 3) := by decide +kernel
theorem dX1_init_20 : decode cX1_init 20 = .ok (.aload_n 0, 1) := by decide +kernel
theorem dX1_init_21 : decode cX1_init 21 = .ok (.bipush 96, 2) := by decide +kernel
theorem dX1_init_23 : decode cX1_init 23 = .ok (.newarray .boolean, 2) := by decide +kernel
theorem dX1_init_25 : decode cX1_init 25 = .ok (.putfield 19, 3) := by decide +kernel
theorem dX1_init_28 : decode cX1_init 28 = .ok (.aload_n 0, 1) := by decide +kernel
theorem dX1_init_29 : decode cX1_init 29 = .ok (.bipush 96, 2) := by decide +kernel
theorem dX1_init_31 : decode cX1_init 31 = .ok (.newarray .int, 2) := by decide +kernel
theorem dX1_init_33 : decode cX1_init 33 = .ok (.putfield 23, 3) := by decide +kernel
theorem dX1_init_36 : decode cX1_init 36 = .ok (.aload_n 0, 1) := by decide +kernel
theorem dX1_init_37 : decode cX1_init 37 = .ok (.bipush 6, 2) := by decide +kernel
theorem dX1_init_39 : decode cX1_init 39 = .ok (.newarray .int, 2) := by decide +kernel
theorem dX1_init_41 : decode cX1_init 41 = .ok (.putfield 26, 3) := by decide +kernel
theorem dX1_init_44 : decode cX1_init 44 = .ok (.return_, 1) := by decide +kernel
theorem dX2_init_0 : decode cX2_init 0 = .ok (.aload_n 0, 1) := by decide +kernel
theorem dX2_init_1 : decode cX2_init 1 = .ok (.invokespecial 3, 3) := by decide +kernel
theorem dX2_init_4 : decode cX2_init 4 = .ok (.aload_n 0, 1) := by decide +kernel
theorem dX2_init_5 : decode cX2_init 5 = .ok (.sipush 2400, 3) := by decide +kernel
theorem dX2_init_8 : decode cX2_init 8 = .ok (.newarray .int, 2) := by decide +kernel
theorem dX2_init_10 : decode cX2_init 10 = .ok (.putfield 11, 3) := by decide +kernel
theorem dX2_init_13 : decode cX2_init 13 = .ok (.aload_n 0, 1) := by decide +kernel
theorem dX2_init_14 : decode cX2_init 14 = .ok (.iconst 4, 1) := by decide +kernel
theorem dX2_init_15 : decode cX2_init 15 = .ok (.newarray .int, 2) := by decide +kernel
theorem dX2_init_17 : decode cX2_init 17 = .ok (.putfield 15, 3) := by decide +kernel
theorem dX2_init_20 : decode cX2_init 20 = .ok (.return_, 1) := by decide +kernel
theorem dX3_init_0 : decode cX3_init 0 = .ok (.aload_n 0, 1) := by decide +kernel
theorem dX3_init_1 : decode cX3_init 1 = .ok (.invokespecial 3, 3) := by decide +kernel
theorem dX3_init_4 : decode cX3_init 4 = .ok (.aload_n 0, 1) := by decide +kernel
theorem dX3_init_5 : decode cX3_init 5 = .ok (.bipush 16, 2) := by decide +kernel
theorem dX3_init_7 : decode cX3_init 7 = .ok (.newarray .int, 2) := by decide +kernel
theorem dX3_init_9 : decode cX3_init 9 = .ok (.putfield 9, 3) := by decide +kernel
theorem dX3_init_12 : decode cX3_init 12 = .ok (.aload_n 0, 1) := by decide +kernel
theorem dX3_init_13 : decode cX3_init 13 = .ok (.iconst 0, 1) := by decide +kernel
theorem dX3_init_14 : decode cX3_init 14 = .ok (.putfield 15, 3) := by decide +kernel
theorem dX3_init_17 : decode cX3_init 17 = .ok (.return_, 1) := by decide +kernel
theorem dX4_init_0 : decode cX4_init 0 = .ok (.aload_n 0, 1) := by decide +kernel
theorem dX4_init_1 : decode cX4_init 1 = .ok (.invokespecial 3, 3) := by decide +kernel
theorem dX4_init_4 : decode cX4_init 4 = .ok (.aload_n 0, 1) := by decide +kernel
theorem dX4_init_5 : decode cX4_init 5 = .ok (.iconst 0, 1) := by decide +kernel
theorem dX4_init_6 : decode cX4_init 6 = .ok (.putfield 9, 3) := by decide +kernel
theorem dX4_init_9 : decode cX4_init 9 = .ok (.aload_n 0, 1) := by decide +kernel
theorem dX4_init_10 : decode cX4_init 10 = .ok (.new 15, 3) := by decide +kernel
theorem dX4_init_13 : decode cX4_init 13 = .ok (.dup, 1) := by decide +kernel
theorem dX4_init_14 : decode cX4_init 14 = .ok (.iconst 3, 1) := by decide +kernel
theorem dX4_init_15 : decode cX4_init 15 = .ok (.invokespecial 17, 3) := by decide +kernel
theorem dX4_init_18 : decode cX4_init 18 = .ok (.putfield 20, 3) := by decide +kernel
theorem dX4_init_21 : decode cX4_init 21 = .ok (.aload_n 0, 1) := by decide +kernel
theorem dX4_init_22 : decode cX4_init 22 = .ok (.iconst 3, 1) := by decide +kernel
theorem dX4_init_23 : decode cX4_init 23 = .ok (.newarray .int, 2) := by decide +kernel
theorem dX4_init_25 : decode cX4_init 25 = .ok (.putfield 24, 3) := by decide +kernel
theorem dX4_init_28 : decode cX4_init 28 = .ok (.aload_n 0, 1) := by decide +kernel
theorem dX4_init_29 : decode cX4_init 29 = .ok (.bipush 64, 2) := by decide +kernel
theorem dX4_init_31 : decode cX4_init 31 = .ok (.newarray .int, 2) := by decide +kernel
theorem dX4_init_33 : decode cX4_init 33 = .ok (.putfield 28, 3) := by decide +kernel
theorem dX4_init_36 : decode cX4_init 36 = .ok (.aload_n 0, 1) := by decide +kernel
theorem dX4_init_37 : decode cX4_init 37 = .ok (.bipush 64, 2) := by decide +kernel
theorem dX4_init_39 : decode cX4_init 39 = .ok (.newarray .int, 2) := by decide +kernel
theorem dX4_init_41 : decode cX4_init 41 = .ok (.putfield 31, 3) := by decide +kernel
theorem dX4_init_44 : decode cX4_init 44 = .ok (.return_, 1) := by decide +kernel
theorem dX5_init_0 : decode cX5_init 0 = .ok (.aload_n 0, 1) := by decide +kernel
theorem dX5_init_1 : decode cX5_init 1 = .ok (.invokespecial 3, 3) := by decide +kernel
theorem dX5_init_4 : decode cX5_init 4 = .ok (.aload_n 0, 1) := by decide +kernel
theorem dX5_init_5 : decode cX5_init 5 = .ok (.bipush 9, 2) := by decide +kernel
theorem dX5_init_7 : decode cX5_init 7 = .ok (.anewarray 9, 3) := by decide +kernel
theorem dX5_init_10 : decode cX5_init 10 = .ok (.putfield 11, 3) := by decide +kernel
theorem dX5_init_13 : decode cX5_init 13 = .ok (.aload_n 0, 1) := by decide +kernel
theorem dX5_init_14 : decode cX5_init 14 = .ok (.iconst 0, 1) := by decide +kernel
theorem dX5_init_15 : decode cX5_init 15 = .ok (.putfield 17, 3) := by decide +kernel
theorem dX5_init_18 : decode cX5_init 18 = .ok (.iconst 0, 1) := by decide +kernel
theorem dX5_init_19 : decode cX5_init 19 = .ok (.istore_n 1, 1) := by decide +kernel
theorem dX5_init_20 : decode cX5_init 20 = .ok (.iload_n 1, 1) := by decide +kernel
theorem dX5_init_21 : decode cX5_init 21 = .ok (.aload_n 0, 1) := by decide +kernel
theorem dX5_init_22 : decode cX5_init 22 = .ok (.getfield 11, 3) := by decide +kernel
theorem dX5_init_25 : decode cX5_init 25 = .ok (.arraylength, 1) := by decide +kernel
theorem dX5_init_26 : decode cX5_init 26 = .ok (.if_icmp .ge 22, 3) := by decide +kernel
theorem dX5_init_29 : decode cX5_init 29 = .ok (.aload_n 0, 1) := by decide +kernel
theorem dX5_init_30 : decode cX5_init 30 = .ok (.getfield 11, 3) := by decide +kernel
theorem dX5_init_33 : decode cX5_init 33 = .ok (.iload_n 1, 1) := by decide +kernel
theorem dX5_init_34 : decode cX5_init 34 = .ok (.new 9, 3) := by decide +kernel
theorem dX5_init_37 : decode cX5_init 37 = .ok (.dup, 1) := by decide +kernel
theorem dX5_init_38 : decode cX5_init 38 = .ok (.invokespecial 21, 3) := by decide +kernel
theorem dX5_init_41 : decode cX5_init 41 = .ok (.aastore, 1) := by decide +kernel
theorem dX5_init_42 : decode cX5_init 42 = .ok (.iinc 1 1, 3) := by decide +kernel
theorem dX5_init_45 : decode cX5_init 45 = .ok (.goto (-25), 3) := by decide +kernel
theorem dX5_init_48 : decode cX5_init 48 = .ok (.return_, 1) := by decide +kernel
theorem dX6_init_0 : decode cX6_init 0 = .ok (.aload_n 0, 1) := by decide +kernel
theorem dX6_init_1 : decode cX6_init 1 = .ok (.invokespecial 1, 3) := by decide +kernel
theorem dX6_init_4 : decode cX6_init 4 = .ok (.aload_n 0, 1) := by decide +kernel
theorem dX6_init_5 : decode cX6_init 5 = .ok (.new 7, 3) := by decide +kernel
theorem dX6_init_8 : decode cX6_init 8 = .ok (.dup, 1) := by decide +kernel
theorem dX6_init_9 : decode cX6_init 9 = .ok (.invokespecial 9, 3) := by decide +kernel
theorem dX6_init_12 : decode cX6_init 12 = .ok (.putfield 10, 3) := by decide +kernel
theorem dX6_init_15 : decode cX6_init 15 = .ok (.aload_n 0, 1) := by decide +kernel
theorem dX6_init_16 : decode cX6_init 16 = .ok (.new 16, 3) := by decide +kernel
theorem dX6_init_19 : decode cX6_init 19 = .ok (.dup, 1) := by decide +kernel
theorem dX6_init_20 : decode cX6_init 20 = .ok (.invokespecial 18, 3) := by decide +kernel
theorem dX6_init_23 : decode cX6_init 23 = .ok (.putfield 19, 3) := by decide +kernel
theorem dX6_init_26 : decode cX6_init 26 = .ok (.aload_n 0, 1) := by decide +kernel
theorem dX6_init_27 : decode cX6_init 27 = .ok (.new 23, 3) := by decide +kernel
theorem dX6_init_30 : decode cX6_init 30 = .ok (.dup, 1) := by decide +kernel
theorem dX6_init_31 : decode cX6_init 31 = .ok (.bipush 12, 2) := by decide +kernel
theorem dX6_init_33 : decode cX6_init 33 = .ok (.invokespecial 25, 3) := by decide +kernel
theorem dX6_init_36 : decode cX6_init 36 = .ok (.putfield 28, 3) := by decide +kernel
theorem dX6_init_39 : decode cX6_init 39 = .ok (.aload_n 0, 1) := by decide +kernel
theorem dX6_init_40 : decode cX6_init 40 = .ok (.new 32, 3) := by decide +kernel
theorem dX6_init_43 : decode cX6_init 43 = .ok (.dup, 1) := by decide +kernel
theorem dX6_init_44 : decode cX6_init 44 = .ok (.invokespecial 34, 3) := by decide +kernel
theorem dX6_init_47 : decode cX6_init 47 = .ok (.putfield 35, 3) := by decide +kernel
theorem dX6_init_50 : decode cX6_init 50 = .ok (.aload_n 0, 1) := by decide +kernel
theorem dX6_init_51 : decode cX6_init 51 = .ok (.new 39, 3) := by decide +kernel
theorem dX6_init_54 : decode cX6_init 54 = .ok (.dup, 1) := by decide +kernel
theorem dX6_init_55 : decode cX6_init 55 = .ok (.invokespecial 41, 3) := by decide +kernel
theorem dX6_init_58 : decode cX6_init 58 = .ok (.putfield 42, 3) := by decide +kernel
theorem dX6_init_61 : decode cX6_init 61 = .ok (.aload_n 0, 1) := by decide +kernel
theorem dX6_init_62 : decode cX6_init 62 = .ok (.iconst 0, 1) := by decide +kernel
theorem dX6_init_63 : decode cX6_init 63 = .ok (.putfield 46, 3) := by decide +kernel
theorem dX6_init_66 : decode cX6_init 66 = .ok (.aload_n 0, 1) := by decide +kernel
theorem dX6_init_67 : decode cX6_init 67 = .ok (.iconst 0, 1) := by decide +kernel
theorem dX6_init_68 : decode cX6_init 68 = .ok (.putfield 50, 3) := by decide +kernel
theorem dX6_init_71 : decode cX6_init 71 = .ok (.aload_n 0, 1) := by decide +kernel
theorem dX6_init_72 : decode cX6_init 72 = .ok (.iconst 0, 1) := by decide +kernel
theorem dX6_init_73 : decode cX6_init 73 = .ok (.putfield 53, 3) := by decide +kernel
theorem dX6_init_76 : decode cX6_init 76 = .ok (.aload_n 0, 1) := by decide +kernel
theorem dX6_init_77 : decode cX6_init 77 = .ok (.iconst 0, 1) := by decide +kernel
theorem dX6_init_78 : decode cX6_init 78 = .ok (.putfield 57, 3) := by decide +kernel
theorem dX6_init_81 : decode cX6_init 81 = .ok (.aload_n 0, 1) := by decide +kernel
theorem dX6_init_82 : decode cX6_init 82 = .ok (.iconst 0, 1) := by decide +kernel
theorem dX6_init_83 : decode cX6_init 83 = .ok (.putfield 60, 3) := by decide +kernel
theorem dX6_init_86 : decode cX6_init 86 = .ok (.return_, 1) := by decide +kernel
theorem dX7_init_0 : decode cX7_init 0 = .ok (.aload_n 0, 1) := by decide +kernel
theorem dX7_init_1 : decode cX7_init 1 = .ok (.invokespecial 1, 3) := by decide +kernel
theorem dX7_init_4 : decode cX7_init 4 = .ok (.aload_n 0, 1) := by decide +kernel
theorem dX7_init_5 : decode cX7_init 5 = .ok (.bipush 16, 2) := by decide +kernel
theorem dX7_init_7 : decode cX7_init 7 = .ok (.newarray .int, 2) := by decide +kernel
theorem dX7_init_9 : decode cX7_init 9 = .ok (.putfield 7, 3) := by decide +kernel
theorem dX7_init_12 : decode cX7_init 12 = .ok (.aload_n 0, 1) := by decide +kernel
theorem dX7_init_13 : decode cX7_init 13 = .ok (.bipush 9, 2) := by decide +kernel
theorem dX7_init_15 : decode cX7_init 15 = .ok (.newarray .int, 2) := by decide +kernel
theorem dX7_init_17 : decode cX7_init 17 = .ok (.putfield 13, 3) := by decide +kernel
theorem dX7_init_20 : decode cX7_init 20 = .ok (.aload_n 0, 1) := by decide +kernel
theorem dX7_init_21 : decode cX7_init 21 = .ok (.bipush 9, 2) := by decide +kernel
theorem dX7_init_23 : decode cX7_init 23 = .ok (.newarray .int, 2) := by decide +kernel
theorem dX7_init_25 : decode cX7_init 25 = .ok (.putfield 16, 3) := by decide +kernel
theorem dX7_init_28 : decode cX7_init 28 = .ok (.aload_n 0, 1) := by decide +kernel
theorem dX7_init_29 : decode cX7_init 29 = .ok (.bipush 9, 2) := by decide +kernel
theorem dX7_init_31 : decode cX7_init 31 = .ok (.newarray .int, 2) := by decide +kernel
theorem dX7_init_33 : decode cX7_init 33 = .ok (.putfield 19, 3) := by decide +kernel
theorem dX7_init_36 : decode cX7_init 36 = .ok (.aload_n 0, 1) := by decide +kernel
theorem dX7_init_37 : decode cX7_init 37 = .ok (.bipush 27, 2) := by decide +kernel
theorem dX7_init_39 : decode cX7_init 39 = .ok (.newarray .int, 2) := by decide +kernel
theorem dX7_init_41 : decode cX7_init 41 = .ok (.putfield 22, 3) := by decide +kernel
theorem dX7_init_44 : decode cX7_init 44 = .ok (.aload_n 0, 1) := by decide +kernel
theorem dX7_init_45 : decode cX7_init 45 = .ok (.bipush 12, 2) := by decide +kernel
theorem dX7_init_47 : decode cX7_init 47 = .ok (.newarray .int, 2) := by decide +kernel
theorem dX7_init_49 : decode cX7_init 49 = .ok (.putfield 25, 3) := by decide +kernel
theorem dX7_init_52 : decode cX7_init 52 = .ok (.aload_n 0, 1) := by decide +kernel
theorem dX7_init_53 : decode cX7_init 53 = .ok (.iconst 5, 1) := by decide +kernel
theorem dX7_init_54 : decode cX7_init 54 = .ok (.newarray .int, 2) := by decide +kernel
theorem dX7_init_56 : decode cX7_init 56 = .ok (.putfield 28, 3) := by decide +kernel
theorem dX7_init_59 : decode cX7_init 59 = .ok (.aload_n 0, 1) := by decide +kernel
theorem dX7_init_60 : decode cX7_init 60 = .ok (.sipush 2400, 3) := by decide +kernel
theorem dX7_init_63 : decode cX7_init 63 = .ok (.newarray .int, 2) := by decide +kernel
theorem dX7_init_65 : decode cX7_init 65 = .ok (.putfield 31, 3) := by decide +kernel
theorem dX7_init_68 : decode cX7_init 68 = .ok (.aload_n 0, 1) := by decide +kernel
theorem dX7_init_69 : decode cX7_init 69 = .ok (.bipush 32, 2) := by decide +kernel
theorem dX7_init_71 : decode cX7_init 71 = .ok (.newarray .int, 2) := by decide +kernel
theorem dX7_init_73 : decode cX7_init 73 = .ok (.putfield 34, 3) := by decide +kernel
theorem dX7_init_76 : decode cX7_init 76 = .ok (.aload_n 0, 1) := by decide +kernel
theorem dX7_init_77 : decode cX7_init 77 = .ok (.iconst 4, 1) := by decide +kernel
theorem dX7_init_78 : decode cX7_init 78 = .ok (.newarray .int, 2) := by decide +kernel
theorem dX7_init_80 : decode cX7_init 80 = .ok (.putfield 37, 3) := by decide +kernel
theorem dX7_init_83 : decode cX7_init 83 = .ok (.aload_n 0, 1) := by decide +kernel
theorem dX7_init_84 : decode cX7_init 84 = .ok (.bipush 80, 2) := by decide +kernel
theorem dX7_init_86 : decode cX7_init 86 = .ok (.newarray .long, 2) := by decide +kernel
theorem dX7_init_88 : decode cX7_init 88 = .ok (.putfield 40, 3) := by decide +kernel
theorem dX7_init_91 : decode cX7_init 91 = .ok (.aload_n 0, 1) := by decide +kernel
theorem dX7_init_92 : decode cX7_init 92 = .ok (.bipush 48, 2) := by decide +kernel
theorem dX7_init_94 : decode cX7_init 94 = .ok (.newarray .int, 2) := by decide +kernel
theorem dX7_init_96 : decode cX7_init 96 = .ok (.putfield 44, 3) := by decide +kernel
theorem dX7_init_99 : decode cX7_init 99 = .ok (.aload_n 0, 1) := by decide +kernel
theorem dX7_init_100 : decode cX7_init 100 = .ok (.iconst 3, 1) := by decide +kernel
theorem dX7_init_101 : decode cX7_init 101 = .ok (.newarray .int, 2) := by decide +kernel
theorem dX7_init_103 : decode cX7_init 103 = .ok (.putfield 47, 3) := by decide +kernel
theorem dX7_init_106 : decode cX7_init 106 = .ok (.return_, 1) := by decide +kernel
section
variable (l : Launch) (D : va_G) (cI cJ cZ cR : ClassId)
set_option maxHeartbeats 4000000 in
set_option maxRecDepth 100000 in
theorem c_X0_init_12 (sz : Nat) (h0 : Nat)  : CTv l D cI cJ cZ cR yX0_init cX0_init 2 none 1 24 3 36 sz [.ref h0, .int 12] [(h0, .inr (0, [.null, .null, .null, .int 0, .int 0]))] (fun (u : Nat × Nat × Nat) => True) (fun (u : Nat × Nat × Nat) => [kX0 h0 u.1 u.2.1 u.2.2 0 0, kI cI u.1 12 (fun _ => 0), kI cI u.2.1 12 (fun _ => 0), kI cI u.2.2 12 (fun _ => 0)]) := by
  refine CTv.of (by decide) (Nat.le_of_ble_eq_true rfl) rfl ?_
  intro p e s m below meth c A Q ls hd hin hK hsz hP hD hA hS hl hret
  obtain ⟨hx, hb, hml, hown, hts⟩ := id hd
  have hK1 := hK.1
  have hown : s.vm.findClass RX0 = some m.cls := hown
  have hin : meth.name = "<init>" := hin
  have hl : lv_has ls 2 [(0, .ref h0), (1, .int 12)] := hl
  refine lv_aload_n hx hb dX0_init_0 rfl (lv_at hl 0 rfl) ?_
  refine W.objInit hx hb hown (hts _ t_54) (hts _ t_18) (hts _ t_19) rfl (by rw [hml]; exact hl.1) rfl dX0_init_1 (Nat.le_of_ble_eq_true rfl) (Nat.le_of_ble_eq_true rfl) ?_
  refine W.eq (g2 := F0 m 4 ls []) rfl ?_
  refine lv_aload_n hx hb dX0_init_4 rfl (lv_at hl 0 rfl) ?_
  refine lv_iconst (v := 0) hx hb dX0_init_5 (by decide) ?_
  refine va_put (D := D) (ci := 0) (v := .int 0) (ty := .int) (C := RX0) (T := TX0) (N := 5) hx hb hts iT_X0 tyX0 tyX0_ok nmX0 hown hK1 hP hD hS 0 rfl rfl 3 (by decide) (hts _ t_62) (fun _ h9 => h9) rfl (by decide +kernel) rfl rfl (Nat.le_of_ble_eq_true rfl) dX0_init_6 (fun H locs hP hD hS => ?_)
  have hP : va_P D vwCl [(h0, .inr (0, [.null, .null, .null, .int 0, .int 0]))] H := hP
  have hD : va_D A [(h0, .inr (0, [.null, .null, .null, .int 0, .int 0]))] := hD
  refine lv_aload_n hx hb dX0_init_9 rfl (lv_at hl 0 rfl) ?_
  refine lv_iconst (v := 0) hx hb dX0_init_10 (by decide) ?_
  refine va_put (D := D) (ci := 0) (v := .int 0) (ty := .int) (C := RX0) (T := TX0) (N := 5) hx hb hts iT_X0 tyX0 tyX0_ok nmX0 hown hK1 hP hD hS 0 rfl rfl 4 (by decide) (hts _ t_65) (fun _ h9 => h9) rfl (by decide +kernel) rfl rfl (Nat.le_of_ble_eq_true rfl) dX0_init_11 (fun H locs hP hD hS => ?_)
  have hP : va_P D vwCl [(h0, .inr (0, [.null, .null, .null, .int 0, .int 0]))] H := hP
  have hD : va_D A [(h0, .inr (0, [.null, .null, .null, .int 0, .int 0]))] := hD
  refine lv_aload_n hx hb dX0_init_14 rfl (lv_at hl 0 rfl) ?_
  refine lv_iload_n hx hb dX0_init_15 rfl (lv_at hl 1 rfl) ?_
  refine nw_I (N' := 12) hx hb (hts _ t_35) hK hP hD hS hA (by decide) (by decide) (by decide) (Nat.le_of_ble_eq_true rfl) (Nat.le_of_ble_eq_true rfl) dX0_init_16 (fun q_1 H hP hD hS => ?_)
  have hP : va_P D vwCl [(h0, .inr (0, [.null, .null, .null, .int 0, .int 0])), kI cI q_1 12 (fun _ => 0)] H := hP
  have hD : va_D A [(h0, .inr (0, [.null, .null, .null, .int 0, .int 0])), kI cI q_1 12 (fun _ => 0)] := hD
  refine W.widen (k := 1) (n := 12) (Nat.le_of_ble_eq_true rfl) (Nat.le_of_ble_eq_true rfl) ?_
  refine va_putF (D := D) (ci := 0) (v := .ref q_1) (ty := (.array .int)) (C := RX0) (T := TX0) (N := 5) hx hb hts iT_X0 tyX0 tyX0_ok nmX0 hown hK1 hP hD hS 0 rfl rfl 0 (by decide) (hts _ t_55) (fun _ h9 => h9) rfl hin rfl (by decide +kernel) rfl rfl (Nat.le_of_ble_eq_true rfl) dX0_init_18 (fun H locs hP hD hS => ?_)
  have hP : va_P D vwCl [(h0, .inr (0, [.ref q_1, .null, .null, .int 0, .int 0])), kI cI q_1 12 (fun _ => 0)] H := hP
  have hD : va_D A [(h0, .inr (0, [.ref q_1, .null, .null, .int 0, .int 0])), kI cI q_1 12 (fun _ => 0)] := hD
  refine lv_aload_n hx hb dX0_init_21 rfl (lv_at hl 0 rfl) ?_
  refine lv_iload_n hx hb dX0_init_22 rfl (lv_at hl 1 rfl) ?_
  refine nw_I (N' := 12) hx hb (hts _ t_35) hK hP hD hS hA (by decide) (by decide) (by decide) (Nat.le_of_ble_eq_true rfl) (Nat.le_of_ble_eq_true rfl) dX0_init_23 (fun q_2 H hP hD hS => ?_)
  have hP : va_P D vwCl [(h0, .inr (0, [.ref q_1, .null, .null, .int 0, .int 0])), kI cI q_1 12 (fun _ => 0), kI cI q_2 12 (fun _ => 0)] H := hP
  have hD : va_D A [(h0, .inr (0, [.ref q_1, .null, .null, .int 0, .int 0])), kI cI q_1 12 (fun _ => 0), kI cI q_2 12 (fun _ => 0)] := hD
  refine W.widen (k := 2) (n := 24) (Nat.le_of_ble_eq_true rfl) (Nat.le_of_ble_eq_true rfl) ?_
  refine va_putF (D := D) (ci := 0) (v := .ref q_2) (ty := (.array .int)) (C := RX0) (T := TX0) (N := 5) hx hb hts iT_X0 tyX0 tyX0_ok nmX0 hown hK1 hP hD hS 0 rfl rfl 1 (by decide) (hts _ t_58) (fun _ h9 => h9) rfl hin rfl (by decide +kernel) rfl rfl (Nat.le_of_ble_eq_true rfl) dX0_init_25 (fun H locs hP hD hS => ?_)
  have hP : va_P D vwCl [(h0, .inr (0, [.ref q_1, .ref q_2, .null, .int 0, .int 0])), kI cI q_1 12 (fun _ => 0), kI cI q_2 12 (fun _ => 0)] H := hP
  have hD : va_D A [(h0, .inr (0, [.ref q_1, .ref q_2, .null, .int 0, .int 0])), kI cI q_1 12 (fun _ => 0), kI cI q_2 12 (fun _ => 0)] := hD
  refine lv_aload_n hx hb dX0_init_28 rfl (lv_at hl 0 rfl) ?_
  refine lv_iload_n hx hb dX0_init_29 rfl (lv_at hl 1 rfl) ?_
  refine nw_I (N' := 12) hx hb (hts _ t_35) hK hP hD hS hA (by decide) (by decide) (by decide) (Nat.le_of_ble_eq_true rfl) (Nat.le_of_ble_eq_true rfl) dX0_init_30 (fun q_3 H hP hD hS => ?_)
  have hP : va_P D vwCl [(h0, .inr (0, [.ref q_1, .ref q_2, .null, .int 0, .int 0])), kI cI q_1 12 (fun _ => 0), kI cI q_2 12 (fun _ => 0), kI cI q_3 12 (fun _ => 0)] H := hP
  have hD : va_D A [(h0, .inr (0, [.ref q_1, .ref q_2, .null, .int 0, .int 0])), kI cI q_1 12 (fun _ => 0), kI cI q_2 12 (fun _ => 0), kI cI q_3 12 (fun _ => 0)] := hD
  refine W.widen (k := 3) (n := 36) (Nat.le_of_ble_eq_true rfl) (Nat.le_of_ble_eq_true rfl) ?_
  refine va_putF (D := D) (ci := 0) (v := .ref q_3) (ty := (.array .int)) (C := RX0) (T := TX0) (N := 5) hx hb hts iT_X0 tyX0 tyX0_ok nmX0 hown hK1 hP hD hS 0 rfl rfl 2 (by decide) (hts _ t_60) (fun _ h9 => h9) rfl hin rfl (by decide +kernel) rfl rfl (Nat.le_of_ble_eq_true rfl) dX0_init_32 (fun H locs hP hD hS => ?_)
  have hP : va_P D vwCl [kX0 h0 q_1 q_2 q_3 0 0, kI cI q_1 12 (fun _ => 0), kI cI q_2 12 (fun _ => 0), kI cI q_3 12 (fun _ => 0)] H := hP
  have hD : va_D A [kX0 h0 q_1 q_2 q_3 0 0, kI cI q_1 12 (fun _ => 0), kI cI q_2 12 (fun _ => 0), kI cI q_3 12 (fun _ => 0)] := hD
  exact hret _ _ _ _ _ _ (q_1, q_2, q_3) dX0_init_35 hS (Nat.le_of_ble_eq_true rfl) (Nat.le_of_ble_eq_true rfl) trivial (hP.sub [0, 1, 2, 3] rfl) (hD.sub [0, 1, 2, 3] rfl rfl)
set_option maxHeartbeats 4000000 in
set_option maxRecDepth 100000 in
theorem c_X0_init_3 (sz : Nat) (h0 : Nat)  : CTv l D cI cJ cZ cR yX0_init cX0_init 2 none 1 24 3 9 sz [.ref h0, .int 3] [(h0, .inr (0, [.null, .null, .null, .int 0, .int 0]))] (fun (u : Nat × Nat × Nat) => True) (fun (u : Nat × Nat × Nat) => [kX0 h0 u.1 u.2.1 u.2.2 0 0, kI cI u.1 3 (fun _ => 0), kI cI u.2.1 3 (fun _ => 0), kI cI u.2.2 3 (fun _ => 0)]) := by
  refine CTv.of (by decide) (Nat.le_of_ble_eq_true rfl) rfl ?_
  intro p e s m below meth c A Q ls hd hin hK hsz hP hD hA hS hl hret
  obtain ⟨hx, hb, hml, hown, hts⟩ := id hd
  have hK1 := hK.1
  have hown : s.vm.findClass RX0 = some m.cls := hown
  have hin : meth.name = "<init>" := hin
  have hl : lv_has ls 2 [(0, .ref h0), (1, .int 3)] := hl
  refine lv_aload_n hx hb dX0_init_0 rfl (lv_at hl 0 rfl) ?_
  refine W.objInit hx hb hown (hts _ t_54) (hts _ t_18) (hts _ t_19) rfl (by rw [hml]; exact hl.1) rfl dX0_init_1 (Nat.le_of_ble_eq_true rfl) (Nat.le_of_ble_eq_true rfl) ?_
  refine W.eq (g2 := F0 m 4 ls []) rfl ?_
  refine lv_aload_n hx hb dX0_init_4 rfl (lv_at hl 0 rfl) ?_
  refine lv_iconst (v := 0) hx hb dX0_init_5 (by decide) ?_
  refine va_put (D := D) (ci := 0) (v := .int 0) (ty := .int) (C := RX0) (T := TX0) (N := 5) hx hb hts iT_X0 tyX0 tyX0_ok nmX0 hown hK1 hP hD hS 0 rfl rfl 3 (by decide) (hts _ t_62) (fun _ h9 => h9) rfl (by decide +kernel) rfl rfl (Nat.le_of_ble_eq_true rfl) dX0_init_6 (fun H locs hP hD hS => ?_)
  have hP : va_P D vwCl [(h0, .inr (0, [.null, .null, .null, .int 0, .int 0]))] H := hP
  have hD : va_D A [(h0, .inr (0, [.null, .null, .null, .int 0, .int 0]))] := hD
  refine lv_aload_n hx hb dX0_init_9 rfl (lv_at hl 0 rfl) ?_
  refine lv_iconst (v := 0) hx hb dX0_init_10 (by decide) ?_
  refine va_put (D := D) (ci := 0) (v := .int 0) (ty := .int) (C := RX0) (T := TX0) (N := 5) hx hb hts iT_X0 tyX0 tyX0_ok nmX0 hown hK1 hP hD hS 0 rfl rfl 4 (by decide) (hts _ t_65) (fun _ h9 => h9) rfl (by decide +kernel) rfl rfl (Nat.le_of_ble_eq_true rfl) dX0_init_11 (fun H locs hP hD hS => ?_)
  have hP : va_P D vwCl [(h0, .inr (0, [.null, .null, .null, .int 0, .int 0]))] H := hP
  have hD : va_D A [(h0, .inr (0, [.null, .null, .null, .int 0, .int 0]))] := hD
  refine lv_aload_n hx hb dX0_init_14 rfl (lv_at hl 0 rfl) ?_
  refine lv_iload_n hx hb dX0_init_15 rfl (lv_at hl 1 rfl) ?_
  refine nw_I (N' := 3) hx hb (hts _ t_35) hK hP hD hS hA (by decide) (by decide) (by decide) (Nat.le_of_ble_eq_true rfl) (Nat.le_of_ble_eq_true rfl) dX0_init_16 (fun q_1 H hP hD hS => ?_)
  have hP : va_P D vwCl [(h0, .inr (0, [.null, .null, .null, .int 0, .int 0])), kI cI q_1 3 (fun _ => 0)] H := hP
  have hD : va_D A [(h0, .inr (0, [.null, .null, .null, .int 0, .int 0])), kI cI q_1 3 (fun _ => 0)] := hD
  refine W.widen (k := 1) (n := 3) (Nat.le_of_ble_eq_true rfl) (Nat.le_of_ble_eq_true rfl) ?_
  refine va_putF (D := D) (ci := 0) (v := .ref q_1) (ty := (.array .int)) (C := RX0) (T := TX0) (N := 5) hx hb hts iT_X0 tyX0 tyX0_ok nmX0 hown hK1 hP hD hS 0 rfl rfl 0 (by decide) (hts _ t_55) (fun _ h9 => h9) rfl hin rfl (by decide +kernel) rfl rfl (Nat.le_of_ble_eq_true rfl) dX0_init_18 (fun H locs hP hD hS => ?_)
  have hP : va_P D vwCl [(h0, .inr (0, [.ref q_1, .null, .null, .int 0, .int 0])), kI cI q_1 3 (fun _ => 0)] H := hP
  have hD : va_D A [(h0, .inr (0, [.ref q_1, .null, .null, .int 0, .int 0])), kI cI q_1 3 (fun _ => 0)] := hD
  refine lv_aload_n hx hb dX0_init_21 rfl (lv_at hl 0 rfl) ?_
  refine lv_iload_n hx hb dX0_init_22 rfl (lv_at hl 1 rfl) ?_
  refine nw_I (N' := 3) hx hb (hts _ t_35) hK hP hD hS hA (by decide) (by decide) (by decide) (Nat.le_of_ble_eq_true rfl) (Nat.le_of_ble_eq_true rfl) dX0_init_23 (fun q_2 H hP hD hS => ?_)
  have hP : va_P D vwCl [(h0, .inr (0, [.ref q_1, .null, .null, .int 0, .int 0])), kI cI q_1 3 (fun _ => 0), kI cI q_2 3 (fun _ => 0)] H := hP
  have hD : va_D A [(h0, .inr (0, [.ref q_1, .null, .null, .int 0, .int 0])), kI cI q_1 3 (fun _ => 0), kI cI q_2 3 (fun _ => 0)] := hD
  refine W.widen (k := 2) (n := 6) (Nat.le_of_ble_eq_true rfl) (Nat.le_of_ble_eq_true rfl) ?_
  refine va_putF (D := D) (ci := 0) (v := .ref q_2) (ty := (.array .int)) (C := RX0) (T := TX0) (N := 5) hx hb hts iT_X0 tyX0 tyX0_ok nmX0 hown hK1 hP hD hS 0 rfl rfl 1 (by decide) (hts _ t_58) (fun _ h9 => h9) rfl hin rfl (by decide +kernel) rfl rfl (Nat.le_of_ble_eq_true rfl) dX0_init_25 (fun H locs hP hD hS => ?_)
  have hP : va_P D vwCl [(h0, .inr (0, [.ref q_1, .ref q_2, .null, .int 0, .int 0])), kI cI q_1 3 (fun _ => 0), kI cI q_2 3 (fun _ => 0)] H := hP
  have hD : va_D A [(h0, .inr (0, [.ref q_1, .ref q_2, .null, .int 0, .int 0])), kI cI q_1 3 (fun _ => 0), kI cI q_2 3 (fun _ => 0)] := hD
  refine lv_aload_n hx hb dX0_init_28 rfl (lv_at hl 0 rfl) ?_
  refine lv_iload_n hx hb dX0_init_29 rfl (lv_at hl 1 rfl) ?_
  refine nw_I (N' := 3) hx hb (hts _ t_35) hK hP hD hS hA (by decide) (by decide) (by decide) (Nat.le_of_ble_eq_true rfl) (Nat.le_of_ble_eq_true rfl) dX0_init_30 (fun q_3 H hP hD hS => ?_)
  have hP : va_P D vwCl [(h0, .inr (0, [.ref q_1, .ref q_2, .null, .int 0, .int 0])), kI cI q_1 3 (fun _ => 0), kI cI q_2 3 (fun _ => 0), kI cI q_3 3 (fun _ => 0)] H := hP
  have hD : va_D A [(h0, .inr (0, [.ref q_1, .ref q_2, .null, .int 0, .int 0])), kI cI q_1 3 (fun _ => 0), kI cI q_2 3 (fun _ => 0), kI cI q_3 3 (fun _ => 0)] := hD
  refine W.widen (k := 3) (n := 9) (Nat.le_of_ble_eq_true rfl) (Nat.le_of_ble_eq_true rfl) ?_
  refine va_putF (D := D) (ci := 0) (v := .ref q_3) (ty := (.array .int)) (C := RX0) (T := TX0) (N := 5) hx hb hts iT_X0 tyX0 tyX0_ok nmX0 hown hK1 hP hD hS 0 rfl rfl 2 (by decide) (hts _ t_60) (fun _ h9 => h9) rfl hin rfl (by decide +kernel) rfl rfl (Nat.le_of_ble_eq_true rfl) dX0_init_32 (fun H locs hP hD hS => ?_)
  have hP : va_P D vwCl [kX0 h0 q_1 q_2 q_3 0 0, kI cI q_1 3 (fun _ => 0), kI cI q_2 3 (fun _ => 0), kI cI q_3 3 (fun _ => 0)] H := hP
  have hD : va_D A [kX0 h0 q_1 q_2 q_3 0 0, kI cI q_1 3 (fun _ => 0), kI cI q_2 3 (fun _ => 0), kI cI q_3 3 (fun _ => 0)] := hD
  exact hret _ _ _ _ _ _ (q_1, q_2, q_3) dX0_init_35 hS (Nat.le_of_ble_eq_true rfl) (Nat.le_of_ble_eq_true rfl) trivial (hP.sub [0, 1, 2, 3] rfl) (hD.sub [0, 1, 2, 3] rfl rfl)
set_option maxHeartbeats 4000000 in
set_option maxRecDepth 100000 in
theorem c_X3_init (sz : Nat) (h0 : Nat)  : CTv l D cI cJ cZ cR yX3_init cX3_init 1 none 1 24 1 16 sz [.ref h0] [(h0, .inr (3, [.null, .int 0]))] (fun (u : Nat) => True) (fun (u : Nat) => [kX3 h0 u 0, kI cI u 16 (fun _ => 0)]) := by
  refine CTv.of (by decide) (Nat.le_of_ble_eq_true rfl) rfl ?_
  intro p e s m below meth c A Q ls hd hin hK hsz hP hD hA hS hl hret
  obtain ⟨hx, hb, hml, hown, hts⟩ := id hd
  have hK1 := hK.1
  have hown : s.vm.findClass RX3 = some m.cls := hown
  have hin : meth.name = "<init>" := hin
  have hl : lv_has ls 1 [(0, .ref h0)] := hl
  refine lv_aload_n hx hb dX3_init_0 rfl (lv_at hl 0 rfl) ?_
  refine W.objInit hx hb hown (hts _ t_25) (hts _ t_18) (hts _ t_19) rfl (by rw [hml]; exact hl.1) rfl dX3_init_1 (Nat.le_of_ble_eq_true rfl) (Nat.le_of_ble_eq_true rfl) ?_
  refine W.eq (g2 := F0 m 4 ls []) rfl ?_
  refine lv_aload_n hx hb dX3_init_4 rfl (lv_at hl 0 rfl) ?_
  refine lv_bipush (v := 16) hx hb dX3_init_5 (by decide) ?_
  refine nw_I (N' := 16) hx hb (hts _ t_35) hK hP hD hS hA (by decide) (by decide) (by decide) (Nat.le_of_ble_eq_true rfl) (Nat.le_of_ble_eq_true rfl) dX3_init_7 (fun q_1 H hP hD hS => ?_)
  have hP : va_P D vwCl [(h0, .inr (3, [.null, .int 0])), kI cI q_1 16 (fun _ => 0)] H := hP
  have hD : va_D A [(h0, .inr (3, [.null, .int 0])), kI cI q_1 16 (fun _ => 0)] := hD
  refine W.widen (k := 1) (n := 16) (Nat.le_of_ble_eq_true rfl) (Nat.le_of_ble_eq_true rfl) ?_
  refine va_putF (D := D) (ci := 3) (v := .ref q_1) (ty := (.array .int)) (C := RX3) (T := TX3) (N := 2) hx hb hts iT_X3 tyX3 tyX3_ok nmX3 hown hK1 hP hD hS 0 rfl rfl 0 (by decide) (hts _ t_26) (fun _ h9 => h9) rfl hin rfl (by decide +kernel) rfl rfl (Nat.le_of_ble_eq_true rfl) dX3_init_9 (fun H locs hP hD hS => ?_)
  have hP : va_P D vwCl [kX3 h0 q_1 0, kI cI q_1 16 (fun _ => 0)] H := hP
  have hD : va_D A [kX3 h0 q_1 0, kI cI q_1 16 (fun _ => 0)] := hD
  refine lv_aload_n hx hb dX3_init_12 rfl (lv_at hl 0 rfl) ?_
  refine lv_iconst (v := 0) hx hb dX3_init_13 (by decide) ?_
  refine va_put (D := D) (ci := 3) (v := .int 0) (ty := .int) (C := RX3) (T := TX3) (N := 2) hx hb hts iT_X3 tyX3 tyX3_ok nmX3 hown hK1 hP hD hS 0 rfl rfl 1 (by decide) (hts _ t_28) (fun _ h9 => h9) rfl (by decide +kernel) rfl rfl (Nat.le_of_ble_eq_true rfl) dX3_init_14 (fun H locs hP hD hS => ?_)
  have hP : va_P D vwCl [kX3 h0 q_1 0, kI cI q_1 16 (fun _ => 0)] H := hP
  have hD : va_D A [kX3 h0 q_1 0, kI cI q_1 16 (fun _ => 0)] := hD
  exact hret _ _ _ _ _ _ q_1 dX3_init_17 hS (Nat.le_of_ble_eq_true rfl) (Nat.le_of_ble_eq_true rfl) trivial (hP.sub [0, 1] rfl) (hD.sub [0, 1] rfl rfl)
set_option maxHeartbeats 4000000 in
set_option maxRecDepth 100000 in
theorem c_X4_init (sz : Nat) (h0 : Nat)  : CTv l D cI cJ cZ cR yX4_init cX4_init 1 none 2 45 7 145 sz [.ref h0] [(h0, .inr (4, [.int 0, .null, .null, .null, .null]))] (fun (u : Nat × Nat × Nat × Nat × Nat × Nat × Nat) => True) (fun (u : Nat × Nat × Nat × Nat × Nat × Nat × Nat) => [kX4 h0 0 u.1 u.2.2.2.2.1 u.2.2.2.2.2.1 u.2.2.2.2.2.2, kX0 u.1 u.2.1 u.2.2.1 u.2.2.2.1 0 0, kI cI u.2.1 3 (fun _ => 0), kI cI u.2.2.1 3 (fun _ => 0), kI cI u.2.2.2.1 3 (fun _ => 0), kI cI u.2.2.2.2.1 3 (fun _ => 0), kI cI u.2.2.2.2.2.1 64 (fun _ => 0), kI cI u.2.2.2.2.2.2 64 (fun _ => 0)]) := by
  refine CTv.of (by decide) (Nat.le_of_ble_eq_true rfl) rfl ?_
  intro p e s m below meth c A Q ls hd hin hK hsz hP hD hA hS hl hret
  obtain ⟨hx, hb, hml, hown, hts⟩ := id hd
  have hK1 := hK.1
  have hown : s.vm.findClass RX4 = some m.cls := hown
  have hin : meth.name = "<init>" := hin
  have hl : lv_has ls 1 [(0, .ref h0)] := hl
  refine lv_aload_n hx hb dX4_init_0 rfl (lv_at hl 0 rfl) ?_
  refine W.objInit hx hb hown (hts _ t_48) (hts _ t_18) (hts _ t_19) rfl (by rw [hml]; exact hl.1) rfl dX4_init_1 (Nat.le_of_ble_eq_true rfl) (Nat.le_of_ble_eq_true rfl) ?_
  refine W.eq (g2 := F0 m 4 ls []) rfl ?_
  refine lv_aload_n hx hb dX4_init_4 rfl (lv_at hl 0 rfl) ?_
  refine lv_iconst (v := 0) hx hb dX4_init_5 (by decide) ?_
  refine va_put (D := D) (ci := 4) (v := .int 0) (ty := .int) (C := RX4) (T := TX4) (N := 5) hx hb hts iT_X4 tyX4 tyX4_ok nmX4 hown hK1 hP hD hS 0 rfl rfl 0 (by decide) (hts _ t_79) (fun _ h9 => h9) rfl (by decide +kernel) rfl rfl (Nat.le_of_ble_eq_true rfl) dX4_init_6 (fun H locs hP hD hS => ?_)
  have hP : va_P D vwCl [(h0, .inr (4, [.int 0, .null, .null, .null, .null]))] H := hP
  have hD : va_D A [(h0, .inr (4, [.int 0, .null, .null, .null, .null]))] := hD
  refine lv_aload_n hx hb dX4_init_9 rfl (lv_at hl 0 rfl) ?_
  refine va_new (ci := 0) (fs := [.null, .null, .null, .int 0, .int 0]) (C := RX0) (T := TX0) (N := 5) hx hb hts iT_X0 tyX0 tyX0_ok hown (hts _ t_49) (hts _ t_50) (hts _ t_5) hK1 hP hD hS hA rfl df_X0 (Nat.le_of_ble_eq_true rfl) (Nat.le_of_ble_eq_true rfl) dX4_init_10 (fun q_1 H hP hD hS => ?_)
  have hP : va_P D vwCl [(h0, .inr (4, [.int 0, .null, .null, .null, .null])), (q_1, .inr (0, [.null, .null, .null, .int 0, .int 0]))] H := hP
  have hD : va_D A [(h0, .inr (4, [.int 0, .null, .null, .null, .null])), (q_1, .inr (0, [.null, .null, .null, .int 0, .int 0]))] := hD
  refine W.widen (k := 1) (n := 5) (Nat.le_of_ble_eq_true rfl) (Nat.le_of_ble_eq_true rfl) ?_
  refine lv_dup hx hb dX4_init_13 rfl ?_
  refine lv_iconst (v := 3) hx hb dX4_init_14 (by decide) ?_
  refine xc_v (wc := [(q_1, .inr (0, [.null, .null, .null, .int 0, .int 0]))]) (wr := [(h0, .inr (4, [.int 0, .null, .null, .null, .null]))]) (xrI (n := 1) (As := [.int 3]) (rest := [.ref q_1, .ref h0]) hd hK hP hD (c_X0_init_3 l D cI cJ cZ cR _ q_1 ) mI_X0_init.1 mI_X0_init.2.1 t_51 mI_X0_init.2.2 rfl hS_X0_init ⟨(Nat.le_of_ble_eq_true rfl), (Nat.le_of_ble_eq_true rfl)⟩ [1] rfl rfl rfl hl.1 rfl (Nat.le_of_ble_eq_true rfl) dX4_init_15 ⟨(Nat.le_of_ble_eq_true rfl), (Nat.le_of_ble_eq_true rfl)⟩) hP hD hS hA [1] [0] rfl rfl rfl (by decide) (fun u_3 H locs hw_4 hP hD hS => ?_)
  obtain ⟨a1_5, a2_6, a3_7⟩ := u_3
  have hP : va_P D vwCl [(h0, .inr (4, [.int 0, .null, .null, .null, .null])), kX0 q_1 a1_5 a2_6 a3_7 0 0, kI cI a1_5 3 (fun _ => 0), kI cI a2_6 3 (fun _ => 0), kI cI a3_7 3 (fun _ => 0)] H := hP
  have hD : va_D A [(h0, .inr (4, [.int 0, .null, .null, .null, .null])), kX0 q_1 a1_5 a2_6 a3_7 0 0, kI cI a1_5 3 (fun _ => 0), kI cI a2_6 3 (fun _ => 0), kI cI a3_7 3 (fun _ => 0)] := hD
  refine W.widen (k := 4) (n := 14) (Nat.le_of_ble_eq_true rfl) (Nat.le_of_ble_eq_true rfl) ?_
  refine va_putF (D := D) (ci := 4) (v := .ref q_1) (ty := (.object "GrownGraphs$Figure")) (C := RX4) (T := TX4) (N := 5) hx hb hts iT_X4 tyX4 tyX4_ok nmX4 hown hK1 hP hD hS 0 rfl rfl 1 (by decide) (hts _ t_83) (fun _ h9 => h9) rfl hin rfl (by decide +kernel) rfl rfl (Nat.le_of_ble_eq_true rfl) dX4_init_18 (fun H locs hP hD hS => ?_)
  have hP : va_P D vwCl [(h0, .inr (4, [.int 0, .ref q_1, .null, .null, .null])), kX0 q_1 a1_5 a2_6 a3_7 0 0, kI cI a1_5 3 (fun _ => 0), kI cI a2_6 3 (fun _ => 0), kI cI a3_7 3 (fun _ => 0)] H := hP
  have hD : va_D A [(h0, .inr (4, [.int 0, .ref q_1, .null, .null, .null])), kX0 q_1 a1_5 a2_6 a3_7 0 0, kI cI a1_5 3 (fun _ => 0), kI cI a2_6 3 (fun _ => 0), kI cI a3_7 3 (fun _ => 0)] := hD
  refine lv_aload_n hx hb dX4_init_21 rfl (lv_at hl 0 rfl) ?_
  refine lv_iconst (v := 3) hx hb dX4_init_22 (by decide) ?_
  refine nw_I (N' := 3) hx hb (hts _ t_35) hK hP hD hS hA (by decide) (by decide) (by decide) (Nat.le_of_ble_eq_true rfl) (Nat.le_of_ble_eq_true rfl) dX4_init_23 (fun q_8 H hP hD hS => ?_)
  have hP : va_P D vwCl [(h0, .inr (4, [.int 0, .ref q_1, .null, .null, .null])), kX0 q_1 a1_5 a2_6 a3_7 0 0, kI cI a1_5 3 (fun _ => 0), kI cI a2_6 3 (fun _ => 0), kI cI a3_7 3 (fun _ => 0), kI cI q_8 3 (fun _ => 0)] H := hP
  have hD : va_D A [(h0, .inr (4, [.int 0, .ref q_1, .null, .null, .null])), kX0 q_1 a1_5 a2_6 a3_7 0 0, kI cI a1_5 3 (fun _ => 0), kI cI a2_6 3 (fun _ => 0), kI cI a3_7 3 (fun _ => 0), kI cI q_8 3 (fun _ => 0)] := hD
  refine W.widen (k := 5) (n := 17) (Nat.le_of_ble_eq_true rfl) (Nat.le_of_ble_eq_true rfl) ?_
  refine va_putF (D := D) (ci := 4) (v := .ref q_8) (ty := (.array .int)) (C := RX4) (T := TX4) (N := 5) hx hb hts iT_X4 tyX4 tyX4_ok nmX4 hown hK1 hP hD hS 0 rfl rfl 2 (by decide) (hts _ t_86) (fun _ h9 => h9) rfl hin rfl (by decide +kernel) rfl rfl (Nat.le_of_ble_eq_true rfl) dX4_init_25 (fun H locs hP hD hS => ?_)
  have hP : va_P D vwCl [(h0, .inr (4, [.int 0, .ref q_1, .ref q_8, .null, .null])), kX0 q_1 a1_5 a2_6 a3_7 0 0, kI cI a1_5 3 (fun _ => 0), kI cI a2_6 3 (fun _ => 0), kI cI a3_7 3 (fun _ => 0), kI cI q_8 3 (fun _ => 0)] H := hP
  have hD : va_D A [(h0, .inr (4, [.int 0, .ref q_1, .ref q_8, .null, .null])), kX0 q_1 a1_5 a2_6 a3_7 0 0, kI cI a1_5 3 (fun _ => 0), kI cI a2_6 3 (fun _ => 0), kI cI a3_7 3 (fun _ => 0), kI cI q_8 3 (fun _ => 0)] := hD
  refine lv_aload_n hx hb dX4_init_28 rfl (lv_at hl 0 rfl) ?_
  refine lv_bipush (v := 64) hx hb dX4_init_29 (by decide) ?_
  refine nw_I (N' := 64) hx hb (hts _ t_35) hK hP hD hS hA (by decide) (by decide) (by decide) (Nat.le_of_ble_eq_true rfl) (Nat.le_of_ble_eq_true rfl) dX4_init_31 (fun q_9 H hP hD hS => ?_)
  have hP : va_P D vwCl [(h0, .inr (4, [.int 0, .ref q_1, .ref q_8, .null, .null])), kX0 q_1 a1_5 a2_6 a3_7 0 0, kI cI a1_5 3 (fun _ => 0), kI cI a2_6 3 (fun _ => 0), kI cI a3_7 3 (fun _ => 0), kI cI q_8 3 (fun _ => 0), kI cI q_9 64 (fun _ => 0)] H := hP
  have hD : va_D A [(h0, .inr (4, [.int 0, .ref q_1, .ref q_8, .null, .null])), kX0 q_1 a1_5 a2_6 a3_7 0 0, kI cI a1_5 3 (fun _ => 0), kI cI a2_6 3 (fun _ => 0), kI cI a3_7 3 (fun _ => 0), kI cI q_8 3 (fun _ => 0), kI cI q_9 64 (fun _ => 0)] := hD
  refine W.widen (k := 6) (n := 81) (Nat.le_of_ble_eq_true rfl) (Nat.le_of_ble_eq_true rfl) ?_
  refine va_putF (D := D) (ci := 4) (v := .ref q_9) (ty := (.array .int)) (C := RX4) (T := TX4) (N := 5) hx hb hts iT_X4 tyX4 tyX4_ok nmX4 hown hK1 hP hD hS 0 rfl rfl 3 (by decide) (hts _ t_89) (fun _ h9 => h9) rfl hin rfl (by decide +kernel) rfl rfl (Nat.le_of_ble_eq_true rfl) dX4_init_33 (fun H locs hP hD hS => ?_)
  have hP : va_P D vwCl [(h0, .inr (4, [.int 0, .ref q_1, .ref q_8, .ref q_9, .null])), kX0 q_1 a1_5 a2_6 a3_7 0 0, kI cI a1_5 3 (fun _ => 0), kI cI a2_6 3 (fun _ => 0), kI cI a3_7 3 (fun _ => 0), kI cI q_8 3 (fun _ => 0), kI cI q_9 64 (fun _ => 0)] H := hP
  have hD : va_D A [(h0, .inr (4, [.int 0, .ref q_1, .ref q_8, .ref q_9, .null])), kX0 q_1 a1_5 a2_6 a3_7 0 0, kI cI a1_5 3 (fun _ => 0), kI cI a2_6 3 (fun _ => 0), kI cI a3_7 3 (fun _ => 0), kI cI q_8 3 (fun _ => 0), kI cI q_9 64 (fun _ => 0)] := hD
  refine lv_aload_n hx hb dX4_init_36 rfl (lv_at hl 0 rfl) ?_
  refine lv_bipush (v := 64) hx hb dX4_init_37 (by decide) ?_
  refine nw_I (N' := 64) hx hb (hts _ t_35) hK hP hD hS hA (by decide) (by decide) (by decide) (Nat.le_of_ble_eq_true rfl) (Nat.le_of_ble_eq_true rfl) dX4_init_39 (fun q_10 H hP hD hS => ?_)
  have hP : va_P D vwCl [(h0, .inr (4, [.int 0, .ref q_1, .ref q_8, .ref q_9, .null])), kX0 q_1 a1_5 a2_6 a3_7 0 0, kI cI a1_5 3 (fun _ => 0), kI cI a2_6 3 (fun _ => 0), kI cI a3_7 3 (fun _ => 0), kI cI q_8 3 (fun _ => 0), kI cI q_9 64 (fun _ => 0), kI cI q_10 64 (fun _ => 0)] H := hP
  have hD : va_D A [(h0, .inr (4, [.int 0, .ref q_1, .ref q_8, .ref q_9, .null])), kX0 q_1 a1_5 a2_6 a3_7 0 0, kI cI a1_5 3 (fun _ => 0), kI cI a2_6 3 (fun _ => 0), kI cI a3_7 3 (fun _ => 0), kI cI q_8 3 (fun _ => 0), kI cI q_9 64 (fun _ => 0), kI cI q_10 64 (fun _ => 0)] := hD
  refine W.widen (k := 7) (n := 145) (Nat.le_of_ble_eq_true rfl) (Nat.le_of_ble_eq_true rfl) ?_
  refine va_putF (D := D) (ci := 4) (v := .ref q_10) (ty := (.array .int)) (C := RX4) (T := TX4) (N := 5) hx hb hts iT_X4 tyX4 tyX4_ok nmX4 hown hK1 hP hD hS 0 rfl rfl 4 (by decide) (hts _ t_90) (fun _ h9 => h9) rfl hin rfl (by decide +kernel) rfl rfl (Nat.le_of_ble_eq_true rfl) dX4_init_41 (fun H locs hP hD hS => ?_)
  have hP : va_P D vwCl [kX4 h0 0 q_1 q_8 q_9 q_10, kX0 q_1 a1_5 a2_6 a3_7 0 0, kI cI a1_5 3 (fun _ => 0), kI cI a2_6 3 (fun _ => 0), kI cI a3_7 3 (fun _ => 0), kI cI q_8 3 (fun _ => 0), kI cI q_9 64 (fun _ => 0), kI cI q_10 64 (fun _ => 0)] H := hP
  have hD : va_D A [kX4 h0 0 q_1 q_8 q_9 q_10, kX0 q_1 a1_5 a2_6 a3_7 0 0, kI cI a1_5 3 (fun _ => 0), kI cI a2_6 3 (fun _ => 0), kI cI a3_7 3 (fun _ => 0), kI cI q_8 3 (fun _ => 0), kI cI q_9 64 (fun _ => 0), kI cI q_10 64 (fun _ => 0)] := hD
  exact hret _ _ _ _ _ _ (q_1, a1_5, a2_6, a3_7, q_8, q_9, q_10) dX4_init_44 hS (Nat.le_of_ble_eq_true rfl) (Nat.le_of_ble_eq_true rfl) trivial (hP.sub [0, 1, 2, 3, 4, 5, 6, 7] rfl) (hD.sub [0, 1, 2, 3, 4, 5, 6, 7] rfl rfl)
set_option maxHeartbeats 4000000 in
set_option maxRecDepth 100000 in
theorem c_X5_init (sz : Nat) (h0 : Nat)  : CTv l D cI cJ cZ cR yX5_init cX5_init 2 none 3 65 73 1359 sz [.ref h0] [(h0, .inr (5, [.null, .int 0]))] (fun (u : Nat × (Nat → RT)) => True) (fun (u : Nat × (Nat → RT)) => ([kX5 h0 u.1 0, kQ cR u.1 9 (fun k => some ((u.2 k).1.1))] ++ RB cI u.2)) := by
  refine CTv.of (by decide) (Nat.le_of_ble_eq_true rfl) rfl ?_
  intro p e s m below meth c A Q ls hd hin hK hsz hP hD hA hS hl hret
  obtain ⟨hx, hb, hml, hown, hts⟩ := id hd
  have hK1 := hK.1
  have hown : s.vm.findClass RX5 = some m.cls := hown
  have hin : meth.name = "<init>" := hin
  have hl : lv_has ls 2 [(0, .ref h0)] := hl
  refine lv_aload_n hx hb dX5_init_0 rfl (lv_at hl 0 rfl) ?_
  refine W.objInit hx hb hown (hts _ t_41) (hts _ t_18) (hts _ t_19) rfl (by rw [hml]; exact hl.1) rfl dX5_init_1 (Nat.le_of_ble_eq_true rfl) (Nat.le_of_ble_eq_true rfl) ?_
  refine W.eq (g2 := F0 m 4 ls []) rfl ?_
  refine lv_aload_n hx hb dX5_init_4 rfl (lv_at hl 0 rfl) ?_
  refine lv_bipush (v := 9) hx hb dX5_init_5 (by decide) ?_
  refine nw_Q (N' := 9) hx hb hown (hts _ t_42) hK hP hD hS hA (by decide) (by decide) (by decide) (Nat.le_of_ble_eq_true rfl) (Nat.le_of_ble_eq_true rfl) dX5_init_7 (fun q_1 H hP hD hS => ?_)
  have hP : va_P D vwCl [(h0, .inr (5, [.null, .int 0])), kQ cR q_1 9 (fun _ => none)] H := hP
  have hD : va_D A [(h0, .inr (5, [.null, .int 0])), kQ cR q_1 9 (fun _ => none)] := hD
  refine W.widen (k := 1) (n := 9) (Nat.le_of_ble_eq_true rfl) (Nat.le_of_ble_eq_true rfl) ?_
  refine va_putF (D := D) (ci := 5) (v := .ref q_1) (ty := (.array (.object "GrownGraphs$Rule"))) (C := RX5) (T := TX5) (N := 2) hx hb hts iT_X5 tyX5 tyX5_ok nmX5 hown hK1 hP hD hS 0 rfl rfl 0 (by decide) (hts _ t_102) (fun _ h9 => h9) rfl hin rfl (by decide +kernel) rfl rfl (Nat.le_of_ble_eq_true rfl) dX5_init_10 (fun H locs hP hD hS => ?_)
  have hP : va_P D vwCl [kX5 h0 q_1 0, kQ cR q_1 9 (fun _ => none)] H := hP
  have hD : va_D A [kX5 h0 q_1 0, kQ cR q_1 9 (fun _ => none)] := hD
  refine lv_aload_n hx hb dX5_init_13 rfl (lv_at hl 0 rfl) ?_
  refine lv_iconst (v := 0) hx hb dX5_init_14 (by decide) ?_
  refine va_put (D := D) (ci := 5) (v := .int 0) (ty := .int) (C := RX5) (T := TX5) (N := 2) hx hb hts iT_X5 tyX5 tyX5_ok nmX5 hown hK1 hP hD hS 0 rfl rfl 1 (by decide) (hts _ t_106) (fun _ h9 => h9) rfl (by decide +kernel) rfl rfl (Nat.le_of_ble_eq_true rfl) dX5_init_15 (fun H locs hP hD hS => ?_)
  have hP : va_P D vwCl [kX5 h0 q_1 0, kQ cR q_1 9 (fun _ => none)] H := hP
  have hD : va_D A [kX5 h0 q_1 0, kQ cR q_1 9 (fun _ => none)] := hD
  have hrow : ∀ j, j < 0 → (fun _ => none : Nat → Option Nat) j = some ((rt0 j).1.1) := fun j hj => absurd hj (by omega)
  have hP : va_P D vwCl ([kX5 h0 q_1 0, kQ cR q_1 9 (fun _ => none)] ++ RWn cI rt0 0) H := hP
  have hD : va_D A ([kX5 h0 q_1 0, kQ cR q_1 9 (fun _ => none)] ++ RWn cI rt0 0) := hD
  refine lv_iconst (v := 0) hx hb dX5_init_18 (by decide) ?_
  refine lv_istore_n (lv' := [(1, .int 0), (0, .ref h0)]) hx hb dX5_init_19 rfl hl (by decide) rfl (fun ls hl => ?_)
  refine lv_iload_n hx hb dX5_init_20 rfl (lv_at hl 0 rfl) ?_
  refine lv_aload_n hx hb dX5_init_21 rfl (lv_at hl 1 rfl) ?_
  refine va_get (D := D) (ci := 5) (v := .ref q_1) (C := RX5) (T := TX5) (N := 2) hx hb hts iT_X5 hown hK1 hP 0 rfl rfl 0 (by decide) (hts _ t_102) (fun _ h9 => h9) rfl dX5_init_22 ?_
  refine va_alen hx hb hK1 hP 1 3 rfl rfl (v := 9) rfl dX5_init_25 ?_
  refine lv_icmp_ge (tgt := 48) hx hb dX5_init_26 (by decide) (fun c_2 => ?_) (fun c_2 => ?_)
  · exact absurd c_2 (by decide)
  refine lv_aload_n hx hb dX5_init_29 rfl (lv_at hl 1 rfl) ?_
  refine va_get (D := D) (ci := 5) (v := .ref q_1) (C := RX5) (T := TX5) (N := 2) hx hb hts iT_X5 hown hK1 hP 0 rfl rfl 0 (by decide) (hts _ t_102) (fun _ h9 => h9) rfl dX5_init_30 ?_
  refine lv_iload_n hx hb dX5_init_33 rfl (lv_at hl 0 rfl) ?_
  refine va_new (ci := 4) (fs := [.int 0, .null, .null, .null, .null]) (C := RX4) (T := TX4) (N := 5) hx hb hts iT_X4 tyX4 tyX4_ok hown (hts _ t_42) (hts _ t_44) (hts _ t_4) hK1 hP hD hS hA rfl df_X4 (Nat.le_of_ble_eq_true rfl) (Nat.le_of_ble_eq_true rfl) dX5_init_34 (fun q_3 H hP hD hS => ?_)
  obtain ⟨hP, hD⟩ := PD.perm ⟨hP, hD⟩ permA'
  have hP : va_P D vwCl ([kX5 h0 q_1 0, kQ cR q_1 9 (fun _ => none), (q_3, .inr (4, [.int 0, .null, .null, .null, .null]))] ++ RWn cI rt0 0) H := hP
  have hD : va_D A ([kX5 h0 q_1 0, kQ cR q_1 9 (fun _ => none), (q_3, .inr (4, [.int 0, .null, .null, .null, .null]))] ++ RWn cI rt0 0) := hD
  refine W.widen (k := 2) (n := 14) (Nat.le_of_ble_eq_true rfl) (Nat.le_of_ble_eq_true rfl) ?_
  refine lv_dup hx hb dX5_init_37 rfl ?_
  have hPD : PD D A ([(q_3, .inr (4, [.int 0, .null, .null, .null, .null]))] ++ ([kX5 h0 q_1 0, kQ cR q_1 9 (fun _ => none)] ++ RWn cI rt0 0)) H := PD.perm ⟨hP, hD⟩ (permA pm_1)
  refine xp_v (wc := [(q_3, .inr (4, [.int 0, .null, .null, .null, .null]))]) (wr := ([kX5 h0 q_1 0, kQ cR q_1 9 (fun _ => none)] ++ RWn cI rt0 0)) (xqIN (n := 0) (As := []) (rest := [.ref q_3, .int 0, .ref q_1]) hd hK hPD.left (c_X4_init l D cI cJ cZ cR _ q_3 ) mI_X4_init.1 mI_X4_init.2.1 hK.2.2.1 mI_X4_init.2.2 rfl hS_X4_init ⟨(Nat.le_of_ble_eq_true rfl), (Nat.le_of_ble_eq_true rfl)⟩ rfl hl.1 rfl (Nat.le_of_ble_eq_true rfl) dX5_init_38 ⟨(Nat.le_of_ble_eq_true rfl), (Nat.le_of_ble_eq_true rfl)⟩) hPD hS hA (fun u_5 H locs hw_6 hPD hS => ?_)
  obtain ⟨b0_7, a1_8, a2_9, a3_10, b1_11, b2_12, b3_13⟩ := u_5
  obtain ⟨hP, hD⟩ := hPD.perm permA'
  have hP : va_P D vwCl ([kX5 h0 q_1 0, kQ cR q_1 9 (fun _ => none), kX4 q_3 0 b0_7 b1_11 b2_12 b3_13, kX0 b0_7 a1_8 a2_9 a3_10 0 0, kI cI a1_8 3 (fun _ => 0), kI cI a2_9 3 (fun _ => 0), kI cI a3_10 3 (fun _ => 0), kI cI b1_11 3 (fun _ => 0), kI cI b2_12 64 (fun _ => 0), kI cI b3_13 64 (fun _ => 0)] ++ RWn cI rt0 0) H := hP
  have hD : va_D A ([kX5 h0 q_1 0, kQ cR q_1 9 (fun _ => none), kX4 q_3 0 b0_7 b1_11 b2_12 b3_13, kX0 b0_7 a1_8 a2_9 a3_10 0 0, kI cI a1_8 3 (fun _ => 0), kI cI a2_9 3 (fun _ => 0), kI cI a3_10 3 (fun _ => 0), kI cI b1_11 3 (fun _ => 0), kI cI b2_12 64 (fun _ => 0), kI cI b3_13 64 (fun _ => 0)] ++ RWn cI rt0 0) := hD
  refine W.widen (k := 9) (n := 159) (Nat.le_of_ble_eq_true rfl) (Nat.le_of_ble_eq_true rfl) ?_
  refine va_astq hx hb hK1 hP hD hS 1 3 2 4 rfl rfl rfl rfl (vin (by decide)) dX5_init_41 (fun H locs hP hD hS => ?_)
  have hP : va_P D vwCl ([kX5 h0 q_1 0, kQ cR q_1 9 (va_up (fun _ => none) 0 (some q_3)), kX4 q_3 0 b0_7 b1_11 b2_12 b3_13, kX0 b0_7 a1_8 a2_9 a3_10 0 0, kI cI a1_8 3 (fun _ => 0), kI cI a2_9 3 (fun _ => 0), kI cI a3_10 3 (fun _ => 0), kI cI b1_11 3 (fun _ => 0), kI cI b2_12 64 (fun _ => 0), kI cI b3_13 64 (fun _ => 0)] ++ RWn cI rt0 0) H := hP
  have hD : va_D A ([kX5 h0 q_1 0, kQ cR q_1 9 (va_up (fun _ => none) 0 (some q_3)), kX4 q_3 0 b0_7 b1_11 b2_12 b3_13, kX0 b0_7 a1_8 a2_9 a3_10 0 0, kI cI a1_8 3 (fun _ => 0), kI cI a2_9 3 (fun _ => 0), kI cI a3_10 3 (fun _ => 0), kI cI b1_11 3 (fun _ => 0), kI cI b2_12 64 (fun _ => 0), kI cI b3_13 64 (fun _ => 0)] ++ RWn cI rt0 0) := hD
  have hPD : PD D A ([kX5 h0 q_1 0, kQ cR q_1 9 (va_up (fun _ => none) 0 (some q_3)), kX4 q_3 0 b0_7 b1_11 b2_12 b3_13, kX0 b0_7 a1_8 a2_9 a3_10 0 0, kI cI a1_8 3 (fun _ => 0), kI cI a2_9 3 (fun _ => 0), kI cI a3_10 3 (fun _ => 0), kI cI b1_11 3 (fun _ => 0), kI cI b2_12 64 (fun _ => 0), kI cI b3_13 64 (fun _ => 0)] ++ RWn cI rt0 0) H := (PD.perm ⟨hP, hD⟩ (permB pm_2)).left
  obtain ⟨hP, hD⟩ := absorb (E := [kX5 h0 q_1 0, kQ cR q_1 9 (va_up (fun _ => none) 0 (some q_3))]) (t := ((q_3, b0_7, a1_8, a2_9, a3_10, b1_11, b2_12, b3_13), (0, 0, 0), (fun _ => 0, fun _ => 0, fun _ => 0, fun _ => 0, fun _ => 0, fun _ => 0))) hPD.1 hPD.2
  obtain ⟨rh_1, hrh_1⟩ : ∃ x, x = va_up rt0 0 ((q_3, b0_7, a1_8, a2_9, a3_10, b1_11, b2_12, b3_13), (0, 0, 0), (fun _ => 0, fun _ => 0, fun _ => 0, fun _ => 0, fun _ => 0, fun _ => 0)) := ⟨_, rfl⟩
  rw [← hrh_1] at hP hD
  have hrow : ∀ j, j < 0 + 1 → (va_up (fun _ => none) 0 (some q_3)) j = some ((rh_1 j).1.1) := by rw [hrh_1]; exact row_s hrow rfl
  have hP : va_P D vwCl ([kX5 h0 q_1 0, kQ cR q_1 9 (va_up (fun _ => none) 0 (some q_3))] ++ RWn cI rh_1 1) H := hP
  have hD : va_D A ([kX5 h0 q_1 0, kQ cR q_1 9 (va_up (fun _ => none) 0 (some q_3))] ++ RWn cI rh_1 1) := hD
  refine lv_iinc (v := 1) (lv' := [(1, .int 1), (0, .ref h0)]) hx hb dX5_init_42 hl (k := 0) rfl (by decide) (by decide) rfl (fun ls hl => ?_)
  refine lv_goto (tgt := 20) hx hb dX5_init_45 (by decide) ?_
  refine lv_iload_n hx hb dX5_init_20 rfl (lv_at hl 0 rfl) ?_
  refine lv_aload_n hx hb dX5_init_21 rfl (lv_at hl 1 rfl) ?_
  refine va_get (D := D) (ci := 5) (v := .ref q_1) (C := RX5) (T := TX5) (N := 2) hx hb hts iT_X5 hown hK1 hP 0 rfl rfl 0 (by decide) (hts _ t_102) (fun _ h9 => h9) rfl dX5_init_22 ?_
  refine va_alen hx hb hK1 hP 1 3 rfl rfl (v := 9) rfl dX5_init_25 ?_
  refine lv_icmp_ge (tgt := 48) hx hb dX5_init_26 (by decide) (fun c_14 => ?_) (fun c_14 => ?_)
  · exact absurd c_14 (by decide)
  refine lv_aload_n hx hb dX5_init_29 rfl (lv_at hl 1 rfl) ?_
  refine va_get (D := D) (ci := 5) (v := .ref q_1) (C := RX5) (T := TX5) (N := 2) hx hb hts iT_X5 hown hK1 hP 0 rfl rfl 0 (by decide) (hts _ t_102) (fun _ h9 => h9) rfl dX5_init_30 ?_
  refine lv_iload_n hx hb dX5_init_33 rfl (lv_at hl 0 rfl) ?_
  refine va_new (ci := 4) (fs := [.int 0, .null, .null, .null, .null]) (C := RX4) (T := TX4) (N := 5) hx hb hts iT_X4 tyX4 tyX4_ok hown (hts _ t_42) (hts _ t_44) (hts _ t_4) hK1 hP hD hS hA rfl df_X4 (Nat.le_of_ble_eq_true rfl) (Nat.le_of_ble_eq_true rfl) dX5_init_34 (fun q_15 H hP hD hS => ?_)
  obtain ⟨hP, hD⟩ := PD.perm ⟨hP, hD⟩ permA'
  have hP : va_P D vwCl ([kX5 h0 q_1 0, kQ cR q_1 9 (va_up (fun _ => none) 0 (some q_3)), (q_15, .inr (4, [.int 0, .null, .null, .null, .null]))] ++ RWn cI rh_1 1) H := hP
  have hD : va_D A ([kX5 h0 q_1 0, kQ cR q_1 9 (va_up (fun _ => none) 0 (some q_3)), (q_15, .inr (4, [.int 0, .null, .null, .null, .null]))] ++ RWn cI rh_1 1) := hD
  refine W.widen (k := 10) (n := 164) (Nat.le_of_ble_eq_true rfl) (Nat.le_of_ble_eq_true rfl) ?_
  refine lv_dup hx hb dX5_init_37 rfl ?_
  have hPD : PD D A ([(q_15, .inr (4, [.int 0, .null, .null, .null, .null]))] ++ ([kX5 h0 q_1 0, kQ cR q_1 9 (va_up (fun _ => none) 0 (some q_3))] ++ RWn cI rh_1 1)) H := PD.perm ⟨hP, hD⟩ (permA pm_1)
  refine xp_v (wc := [(q_15, .inr (4, [.int 0, .null, .null, .null, .null]))]) (wr := ([kX5 h0 q_1 0, kQ cR q_1 9 (va_up (fun _ => none) 0 (some q_3))] ++ RWn cI rh_1 1)) (xqIN (n := 0) (As := []) (rest := [.ref q_15, .int 1, .ref q_1]) hd hK hPD.left (c_X4_init l D cI cJ cZ cR _ q_15 ) mI_X4_init.1 mI_X4_init.2.1 hK.2.2.1 mI_X4_init.2.2 rfl hS_X4_init ⟨(Nat.le_of_ble_eq_true rfl), (Nat.le_of_ble_eq_true rfl)⟩ rfl hl.1 rfl (Nat.le_of_ble_eq_true rfl) dX5_init_38 ⟨(Nat.le_of_ble_eq_true rfl), (Nat.le_of_ble_eq_true rfl)⟩) hPD hS hA (fun u_17 H locs hw_18 hPD hS => ?_)
  obtain ⟨b0_19, a1_20, a2_21, a3_22, b1_23, b2_24, b3_25⟩ := u_17
  obtain ⟨hP, hD⟩ := hPD.perm permA'
  have hP : va_P D vwCl ([kX5 h0 q_1 0, kQ cR q_1 9 (va_up (fun _ => none) 0 (some q_3)), kX4 q_15 0 b0_19 b1_23 b2_24 b3_25, kX0 b0_19 a1_20 a2_21 a3_22 0 0, kI cI a1_20 3 (fun _ => 0), kI cI a2_21 3 (fun _ => 0), kI cI a3_22 3 (fun _ => 0), kI cI b1_23 3 (fun _ => 0), kI cI b2_24 64 (fun _ => 0), kI cI b3_25 64 (fun _ => 0)] ++ RWn cI rh_1 1) H := hP
  have hD : va_D A ([kX5 h0 q_1 0, kQ cR q_1 9 (va_up (fun _ => none) 0 (some q_3)), kX4 q_15 0 b0_19 b1_23 b2_24 b3_25, kX0 b0_19 a1_20 a2_21 a3_22 0 0, kI cI a1_20 3 (fun _ => 0), kI cI a2_21 3 (fun _ => 0), kI cI a3_22 3 (fun _ => 0), kI cI b1_23 3 (fun _ => 0), kI cI b2_24 64 (fun _ => 0), kI cI b3_25 64 (fun _ => 0)] ++ RWn cI rh_1 1) := hD
  refine W.widen (k := 17) (n := 309) (Nat.le_of_ble_eq_true rfl) (Nat.le_of_ble_eq_true rfl) ?_
  refine va_astq hx hb hK1 hP hD hS 1 3 2 4 rfl rfl rfl rfl (vin (by decide)) dX5_init_41 (fun H locs hP hD hS => ?_)
  have hP : va_P D vwCl ([kX5 h0 q_1 0, kQ cR q_1 9 (va_up (va_up (fun _ => none) 0 (some q_3)) 1 (some q_15)), kX4 q_15 0 b0_19 b1_23 b2_24 b3_25, kX0 b0_19 a1_20 a2_21 a3_22 0 0, kI cI a1_20 3 (fun _ => 0), kI cI a2_21 3 (fun _ => 0), kI cI a3_22 3 (fun _ => 0), kI cI b1_23 3 (fun _ => 0), kI cI b2_24 64 (fun _ => 0), kI cI b3_25 64 (fun _ => 0)] ++ RWn cI rh_1 1) H := hP
  have hD : va_D A ([kX5 h0 q_1 0, kQ cR q_1 9 (va_up (va_up (fun _ => none) 0 (some q_3)) 1 (some q_15)), kX4 q_15 0 b0_19 b1_23 b2_24 b3_25, kX0 b0_19 a1_20 a2_21 a3_22 0 0, kI cI a1_20 3 (fun _ => 0), kI cI a2_21 3 (fun _ => 0), kI cI a3_22 3 (fun _ => 0), kI cI b1_23 3 (fun _ => 0), kI cI b2_24 64 (fun _ => 0), kI cI b3_25 64 (fun _ => 0)] ++ RWn cI rh_1 1) := hD
  have hPD : PD D A ([kX5 h0 q_1 0, kQ cR q_1 9 (va_up (va_up (fun _ => none) 0 (some q_3)) 1 (some q_15)), kX4 q_15 0 b0_19 b1_23 b2_24 b3_25, kX0 b0_19 a1_20 a2_21 a3_22 0 0, kI cI a1_20 3 (fun _ => 0), kI cI a2_21 3 (fun _ => 0), kI cI a3_22 3 (fun _ => 0), kI cI b1_23 3 (fun _ => 0), kI cI b2_24 64 (fun _ => 0), kI cI b3_25 64 (fun _ => 0)] ++ RWn cI rh_1 1) H := (PD.perm ⟨hP, hD⟩ (permB pm_2)).left
  obtain ⟨hP, hD⟩ := absorb (E := [kX5 h0 q_1 0, kQ cR q_1 9 (va_up (va_up (fun _ => none) 0 (some q_3)) 1 (some q_15))]) (t := ((q_15, b0_19, a1_20, a2_21, a3_22, b1_23, b2_24, b3_25), (0, 0, 0), (fun _ => 0, fun _ => 0, fun _ => 0, fun _ => 0, fun _ => 0, fun _ => 0))) hPD.1 hPD.2
  obtain ⟨rh_2, hrh_2⟩ : ∃ x, x = va_up rh_1 1 ((q_15, b0_19, a1_20, a2_21, a3_22, b1_23, b2_24, b3_25), (0, 0, 0), (fun _ => 0, fun _ => 0, fun _ => 0, fun _ => 0, fun _ => 0, fun _ => 0)) := ⟨_, rfl⟩
  rw [← hrh_2] at hP hD
  have hrow : ∀ j, j < 1 + 1 → (va_up (va_up (fun _ => none) 0 (some q_3)) 1 (some q_15)) j = some ((rh_2 j).1.1) := by rw [hrh_2]; exact row_s hrow rfl
  have hP : va_P D vwCl ([kX5 h0 q_1 0, kQ cR q_1 9 (va_up (va_up (fun _ => none) 0 (some q_3)) 1 (some q_15))] ++ RWn cI rh_2 2) H := hP
  have hD : va_D A ([kX5 h0 q_1 0, kQ cR q_1 9 (va_up (va_up (fun _ => none) 0 (some q_3)) 1 (some q_15))] ++ RWn cI rh_2 2) := hD
  refine lv_iinc (v := 2) (lv' := [(1, .int 2), (0, .ref h0)]) hx hb dX5_init_42 hl (k := 0) rfl (by decide) (by decide) rfl (fun ls hl => ?_)
  refine lv_goto (tgt := 20) hx hb dX5_init_45 (by decide) ?_
  refine lv_iload_n hx hb dX5_init_20 rfl (lv_at hl 0 rfl) ?_
  refine lv_aload_n hx hb dX5_init_21 rfl (lv_at hl 1 rfl) ?_
  refine va_get (D := D) (ci := 5) (v := .ref q_1) (C := RX5) (T := TX5) (N := 2) hx hb hts iT_X5 hown hK1 hP 0 rfl rfl 0 (by decide) (hts _ t_102) (fun _ h9 => h9) rfl dX5_init_22 ?_
  refine va_alen hx hb hK1 hP 1 3 rfl rfl (v := 9) rfl dX5_init_25 ?_
  refine lv_icmp_ge (tgt := 48) hx hb dX5_init_26 (by decide) (fun c_26 => ?_) (fun c_26 => ?_)
  · exact absurd c_26 (by decide)
  refine lv_aload_n hx hb dX5_init_29 rfl (lv_at hl 1 rfl) ?_
  refine va_get (D := D) (ci := 5) (v := .ref q_1) (C := RX5) (T := TX5) (N := 2) hx hb hts iT_X5 hown hK1 hP 0 rfl rfl 0 (by decide) (hts _ t_102) (fun _ h9 => h9) rfl dX5_init_30 ?_
  refine lv_iload_n hx hb dX5_init_33 rfl (lv_at hl 0 rfl) ?_
  refine va_new (ci := 4) (fs := [.int 0, .null, .null, .null, .null]) (C := RX4) (T := TX4) (N := 5) hx hb hts iT_X4 tyX4 tyX4_ok hown (hts _ t_42) (hts _ t_44) (hts _ t_4) hK1 hP hD hS hA rfl df_X4 (Nat.le_of_ble_eq_true rfl) (Nat.le_of_ble_eq_true rfl) dX5_init_34 (fun q_27 H hP hD hS => ?_)
  obtain ⟨hP, hD⟩ := PD.perm ⟨hP, hD⟩ permA'
  have hP : va_P D vwCl ([kX5 h0 q_1 0, kQ cR q_1 9 (va_up (va_up (fun _ => none) 0 (some q_3)) 1 (some q_15)), (q_27, .inr (4, [.int 0, .null, .null, .null, .null]))] ++ RWn cI rh_2 2) H := hP
  have hD : va_D A ([kX5 h0 q_1 0, kQ cR q_1 9 (va_up (va_up (fun _ => none) 0 (some q_3)) 1 (some q_15)), (q_27, .inr (4, [.int 0, .null, .null, .null, .null]))] ++ RWn cI rh_2 2) := hD
  refine W.widen (k := 18) (n := 314) (Nat.le_of_ble_eq_true rfl) (Nat.le_of_ble_eq_true rfl) ?_
  refine lv_dup hx hb dX5_init_37 rfl ?_
  have hPD : PD D A ([(q_27, .inr (4, [.int 0, .null, .null, .null, .null]))] ++ ([kX5 h0 q_1 0, kQ cR q_1 9 (va_up (va_up (fun _ => none) 0 (some q_3)) 1 (some q_15))] ++ RWn cI rh_2 2)) H := PD.perm ⟨hP, hD⟩ (permA pm_1)
  refine xp_v (wc := [(q_27, .inr (4, [.int 0, .null, .null, .null, .null]))]) (wr := ([kX5 h0 q_1 0, kQ cR q_1 9 (va_up (va_up (fun _ => none) 0 (some q_3)) 1 (some q_15))] ++ RWn cI rh_2 2)) (xqIN (n := 0) (As := []) (rest := [.ref q_27, .int 2, .ref q_1]) hd hK hPD.left (c_X4_init l D cI cJ cZ cR _ q_27 ) mI_X4_init.1 mI_X4_init.2.1 hK.2.2.1 mI_X4_init.2.2 rfl hS_X4_init ⟨(Nat.le_of_ble_eq_true rfl), (Nat.le_of_ble_eq_true rfl)⟩ rfl hl.1 rfl (Nat.le_of_ble_eq_true rfl) dX5_init_38 ⟨(Nat.le_of_ble_eq_true rfl), (Nat.le_of_ble_eq_true rfl)⟩) hPD hS hA (fun u_29 H locs hw_30 hPD hS => ?_)
  obtain ⟨b0_31, a1_32, a2_33, a3_34, b1_35, b2_36, b3_37⟩ := u_29
  obtain ⟨hP, hD⟩ := hPD.perm permA'
  have hP : va_P D vwCl ([kX5 h0 q_1 0, kQ cR q_1 9 (va_up (va_up (fun _ => none) 0 (some q_3)) 1 (some q_15)), kX4 q_27 0 b0_31 b1_35 b2_36 b3_37, kX0 b0_31 a1_32 a2_33 a3_34 0 0, kI cI a1_32 3 (fun _ => 0), kI cI a2_33 3 (fun _ => 0), kI cI a3_34 3 (fun _ => 0), kI cI b1_35 3 (fun _ => 0), kI cI b2_36 64 (fun _ => 0), kI cI b3_37 64 (fun _ => 0)] ++ RWn cI rh_2 2) H := hP
  have hD : va_D A ([kX5 h0 q_1 0, kQ cR q_1 9 (va_up (va_up (fun _ => none) 0 (some q_3)) 1 (some q_15)), kX4 q_27 0 b0_31 b1_35 b2_36 b3_37, kX0 b0_31 a1_32 a2_33 a3_34 0 0, kI cI a1_32 3 (fun _ => 0), kI cI a2_33 3 (fun _ => 0), kI cI a3_34 3 (fun _ => 0), kI cI b1_35 3 (fun _ => 0), kI cI b2_36 64 (fun _ => 0), kI cI b3_37 64 (fun _ => 0)] ++ RWn cI rh_2 2) := hD
  refine W.widen (k := 25) (n := 459) (Nat.le_of_ble_eq_true rfl) (Nat.le_of_ble_eq_true rfl) ?_
  refine va_astq hx hb hK1 hP hD hS 1 3 2 4 rfl rfl rfl rfl (vin (by decide)) dX5_init_41 (fun H locs hP hD hS => ?_)
  have hP : va_P D vwCl ([kX5 h0 q_1 0, kQ cR q_1 9 (va_up (va_up (va_up (fun _ => none) 0 (some q_3)) 1 (some q_15)) 2 (some q_27)), kX4 q_27 0 b0_31 b1_35 b2_36 b3_37, kX0 b0_31 a1_32 a2_33 a3_34 0 0, kI cI a1_32 3 (fun _ => 0), kI cI a2_33 3 (fun _ => 0), kI cI a3_34 3 (fun _ => 0), kI cI b1_35 3 (fun _ => 0), kI cI b2_36 64 (fun _ => 0), kI cI b3_37 64 (fun _ => 0)] ++ RWn cI rh_2 2) H := hP
  have hD : va_D A ([kX5 h0 q_1 0, kQ cR q_1 9 (va_up (va_up (va_up (fun _ => none) 0 (some q_3)) 1 (some q_15)) 2 (some q_27)), kX4 q_27 0 b0_31 b1_35 b2_36 b3_37, kX0 b0_31 a1_32 a2_33 a3_34 0 0, kI cI a1_32 3 (fun _ => 0), kI cI a2_33 3 (fun _ => 0), kI cI a3_34 3 (fun _ => 0), kI cI b1_35 3 (fun _ => 0), kI cI b2_36 64 (fun _ => 0), kI cI b3_37 64 (fun _ => 0)] ++ RWn cI rh_2 2) := hD
  have hPD : PD D A ([kX5 h0 q_1 0, kQ cR q_1 9 (va_up (va_up (va_up (fun _ => none) 0 (some q_3)) 1 (some q_15)) 2 (some q_27)), kX4 q_27 0 b0_31 b1_35 b2_36 b3_37, kX0 b0_31 a1_32 a2_33 a3_34 0 0, kI cI a1_32 3 (fun _ => 0), kI cI a2_33 3 (fun _ => 0), kI cI a3_34 3 (fun _ => 0), kI cI b1_35 3 (fun _ => 0), kI cI b2_36 64 (fun _ => 0), kI cI b3_37 64 (fun _ => 0)] ++ RWn cI rh_2 2) H := (PD.perm ⟨hP, hD⟩ (permB pm_2)).left
  obtain ⟨hP, hD⟩ := absorb (E := [kX5 h0 q_1 0, kQ cR q_1 9 (va_up (va_up (va_up (fun _ => none) 0 (some q_3)) 1 (some q_15)) 2 (some q_27))]) (t := ((q_27, b0_31, a1_32, a2_33, a3_34, b1_35, b2_36, b3_37), (0, 0, 0), (fun _ => 0, fun _ => 0, fun _ => 0, fun _ => 0, fun _ => 0, fun _ => 0))) hPD.1 hPD.2
  obtain ⟨rh_3, hrh_3⟩ : ∃ x, x = va_up rh_2 2 ((q_27, b0_31, a1_32, a2_33, a3_34, b1_35, b2_36, b3_37), (0, 0, 0), (fun _ => 0, fun _ => 0, fun _ => 0, fun _ => 0, fun _ => 0, fun _ => 0)) := ⟨_, rfl⟩
  rw [← hrh_3] at hP hD
  have hrow : ∀ j, j < 2 + 1 → (va_up (va_up (va_up (fun _ => none) 0 (some q_3)) 1 (some q_15)) 2 (some q_27)) j = some ((rh_3 j).1.1) := by rw [hrh_3]; exact row_s hrow rfl
  have hP : va_P D vwCl ([kX5 h0 q_1 0, kQ cR q_1 9 (va_up (va_up (va_up (fun _ => none) 0 (some q_3)) 1 (some q_15)) 2 (some q_27))] ++ RWn cI rh_3 3) H := hP
  have hD : va_D A ([kX5 h0 q_1 0, kQ cR q_1 9 (va_up (va_up (va_up (fun _ => none) 0 (some q_3)) 1 (some q_15)) 2 (some q_27))] ++ RWn cI rh_3 3) := hD
  refine lv_iinc (v := 3) (lv' := [(1, .int 3), (0, .ref h0)]) hx hb dX5_init_42 hl (k := 0) rfl (by decide) (by decide) rfl (fun ls hl => ?_)
  refine lv_goto (tgt := 20) hx hb dX5_init_45 (by decide) ?_
  refine lv_iload_n hx hb dX5_init_20 rfl (lv_at hl 0 rfl) ?_
  refine lv_aload_n hx hb dX5_init_21 rfl (lv_at hl 1 rfl) ?_
  refine va_get (D := D) (ci := 5) (v := .ref q_1) (C := RX5) (T := TX5) (N := 2) hx hb hts iT_X5 hown hK1 hP 0 rfl rfl 0 (by decide) (hts _ t_102) (fun _ h9 => h9) rfl dX5_init_22 ?_
  refine va_alen hx hb hK1 hP 1 3 rfl rfl (v := 9) rfl dX5_init_25 ?_
  refine lv_icmp_ge (tgt := 48) hx hb dX5_init_26 (by decide) (fun c_38 => ?_) (fun c_38 => ?_)
  · exact absurd c_38 (by decide)
  refine lv_aload_n hx hb dX5_init_29 rfl (lv_at hl 1 rfl) ?_
  refine va_get (D := D) (ci := 5) (v := .ref q_1) (C := RX5) (T := TX5) (N := 2) hx hb hts iT_X5 hown hK1 hP 0 rfl rfl 0 (by decide) (hts _ t_102) (fun _ h9 => h9) rfl dX5_init_30 ?_
  refine lv_iload_n hx hb dX5_init_33 rfl (lv_at hl 0 rfl) ?_
  refine va_new (ci := 4) (fs := [.int 0, .null, .null, .null, .null]) (C := RX4) (T := TX4) (N := 5) hx hb hts iT_X4 tyX4 tyX4_ok hown (hts _ t_42) (hts _ t_44) (hts _ t_4) hK1 hP hD hS hA rfl df_X4 (Nat.le_of_ble_eq_true rfl) (Nat.le_of_ble_eq_true rfl) dX5_init_34 (fun q_39 H hP hD hS => ?_)
  obtain ⟨hP, hD⟩ := PD.perm ⟨hP, hD⟩ permA'
  have hP : va_P D vwCl ([kX5 h0 q_1 0, kQ cR q_1 9 (va_up (va_up (va_up (fun _ => none) 0 (some q_3)) 1 (some q_15)) 2 (some q_27)), (q_39, .inr (4, [.int 0, .null, .null, .null, .null]))] ++ RWn cI rh_3 3) H := hP
  have hD : va_D A ([kX5 h0 q_1 0, kQ cR q_1 9 (va_up (va_up (va_up (fun _ => none) 0 (some q_3)) 1 (some q_15)) 2 (some q_27)), (q_39, .inr (4, [.int 0, .null, .null, .null, .null]))] ++ RWn cI rh_3 3) := hD
  refine W.widen (k := 26) (n := 464) (Nat.le_of_ble_eq_true rfl) (Nat.le_of_ble_eq_true rfl) ?_
  refine lv_dup hx hb dX5_init_37 rfl ?_
  have hPD : PD D A ([(q_39, .inr (4, [.int 0, .null, .null, .null, .null]))] ++ ([kX5 h0 q_1 0, kQ cR q_1 9 (va_up (va_up (va_up (fun _ => none) 0 (some q_3)) 1 (some q_15)) 2 (some q_27))] ++ RWn cI rh_3 3)) H := PD.perm ⟨hP, hD⟩ (permA pm_1)
  refine xp_v (wc := [(q_39, .inr (4, [.int 0, .null, .null, .null, .null]))]) (wr := ([kX5 h0 q_1 0, kQ cR q_1 9 (va_up (va_up (va_up (fun _ => none) 0 (some q_3)) 1 (some q_15)) 2 (some q_27))] ++ RWn cI rh_3 3)) (xqIN (n := 0) (As := []) (rest := [.ref q_39, .int 3, .ref q_1]) hd hK hPD.left (c_X4_init l D cI cJ cZ cR _ q_39 ) mI_X4_init.1 mI_X4_init.2.1 hK.2.2.1 mI_X4_init.2.2 rfl hS_X4_init ⟨(Nat.le_of_ble_eq_true rfl), (Nat.le_of_ble_eq_true rfl)⟩ rfl hl.1 rfl (Nat.le_of_ble_eq_true rfl) dX5_init_38 ⟨(Nat.le_of_ble_eq_true rfl), (Nat.le_of_ble_eq_true rfl)⟩) hPD hS hA (fun u_41 H locs hw_42 hPD hS => ?_)
  obtain ⟨b0_43, a1_44, a2_45, a3_46, b1_47, b2_48, b3_49⟩ := u_41
  obtain ⟨hP, hD⟩ := hPD.perm permA'
  have hP : va_P D vwCl ([kX5 h0 q_1 0, kQ cR q_1 9 (va_up (va_up (va_up (fun _ => none) 0 (some q_3)) 1 (some q_15)) 2 (some q_27)), kX4 q_39 0 b0_43 b1_47 b2_48 b3_49, kX0 b0_43 a1_44 a2_45 a3_46 0 0, kI cI a1_44 3 (fun _ => 0), kI cI a2_45 3 (fun _ => 0), kI cI a3_46 3 (fun _ => 0), kI cI b1_47 3 (fun _ => 0), kI cI b2_48 64 (fun _ => 0), kI cI b3_49 64 (fun _ => 0)] ++ RWn cI rh_3 3) H := hP
  have hD : va_D A ([kX5 h0 q_1 0, kQ cR q_1 9 (va_up (va_up (va_up (fun _ => none) 0 (some q_3)) 1 (some q_15)) 2 (some q_27)), kX4 q_39 0 b0_43 b1_47 b2_48 b3_49, kX0 b0_43 a1_44 a2_45 a3_46 0 0, kI cI a1_44 3 (fun _ => 0), kI cI a2_45 3 (fun _ => 0), kI cI a3_46 3 (fun _ => 0), kI cI b1_47 3 (fun _ => 0), kI cI b2_48 64 (fun _ => 0), kI cI b3_49 64 (fun _ => 0)] ++ RWn cI rh_3 3) := hD
  refine W.widen (k := 33) (n := 609) (Nat.le_of_ble_eq_true rfl) (Nat.le_of_ble_eq_true rfl) ?_
  refine va_astq hx hb hK1 hP hD hS 1 3 2 4 rfl rfl rfl rfl (vin (by decide)) dX5_init_41 (fun H locs hP hD hS => ?_)
  have hP : va_P D vwCl ([kX5 h0 q_1 0, kQ cR q_1 9 (va_up (va_up (va_up (va_up (fun _ => none) 0 (some q_3)) 1 (some q_15)) 2 (some q_27)) 3 (some q_39)), kX4 q_39 0 b0_43 b1_47 b2_48 b3_49, kX0 b0_43 a1_44 a2_45 a3_46 0 0, kI cI a1_44 3 (fun _ => 0), kI cI a2_45 3 (fun _ => 0), kI cI a3_46 3 (fun _ => 0), kI cI b1_47 3 (fun _ => 0), kI cI b2_48 64 (fun _ => 0), kI cI b3_49 64 (fun _ => 0)] ++ RWn cI rh_3 3) H := hP
  have hD : va_D A ([kX5 h0 q_1 0, kQ cR q_1 9 (va_up (va_up (va_up (va_up (fun _ => none) 0 (some q_3)) 1 (some q_15)) 2 (some q_27)) 3 (some q_39)), kX4 q_39 0 b0_43 b1_47 b2_48 b3_49, kX0 b0_43 a1_44 a2_45 a3_46 0 0, kI cI a1_44 3 (fun _ => 0), kI cI a2_45 3 (fun _ => 0), kI cI a3_46 3 (fun _ => 0), kI cI b1_47 3 (fun _ => 0), kI cI b2_48 64 (fun _ => 0), kI cI b3_49 64 (fun _ => 0)] ++ RWn cI rh_3 3) := hD
  have hPD : PD D A ([kX5 h0 q_1 0, kQ cR q_1 9 (va_up (va_up (va_up (va_up (fun _ => none) 0 (some q_3)) 1 (some q_15)) 2 (some q_27)) 3 (some q_39)), kX4 q_39 0 b0_43 b1_47 b2_48 b3_49, kX0 b0_43 a1_44 a2_45 a3_46 0 0, kI cI a1_44 3 (fun _ => 0), kI cI a2_45 3 (fun _ => 0), kI cI a3_46 3 (fun _ => 0), kI cI b1_47 3 (fun _ => 0), kI cI b2_48 64 (fun _ => 0), kI cI b3_49 64 (fun _ => 0)] ++ RWn cI rh_3 3) H := (PD.perm ⟨hP, hD⟩ (permB pm_2)).left
  obtain ⟨hP, hD⟩ := absorb (E := [kX5 h0 q_1 0, kQ cR q_1 9 (va_up (va_up (va_up (va_up (fun _ => none) 0 (some q_3)) 1 (some q_15)) 2 (some q_27)) 3 (some q_39))]) (t := ((q_39, b0_43, a1_44, a2_45, a3_46, b1_47, b2_48, b3_49), (0, 0, 0), (fun _ => 0, fun _ => 0, fun _ => 0, fun _ => 0, fun _ => 0, fun _ => 0))) hPD.1 hPD.2
  obtain ⟨rh_4, hrh_4⟩ : ∃ x, x = va_up rh_3 3 ((q_39, b0_43, a1_44, a2_45, a3_46, b1_47, b2_48, b3_49), (0, 0, 0), (fun _ => 0, fun _ => 0, fun _ => 0, fun _ => 0, fun _ => 0, fun _ => 0)) := ⟨_, rfl⟩
  rw [← hrh_4] at hP hD
  have hrow : ∀ j, j < 3 + 1 → (va_up (va_up (va_up (va_up (fun _ => none) 0 (some q_3)) 1 (some q_15)) 2 (some q_27)) 3 (some q_39)) j = some ((rh_4 j).1.1) := by rw [hrh_4]; exact row_s hrow rfl
  have hP : va_P D vwCl ([kX5 h0 q_1 0, kQ cR q_1 9 (va_up (va_up (va_up (va_up (fun _ => none) 0 (some q_3)) 1 (some q_15)) 2 (some q_27)) 3 (some q_39))] ++ RWn cI rh_4 4) H := hP
  have hD : va_D A ([kX5 h0 q_1 0, kQ cR q_1 9 (va_up (va_up (va_up (va_up (fun _ => none) 0 (some q_3)) 1 (some q_15)) 2 (some q_27)) 3 (some q_39))] ++ RWn cI rh_4 4) := hD
  refine lv_iinc (v := 4) (lv' := [(1, .int 4), (0, .ref h0)]) hx hb dX5_init_42 hl (k := 0) rfl (by decide) (by decide) rfl (fun ls hl => ?_)
  refine lv_goto (tgt := 20) hx hb dX5_init_45 (by decide) ?_
  refine lv_iload_n hx hb dX5_init_20 rfl (lv_at hl 0 rfl) ?_
  refine lv_aload_n hx hb dX5_init_21 rfl (lv_at hl 1 rfl) ?_
  refine va_get (D := D) (ci := 5) (v := .ref q_1) (C := RX5) (T := TX5) (N := 2) hx hb hts iT_X5 hown hK1 hP 0 rfl rfl 0 (by decide) (hts _ t_102) (fun _ h9 => h9) rfl dX5_init_22 ?_
  refine va_alen hx hb hK1 hP 1 3 rfl rfl (v := 9) rfl dX5_init_25 ?_
  refine lv_icmp_ge (tgt := 48) hx hb dX5_init_26 (by decide) (fun c_50 => ?_) (fun c_50 => ?_)
  · exact absurd c_50 (by decide)
  refine lv_aload_n hx hb dX5_init_29 rfl (lv_at hl 1 rfl) ?_
  refine va_get (D := D) (ci := 5) (v := .ref q_1) (C := RX5) (T := TX5) (N := 2) hx hb hts iT_X5 hown hK1 hP 0 rfl rfl 0 (by decide) (hts _ t_102) (fun _ h9 => h9) rfl dX5_init_30 ?_
  refine lv_iload_n hx hb dX5_init_33 rfl (lv_at hl 0 rfl) ?_
  refine va_new (ci := 4) (fs := [.int 0, .null, .null, .null, .null]) (C := RX4) (T := TX4) (N := 5) hx hb hts iT_X4 tyX4 tyX4_ok hown (hts _ t_42) (hts _ t_44) (hts _ t_4) hK1 hP hD hS hA rfl df_X4 (Nat.le_of_ble_eq_true rfl) (Nat.le_of_ble_eq_true rfl) dX5_init_34 (fun q_51 H hP hD hS => ?_)
  obtain ⟨hP, hD⟩ := PD.perm ⟨hP, hD⟩ permA'
  have hP : va_P D vwCl ([kX5 h0 q_1 0, kQ cR q_1 9 (va_up (va_up (va_up (va_up (fun _ => none) 0 (some q_3)) 1 (some q_15)) 2 (some q_27)) 3 (some q_39)), (q_51, .inr (4, [.int 0, .null, .null, .null, .null]))] ++ RWn cI rh_4 4) H := hP
  have hD : va_D A ([kX5 h0 q_1 0, kQ cR q_1 9 (va_up (va_up (va_up (va_up (fun _ => none) 0 (some q_3)) 1 (some q_15)) 2 (some q_27)) 3 (some q_39)), (q_51, .inr (4, [.int 0, .null, .null, .null, .null]))] ++ RWn cI rh_4 4) := hD
  refine W.widen (k := 34) (n := 614) (Nat.le_of_ble_eq_true rfl) (Nat.le_of_ble_eq_true rfl) ?_
  refine lv_dup hx hb dX5_init_37 rfl ?_
  have hPD : PD D A ([(q_51, .inr (4, [.int 0, .null, .null, .null, .null]))] ++ ([kX5 h0 q_1 0, kQ cR q_1 9 (va_up (va_up (va_up (va_up (fun _ => none) 0 (some q_3)) 1 (some q_15)) 2 (some q_27)) 3 (some q_39))] ++ RWn cI rh_4 4)) H := PD.perm ⟨hP, hD⟩ (permA pm_1)
  refine xp_v (wc := [(q_51, .inr (4, [.int 0, .null, .null, .null, .null]))]) (wr := ([kX5 h0 q_1 0, kQ cR q_1 9 (va_up (va_up (va_up (va_up (fun _ => none) 0 (some q_3)) 1 (some q_15)) 2 (some q_27)) 3 (some q_39))] ++ RWn cI rh_4 4)) (xqIN (n := 0) (As := []) (rest := [.ref q_51, .int 4, .ref q_1]) hd hK hPD.left (c_X4_init l D cI cJ cZ cR _ q_51 ) mI_X4_init.1 mI_X4_init.2.1 hK.2.2.1 mI_X4_init.2.2 rfl hS_X4_init ⟨(Nat.le_of_ble_eq_true rfl), (Nat.le_of_ble_eq_true rfl)⟩ rfl hl.1 rfl (Nat.le_of_ble_eq_true rfl) dX5_init_38 ⟨(Nat.le_of_ble_eq_true rfl), (Nat.le_of_ble_eq_true rfl)⟩) hPD hS hA (fun u_53 H locs hw_54 hPD hS => ?_)
  obtain ⟨b0_55, a1_56, a2_57, a3_58, b1_59, b2_60, b3_61⟩ := u_53
  obtain ⟨hP, hD⟩ := hPD.perm permA'
  have hP : va_P D vwCl ([kX5 h0 q_1 0, kQ cR q_1 9 (va_up (va_up (va_up (va_up (fun _ => none) 0 (some q_3)) 1 (some q_15)) 2 (some q_27)) 3 (some q_39)), kX4 q_51 0 b0_55 b1_59 b2_60 b3_61, kX0 b0_55 a1_56 a2_57 a3_58 0 0, kI cI a1_56 3 (fun _ => 0), kI cI a2_57 3 (fun _ => 0), kI cI a3_58 3 (fun _ => 0), kI cI b1_59 3 (fun _ => 0), kI cI b2_60 64 (fun _ => 0), kI cI b3_61 64 (fun _ => 0)] ++ RWn cI rh_4 4) H := hP
  have hD : va_D A ([kX5 h0 q_1 0, kQ cR q_1 9 (va_up (va_up (va_up (va_up (fun _ => none) 0 (some q_3)) 1 (some q_15)) 2 (some q_27)) 3 (some q_39)), kX4 q_51 0 b0_55 b1_59 b2_60 b3_61, kX0 b0_55 a1_56 a2_57 a3_58 0 0, kI cI a1_56 3 (fun _ => 0), kI cI a2_57 3 (fun _ => 0), kI cI a3_58 3 (fun _ => 0), kI cI b1_59 3 (fun _ => 0), kI cI b2_60 64 (fun _ => 0), kI cI b3_61 64 (fun _ => 0)] ++ RWn cI rh_4 4) := hD
  refine W.widen (k := 41) (n := 759) (Nat.le_of_ble_eq_true rfl) (Nat.le_of_ble_eq_true rfl) ?_
  refine va_astq hx hb hK1 hP hD hS 1 3 2 4 rfl rfl rfl rfl (vin (by decide)) dX5_init_41 (fun H locs hP hD hS => ?_)
  have hP : va_P D vwCl ([kX5 h0 q_1 0, kQ cR q_1 9 (va_up (va_up (va_up (va_up (va_up (fun _ => none) 0 (some q_3)) 1 (some q_15)) 2 (some q_27)) 3 (some q_39)) 4 (some q_51)), kX4 q_51 0 b0_55 b1_59 b2_60 b3_61, kX0 b0_55 a1_56 a2_57 a3_58 0 0, kI cI a1_56 3 (fun _ => 0), kI cI a2_57 3 (fun _ => 0), kI cI a3_58 3 (fun _ => 0), kI cI b1_59 3 (fun _ => 0), kI cI b2_60 64 (fun _ => 0), kI cI b3_61 64 (fun _ => 0)] ++ RWn cI rh_4 4) H := hP
  have hD : va_D A ([kX5 h0 q_1 0, kQ cR q_1 9 (va_up (va_up (va_up (va_up (va_up (fun _ => none) 0 (some q_3)) 1 (some q_15)) 2 (some q_27)) 3 (some q_39)) 4 (some q_51)), kX4 q_51 0 b0_55 b1_59 b2_60 b3_61, kX0 b0_55 a1_56 a2_57 a3_58 0 0, kI cI a1_56 3 (fun _ => 0), kI cI a2_57 3 (fun _ => 0), kI cI a3_58 3 (fun _ => 0), kI cI b1_59 3 (fun _ => 0), kI cI b2_60 64 (fun _ => 0), kI cI b3_61 64 (fun _ => 0)] ++ RWn cI rh_4 4) := hD
  have hPD : PD D A ([kX5 h0 q_1 0, kQ cR q_1 9 (va_up (va_up (va_up (va_up (va_up (fun _ => none) 0 (some q_3)) 1 (some q_15)) 2 (some q_27)) 3 (some q_39)) 4 (some q_51)), kX4 q_51 0 b0_55 b1_59 b2_60 b3_61, kX0 b0_55 a1_56 a2_57 a3_58 0 0, kI cI a1_56 3 (fun _ => 0), kI cI a2_57 3 (fun _ => 0), kI cI a3_58 3 (fun _ => 0), kI cI b1_59 3 (fun _ => 0), kI cI b2_60 64 (fun _ => 0), kI cI b3_61 64 (fun _ => 0)] ++ RWn cI rh_4 4) H := (PD.perm ⟨hP, hD⟩ (permB pm_2)).left
  obtain ⟨hP, hD⟩ := absorb (E := [kX5 h0 q_1 0, kQ cR q_1 9 (va_up (va_up (va_up (va_up (va_up (fun _ => none) 0 (some q_3)) 1 (some q_15)) 2 (some q_27)) 3 (some q_39)) 4 (some q_51))]) (t := ((q_51, b0_55, a1_56, a2_57, a3_58, b1_59, b2_60, b3_61), (0, 0, 0), (fun _ => 0, fun _ => 0, fun _ => 0, fun _ => 0, fun _ => 0, fun _ => 0))) hPD.1 hPD.2
  obtain ⟨rh_5, hrh_5⟩ : ∃ x, x = va_up rh_4 4 ((q_51, b0_55, a1_56, a2_57, a3_58, b1_59, b2_60, b3_61), (0, 0, 0), (fun _ => 0, fun _ => 0, fun _ => 0, fun _ => 0, fun _ => 0, fun _ => 0)) := ⟨_, rfl⟩
  rw [← hrh_5] at hP hD
  have hrow : ∀ j, j < 4 + 1 → (va_up (va_up (va_up (va_up (va_up (fun _ => none) 0 (some q_3)) 1 (some q_15)) 2 (some q_27)) 3 (some q_39)) 4 (some q_51)) j = some ((rh_5 j).1.1) := by rw [hrh_5]; exact row_s hrow rfl
  have hP : va_P D vwCl ([kX5 h0 q_1 0, kQ cR q_1 9 (va_up (va_up (va_up (va_up (va_up (fun _ => none) 0 (some q_3)) 1 (some q_15)) 2 (some q_27)) 3 (some q_39)) 4 (some q_51))] ++ RWn cI rh_5 5) H := hP
  have hD : va_D A ([kX5 h0 q_1 0, kQ cR q_1 9 (va_up (va_up (va_up (va_up (va_up (fun _ => none) 0 (some q_3)) 1 (some q_15)) 2 (some q_27)) 3 (some q_39)) 4 (some q_51))] ++ RWn cI rh_5 5) := hD
  refine lv_iinc (v := 5) (lv' := [(1, .int 5), (0, .ref h0)]) hx hb dX5_init_42 hl (k := 0) rfl (by decide) (by decide) rfl (fun ls hl => ?_)
  refine lv_goto (tgt := 20) hx hb dX5_init_45 (by decide) ?_
  refine lv_iload_n hx hb dX5_init_20 rfl (lv_at hl 0 rfl) ?_
  refine lv_aload_n hx hb dX5_init_21 rfl (lv_at hl 1 rfl) ?_
  refine va_get (D := D) (ci := 5) (v := .ref q_1) (C := RX5) (T := TX5) (N := 2) hx hb hts iT_X5 hown hK1 hP 0 rfl rfl 0 (by decide) (hts _ t_102) (fun _ h9 => h9) rfl dX5_init_22 ?_
  refine va_alen hx hb hK1 hP 1 3 rfl rfl (v := 9) rfl dX5_init_25 ?_
  refine lv_icmp_ge (tgt := 48) hx hb dX5_init_26 (by decide) (fun c_62 => ?_) (fun c_62 => ?_)
  · exact absurd c_62 (by decide)
  refine lv_aload_n hx hb dX5_init_29 rfl (lv_at hl 1 rfl) ?_
  refine va_get (D := D) (ci := 5) (v := .ref q_1) (C := RX5) (T := TX5) (N := 2) hx hb hts iT_X5 hown hK1 hP 0 rfl rfl 0 (by decide) (hts _ t_102) (fun _ h9 => h9) rfl dX5_init_30 ?_
  refine lv_iload_n hx hb dX5_init_33 rfl (lv_at hl 0 rfl) ?_
  refine va_new (ci := 4) (fs := [.int 0, .null, .null, .null, .null]) (C := RX4) (T := TX4) (N := 5) hx hb hts iT_X4 tyX4 tyX4_ok hown (hts _ t_42) (hts _ t_44) (hts _ t_4) hK1 hP hD hS hA rfl df_X4 (Nat.le_of_ble_eq_true rfl) (Nat.le_of_ble_eq_true rfl) dX5_init_34 (fun q_63 H hP hD hS => ?_)
  obtain ⟨hP, hD⟩ := PD.perm ⟨hP, hD⟩ permA'
  have hP : va_P D vwCl ([kX5 h0 q_1 0, kQ cR q_1 9 (va_up (va_up (va_up (va_up (va_up (fun _ => none) 0 (some q_3)) 1 (some q_15)) 2 (some q_27)) 3 (some q_39)) 4 (some q_51)), (q_63, .inr (4, [.int 0, .null, .null, .null, .null]))] ++ RWn cI rh_5 5) H := hP
  have hD : va_D A ([kX5 h0 q_1 0, kQ cR q_1 9 (va_up (va_up (va_up (va_up (va_up (fun _ => none) 0 (some q_3)) 1 (some q_15)) 2 (some q_27)) 3 (some q_39)) 4 (some q_51)), (q_63, .inr (4, [.int 0, .null, .null, .null, .null]))] ++ RWn cI rh_5 5) := hD
  refine W.widen (k := 42) (n := 764) (Nat.le_of_ble_eq_true rfl) (Nat.le_of_ble_eq_true rfl) ?_
  refine lv_dup hx hb dX5_init_37 rfl ?_
  have hPD : PD D A ([(q_63, .inr (4, [.int 0, .null, .null, .null, .null]))] ++ ([kX5 h0 q_1 0, kQ cR q_1 9 (va_up (va_up (va_up (va_up (va_up (fun _ => none) 0 (some q_3)) 1 (some q_15)) 2 (some q_27)) 3 (some q_39)) 4 (some q_51))] ++ RWn cI rh_5 5)) H := PD.perm ⟨hP, hD⟩ (permA pm_1)
  refine xp_v (wc := [(q_63, .inr (4, [.int 0, .null, .null, .null, .null]))]) (wr := ([kX5 h0 q_1 0, kQ cR q_1 9 (va_up (va_up (va_up (va_up (va_up (fun _ => none) 0 (some q_3)) 1 (some q_15)) 2 (some q_27)) 3 (some q_39)) 4 (some q_51))] ++ RWn cI rh_5 5)) (xqIN (n := 0) (As := []) (rest := [.ref q_63, .int 5, .ref q_1]) hd hK hPD.left (c_X4_init l D cI cJ cZ cR _ q_63 ) mI_X4_init.1 mI_X4_init.2.1 hK.2.2.1 mI_X4_init.2.2 rfl hS_X4_init ⟨(Nat.le_of_ble_eq_true rfl), (Nat.le_of_ble_eq_true rfl)⟩ rfl hl.1 rfl (Nat.le_of_ble_eq_true rfl) dX5_init_38 ⟨(Nat.le_of_ble_eq_true rfl), (Nat.le_of_ble_eq_true rfl)⟩) hPD hS hA (fun u_65 H locs hw_66 hPD hS => ?_)
  obtain ⟨b0_67, a1_68, a2_69, a3_70, b1_71, b2_72, b3_73⟩ := u_65
  obtain ⟨hP, hD⟩ := hPD.perm permA'
  have hP : va_P D vwCl ([kX5 h0 q_1 0, kQ cR q_1 9 (va_up (va_up (va_up (va_up (va_up (fun _ => none) 0 (some q_3)) 1 (some q_15)) 2 (some q_27)) 3 (some q_39)) 4 (some q_51)), kX4 q_63 0 b0_67 b1_71 b2_72 b3_73, kX0 b0_67 a1_68 a2_69 a3_70 0 0, kI cI a1_68 3 (fun _ => 0), kI cI a2_69 3 (fun _ => 0), kI cI a3_70 3 (fun _ => 0), kI cI b1_71 3 (fun _ => 0), kI cI b2_72 64 (fun _ => 0), kI cI b3_73 64 (fun _ => 0)] ++ RWn cI rh_5 5) H := hP
  have hD : va_D A ([kX5 h0 q_1 0, kQ cR q_1 9 (va_up (va_up (va_up (va_up (va_up (fun _ => none) 0 (some q_3)) 1 (some q_15)) 2 (some q_27)) 3 (some q_39)) 4 (some q_51)), kX4 q_63 0 b0_67 b1_71 b2_72 b3_73, kX0 b0_67 a1_68 a2_69 a3_70 0 0, kI cI a1_68 3 (fun _ => 0), kI cI a2_69 3 (fun _ => 0), kI cI a3_70 3 (fun _ => 0), kI cI b1_71 3 (fun _ => 0), kI cI b2_72 64 (fun _ => 0), kI cI b3_73 64 (fun _ => 0)] ++ RWn cI rh_5 5) := hD
  refine W.widen (k := 49) (n := 909) (Nat.le_of_ble_eq_true rfl) (Nat.le_of_ble_eq_true rfl) ?_
  refine va_astq hx hb hK1 hP hD hS 1 3 2 4 rfl rfl rfl rfl (vin (by decide)) dX5_init_41 (fun H locs hP hD hS => ?_)
  have hP : va_P D vwCl ([kX5 h0 q_1 0, kQ cR q_1 9 (va_up (va_up (va_up (va_up (va_up (va_up (fun _ => none) 0 (some q_3)) 1 (some q_15)) 2 (some q_27)) 3 (some q_39)) 4 (some q_51)) 5 (some q_63)), kX4 q_63 0 b0_67 b1_71 b2_72 b3_73, kX0 b0_67 a1_68 a2_69 a3_70 0 0, kI cI a1_68 3 (fun _ => 0), kI cI a2_69 3 (fun _ => 0), kI cI a3_70 3 (fun _ => 0), kI cI b1_71 3 (fun _ => 0), kI cI b2_72 64 (fun _ => 0), kI cI b3_73 64 (fun _ => 0)] ++ RWn cI rh_5 5) H := hP
  have hD : va_D A ([kX5 h0 q_1 0, kQ cR q_1 9 (va_up (va_up (va_up (va_up (va_up (va_up (fun _ => none) 0 (some q_3)) 1 (some q_15)) 2 (some q_27)) 3 (some q_39)) 4 (some q_51)) 5 (some q_63)), kX4 q_63 0 b0_67 b1_71 b2_72 b3_73, kX0 b0_67 a1_68 a2_69 a3_70 0 0, kI cI a1_68 3 (fun _ => 0), kI cI a2_69 3 (fun _ => 0), kI cI a3_70 3 (fun _ => 0), kI cI b1_71 3 (fun _ => 0), kI cI b2_72 64 (fun _ => 0), kI cI b3_73 64 (fun _ => 0)] ++ RWn cI rh_5 5) := hD
  have hPD : PD D A ([kX5 h0 q_1 0, kQ cR q_1 9 (va_up (va_up (va_up (va_up (va_up (va_up (fun _ => none) 0 (some q_3)) 1 (some q_15)) 2 (some q_27)) 3 (some q_39)) 4 (some q_51)) 5 (some q_63)), kX4 q_63 0 b0_67 b1_71 b2_72 b3_73, kX0 b0_67 a1_68 a2_69 a3_70 0 0, kI cI a1_68 3 (fun _ => 0), kI cI a2_69 3 (fun _ => 0), kI cI a3_70 3 (fun _ => 0), kI cI b1_71 3 (fun _ => 0), kI cI b2_72 64 (fun _ => 0), kI cI b3_73 64 (fun _ => 0)] ++ RWn cI rh_5 5) H := (PD.perm ⟨hP, hD⟩ (permB pm_2)).left
  obtain ⟨hP, hD⟩ := absorb (E := [kX5 h0 q_1 0, kQ cR q_1 9 (va_up (va_up (va_up (va_up (va_up (va_up (fun _ => none) 0 (some q_3)) 1 (some q_15)) 2 (some q_27)) 3 (some q_39)) 4 (some q_51)) 5 (some q_63))]) (t := ((q_63, b0_67, a1_68, a2_69, a3_70, b1_71, b2_72, b3_73), (0, 0, 0), (fun _ => 0, fun _ => 0, fun _ => 0, fun _ => 0, fun _ => 0, fun _ => 0))) hPD.1 hPD.2
  obtain ⟨rh_6, hrh_6⟩ : ∃ x, x = va_up rh_5 5 ((q_63, b0_67, a1_68, a2_69, a3_70, b1_71, b2_72, b3_73), (0, 0, 0), (fun _ => 0, fun _ => 0, fun _ => 0, fun _ => 0, fun _ => 0, fun _ => 0)) := ⟨_, rfl⟩
  rw [← hrh_6] at hP hD
  have hrow : ∀ j, j < 5 + 1 → (va_up (va_up (va_up (va_up (va_up (va_up (fun _ => none) 0 (some q_3)) 1 (some q_15)) 2 (some q_27)) 3 (some q_39)) 4 (some q_51)) 5 (some q_63)) j = some ((rh_6 j).1.1) := by rw [hrh_6]; exact row_s hrow rfl
  have hP : va_P D vwCl ([kX5 h0 q_1 0, kQ cR q_1 9 (va_up (va_up (va_up (va_up (va_up (va_up (fun _ => none) 0 (some q_3)) 1 (some q_15)) 2 (some q_27)) 3 (some q_39)) 4 (some q_51)) 5 (some q_63))] ++ RWn cI rh_6 6) H := hP
  have hD : va_D A ([kX5 h0 q_1 0, kQ cR q_1 9 (va_up (va_up (va_up (va_up (va_up (va_up (fun _ => none) 0 (some q_3)) 1 (some q_15)) 2 (some q_27)) 3 (some q_39)) 4 (some q_51)) 5 (some q_63))] ++ RWn cI rh_6 6) := hD
  refine lv_iinc (v := 6) (lv' := [(1, .int 6), (0, .ref h0)]) hx hb dX5_init_42 hl (k := 0) rfl (by decide) (by decide) rfl (fun ls hl => ?_)
  refine lv_goto (tgt := 20) hx hb dX5_init_45 (by decide) ?_
  refine lv_iload_n hx hb dX5_init_20 rfl (lv_at hl 0 rfl) ?_
  refine lv_aload_n hx hb dX5_init_21 rfl (lv_at hl 1 rfl) ?_
  refine va_get (D := D) (ci := 5) (v := .ref q_1) (C := RX5) (T := TX5) (N := 2) hx hb hts iT_X5 hown hK1 hP 0 rfl rfl 0 (by decide) (hts _ t_102) (fun _ h9 => h9) rfl dX5_init_22 ?_
  refine va_alen hx hb hK1 hP 1 3 rfl rfl (v := 9) rfl dX5_init_25 ?_
  refine lv_icmp_ge (tgt := 48) hx hb dX5_init_26 (by decide) (fun c_74 => ?_) (fun c_74 => ?_)
  · exact absurd c_74 (by decide)
  refine lv_aload_n hx hb dX5_init_29 rfl (lv_at hl 1 rfl) ?_
  refine va_get (D := D) (ci := 5) (v := .ref q_1) (C := RX5) (T := TX5) (N := 2) hx hb hts iT_X5 hown hK1 hP 0 rfl rfl 0 (by decide) (hts _ t_102) (fun _ h9 => h9) rfl dX5_init_30 ?_
  refine lv_iload_n hx hb dX5_init_33 rfl (lv_at hl 0 rfl) ?_
  refine va_new (ci := 4) (fs := [.int 0, .null, .null, .null, .null]) (C := RX4) (T := TX4) (N := 5) hx hb hts iT_X4 tyX4 tyX4_ok hown (hts _ t_42) (hts _ t_44) (hts _ t_4) hK1 hP hD hS hA rfl df_X4 (Nat.le_of_ble_eq_true rfl) (Nat.le_of_ble_eq_true rfl) dX5_init_34 (fun q_75 H hP hD hS => ?_)
  obtain ⟨hP, hD⟩ := PD.perm ⟨hP, hD⟩ permA'
  have hP : va_P D vwCl ([kX5 h0 q_1 0, kQ cR q_1 9 (va_up (va_up (va_up (va_up (va_up (va_up (fun _ => none) 0 (some q_3)) 1 (some q_15)) 2 (some q_27)) 3 (some q_39)) 4 (some q_51)) 5 (some q_63)), (q_75, .inr (4, [.int 0, .null, .null, .null, .null]))] ++ RWn cI rh_6 6) H := hP
  have hD : va_D A ([kX5 h0 q_1 0, kQ cR q_1 9 (va_up (va_up (va_up (va_up (va_up (va_up (fun _ => none) 0 (some q_3)) 1 (some q_15)) 2 (some q_27)) 3 (some q_39)) 4 (some q_51)) 5 (some q_63)), (q_75, .inr (4, [.int 0, .null, .null, .null, .null]))] ++ RWn cI rh_6 6) := hD
  refine W.widen (k := 50) (n := 914) (Nat.le_of_ble_eq_true rfl) (Nat.le_of_ble_eq_true rfl) ?_
  refine lv_dup hx hb dX5_init_37 rfl ?_
  have hPD : PD D A ([(q_75, .inr (4, [.int 0, .null, .null, .null, .null]))] ++ ([kX5 h0 q_1 0, kQ cR q_1 9 (va_up (va_up (va_up (va_up (va_up (va_up (fun _ => none) 0 (some q_3)) 1 (some q_15)) 2 (some q_27)) 3 (some q_39)) 4 (some q_51)) 5 (some q_63))] ++ RWn cI rh_6 6)) H := PD.perm ⟨hP, hD⟩ (permA pm_1)
  refine xp_v (wc := [(q_75, .inr (4, [.int 0, .null, .null, .null, .null]))]) (wr := ([kX5 h0 q_1 0, kQ cR q_1 9 (va_up (va_up (va_up (va_up (va_up (va_up (fun _ => none) 0 (some q_3)) 1 (some q_15)) 2 (some q_27)) 3 (some q_39)) 4 (some q_51)) 5 (some q_63))] ++ RWn cI rh_6 6)) (xqIN (n := 0) (As := []) (rest := [.ref q_75, .int 6, .ref q_1]) hd hK hPD.left (c_X4_init l D cI cJ cZ cR _ q_75 ) mI_X4_init.1 mI_X4_init.2.1 hK.2.2.1 mI_X4_init.2.2 rfl hS_X4_init ⟨(Nat.le_of_ble_eq_true rfl), (Nat.le_of_ble_eq_true rfl)⟩ rfl hl.1 rfl (Nat.le_of_ble_eq_true rfl) dX5_init_38 ⟨(Nat.le_of_ble_eq_true rfl), (Nat.le_of_ble_eq_true rfl)⟩) hPD hS hA (fun u_77 H locs hw_78 hPD hS => ?_)
  obtain ⟨b0_79, a1_80, a2_81, a3_82, b1_83, b2_84, b3_85⟩ := u_77
  obtain ⟨hP, hD⟩ := hPD.perm permA'
  have hP : va_P D vwCl ([kX5 h0 q_1 0, kQ cR q_1 9 (va_up (va_up (va_up (va_up (va_up (va_up (fun _ => none) 0 (some q_3)) 1 (some q_15)) 2 (some q_27)) 3 (some q_39)) 4 (some q_51)) 5 (some q_63)), kX4 q_75 0 b0_79 b1_83 b2_84 b3_85, kX0 b0_79 a1_80 a2_81 a3_82 0 0, kI cI a1_80 3 (fun _ => 0), kI cI a2_81 3 (fun _ => 0), kI cI a3_82 3 (fun _ => 0), kI cI b1_83 3 (fun _ => 0), kI cI b2_84 64 (fun _ => 0), kI cI b3_85 64 (fun _ => 0)] ++ RWn cI rh_6 6) H := hP
  have hD : va_D A ([kX5 h0 q_1 0, kQ cR q_1 9 (va_up (va_up (va_up (va_up (va_up (va_up (fun _ => none) 0 (some q_3)) 1 (some q_15)) 2 (some q_27)) 3 (some q_39)) 4 (some q_51)) 5 (some q_63)), kX4 q_75 0 b0_79 b1_83 b2_84 b3_85, kX0 b0_79 a1_80 a2_81 a3_82 0 0, kI cI a1_80 3 (fun _ => 0), kI cI a2_81 3 (fun _ => 0), kI cI a3_82 3 (fun _ => 0), kI cI b1_83 3 (fun _ => 0), kI cI b2_84 64 (fun _ => 0), kI cI b3_85 64 (fun _ => 0)] ++ RWn cI rh_6 6) := hD
  refine W.widen (k := 57) (n := 1059) (Nat.le_of_ble_eq_true rfl) (Nat.le_of_ble_eq_true rfl) ?_
  refine va_astq hx hb hK1 hP hD hS 1 3 2 4 rfl rfl rfl rfl (vin (by decide)) dX5_init_41 (fun H locs hP hD hS => ?_)
  have hP : va_P D vwCl ([kX5 h0 q_1 0, kQ cR q_1 9 (va_up (va_up (va_up (va_up (va_up (va_up (va_up (fun _ => none) 0 (some q_3)) 1 (some q_15)) 2 (some q_27)) 3 (some q_39)) 4 (some q_51)) 5 (some q_63)) 6 (some q_75)), kX4 q_75 0 b0_79 b1_83 b2_84 b3_85, kX0 b0_79 a1_80 a2_81 a3_82 0 0, kI cI a1_80 3 (fun _ => 0), kI cI a2_81 3 (fun _ => 0), kI cI a3_82 3 (fun _ => 0), kI cI b1_83 3 (fun _ => 0), kI cI b2_84 64 (fun _ => 0), kI cI b3_85 64 (fun _ => 0)] ++ RWn cI rh_6 6) H := hP
  have hD : va_D A ([kX5 h0 q_1 0, kQ cR q_1 9 (va_up (va_up (va_up (va_up (va_up (va_up (va_up (fun _ => none) 0 (some q_3)) 1 (some q_15)) 2 (some q_27)) 3 (some q_39)) 4 (some q_51)) 5 (some q_63)) 6 (some q_75)), kX4 q_75 0 b0_79 b1_83 b2_84 b3_85, kX0 b0_79 a1_80 a2_81 a3_82 0 0, kI cI a1_80 3 (fun _ => 0), kI cI a2_81 3 (fun _ => 0), kI cI a3_82 3 (fun _ => 0), kI cI b1_83 3 (fun _ => 0), kI cI b2_84 64 (fun _ => 0), kI cI b3_85 64 (fun _ => 0)] ++ RWn cI rh_6 6) := hD
  have hPD : PD D A ([kX5 h0 q_1 0, kQ cR q_1 9 (va_up (va_up (va_up (va_up (va_up (va_up (va_up (fun _ => none) 0 (some q_3)) 1 (some q_15)) 2 (some q_27)) 3 (some q_39)) 4 (some q_51)) 5 (some q_63)) 6 (some q_75)), kX4 q_75 0 b0_79 b1_83 b2_84 b3_85, kX0 b0_79 a1_80 a2_81 a3_82 0 0, kI cI a1_80 3 (fun _ => 0), kI cI a2_81 3 (fun _ => 0), kI cI a3_82 3 (fun _ => 0), kI cI b1_83 3 (fun _ => 0), kI cI b2_84 64 (fun _ => 0), kI cI b3_85 64 (fun _ => 0)] ++ RWn cI rh_6 6) H := (PD.perm ⟨hP, hD⟩ (permB pm_2)).left
  obtain ⟨hP, hD⟩ := absorb (E := [kX5 h0 q_1 0, kQ cR q_1 9 (va_up (va_up (va_up (va_up (va_up (va_up (va_up (fun _ => none) 0 (some q_3)) 1 (some q_15)) 2 (some q_27)) 3 (some q_39)) 4 (some q_51)) 5 (some q_63)) 6 (some q_75))]) (t := ((q_75, b0_79, a1_80, a2_81, a3_82, b1_83, b2_84, b3_85), (0, 0, 0), (fun _ => 0, fun _ => 0, fun _ => 0, fun _ => 0, fun _ => 0, fun _ => 0))) hPD.1 hPD.2
  obtain ⟨rh_7, hrh_7⟩ : ∃ x, x = va_up rh_6 6 ((q_75, b0_79, a1_80, a2_81, a3_82, b1_83, b2_84, b3_85), (0, 0, 0), (fun _ => 0, fun _ => 0, fun _ => 0, fun _ => 0, fun _ => 0, fun _ => 0)) := ⟨_, rfl⟩
  rw [← hrh_7] at hP hD
  have hrow : ∀ j, j < 6 + 1 → (va_up (va_up (va_up (va_up (va_up (va_up (va_up (fun _ => none) 0 (some q_3)) 1 (some q_15)) 2 (some q_27)) 3 (some q_39)) 4 (some q_51)) 5 (some q_63)) 6 (some q_75)) j = some ((rh_7 j).1.1) := by rw [hrh_7]; exact row_s hrow rfl
  have hP : va_P D vwCl ([kX5 h0 q_1 0, kQ cR q_1 9 (va_up (va_up (va_up (va_up (va_up (va_up (va_up (fun _ => none) 0 (some q_3)) 1 (some q_15)) 2 (some q_27)) 3 (some q_39)) 4 (some q_51)) 5 (some q_63)) 6 (some q_75))] ++ RWn cI rh_7 7) H := hP
  have hD : va_D A ([kX5 h0 q_1 0, kQ cR q_1 9 (va_up (va_up (va_up (va_up (va_up (va_up (va_up (fun _ => none) 0 (some q_3)) 1 (some q_15)) 2 (some q_27)) 3 (some q_39)) 4 (some q_51)) 5 (some q_63)) 6 (some q_75))] ++ RWn cI rh_7 7) := hD
  refine lv_iinc (v := 7) (lv' := [(1, .int 7), (0, .ref h0)]) hx hb dX5_init_42 hl (k := 0) rfl (by decide) (by decide) rfl (fun ls hl => ?_)
  refine lv_goto (tgt := 20) hx hb dX5_init_45 (by decide) ?_
  refine lv_iload_n hx hb dX5_init_20 rfl (lv_at hl 0 rfl) ?_
  refine lv_aload_n hx hb dX5_init_21 rfl (lv_at hl 1 rfl) ?_
  refine va_get (D := D) (ci := 5) (v := .ref q_1) (C := RX5) (T := TX5) (N := 2) hx hb hts iT_X5 hown hK1 hP 0 rfl rfl 0 (by decide) (hts _ t_102) (fun _ h9 => h9) rfl dX5_init_22 ?_
  refine va_alen hx hb hK1 hP 1 3 rfl rfl (v := 9) rfl dX5_init_25 ?_
  refine lv_icmp_ge (tgt := 48) hx hb dX5_init_26 (by decide) (fun c_86 => ?_) (fun c_86 => ?_)
  · exact absurd c_86 (by decide)
  refine lv_aload_n hx hb dX5_init_29 rfl (lv_at hl 1 rfl) ?_
  refine va_get (D := D) (ci := 5) (v := .ref q_1) (C := RX5) (T := TX5) (N := 2) hx hb hts iT_X5 hown hK1 hP 0 rfl rfl 0 (by decide) (hts _ t_102) (fun _ h9 => h9) rfl dX5_init_30 ?_
  refine lv_iload_n hx hb dX5_init_33 rfl (lv_at hl 0 rfl) ?_
  refine va_new (ci := 4) (fs := [.int 0, .null, .null, .null, .null]) (C := RX4) (T := TX4) (N := 5) hx hb hts iT_X4 tyX4 tyX4_ok hown (hts _ t_42) (hts _ t_44) (hts _ t_4) hK1 hP hD hS hA rfl df_X4 (Nat.le_of_ble_eq_true rfl) (Nat.le_of_ble_eq_true rfl) dX5_init_34 (fun q_87 H hP hD hS => ?_)
  obtain ⟨hP, hD⟩ := PD.perm ⟨hP, hD⟩ permA'
  have hP : va_P D vwCl ([kX5 h0 q_1 0, kQ cR q_1 9 (va_up (va_up (va_up (va_up (va_up (va_up (va_up (fun _ => none) 0 (some q_3)) 1 (some q_15)) 2 (some q_27)) 3 (some q_39)) 4 (some q_51)) 5 (some q_63)) 6 (some q_75)), (q_87, .inr (4, [.int 0, .null, .null, .null, .null]))] ++ RWn cI rh_7 7) H := hP
  have hD : va_D A ([kX5 h0 q_1 0, kQ cR q_1 9 (va_up (va_up (va_up (va_up (va_up (va_up (va_up (fun _ => none) 0 (some q_3)) 1 (some q_15)) 2 (some q_27)) 3 (some q_39)) 4 (some q_51)) 5 (some q_63)) 6 (some q_75)), (q_87, .inr (4, [.int 0, .null, .null, .null, .null]))] ++ RWn cI rh_7 7) := hD
  refine W.widen (k := 58) (n := 1064) (Nat.le_of_ble_eq_true rfl) (Nat.le_of_ble_eq_true rfl) ?_
  refine lv_dup hx hb dX5_init_37 rfl ?_
  have hPD : PD D A ([(q_87, .inr (4, [.int 0, .null, .null, .null, .null]))] ++ ([kX5 h0 q_1 0, kQ cR q_1 9 (va_up (va_up (va_up (va_up (va_up (va_up (va_up (fun _ => none) 0 (some q_3)) 1 (some q_15)) 2 (some q_27)) 3 (some q_39)) 4 (some q_51)) 5 (some q_63)) 6 (some q_75))] ++ RWn cI rh_7 7)) H := PD.perm ⟨hP, hD⟩ (permA pm_1)
  refine xp_v (wc := [(q_87, .inr (4, [.int 0, .null, .null, .null, .null]))]) (wr := ([kX5 h0 q_1 0, kQ cR q_1 9 (va_up (va_up (va_up (va_up (va_up (va_up (va_up (fun _ => none) 0 (some q_3)) 1 (some q_15)) 2 (some q_27)) 3 (some q_39)) 4 (some q_51)) 5 (some q_63)) 6 (some q_75))] ++ RWn cI rh_7 7)) (xqIN (n := 0) (As := []) (rest := [.ref q_87, .int 7, .ref q_1]) hd hK hPD.left (c_X4_init l D cI cJ cZ cR _ q_87 ) mI_X4_init.1 mI_X4_init.2.1 hK.2.2.1 mI_X4_init.2.2 rfl hS_X4_init ⟨(Nat.le_of_ble_eq_true rfl), (Nat.le_of_ble_eq_true rfl)⟩ rfl hl.1 rfl (Nat.le_of_ble_eq_true rfl) dX5_init_38 ⟨(Nat.le_of_ble_eq_true rfl), (Nat.le_of_ble_eq_true rfl)⟩) hPD hS hA (fun u_89 H locs hw_90 hPD hS => ?_)
  obtain ⟨b0_91, a1_92, a2_93, a3_94, b1_95, b2_96, b3_97⟩ := u_89
  obtain ⟨hP, hD⟩ := hPD.perm permA'
  have hP : va_P D vwCl ([kX5 h0 q_1 0, kQ cR q_1 9 (va_up (va_up (va_up (va_up (va_up (va_up (va_up (fun _ => none) 0 (some q_3)) 1 (some q_15)) 2 (some q_27)) 3 (some q_39)) 4 (some q_51)) 5 (some q_63)) 6 (some q_75)), kX4 q_87 0 b0_91 b1_95 b2_96 b3_97, kX0 b0_91 a1_92 a2_93 a3_94 0 0, kI cI a1_92 3 (fun _ => 0), kI cI a2_93 3 (fun _ => 0), kI cI a3_94 3 (fun _ => 0), kI cI b1_95 3 (fun _ => 0), kI cI b2_96 64 (fun _ => 0), kI cI b3_97 64 (fun _ => 0)] ++ RWn cI rh_7 7) H := hP
  have hD : va_D A ([kX5 h0 q_1 0, kQ cR q_1 9 (va_up (va_up (va_up (va_up (va_up (va_up (va_up (fun _ => none) 0 (some q_3)) 1 (some q_15)) 2 (some q_27)) 3 (some q_39)) 4 (some q_51)) 5 (some q_63)) 6 (some q_75)), kX4 q_87 0 b0_91 b1_95 b2_96 b3_97, kX0 b0_91 a1_92 a2_93 a3_94 0 0, kI cI a1_92 3 (fun _ => 0), kI cI a2_93 3 (fun _ => 0), kI cI a3_94 3 (fun _ => 0), kI cI b1_95 3 (fun _ => 0), kI cI b2_96 64 (fun _ => 0), kI cI b3_97 64 (fun _ => 0)] ++ RWn cI rh_7 7) := hD
  refine W.widen (k := 65) (n := 1209) (Nat.le_of_ble_eq_true rfl) (Nat.le_of_ble_eq_true rfl) ?_
  refine va_astq hx hb hK1 hP hD hS 1 3 2 4 rfl rfl rfl rfl (vin (by decide)) dX5_init_41 (fun H locs hP hD hS => ?_)
  have hP : va_P D vwCl ([kX5 h0 q_1 0, kQ cR q_1 9 (va_up (va_up (va_up (va_up (va_up (va_up (va_up (va_up (fun _ => none) 0 (some q_3)) 1 (some q_15)) 2 (some q_27)) 3 (some q_39)) 4 (some q_51)) 5 (some q_63)) 6 (some q_75)) 7 (some q_87)), kX4 q_87 0 b0_91 b1_95 b2_96 b3_97, kX0 b0_91 a1_92 a2_93 a3_94 0 0, kI cI a1_92 3 (fun _ => 0), kI cI a2_93 3 (fun _ => 0), kI cI a3_94 3 (fun _ => 0), kI cI b1_95 3 (fun _ => 0), kI cI b2_96 64 (fun _ => 0), kI cI b3_97 64 (fun _ => 0)] ++ RWn cI rh_7 7) H := hP
  have hD : va_D A ([kX5 h0 q_1 0, kQ cR q_1 9 (va_up (va_up (va_up (va_up (va_up (va_up (va_up (va_up (fun _ => none) 0 (some q_3)) 1 (some q_15)) 2 (some q_27)) 3 (some q_39)) 4 (some q_51)) 5 (some q_63)) 6 (some q_75)) 7 (some q_87)), kX4 q_87 0 b0_91 b1_95 b2_96 b3_97, kX0 b0_91 a1_92 a2_93 a3_94 0 0, kI cI a1_92 3 (fun _ => 0), kI cI a2_93 3 (fun _ => 0), kI cI a3_94 3 (fun _ => 0), kI cI b1_95 3 (fun _ => 0), kI cI b2_96 64 (fun _ => 0), kI cI b3_97 64 (fun _ => 0)] ++ RWn cI rh_7 7) := hD
  have hPD : PD D A ([kX5 h0 q_1 0, kQ cR q_1 9 (va_up (va_up (va_up (va_up (va_up (va_up (va_up (va_up (fun _ => none) 0 (some q_3)) 1 (some q_15)) 2 (some q_27)) 3 (some q_39)) 4 (some q_51)) 5 (some q_63)) 6 (some q_75)) 7 (some q_87)), kX4 q_87 0 b0_91 b1_95 b2_96 b3_97, kX0 b0_91 a1_92 a2_93 a3_94 0 0, kI cI a1_92 3 (fun _ => 0), kI cI a2_93 3 (fun _ => 0), kI cI a3_94 3 (fun _ => 0), kI cI b1_95 3 (fun _ => 0), kI cI b2_96 64 (fun _ => 0), kI cI b3_97 64 (fun _ => 0)] ++ RWn cI rh_7 7) H := (PD.perm ⟨hP, hD⟩ (permB pm_2)).left
  obtain ⟨hP, hD⟩ := absorb (E := [kX5 h0 q_1 0, kQ cR q_1 9 (va_up (va_up (va_up (va_up (va_up (va_up (va_up (va_up (fun _ => none) 0 (some q_3)) 1 (some q_15)) 2 (some q_27)) 3 (some q_39)) 4 (some q_51)) 5 (some q_63)) 6 (some q_75)) 7 (some q_87))]) (t := ((q_87, b0_91, a1_92, a2_93, a3_94, b1_95, b2_96, b3_97), (0, 0, 0), (fun _ => 0, fun _ => 0, fun _ => 0, fun _ => 0, fun _ => 0, fun _ => 0))) hPD.1 hPD.2
  obtain ⟨rh_8, hrh_8⟩ : ∃ x, x = va_up rh_7 7 ((q_87, b0_91, a1_92, a2_93, a3_94, b1_95, b2_96, b3_97), (0, 0, 0), (fun _ => 0, fun _ => 0, fun _ => 0, fun _ => 0, fun _ => 0, fun _ => 0)) := ⟨_, rfl⟩
  rw [← hrh_8] at hP hD
  have hrow : ∀ j, j < 7 + 1 → (va_up (va_up (va_up (va_up (va_up (va_up (va_up (va_up (fun _ => none) 0 (some q_3)) 1 (some q_15)) 2 (some q_27)) 3 (some q_39)) 4 (some q_51)) 5 (some q_63)) 6 (some q_75)) 7 (some q_87)) j = some ((rh_8 j).1.1) := by rw [hrh_8]; exact row_s hrow rfl
  have hP : va_P D vwCl ([kX5 h0 q_1 0, kQ cR q_1 9 (va_up (va_up (va_up (va_up (va_up (va_up (va_up (va_up (fun _ => none) 0 (some q_3)) 1 (some q_15)) 2 (some q_27)) 3 (some q_39)) 4 (some q_51)) 5 (some q_63)) 6 (some q_75)) 7 (some q_87))] ++ RWn cI rh_8 8) H := hP
  have hD : va_D A ([kX5 h0 q_1 0, kQ cR q_1 9 (va_up (va_up (va_up (va_up (va_up (va_up (va_up (va_up (fun _ => none) 0 (some q_3)) 1 (some q_15)) 2 (some q_27)) 3 (some q_39)) 4 (some q_51)) 5 (some q_63)) 6 (some q_75)) 7 (some q_87))] ++ RWn cI rh_8 8) := hD
  refine lv_iinc (v := 8) (lv' := [(1, .int 8), (0, .ref h0)]) hx hb dX5_init_42 hl (k := 0) rfl (by decide) (by decide) rfl (fun ls hl => ?_)
  refine lv_goto (tgt := 20) hx hb dX5_init_45 (by decide) ?_
  refine lv_iload_n hx hb dX5_init_20 rfl (lv_at hl 0 rfl) ?_
  refine lv_aload_n hx hb dX5_init_21 rfl (lv_at hl 1 rfl) ?_
  refine va_get (D := D) (ci := 5) (v := .ref q_1) (C := RX5) (T := TX5) (N := 2) hx hb hts iT_X5 hown hK1 hP 0 rfl rfl 0 (by decide) (hts _ t_102) (fun _ h9 => h9) rfl dX5_init_22 ?_
  refine va_alen hx hb hK1 hP 1 3 rfl rfl (v := 9) rfl dX5_init_25 ?_
  refine lv_icmp_ge (tgt := 48) hx hb dX5_init_26 (by decide) (fun c_98 => ?_) (fun c_98 => ?_)
  · exact absurd c_98 (by decide)
  refine lv_aload_n hx hb dX5_init_29 rfl (lv_at hl 1 rfl) ?_
  refine va_get (D := D) (ci := 5) (v := .ref q_1) (C := RX5) (T := TX5) (N := 2) hx hb hts iT_X5 hown hK1 hP 0 rfl rfl 0 (by decide) (hts _ t_102) (fun _ h9 => h9) rfl dX5_init_30 ?_
  refine lv_iload_n hx hb dX5_init_33 rfl (lv_at hl 0 rfl) ?_
  refine va_new (ci := 4) (fs := [.int 0, .null, .null, .null, .null]) (C := RX4) (T := TX4) (N := 5) hx hb hts iT_X4 tyX4 tyX4_ok hown (hts _ t_42) (hts _ t_44) (hts _ t_4) hK1 hP hD hS hA rfl df_X4 (Nat.le_of_ble_eq_true rfl) (Nat.le_of_ble_eq_true rfl) dX5_init_34 (fun q_99 H hP hD hS => ?_)
  obtain ⟨hP, hD⟩ := PD.perm ⟨hP, hD⟩ permA'
  have hP : va_P D vwCl ([kX5 h0 q_1 0, kQ cR q_1 9 (va_up (va_up (va_up (va_up (va_up (va_up (va_up (va_up (fun _ => none) 0 (some q_3)) 1 (some q_15)) 2 (some q_27)) 3 (some q_39)) 4 (some q_51)) 5 (some q_63)) 6 (some q_75)) 7 (some q_87)), (q_99, .inr (4, [.int 0, .null, .null, .null, .null]))] ++ RWn cI rh_8 8) H := hP
  have hD : va_D A ([kX5 h0 q_1 0, kQ cR q_1 9 (va_up (va_up (va_up (va_up (va_up (va_up (va_up (va_up (fun _ => none) 0 (some q_3)) 1 (some q_15)) 2 (some q_27)) 3 (some q_39)) 4 (some q_51)) 5 (some q_63)) 6 (some q_75)) 7 (some q_87)), (q_99, .inr (4, [.int 0, .null, .null, .null, .null]))] ++ RWn cI rh_8 8) := hD
  refine W.widen (k := 66) (n := 1214) (Nat.le_of_ble_eq_true rfl) (Nat.le_of_ble_eq_true rfl) ?_
  refine lv_dup hx hb dX5_init_37 rfl ?_
  have hPD : PD D A ([(q_99, .inr (4, [.int 0, .null, .null, .null, .null]))] ++ ([kX5 h0 q_1 0, kQ cR q_1 9 (va_up (va_up (va_up (va_up (va_up (va_up (va_up (va_up (fun _ => none) 0 (some q_3)) 1 (some q_15)) 2 (some q_27)) 3 (some q_39)) 4 (some q_51)) 5 (some q_63)) 6 (some q_75)) 7 (some q_87))] ++ RWn cI rh_8 8)) H := PD.perm ⟨hP, hD⟩ (permA pm_1)
  refine xp_v (wc := [(q_99, .inr (4, [.int 0, .null, .null, .null, .null]))]) (wr := ([kX5 h0 q_1 0, kQ cR q_1 9 (va_up (va_up (va_up (va_up (va_up (va_up (va_up (va_up (fun _ => none) 0 (some q_3)) 1 (some q_15)) 2 (some q_27)) 3 (some q_39)) 4 (some q_51)) 5 (some q_63)) 6 (some q_75)) 7 (some q_87))] ++ RWn cI rh_8 8)) (xqIN (n := 0) (As := []) (rest := [.ref q_99, .int 8, .ref q_1]) hd hK hPD.left (c_X4_init l D cI cJ cZ cR _ q_99 ) mI_X4_init.1 mI_X4_init.2.1 hK.2.2.1 mI_X4_init.2.2 rfl hS_X4_init ⟨(Nat.le_of_ble_eq_true rfl), (Nat.le_of_ble_eq_true rfl)⟩ rfl hl.1 rfl (Nat.le_of_ble_eq_true rfl) dX5_init_38 ⟨(Nat.le_of_ble_eq_true rfl), (Nat.le_of_ble_eq_true rfl)⟩) hPD hS hA (fun u_101 H locs hw_102 hPD hS => ?_)
  obtain ⟨b0_103, a1_104, a2_105, a3_106, b1_107, b2_108, b3_109⟩ := u_101
  obtain ⟨hP, hD⟩ := hPD.perm permA'
  have hP : va_P D vwCl ([kX5 h0 q_1 0, kQ cR q_1 9 (va_up (va_up (va_up (va_up (va_up (va_up (va_up (va_up (fun _ => none) 0 (some q_3)) 1 (some q_15)) 2 (some q_27)) 3 (some q_39)) 4 (some q_51)) 5 (some q_63)) 6 (some q_75)) 7 (some q_87)), kX4 q_99 0 b0_103 b1_107 b2_108 b3_109, kX0 b0_103 a1_104 a2_105 a3_106 0 0, kI cI a1_104 3 (fun _ => 0), kI cI a2_105 3 (fun _ => 0), kI cI a3_106 3 (fun _ => 0), kI cI b1_107 3 (fun _ => 0), kI cI b2_108 64 (fun _ => 0), kI cI b3_109 64 (fun _ => 0)] ++ RWn cI rh_8 8) H := hP
  have hD : va_D A ([kX5 h0 q_1 0, kQ cR q_1 9 (va_up (va_up (va_up (va_up (va_up (va_up (va_up (va_up (fun _ => none) 0 (some q_3)) 1 (some q_15)) 2 (some q_27)) 3 (some q_39)) 4 (some q_51)) 5 (some q_63)) 6 (some q_75)) 7 (some q_87)), kX4 q_99 0 b0_103 b1_107 b2_108 b3_109, kX0 b0_103 a1_104 a2_105 a3_106 0 0, kI cI a1_104 3 (fun _ => 0), kI cI a2_105 3 (fun _ => 0), kI cI a3_106 3 (fun _ => 0), kI cI b1_107 3 (fun _ => 0), kI cI b2_108 64 (fun _ => 0), kI cI b3_109 64 (fun _ => 0)] ++ RWn cI rh_8 8) := hD
  refine W.widen (k := 73) (n := 1359) (Nat.le_of_ble_eq_true rfl) (Nat.le_of_ble_eq_true rfl) ?_
  refine va_astq hx hb hK1 hP hD hS 1 3 2 4 rfl rfl rfl rfl (vin (by decide)) dX5_init_41 (fun H locs hP hD hS => ?_)
  have hP : va_P D vwCl ([kX5 h0 q_1 0, kQ cR q_1 9 (va_up (va_up (va_up (va_up (va_up (va_up (va_up (va_up (va_up (fun _ => none) 0 (some q_3)) 1 (some q_15)) 2 (some q_27)) 3 (some q_39)) 4 (some q_51)) 5 (some q_63)) 6 (some q_75)) 7 (some q_87)) 8 (some q_99)), kX4 q_99 0 b0_103 b1_107 b2_108 b3_109, kX0 b0_103 a1_104 a2_105 a3_106 0 0, kI cI a1_104 3 (fun _ => 0), kI cI a2_105 3 (fun _ => 0), kI cI a3_106 3 (fun _ => 0), kI cI b1_107 3 (fun _ => 0), kI cI b2_108 64 (fun _ => 0), kI cI b3_109 64 (fun _ => 0)] ++ RWn cI rh_8 8) H := hP
  have hD : va_D A ([kX5 h0 q_1 0, kQ cR q_1 9 (va_up (va_up (va_up (va_up (va_up (va_up (va_up (va_up (va_up (fun _ => none) 0 (some q_3)) 1 (some q_15)) 2 (some q_27)) 3 (some q_39)) 4 (some q_51)) 5 (some q_63)) 6 (some q_75)) 7 (some q_87)) 8 (some q_99)), kX4 q_99 0 b0_103 b1_107 b2_108 b3_109, kX0 b0_103 a1_104 a2_105 a3_106 0 0, kI cI a1_104 3 (fun _ => 0), kI cI a2_105 3 (fun _ => 0), kI cI a3_106 3 (fun _ => 0), kI cI b1_107 3 (fun _ => 0), kI cI b2_108 64 (fun _ => 0), kI cI b3_109 64 (fun _ => 0)] ++ RWn cI rh_8 8) := hD
  have hPD : PD D A ([kX5 h0 q_1 0, kQ cR q_1 9 (va_up (va_up (va_up (va_up (va_up (va_up (va_up (va_up (va_up (fun _ => none) 0 (some q_3)) 1 (some q_15)) 2 (some q_27)) 3 (some q_39)) 4 (some q_51)) 5 (some q_63)) 6 (some q_75)) 7 (some q_87)) 8 (some q_99)), kX4 q_99 0 b0_103 b1_107 b2_108 b3_109, kX0 b0_103 a1_104 a2_105 a3_106 0 0, kI cI a1_104 3 (fun _ => 0), kI cI a2_105 3 (fun _ => 0), kI cI a3_106 3 (fun _ => 0), kI cI b1_107 3 (fun _ => 0), kI cI b2_108 64 (fun _ => 0), kI cI b3_109 64 (fun _ => 0)] ++ RWn cI rh_8 8) H := (PD.perm ⟨hP, hD⟩ (permB pm_2)).left
  obtain ⟨hP, hD⟩ := absorb (E := [kX5 h0 q_1 0, kQ cR q_1 9 (va_up (va_up (va_up (va_up (va_up (va_up (va_up (va_up (va_up (fun _ => none) 0 (some q_3)) 1 (some q_15)) 2 (some q_27)) 3 (some q_39)) 4 (some q_51)) 5 (some q_63)) 6 (some q_75)) 7 (some q_87)) 8 (some q_99))]) (t := ((q_99, b0_103, a1_104, a2_105, a3_106, b1_107, b2_108, b3_109), (0, 0, 0), (fun _ => 0, fun _ => 0, fun _ => 0, fun _ => 0, fun _ => 0, fun _ => 0))) hPD.1 hPD.2
  obtain ⟨rh_9, hrh_9⟩ : ∃ x, x = va_up rh_8 8 ((q_99, b0_103, a1_104, a2_105, a3_106, b1_107, b2_108, b3_109), (0, 0, 0), (fun _ => 0, fun _ => 0, fun _ => 0, fun _ => 0, fun _ => 0, fun _ => 0)) := ⟨_, rfl⟩
  rw [← hrh_9] at hP hD
  have hrow : ∀ j, j < 8 + 1 → (va_up (va_up (va_up (va_up (va_up (va_up (va_up (va_up (va_up (fun _ => none) 0 (some q_3)) 1 (some q_15)) 2 (some q_27)) 3 (some q_39)) 4 (some q_51)) 5 (some q_63)) 6 (some q_75)) 7 (some q_87)) 8 (some q_99)) j = some ((rh_9 j).1.1) := by rw [hrh_9]; exact row_s hrow rfl
  have hP : va_P D vwCl ([kX5 h0 q_1 0, kQ cR q_1 9 (va_up (va_up (va_up (va_up (va_up (va_up (va_up (va_up (va_up (fun _ => none) 0 (some q_3)) 1 (some q_15)) 2 (some q_27)) 3 (some q_39)) 4 (some q_51)) 5 (some q_63)) 6 (some q_75)) 7 (some q_87)) 8 (some q_99))] ++ RWn cI rh_9 9) H := hP
  have hD : va_D A ([kX5 h0 q_1 0, kQ cR q_1 9 (va_up (va_up (va_up (va_up (va_up (va_up (va_up (va_up (va_up (fun _ => none) 0 (some q_3)) 1 (some q_15)) 2 (some q_27)) 3 (some q_39)) 4 (some q_51)) 5 (some q_63)) 6 (some q_75)) 7 (some q_87)) 8 (some q_99))] ++ RWn cI rh_9 9) := hD
  refine lv_iinc (v := 9) (lv' := [(1, .int 9), (0, .ref h0)]) hx hb dX5_init_42 hl (k := 0) rfl (by decide) (by decide) rfl (fun ls hl => ?_)
  refine lv_goto (tgt := 20) hx hb dX5_init_45 (by decide) ?_
  refine lv_iload_n hx hb dX5_init_20 rfl (lv_at hl 0 rfl) ?_
  refine lv_aload_n hx hb dX5_init_21 rfl (lv_at hl 1 rfl) ?_
  refine va_get (D := D) (ci := 5) (v := .ref q_1) (C := RX5) (T := TX5) (N := 2) hx hb hts iT_X5 hown hK1 hP 0 rfl rfl 0 (by decide) (hts _ t_102) (fun _ h9 => h9) rfl dX5_init_22 ?_
  refine va_alen hx hb hK1 hP 1 3 rfl rfl (v := 9) rfl dX5_init_25 ?_
  refine lv_icmp_ge (tgt := 48) hx hb dX5_init_26 (by decide) (fun c_110 => ?_) (fun c_110 => ?_)
  rotate_left
  · exact absurd c_110 (by decide)
  have hP : va_P D vwCl ([kX5 h0 q_1 0, kQ cR q_1 9 (va_up (va_up (va_up (va_up (va_up (va_up (va_up (va_up (va_up (fun _ => none) 0 (some q_3)) 1 (some q_15)) 2 (some q_27)) 3 (some q_39)) 4 (some q_51)) 5 (some q_63)) 6 (some q_75)) 7 (some q_87)) 8 (some q_99))] ++ RB cI rh_9) H := hP
  have hD : va_D A ([kX5 h0 q_1 0, kQ cR q_1 9 (va_up (va_up (va_up (va_up (va_up (va_up (va_up (va_up (va_up (fun _ => none) 0 (some q_3)) 1 (some q_15)) 2 (some q_27)) 3 (some q_39)) 4 (some q_51)) 5 (some q_63)) 6 (some q_75)) 7 (some q_87)) 8 (some q_99))] ++ RB cI rh_9) := hD
  obtain ⟨hP, hD⟩ := va_P.rowQ (g := fun k => some ((rh_9 k).1.1)) 1 hP hD rfl hrow
  have hP : va_P D vwCl ([kX5 h0 q_1 0, kQ cR q_1 9 (fun k => some ((rh_9 k).1.1))] ++ RB cI rh_9) H := hP
  have hD : va_D A ([kX5 h0 q_1 0, kQ cR q_1 9 (fun k => some ((rh_9 k).1.1))] ++ RB cI rh_9) := hD
  have hPD : PD D A ([kX5 h0 q_1 0, kQ cR q_1 9 (fun k => some ((rh_9 k).1.1))] ++ RB cI rh_9) H := (PD.perm ⟨hP, hD⟩ (permB pm_3)).left
  exact hret _ _ _ _ _ _ (q_1, rh_9) dX5_init_48 hS (Nat.le_of_ble_eq_true rfl) (Nat.le_of_ble_eq_true rfl) trivial hPD.1 hPD.2
set_option maxHeartbeats 4000000 in
set_option maxRecDepth 100000 in
theorem c_X2_init (sz : Nat) (h0 : Nat)  : CTv l D cI cJ cZ cR yX2_init cX2_init 1 none 1 24 2 2404 sz [.ref h0] [(h0, .inr (2, [.null, .null]))] (fun (u : Nat × Nat) => True) (fun (u : Nat × Nat) => [kX2 h0 u.1 u.2, kI cI u.1 2400 (fun _ => 0), kI cI u.2 4 (fun _ => 0)]) := by
  refine CTv.of (by decide) (Nat.le_of_ble_eq_true rfl) rfl ?_
  intro p e s m below meth c A Q ls hd hin hK hsz hP hD hA hS hl hret
  obtain ⟨hx, hb, hml, hown, hts⟩ := id hd
  have hK1 := hK.1
  have hown : s.vm.findClass RX2 = some m.cls := hown
  have hin : meth.name = "<init>" := hin
  have hl : lv_has ls 1 [(0, .ref h0)] := hl
  refine lv_aload_n hx hb dX2_init_0 rfl (lv_at hl 0 rfl) ?_
  refine W.objInit hx hb hown (hts _ t_122) (hts _ t_18) (hts _ t_19) rfl (by rw [hml]; exact hl.1) rfl dX2_init_1 (Nat.le_of_ble_eq_true rfl) (Nat.le_of_ble_eq_true rfl) ?_
  refine W.eq (g2 := F0 m 4 ls []) rfl ?_
  refine lv_aload_n hx hb dX2_init_4 rfl (lv_at hl 0 rfl) ?_
  refine lv_sipush (v := 2400) hx hb dX2_init_5 (by decide) ?_
  refine nw_I (N' := 2400) hx hb (hts _ t_35) hK hP hD hS hA (by decide) (by decide) (by decide) (Nat.le_of_ble_eq_true rfl) (Nat.le_of_ble_eq_true rfl) dX2_init_8 (fun q_1 H hP hD hS => ?_)
  have hP : va_P D vwCl [(h0, .inr (2, [.null, .null])), kI cI q_1 2400 (fun _ => 0)] H := hP
  have hD : va_D A [(h0, .inr (2, [.null, .null])), kI cI q_1 2400 (fun _ => 0)] := hD
  refine W.widen (k := 1) (n := 2400) (Nat.le_of_ble_eq_true rfl) (Nat.le_of_ble_eq_true rfl) ?_
  refine va_putF (D := D) (ci := 2) (v := .ref q_1) (ty := (.array .int)) (C := RX2) (T := TX2) (N := 2) hx hb hts iT_X2 tyX2 tyX2_ok nmX2 hown hK1 hP hD hS 0 rfl rfl 0 (by decide) (hts _ t_123) (fun _ h9 => h9) rfl hin rfl (by decide +kernel) rfl rfl (Nat.le_of_ble_eq_true rfl) dX2_init_10 (fun H locs hP hD hS => ?_)
  have hP : va_P D vwCl [(h0, .inr (2, [.ref q_1, .null])), kI cI q_1 2400 (fun _ => 0)] H := hP
  have hD : va_D A [(h0, .inr (2, [.ref q_1, .null])), kI cI q_1 2400 (fun _ => 0)] := hD
  refine lv_aload_n hx hb dX2_init_13 rfl (lv_at hl 0 rfl) ?_
  refine lv_iconst (v := 4) hx hb dX2_init_14 (by decide) ?_
  refine nw_I (N' := 4) hx hb (hts _ t_35) hK hP hD hS hA (by decide) (by decide) (by decide) (Nat.le_of_ble_eq_true rfl) (Nat.le_of_ble_eq_true rfl) dX2_init_15 (fun q_2 H hP hD hS => ?_)
  have hP : va_P D vwCl [(h0, .inr (2, [.ref q_1, .null])), kI cI q_1 2400 (fun _ => 0), kI cI q_2 4 (fun _ => 0)] H := hP
  have hD : va_D A [(h0, .inr (2, [.ref q_1, .null])), kI cI q_1 2400 (fun _ => 0), kI cI q_2 4 (fun _ => 0)] := hD
  refine W.widen (k := 2) (n := 2404) (Nat.le_of_ble_eq_true rfl) (Nat.le_of_ble_eq_true rfl) ?_
  refine va_putF (D := D) (ci := 2) (v := .ref q_2) (ty := (.array .int)) (C := RX2) (T := TX2) (N := 2) hx hb hts iT_X2 tyX2 tyX2_ok nmX2 hown hK1 hP hD hS 0 rfl rfl 1 (by decide) (hts _ t_124) (fun _ h9 => h9) rfl hin rfl (by decide +kernel) rfl rfl (Nat.le_of_ble_eq_true rfl) dX2_init_17 (fun H locs hP hD hS => ?_)
  have hP : va_P D vwCl [kX2 h0 q_1 q_2, kI cI q_1 2400 (fun _ => 0), kI cI q_2 4 (fun _ => 0)] H := hP
  have hD : va_D A [kX2 h0 q_1 q_2, kI cI q_1 2400 (fun _ => 0), kI cI q_2 4 (fun _ => 0)] := hD
  exact hret _ _ _ _ _ _ (q_1, q_2) dX2_init_20 hS (Nat.le_of_ble_eq_true rfl) (Nat.le_of_ble_eq_true rfl) trivial (hP.sub [0, 1, 2] rfl) (hD.sub [0, 1, 2] rfl rfl)
set_option maxHeartbeats 4000000 in
set_option maxRecDepth 100000 in
theorem c_X1_init (sz : Nat) (h0 : Nat)  : CTv l D cI cJ cZ cR yX1_init cX1_init 1 none 1 24 5 390 sz [.ref h0] [(h0, .inr (1, [.null, .null, .null, .null, .null]))] (fun (u : Nat × Nat × Nat × Nat × Nat) => True) (fun (u : Nat × Nat × Nat × Nat × Nat) => [kX1 h0 u.1 u.2.1 u.2.2.1 u.2.2.2.1 u.2.2.2.2, kJ cJ u.1 96 (fun _ => 0), kI cI u.2.1 96 (fun _ => 0), kI cZ u.2.2.1 96 (fun _ => 0), kI cI u.2.2.2.1 96 (fun _ => 0), kI cI u.2.2.2.2 6 (fun _ => 0)]) := by
  refine CTv.of (by decide) (Nat.le_of_ble_eq_true rfl) rfl ?_
  intro p e s m below meth c A Q ls hd hin hK hsz hP hD hA hS hl hret
  obtain ⟨hx, hb, hml, hown, hts⟩ := id hd
  have hK1 := hK.1
  have hown : s.vm.findClass RX1 = some m.cls := hown
  have hin : meth.name = "<init>" := hin
  have hl : lv_has ls 1 [(0, .ref h0)] := hl
  refine lv_aload_n hx hb dX1_init_0 rfl (lv_at hl 0 rfl) ?_
  refine W.objInit hx hb hown (hts _ t_135) (hts _ t_18) (hts _ t_19) rfl (by rw [hml]; exact hl.1) rfl dX1_init_1 (Nat.le_of_ble_eq_true rfl) (Nat.le_of_ble_eq_true rfl) ?_
  refine W.eq (g2 := F0 m 4 ls []) rfl ?_
  refine lv_aload_n hx hb dX1_init_4 rfl (lv_at hl 0 rfl) ?_
  refine lv_bipush (v := 96) hx hb dX1_init_5 (by decide) ?_
  refine nw_J (N' := 96) hx hb (hts _ t_152) hK hP hD hS hA (by decide) (by decide) (by decide) (Nat.le_of_ble_eq_true rfl) (Nat.le_of_ble_eq_true rfl) dX1_init_7 (fun q_1 H hP hD hS => ?_)
  have hP : va_P D vwCl [(h0, .inr (1, [.null, .null, .null, .null, .null])), kJ cJ q_1 96 (fun _ => 0)] H := hP
  have hD : va_D A [(h0, .inr (1, [.null, .null, .null, .null, .null])), kJ cJ q_1 96 (fun _ => 0)] := hD
  refine W.widen (k := 1) (n := 96) (Nat.le_of_ble_eq_true rfl) (Nat.le_of_ble_eq_true rfl) ?_
  refine va_putF (D := D) (ci := 1) (v := .ref q_1) (ty := (.array .long)) (C := RX1) (T := TX1) (N := 5) hx hb hts iT_X1 tyX1 tyX1_ok nmX1 hown hK1 hP hD hS 0 rfl rfl 0 (by decide) (hts _ t_136) (fun _ h9 => h9) rfl hin rfl (by decide +kernel) rfl rfl (Nat.le_of_ble_eq_true rfl) dX1_init_9 (fun H locs hP hD hS => ?_)
  have hP : va_P D vwCl [(h0, .inr (1, [.ref q_1, .null, .null, .null, .null])), kJ cJ q_1 96 (fun _ => 0)] H := hP
  have hD : va_D A [(h0, .inr (1, [.ref q_1, .null, .null, .null, .null])), kJ cJ q_1 96 (fun _ => 0)] := hD
  refine lv_aload_n hx hb dX1_init_12 rfl (lv_at hl 0 rfl) ?_
  refine lv_bipush (v := 96) hx hb dX1_init_13 (by decide) ?_
  refine nw_I (N' := 96) hx hb (hts _ t_35) hK hP hD hS hA (by decide) (by decide) (by decide) (Nat.le_of_ble_eq_true rfl) (Nat.le_of_ble_eq_true rfl) dX1_init_15 (fun q_2 H hP hD hS => ?_)
  have hP : va_P D vwCl [(h0, .inr (1, [.ref q_1, .null, .null, .null, .null])), kJ cJ q_1 96 (fun _ => 0), kI cI q_2 96 (fun _ => 0)] H := hP
  have hD : va_D A [(h0, .inr (1, [.ref q_1, .null, .null, .null, .null])), kJ cJ q_1 96 (fun _ => 0), kI cI q_2 96 (fun _ => 0)] := hD
  refine W.widen (k := 2) (n := 192) (Nat.le_of_ble_eq_true rfl) (Nat.le_of_ble_eq_true rfl) ?_
  refine va_putF (D := D) (ci := 1) (v := .ref q_2) (ty := (.array .int)) (C := RX1) (T := TX1) (N := 5) hx hb hts iT_X1 tyX1 tyX1_ok nmX1 hown hK1 hP hD hS 0 rfl rfl 1 (by decide) (hts _ t_137) (fun _ h9 => h9) rfl hin rfl (by decide +kernel) rfl rfl (Nat.le_of_ble_eq_true rfl) dX1_init_17 (fun H locs hP hD hS => ?_)
  have hP : va_P D vwCl [(h0, .inr (1, [.ref q_1, .ref q_2, .null, .null, .null])), kJ cJ q_1 96 (fun _ => 0), kI cI q_2 96 (fun _ => 0)] H := hP
  have hD : va_D A [(h0, .inr (1, [.ref q_1, .ref q_2, .null, .null, .null])), kJ cJ q_1 96 (fun _ => 0), kI cI q_2 96 (fun _ => 0)] := hD
  refine lv_aload_n hx hb dX1_init_20 rfl (lv_at hl 0 rfl) ?_
  refine lv_bipush (v := 96) hx hb dX1_init_21 (by decide) ?_
  refine nw_Z (N' := 96) hx hb (hts _ t_153) hK hP hD hS hA (by decide) (by decide) (by decide) (Nat.le_of_ble_eq_true rfl) (Nat.le_of_ble_eq_true rfl) dX1_init_23 (fun q_3 H hP hD hS => ?_)
  have hP : va_P D vwCl [(h0, .inr (1, [.ref q_1, .ref q_2, .null, .null, .null])), kJ cJ q_1 96 (fun _ => 0), kI cI q_2 96 (fun _ => 0), kI cZ q_3 96 (fun _ => 0)] H := hP
  have hD : va_D A [(h0, .inr (1, [.ref q_1, .ref q_2, .null, .null, .null])), kJ cJ q_1 96 (fun _ => 0), kI cI q_2 96 (fun _ => 0), kI cZ q_3 96 (fun _ => 0)] := hD
  refine W.widen (k := 3) (n := 288) (Nat.le_of_ble_eq_true rfl) (Nat.le_of_ble_eq_true rfl) ?_
  refine va_putF (D := D) (ci := 1) (v := .ref q_3) (ty := (.array .boolean)) (C := RX1) (T := TX1) (N := 5) hx hb hts iT_X1 tyX1 tyX1_ok nmX1 hown hK1 hP hD hS 0 rfl rfl 2 (by decide) (hts _ t_138) (fun _ h9 => h9) rfl hin rfl (by decide +kernel) rfl rfl (Nat.le_of_ble_eq_true rfl) dX1_init_25 (fun H locs hP hD hS => ?_)
  have hP : va_P D vwCl [(h0, .inr (1, [.ref q_1, .ref q_2, .ref q_3, .null, .null])), kJ cJ q_1 96 (fun _ => 0), kI cI q_2 96 (fun _ => 0), kI cZ q_3 96 (fun _ => 0)] H := hP
  have hD : va_D A [(h0, .inr (1, [.ref q_1, .ref q_2, .ref q_3, .null, .null])), kJ cJ q_1 96 (fun _ => 0), kI cI q_2 96 (fun _ => 0), kI cZ q_3 96 (fun _ => 0)] := hD
  refine lv_aload_n hx hb dX1_init_28 rfl (lv_at hl 0 rfl) ?_
  refine lv_bipush (v := 96) hx hb dX1_init_29 (by decide) ?_
  refine nw_I (N' := 96) hx hb (hts _ t_35) hK hP hD hS hA (by decide) (by decide) (by decide) (Nat.le_of_ble_eq_true rfl) (Nat.le_of_ble_eq_true rfl) dX1_init_31 (fun q_4 H hP hD hS => ?_)
  have hP : va_P D vwCl [(h0, .inr (1, [.ref q_1, .ref q_2, .ref q_3, .null, .null])), kJ cJ q_1 96 (fun _ => 0), kI cI q_2 96 (fun _ => 0), kI cZ q_3 96 (fun _ => 0), kI cI q_4 96 (fun _ => 0)] H := hP
  have hD : va_D A [(h0, .inr (1, [.ref q_1, .ref q_2, .ref q_3, .null, .null])), kJ cJ q_1 96 (fun _ => 0), kI cI q_2 96 (fun _ => 0), kI cZ q_3 96 (fun _ => 0), kI cI q_4 96 (fun _ => 0)] := hD
  refine W.widen (k := 4) (n := 384) (Nat.le_of_ble_eq_true rfl) (Nat.le_of_ble_eq_true rfl) ?_
  refine va_putF (D := D) (ci := 1) (v := .ref q_4) (ty := (.array .int)) (C := RX1) (T := TX1) (N := 5) hx hb hts iT_X1 tyX1 tyX1_ok nmX1 hown hK1 hP hD hS 0 rfl rfl 3 (by decide) (hts _ t_139) (fun _ h9 => h9) rfl hin rfl (by decide +kernel) rfl rfl (Nat.le_of_ble_eq_true rfl) dX1_init_33 (fun H locs hP hD hS => ?_)
  have hP : va_P D vwCl [(h0, .inr (1, [.ref q_1, .ref q_2, .ref q_3, .ref q_4, .null])), kJ cJ q_1 96 (fun _ => 0), kI cI q_2 96 (fun _ => 0), kI cZ q_3 96 (fun _ => 0), kI cI q_4 96 (fun _ => 0)] H := hP
  have hD : va_D A [(h0, .inr (1, [.ref q_1, .ref q_2, .ref q_3, .ref q_4, .null])), kJ cJ q_1 96 (fun _ => 0), kI cI q_2 96 (fun _ => 0), kI cZ q_3 96 (fun _ => 0), kI cI q_4 96 (fun _ => 0)] := hD
  refine lv_aload_n hx hb dX1_init_36 rfl (lv_at hl 0 rfl) ?_
  refine lv_bipush (v := 6) hx hb dX1_init_37 (by decide) ?_
  refine nw_I (N' := 6) hx hb (hts _ t_35) hK hP hD hS hA (by decide) (by decide) (by decide) (Nat.le_of_ble_eq_true rfl) (Nat.le_of_ble_eq_true rfl) dX1_init_39 (fun q_5 H hP hD hS => ?_)
  have hP : va_P D vwCl [(h0, .inr (1, [.ref q_1, .ref q_2, .ref q_3, .ref q_4, .null])), kJ cJ q_1 96 (fun _ => 0), kI cI q_2 96 (fun _ => 0), kI cZ q_3 96 (fun _ => 0), kI cI q_4 96 (fun _ => 0), kI cI q_5 6 (fun _ => 0)] H := hP
  have hD : va_D A [(h0, .inr (1, [.ref q_1, .ref q_2, .ref q_3, .ref q_4, .null])), kJ cJ q_1 96 (fun _ => 0), kI cI q_2 96 (fun _ => 0), kI cZ q_3 96 (fun _ => 0), kI cI q_4 96 (fun _ => 0), kI cI q_5 6 (fun _ => 0)] := hD
  refine W.widen (k := 5) (n := 390) (Nat.le_of_ble_eq_true rfl) (Nat.le_of_ble_eq_true rfl) ?_
  refine va_putF (D := D) (ci := 1) (v := .ref q_5) (ty := (.array .int)) (C := RX1) (T := TX1) (N := 5) hx hb hts iT_X1 tyX1 tyX1_ok nmX1 hown hK1 hP hD hS 0 rfl rfl 4 (by decide) (hts _ t_140) (fun _ h9 => h9) rfl hin rfl (by decide +kernel) rfl rfl (Nat.le_of_ble_eq_true rfl) dX1_init_41 (fun H locs hP hD hS => ?_)
  have hP : va_P D vwCl [kX1 h0 q_1 q_2 q_3 q_4 q_5, kJ cJ q_1 96 (fun _ => 0), kI cI q_2 96 (fun _ => 0), kI cZ q_3 96 (fun _ => 0), kI cI q_4 96 (fun _ => 0), kI cI q_5 6 (fun _ => 0)] H := hP
  have hD : va_D A [kX1 h0 q_1 q_2 q_3 q_4 q_5, kJ cJ q_1 96 (fun _ => 0), kI cI q_2 96 (fun _ => 0), kI cZ q_3 96 (fun _ => 0), kI cI q_4 96 (fun _ => 0), kI cI q_5 6 (fun _ => 0)] := hD
  exact hret _ _ _ _ _ _ (q_1, q_2, q_3, q_4, q_5) dX1_init_44 hS (Nat.le_of_ble_eq_true rfl) (Nat.le_of_ble_eq_true rfl) trivial (hP.sub [0, 1, 2, 3, 4, 5] rfl) (hD.sub [0, 1, 2, 3, 4, 5] rfl rfl)
set_option maxHeartbeats 4000000 in
set_option maxRecDepth 100000 in
theorem c_X6_init (sz : Nat) (h0 : Nat)  : CTv l D cI cJ cZ cR yX6_init cX6_init 1 none 4 86 89 4221 sz [.ref h0] [(h0, .inr (6, [.null, .null, .null, .null, .null, .int 0, .int 0, .int 0, .int 0, .int 0]))] (fun (u : Nat × Nat × Nat × Nat × Nat × Nat × Nat × Nat × Nat × Nat × Nat × Nat × Nat × Nat × Nat × Nat × Nat × (Nat → RT)) => True) (fun (u : Nat × Nat × Nat × Nat × Nat × Nat × Nat × Nat × Nat × Nat × Nat × Nat × Nat × Nat × Nat × Nat × Nat × (Nat → RT)) => ([kX6 h0 u.1 u.2.2.1 u.2.2.2.2.1 u.2.2.2.2.2.2.2.2.1 u.2.2.2.2.2.2.2.2.2.2.2.1 0 0 0 0 0, kX3 u.1 u.2.1 0, kI cI u.2.1 16 (fun _ => 0), kX5 u.2.2.1 u.2.2.2.1 0, kQ cR u.2.2.2.1 9 (fun k => some ((u.2.2.2.2.2.2.2.2.2.2.2.2.2.2.2.2.2 k).1.1)), kX0 u.2.2.2.2.1 u.2.2.2.2.2.1 u.2.2.2.2.2.2.1 u.2.2.2.2.2.2.2.1 0 0, kI cI u.2.2.2.2.2.1 12 (fun _ => 0), kI cI u.2.2.2.2.2.2.1 12 (fun _ => 0), kI cI u.2.2.2.2.2.2.2.1 12 (fun _ => 0), kX2 u.2.2.2.2.2.2.2.2.1 u.2.2.2.2.2.2.2.2.2.1 u.2.2.2.2.2.2.2.2.2.2.1, kI cI u.2.2.2.2.2.2.2.2.2.1 2400 (fun _ => 0), kI cI u.2.2.2.2.2.2.2.2.2.2.1 4 (fun _ => 0), kX1 u.2.2.2.2.2.2.2.2.2.2.2.1 u.2.2.2.2.2.2.2.2.2.2.2.2.1 u.2.2.2.2.2.2.2.2.2.2.2.2.2.1 u.2.2.2.2.2.2.2.2.2.2.2.2.2.2.1 u.2.2.2.2.2.2.2.2.2.2.2.2.2.2.2.1 u.2.2.2.2.2.2.2.2.2.2.2.2.2.2.2.2.1, kJ cJ u.2.2.2.2.2.2.2.2.2.2.2.2.1 96 (fun _ => 0), kI cI u.2.2.2.2.2.2.2.2.2.2.2.2.2.1 96 (fun _ => 0), kI cZ u.2.2.2.2.2.2.2.2.2.2.2.2.2.2.1 96 (fun _ => 0), kI cI u.2.2.2.2.2.2.2.2.2.2.2.2.2.2.2.1 96 (fun _ => 0), kI cI u.2.2.2.2.2.2.2.2.2.2.2.2.2.2.2.2.1 6 (fun _ => 0)] ++ RB cI u.2.2.2.2.2.2.2.2.2.2.2.2.2.2.2.2.2)) := by
  refine CTv.of (by decide) (Nat.le_of_ble_eq_true rfl) rfl ?_
  intro p e s m below meth c A Q ls hd hin hK hsz hP hD hA hS hl hret
  obtain ⟨hx, hb, hml, hown, hts⟩ := id hd
  have hK1 := hK.1
  have hown : s.vm.findClass RX6 = some m.cls := hown
  have hin : meth.name = "<init>" := hin
  have hl : lv_has ls 1 [(0, .ref h0)] := hl
  refine lv_aload_n hx hb dX6_init_0 rfl (lv_at hl 0 rfl) ?_
  refine W.objInit hx hb hown (hts _ t_17) (hts _ t_18) (hts _ t_19) rfl (by rw [hml]; exact hl.1) rfl dX6_init_1 (Nat.le_of_ble_eq_true rfl) (Nat.le_of_ble_eq_true rfl) ?_
  refine W.eq (g2 := F0 m 4 ls []) rfl ?_
  refine lv_aload_n hx hb dX6_init_4 rfl (lv_at hl 0 rfl) ?_
  refine va_new (ci := 3) (fs := [.null, .int 0]) (C := RX3) (T := TX3) (N := 2) hx hb hts iT_X3 tyX3 tyX3_ok hown (hts _ t_20) (hts _ t_21) (hts _ t_2) hK1 hP hD hS hA rfl df_X3 (Nat.le_of_ble_eq_true rfl) (Nat.le_of_ble_eq_true rfl) dX6_init_5 (fun q_1 H hP hD hS => ?_)
  have hP : va_P D vwCl [(h0, .inr (6, [.null, .null, .null, .null, .null, .int 0, .int 0, .int 0, .int 0, .int 0])), (q_1, .inr (3, [.null, .int 0]))] H := hP
  have hD : va_D A [(h0, .inr (6, [.null, .null, .null, .null, .null, .int 0, .int 0, .int 0, .int 0, .int 0])), (q_1, .inr (3, [.null, .int 0]))] := hD
  refine W.widen (k := 1) (n := 2) (Nat.le_of_ble_eq_true rfl) (Nat.le_of_ble_eq_true rfl) ?_
  refine lv_dup hx hb dX6_init_8 rfl ?_
  refine xc_v (wc := [(q_1, .inr (3, [.null, .int 0]))]) (wr := [(h0, .inr (6, [.null, .null, .null, .null, .null, .int 0, .int 0, .int 0, .int 0, .int 0]))]) (xrIN (n := 0) (As := []) (rest := [.ref q_1, .ref h0]) hd hK hP hD (c_X3_init l D cI cJ cZ cR _ q_1 ) mI_X3_init.1 mI_X3_init.2.1 hK.2.1 mI_X3_init.2.2 rfl hS_X3_init ⟨(Nat.le_of_ble_eq_true rfl), (Nat.le_of_ble_eq_true rfl)⟩ [1] rfl rfl rfl hl.1 rfl (Nat.le_of_ble_eq_true rfl) dX6_init_9 ⟨(Nat.le_of_ble_eq_true rfl), (Nat.le_of_ble_eq_true rfl)⟩) hP hD hS hA [1] [0] rfl rfl rfl (by decide) (fun u_3 H locs hw_4 hP hD hS => ?_)
  obtain ⟨a1_5, rfl⟩ : ∃ z9, z9 = u_3 := ⟨_, rfl⟩
  have hP : va_P D vwCl [(h0, .inr (6, [.null, .null, .null, .null, .null, .int 0, .int 0, .int 0, .int 0, .int 0])), kX3 q_1 a1_5 0, kI cI a1_5 16 (fun _ => 0)] H := hP
  have hD : va_D A [(h0, .inr (6, [.null, .null, .null, .null, .null, .int 0, .int 0, .int 0, .int 0, .int 0])), kX3 q_1 a1_5 0, kI cI a1_5 16 (fun _ => 0)] := hD
  refine W.widen (k := 2) (n := 18) (Nat.le_of_ble_eq_true rfl) (Nat.le_of_ble_eq_true rfl) ?_
  refine va_putF (D := D) (ci := 6) (v := .ref q_1) (ty := (.object "GrownGraphs$Page")) (C := RX6) (T := TX6) (N := 10) hx hb hts iT_X6 tyX6 tyX6_ok nmX6 hown hK1 hP hD hS 0 rfl rfl 0 (by decide) (hts _ t_154) (fun _ h9 => h9) rfl hin rfl (by decide +kernel) rfl rfl (Nat.le_of_ble_eq_true rfl) dX6_init_12 (fun H locs hP hD hS => ?_)
  have hP : va_P D vwCl [(h0, .inr (6, [.ref q_1, .null, .null, .null, .null, .int 0, .int 0, .int 0, .int 0, .int 0])), kX3 q_1 a1_5 0, kI cI a1_5 16 (fun _ => 0)] H := hP
  have hD : va_D A [(h0, .inr (6, [.ref q_1, .null, .null, .null, .null, .int 0, .int 0, .int 0, .int 0, .int 0])), kX3 q_1 a1_5 0, kI cI a1_5 16 (fun _ => 0)] := hD
  refine lv_aload_n hx hb dX6_init_15 rfl (lv_at hl 0 rfl) ?_
  refine va_new (ci := 5) (fs := [.null, .int 0]) (C := RX5) (T := TX5) (N := 2) hx hb hts iT_X5 tyX5 tyX5_ok hown (hts _ t_36) (hts _ t_37) (hts _ t_3) hK1 hP hD hS hA rfl df_X5 (Nat.le_of_ble_eq_true rfl) (Nat.le_of_ble_eq_true rfl) dX6_init_16 (fun q_6 H hP hD hS => ?_)
  have hP : va_P D vwCl [(h0, .inr (6, [.ref q_1, .null, .null, .null, .null, .int 0, .int 0, .int 0, .int 0, .int 0])), kX3 q_1 a1_5 0, kI cI a1_5 16 (fun _ => 0), (q_6, .inr (5, [.null, .int 0]))] H := hP
  have hD : va_D A [(h0, .inr (6, [.ref q_1, .null, .null, .null, .null, .int 0, .int 0, .int 0, .int 0, .int 0])), kX3 q_1 a1_5 0, kI cI a1_5 16 (fun _ => 0), (q_6, .inr (5, [.null, .int 0]))] := hD
  refine W.widen (k := 3) (n := 20) (Nat.le_of_ble_eq_true rfl) (Nat.le_of_ble_eq_true rfl) ?_
  refine lv_dup hx hb dX6_init_19 rfl ?_
  refine xc_v (wc := [(q_6, .inr (5, [.null, .int 0]))]) (wr := [(h0, .inr (6, [.ref q_1, .null, .null, .null, .null, .int 0, .int 0, .int 0, .int 0, .int 0])), kX3 q_1 a1_5 0, kI cI a1_5 16 (fun _ => 0)]) (xrI (n := 0) (As := []) (rest := [.ref q_6, .ref h0]) hd hK hP hD (c_X5_init l D cI cJ cZ cR _ q_6 ) mI_X5_init.1 mI_X5_init.2.1 t_38 mI_X5_init.2.2 rfl hS_X5_init ⟨(Nat.le_of_ble_eq_true rfl), (Nat.le_of_ble_eq_true rfl)⟩ [3] rfl rfl rfl hl.1 rfl (Nat.le_of_ble_eq_true rfl) dX6_init_20 ⟨(Nat.le_of_ble_eq_true rfl), (Nat.le_of_ble_eq_true rfl)⟩) hP hD hS hA [3] [0, 1, 2] rfl rfl rfl (by decide) (fun u_8 H locs hw_9 hP hD hS => ?_)
  obtain ⟨a1_10, rho_11⟩ := u_8
  obtain ⟨hP, hD⟩ := PD.perm ⟨hP, hD⟩ (permB' (wr := [(h0, .inr (6, [.ref q_1, .null, .null, .null, .null, .int 0, .int 0, .int 0, .int 0, .int 0])), kX3 q_1 a1_5 0, kI cI a1_5 16 (fun _ => 0)]) (a := [kX5 q_6 a1_10 0, kQ cR a1_10 9 (fun k => some ((rho_11 k).1.1))]) (T := RB cI rho_11))
  have hP : va_P D vwCl ([(h0, .inr (6, [.ref q_1, .null, .null, .null, .null, .int 0, .int 0, .int 0, .int 0, .int 0])), kX3 q_1 a1_5 0, kI cI a1_5 16 (fun _ => 0), kX5 q_6 a1_10 0, kQ cR a1_10 9 (fun k => some ((rho_11 k).1.1))] ++ RB cI rho_11) H := hP
  have hD : va_D A ([(h0, .inr (6, [.ref q_1, .null, .null, .null, .null, .int 0, .int 0, .int 0, .int 0, .int 0])), kX3 q_1 a1_5 0, kI cI a1_5 16 (fun _ => 0), kX5 q_6 a1_10 0, kQ cR a1_10 9 (fun k => some ((rho_11 k).1.1))] ++ RB cI rho_11) := hD
  refine W.widen (k := 76) (n := 1379) (Nat.le_of_ble_eq_true rfl) (Nat.le_of_ble_eq_true rfl) ?_
  refine va_putF (D := D) (ci := 6) (v := .ref q_6) (ty := (.object "GrownGraphs$RuleBook")) (C := RX6) (T := TX6) (N := 10) hx hb hts iT_X6 tyX6 tyX6_ok nmX6 hown hK1 hP hD hS 0 rfl rfl 1 (by decide) (hts _ t_155) (fun _ h9 => h9) rfl hin rfl (by decide +kernel) rfl rfl (Nat.le_of_ble_eq_true rfl) dX6_init_23 (fun H locs hP hD hS => ?_)
  have hP : va_P D vwCl ([(h0, .inr (6, [.ref q_1, .ref q_6, .null, .null, .null, .int 0, .int 0, .int 0, .int 0, .int 0])), kX3 q_1 a1_5 0, kI cI a1_5 16 (fun _ => 0), kX5 q_6 a1_10 0, kQ cR a1_10 9 (fun k => some ((rho_11 k).1.1))] ++ RB cI rho_11) H := hP
  have hD : va_D A ([(h0, .inr (6, [.ref q_1, .ref q_6, .null, .null, .null, .int 0, .int 0, .int 0, .int 0, .int 0])), kX3 q_1 a1_5 0, kI cI a1_5 16 (fun _ => 0), kX5 q_6 a1_10 0, kQ cR a1_10 9 (fun k => some ((rho_11 k).1.1))] ++ RB cI rho_11) := hD
  refine lv_aload_n hx hb dX6_init_26 rfl (lv_at hl 0 rfl) ?_
  refine va_new (ci := 0) (fs := [.null, .null, .null, .int 0, .int 0]) (C := RX0) (T := TX0) (N := 5) hx hb hts iT_X0 tyX0 tyX0_ok hown (hts _ t_115) (hts _ t_50) (hts _ t_5) hK1 hP hD hS hA rfl df_X0 (Nat.le_of_ble_eq_true rfl) (Nat.le_of_ble_eq_true rfl) dX6_init_27 (fun q_12 H hP hD hS => ?_)
  obtain ⟨hP, hD⟩ := PD.perm ⟨hP, hD⟩ permA'
  have hP : va_P D vwCl ([(h0, .inr (6, [.ref q_1, .ref q_6, .null, .null, .null, .int 0, .int 0, .int 0, .int 0, .int 0])), kX3 q_1 a1_5 0, kI cI a1_5 16 (fun _ => 0), kX5 q_6 a1_10 0, kQ cR a1_10 9 (fun k => some ((rho_11 k).1.1)), (q_12, .inr (0, [.null, .null, .null, .int 0, .int 0]))] ++ RB cI rho_11) H := hP
  have hD : va_D A ([(h0, .inr (6, [.ref q_1, .ref q_6, .null, .null, .null, .int 0, .int 0, .int 0, .int 0, .int 0])), kX3 q_1 a1_5 0, kI cI a1_5 16 (fun _ => 0), kX5 q_6 a1_10 0, kQ cR a1_10 9 (fun k => some ((rho_11 k).1.1)), (q_12, .inr (0, [.null, .null, .null, .int 0, .int 0]))] ++ RB cI rho_11) := hD
  refine W.widen (k := 77) (n := 1384) (Nat.le_of_ble_eq_true rfl) (Nat.le_of_ble_eq_true rfl) ?_
  refine lv_dup hx hb dX6_init_30 rfl ?_
  refine lv_bipush (v := 12) hx hb dX6_init_31 (by decide) ?_
  have hPD : PD D A ([(q_12, .inr (0, [.null, .null, .null, .int 0, .int 0]))] ++ ([(h0, .inr (6, [.ref q_1, .ref q_6, .null, .null, .null, .int 0, .int 0, .int 0, .int 0, .int 0])), kX3 q_1 a1_5 0, kI cI a1_5 16 (fun _ => 0), kX5 q_6 a1_10 0, kQ cR a1_10 9 (fun k => some ((rho_11 k).1.1))] ++ RB cI rho_11)) H := PD.perm ⟨hP, hD⟩ (permA pm_4)
  refine xp_v (wc := [(q_12, .inr (0, [.null, .null, .null, .int 0, .int 0]))]) (wr := ([(h0, .inr (6, [.ref q_1, .ref q_6, .null, .null, .null, .int 0, .int 0, .int 0, .int 0, .int 0])), kX3 q_1 a1_5 0, kI cI a1_5 16 (fun _ => 0), kX5 q_6 a1_10 0, kQ cR a1_10 9 (fun k => some ((rho_11 k).1.1))] ++ RB cI rho_11)) (xqI (n := 1) (As := [.int 12]) (rest := [.ref q_12, .ref h0]) hd hK hPD.left (c_X0_init_12 l D cI cJ cZ cR _ q_12 ) mI_X0_init.1 mI_X0_init.2.1 t_116 mI_X0_init.2.2 rfl hS_X0_init ⟨(Nat.le_of_ble_eq_true rfl), (Nat.le_of_ble_eq_true rfl)⟩ rfl hl.1 rfl (Nat.le_of_ble_eq_true rfl) dX6_init_33 ⟨(Nat.le_of_ble_eq_true rfl), (Nat.le_of_ble_eq_true rfl)⟩) hPD hS hA (fun u_14 H locs hw_15 hPD hS => ?_)
  obtain ⟨a1_16, a2_17, a3_18⟩ := u_14
  obtain ⟨hP, hD⟩ := hPD.perm permA'
  have hP : va_P D vwCl ([(h0, .inr (6, [.ref q_1, .ref q_6, .null, .null, .null, .int 0, .int 0, .int 0, .int 0, .int 0])), kX3 q_1 a1_5 0, kI cI a1_5 16 (fun _ => 0), kX5 q_6 a1_10 0, kQ cR a1_10 9 (fun k => some ((rho_11 k).1.1)), kX0 q_12 a1_16 a2_17 a3_18 0 0, kI cI a1_16 12 (fun _ => 0), kI cI a2_17 12 (fun _ => 0), kI cI a3_18 12 (fun _ => 0)] ++ RB cI rho_11) H := hP
  have hD : va_D A ([(h0, .inr (6, [.ref q_1, .ref q_6, .null, .null, .null, .int 0, .int 0, .int 0, .int 0, .int 0])), kX3 q_1 a1_5 0, kI cI a1_5 16 (fun _ => 0), kX5 q_6 a1_10 0, kQ cR a1_10 9 (fun k => some ((rho_11 k).1.1)), kX0 q_12 a1_16 a2_17 a3_18 0 0, kI cI a1_16 12 (fun _ => 0), kI cI a2_17 12 (fun _ => 0), kI cI a3_18 12 (fun _ => 0)] ++ RB cI rho_11) := hD
  refine W.widen (k := 80) (n := 1420) (Nat.le_of_ble_eq_true rfl) (Nat.le_of_ble_eq_true rfl) ?_
  refine va_putF (D := D) (ci := 6) (v := .ref q_12) (ty := (.object "GrownGraphs$Figure")) (C := RX6) (T := TX6) (N := 10) hx hb hts iT_X6 tyX6 tyX6_ok nmX6 hown hK1 hP hD hS 0 rfl rfl 2 (by decide) (hts _ t_156) (fun _ h9 => h9) rfl hin rfl (by decide +kernel) rfl rfl (Nat.le_of_ble_eq_true rfl) dX6_init_36 (fun H locs hP hD hS => ?_)
  have hP : va_P D vwCl ([(h0, .inr (6, [.ref q_1, .ref q_6, .ref q_12, .null, .null, .int 0, .int 0, .int 0, .int 0, .int 0])), kX3 q_1 a1_5 0, kI cI a1_5 16 (fun _ => 0), kX5 q_6 a1_10 0, kQ cR a1_10 9 (fun k => some ((rho_11 k).1.1)), kX0 q_12 a1_16 a2_17 a3_18 0 0, kI cI a1_16 12 (fun _ => 0), kI cI a2_17 12 (fun _ => 0), kI cI a3_18 12 (fun _ => 0)] ++ RB cI rho_11) H := hP
  have hD : va_D A ([(h0, .inr (6, [.ref q_1, .ref q_6, .ref q_12, .null, .null, .int 0, .int 0, .int 0, .int 0, .int 0])), kX3 q_1 a1_5 0, kI cI a1_5 16 (fun _ => 0), kX5 q_6 a1_10 0, kQ cR a1_10 9 (fun k => some ((rho_11 k).1.1)), kX0 q_12 a1_16 a2_17 a3_18 0 0, kI cI a1_16 12 (fun _ => 0), kI cI a2_17 12 (fun _ => 0), kI cI a3_18 12 (fun _ => 0)] ++ RB cI rho_11) := hD
  refine lv_aload_n hx hb dX6_init_39 rfl (lv_at hl 0 rfl) ?_
  refine va_new (ci := 2) (fs := [.null, .null]) (C := RX2) (T := TX2) (N := 2) hx hb hts iT_X2 tyX2 tyX2_ok hown (hts _ t_117) (hts _ t_118) (hts _ t_6) hK1 hP hD hS hA rfl df_X2 (Nat.le_of_ble_eq_true rfl) (Nat.le_of_ble_eq_true rfl) dX6_init_40 (fun q_19 H hP hD hS => ?_)
  obtain ⟨hP, hD⟩ := PD.perm ⟨hP, hD⟩ permA'
  have hP : va_P D vwCl ([(h0, .inr (6, [.ref q_1, .ref q_6, .ref q_12, .null, .null, .int 0, .int 0, .int 0, .int 0, .int 0])), kX3 q_1 a1_5 0, kI cI a1_5 16 (fun _ => 0), kX5 q_6 a1_10 0, kQ cR a1_10 9 (fun k => some ((rho_11 k).1.1)), kX0 q_12 a1_16 a2_17 a3_18 0 0, kI cI a1_16 12 (fun _ => 0), kI cI a2_17 12 (fun _ => 0), kI cI a3_18 12 (fun _ => 0), (q_19, .inr (2, [.null, .null]))] ++ RB cI rho_11) H := hP
  have hD : va_D A ([(h0, .inr (6, [.ref q_1, .ref q_6, .ref q_12, .null, .null, .int 0, .int 0, .int 0, .int 0, .int 0])), kX3 q_1 a1_5 0, kI cI a1_5 16 (fun _ => 0), kX5 q_6 a1_10 0, kQ cR a1_10 9 (fun k => some ((rho_11 k).1.1)), kX0 q_12 a1_16 a2_17 a3_18 0 0, kI cI a1_16 12 (fun _ => 0), kI cI a2_17 12 (fun _ => 0), kI cI a3_18 12 (fun _ => 0), (q_19, .inr (2, [.null, .null]))] ++ RB cI rho_11) := hD
  refine W.widen (k := 81) (n := 1422) (Nat.le_of_ble_eq_true rfl) (Nat.le_of_ble_eq_true rfl) ?_
  refine lv_dup hx hb dX6_init_43 rfl ?_
  have hPD : PD D A ([(q_19, .inr (2, [.null, .null]))] ++ ([(h0, .inr (6, [.ref q_1, .ref q_6, .ref q_12, .null, .null, .int 0, .int 0, .int 0, .int 0, .int 0])), kX3 q_1 a1_5 0, kI cI a1_5 16 (fun _ => 0), kX5 q_6 a1_10 0, kQ cR a1_10 9 (fun k => some ((rho_11 k).1.1)), kX0 q_12 a1_16 a2_17 a3_18 0 0, kI cI a1_16 12 (fun _ => 0), kI cI a2_17 12 (fun _ => 0), kI cI a3_18 12 (fun _ => 0)] ++ RB cI rho_11)) H := PD.perm ⟨hP, hD⟩ (permA pm_5)
  refine xp_v (wc := [(q_19, .inr (2, [.null, .null]))]) (wr := ([(h0, .inr (6, [.ref q_1, .ref q_6, .ref q_12, .null, .null, .int 0, .int 0, .int 0, .int 0, .int 0])), kX3 q_1 a1_5 0, kI cI a1_5 16 (fun _ => 0), kX5 q_6 a1_10 0, kQ cR a1_10 9 (fun k => some ((rho_11 k).1.1)), kX0 q_12 a1_16 a2_17 a3_18 0 0, kI cI a1_16 12 (fun _ => 0), kI cI a2_17 12 (fun _ => 0), kI cI a3_18 12 (fun _ => 0)] ++ RB cI rho_11)) (xqIN (n := 0) (As := []) (rest := [.ref q_19, .ref h0]) hd hK hPD.left (c_X2_init l D cI cJ cZ cR _ q_19 ) mI_X2_init.1 mI_X2_init.2.1 hK.2.2.2.1 mI_X2_init.2.2 rfl hS_X2_init ⟨(Nat.le_of_ble_eq_true rfl), (Nat.le_of_ble_eq_true rfl)⟩ rfl hl.1 rfl (Nat.le_of_ble_eq_true rfl) dX6_init_44 ⟨(Nat.le_of_ble_eq_true rfl), (Nat.le_of_ble_eq_true rfl)⟩) hPD hS hA (fun u_21 H locs hw_22 hPD hS => ?_)
  obtain ⟨a1_23, a2_24⟩ := u_21
  obtain ⟨hP, hD⟩ := hPD.perm permA'
  have hP : va_P D vwCl ([(h0, .inr (6, [.ref q_1, .ref q_6, .ref q_12, .null, .null, .int 0, .int 0, .int 0, .int 0, .int 0])), kX3 q_1 a1_5 0, kI cI a1_5 16 (fun _ => 0), kX5 q_6 a1_10 0, kQ cR a1_10 9 (fun k => some ((rho_11 k).1.1)), kX0 q_12 a1_16 a2_17 a3_18 0 0, kI cI a1_16 12 (fun _ => 0), kI cI a2_17 12 (fun _ => 0), kI cI a3_18 12 (fun _ => 0), kX2 q_19 a1_23 a2_24, kI cI a1_23 2400 (fun _ => 0), kI cI a2_24 4 (fun _ => 0)] ++ RB cI rho_11) H := hP
  have hD : va_D A ([(h0, .inr (6, [.ref q_1, .ref q_6, .ref q_12, .null, .null, .int 0, .int 0, .int 0, .int 0, .int 0])), kX3 q_1 a1_5 0, kI cI a1_5 16 (fun _ => 0), kX5 q_6 a1_10 0, kQ cR a1_10 9 (fun k => some ((rho_11 k).1.1)), kX0 q_12 a1_16 a2_17 a3_18 0 0, kI cI a1_16 12 (fun _ => 0), kI cI a2_17 12 (fun _ => 0), kI cI a3_18 12 (fun _ => 0), kX2 q_19 a1_23 a2_24, kI cI a1_23 2400 (fun _ => 0), kI cI a2_24 4 (fun _ => 0)] ++ RB cI rho_11) := hD
  refine W.widen (k := 83) (n := 3826) (Nat.le_of_ble_eq_true rfl) (Nat.le_of_ble_eq_true rfl) ?_
  refine va_putF (D := D) (ci := 6) (v := .ref q_19) (ty := (.object "GrownGraphs$Origins")) (C := RX6) (T := TX6) (N := 10) hx hb hts iT_X6 tyX6 tyX6_ok nmX6 hown hK1 hP hD hS 0 rfl rfl 3 (by decide) (hts _ t_157) (fun _ h9 => h9) rfl hin rfl (by decide +kernel) rfl rfl (Nat.le_of_ble_eq_true rfl) dX6_init_47 (fun H locs hP hD hS => ?_)
  have hP : va_P D vwCl ([(h0, .inr (6, [.ref q_1, .ref q_6, .ref q_12, .ref q_19, .null, .int 0, .int 0, .int 0, .int 0, .int 0])), kX3 q_1 a1_5 0, kI cI a1_5 16 (fun _ => 0), kX5 q_6 a1_10 0, kQ cR a1_10 9 (fun k => some ((rho_11 k).1.1)), kX0 q_12 a1_16 a2_17 a3_18 0 0, kI cI a1_16 12 (fun _ => 0), kI cI a2_17 12 (fun _ => 0), kI cI a3_18 12 (fun _ => 0), kX2 q_19 a1_23 a2_24, kI cI a1_23 2400 (fun _ => 0), kI cI a2_24 4 (fun _ => 0)] ++ RB cI rho_11) H := hP
  have hD : va_D A ([(h0, .inr (6, [.ref q_1, .ref q_6, .ref q_12, .ref q_19, .null, .int 0, .int 0, .int 0, .int 0, .int 0])), kX3 q_1 a1_5 0, kI cI a1_5 16 (fun _ => 0), kX5 q_6 a1_10 0, kQ cR a1_10 9 (fun k => some ((rho_11 k).1.1)), kX0 q_12 a1_16 a2_17 a3_18 0 0, kI cI a1_16 12 (fun _ => 0), kI cI a2_17 12 (fun _ => 0), kI cI a3_18 12 (fun _ => 0), kX2 q_19 a1_23 a2_24, kI cI a1_23 2400 (fun _ => 0), kI cI a2_24 4 (fun _ => 0)] ++ RB cI rho_11) := hD
  refine lv_aload_n hx hb dX6_init_50 rfl (lv_at hl 0 rfl) ?_
  refine va_new (ci := 1) (fs := [.null, .null, .null, .null, .null]) (C := RX1) (T := TX1) (N := 5) hx hb hts iT_X1 tyX1 tyX1_ok hown (hts _ t_130) (hts _ t_131) (hts _ t_7) hK1 hP hD hS hA rfl df_X1 (Nat.le_of_ble_eq_true rfl) (Nat.le_of_ble_eq_true rfl) dX6_init_51 (fun q_25 H hP hD hS => ?_)
  obtain ⟨hP, hD⟩ := PD.perm ⟨hP, hD⟩ permA'
  have hP : va_P D vwCl ([(h0, .inr (6, [.ref q_1, .ref q_6, .ref q_12, .ref q_19, .null, .int 0, .int 0, .int 0, .int 0, .int 0])), kX3 q_1 a1_5 0, kI cI a1_5 16 (fun _ => 0), kX5 q_6 a1_10 0, kQ cR a1_10 9 (fun k => some ((rho_11 k).1.1)), kX0 q_12 a1_16 a2_17 a3_18 0 0, kI cI a1_16 12 (fun _ => 0), kI cI a2_17 12 (fun _ => 0), kI cI a3_18 12 (fun _ => 0), kX2 q_19 a1_23 a2_24, kI cI a1_23 2400 (fun _ => 0), kI cI a2_24 4 (fun _ => 0), (q_25, .inr (1, [.null, .null, .null, .null, .null]))] ++ RB cI rho_11) H := hP
  have hD : va_D A ([(h0, .inr (6, [.ref q_1, .ref q_6, .ref q_12, .ref q_19, .null, .int 0, .int 0, .int 0, .int 0, .int 0])), kX3 q_1 a1_5 0, kI cI a1_5 16 (fun _ => 0), kX5 q_6 a1_10 0, kQ cR a1_10 9 (fun k => some ((rho_11 k).1.1)), kX0 q_12 a1_16 a2_17 a3_18 0 0, kI cI a1_16 12 (fun _ => 0), kI cI a2_17 12 (fun _ => 0), kI cI a3_18 12 (fun _ => 0), kX2 q_19 a1_23 a2_24, kI cI a1_23 2400 (fun _ => 0), kI cI a2_24 4 (fun _ => 0), (q_25, .inr (1, [.null, .null, .null, .null, .null]))] ++ RB cI rho_11) := hD
  refine W.widen (k := 84) (n := 3831) (Nat.le_of_ble_eq_true rfl) (Nat.le_of_ble_eq_true rfl) ?_
  refine lv_dup hx hb dX6_init_54 rfl ?_
  have hPD : PD D A ([(q_25, .inr (1, [.null, .null, .null, .null, .null]))] ++ ([(h0, .inr (6, [.ref q_1, .ref q_6, .ref q_12, .ref q_19, .null, .int 0, .int 0, .int 0, .int 0, .int 0])), kX3 q_1 a1_5 0, kI cI a1_5 16 (fun _ => 0), kX5 q_6 a1_10 0, kQ cR a1_10 9 (fun k => some ((rho_11 k).1.1)), kX0 q_12 a1_16 a2_17 a3_18 0 0, kI cI a1_16 12 (fun _ => 0), kI cI a2_17 12 (fun _ => 0), kI cI a3_18 12 (fun _ => 0), kX2 q_19 a1_23 a2_24, kI cI a1_23 2400 (fun _ => 0), kI cI a2_24 4 (fun _ => 0)] ++ RB cI rho_11)) H := PD.perm ⟨hP, hD⟩ (permA pm_6)
  refine xp_v (wc := [(q_25, .inr (1, [.null, .null, .null, .null, .null]))]) (wr := ([(h0, .inr (6, [.ref q_1, .ref q_6, .ref q_12, .ref q_19, .null, .int 0, .int 0, .int 0, .int 0, .int 0])), kX3 q_1 a1_5 0, kI cI a1_5 16 (fun _ => 0), kX5 q_6 a1_10 0, kQ cR a1_10 9 (fun k => some ((rho_11 k).1.1)), kX0 q_12 a1_16 a2_17 a3_18 0 0, kI cI a1_16 12 (fun _ => 0), kI cI a2_17 12 (fun _ => 0), kI cI a3_18 12 (fun _ => 0), kX2 q_19 a1_23 a2_24, kI cI a1_23 2400 (fun _ => 0), kI cI a2_24 4 (fun _ => 0)] ++ RB cI rho_11)) (xqIN (n := 0) (As := []) (rest := [.ref q_25, .ref h0]) hd hK hPD.left (c_X1_init l D cI cJ cZ cR _ q_25 ) mI_X1_init.1 mI_X1_init.2.1 hK.2.2.2.2.1 mI_X1_init.2.2 rfl hS_X1_init ⟨(Nat.le_of_ble_eq_true rfl), (Nat.le_of_ble_eq_true rfl)⟩ rfl hl.1 rfl (Nat.le_of_ble_eq_true rfl) dX6_init_55 ⟨(Nat.le_of_ble_eq_true rfl), (Nat.le_of_ble_eq_true rfl)⟩) hPD hS hA (fun u_27 H locs hw_28 hPD hS => ?_)
  obtain ⟨a1_29, a2_30, a3_31, a4_32, a5_33⟩ := u_27
  obtain ⟨hP, hD⟩ := hPD.perm permA'
  have hP : va_P D vwCl ([(h0, .inr (6, [.ref q_1, .ref q_6, .ref q_12, .ref q_19, .null, .int 0, .int 0, .int 0, .int 0, .int 0])), kX3 q_1 a1_5 0, kI cI a1_5 16 (fun _ => 0), kX5 q_6 a1_10 0, kQ cR a1_10 9 (fun k => some ((rho_11 k).1.1)), kX0 q_12 a1_16 a2_17 a3_18 0 0, kI cI a1_16 12 (fun _ => 0), kI cI a2_17 12 (fun _ => 0), kI cI a3_18 12 (fun _ => 0), kX2 q_19 a1_23 a2_24, kI cI a1_23 2400 (fun _ => 0), kI cI a2_24 4 (fun _ => 0), kX1 q_25 a1_29 a2_30 a3_31 a4_32 a5_33, kJ cJ a1_29 96 (fun _ => 0), kI cI a2_30 96 (fun _ => 0), kI cZ a3_31 96 (fun _ => 0), kI cI a4_32 96 (fun _ => 0), kI cI a5_33 6 (fun _ => 0)] ++ RB cI rho_11) H := hP
  have hD : va_D A ([(h0, .inr (6, [.ref q_1, .ref q_6, .ref q_12, .ref q_19, .null, .int 0, .int 0, .int 0, .int 0, .int 0])), kX3 q_1 a1_5 0, kI cI a1_5 16 (fun _ => 0), kX5 q_6 a1_10 0, kQ cR a1_10 9 (fun k => some ((rho_11 k).1.1)), kX0 q_12 a1_16 a2_17 a3_18 0 0, kI cI a1_16 12 (fun _ => 0), kI cI a2_17 12 (fun _ => 0), kI cI a3_18 12 (fun _ => 0), kX2 q_19 a1_23 a2_24, kI cI a1_23 2400 (fun _ => 0), kI cI a2_24 4 (fun _ => 0), kX1 q_25 a1_29 a2_30 a3_31 a4_32 a5_33, kJ cJ a1_29 96 (fun _ => 0), kI cI a2_30 96 (fun _ => 0), kI cZ a3_31 96 (fun _ => 0), kI cI a4_32 96 (fun _ => 0), kI cI a5_33 6 (fun _ => 0)] ++ RB cI rho_11) := hD
  refine W.widen (k := 89) (n := 4221) (Nat.le_of_ble_eq_true rfl) (Nat.le_of_ble_eq_true rfl) ?_
  refine va_putF (D := D) (ci := 6) (v := .ref q_25) (ty := (.object "GrownGraphs$Lights")) (C := RX6) (T := TX6) (N := 10) hx hb hts iT_X6 tyX6 tyX6_ok nmX6 hown hK1 hP hD hS 0 rfl rfl 4 (by decide) (hts _ t_158) (fun _ h9 => h9) rfl hin rfl (by decide +kernel) rfl rfl (Nat.le_of_ble_eq_true rfl) dX6_init_58 (fun H locs hP hD hS => ?_)
  have hP : va_P D vwCl ([kX6 h0 q_1 q_6 q_12 q_19 q_25 0 0 0 0 0, kX3 q_1 a1_5 0, kI cI a1_5 16 (fun _ => 0), kX5 q_6 a1_10 0, kQ cR a1_10 9 (fun k => some ((rho_11 k).1.1)), kX0 q_12 a1_16 a2_17 a3_18 0 0, kI cI a1_16 12 (fun _ => 0), kI cI a2_17 12 (fun _ => 0), kI cI a3_18 12 (fun _ => 0), kX2 q_19 a1_23 a2_24, kI cI a1_23 2400 (fun _ => 0), kI cI a2_24 4 (fun _ => 0), kX1 q_25 a1_29 a2_30 a3_31 a4_32 a5_33, kJ cJ a1_29 96 (fun _ => 0), kI cI a2_30 96 (fun _ => 0), kI cZ a3_31 96 (fun _ => 0), kI cI a4_32 96 (fun _ => 0), kI cI a5_33 6 (fun _ => 0)] ++ RB cI rho_11) H := hP
  have hD : va_D A ([kX6 h0 q_1 q_6 q_12 q_19 q_25 0 0 0 0 0, kX3 q_1 a1_5 0, kI cI a1_5 16 (fun _ => 0), kX5 q_6 a1_10 0, kQ cR a1_10 9 (fun k => some ((rho_11 k).1.1)), kX0 q_12 a1_16 a2_17 a3_18 0 0, kI cI a1_16 12 (fun _ => 0), kI cI a2_17 12 (fun _ => 0), kI cI a3_18 12 (fun _ => 0), kX2 q_19 a1_23 a2_24, kI cI a1_23 2400 (fun _ => 0), kI cI a2_24 4 (fun _ => 0), kX1 q_25 a1_29 a2_30 a3_31 a4_32 a5_33, kJ cJ a1_29 96 (fun _ => 0), kI cI a2_30 96 (fun _ => 0), kI cZ a3_31 96 (fun _ => 0), kI cI a4_32 96 (fun _ => 0), kI cI a5_33 6 (fun _ => 0)] ++ RB cI rho_11) := hD
  refine lv_aload_n hx hb dX6_init_61 rfl (lv_at hl 0 rfl) ?_
  refine lv_iconst (v := 0) hx hb dX6_init_62 (by decide) ?_
  refine va_put (D := D) (ci := 6) (v := .int 0) (ty := .boolean) (C := RX6) (T := TX6) (N := 10) hx hb hts iT_X6 tyX6 tyX6_ok nmX6 hown hK1 hP hD hS 0 rfl rfl 5 (by decide) (hts _ t_159) (fun _ h9 => h9) rfl (by decide +kernel) rfl rfl (Nat.le_of_ble_eq_true rfl) dX6_init_63 (fun H locs hP hD hS => ?_)
  have hP : va_P D vwCl ([kX6 h0 q_1 q_6 q_12 q_19 q_25 0 0 0 0 0, kX3 q_1 a1_5 0, kI cI a1_5 16 (fun _ => 0), kX5 q_6 a1_10 0, kQ cR a1_10 9 (fun k => some ((rho_11 k).1.1)), kX0 q_12 a1_16 a2_17 a3_18 0 0, kI cI a1_16 12 (fun _ => 0), kI cI a2_17 12 (fun _ => 0), kI cI a3_18 12 (fun _ => 0), kX2 q_19 a1_23 a2_24, kI cI a1_23 2400 (fun _ => 0), kI cI a2_24 4 (fun _ => 0), kX1 q_25 a1_29 a2_30 a3_31 a4_32 a5_33, kJ cJ a1_29 96 (fun _ => 0), kI cI a2_30 96 (fun _ => 0), kI cZ a3_31 96 (fun _ => 0), kI cI a4_32 96 (fun _ => 0), kI cI a5_33 6 (fun _ => 0)] ++ RB cI rho_11) H := hP
  have hD : va_D A ([kX6 h0 q_1 q_6 q_12 q_19 q_25 0 0 0 0 0, kX3 q_1 a1_5 0, kI cI a1_5 16 (fun _ => 0), kX5 q_6 a1_10 0, kQ cR a1_10 9 (fun k => some ((rho_11 k).1.1)), kX0 q_12 a1_16 a2_17 a3_18 0 0, kI cI a1_16 12 (fun _ => 0), kI cI a2_17 12 (fun _ => 0), kI cI a3_18 12 (fun _ => 0), kX2 q_19 a1_23 a2_24, kI cI a1_23 2400 (fun _ => 0), kI cI a2_24 4 (fun _ => 0), kX1 q_25 a1_29 a2_30 a3_31 a4_32 a5_33, kJ cJ a1_29 96 (fun _ => 0), kI cI a2_30 96 (fun _ => 0), kI cZ a3_31 96 (fun _ => 0), kI cI a4_32 96 (fun _ => 0), kI cI a5_33 6 (fun _ => 0)] ++ RB cI rho_11) := hD
  refine lv_aload_n hx hb dX6_init_66 rfl (lv_at hl 0 rfl) ?_
  refine lv_iconst (v := 0) hx hb dX6_init_67 (by decide) ?_
  refine va_put (D := D) (ci := 6) (v := .int 0) (ty := .boolean) (C := RX6) (T := TX6) (N := 10) hx hb hts iT_X6 tyX6 tyX6_ok nmX6 hown hK1 hP hD hS 0 rfl rfl 6 (by decide) (hts _ t_160) (fun _ h9 => h9) rfl (by decide +kernel) rfl rfl (Nat.le_of_ble_eq_true rfl) dX6_init_68 (fun H locs hP hD hS => ?_)
  have hP : va_P D vwCl ([kX6 h0 q_1 q_6 q_12 q_19 q_25 0 0 0 0 0, kX3 q_1 a1_5 0, kI cI a1_5 16 (fun _ => 0), kX5 q_6 a1_10 0, kQ cR a1_10 9 (fun k => some ((rho_11 k).1.1)), kX0 q_12 a1_16 a2_17 a3_18 0 0, kI cI a1_16 12 (fun _ => 0), kI cI a2_17 12 (fun _ => 0), kI cI a3_18 12 (fun _ => 0), kX2 q_19 a1_23 a2_24, kI cI a1_23 2400 (fun _ => 0), kI cI a2_24 4 (fun _ => 0), kX1 q_25 a1_29 a2_30 a3_31 a4_32 a5_33, kJ cJ a1_29 96 (fun _ => 0), kI cI a2_30 96 (fun _ => 0), kI cZ a3_31 96 (fun _ => 0), kI cI a4_32 96 (fun _ => 0), kI cI a5_33 6 (fun _ => 0)] ++ RB cI rho_11) H := hP
  have hD : va_D A ([kX6 h0 q_1 q_6 q_12 q_19 q_25 0 0 0 0 0, kX3 q_1 a1_5 0, kI cI a1_5 16 (fun _ => 0), kX5 q_6 a1_10 0, kQ cR a1_10 9 (fun k => some ((rho_11 k).1.1)), kX0 q_12 a1_16 a2_17 a3_18 0 0, kI cI a1_16 12 (fun _ => 0), kI cI a2_17 12 (fun _ => 0), kI cI a3_18 12 (fun _ => 0), kX2 q_19 a1_23 a2_24, kI cI a1_23 2400 (fun _ => 0), kI cI a2_24 4 (fun _ => 0), kX1 q_25 a1_29 a2_30 a3_31 a4_32 a5_33, kJ cJ a1_29 96 (fun _ => 0), kI cI a2_30 96 (fun _ => 0), kI cZ a3_31 96 (fun _ => 0), kI cI a4_32 96 (fun _ => 0), kI cI a5_33 6 (fun _ => 0)] ++ RB cI rho_11) := hD
  refine lv_aload_n hx hb dX6_init_71 rfl (lv_at hl 0 rfl) ?_
  refine lv_iconst (v := 0) hx hb dX6_init_72 (by decide) ?_
  refine va_put (D := D) (ci := 6) (v := .int 0) (ty := .int) (C := RX6) (T := TX6) (N := 10) hx hb hts iT_X6 tyX6 tyX6_ok nmX6 hown hK1 hP hD hS 0 rfl rfl 7 (by decide) (hts _ t_161) (fun _ h9 => h9) rfl (by decide +kernel) rfl rfl (Nat.le_of_ble_eq_true rfl) dX6_init_73 (fun H locs hP hD hS => ?_)
  have hP : va_P D vwCl ([kX6 h0 q_1 q_6 q_12 q_19 q_25 0 0 0 0 0, kX3 q_1 a1_5 0, kI cI a1_5 16 (fun _ => 0), kX5 q_6 a1_10 0, kQ cR a1_10 9 (fun k => some ((rho_11 k).1.1)), kX0 q_12 a1_16 a2_17 a3_18 0 0, kI cI a1_16 12 (fun _ => 0), kI cI a2_17 12 (fun _ => 0), kI cI a3_18 12 (fun _ => 0), kX2 q_19 a1_23 a2_24, kI cI a1_23 2400 (fun _ => 0), kI cI a2_24 4 (fun _ => 0), kX1 q_25 a1_29 a2_30 a3_31 a4_32 a5_33, kJ cJ a1_29 96 (fun _ => 0), kI cI a2_30 96 (fun _ => 0), kI cZ a3_31 96 (fun _ => 0), kI cI a4_32 96 (fun _ => 0), kI cI a5_33 6 (fun _ => 0)] ++ RB cI rho_11) H := hP
  have hD : va_D A ([kX6 h0 q_1 q_6 q_12 q_19 q_25 0 0 0 0 0, kX3 q_1 a1_5 0, kI cI a1_5 16 (fun _ => 0), kX5 q_6 a1_10 0, kQ cR a1_10 9 (fun k => some ((rho_11 k).1.1)), kX0 q_12 a1_16 a2_17 a3_18 0 0, kI cI a1_16 12 (fun _ => 0), kI cI a2_17 12 (fun _ => 0), kI cI a3_18 12 (fun _ => 0), kX2 q_19 a1_23 a2_24, kI cI a1_23 2400 (fun _ => 0), kI cI a2_24 4 (fun _ => 0), kX1 q_25 a1_29 a2_30 a3_31 a4_32 a5_33, kJ cJ a1_29 96 (fun _ => 0), kI cI a2_30 96 (fun _ => 0), kI cZ a3_31 96 (fun _ => 0), kI cI a4_32 96 (fun _ => 0), kI cI a5_33 6 (fun _ => 0)] ++ RB cI rho_11) := hD
  refine lv_aload_n hx hb dX6_init_76 rfl (lv_at hl 0 rfl) ?_
  refine lv_iconst (v := 0) hx hb dX6_init_77 (by decide) ?_
  refine va_put (D := D) (ci := 6) (v := .int 0) (ty := .int) (C := RX6) (T := TX6) (N := 10) hx hb hts iT_X6 tyX6 tyX6_ok nmX6 hown hK1 hP hD hS 0 rfl rfl 8 (by decide) (hts _ t_162) (fun _ h9 => h9) rfl (by decide +kernel) rfl rfl (Nat.le_of_ble_eq_true rfl) dX6_init_78 (fun H locs hP hD hS => ?_)
  have hP : va_P D vwCl ([kX6 h0 q_1 q_6 q_12 q_19 q_25 0 0 0 0 0, kX3 q_1 a1_5 0, kI cI a1_5 16 (fun _ => 0), kX5 q_6 a1_10 0, kQ cR a1_10 9 (fun k => some ((rho_11 k).1.1)), kX0 q_12 a1_16 a2_17 a3_18 0 0, kI cI a1_16 12 (fun _ => 0), kI cI a2_17 12 (fun _ => 0), kI cI a3_18 12 (fun _ => 0), kX2 q_19 a1_23 a2_24, kI cI a1_23 2400 (fun _ => 0), kI cI a2_24 4 (fun _ => 0), kX1 q_25 a1_29 a2_30 a3_31 a4_32 a5_33, kJ cJ a1_29 96 (fun _ => 0), kI cI a2_30 96 (fun _ => 0), kI cZ a3_31 96 (fun _ => 0), kI cI a4_32 96 (fun _ => 0), kI cI a5_33 6 (fun _ => 0)] ++ RB cI rho_11) H := hP
  have hD : va_D A ([kX6 h0 q_1 q_6 q_12 q_19 q_25 0 0 0 0 0, kX3 q_1 a1_5 0, kI cI a1_5 16 (fun _ => 0), kX5 q_6 a1_10 0, kQ cR a1_10 9 (fun k => some ((rho_11 k).1.1)), kX0 q_12 a1_16 a2_17 a3_18 0 0, kI cI a1_16 12 (fun _ => 0), kI cI a2_17 12 (fun _ => 0), kI cI a3_18 12 (fun _ => 0), kX2 q_19 a1_23 a2_24, kI cI a1_23 2400 (fun _ => 0), kI cI a2_24 4 (fun _ => 0), kX1 q_25 a1_29 a2_30 a3_31 a4_32 a5_33, kJ cJ a1_29 96 (fun _ => 0), kI cI a2_30 96 (fun _ => 0), kI cZ a3_31 96 (fun _ => 0), kI cI a4_32 96 (fun _ => 0), kI cI a5_33 6 (fun _ => 0)] ++ RB cI rho_11) := hD
  refine lv_aload_n hx hb dX6_init_81 rfl (lv_at hl 0 rfl) ?_
  refine lv_iconst (v := 0) hx hb dX6_init_82 (by decide) ?_
  refine va_put (D := D) (ci := 6) (v := .int 0) (ty := .int) (C := RX6) (T := TX6) (N := 10) hx hb hts iT_X6 tyX6 tyX6_ok nmX6 hown hK1 hP hD hS 0 rfl rfl 9 (by decide) (hts _ t_163) (fun _ h9 => h9) rfl (by decide +kernel) rfl rfl (Nat.le_of_ble_eq_true rfl) dX6_init_83 (fun H locs hP hD hS => ?_)
  have hP : va_P D vwCl ([kX6 h0 q_1 q_6 q_12 q_19 q_25 0 0 0 0 0, kX3 q_1 a1_5 0, kI cI a1_5 16 (fun _ => 0), kX5 q_6 a1_10 0, kQ cR a1_10 9 (fun k => some ((rho_11 k).1.1)), kX0 q_12 a1_16 a2_17 a3_18 0 0, kI cI a1_16 12 (fun _ => 0), kI cI a2_17 12 (fun _ => 0), kI cI a3_18 12 (fun _ => 0), kX2 q_19 a1_23 a2_24, kI cI a1_23 2400 (fun _ => 0), kI cI a2_24 4 (fun _ => 0), kX1 q_25 a1_29 a2_30 a3_31 a4_32 a5_33, kJ cJ a1_29 96 (fun _ => 0), kI cI a2_30 96 (fun _ => 0), kI cZ a3_31 96 (fun _ => 0), kI cI a4_32 96 (fun _ => 0), kI cI a5_33 6 (fun _ => 0)] ++ RB cI rho_11) H := hP
  have hD : va_D A ([kX6 h0 q_1 q_6 q_12 q_19 q_25 0 0 0 0 0, kX3 q_1 a1_5 0, kI cI a1_5 16 (fun _ => 0), kX5 q_6 a1_10 0, kQ cR a1_10 9 (fun k => some ((rho_11 k).1.1)), kX0 q_12 a1_16 a2_17 a3_18 0 0, kI cI a1_16 12 (fun _ => 0), kI cI a2_17 12 (fun _ => 0), kI cI a3_18 12 (fun _ => 0), kX2 q_19 a1_23 a2_24, kI cI a1_23 2400 (fun _ => 0), kI cI a2_24 4 (fun _ => 0), kX1 q_25 a1_29 a2_30 a3_31 a4_32 a5_33, kJ cJ a1_29 96 (fun _ => 0), kI cI a2_30 96 (fun _ => 0), kI cZ a3_31 96 (fun _ => 0), kI cI a4_32 96 (fun _ => 0), kI cI a5_33 6 (fun _ => 0)] ++ RB cI rho_11) := hD
  have hPD : PD D A ([kX6 h0 q_1 q_6 q_12 q_19 q_25 0 0 0 0 0, kX3 q_1 a1_5 0, kI cI a1_5 16 (fun _ => 0), kX5 q_6 a1_10 0, kQ cR a1_10 9 (fun k => some ((rho_11 k).1.1)), kX0 q_12 a1_16 a2_17 a3_18 0 0, kI cI a1_16 12 (fun _ => 0), kI cI a2_17 12 (fun _ => 0), kI cI a3_18 12 (fun _ => 0), kX2 q_19 a1_23 a2_24, kI cI a1_23 2400 (fun _ => 0), kI cI a2_24 4 (fun _ => 0), kX1 q_25 a1_29 a2_30 a3_31 a4_32 a5_33, kJ cJ a1_29 96 (fun _ => 0), kI cI a2_30 96 (fun _ => 0), kI cZ a3_31 96 (fun _ => 0), kI cI a4_32 96 (fun _ => 0), kI cI a5_33 6 (fun _ => 0)] ++ RB cI rho_11) H := (PD.perm ⟨hP, hD⟩ (permB pm_7)).left
  exact hret _ _ _ _ _ _ (q_1, a1_5, q_6, a1_10, q_12, a1_16, a2_17, a3_18, q_19, a1_23, a2_24, q_25, a1_29, a2_30, a3_31, a4_32, a5_33, rho_11) dX6_init_86 hS (Nat.le_of_ble_eq_true rfl) (Nat.le_of_ble_eq_true rfl) trivial hPD.1 hPD.2
set_option maxHeartbeats 4000000 in
set_option maxRecDepth 100000 in
theorem c_X7_init (sz : Nat) (m0 : Nat)  : CTv l D cI cJ cZ cR yX7_init cX7_init 1 none 1 24 13 2654 sz [.ref m0] [(m0, .inr (7, [.int 0, .null, .int 0, .null, .null, .null, .null, .int 0, .int 0, .null, .int 0, .int 0, .int 0, .int 0, .null, .int 0, .int 0, .int 0, .int 0, .null, .null, .null, .int 0, .null, .null, .null, .long 0]))] (fun (u : Nat × Nat × Nat × Nat × Nat × Nat × Nat × Nat × Nat × Nat × Nat × Nat × Nat) => True) (fun (u : Nat × Nat × Nat × Nat × Nat × Nat × Nat × Nat × Nat × Nat × Nat × Nat × Nat) => [kX7 m0 0 u.1 0 u.2.1 u.2.2.1 u.2.2.2.1 u.2.2.2.2.1 0 0 u.2.2.2.2.2.1 0 0 0 0 u.2.2.2.2.2.2.1 0 0 0 0 u.2.2.2.2.2.2.2.1 u.2.2.2.2.2.2.2.2.1 u.2.2.2.2.2.2.2.2.2.1 0 u.2.2.2.2.2.2.2.2.2.2.1 u.2.2.2.2.2.2.2.2.2.2.2.1 u.2.2.2.2.2.2.2.2.2.2.2.2 0, kI cI u.1 16 (fun _ => 0), kI cI u.2.1 9 (fun _ => 0), kI cI u.2.2.1 9 (fun _ => 0), kI cI u.2.2.2.1 9 (fun _ => 0), kI cI u.2.2.2.2.1 27 (fun _ => 0), kI cI u.2.2.2.2.2.1 12 (fun _ => 0), kI cI u.2.2.2.2.2.2.1 5 (fun _ => 0), kI cI u.2.2.2.2.2.2.2.1 2400 (fun _ => 0), kI cI u.2.2.2.2.2.2.2.2.1 32 (fun _ => 0), kI cI u.2.2.2.2.2.2.2.2.2.1 4 (fun _ => 0), kJ cJ u.2.2.2.2.2.2.2.2.2.2.1 80 (fun _ => 0), kI cI u.2.2.2.2.2.2.2.2.2.2.2.1 48 (fun _ => 0), kI cI u.2.2.2.2.2.2.2.2.2.2.2.2 3 (fun _ => 0)]) := by
  refine CTv.of (by decide) (Nat.le_of_ble_eq_true rfl) rfl ?_
  intro p e s m below meth c A Q ls hd hin hK hsz hP hD hA hS hl hret
  obtain ⟨hx, hb, hml, hown, hts⟩ := id hd
  have hK1 := hK.1
  have hown : s.vm.findClass RX7 = some m.cls := hown
  have hin : meth.name = "<init>" := hin
  have hl : lv_has ls 1 [(0, .ref m0)] := hl
  refine lv_aload_n hx hb dX7_init_0 rfl (lv_at hl 0 rfl) ?_
  refine W.objInit hx hb hown (hts _ t_550) (hts _ t_18) (hts _ t_19) rfl (by rw [hml]; exact hl.1) rfl dX7_init_1 (Nat.le_of_ble_eq_true rfl) (Nat.le_of_ble_eq_true rfl) ?_
  refine W.eq (g2 := F0 m 4 ls []) rfl ?_
  refine lv_aload_n hx hb dX7_init_4 rfl (lv_at hl 0 rfl) ?_
  refine lv_bipush (v := 16) hx hb dX7_init_5 (by decide) ?_
  refine nw_I (N' := 16) hx hb (hts _ t_35) hK hP hD hS hA (by decide) (by decide) (by decide) (Nat.le_of_ble_eq_true rfl) (Nat.le_of_ble_eq_true rfl) dX7_init_7 (fun q_1 H hP hD hS => ?_)
  have hP : va_P D vwCl [(m0, .inr (7, [.int 0, .null, .int 0, .null, .null, .null, .null, .int 0, .int 0, .null, .int 0, .int 0, .int 0, .int 0, .null, .int 0, .int 0, .int 0, .int 0, .null, .null, .null, .int 0, .null, .null, .null, .long 0])), kI cI q_1 16 (fun _ => 0)] H := hP
  have hD : va_D A [(m0, .inr (7, [.int 0, .null, .int 0, .null, .null, .null, .null, .int 0, .int 0, .null, .int 0, .int 0, .int 0, .int 0, .null, .int 0, .int 0, .int 0, .int 0, .null, .null, .null, .int 0, .null, .null, .null, .long 0])), kI cI q_1 16 (fun _ => 0)] := hD
  refine W.widen (k := 1) (n := 16) (Nat.le_of_ble_eq_true rfl) (Nat.le_of_ble_eq_true rfl) ?_
  refine va_putF (D := D) (ci := 7) (v := .ref q_1) (ty := (.array .int)) (C := RX7) (T := TX7) (N := 27) hx hb hts iT_X7 tyX7 tyX7_ok nmX7 hown hK1 hP hD hS 0 rfl rfl 1 (by decide) (hts _ t_552) (fun _ h9 => h9) rfl hin rfl (by decide +kernel) rfl rfl (Nat.le_of_ble_eq_true rfl) dX7_init_9 (fun H locs hP hD hS => ?_)
  have hP : va_P D vwCl [(m0, .inr (7, [.int 0, .ref q_1, .int 0, .null, .null, .null, .null, .int 0, .int 0, .null, .int 0, .int 0, .int 0, .int 0, .null, .int 0, .int 0, .int 0, .int 0, .null, .null, .null, .int 0, .null, .null, .null, .long 0])), kI cI q_1 16 (fun _ => 0)] H := hP
  have hD : va_D A [(m0, .inr (7, [.int 0, .ref q_1, .int 0, .null, .null, .null, .null, .int 0, .int 0, .null, .int 0, .int 0, .int 0, .int 0, .null, .int 0, .int 0, .int 0, .int 0, .null, .null, .null, .int 0, .null, .null, .null, .long 0])), kI cI q_1 16 (fun _ => 0)] := hD
  refine lv_aload_n hx hb dX7_init_12 rfl (lv_at hl 0 rfl) ?_
  refine lv_bipush (v := 9) hx hb dX7_init_13 (by decide) ?_
  refine nw_I (N' := 9) hx hb (hts _ t_35) hK hP hD hS hA (by decide) (by decide) (by decide) (Nat.le_of_ble_eq_true rfl) (Nat.le_of_ble_eq_true rfl) dX7_init_15 (fun q_2 H hP hD hS => ?_)
  have hP : va_P D vwCl [(m0, .inr (7, [.int 0, .ref q_1, .int 0, .null, .null, .null, .null, .int 0, .int 0, .null, .int 0, .int 0, .int 0, .int 0, .null, .int 0, .int 0, .int 0, .int 0, .null, .null, .null, .int 0, .null, .null, .null, .long 0])), kI cI q_1 16 (fun _ => 0), kI cI q_2 9 (fun _ => 0)] H := hP
  have hD : va_D A [(m0, .inr (7, [.int 0, .ref q_1, .int 0, .null, .null, .null, .null, .int 0, .int 0, .null, .int 0, .int 0, .int 0, .int 0, .null, .int 0, .int 0, .int 0, .int 0, .null, .null, .null, .int 0, .null, .null, .null, .long 0])), kI cI q_1 16 (fun _ => 0), kI cI q_2 9 (fun _ => 0)] := hD
  refine W.widen (k := 2) (n := 25) (Nat.le_of_ble_eq_true rfl) (Nat.le_of_ble_eq_true rfl) ?_
  refine va_putF (D := D) (ci := 7) (v := .ref q_2) (ty := (.array .int)) (C := RX7) (T := TX7) (N := 27) hx hb hts iT_X7 tyX7 tyX7_ok nmX7 hown hK1 hP hD hS 0 rfl rfl 3 (by decide) (hts _ t_554) (fun _ h9 => h9) rfl hin rfl (by decide +kernel) rfl rfl (Nat.le_of_ble_eq_true rfl) dX7_init_17 (fun H locs hP hD hS => ?_)
  have hP : va_P D vwCl [(m0, .inr (7, [.int 0, .ref q_1, .int 0, .ref q_2, .null, .null, .null, .int 0, .int 0, .null, .int 0, .int 0, .int 0, .int 0, .null, .int 0, .int 0, .int 0, .int 0, .null, .null, .null, .int 0, .null, .null, .null, .long 0])), kI cI q_1 16 (fun _ => 0), kI cI q_2 9 (fun _ => 0)] H := hP
  have hD : va_D A [(m0, .inr (7, [.int 0, .ref q_1, .int 0, .ref q_2, .null, .null, .null, .int 0, .int 0, .null, .int 0, .int 0, .int 0, .int 0, .null, .int 0, .int 0, .int 0, .int 0, .null, .null, .null, .int 0, .null, .null, .null, .long 0])), kI cI q_1 16 (fun _ => 0), kI cI q_2 9 (fun _ => 0)] := hD
  refine lv_aload_n hx hb dX7_init_20 rfl (lv_at hl 0 rfl) ?_
  refine lv_bipush (v := 9) hx hb dX7_init_21 (by decide) ?_
  refine nw_I (N' := 9) hx hb (hts _ t_35) hK hP hD hS hA (by decide) (by decide) (by decide) (Nat.le_of_ble_eq_true rfl) (Nat.le_of_ble_eq_true rfl) dX7_init_23 (fun q_3 H hP hD hS => ?_)
  have hP : va_P D vwCl [(m0, .inr (7, [.int 0, .ref q_1, .int 0, .ref q_2, .null, .null, .null, .int 0, .int 0, .null, .int 0, .int 0, .int 0, .int 0, .null, .int 0, .int 0, .int 0, .int 0, .null, .null, .null, .int 0, .null, .null, .null, .long 0])), kI cI q_1 16 (fun _ => 0), kI cI q_2 9 (fun _ => 0), kI cI q_3 9 (fun _ => 0)] H := hP
  have hD : va_D A [(m0, .inr (7, [.int 0, .ref q_1, .int 0, .ref q_2, .null, .null, .null, .int 0, .int 0, .null, .int 0, .int 0, .int 0, .int 0, .null, .int 0, .int 0, .int 0, .int 0, .null, .null, .null, .int 0, .null, .null, .null, .long 0])), kI cI q_1 16 (fun _ => 0), kI cI q_2 9 (fun _ => 0), kI cI q_3 9 (fun _ => 0)] := hD
  refine W.widen (k := 3) (n := 34) (Nat.le_of_ble_eq_true rfl) (Nat.le_of_ble_eq_true rfl) ?_
  refine va_putF (D := D) (ci := 7) (v := .ref q_3) (ty := (.array .int)) (C := RX7) (T := TX7) (N := 27) hx hb hts iT_X7 tyX7 tyX7_ok nmX7 hown hK1 hP hD hS 0 rfl rfl 4 (by decide) (hts _ t_555) (fun _ h9 => h9) rfl hin rfl (by decide +kernel) rfl rfl (Nat.le_of_ble_eq_true rfl) dX7_init_25 (fun H locs hP hD hS => ?_)
  have hP : va_P D vwCl [(m0, .inr (7, [.int 0, .ref q_1, .int 0, .ref q_2, .ref q_3, .null, .null, .int 0, .int 0, .null, .int 0, .int 0, .int 0, .int 0, .null, .int 0, .int 0, .int 0, .int 0, .null, .null, .null, .int 0, .null, .null, .null, .long 0])), kI cI q_1 16 (fun _ => 0), kI cI q_2 9 (fun _ => 0), kI cI q_3 9 (fun _ => 0)] H := hP
  have hD : va_D A [(m0, .inr (7, [.int 0, .ref q_1, .int 0, .ref q_2, .ref q_3, .null, .null, .int 0, .int 0, .null, .int 0, .int 0, .int 0, .int 0, .null, .int 0, .int 0, .int 0, .int 0, .null, .null, .null, .int 0, .null, .null, .null, .long 0])), kI cI q_1 16 (fun _ => 0), kI cI q_2 9 (fun _ => 0), kI cI q_3 9 (fun _ => 0)] := hD
  refine lv_aload_n hx hb dX7_init_28 rfl (lv_at hl 0 rfl) ?_
  refine lv_bipush (v := 9) hx hb dX7_init_29 (by decide) ?_
  refine nw_I (N' := 9) hx hb (hts _ t_35) hK hP hD hS hA (by decide) (by decide) (by decide) (Nat.le_of_ble_eq_true rfl) (Nat.le_of_ble_eq_true rfl) dX7_init_31 (fun q_4 H hP hD hS => ?_)
  have hP : va_P D vwCl [(m0, .inr (7, [.int 0, .ref q_1, .int 0, .ref q_2, .ref q_3, .null, .null, .int 0, .int 0, .null, .int 0, .int 0, .int 0, .int 0, .null, .int 0, .int 0, .int 0, .int 0, .null, .null, .null, .int 0, .null, .null, .null, .long 0])), kI cI q_1 16 (fun _ => 0), kI cI q_2 9 (fun _ => 0), kI cI q_3 9 (fun _ => 0), kI cI q_4 9 (fun _ => 0)] H := hP
  have hD : va_D A [(m0, .inr (7, [.int 0, .ref q_1, .int 0, .ref q_2, .ref q_3, .null, .null, .int 0, .int 0, .null, .int 0, .int 0, .int 0, .int 0, .null, .int 0, .int 0, .int 0, .int 0, .null, .null, .null, .int 0, .null, .null, .null, .long 0])), kI cI q_1 16 (fun _ => 0), kI cI q_2 9 (fun _ => 0), kI cI q_3 9 (fun _ => 0), kI cI q_4 9 (fun _ => 0)] := hD
  refine W.widen (k := 4) (n := 43) (Nat.le_of_ble_eq_true rfl) (Nat.le_of_ble_eq_true rfl) ?_
  refine va_putF (D := D) (ci := 7) (v := .ref q_4) (ty := (.array .int)) (C := RX7) (T := TX7) (N := 27) hx hb hts iT_X7 tyX7 tyX7_ok nmX7 hown hK1 hP hD hS 0 rfl rfl 5 (by decide) (hts _ t_556) (fun _ h9 => h9) rfl hin rfl (by decide +kernel) rfl rfl (Nat.le_of_ble_eq_true rfl) dX7_init_33 (fun H locs hP hD hS => ?_)
  have hP : va_P D vwCl [(m0, .inr (7, [.int 0, .ref q_1, .int 0, .ref q_2, .ref q_3, .ref q_4, .null, .int 0, .int 0, .null, .int 0, .int 0, .int 0, .int 0, .null, .int 0, .int 0, .int 0, .int 0, .null, .null, .null, .int 0, .null, .null, .null, .long 0])), kI cI q_1 16 (fun _ => 0), kI cI q_2 9 (fun _ => 0), kI cI q_3 9 (fun _ => 0), kI cI q_4 9 (fun _ => 0)] H := hP
  have hD : va_D A [(m0, .inr (7, [.int 0, .ref q_1, .int 0, .ref q_2, .ref q_3, .ref q_4, .null, .int 0, .int 0, .null, .int 0, .int 0, .int 0, .int 0, .null, .int 0, .int 0, .int 0, .int 0, .null, .null, .null, .int 0, .null, .null, .null, .long 0])), kI cI q_1 16 (fun _ => 0), kI cI q_2 9 (fun _ => 0), kI cI q_3 9 (fun _ => 0), kI cI q_4 9 (fun _ => 0)] := hD
  refine lv_aload_n hx hb dX7_init_36 rfl (lv_at hl 0 rfl) ?_
  refine lv_bipush (v := 27) hx hb dX7_init_37 (by decide) ?_
  refine nw_I (N' := 27) hx hb (hts _ t_35) hK hP hD hS hA (by decide) (by decide) (by decide) (Nat.le_of_ble_eq_true rfl) (Nat.le_of_ble_eq_true rfl) dX7_init_39 (fun q_5 H hP hD hS => ?_)
  have hP : va_P D vwCl [(m0, .inr (7, [.int 0, .ref q_1, .int 0, .ref q_2, .ref q_3, .ref q_4, .null, .int 0, .int 0, .null, .int 0, .int 0, .int 0, .int 0, .null, .int 0, .int 0, .int 0, .int 0, .null, .null, .null, .int 0, .null, .null, .null, .long 0])), kI cI q_1 16 (fun _ => 0), kI cI q_2 9 (fun _ => 0), kI cI q_3 9 (fun _ => 0), kI cI q_4 9 (fun _ => 0), kI cI q_5 27 (fun _ => 0)] H := hP
  have hD : va_D A [(m0, .inr (7, [.int 0, .ref q_1, .int 0, .ref q_2, .ref q_3, .ref q_4, .null, .int 0, .int 0, .null, .int 0, .int 0, .int 0, .int 0, .null, .int 0, .int 0, .int 0, .int 0, .null, .null, .null, .int 0, .null, .null, .null, .long 0])), kI cI q_1 16 (fun _ => 0), kI cI q_2 9 (fun _ => 0), kI cI q_3 9 (fun _ => 0), kI cI q_4 9 (fun _ => 0), kI cI q_5 27 (fun _ => 0)] := hD
  refine W.widen (k := 5) (n := 70) (Nat.le_of_ble_eq_true rfl) (Nat.le_of_ble_eq_true rfl) ?_
  refine va_putF (D := D) (ci := 7) (v := .ref q_5) (ty := (.array .int)) (C := RX7) (T := TX7) (N := 27) hx hb hts iT_X7 tyX7 tyX7_ok nmX7 hown hK1 hP hD hS 0 rfl rfl 6 (by decide) (hts _ t_557) (fun _ h9 => h9) rfl hin rfl (by decide +kernel) rfl rfl (Nat.le_of_ble_eq_true rfl) dX7_init_41 (fun H locs hP hD hS => ?_)
  have hP : va_P D vwCl [(m0, .inr (7, [.int 0, .ref q_1, .int 0, .ref q_2, .ref q_3, .ref q_4, .ref q_5, .int 0, .int 0, .null, .int 0, .int 0, .int 0, .int 0, .null, .int 0, .int 0, .int 0, .int 0, .null, .null, .null, .int 0, .null, .null, .null, .long 0])), kI cI q_1 16 (fun _ => 0), kI cI q_2 9 (fun _ => 0), kI cI q_3 9 (fun _ => 0), kI cI q_4 9 (fun _ => 0), kI cI q_5 27 (fun _ => 0)] H := hP
  have hD : va_D A [(m0, .inr (7, [.int 0, .ref q_1, .int 0, .ref q_2, .ref q_3, .ref q_4, .ref q_5, .int 0, .int 0, .null, .int 0, .int 0, .int 0, .int 0, .null, .int 0, .int 0, .int 0, .int 0, .null, .null, .null, .int 0, .null, .null, .null, .long 0])), kI cI q_1 16 (fun _ => 0), kI cI q_2 9 (fun _ => 0), kI cI q_3 9 (fun _ => 0), kI cI q_4 9 (fun _ => 0), kI cI q_5 27 (fun _ => 0)] := hD
  refine lv_aload_n hx hb dX7_init_44 rfl (lv_at hl 0 rfl) ?_
  refine lv_bipush (v := 12) hx hb dX7_init_45 (by decide) ?_
  refine nw_I (N' := 12) hx hb (hts _ t_35) hK hP hD hS hA (by decide) (by decide) (by decide) (Nat.le_of_ble_eq_true rfl) (Nat.le_of_ble_eq_true rfl) dX7_init_47 (fun q_6 H hP hD hS => ?_)
  have hP : va_P D vwCl [(m0, .inr (7, [.int 0, .ref q_1, .int 0, .ref q_2, .ref q_3, .ref q_4, .ref q_5, .int 0, .int 0, .null, .int 0, .int 0, .int 0, .int 0, .null, .int 0, .int 0, .int 0, .int 0, .null, .null, .null, .int 0, .null, .null, .null, .long 0])), kI cI q_1 16 (fun _ => 0), kI cI q_2 9 (fun _ => 0), kI cI q_3 9 (fun _ => 0), kI cI q_4 9 (fun _ => 0), kI cI q_5 27 (fun _ => 0), kI cI q_6 12 (fun _ => 0)] H := hP
  have hD : va_D A [(m0, .inr (7, [.int 0, .ref q_1, .int 0, .ref q_2, .ref q_3, .ref q_4, .ref q_5, .int 0, .int 0, .null, .int 0, .int 0, .int 0, .int 0, .null, .int 0, .int 0, .int 0, .int 0, .null, .null, .null, .int 0, .null, .null, .null, .long 0])), kI cI q_1 16 (fun _ => 0), kI cI q_2 9 (fun _ => 0), kI cI q_3 9 (fun _ => 0), kI cI q_4 9 (fun _ => 0), kI cI q_5 27 (fun _ => 0), kI cI q_6 12 (fun _ => 0)] := hD
  refine W.widen (k := 6) (n := 82) (Nat.le_of_ble_eq_true rfl) (Nat.le_of_ble_eq_true rfl) ?_
  refine va_putF (D := D) (ci := 7) (v := .ref q_6) (ty := (.array .int)) (C := RX7) (T := TX7) (N := 27) hx hb hts iT_X7 tyX7 tyX7_ok nmX7 hown hK1 hP hD hS 0 rfl rfl 9 (by decide) (hts _ t_560) (fun _ h9 => h9) rfl hin rfl (by decide +kernel) rfl rfl (Nat.le_of_ble_eq_true rfl) dX7_init_49 (fun H locs hP hD hS => ?_)
  have hP : va_P D vwCl [(m0, .inr (7, [.int 0, .ref q_1, .int 0, .ref q_2, .ref q_3, .ref q_4, .ref q_5, .int 0, .int 0, .ref q_6, .int 0, .int 0, .int 0, .int 0, .null, .int 0, .int 0, .int 0, .int 0, .null, .null, .null, .int 0, .null, .null, .null, .long 0])), kI cI q_1 16 (fun _ => 0), kI cI q_2 9 (fun _ => 0), kI cI q_3 9 (fun _ => 0), kI cI q_4 9 (fun _ => 0), kI cI q_5 27 (fun _ => 0), kI cI q_6 12 (fun _ => 0)] H := hP
  have hD : va_D A [(m0, .inr (7, [.int 0, .ref q_1, .int 0, .ref q_2, .ref q_3, .ref q_4, .ref q_5, .int 0, .int 0, .ref q_6, .int 0, .int 0, .int 0, .int 0, .null, .int 0, .int 0, .int 0, .int 0, .null, .null, .null, .int 0, .null, .null, .null, .long 0])), kI cI q_1 16 (fun _ => 0), kI cI q_2 9 (fun _ => 0), kI cI q_3 9 (fun _ => 0), kI cI q_4 9 (fun _ => 0), kI cI q_5 27 (fun _ => 0), kI cI q_6 12 (fun _ => 0)] := hD
  refine lv_aload_n hx hb dX7_init_52 rfl (lv_at hl 0 rfl) ?_
  refine lv_iconst (v := 5) hx hb dX7_init_53 (by decide) ?_
  refine nw_I (N' := 5) hx hb (hts _ t_35) hK hP hD hS hA (by decide) (by decide) (by decide) (Nat.le_of_ble_eq_true rfl) (Nat.le_of_ble_eq_true rfl) dX7_init_54 (fun q_7 H hP hD hS => ?_)
  have hP : va_P D vwCl [(m0, .inr (7, [.int 0, .ref q_1, .int 0, .ref q_2, .ref q_3, .ref q_4, .ref q_5, .int 0, .int 0, .ref q_6, .int 0, .int 0, .int 0, .int 0, .null, .int 0, .int 0, .int 0, .int 0, .null, .null, .null, .int 0, .null, .null, .null, .long 0])), kI cI q_1 16 (fun _ => 0), kI cI q_2 9 (fun _ => 0), kI cI q_3 9 (fun _ => 0), kI cI q_4 9 (fun _ => 0), kI cI q_5 27 (fun _ => 0), kI cI q_6 12 (fun _ => 0), kI cI q_7 5 (fun _ => 0)] H := hP
  have hD : va_D A [(m0, .inr (7, [.int 0, .ref q_1, .int 0, .ref q_2, .ref q_3, .ref q_4, .ref q_5, .int 0, .int 0, .ref q_6, .int 0, .int 0, .int 0, .int 0, .null, .int 0, .int 0, .int 0, .int 0, .null, .null, .null, .int 0, .null, .null, .null, .long 0])), kI cI q_1 16 (fun _ => 0), kI cI q_2 9 (fun _ => 0), kI cI q_3 9 (fun _ => 0), kI cI q_4 9 (fun _ => 0), kI cI q_5 27 (fun _ => 0), kI cI q_6 12 (fun _ => 0), kI cI q_7 5 (fun _ => 0)] := hD
  refine W.widen (k := 7) (n := 87) (Nat.le_of_ble_eq_true rfl) (Nat.le_of_ble_eq_true rfl) ?_
  refine va_putF (D := D) (ci := 7) (v := .ref q_7) (ty := (.array .int)) (C := RX7) (T := TX7) (N := 27) hx hb hts iT_X7 tyX7 tyX7_ok nmX7 hown hK1 hP hD hS 0 rfl rfl 14 (by decide) (hts _ t_565) (fun _ h9 => h9) rfl hin rfl (by decide +kernel) rfl rfl (Nat.le_of_ble_eq_true rfl) dX7_init_56 (fun H locs hP hD hS => ?_)
  have hP : va_P D vwCl [(m0, .inr (7, [.int 0, .ref q_1, .int 0, .ref q_2, .ref q_3, .ref q_4, .ref q_5, .int 0, .int 0, .ref q_6, .int 0, .int 0, .int 0, .int 0, .ref q_7, .int 0, .int 0, .int 0, .int 0, .null, .null, .null, .int 0, .null, .null, .null, .long 0])), kI cI q_1 16 (fun _ => 0), kI cI q_2 9 (fun _ => 0), kI cI q_3 9 (fun _ => 0), kI cI q_4 9 (fun _ => 0), kI cI q_5 27 (fun _ => 0), kI cI q_6 12 (fun _ => 0), kI cI q_7 5 (fun _ => 0)] H := hP
  have hD : va_D A [(m0, .inr (7, [.int 0, .ref q_1, .int 0, .ref q_2, .ref q_3, .ref q_4, .ref q_5, .int 0, .int 0, .ref q_6, .int 0, .int 0, .int 0, .int 0, .ref q_7, .int 0, .int 0, .int 0, .int 0, .null, .null, .null, .int 0, .null, .null, .null, .long 0])), kI cI q_1 16 (fun _ => 0), kI cI q_2 9 (fun _ => 0), kI cI q_3 9 (fun _ => 0), kI cI q_4 9 (fun _ => 0), kI cI q_5 27 (fun _ => 0), kI cI q_6 12 (fun _ => 0), kI cI q_7 5 (fun _ => 0)] := hD
  refine lv_aload_n hx hb dX7_init_59 rfl (lv_at hl 0 rfl) ?_
  refine lv_sipush (v := 2400) hx hb dX7_init_60 (by decide) ?_
  refine nw_I (N' := 2400) hx hb (hts _ t_35) hK hP hD hS hA (by decide) (by decide) (by decide) (Nat.le_of_ble_eq_true rfl) (Nat.le_of_ble_eq_true rfl) dX7_init_63 (fun q_8 H hP hD hS => ?_)
  have hP : va_P D vwCl [(m0, .inr (7, [.int 0, .ref q_1, .int 0, .ref q_2, .ref q_3, .ref q_4, .ref q_5, .int 0, .int 0, .ref q_6, .int 0, .int 0, .int 0, .int 0, .ref q_7, .int 0, .int 0, .int 0, .int 0, .null, .null, .null, .int 0, .null, .null, .null, .long 0])), kI cI q_1 16 (fun _ => 0), kI cI q_2 9 (fun _ => 0), kI cI q_3 9 (fun _ => 0), kI cI q_4 9 (fun _ => 0), kI cI q_5 27 (fun _ => 0), kI cI q_6 12 (fun _ => 0), kI cI q_7 5 (fun _ => 0), kI cI q_8 2400 (fun _ => 0)] H := hP
  have hD : va_D A [(m0, .inr (7, [.int 0, .ref q_1, .int 0, .ref q_2, .ref q_3, .ref q_4, .ref q_5, .int 0, .int 0, .ref q_6, .int 0, .int 0, .int 0, .int 0, .ref q_7, .int 0, .int 0, .int 0, .int 0, .null, .null, .null, .int 0, .null, .null, .null, .long 0])), kI cI q_1 16 (fun _ => 0), kI cI q_2 9 (fun _ => 0), kI cI q_3 9 (fun _ => 0), kI cI q_4 9 (fun _ => 0), kI cI q_5 27 (fun _ => 0), kI cI q_6 12 (fun _ => 0), kI cI q_7 5 (fun _ => 0), kI cI q_8 2400 (fun _ => 0)] := hD
  refine W.widen (k := 8) (n := 2487) (Nat.le_of_ble_eq_true rfl) (Nat.le_of_ble_eq_true rfl) ?_
  refine va_putF (D := D) (ci := 7) (v := .ref q_8) (ty := (.array .int)) (C := RX7) (T := TX7) (N := 27) hx hb hts iT_X7 tyX7 tyX7_ok nmX7 hown hK1 hP hD hS 0 rfl rfl 19 (by decide) (hts _ t_570) (fun _ h9 => h9) rfl hin rfl (by decide +kernel) rfl rfl (Nat.le_of_ble_eq_true rfl) dX7_init_65 (fun H locs hP hD hS => ?_)
  have hP : va_P D vwCl [(m0, .inr (7, [.int 0, .ref q_1, .int 0, .ref q_2, .ref q_3, .ref q_4, .ref q_5, .int 0, .int 0, .ref q_6, .int 0, .int 0, .int 0, .int 0, .ref q_7, .int 0, .int 0, .int 0, .int 0, .ref q_8, .null, .null, .int 0, .null, .null, .null, .long 0])), kI cI q_1 16 (fun _ => 0), kI cI q_2 9 (fun _ => 0), kI cI q_3 9 (fun _ => 0), kI cI q_4 9 (fun _ => 0), kI cI q_5 27 (fun _ => 0), kI cI q_6 12 (fun _ => 0), kI cI q_7 5 (fun _ => 0), kI cI q_8 2400 (fun _ => 0)] H := hP
  have hD : va_D A [(m0, .inr (7, [.int 0, .ref q_1, .int 0, .ref q_2, .ref q_3, .ref q_4, .ref q_5, .int 0, .int 0, .ref q_6, .int 0, .int 0, .int 0, .int 0, .ref q_7, .int 0, .int 0, .int 0, .int 0, .ref q_8, .null, .null, .int 0, .null, .null, .null, .long 0])), kI cI q_1 16 (fun _ => 0), kI cI q_2 9 (fun _ => 0), kI cI q_3 9 (fun _ => 0), kI cI q_4 9 (fun _ => 0), kI cI q_5 27 (fun _ => 0), kI cI q_6 12 (fun _ => 0), kI cI q_7 5 (fun _ => 0), kI cI q_8 2400 (fun _ => 0)] := hD
  refine lv_aload_n hx hb dX7_init_68 rfl (lv_at hl 0 rfl) ?_
  refine lv_bipush (v := 32) hx hb dX7_init_69 (by decide) ?_
  refine nw_I (N' := 32) hx hb (hts _ t_35) hK hP hD hS hA (by decide) (by decide) (by decide) (Nat.le_of_ble_eq_true rfl) (Nat.le_of_ble_eq_true rfl) dX7_init_71 (fun q_9 H hP hD hS => ?_)
  have hP : va_P D vwCl [(m0, .inr (7, [.int 0, .ref q_1, .int 0, .ref q_2, .ref q_3, .ref q_4, .ref q_5, .int 0, .int 0, .ref q_6, .int 0, .int 0, .int 0, .int 0, .ref q_7, .int 0, .int 0, .int 0, .int 0, .ref q_8, .null, .null, .int 0, .null, .null, .null, .long 0])), kI cI q_1 16 (fun _ => 0), kI cI q_2 9 (fun _ => 0), kI cI q_3 9 (fun _ => 0), kI cI q_4 9 (fun _ => 0), kI cI q_5 27 (fun _ => 0), kI cI q_6 12 (fun _ => 0), kI cI q_7 5 (fun _ => 0), kI cI q_8 2400 (fun _ => 0), kI cI q_9 32 (fun _ => 0)] H := hP
  have hD : va_D A [(m0, .inr (7, [.int 0, .ref q_1, .int 0, .ref q_2, .ref q_3, .ref q_4, .ref q_5, .int 0, .int 0, .ref q_6, .int 0, .int 0, .int 0, .int 0, .ref q_7, .int 0, .int 0, .int 0, .int 0, .ref q_8, .null, .null, .int 0, .null, .null, .null, .long 0])), kI cI q_1 16 (fun _ => 0), kI cI q_2 9 (fun _ => 0), kI cI q_3 9 (fun _ => 0), kI cI q_4 9 (fun _ => 0), kI cI q_5 27 (fun _ => 0), kI cI q_6 12 (fun _ => 0), kI cI q_7 5 (fun _ => 0), kI cI q_8 2400 (fun _ => 0), kI cI q_9 32 (fun _ => 0)] := hD
  refine W.widen (k := 9) (n := 2519) (Nat.le_of_ble_eq_true rfl) (Nat.le_of_ble_eq_true rfl) ?_
  refine va_putF (D := D) (ci := 7) (v := .ref q_9) (ty := (.array .int)) (C := RX7) (T := TX7) (N := 27) hx hb hts iT_X7 tyX7 tyX7_ok nmX7 hown hK1 hP hD hS 0 rfl rfl 20 (by decide) (hts _ t_571) (fun _ h9 => h9) rfl hin rfl (by decide +kernel) rfl rfl (Nat.le_of_ble_eq_true rfl) dX7_init_73 (fun H locs hP hD hS => ?_)
  have hP : va_P D vwCl [(m0, .inr (7, [.int 0, .ref q_1, .int 0, .ref q_2, .ref q_3, .ref q_4, .ref q_5, .int 0, .int 0, .ref q_6, .int 0, .int 0, .int 0, .int 0, .ref q_7, .int 0, .int 0, .int 0, .int 0, .ref q_8, .ref q_9, .null, .int 0, .null, .null, .null, .long 0])), kI cI q_1 16 (fun _ => 0), kI cI q_2 9 (fun _ => 0), kI cI q_3 9 (fun _ => 0), kI cI q_4 9 (fun _ => 0), kI cI q_5 27 (fun _ => 0), kI cI q_6 12 (fun _ => 0), kI cI q_7 5 (fun _ => 0), kI cI q_8 2400 (fun _ => 0), kI cI q_9 32 (fun _ => 0)] H := hP
  have hD : va_D A [(m0, .inr (7, [.int 0, .ref q_1, .int 0, .ref q_2, .ref q_3, .ref q_4, .ref q_5, .int 0, .int 0, .ref q_6, .int 0, .int 0, .int 0, .int 0, .ref q_7, .int 0, .int 0, .int 0, .int 0, .ref q_8, .ref q_9, .null, .int 0, .null, .null, .null, .long 0])), kI cI q_1 16 (fun _ => 0), kI cI q_2 9 (fun _ => 0), kI cI q_3 9 (fun _ => 0), kI cI q_4 9 (fun _ => 0), kI cI q_5 27 (fun _ => 0), kI cI q_6 12 (fun _ => 0), kI cI q_7 5 (fun _ => 0), kI cI q_8 2400 (fun _ => 0), kI cI q_9 32 (fun _ => 0)] := hD
  refine lv_aload_n hx hb dX7_init_76 rfl (lv_at hl 0 rfl) ?_
  refine lv_iconst (v := 4) hx hb dX7_init_77 (by decide) ?_
  refine nw_I (N' := 4) hx hb (hts _ t_35) hK hP hD hS hA (by decide) (by decide) (by decide) (Nat.le_of_ble_eq_true rfl) (Nat.le_of_ble_eq_true rfl) dX7_init_78 (fun q_10 H hP hD hS => ?_)
  have hP : va_P D vwCl [(m0, .inr (7, [.int 0, .ref q_1, .int 0, .ref q_2, .ref q_3, .ref q_4, .ref q_5, .int 0, .int 0, .ref q_6, .int 0, .int 0, .int 0, .int 0, .ref q_7, .int 0, .int 0, .int 0, .int 0, .ref q_8, .ref q_9, .null, .int 0, .null, .null, .null, .long 0])), kI cI q_1 16 (fun _ => 0), kI cI q_2 9 (fun _ => 0), kI cI q_3 9 (fun _ => 0), kI cI q_4 9 (fun _ => 0), kI cI q_5 27 (fun _ => 0), kI cI q_6 12 (fun _ => 0), kI cI q_7 5 (fun _ => 0), kI cI q_8 2400 (fun _ => 0), kI cI q_9 32 (fun _ => 0), kI cI q_10 4 (fun _ => 0)] H := hP
  have hD : va_D A [(m0, .inr (7, [.int 0, .ref q_1, .int 0, .ref q_2, .ref q_3, .ref q_4, .ref q_5, .int 0, .int 0, .ref q_6, .int 0, .int 0, .int 0, .int 0, .ref q_7, .int 0, .int 0, .int 0, .int 0, .ref q_8, .ref q_9, .null, .int 0, .null, .null, .null, .long 0])), kI cI q_1 16 (fun _ => 0), kI cI q_2 9 (fun _ => 0), kI cI q_3 9 (fun _ => 0), kI cI q_4 9 (fun _ => 0), kI cI q_5 27 (fun _ => 0), kI cI q_6 12 (fun _ => 0), kI cI q_7 5 (fun _ => 0), kI cI q_8 2400 (fun _ => 0), kI cI q_9 32 (fun _ => 0), kI cI q_10 4 (fun _ => 0)] := hD
  refine W.widen (k := 10) (n := 2523) (Nat.le_of_ble_eq_true rfl) (Nat.le_of_ble_eq_true rfl) ?_
  refine va_putF (D := D) (ci := 7) (v := .ref q_10) (ty := (.array .int)) (C := RX7) (T := TX7) (N := 27) hx hb hts iT_X7 tyX7 tyX7_ok nmX7 hown hK1 hP hD hS 0 rfl rfl 21 (by decide) (hts _ t_572) (fun _ h9 => h9) rfl hin rfl (by decide +kernel) rfl rfl (Nat.le_of_ble_eq_true rfl) dX7_init_80 (fun H locs hP hD hS => ?_)
  have hP : va_P D vwCl [(m0, .inr (7, [.int 0, .ref q_1, .int 0, .ref q_2, .ref q_3, .ref q_4, .ref q_5, .int 0, .int 0, .ref q_6, .int 0, .int 0, .int 0, .int 0, .ref q_7, .int 0, .int 0, .int 0, .int 0, .ref q_8, .ref q_9, .ref q_10, .int 0, .null, .null, .null, .long 0])), kI cI q_1 16 (fun _ => 0), kI cI q_2 9 (fun _ => 0), kI cI q_3 9 (fun _ => 0), kI cI q_4 9 (fun _ => 0), kI cI q_5 27 (fun _ => 0), kI cI q_6 12 (fun _ => 0), kI cI q_7 5 (fun _ => 0), kI cI q_8 2400 (fun _ => 0), kI cI q_9 32 (fun _ => 0), kI cI q_10 4 (fun _ => 0)] H := hP
  have hD : va_D A [(m0, .inr (7, [.int 0, .ref q_1, .int 0, .ref q_2, .ref q_3, .ref q_4, .ref q_5, .int 0, .int 0, .ref q_6, .int 0, .int 0, .int 0, .int 0, .ref q_7, .int 0, .int 0, .int 0, .int 0, .ref q_8, .ref q_9, .ref q_10, .int 0, .null, .null, .null, .long 0])), kI cI q_1 16 (fun _ => 0), kI cI q_2 9 (fun _ => 0), kI cI q_3 9 (fun _ => 0), kI cI q_4 9 (fun _ => 0), kI cI q_5 27 (fun _ => 0), kI cI q_6 12 (fun _ => 0), kI cI q_7 5 (fun _ => 0), kI cI q_8 2400 (fun _ => 0), kI cI q_9 32 (fun _ => 0), kI cI q_10 4 (fun _ => 0)] := hD
  refine lv_aload_n hx hb dX7_init_83 rfl (lv_at hl 0 rfl) ?_
  refine lv_bipush (v := 80) hx hb dX7_init_84 (by decide) ?_
  refine nw_J (N' := 80) hx hb (hts _ t_152) hK hP hD hS hA (by decide) (by decide) (by decide) (Nat.le_of_ble_eq_true rfl) (Nat.le_of_ble_eq_true rfl) dX7_init_86 (fun q_11 H hP hD hS => ?_)
  have hP : va_P D vwCl [(m0, .inr (7, [.int 0, .ref q_1, .int 0, .ref q_2, .ref q_3, .ref q_4, .ref q_5, .int 0, .int 0, .ref q_6, .int 0, .int 0, .int 0, .int 0, .ref q_7, .int 0, .int 0, .int 0, .int 0, .ref q_8, .ref q_9, .ref q_10, .int 0, .null, .null, .null, .long 0])), kI cI q_1 16 (fun _ => 0), kI cI q_2 9 (fun _ => 0), kI cI q_3 9 (fun _ => 0), kI cI q_4 9 (fun _ => 0), kI cI q_5 27 (fun _ => 0), kI cI q_6 12 (fun _ => 0), kI cI q_7 5 (fun _ => 0), kI cI q_8 2400 (fun _ => 0), kI cI q_9 32 (fun _ => 0), kI cI q_10 4 (fun _ => 0), kJ cJ q_11 80 (fun _ => 0)] H := hP
  have hD : va_D A [(m0, .inr (7, [.int 0, .ref q_1, .int 0, .ref q_2, .ref q_3, .ref q_4, .ref q_5, .int 0, .int 0, .ref q_6, .int 0, .int 0, .int 0, .int 0, .ref q_7, .int 0, .int 0, .int 0, .int 0, .ref q_8, .ref q_9, .ref q_10, .int 0, .null, .null, .null, .long 0])), kI cI q_1 16 (fun _ => 0), kI cI q_2 9 (fun _ => 0), kI cI q_3 9 (fun _ => 0), kI cI q_4 9 (fun _ => 0), kI cI q_5 27 (fun _ => 0), kI cI q_6 12 (fun _ => 0), kI cI q_7 5 (fun _ => 0), kI cI q_8 2400 (fun _ => 0), kI cI q_9 32 (fun _ => 0), kI cI q_10 4 (fun _ => 0), kJ cJ q_11 80 (fun _ => 0)] := hD
  refine W.widen (k := 11) (n := 2603) (Nat.le_of_ble_eq_true rfl) (Nat.le_of_ble_eq_true rfl) ?_
  refine va_putF (D := D) (ci := 7) (v := .ref q_11) (ty := (.array .long)) (C := RX7) (T := TX7) (N := 27) hx hb hts iT_X7 tyX7 tyX7_ok nmX7 hown hK1 hP hD hS 0 rfl rfl 23 (by decide) (hts _ t_574) (fun _ h9 => h9) rfl hin rfl (by decide +kernel) rfl rfl (Nat.le_of_ble_eq_true rfl) dX7_init_88 (fun H locs hP hD hS => ?_)
  have hP : va_P D vwCl [(m0, .inr (7, [.int 0, .ref q_1, .int 0, .ref q_2, .ref q_3, .ref q_4, .ref q_5, .int 0, .int 0, .ref q_6, .int 0, .int 0, .int 0, .int 0, .ref q_7, .int 0, .int 0, .int 0, .int 0, .ref q_8, .ref q_9, .ref q_10, .int 0, .ref q_11, .null, .null, .long 0])), kI cI q_1 16 (fun _ => 0), kI cI q_2 9 (fun _ => 0), kI cI q_3 9 (fun _ => 0), kI cI q_4 9 (fun _ => 0), kI cI q_5 27 (fun _ => 0), kI cI q_6 12 (fun _ => 0), kI cI q_7 5 (fun _ => 0), kI cI q_8 2400 (fun _ => 0), kI cI q_9 32 (fun _ => 0), kI cI q_10 4 (fun _ => 0), kJ cJ q_11 80 (fun _ => 0)] H := hP
  have hD : va_D A [(m0, .inr (7, [.int 0, .ref q_1, .int 0, .ref q_2, .ref q_3, .ref q_4, .ref q_5, .int 0, .int 0, .ref q_6, .int 0, .int 0, .int 0, .int 0, .ref q_7, .int 0, .int 0, .int 0, .int 0, .ref q_8, .ref q_9, .ref q_10, .int 0, .ref q_11, .null, .null, .long 0])), kI cI q_1 16 (fun _ => 0), kI cI q_2 9 (fun _ => 0), kI cI q_3 9 (fun _ => 0), kI cI q_4 9 (fun _ => 0), kI cI q_5 27 (fun _ => 0), kI cI q_6 12 (fun _ => 0), kI cI q_7 5 (fun _ => 0), kI cI q_8 2400 (fun _ => 0), kI cI q_9 32 (fun _ => 0), kI cI q_10 4 (fun _ => 0), kJ cJ q_11 80 (fun _ => 0)] := hD
  refine lv_aload_n hx hb dX7_init_91 rfl (lv_at hl 0 rfl) ?_
  refine lv_bipush (v := 48) hx hb dX7_init_92 (by decide) ?_
  refine nw_I (N' := 48) hx hb (hts _ t_35) hK hP hD hS hA (by decide) (by decide) (by decide) (Nat.le_of_ble_eq_true rfl) (Nat.le_of_ble_eq_true rfl) dX7_init_94 (fun q_12 H hP hD hS => ?_)
  have hP : va_P D vwCl [(m0, .inr (7, [.int 0, .ref q_1, .int 0, .ref q_2, .ref q_3, .ref q_4, .ref q_5, .int 0, .int 0, .ref q_6, .int 0, .int 0, .int 0, .int 0, .ref q_7, .int 0, .int 0, .int 0, .int 0, .ref q_8, .ref q_9, .ref q_10, .int 0, .ref q_11, .null, .null, .long 0])), kI cI q_1 16 (fun _ => 0), kI cI q_2 9 (fun _ => 0), kI cI q_3 9 (fun _ => 0), kI cI q_4 9 (fun _ => 0), kI cI q_5 27 (fun _ => 0), kI cI q_6 12 (fun _ => 0), kI cI q_7 5 (fun _ => 0), kI cI q_8 2400 (fun _ => 0), kI cI q_9 32 (fun _ => 0), kI cI q_10 4 (fun _ => 0), kJ cJ q_11 80 (fun _ => 0), kI cI q_12 48 (fun _ => 0)] H := hP
  have hD : va_D A [(m0, .inr (7, [.int 0, .ref q_1, .int 0, .ref q_2, .ref q_3, .ref q_4, .ref q_5, .int 0, .int 0, .ref q_6, .int 0, .int 0, .int 0, .int 0, .ref q_7, .int 0, .int 0, .int 0, .int 0, .ref q_8, .ref q_9, .ref q_10, .int 0, .ref q_11, .null, .null, .long 0])), kI cI q_1 16 (fun _ => 0), kI cI q_2 9 (fun _ => 0), kI cI q_3 9 (fun _ => 0), kI cI q_4 9 (fun _ => 0), kI cI q_5 27 (fun _ => 0), kI cI q_6 12 (fun _ => 0), kI cI q_7 5 (fun _ => 0), kI cI q_8 2400 (fun _ => 0), kI cI q_9 32 (fun _ => 0), kI cI q_10 4 (fun _ => 0), kJ cJ q_11 80 (fun _ => 0), kI cI q_12 48 (fun _ => 0)] := hD
  refine W.widen (k := 12) (n := 2651) (Nat.le_of_ble_eq_true rfl) (Nat.le_of_ble_eq_true rfl) ?_
  refine va_putF (D := D) (ci := 7) (v := .ref q_12) (ty := (.array .int)) (C := RX7) (T := TX7) (N := 27) hx hb hts iT_X7 tyX7 tyX7_ok nmX7 hown hK1 hP hD hS 0 rfl rfl 24 (by decide) (hts _ t_575) (fun _ h9 => h9) rfl hin rfl (by decide +kernel) rfl rfl (Nat.le_of_ble_eq_true rfl) dX7_init_96 (fun H locs hP hD hS => ?_)
  have hP : va_P D vwCl [(m0, .inr (7, [.int 0, .ref q_1, .int 0, .ref q_2, .ref q_3, .ref q_4, .ref q_5, .int 0, .int 0, .ref q_6, .int 0, .int 0, .int 0, .int 0, .ref q_7, .int 0, .int 0, .int 0, .int 0, .ref q_8, .ref q_9, .ref q_10, .int 0, .ref q_11, .ref q_12, .null, .long 0])), kI cI q_1 16 (fun _ => 0), kI cI q_2 9 (fun _ => 0), kI cI q_3 9 (fun _ => 0), kI cI q_4 9 (fun _ => 0), kI cI q_5 27 (fun _ => 0), kI cI q_6 12 (fun _ => 0), kI cI q_7 5 (fun _ => 0), kI cI q_8 2400 (fun _ => 0), kI cI q_9 32 (fun _ => 0), kI cI q_10 4 (fun _ => 0), kJ cJ q_11 80 (fun _ => 0), kI cI q_12 48 (fun _ => 0)] H := hP
  have hD : va_D A [(m0, .inr (7, [.int 0, .ref q_1, .int 0, .ref q_2, .ref q_3, .ref q_4, .ref q_5, .int 0, .int 0, .ref q_6, .int 0, .int 0, .int 0, .int 0, .ref q_7, .int 0, .int 0, .int 0, .int 0, .ref q_8, .ref q_9, .ref q_10, .int 0, .ref q_11, .ref q_12, .null, .long 0])), kI cI q_1 16 (fun _ => 0), kI cI q_2 9 (fun _ => 0), kI cI q_3 9 (fun _ => 0), kI cI q_4 9 (fun _ => 0), kI cI q_5 27 (fun _ => 0), kI cI q_6 12 (fun _ => 0), kI cI q_7 5 (fun _ => 0), kI cI q_8 2400 (fun _ => 0), kI cI q_9 32 (fun _ => 0), kI cI q_10 4 (fun _ => 0), kJ cJ q_11 80 (fun _ => 0), kI cI q_12 48 (fun _ => 0)] := hD
  refine lv_aload_n hx hb dX7_init_99 rfl (lv_at hl 0 rfl) ?_
  refine lv_iconst (v := 3) hx hb dX7_init_100 (by decide) ?_
  refine nw_I (N' := 3) hx hb (hts _ t_35) hK hP hD hS hA (by decide) (by decide) (by decide) (Nat.le_of_ble_eq_true rfl) (Nat.le_of_ble_eq_true rfl) dX7_init_101 (fun q_13 H hP hD hS => ?_)
  have hP : va_P D vwCl [(m0, .inr (7, [.int 0, .ref q_1, .int 0, .ref q_2, .ref q_3, .ref q_4, .ref q_5, .int 0, .int 0, .ref q_6, .int 0, .int 0, .int 0, .int 0, .ref q_7, .int 0, .int 0, .int 0, .int 0, .ref q_8, .ref q_9, .ref q_10, .int 0, .ref q_11, .ref q_12, .null, .long 0])), kI cI q_1 16 (fun _ => 0), kI cI q_2 9 (fun _ => 0), kI cI q_3 9 (fun _ => 0), kI cI q_4 9 (fun _ => 0), kI cI q_5 27 (fun _ => 0), kI cI q_6 12 (fun _ => 0), kI cI q_7 5 (fun _ => 0), kI cI q_8 2400 (fun _ => 0), kI cI q_9 32 (fun _ => 0), kI cI q_10 4 (fun _ => 0), kJ cJ q_11 80 (fun _ => 0), kI cI q_12 48 (fun _ => 0), kI cI q_13 3 (fun _ => 0)] H := hP
  have hD : va_D A [(m0, .inr (7, [.int 0, .ref q_1, .int 0, .ref q_2, .ref q_3, .ref q_4, .ref q_5, .int 0, .int 0, .ref q_6, .int 0, .int 0, .int 0, .int 0, .ref q_7, .int 0, .int 0, .int 0, .int 0, .ref q_8, .ref q_9, .ref q_10, .int 0, .ref q_11, .ref q_12, .null, .long 0])), kI cI q_1 16 (fun _ => 0), kI cI q_2 9 (fun _ => 0), kI cI q_3 9 (fun _ => 0), kI cI q_4 9 (fun _ => 0), kI cI q_5 27 (fun _ => 0), kI cI q_6 12 (fun _ => 0), kI cI q_7 5 (fun _ => 0), kI cI q_8 2400 (fun _ => 0), kI cI q_9 32 (fun _ => 0), kI cI q_10 4 (fun _ => 0), kJ cJ q_11 80 (fun _ => 0), kI cI q_12 48 (fun _ => 0), kI cI q_13 3 (fun _ => 0)] := hD
  refine W.widen (k := 13) (n := 2654) (Nat.le_of_ble_eq_true rfl) (Nat.le_of_ble_eq_true rfl) ?_
  refine va_putF (D := D) (ci := 7) (v := .ref q_13) (ty := (.array .int)) (C := RX7) (T := TX7) (N := 27) hx hb hts iT_X7 tyX7 tyX7_ok nmX7 hown hK1 hP hD hS 0 rfl rfl 25 (by decide) (hts _ t_576) (fun _ h9 => h9) rfl hin rfl (by decide +kernel) rfl rfl (Nat.le_of_ble_eq_true rfl) dX7_init_103 (fun H locs hP hD hS => ?_)
  have hP : va_P D vwCl [kX7 m0 0 q_1 0 q_2 q_3 q_4 q_5 0 0 q_6 0 0 0 0 q_7 0 0 0 0 q_8 q_9 q_10 0 q_11 q_12 q_13 0, kI cI q_1 16 (fun _ => 0), kI cI q_2 9 (fun _ => 0), kI cI q_3 9 (fun _ => 0), kI cI q_4 9 (fun _ => 0), kI cI q_5 27 (fun _ => 0), kI cI q_6 12 (fun _ => 0), kI cI q_7 5 (fun _ => 0), kI cI q_8 2400 (fun _ => 0), kI cI q_9 32 (fun _ => 0), kI cI q_10 4 (fun _ => 0), kJ cJ q_11 80 (fun _ => 0), kI cI q_12 48 (fun _ => 0), kI cI q_13 3 (fun _ => 0)] H := hP
  have hD : va_D A [kX7 m0 0 q_1 0 q_2 q_3 q_4 q_5 0 0 q_6 0 0 0 0 q_7 0 0 0 0 q_8 q_9 q_10 0 q_11 q_12 q_13 0, kI cI q_1 16 (fun _ => 0), kI cI q_2 9 (fun _ => 0), kI cI q_3 9 (fun _ => 0), kI cI q_4 9 (fun _ => 0), kI cI q_5 27 (fun _ => 0), kI cI q_6 12 (fun _ => 0), kI cI q_7 5 (fun _ => 0), kI cI q_8 2400 (fun _ => 0), kI cI q_9 32 (fun _ => 0), kI cI q_10 4 (fun _ => 0), kJ cJ q_11 80 (fun _ => 0), kI cI q_12 48 (fun _ => 0), kI cI q_13 3 (fun _ => 0)] := hD
  exact hret _ _ _ _ _ _ (q_1, q_2, q_3, q_4, q_5, q_6, q_7, q_8, q_9, q_10, q_11, q_12, q_13) dX7_init_106 hS (Nat.le_of_ble_eq_true rfl) (Nat.le_of_ble_eq_true rfl) trivial (hP.sub [0, 1, 2, 3, 4, 5, 6, 7, 8, 9, 10, 11, 12, 13] rfl) (hD.sub [0, 1, 2, 3, 4, 5, 6, 7, 8, 9, 10, 11, 12, 13] rfl rfl)
end
