theorem sub_1 {w : Cond} (h : w ∈ tables_1_1) : w ∈ tables_1 := List.mem_append_left _ h
theorem sub_2 {w : Cond} (h : w ∈ tables_1_2) : w ∈ tables_1 := List.mem_append_right _ (List.mem_append_left _ h)
theorem sub_3 {w : Cond} (h : w ∈ tables_1_3) : w ∈ tables_1 := List.mem_append_right _ (List.mem_append_right _ (List.mem_append_left _ h))
theorem sub_4 {w : Cond} (h : w ∈ tables_1_4) : w ∈ tables_1 := List.mem_append_right _ (List.mem_append_right _ (List.mem_append_right _ (h)))
def wc_1 : List Cond := [Cond.initialized RL, Cond.initialized RX6, Cond.initialized RX3, Cond.initialized RX5, Cond.initialized RX4, Cond.initialized RX0, Cond.initialized RX2, Cond.initialized RX1, Cond.initialized RX7, Cond.initialized RJ9, Cond.initialized RJ7, Cond.initialized RJ6, Cond.classLink RL 7 RX6, Cond.instantiable RX6 10, Cond.methodLink RL 9 yX6_init, Cond.instanceMethod yX6_init, Cond.code yX6_init cX6_init 1 none, Cond.methodLink RX6 1 objectInit, Cond.instanceMethod objectInit, Cond.code objectInit ⟨#[0xb1]⟩ 1 none, Cond.classLink RX6 7 RX3, Cond.instantiable RX3 2, Cond.instanceMethod yX3_init]
theorem wk_1 : ∀ w ∈ wc_1, w ∈ gT := fun w h => by
  have hp : wc_1 = ([0, 1, 2, 3, 4, 5, 6, 7, 8, 9, 10, 11, 12, 13, 14, 15, 16, 17, 18, 19, 20, 21, 23] : List Nat).filterMap (fun i => ((tables_1_1.drop 0).take 24)[i]?) := by decide +kernel
  have hg : wc_1.all goodWord = true := by decide +kernel
  have h2 := h
  rw [hp] at h2
  obtain ⟨i, -, hi⟩ := List.mem_filterMap.mp h2
  exact gT_tab (sub_1 (List.mem_of_mem_drop (List.mem_of_mem_take (List.mem_of_getElem? hi)))) (List.all_eq_true.mp hg w h)
theorem t_0 : Cond.initialized RL ∈ gT := wk_1 _ (List.mem_of_getElem? (i := 0) rfl)
theorem t_1 : Cond.initialized RX6 ∈ gT := wk_1 _ (List.mem_of_getElem? (i := 1) rfl)
theorem t_2 : Cond.initialized RX3 ∈ gT := wk_1 _ (List.mem_of_getElem? (i := 2) rfl)
theorem t_3 : Cond.initialized RX5 ∈ gT := wk_1 _ (List.mem_of_getElem? (i := 3) rfl)
theorem t_4 : Cond.initialized RX4 ∈ gT := wk_1 _ (List.mem_of_getElem? (i := 4) rfl)
theorem t_5 : Cond.initialized RX0 ∈ gT := wk_1 _ (List.mem_of_getElem? (i := 5) rfl)
theorem t_6 : Cond.initialized RX2 ∈ gT := wk_1 _ (List.mem_of_getElem? (i := 6) rfl)
theorem t_7 : Cond.initialized RX1 ∈ gT := wk_1 _ (List.mem_of_getElem? (i := 7) rfl)
theorem t_8 : Cond.initialized RX7 ∈ gT := wk_1 _ (List.mem_of_getElem? (i := 8) rfl)
theorem t_9 : Cond.initialized RJ9 ∈ gT := wk_1 _ (List.mem_of_getElem? (i := 9) rfl)
theorem t_10 : Cond.initialized RJ7 ∈ gT := wk_1 _ (List.mem_of_getElem? (i := 10) rfl)
theorem t_11 : Cond.initialized RJ6 ∈ gT := wk_1 _ (List.mem_of_getElem? (i := 11) rfl)
theorem t_12 : Cond.classLink RL 7 RX6 ∈ gT := wk_1 _ (List.mem_of_getElem? (i := 12) rfl)
theorem t_13 : Cond.instantiable RX6 10 ∈ gT := wk_1 _ (List.mem_of_getElem? (i := 13) rfl)
theorem t_14 : Cond.methodLink RL 9 yX6_init ∈ gT := wk_1 _ (List.mem_of_getElem? (i := 14) rfl)
theorem t_15 : Cond.instanceMethod yX6_init ∈ gT := wk_1 _ (List.mem_of_getElem? (i := 15) rfl)
theorem t_16 : Cond.code yX6_init cX6_init 1 none ∈ gT := wk_1 _ (List.mem_of_getElem? (i := 16) rfl)
theorem t_17 : Cond.methodLink RX6 1 objectInit ∈ gT := wk_1 _ (List.mem_of_getElem? (i := 17) rfl)
theorem t_18 : Cond.instanceMethod objectInit ∈ gT := wk_1 _ (List.mem_of_getElem? (i := 18) rfl)
theorem t_19 : Cond.code objectInit ⟨#[0xb1]⟩ 1 none ∈ gT := wk_1 _ (List.mem_of_getElem? (i := 19) rfl)
theorem t_20 : Cond.classLink RX6 7 RX3 ∈ gT := wk_1 _ (List.mem_of_getElem? (i := 20) rfl)
theorem t_21 : Cond.instantiable RX3 2 ∈ gT := wk_1 _ (List.mem_of_getElem? (i := 21) rfl)
theorem t_23 : Cond.instanceMethod yX3_init ∈ gT := wk_1 _ (List.mem_of_getElem? (i := 22) rfl)
def wc_2 : List Cond := [Cond.code yX3_init cX3_init 1 none, Cond.methodLink RX3 3 objectInit, Cond.fieldLink RX3 9 "GrownGraphs$Page" "codes" "[I", Cond.fieldLink RX6 198 "GrownGraphs$Page" "codes" "[I", Cond.fieldLink RX3 15 "GrownGraphs$Page" "size" "I", Cond.fieldLink RX6 63 "GrownGraphs$Page" "size" "I", Cond.arrayClass .int, Cond.classLink RX6 16 RX5, Cond.instantiable RX5 2, Cond.methodLink RX6 18 yX5_init, Cond.instanceMethod yX5_init, Cond.code yX5_init cX5_init 2 none, Cond.methodLink RX5 3 objectInit, Cond.classLink RX5 9 RX4, Cond.instantiable RX4 5, Cond.instanceMethod yX4_init, Cond.code yX4_init cX4_init 1 none]
theorem wk_2 : ∀ w ∈ wc_2, w ∈ gT := fun w h => by
  have hp : wc_2 = ([0, 1, 2, 3, 4, 5, 11, 12, 13, 14, 15, 16, 17, 18, 20, 22, 23] : List Nat).filterMap (fun i => ((tables_1_1.drop 24).take 24)[i]?) := by decide +kernel
  have hg : wc_2.all goodWord = true := by decide +kernel
  have h2 := h
  rw [hp] at h2
  obtain ⟨i, -, hi⟩ := List.mem_filterMap.mp h2
  exact gT_tab (sub_1 (List.mem_of_mem_drop (List.mem_of_mem_take (List.mem_of_getElem? hi)))) (List.all_eq_true.mp hg w h)
theorem t_24 : Cond.code yX3_init cX3_init 1 none ∈ gT := wk_2 _ (List.mem_of_getElem? (i := 0) rfl)
theorem t_25 : Cond.methodLink RX3 3 objectInit ∈ gT := wk_2 _ (List.mem_of_getElem? (i := 1) rfl)
theorem t_26 : Cond.fieldLink RX3 9 "GrownGraphs$Page" "codes" "[I" ∈ gT := wk_2 _ (List.mem_of_getElem? (i := 2) rfl)
theorem t_27 : Cond.fieldLink RX6 198 "GrownGraphs$Page" "codes" "[I" ∈ gT := wk_2 _ (List.mem_of_getElem? (i := 3) rfl)
theorem t_28 : Cond.fieldLink RX3 15 "GrownGraphs$Page" "size" "I" ∈ gT := wk_2 _ (List.mem_of_getElem? (i := 4) rfl)
theorem t_29 : Cond.fieldLink RX6 63 "GrownGraphs$Page" "size" "I" ∈ gT := wk_2 _ (List.mem_of_getElem? (i := 5) rfl)
theorem t_35 : Cond.arrayClass .int ∈ gT := wk_2 _ (List.mem_of_getElem? (i := 6) rfl)
theorem t_36 : Cond.classLink RX6 16 RX5 ∈ gT := wk_2 _ (List.mem_of_getElem? (i := 7) rfl)
theorem t_37 : Cond.instantiable RX5 2 ∈ gT := wk_2 _ (List.mem_of_getElem? (i := 8) rfl)
theorem t_38 : Cond.methodLink RX6 18 yX5_init ∈ gT := wk_2 _ (List.mem_of_getElem? (i := 9) rfl)
theorem t_39 : Cond.instanceMethod yX5_init ∈ gT := wk_2 _ (List.mem_of_getElem? (i := 10) rfl)
theorem t_40 : Cond.code yX5_init cX5_init 2 none ∈ gT := wk_2 _ (List.mem_of_getElem? (i := 11) rfl)
theorem t_41 : Cond.methodLink RX5 3 objectInit ∈ gT := wk_2 _ (List.mem_of_getElem? (i := 12) rfl)
theorem t_42 : Cond.classLink RX5 9 RX4 ∈ gT := wk_2 _ (List.mem_of_getElem? (i := 13) rfl)
theorem t_44 : Cond.instantiable RX4 5 ∈ gT := wk_2 _ (List.mem_of_getElem? (i := 14) rfl)
theorem t_46 : Cond.instanceMethod yX4_init ∈ gT := wk_2 _ (List.mem_of_getElem? (i := 15) rfl)
theorem t_47 : Cond.code yX4_init cX4_init 1 none ∈ gT := wk_2 _ (List.mem_of_getElem? (i := 16) rfl)
def wc_3 : List Cond := [Cond.methodLink RX4 3 objectInit, Cond.classLink RX4 15 RX0, Cond.instantiable RX0 5, Cond.methodLink RX4 17 yX0_init, Cond.instanceMethod yX0_init, Cond.code yX0_init cX0_init 2 none, Cond.methodLink RX0 3 objectInit, Cond.fieldLink RX0 18 "GrownGraphs$Figure" "letters" "[I", Cond.fieldLink RX4 48 "GrownGraphs$Figure" "letters" "[I", Cond.fieldLink RX6 132 "GrownGraphs$Figure" "letters" "[I", Cond.fieldLink RX0 22 "GrownGraphs$Figure" "from" "[I", Cond.fieldLink RX2 96 "GrownGraphs$Figure" "from" "[I", Cond.fieldLink RX0 25 "GrownGraphs$Figure" "to" "[I", Cond.fieldLink RX2 99 "GrownGraphs$Figure" "to" "[I", Cond.fieldLink RX0 9 "GrownGraphs$Figure" "size" "I", Cond.fieldLink RX2 18 "GrownGraphs$Figure" "size" "I", Cond.fieldLink RX6 102 "GrownGraphs$Figure" "size" "I", Cond.fieldLink RX0 15 "GrownGraphs$Figure" "nodes" "I", Cond.fieldLink RX2 35 "GrownGraphs$Figure" "nodes" "I", Cond.fieldLink RX6 115 "GrownGraphs$Figure" "nodes" "I"]
theorem wk_3 : ∀ w ∈ wc_3, w ∈ gT := fun w h => by
  have hp : wc_3 = ([0, 1, 2, 3, 4, 5, 6, 7, 8, 9, 10, 11, 12, 13, 14, 15, 16, 17, 18, 19] : List Nat).filterMap (fun i => ((tables_1_1.drop 48).take 24)[i]?) := by decide +kernel
  have hg : wc_3.all goodWord = true := by decide +kernel
  have h2 := h
  rw [hp] at h2
  obtain ⟨i, -, hi⟩ := List.mem_filterMap.mp h2
  exact gT_tab (sub_1 (List.mem_of_mem_drop (List.mem_of_mem_take (List.mem_of_getElem? hi)))) (List.all_eq_true.mp hg w h)
theorem t_48 : Cond.methodLink RX4 3 objectInit ∈ gT := wk_3 _ (List.mem_of_getElem? (i := 0) rfl)
theorem t_49 : Cond.classLink RX4 15 RX0 ∈ gT := wk_3 _ (List.mem_of_getElem? (i := 1) rfl)
theorem t_50 : Cond.instantiable RX0 5 ∈ gT := wk_3 _ (List.mem_of_getElem? (i := 2) rfl)
theorem t_51 : Cond.methodLink RX4 17 yX0_init ∈ gT := wk_3 _ (List.mem_of_getElem? (i := 3) rfl)
theorem t_52 : Cond.instanceMethod yX0_init ∈ gT := wk_3 _ (List.mem_of_getElem? (i := 4) rfl)
theorem t_53 : Cond.code yX0_init cX0_init 2 none ∈ gT := wk_3 _ (List.mem_of_getElem? (i := 5) rfl)
theorem t_54 : Cond.methodLink RX0 3 objectInit ∈ gT := wk_3 _ (List.mem_of_getElem? (i := 6) rfl)
theorem t_55 : Cond.fieldLink RX0 18 "GrownGraphs$Figure" "letters" "[I" ∈ gT := wk_3 _ (List.mem_of_getElem? (i := 7) rfl)
theorem t_56 : Cond.fieldLink RX4 48 "GrownGraphs$Figure" "letters" "[I" ∈ gT := wk_3 _ (List.mem_of_getElem? (i := 8) rfl)
theorem t_57 : Cond.fieldLink RX6 132 "GrownGraphs$Figure" "letters" "[I" ∈ gT := wk_3 _ (List.mem_of_getElem? (i := 9) rfl)
theorem t_58 : Cond.fieldLink RX0 22 "GrownGraphs$Figure" "from" "[I" ∈ gT := wk_3 _ (List.mem_of_getElem? (i := 10) rfl)
theorem t_59 : Cond.fieldLink RX2 96 "GrownGraphs$Figure" "from" "[I" ∈ gT := wk_3 _ (List.mem_of_getElem? (i := 11) rfl)
theorem t_60 : Cond.fieldLink RX0 25 "GrownGraphs$Figure" "to" "[I" ∈ gT := wk_3 _ (List.mem_of_getElem? (i := 12) rfl)
theorem t_61 : Cond.fieldLink RX2 99 "GrownGraphs$Figure" "to" "[I" ∈ gT := wk_3 _ (List.mem_of_getElem? (i := 13) rfl)
theorem t_62 : Cond.fieldLink RX0 9 "GrownGraphs$Figure" "size" "I" ∈ gT := wk_3 _ (List.mem_of_getElem? (i := 14) rfl)
theorem t_63 : Cond.fieldLink RX2 18 "GrownGraphs$Figure" "size" "I" ∈ gT := wk_3 _ (List.mem_of_getElem? (i := 15) rfl)
theorem t_64 : Cond.fieldLink RX6 102 "GrownGraphs$Figure" "size" "I" ∈ gT := wk_3 _ (List.mem_of_getElem? (i := 16) rfl)
theorem t_65 : Cond.fieldLink RX0 15 "GrownGraphs$Figure" "nodes" "I" ∈ gT := wk_3 _ (List.mem_of_getElem? (i := 17) rfl)
theorem t_66 : Cond.fieldLink RX2 35 "GrownGraphs$Figure" "nodes" "I" ∈ gT := wk_3 _ (List.mem_of_getElem? (i := 18) rfl)
theorem t_67 : Cond.fieldLink RX6 115 "GrownGraphs$Figure" "nodes" "I" ∈ gT := wk_3 _ (List.mem_of_getElem? (i := 19) rfl)
def wc_4 : List Cond := [Cond.fieldLink RX4 9 "GrownGraphs$Rule" "open" "I", Cond.fieldLink RX2 65 "GrownGraphs$Rule" "open" "I", Cond.fieldLink RX6 107 "GrownGraphs$Rule" "open" "I", Cond.fieldLink RX1 102 "GrownGraphs$Rule" "open" "I", Cond.fieldLink RX4 20 "GrownGraphs$Rule" "body" "LGrownGraphs$Figure;", Cond.fieldLink RX2 59 "GrownGraphs$Rule" "body" "LGrownGraphs$Figure;", Cond.fieldLink RX6 112 "GrownGraphs$Rule" "body" "LGrownGraphs$Figure;", Cond.fieldLink RX4 24 "GrownGraphs$Rule" "slots" "[I", Cond.fieldLink RX2 93 "GrownGraphs$Rule" "slots" "[I", Cond.fieldLink RX1 83 "GrownGraphs$Rule" "slots" "[I", Cond.fieldLink RX4 28 "GrownGraphs$Rule" "ways" "[I", Cond.fieldLink RX4 31 "GrownGraphs$Rule" "hues" "[I"]
theorem wk_4 : ∀ w ∈ wc_4, w ∈ gT := fun w h => by
  have hp : wc_4 = ([7, 8, 9, 10, 11, 12, 13, 14, 15, 16, 17, 18] : List Nat).filterMap (fun i => ((tables_1_1.drop 72).take 24)[i]?) := by decide +kernel
  have hg : wc_4.all goodWord = true := by decide +kernel
  have h2 := h
  rw [hp] at h2
  obtain ⟨i, -, hi⟩ := List.mem_filterMap.mp h2
  exact gT_tab (sub_1 (List.mem_of_mem_drop (List.mem_of_mem_take (List.mem_of_getElem? hi)))) (List.all_eq_true.mp hg w h)
theorem t_79 : Cond.fieldLink RX4 9 "GrownGraphs$Rule" "open" "I" ∈ gT := wk_4 _ (List.mem_of_getElem? (i := 0) rfl)
theorem t_80 : Cond.fieldLink RX2 65 "GrownGraphs$Rule" "open" "I" ∈ gT := wk_4 _ (List.mem_of_getElem? (i := 1) rfl)
theorem t_81 : Cond.fieldLink RX6 107 "GrownGraphs$Rule" "open" "I" ∈ gT := wk_4 _ (List.mem_of_getElem? (i := 2) rfl)
theorem t_82 : Cond.fieldLink RX1 102 "GrownGraphs$Rule" "open" "I" ∈ gT := wk_4 _ (List.mem_of_getElem? (i := 3) rfl)
theorem t_83 : Cond.fieldLink RX4 20 "GrownGraphs$Rule" "body" "LGrownGraphs$Figure;" ∈ gT := wk_4 _ (List.mem_of_getElem? (i := 4) rfl)
theorem t_84 : Cond.fieldLink RX2 59 "GrownGraphs$Rule" "body" "LGrownGraphs$Figure;" ∈ gT := wk_4 _ (List.mem_of_getElem? (i := 5) rfl)
theorem t_85 : Cond.fieldLink RX6 112 "GrownGraphs$Rule" "body" "LGrownGraphs$Figure;" ∈ gT := wk_4 _ (List.mem_of_getElem? (i := 6) rfl)
theorem t_86 : Cond.fieldLink RX4 24 "GrownGraphs$Rule" "slots" "[I" ∈ gT := wk_4 _ (List.mem_of_getElem? (i := 7) rfl)
theorem t_87 : Cond.fieldLink RX2 93 "GrownGraphs$Rule" "slots" "[I" ∈ gT := wk_4 _ (List.mem_of_getElem? (i := 8) rfl)
theorem t_88 : Cond.fieldLink RX1 83 "GrownGraphs$Rule" "slots" "[I" ∈ gT := wk_4 _ (List.mem_of_getElem? (i := 9) rfl)
theorem t_89 : Cond.fieldLink RX4 28 "GrownGraphs$Rule" "ways" "[I" ∈ gT := wk_4 _ (List.mem_of_getElem? (i := 10) rfl)
theorem t_90 : Cond.fieldLink RX4 31 "GrownGraphs$Rule" "hues" "[I" ∈ gT := wk_4 _ (List.mem_of_getElem? (i := 11) rfl)
def wc_5 : List Cond := [Cond.fieldLink RX5 11 "GrownGraphs$RuleBook" "rules" "[LGrownGraphs$Rule;", Cond.fieldLink RX1 66 "GrownGraphs$RuleBook" "rules" "[LGrownGraphs$Rule;", Cond.fieldLink RX2 55 "GrownGraphs$RuleBook" "rules" "[LGrownGraphs$Rule;", Cond.fieldLink RX6 103 "GrownGraphs$RuleBook" "rules" "[LGrownGraphs$Rule;", Cond.fieldLink RX5 17 "GrownGraphs$RuleBook" "size" "I", Cond.fieldLink RX6 80 "GrownGraphs$RuleBook" "size" "I", Cond.fieldLink RX1 60 "GrownGraphs$RuleBook" "size" "I", Cond.fieldLink RX2 52 "GrownGraphs$RuleBook" "size" "I", Cond.classLink RX6 23 RX0, Cond.methodLink RX6 25 yX0_init, Cond.classLink RX6 32 RX2, Cond.instantiable RX2 2]
theorem wk_5 : ∀ w ∈ wc_5, w ∈ gT := fun w h => by
  have hp : wc_5 = ([6, 7, 8, 9, 10, 11, 12, 13, 19, 20, 21, 22] : List Nat).filterMap (fun i => ((tables_1_1.drop 96).take 24)[i]?) := by decide +kernel
  have hg : wc_5.all goodWord = true := by decide +kernel
  have h2 := h
  rw [hp] at h2
  obtain ⟨i, -, hi⟩ := List.mem_filterMap.mp h2
  exact gT_tab (sub_1 (List.mem_of_mem_drop (List.mem_of_mem_take (List.mem_of_getElem? hi)))) (List.all_eq_true.mp hg w h)
theorem t_102 : Cond.fieldLink RX5 11 "GrownGraphs$RuleBook" "rules" "[LGrownGraphs$Rule;" ∈ gT := wk_5 _ (List.mem_of_getElem? (i := 0) rfl)
theorem t_103 : Cond.fieldLink RX1 66 "GrownGraphs$RuleBook" "rules" "[LGrownGraphs$Rule;" ∈ gT := wk_5 _ (List.mem_of_getElem? (i := 1) rfl)
theorem t_104 : Cond.fieldLink RX2 55 "GrownGraphs$RuleBook" "rules" "[LGrownGraphs$Rule;" ∈ gT := wk_5 _ (List.mem_of_getElem? (i := 2) rfl)
theorem t_105 : Cond.fieldLink RX6 103 "GrownGraphs$RuleBook" "rules" "[LGrownGraphs$Rule;" ∈ gT := wk_5 _ (List.mem_of_getElem? (i := 3) rfl)
theorem t_106 : Cond.fieldLink RX5 17 "GrownGraphs$RuleBook" "size" "I" ∈ gT := wk_5 _ (List.mem_of_getElem? (i := 4) rfl)
theorem t_107 : Cond.fieldLink RX6 80 "GrownGraphs$RuleBook" "size" "I" ∈ gT := wk_5 _ (List.mem_of_getElem? (i := 5) rfl)
theorem t_108 : Cond.fieldLink RX1 60 "GrownGraphs$RuleBook" "size" "I" ∈ gT := wk_5 _ (List.mem_of_getElem? (i := 6) rfl)
theorem t_109 : Cond.fieldLink RX2 52 "GrownGraphs$RuleBook" "size" "I" ∈ gT := wk_5 _ (List.mem_of_getElem? (i := 7) rfl)
theorem t_115 : Cond.classLink RX6 23 RX0 ∈ gT := wk_5 _ (List.mem_of_getElem? (i := 8) rfl)
theorem t_116 : Cond.methodLink RX6 25 yX0_init ∈ gT := wk_5 _ (List.mem_of_getElem? (i := 9) rfl)
theorem t_117 : Cond.classLink RX6 32 RX2 ∈ gT := wk_5 _ (List.mem_of_getElem? (i := 10) rfl)
theorem t_118 : Cond.instantiable RX2 2 ∈ gT := wk_5 _ (List.mem_of_getElem? (i := 11) rfl)
def wc_6 : List Cond := [Cond.instanceMethod yX2_init, Cond.code yX2_init cX2_init 1 none, Cond.methodLink RX2 3 objectInit, Cond.fieldLink RX2 11 "GrownGraphs$Origins" "steps" "[I", Cond.fieldLink RX2 15 "GrownGraphs$Origins" "stand" "[I", Cond.classLink RX6 39 RX1, Cond.instantiable RX1 5, Cond.instanceMethod yX1_init, Cond.code yX1_init cX1_init 1 none, Cond.methodLink RX1 3 objectInit, Cond.fieldLink RX1 11 "GrownGraphs$Lights" "steps" "[J", Cond.fieldLink RX1 15 "GrownGraphs$Lights" "firsts" "[I", Cond.fieldLink RX1 19 "GrownGraphs$Lights" "settled" "[Z", Cond.fieldLink RX1 23 "GrownGraphs$Lights" "settledKinds" "[I", Cond.fieldLink RX1 26 "GrownGraphs$Lights" "settledCount" "[I"]
theorem wk_6 : ∀ w ∈ wc_6, w ∈ gT := fun w h => by
  have hp : wc_6 = ([0, 1, 2, 3, 4, 10, 11, 13, 14, 15, 16, 17, 18, 19, 20] : List Nat).filterMap (fun i => ((tables_1_1.drop 120).take 24)[i]?) := by decide +kernel
  have hg : wc_6.all goodWord = true := by decide +kernel
  have h2 := h
  rw [hp] at h2
  obtain ⟨i, -, hi⟩ := List.mem_filterMap.mp h2
  exact gT_tab (sub_1 (List.mem_of_mem_drop (List.mem_of_mem_take (List.mem_of_getElem? hi)))) (List.all_eq_true.mp hg w h)
theorem t_120 : Cond.instanceMethod yX2_init ∈ gT := wk_6 _ (List.mem_of_getElem? (i := 0) rfl)
theorem t_121 : Cond.code yX2_init cX2_init 1 none ∈ gT := wk_6 _ (List.mem_of_getElem? (i := 1) rfl)
theorem t_122 : Cond.methodLink RX2 3 objectInit ∈ gT := wk_6 _ (List.mem_of_getElem? (i := 2) rfl)
theorem t_123 : Cond.fieldLink RX2 11 "GrownGraphs$Origins" "steps" "[I" ∈ gT := wk_6 _ (List.mem_of_getElem? (i := 3) rfl)
theorem t_124 : Cond.fieldLink RX2 15 "GrownGraphs$Origins" "stand" "[I" ∈ gT := wk_6 _ (List.mem_of_getElem? (i := 4) rfl)
theorem t_130 : Cond.classLink RX6 39 RX1 ∈ gT := wk_6 _ (List.mem_of_getElem? (i := 5) rfl)
theorem t_131 : Cond.instantiable RX1 5 ∈ gT := wk_6 _ (List.mem_of_getElem? (i := 6) rfl)
theorem t_133 : Cond.instanceMethod yX1_init ∈ gT := wk_6 _ (List.mem_of_getElem? (i := 7) rfl)
theorem t_134 : Cond.code yX1_init cX1_init 1 none ∈ gT := wk_6 _ (List.mem_of_getElem? (i := 8) rfl)
theorem t_135 : Cond.methodLink RX1 3 objectInit ∈ gT := wk_6 _ (List.mem_of_getElem? (i := 9) rfl)
theorem t_136 : Cond.fieldLink RX1 11 "GrownGraphs$Lights" "steps" "[J" ∈ gT := wk_6 _ (List.mem_of_getElem? (i := 10) rfl)
theorem t_137 : Cond.fieldLink RX1 15 "GrownGraphs$Lights" "firsts" "[I" ∈ gT := wk_6 _ (List.mem_of_getElem? (i := 11) rfl)
theorem t_138 : Cond.fieldLink RX1 19 "GrownGraphs$Lights" "settled" "[Z" ∈ gT := wk_6 _ (List.mem_of_getElem? (i := 12) rfl)
theorem t_139 : Cond.fieldLink RX1 23 "GrownGraphs$Lights" "settledKinds" "[I" ∈ gT := wk_6 _ (List.mem_of_getElem? (i := 13) rfl)
theorem t_140 : Cond.fieldLink RX1 26 "GrownGraphs$Lights" "settledCount" "[I" ∈ gT := wk_6 _ (List.mem_of_getElem? (i := 14) rfl)
def wc_7 : List Cond := [Cond.arrayClass .long, Cond.arrayClass .boolean, Cond.fieldLink RX6 10 "GrownGraphs" "page" "LGrownGraphs$Page;", Cond.fieldLink RX6 19 "GrownGraphs" "book" "LGrownGraphs$RuleBook;", Cond.fieldLink RX6 28 "GrownGraphs" "figure" "LGrownGraphs$Figure;", Cond.fieldLink RX6 35 "GrownGraphs" "origins" "LGrownGraphs$Origins;", Cond.fieldLink RX6 42 "GrownGraphs" "lights" "LGrownGraphs$Lights;", Cond.fieldLink RX6 46 "GrownGraphs" "originsStand" "Z", Cond.fieldLink RX6 50 "GrownGraphs" "lightsStand" "Z", Cond.fieldLink RX6 53 "GrownGraphs" "stepsSinceBegin" "I", Cond.fieldLink RX6 57 "GrownGraphs" "stepsEver" "I", Cond.fieldLink RX6 60 "GrownGraphs" "graphsEver" "I"]
theorem wk_7 : ∀ w ∈ wc_7, w ∈ gT := fun w h => by
  have hp : wc_7 = ([8, 9, 10, 11, 12, 13, 14, 15, 16, 17, 18, 19] : List Nat).filterMap (fun i => ((tables_1_1.drop 144).take 24)[i]?) := by decide +kernel
  have hg : wc_7.all goodWord = true := by decide +kernel
  have h2 := h
  rw [hp] at h2
  obtain ⟨i, -, hi⟩ := List.mem_filterMap.mp h2
  exact gT_tab (sub_1 (List.mem_of_mem_drop (List.mem_of_mem_take (List.mem_of_getElem? hi)))) (List.all_eq_true.mp hg w h)
theorem t_152 : Cond.arrayClass .long ∈ gT := wk_7 _ (List.mem_of_getElem? (i := 0) rfl)
theorem t_153 : Cond.arrayClass .boolean ∈ gT := wk_7 _ (List.mem_of_getElem? (i := 1) rfl)
theorem t_154 : Cond.fieldLink RX6 10 "GrownGraphs" "page" "LGrownGraphs$Page;" ∈ gT := wk_7 _ (List.mem_of_getElem? (i := 2) rfl)
theorem t_155 : Cond.fieldLink RX6 19 "GrownGraphs" "book" "LGrownGraphs$RuleBook;" ∈ gT := wk_7 _ (List.mem_of_getElem? (i := 3) rfl)
theorem t_156 : Cond.fieldLink RX6 28 "GrownGraphs" "figure" "LGrownGraphs$Figure;" ∈ gT := wk_7 _ (List.mem_of_getElem? (i := 4) rfl)
theorem t_157 : Cond.fieldLink RX6 35 "GrownGraphs" "origins" "LGrownGraphs$Origins;" ∈ gT := wk_7 _ (List.mem_of_getElem? (i := 5) rfl)
theorem t_158 : Cond.fieldLink RX6 42 "GrownGraphs" "lights" "LGrownGraphs$Lights;" ∈ gT := wk_7 _ (List.mem_of_getElem? (i := 6) rfl)
theorem t_159 : Cond.fieldLink RX6 46 "GrownGraphs" "originsStand" "Z" ∈ gT := wk_7 _ (List.mem_of_getElem? (i := 7) rfl)
theorem t_160 : Cond.fieldLink RX6 50 "GrownGraphs" "lightsStand" "Z" ∈ gT := wk_7 _ (List.mem_of_getElem? (i := 8) rfl)
theorem t_161 : Cond.fieldLink RX6 53 "GrownGraphs" "stepsSinceBegin" "I" ∈ gT := wk_7 _ (List.mem_of_getElem? (i := 9) rfl)
theorem t_162 : Cond.fieldLink RX6 57 "GrownGraphs" "stepsEver" "I" ∈ gT := wk_7 _ (List.mem_of_getElem? (i := 10) rfl)
theorem t_163 : Cond.fieldLink RX6 60 "GrownGraphs" "graphsEver" "I" ∈ gT := wk_7 _ (List.mem_of_getElem? (i := 11) rfl)
def wc_8 : List Cond := [Cond.methodLink RL 13 yX6_letter, Cond.instanceMethod yX6_letter, Cond.selects RX6 yX6_letter yX6_letter, Cond.code yX6_letter cX6_letter 2 (some .int), Cond.methodLink RX6 66 yX3_write, Cond.instanceMethod yX3_write, Cond.selects RX3 yX3_write yX3_write]
theorem wk_8 : ∀ w ∈ wc_8, w ∈ gT := fun w h => by
  have hp : wc_8 = ([17, 18, 19, 20, 21, 22, 23] : List Nat).filterMap (fun i => ((tables_1_1.drop 168).take 24)[i]?) := by decide +kernel
  have hg : wc_8.all goodWord = true := by decide +kernel
  have h2 := h
  rw [hp] at h2
  obtain ⟨i, -, hi⟩ := List.mem_filterMap.mp h2
  exact gT_tab (sub_1 (List.mem_of_mem_drop (List.mem_of_mem_take (List.mem_of_getElem? hi)))) (List.all_eq_true.mp hg w h)
theorem t_185 : Cond.methodLink RL 13 yX6_letter ∈ gT := wk_8 _ (List.mem_of_getElem? (i := 0) rfl)
theorem t_186 : Cond.instanceMethod yX6_letter ∈ gT := wk_8 _ (List.mem_of_getElem? (i := 1) rfl)
theorem t_187 : Cond.selects RX6 yX6_letter yX6_letter ∈ gT := wk_8 _ (List.mem_of_getElem? (i := 2) rfl)
theorem t_188 : Cond.code yX6_letter cX6_letter 2 (some .int) ∈ gT := wk_8 _ (List.mem_of_getElem? (i := 3) rfl)
theorem t_189 : Cond.methodLink RX6 66 yX3_write ∈ gT := wk_8 _ (List.mem_of_getElem? (i := 4) rfl)
theorem t_190 : Cond.instanceMethod yX3_write ∈ gT := wk_8 _ (List.mem_of_getElem? (i := 5) rfl)
theorem t_191 : Cond.selects RX3 yX3_write yX3_write ∈ gT := wk_8 _ (List.mem_of_getElem? (i := 6) rfl)
def wc_9 : List Cond := [Cond.code yX3_write cX3_write 2 none, Cond.methodLink RL 18 yX6_blank, Cond.instanceMethod yX6_blank, Cond.selects RX6 yX6_blank yX6_blank, Cond.code yX6_blank cX6_blank 2 (some .int), Cond.methodLink RX6 69 yX3_clear, Cond.instanceMethod yX3_clear, Cond.selects RX3 yX3_clear yX3_clear, Cond.code yX3_clear cX3_clear 1 none, Cond.methodLink RL 23 yX6_fault, Cond.instanceMethod yX6_fault, Cond.selects RX6 yX6_fault yX6_fault, Cond.code yX6_fault cX6_fault 2 (some .int), Cond.methodLink RX6 72 yX3_firstFault, Cond.instanceMethod yX3_firstFault, Cond.selects RX3 yX3_firstFault yX3_firstFault, Cond.code yX3_firstFault cX3_firstFault 6 (some .int), Cond.methodLink RX3 19 yX3_fitsHead, Cond.instanceMethod yX3_fitsHead, Cond.code yX3_fitsHead cX3_fitsHead 2 (some .boolean), Cond.methodLink RX3 27 yX3_letterOf, Cond.static yX3_letterOf, Cond.code yX3_letterOf cX3_letterOf 1 (some .int)]
theorem wk_9 : ∀ w ∈ wc_9, w ∈ gT := fun w h => by
  have hp : wc_9 = ([0, 1, 2, 3, 4, 5, 6, 7, 8, 9, 10, 11, 12, 13, 14, 15, 16, 17, 19, 20, 21, 22, 23] : List Nat).filterMap (fun i => ((tables_1_1.drop 192).take 24)[i]?) := by decide +kernel
  have hg : wc_9.all goodWord = true := by decide +kernel
  have h2 := h
  rw [hp] at h2
  obtain ⟨i, -, hi⟩ := List.mem_filterMap.mp h2
  exact gT_tab (sub_1 (List.mem_of_mem_drop (List.mem_of_mem_take (List.mem_of_getElem? hi)))) (List.all_eq_true.mp hg w h)
theorem t_192 : Cond.code yX3_write cX3_write 2 none ∈ gT := wk_9 _ (List.mem_of_getElem? (i := 0) rfl)
theorem t_193 : Cond.methodLink RL 18 yX6_blank ∈ gT := wk_9 _ (List.mem_of_getElem? (i := 1) rfl)
theorem t_194 : Cond.instanceMethod yX6_blank ∈ gT := wk_9 _ (List.mem_of_getElem? (i := 2) rfl)
theorem t_195 : Cond.selects RX6 yX6_blank yX6_blank ∈ gT := wk_9 _ (List.mem_of_getElem? (i := 3) rfl)
theorem t_196 : Cond.code yX6_blank cX6_blank 2 (some .int) ∈ gT := wk_9 _ (List.mem_of_getElem? (i := 4) rfl)
theorem t_197 : Cond.methodLink RX6 69 yX3_clear ∈ gT := wk_9 _ (List.mem_of_getElem? (i := 5) rfl)
theorem t_198 : Cond.instanceMethod yX3_clear ∈ gT := wk_9 _ (List.mem_of_getElem? (i := 6) rfl)
theorem t_199 : Cond.selects RX3 yX3_clear yX3_clear ∈ gT := wk_9 _ (List.mem_of_getElem? (i := 7) rfl)
theorem t_200 : Cond.code yX3_clear cX3_clear 1 none ∈ gT := wk_9 _ (List.mem_of_getElem? (i := 8) rfl)
theorem t_201 : Cond.methodLink RL 23 yX6_fault ∈ gT := wk_9 _ (List.mem_of_getElem? (i := 9) rfl)
theorem t_202 : Cond.instanceMethod yX6_fault ∈ gT := wk_9 _ (List.mem_of_getElem? (i := 10) rfl)
theorem t_203 : Cond.selects RX6 yX6_fault yX6_fault ∈ gT := wk_9 _ (List.mem_of_getElem? (i := 11) rfl)
theorem t_204 : Cond.code yX6_fault cX6_fault 2 (some .int) ∈ gT := wk_9 _ (List.mem_of_getElem? (i := 12) rfl)
theorem t_205 : Cond.methodLink RX6 72 yX3_firstFault ∈ gT := wk_9 _ (List.mem_of_getElem? (i := 13) rfl)
theorem t_206 : Cond.instanceMethod yX3_firstFault ∈ gT := wk_9 _ (List.mem_of_getElem? (i := 14) rfl)
theorem t_207 : Cond.selects RX3 yX3_firstFault yX3_firstFault ∈ gT := wk_9 _ (List.mem_of_getElem? (i := 15) rfl)
theorem t_208 : Cond.code yX3_firstFault cX3_firstFault 6 (some .int) ∈ gT := wk_9 _ (List.mem_of_getElem? (i := 16) rfl)
theorem t_209 : Cond.methodLink RX3 19 yX3_fitsHead ∈ gT := wk_9 _ (List.mem_of_getElem? (i := 17) rfl)
theorem t_211 : Cond.instanceMethod yX3_fitsHead ∈ gT := wk_9 _ (List.mem_of_getElem? (i := 18) rfl)
theorem t_212 : Cond.code yX3_fitsHead cX3_fitsHead 2 (some .boolean) ∈ gT := wk_9 _ (List.mem_of_getElem? (i := 19) rfl)
theorem t_213 : Cond.methodLink RX3 27 yX3_letterOf ∈ gT := wk_9 _ (List.mem_of_getElem? (i := 20) rfl)
theorem t_214 : Cond.static yX3_letterOf ∈ gT := wk_9 _ (List.mem_of_getElem? (i := 21) rfl)
theorem t_215 : Cond.code yX3_letterOf cX3_letterOf 1 (some .int) ∈ gT := wk_9 _ (List.mem_of_getElem? (i := 22) rfl)
def wc_10 : List Cond := [Cond.static yX6_isOpen, Cond.code yX6_isOpen cX6_isOpen 1 (some .boolean), Cond.methodLink RX3 23 yX3_fitsEdge, Cond.instanceMethod yX3_fitsEdge, Cond.code yX3_fitsEdge cX3_fitsEdge 6 (some .boolean), Cond.methodLink RL 28 yX6_rule, Cond.instanceMethod yX6_rule, Cond.selects RX6 yX6_rule yX6_rule, Cond.code yX6_rule cX6_rule 1 (some .int), Cond.methodLink RX6 76 yX3_isRule, Cond.instanceMethod yX3_isRule, Cond.selects RX3 yX3_isRule yX3_isRule, Cond.code yX3_isRule cX3_isRule 1 (some .boolean), Cond.methodLink RX3 34 yX3_isWhole, Cond.instanceMethod yX3_isWhole, Cond.code yX3_isWhole cX3_isWhole 2 (some .boolean), Cond.methodLink RX3 37 yX3_firstFault, Cond.methodLink RX3 41 yX3_names, Cond.instanceMethod yX3_names, Cond.code yX3_names cX3_names 3 (some .boolean)]
theorem wk_10 : ∀ w ∈ wc_10, w ∈ gT := fun w h => by
  have hp : wc_10 = ([1, 2, 3, 5, 6, 7, 8, 9, 10, 11, 12, 13, 14, 15, 17, 18, 19, 20, 22, 23] : List Nat).filterMap (fun i => ((tables_1_1.drop 216).take 24)[i]?) := by decide +kernel
  have hg : wc_10.all goodWord = true := by decide +kernel
  have h2 := h
  rw [hp] at h2
  obtain ⟨i, -, hi⟩ := List.mem_filterMap.mp h2
  exact gT_tab (sub_1 (List.mem_of_mem_drop (List.mem_of_mem_take (List.mem_of_getElem? hi)))) (List.all_eq_true.mp hg w h)
theorem t_217 : Cond.static yX6_isOpen ∈ gT := wk_10 _ (List.mem_of_getElem? (i := 0) rfl)
theorem t_218 : Cond.code yX6_isOpen cX6_isOpen 1 (some .boolean) ∈ gT := wk_10 _ (List.mem_of_getElem? (i := 1) rfl)
theorem t_219 : Cond.methodLink RX3 23 yX3_fitsEdge ∈ gT := wk_10 _ (List.mem_of_getElem? (i := 2) rfl)
theorem t_221 : Cond.instanceMethod yX3_fitsEdge ∈ gT := wk_10 _ (List.mem_of_getElem? (i := 3) rfl)
theorem t_222 : Cond.code yX3_fitsEdge cX3_fitsEdge 6 (some .boolean) ∈ gT := wk_10 _ (List.mem_of_getElem? (i := 4) rfl)
theorem t_223 : Cond.methodLink RL 28 yX6_rule ∈ gT := wk_10 _ (List.mem_of_getElem? (i := 5) rfl)
theorem t_224 : Cond.instanceMethod yX6_rule ∈ gT := wk_10 _ (List.mem_of_getElem? (i := 6) rfl)
theorem t_225 : Cond.selects RX6 yX6_rule yX6_rule ∈ gT := wk_10 _ (List.mem_of_getElem? (i := 7) rfl)
theorem t_226 : Cond.code yX6_rule cX6_rule 1 (some .int) ∈ gT := wk_10 _ (List.mem_of_getElem? (i := 8) rfl)
theorem t_227 : Cond.methodLink RX6 76 yX3_isRule ∈ gT := wk_10 _ (List.mem_of_getElem? (i := 9) rfl)
theorem t_228 : Cond.instanceMethod yX3_isRule ∈ gT := wk_10 _ (List.mem_of_getElem? (i := 10) rfl)
theorem t_229 : Cond.selects RX3 yX3_isRule yX3_isRule ∈ gT := wk_10 _ (List.mem_of_getElem? (i := 11) rfl)
theorem t_230 : Cond.code yX3_isRule cX3_isRule 1 (some .boolean) ∈ gT := wk_10 _ (List.mem_of_getElem? (i := 12) rfl)
theorem t_231 : Cond.methodLink RX3 34 yX3_isWhole ∈ gT := wk_10 _ (List.mem_of_getElem? (i := 13) rfl)
theorem t_233 : Cond.instanceMethod yX3_isWhole ∈ gT := wk_10 _ (List.mem_of_getElem? (i := 14) rfl)
theorem t_234 : Cond.code yX3_isWhole cX3_isWhole 2 (some .boolean) ∈ gT := wk_10 _ (List.mem_of_getElem? (i := 15) rfl)
theorem t_235 : Cond.methodLink RX3 37 yX3_firstFault ∈ gT := wk_10 _ (List.mem_of_getElem? (i := 16) rfl)
theorem t_236 : Cond.methodLink RX3 41 yX3_names ∈ gT := wk_10 _ (List.mem_of_getElem? (i := 17) rfl)
theorem t_238 : Cond.instanceMethod yX3_names ∈ gT := wk_10 _ (List.mem_of_getElem? (i := 18) rfl)
theorem t_239 : Cond.code yX3_names cX3_names 3 (some .boolean) ∈ gT := wk_10 _ (List.mem_of_getElem? (i := 19) rfl)
def wc_11 : List Cond := [Cond.methodLink RX3 44 yX3_namesNoGap, Cond.instanceMethod yX3_namesNoGap, Cond.code yX3_namesNoGap cX3_namesNoGap 2 (some .boolean), Cond.methodLink RX6 81 yX5_add, Cond.instanceMethod yX5_add, Cond.selects RX5 yX5_add yX5_add, Cond.code yX5_add cX5_add 2 none, Cond.methodLink RX5 22 yX4_read, Cond.instanceMethod yX4_read, Cond.selects RX4 yX4_read yX4_read, Cond.code yX4_read cX4_read 3 none, Cond.methodLink RX4 34 yX3_openLetter, Cond.instanceMethod yX3_openLetter, Cond.selects RX3 yX3_openLetter yX3_openLetter, Cond.code yX3_openLetter cX3_openLetter 1 (some .int), Cond.methodLink RX3 48 yJ9_max_7cf53, Cond.static yJ9_max_7cf53, Cond.code yJ9_max_7cf53 cJ9_max_7cf53 2 (some .int), Cond.methodLink RX4 40 yX3_copyRule, Cond.instanceMethod yX3_copyRule, Cond.selects RX3 yX3_copyRule yX3_copyRule, Cond.code yX3_copyRule cX3_copyRule 2 none, Cond.methodLink RX3 54 yX3_copyEdges]
theorem wk_11 : ∀ w ∈ wc_11, w ∈ gT := fun w h => by
  have hp : wc_11 = ([0, 2, 3, 4, 5, 6, 7, 8, 9, 10, 11, 12, 13, 14, 15, 16, 17, 18, 19, 20, 21, 22, 23] : List Nat).filterMap (fun i => ((tables_1_2.drop 0).take 24)[i]?) := by decide +kernel
  have hg : wc_11.all goodWord = true := by decide +kernel
  have h2 := h
  rw [hp] at h2
  obtain ⟨i, -, hi⟩ := List.mem_filterMap.mp h2
  exact gT_tab (sub_2 (List.mem_of_mem_drop (List.mem_of_mem_take (List.mem_of_getElem? hi)))) (List.all_eq_true.mp hg w h)
theorem t_240 : Cond.methodLink RX3 44 yX3_namesNoGap ∈ gT := wk_11 _ (List.mem_of_getElem? (i := 0) rfl)
theorem t_242 : Cond.instanceMethod yX3_namesNoGap ∈ gT := wk_11 _ (List.mem_of_getElem? (i := 1) rfl)
theorem t_243 : Cond.code yX3_namesNoGap cX3_namesNoGap 2 (some .boolean) ∈ gT := wk_11 _ (List.mem_of_getElem? (i := 2) rfl)
theorem t_244 : Cond.methodLink RX6 81 yX5_add ∈ gT := wk_11 _ (List.mem_of_getElem? (i := 3) rfl)
theorem t_245 : Cond.instanceMethod yX5_add ∈ gT := wk_11 _ (List.mem_of_getElem? (i := 4) rfl)
theorem t_246 : Cond.selects RX5 yX5_add yX5_add ∈ gT := wk_11 _ (List.mem_of_getElem? (i := 5) rfl)
theorem t_247 : Cond.code yX5_add cX5_add 2 none ∈ gT := wk_11 _ (List.mem_of_getElem? (i := 6) rfl)
theorem t_248 : Cond.methodLink RX5 22 yX4_read ∈ gT := wk_11 _ (List.mem_of_getElem? (i := 7) rfl)
theorem t_249 : Cond.instanceMethod yX4_read ∈ gT := wk_11 _ (List.mem_of_getElem? (i := 8) rfl)
theorem t_250 : Cond.selects RX4 yX4_read yX4_read ∈ gT := wk_11 _ (List.mem_of_getElem? (i := 9) rfl)
theorem t_251 : Cond.code yX4_read cX4_read 3 none ∈ gT := wk_11 _ (List.mem_of_getElem? (i := 10) rfl)
theorem t_252 : Cond.methodLink RX4 34 yX3_openLetter ∈ gT := wk_11 _ (List.mem_of_getElem? (i := 11) rfl)
theorem t_253 : Cond.instanceMethod yX3_openLetter ∈ gT := wk_11 _ (List.mem_of_getElem? (i := 12) rfl)
theorem t_254 : Cond.selects RX3 yX3_openLetter yX3_openLetter ∈ gT := wk_11 _ (List.mem_of_getElem? (i := 13) rfl)
theorem t_255 : Cond.code yX3_openLetter cX3_openLetter 1 (some .int) ∈ gT := wk_11 _ (List.mem_of_getElem? (i := 14) rfl)
theorem t_256 : Cond.methodLink RX3 48 yJ9_max_7cf53 ∈ gT := wk_11 _ (List.mem_of_getElem? (i := 15) rfl)
theorem t_257 : Cond.static yJ9_max_7cf53 ∈ gT := wk_11 _ (List.mem_of_getElem? (i := 16) rfl)
theorem t_258 : Cond.code yJ9_max_7cf53 cJ9_max_7cf53 2 (some .int) ∈ gT := wk_11 _ (List.mem_of_getElem? (i := 17) rfl)
theorem t_259 : Cond.methodLink RX4 40 yX3_copyRule ∈ gT := wk_11 _ (List.mem_of_getElem? (i := 18) rfl)
theorem t_260 : Cond.instanceMethod yX3_copyRule ∈ gT := wk_11 _ (List.mem_of_getElem? (i := 19) rfl)
theorem t_261 : Cond.selects RX3 yX3_copyRule yX3_copyRule ∈ gT := wk_11 _ (List.mem_of_getElem? (i := 20) rfl)
theorem t_262 : Cond.code yX3_copyRule cX3_copyRule 2 none ∈ gT := wk_11 _ (List.mem_of_getElem? (i := 21) rfl)
theorem t_263 : Cond.methodLink RX3 54 yX3_copyEdges ∈ gT := wk_11 _ (List.mem_of_getElem? (i := 22) rfl)
def wc_12 : List Cond := [Cond.instanceMethod yX3_copyEdges, Cond.code yX3_copyEdges cX3_copyEdges 5 none, Cond.methodLink RX3 58 yX0_clear, Cond.instanceMethod yX0_clear, Cond.selects RX0 yX0_clear yX0_clear, Cond.code yX0_clear cX0_clear 2 none, Cond.methodLink RX3 64 yX0_append, Cond.instanceMethod yX0_append, Cond.selects RX0 yX0_append yX0_append, Cond.code yX0_append cX0_append 4 none, Cond.methodLink RX0 28 yX0_put, Cond.instanceMethod yX0_put, Cond.code yX0_put cX0_put 5 none, Cond.methodLink RX4 44 yX0_has, Cond.instanceMethod yX0_has, Cond.selects RX0 yX0_has yX0_has, Cond.code yX0_has cX0_has 2 (some .boolean), Cond.methodLink RX4 51 yX0_waysOf, Cond.instanceMethod yX0_waysOf, Cond.selects RX0 yX0_waysOf yX0_waysOf, Cond.code yX0_waysOf cX0_waysOf 2 (some .int), Cond.methodLink RX0 57 yX0_comes]
theorem wk_12 : ∀ w ∈ wc_12, w ∈ gT := fun w h => by
  have hp : wc_12 = ([1, 2, 3, 4, 5, 6, 7, 8, 9, 10, 11, 13, 14, 15, 16, 17, 18, 19, 20, 21, 22, 23] : List Nat).filterMap (fun i => ((tables_1_2.drop 24).take 24)[i]?) := by decide +kernel
  have hg : wc_12.all goodWord = true := by decide +kernel
  have h2 := h
  rw [hp] at h2
  obtain ⟨i, -, hi⟩ := List.mem_filterMap.mp h2
  exact gT_tab (sub_2 (List.mem_of_mem_drop (List.mem_of_mem_take (List.mem_of_getElem? hi)))) (List.all_eq_true.mp hg w h)
theorem t_265 : Cond.instanceMethod yX3_copyEdges ∈ gT := wk_12 _ (List.mem_of_getElem? (i := 0) rfl)
theorem t_266 : Cond.code yX3_copyEdges cX3_copyEdges 5 none ∈ gT := wk_12 _ (List.mem_of_getElem? (i := 1) rfl)
theorem t_267 : Cond.methodLink RX3 58 yX0_clear ∈ gT := wk_12 _ (List.mem_of_getElem? (i := 2) rfl)
theorem t_268 : Cond.instanceMethod yX0_clear ∈ gT := wk_12 _ (List.mem_of_getElem? (i := 3) rfl)
theorem t_269 : Cond.selects RX0 yX0_clear yX0_clear ∈ gT := wk_12 _ (List.mem_of_getElem? (i := 4) rfl)
theorem t_270 : Cond.code yX0_clear cX0_clear 2 none ∈ gT := wk_12 _ (List.mem_of_getElem? (i := 5) rfl)
theorem t_271 : Cond.methodLink RX3 64 yX0_append ∈ gT := wk_12 _ (List.mem_of_getElem? (i := 6) rfl)
theorem t_272 : Cond.instanceMethod yX0_append ∈ gT := wk_12 _ (List.mem_of_getElem? (i := 7) rfl)
theorem t_273 : Cond.selects RX0 yX0_append yX0_append ∈ gT := wk_12 _ (List.mem_of_getElem? (i := 8) rfl)
theorem t_274 : Cond.code yX0_append cX0_append 4 none ∈ gT := wk_12 _ (List.mem_of_getElem? (i := 9) rfl)
theorem t_275 : Cond.methodLink RX0 28 yX0_put ∈ gT := wk_12 _ (List.mem_of_getElem? (i := 10) rfl)
theorem t_277 : Cond.instanceMethod yX0_put ∈ gT := wk_12 _ (List.mem_of_getElem? (i := 11) rfl)
theorem t_278 : Cond.code yX0_put cX0_put 5 none ∈ gT := wk_12 _ (List.mem_of_getElem? (i := 12) rfl)
theorem t_279 : Cond.methodLink RX4 44 yX0_has ∈ gT := wk_12 _ (List.mem_of_getElem? (i := 13) rfl)
theorem t_280 : Cond.instanceMethod yX0_has ∈ gT := wk_12 _ (List.mem_of_getElem? (i := 14) rfl)
theorem t_281 : Cond.selects RX0 yX0_has yX0_has ∈ gT := wk_12 _ (List.mem_of_getElem? (i := 15) rfl)
theorem t_282 : Cond.code yX0_has cX0_has 2 (some .boolean) ∈ gT := wk_12 _ (List.mem_of_getElem? (i := 16) rfl)
theorem t_283 : Cond.methodLink RX4 51 yX0_waysOf ∈ gT := wk_12 _ (List.mem_of_getElem? (i := 17) rfl)
theorem t_284 : Cond.instanceMethod yX0_waysOf ∈ gT := wk_12 _ (List.mem_of_getElem? (i := 18) rfl)
theorem t_285 : Cond.selects RX0 yX0_waysOf yX0_waysOf ∈ gT := wk_12 _ (List.mem_of_getElem? (i := 19) rfl)
theorem t_286 : Cond.code yX0_waysOf cX0_waysOf 2 (some .int) ∈ gT := wk_12 _ (List.mem_of_getElem? (i := 20) rfl)
theorem t_287 : Cond.methodLink RX0 57 yX0_comes ∈ gT := wk_12 _ (List.mem_of_getElem? (i := 21) rfl)
def wc_13 : List Cond := [Cond.instanceMethod yX0_comes, Cond.code yX0_comes cX0_comes 8 (some .boolean), Cond.methodLink RX4 55 yX0_huesOf, Cond.instanceMethod yX0_huesOf, Cond.selects RX0 yX0_huesOf yX0_huesOf, Cond.code yX0_huesOf cX0_huesOf 4 (some .int), Cond.methodLink RX0 61 yX0_allows, Cond.instanceMethod yX0_allows, Cond.code yX0_allows cX0_allows 5 (some .boolean), Cond.methodLink RL 32 yX6_drop, Cond.instanceMethod yX6_drop, Cond.selects RX6 yX6_drop yX6_drop, Cond.code yX6_drop cX6_drop 2 (some .int), Cond.methodLink RX6 85 yX5_has, Cond.instanceMethod yX5_has, Cond.selects RX5 yX5_has yX5_has, Cond.code yX5_has cX5_has 2 (some .boolean), Cond.methodLink RX6 89 yX5_remove, Cond.instanceMethod yX5_remove, Cond.selects RX5 yX5_remove yX5_remove, Cond.code yX5_remove cX5_remove 4 none, Cond.methodLink RX5 26 yX5_has]
theorem wk_13 : ∀ w ∈ wc_13, w ∈ gT := fun w h => by
  have hp : wc_13 = ([1, 2, 3, 4, 5, 6, 7, 9, 10, 11, 12, 13, 14, 15, 16, 17, 18, 19, 20, 21, 22, 23] : List Nat).filterMap (fun i => ((tables_1_2.drop 48).take 24)[i]?) := by decide +kernel
  have hg : wc_13.all goodWord = true := by decide +kernel
  have h2 := h
  rw [hp] at h2
  obtain ⟨i, -, hi⟩ := List.mem_filterMap.mp h2
  exact gT_tab (sub_2 (List.mem_of_mem_drop (List.mem_of_mem_take (List.mem_of_getElem? hi)))) (List.all_eq_true.mp hg w h)
theorem t_289 : Cond.instanceMethod yX0_comes ∈ gT := wk_13 _ (List.mem_of_getElem? (i := 0) rfl)
theorem t_290 : Cond.code yX0_comes cX0_comes 8 (some .boolean) ∈ gT := wk_13 _ (List.mem_of_getElem? (i := 1) rfl)
theorem t_291 : Cond.methodLink RX4 55 yX0_huesOf ∈ gT := wk_13 _ (List.mem_of_getElem? (i := 2) rfl)
theorem t_292 : Cond.instanceMethod yX0_huesOf ∈ gT := wk_13 _ (List.mem_of_getElem? (i := 3) rfl)
theorem t_293 : Cond.selects RX0 yX0_huesOf yX0_huesOf ∈ gT := wk_13 _ (List.mem_of_getElem? (i := 4) rfl)
theorem t_294 : Cond.code yX0_huesOf cX0_huesOf 4 (some .int) ∈ gT := wk_13 _ (List.mem_of_getElem? (i := 5) rfl)
theorem t_295 : Cond.methodLink RX0 61 yX0_allows ∈ gT := wk_13 _ (List.mem_of_getElem? (i := 6) rfl)
theorem t_297 : Cond.instanceMethod yX0_allows ∈ gT := wk_13 _ (List.mem_of_getElem? (i := 7) rfl)
theorem t_298 : Cond.code yX0_allows cX0_allows 5 (some .boolean) ∈ gT := wk_13 _ (List.mem_of_getElem? (i := 8) rfl)
theorem t_299 : Cond.methodLink RL 32 yX6_drop ∈ gT := wk_13 _ (List.mem_of_getElem? (i := 9) rfl)
theorem t_300 : Cond.instanceMethod yX6_drop ∈ gT := wk_13 _ (List.mem_of_getElem? (i := 10) rfl)
theorem t_301 : Cond.selects RX6 yX6_drop yX6_drop ∈ gT := wk_13 _ (List.mem_of_getElem? (i := 11) rfl)
theorem t_302 : Cond.code yX6_drop cX6_drop 2 (some .int) ∈ gT := wk_13 _ (List.mem_of_getElem? (i := 12) rfl)
theorem t_303 : Cond.methodLink RX6 85 yX5_has ∈ gT := wk_13 _ (List.mem_of_getElem? (i := 13) rfl)
theorem t_304 : Cond.instanceMethod yX5_has ∈ gT := wk_13 _ (List.mem_of_getElem? (i := 14) rfl)
theorem t_305 : Cond.selects RX5 yX5_has yX5_has ∈ gT := wk_13 _ (List.mem_of_getElem? (i := 15) rfl)
theorem t_306 : Cond.code yX5_has cX5_has 2 (some .boolean) ∈ gT := wk_13 _ (List.mem_of_getElem? (i := 16) rfl)
theorem t_307 : Cond.methodLink RX6 89 yX5_remove ∈ gT := wk_13 _ (List.mem_of_getElem? (i := 17) rfl)
theorem t_308 : Cond.instanceMethod yX5_remove ∈ gT := wk_13 _ (List.mem_of_getElem? (i := 18) rfl)
theorem t_309 : Cond.selects RX5 yX5_remove yX5_remove ∈ gT := wk_13 _ (List.mem_of_getElem? (i := 19) rfl)
theorem t_310 : Cond.code yX5_remove cX5_remove 4 none ∈ gT := wk_13 _ (List.mem_of_getElem? (i := 20) rfl)
theorem t_311 : Cond.methodLink RX5 26 yX5_has ∈ gT := wk_13 _ (List.mem_of_getElem? (i := 21) rfl)
def wc_14 : List Cond := [Cond.methodLink RL 36 yX6_graph, Cond.instanceMethod yX6_graph, Cond.selects RX6 yX6_graph yX6_graph, Cond.code yX6_graph cX6_graph 1 (some .int), Cond.methodLink RX6 92 yX3_isGraph, Cond.instanceMethod yX3_isGraph, Cond.selects RX3 yX3_isGraph yX3_isGraph, Cond.code yX3_isGraph cX3_isGraph 1 (some .boolean), Cond.methodLink RX6 95 yX3_copyGraph, Cond.instanceMethod yX3_copyGraph, Cond.selects RX3 yX3_copyGraph yX3_copyGraph, Cond.code yX3_copyGraph cX3_copyGraph 2 none, Cond.methodLink RX6 99 yX6_noteNewGraph, Cond.instanceMethod yX6_noteNewGraph, Cond.code yX6_noteNewGraph cX6_noteNewGraph 1 none, Cond.methodLink RL 40 yX6_of, Cond.instanceMethod yX6_of, Cond.selects RX6 yX6_of yX6_of, Cond.code yX6_of cX6_of 4 (some .int), Cond.methodLink RX6 118 yX0_has, Cond.methodLink RX6 119 yX0_told, Cond.instanceMethod yX0_told, Cond.selects RX0 yX0_told yX0_told]
theorem wk_14 : ∀ w ∈ wc_14, w ∈ gT := fun w h => by
  have hp : wc_14 = ([0, 1, 2, 3, 4, 5, 6, 7, 8, 9, 10, 11, 12, 14, 15, 16, 17, 18, 19, 20, 21, 22, 23] : List Nat).filterMap (fun i => ((tables_1_2.drop 72).take 24)[i]?) := by decide +kernel
  have hg : wc_14.all goodWord = true := by decide +kernel
  have h2 := h
  rw [hp] at h2
  obtain ⟨i, -, hi⟩ := List.mem_filterMap.mp h2
  exact gT_tab (sub_2 (List.mem_of_mem_drop (List.mem_of_mem_take (List.mem_of_getElem? hi)))) (List.all_eq_true.mp hg w h)
theorem t_312 : Cond.methodLink RL 36 yX6_graph ∈ gT := wk_14 _ (List.mem_of_getElem? (i := 0) rfl)
theorem t_313 : Cond.instanceMethod yX6_graph ∈ gT := wk_14 _ (List.mem_of_getElem? (i := 1) rfl)
theorem t_314 : Cond.selects RX6 yX6_graph yX6_graph ∈ gT := wk_14 _ (List.mem_of_getElem? (i := 2) rfl)
theorem t_315 : Cond.code yX6_graph cX6_graph 1 (some .int) ∈ gT := wk_14 _ (List.mem_of_getElem? (i := 3) rfl)
theorem t_316 : Cond.methodLink RX6 92 yX3_isGraph ∈ gT := wk_14 _ (List.mem_of_getElem? (i := 4) rfl)
theorem t_317 : Cond.instanceMethod yX3_isGraph ∈ gT := wk_14 _ (List.mem_of_getElem? (i := 5) rfl)
theorem t_318 : Cond.selects RX3 yX3_isGraph yX3_isGraph ∈ gT := wk_14 _ (List.mem_of_getElem? (i := 6) rfl)
theorem t_319 : Cond.code yX3_isGraph cX3_isGraph 1 (some .boolean) ∈ gT := wk_14 _ (List.mem_of_getElem? (i := 7) rfl)
theorem t_320 : Cond.methodLink RX6 95 yX3_copyGraph ∈ gT := wk_14 _ (List.mem_of_getElem? (i := 8) rfl)
theorem t_321 : Cond.instanceMethod yX3_copyGraph ∈ gT := wk_14 _ (List.mem_of_getElem? (i := 9) rfl)
theorem t_322 : Cond.selects RX3 yX3_copyGraph yX3_copyGraph ∈ gT := wk_14 _ (List.mem_of_getElem? (i := 10) rfl)
theorem t_323 : Cond.code yX3_copyGraph cX3_copyGraph 2 none ∈ gT := wk_14 _ (List.mem_of_getElem? (i := 11) rfl)
theorem t_324 : Cond.methodLink RX6 99 yX6_noteNewGraph ∈ gT := wk_14 _ (List.mem_of_getElem? (i := 12) rfl)
theorem t_326 : Cond.instanceMethod yX6_noteNewGraph ∈ gT := wk_14 _ (List.mem_of_getElem? (i := 13) rfl)
theorem t_327 : Cond.code yX6_noteNewGraph cX6_noteNewGraph 1 none ∈ gT := wk_14 _ (List.mem_of_getElem? (i := 14) rfl)
theorem t_328 : Cond.methodLink RL 40 yX6_of ∈ gT := wk_14 _ (List.mem_of_getElem? (i := 15) rfl)
theorem t_329 : Cond.instanceMethod yX6_of ∈ gT := wk_14 _ (List.mem_of_getElem? (i := 16) rfl)
theorem t_330 : Cond.selects RX6 yX6_of yX6_of ∈ gT := wk_14 _ (List.mem_of_getElem? (i := 17) rfl)
theorem t_331 : Cond.code yX6_of cX6_of 4 (some .int) ∈ gT := wk_14 _ (List.mem_of_getElem? (i := 18) rfl)
theorem t_332 : Cond.methodLink RX6 118 yX0_has ∈ gT := wk_14 _ (List.mem_of_getElem? (i := 19) rfl)
theorem t_333 : Cond.methodLink RX6 119 yX0_told ∈ gT := wk_14 _ (List.mem_of_getElem? (i := 20) rfl)
theorem t_334 : Cond.instanceMethod yX0_told ∈ gT := wk_14 _ (List.mem_of_getElem? (i := 21) rfl)
theorem t_335 : Cond.selects RX0 yX0_told yX0_told ∈ gT := wk_14 _ (List.mem_of_getElem? (i := 22) rfl)
def wc_15 : List Cond := [Cond.code yX0_told cX0_told 2 (some .int), Cond.methodLink RL 45 yX6_begin, Cond.instanceMethod yX6_begin, Cond.selects RX6 yX6_begin yX6_begin, Cond.code yX6_begin cX6_begin 2 (some .int), Cond.methodLink RX6 123 yX6_isOpen, Cond.methodLink RX6 126 yX0_clear, Cond.methodLink RX6 128 yX0_append, Cond.methodLink RL 49 yX6_step, Cond.instanceMethod yX6_step, Cond.selects RX6 yX6_step yX6_step, Cond.code yX6_step cX6_step 4 (some .int), Cond.methodLink RX6 136 yX0_replace, Cond.instanceMethod yX0_replace, Cond.selects RX0 yX0_replace yX0_replace, Cond.code yX0_replace cX0_replace 7 none, Cond.methodLink RX0 40 yX0_has, Cond.methodLink RX0 43 yX0_nodeFor, Cond.instanceMethod yX0_nodeFor, Cond.code yX0_nodeFor cX0_nodeFor 4 (some .int), Cond.methodLink RL 53 yX6_edge, Cond.instanceMethod yX6_edge, Cond.selects RX6 yX6_edge yX6_edge]
theorem wk_15 : ∀ w ∈ wc_15, w ∈ gT := fun w h => by
  have hp : wc_15 = ([0, 1, 2, 3, 4, 5, 6, 7, 8, 9, 10, 11, 12, 13, 14, 15, 16, 17, 19, 20, 21, 22, 23] : List Nat).filterMap (fun i => ((tables_1_2.drop 96).take 24)[i]?) := by decide +kernel
  have hg : wc_15.all goodWord = true := by decide +kernel
  have h2 := h
  rw [hp] at h2
  obtain ⟨i, -, hi⟩ := List.mem_filterMap.mp h2
  exact gT_tab (sub_2 (List.mem_of_mem_drop (List.mem_of_mem_take (List.mem_of_getElem? hi)))) (List.all_eq_true.mp hg w h)
theorem t_336 : Cond.code yX0_told cX0_told 2 (some .int) ∈ gT := wk_15 _ (List.mem_of_getElem? (i := 0) rfl)
theorem t_337 : Cond.methodLink RL 45 yX6_begin ∈ gT := wk_15 _ (List.mem_of_getElem? (i := 1) rfl)
theorem t_338 : Cond.instanceMethod yX6_begin ∈ gT := wk_15 _ (List.mem_of_getElem? (i := 2) rfl)
theorem t_339 : Cond.selects RX6 yX6_begin yX6_begin ∈ gT := wk_15 _ (List.mem_of_getElem? (i := 3) rfl)
theorem t_340 : Cond.code yX6_begin cX6_begin 2 (some .int) ∈ gT := wk_15 _ (List.mem_of_getElem? (i := 4) rfl)
theorem t_341 : Cond.methodLink RX6 123 yX6_isOpen ∈ gT := wk_15 _ (List.mem_of_getElem? (i := 5) rfl)
theorem t_342 : Cond.methodLink RX6 126 yX0_clear ∈ gT := wk_15 _ (List.mem_of_getElem? (i := 6) rfl)
theorem t_343 : Cond.methodLink RX6 128 yX0_append ∈ gT := wk_15 _ (List.mem_of_getElem? (i := 7) rfl)
theorem t_344 : Cond.methodLink RL 49 yX6_step ∈ gT := wk_15 _ (List.mem_of_getElem? (i := 8) rfl)
theorem t_345 : Cond.instanceMethod yX6_step ∈ gT := wk_15 _ (List.mem_of_getElem? (i := 9) rfl)
theorem t_346 : Cond.selects RX6 yX6_step yX6_step ∈ gT := wk_15 _ (List.mem_of_getElem? (i := 10) rfl)
theorem t_347 : Cond.code yX6_step cX6_step 4 (some .int) ∈ gT := wk_15 _ (List.mem_of_getElem? (i := 11) rfl)
theorem t_348 : Cond.methodLink RX6 136 yX0_replace ∈ gT := wk_15 _ (List.mem_of_getElem? (i := 12) rfl)
theorem t_349 : Cond.instanceMethod yX0_replace ∈ gT := wk_15 _ (List.mem_of_getElem? (i := 13) rfl)
theorem t_350 : Cond.selects RX0 yX0_replace yX0_replace ∈ gT := wk_15 _ (List.mem_of_getElem? (i := 14) rfl)
theorem t_351 : Cond.code yX0_replace cX0_replace 7 none ∈ gT := wk_15 _ (List.mem_of_getElem? (i := 15) rfl)
theorem t_352 : Cond.methodLink RX0 40 yX0_has ∈ gT := wk_15 _ (List.mem_of_getElem? (i := 16) rfl)
theorem t_353 : Cond.methodLink RX0 43 yX0_nodeFor ∈ gT := wk_15 _ (List.mem_of_getElem? (i := 17) rfl)
theorem t_355 : Cond.instanceMethod yX0_nodeFor ∈ gT := wk_15 _ (List.mem_of_getElem? (i := 18) rfl)
theorem t_356 : Cond.code yX0_nodeFor cX0_nodeFor 4 (some .int) ∈ gT := wk_15 _ (List.mem_of_getElem? (i := 19) rfl)
theorem t_357 : Cond.methodLink RL 53 yX6_edge ∈ gT := wk_15 _ (List.mem_of_getElem? (i := 20) rfl)
theorem t_358 : Cond.instanceMethod yX6_edge ∈ gT := wk_15 _ (List.mem_of_getElem? (i := 21) rfl)
theorem t_359 : Cond.selects RX6 yX6_edge yX6_edge ∈ gT := wk_15 _ (List.mem_of_getElem? (i := 22) rfl)
def wc_16 : List Cond := [Cond.code yX6_edge cX6_edge 2 (some .int), Cond.methodLink RL 57 yX6_kind, Cond.instanceMethod yX6_kind, Cond.selects RX6 yX6_kind yX6_kind, Cond.code yX6_kind cX6_kind 1 (some .int), Cond.methodLink RX6 140 yX0_isDone, Cond.instanceMethod yX0_isDone, Cond.selects RX0 yX0_isDone yX0_isDone, Cond.code yX0_isDone cX0_isDone 1 (some .boolean), Cond.methodLink RX0 36 yX0_openEdges, Cond.instanceMethod yX0_openEdges, Cond.selects RX0 yX0_openEdges yX0_openEdges, Cond.code yX0_openEdges cX0_openEdges 3 (some .int), Cond.methodLink RX6 143 yX0_ownKind, Cond.instanceMethod yX0_ownKind, Cond.selects RX0 yX0_ownKind yX0_ownKind, Cond.code yX0_ownKind cX0_ownKind 5 (some .int), Cond.methodLink RX0 51 yX0_waysOf, Cond.methodLink RX0 54 yX0_huesOf, Cond.methodLink RL 61 yX6_fewest, Cond.instanceMethod yX6_fewest, Cond.selects RX6 yX6_fewest yX6_fewest, Cond.code yX6_fewest cX6_fewest 3 (some .int)]
theorem wk_16 : ∀ w ∈ wc_16, w ∈ gT := fun w h => by
  have hp : wc_16 = ([0, 1, 2, 3, 4, 5, 6, 7, 8, 9, 10, 11, 12, 14, 15, 16, 17, 18, 19, 20, 21, 22, 23] : List Nat).filterMap (fun i => ((tables_1_2.drop 120).take 24)[i]?) := by decide +kernel
  have hg : wc_16.all goodWord = true := by decide +kernel
  have h2 := h
  rw [hp] at h2
  obtain ⟨i, -, hi⟩ := List.mem_filterMap.mp h2
  exact gT_tab (sub_2 (List.mem_of_mem_drop (List.mem_of_mem_take (List.mem_of_getElem? hi)))) (List.all_eq_true.mp hg w h)
theorem t_360 : Cond.code yX6_edge cX6_edge 2 (some .int) ∈ gT := wk_16 _ (List.mem_of_getElem? (i := 0) rfl)
theorem t_361 : Cond.methodLink RL 57 yX6_kind ∈ gT := wk_16 _ (List.mem_of_getElem? (i := 1) rfl)
theorem t_362 : Cond.instanceMethod yX6_kind ∈ gT := wk_16 _ (List.mem_of_getElem? (i := 2) rfl)
theorem t_363 : Cond.selects RX6 yX6_kind yX6_kind ∈ gT := wk_16 _ (List.mem_of_getElem? (i := 3) rfl)
theorem t_364 : Cond.code yX6_kind cX6_kind 1 (some .int) ∈ gT := wk_16 _ (List.mem_of_getElem? (i := 4) rfl)
theorem t_365 : Cond.methodLink RX6 140 yX0_isDone ∈ gT := wk_16 _ (List.mem_of_getElem? (i := 5) rfl)
theorem t_366 : Cond.instanceMethod yX0_isDone ∈ gT := wk_16 _ (List.mem_of_getElem? (i := 6) rfl)
theorem t_367 : Cond.selects RX0 yX0_isDone yX0_isDone ∈ gT := wk_16 _ (List.mem_of_getElem? (i := 7) rfl)
theorem t_368 : Cond.code yX0_isDone cX0_isDone 1 (some .boolean) ∈ gT := wk_16 _ (List.mem_of_getElem? (i := 8) rfl)
theorem t_369 : Cond.methodLink RX0 36 yX0_openEdges ∈ gT := wk_16 _ (List.mem_of_getElem? (i := 9) rfl)
theorem t_370 : Cond.instanceMethod yX0_openEdges ∈ gT := wk_16 _ (List.mem_of_getElem? (i := 10) rfl)
theorem t_371 : Cond.selects RX0 yX0_openEdges yX0_openEdges ∈ gT := wk_16 _ (List.mem_of_getElem? (i := 11) rfl)
theorem t_372 : Cond.code yX0_openEdges cX0_openEdges 3 (some .int) ∈ gT := wk_16 _ (List.mem_of_getElem? (i := 12) rfl)
theorem t_374 : Cond.methodLink RX6 143 yX0_ownKind ∈ gT := wk_16 _ (List.mem_of_getElem? (i := 13) rfl)
theorem t_375 : Cond.instanceMethod yX0_ownKind ∈ gT := wk_16 _ (List.mem_of_getElem? (i := 14) rfl)
theorem t_376 : Cond.selects RX0 yX0_ownKind yX0_ownKind ∈ gT := wk_16 _ (List.mem_of_getElem? (i := 15) rfl)
theorem t_377 : Cond.code yX0_ownKind cX0_ownKind 5 (some .int) ∈ gT := wk_16 _ (List.mem_of_getElem? (i := 16) rfl)
theorem t_378 : Cond.methodLink RX0 51 yX0_waysOf ∈ gT := wk_16 _ (List.mem_of_getElem? (i := 17) rfl)
theorem t_379 : Cond.methodLink RX0 54 yX0_huesOf ∈ gT := wk_16 _ (List.mem_of_getElem? (i := 18) rfl)
theorem t_380 : Cond.methodLink RL 61 yX6_fewest ∈ gT := wk_16 _ (List.mem_of_getElem? (i := 19) rfl)
theorem t_381 : Cond.instanceMethod yX6_fewest ∈ gT := wk_16 _ (List.mem_of_getElem? (i := 20) rfl)
theorem t_382 : Cond.selects RX6 yX6_fewest yX6_fewest ∈ gT := wk_16 _ (List.mem_of_getElem? (i := 21) rfl)
theorem t_383 : Cond.code yX6_fewest cX6_fewest 3 (some .int) ∈ gT := wk_16 _ (List.mem_of_getElem? (i := 22) rfl)
def wc_17 : List Cond := [Cond.methodLink RX6 147 yX2_find, Cond.instanceMethod yX2_find, Cond.selects RX2 yX2_find yX2_find, Cond.code yX2_find cX2_find 6 none, Cond.constant RX2 28 (536870912), Cond.methodLink RX2 29 yJ7_fill_53178, Cond.static yJ7_fill_53178, Cond.code yJ7_fill_53178 cJ7_fill_53178 4 none, Cond.methodLink RX2 38 yX2_improve, Cond.instanceMethod yX2_improve, Cond.code yX2_improve cX2_improve 11 (some .boolean), Cond.methodLink RX2 42 yJ6_bitCount_0f7a4, Cond.static yJ6_bitCount_0f7a4, Cond.code yJ6_bitCount_0f7a4 cJ6_bitCount_0f7a4 1 (some .int), Cond.constant RJ6 265 (1431655765), Cond.constant RJ6 266 (858993459), Cond.constant RJ6 267 (252645135), Cond.methodLink RX2 48 yX0_isPart, Cond.instanceMethod yX0_isPart, Cond.selects RX0 yX0_isPart yX0_isPart, Cond.code yX0_isPart cX0_isPart 7 (some .boolean), Cond.methodLink RX0 47 yX0_nodesOf]
theorem wk_17 : ∀ w ∈ wc_17, w ∈ gT := fun w h => by
  have hp : wc_17 = ([0, 1, 2, 3, 4, 5, 6, 7, 8, 10, 11, 12, 13, 14, 15, 16, 17, 18, 19, 20, 21, 22] : List Nat).filterMap (fun i => ((tables_1_2.drop 144).take 24)[i]?) := by decide +kernel
  have hg : wc_17.all goodWord = true := by decide +kernel
  have h2 := h
  rw [hp] at h2
  obtain ⟨i, -, hi⟩ := List.mem_filterMap.mp h2
  exact gT_tab (sub_2 (List.mem_of_mem_drop (List.mem_of_mem_take (List.mem_of_getElem? hi)))) (List.all_eq_true.mp hg w h)
theorem t_384 : Cond.methodLink RX6 147 yX2_find ∈ gT := wk_17 _ (List.mem_of_getElem? (i := 0) rfl)
theorem t_385 : Cond.instanceMethod yX2_find ∈ gT := wk_17 _ (List.mem_of_getElem? (i := 1) rfl)
theorem t_386 : Cond.selects RX2 yX2_find yX2_find ∈ gT := wk_17 _ (List.mem_of_getElem? (i := 2) rfl)
theorem t_387 : Cond.code yX2_find cX2_find 6 none ∈ gT := wk_17 _ (List.mem_of_getElem? (i := 3) rfl)
theorem t_388 : Cond.constant RX2 28 (536870912) ∈ gT := wk_17 _ (List.mem_of_getElem? (i := 4) rfl)
theorem t_389 : Cond.methodLink RX2 29 yJ7_fill_53178 ∈ gT := wk_17 _ (List.mem_of_getElem? (i := 5) rfl)
theorem t_390 : Cond.static yJ7_fill_53178 ∈ gT := wk_17 _ (List.mem_of_getElem? (i := 6) rfl)
theorem t_391 : Cond.code yJ7_fill_53178 cJ7_fill_53178 4 none ∈ gT := wk_17 _ (List.mem_of_getElem? (i := 7) rfl)
theorem t_392 : Cond.methodLink RX2 38 yX2_improve ∈ gT := wk_17 _ (List.mem_of_getElem? (i := 8) rfl)
theorem t_394 : Cond.instanceMethod yX2_improve ∈ gT := wk_17 _ (List.mem_of_getElem? (i := 9) rfl)
theorem t_395 : Cond.code yX2_improve cX2_improve 11 (some .boolean) ∈ gT := wk_17 _ (List.mem_of_getElem? (i := 10) rfl)
theorem t_396 : Cond.methodLink RX2 42 yJ6_bitCount_0f7a4 ∈ gT := wk_17 _ (List.mem_of_getElem? (i := 11) rfl)
theorem t_397 : Cond.static yJ6_bitCount_0f7a4 ∈ gT := wk_17 _ (List.mem_of_getElem? (i := 12) rfl)
theorem t_398 : Cond.code yJ6_bitCount_0f7a4 cJ6_bitCount_0f7a4 1 (some .int) ∈ gT := wk_17 _ (List.mem_of_getElem? (i := 13) rfl)
theorem t_399 : Cond.constant RJ6 265 (1431655765) ∈ gT := wk_17 _ (List.mem_of_getElem? (i := 14) rfl)
theorem t_400 : Cond.constant RJ6 266 (858993459) ∈ gT := wk_17 _ (List.mem_of_getElem? (i := 15) rfl)
theorem t_401 : Cond.constant RJ6 267 (252645135) ∈ gT := wk_17 _ (List.mem_of_getElem? (i := 16) rfl)
theorem t_402 : Cond.methodLink RX2 48 yX0_isPart ∈ gT := wk_17 _ (List.mem_of_getElem? (i := 17) rfl)
theorem t_403 : Cond.instanceMethod yX0_isPart ∈ gT := wk_17 _ (List.mem_of_getElem? (i := 18) rfl)
theorem t_404 : Cond.selects RX0 yX0_isPart yX0_isPart ∈ gT := wk_17 _ (List.mem_of_getElem? (i := 19) rfl)
theorem t_405 : Cond.code yX0_isPart cX0_isPart 7 (some .boolean) ∈ gT := wk_17 _ (List.mem_of_getElem? (i := 20) rfl)
theorem t_406 : Cond.methodLink RX0 47 yX0_nodesOf ∈ gT := wk_17 _ (List.mem_of_getElem? (i := 21) rfl)
def wc_18 : List Cond := [Cond.instanceMethod yX0_nodesOf, Cond.code yX0_nodesOf cX0_nodesOf 4 (some .int), Cond.methodLink RX2 24 yX2_at, Cond.static yX2_at, Cond.code yX2_at cX2_at 4 (some .int), Cond.methodLink RX2 68 yX2_byRule, Cond.instanceMethod yX2_byRule, Cond.code yX2_byRule cX2_byRule 10 (some .int), Cond.methodLink RX2 76 yX2_standsApart, Cond.instanceMethod yX2_standsApart, Cond.code yX2_standsApart cX2_standsApart 4 (some .boolean), Cond.methodLink RX2 80 yX2_bySplit, Cond.instanceMethod yX2_bySplit, Cond.code yX2_bySplit cX2_bySplit 10 (some .int), Cond.methodLink RX2 89 yX2_bySlot, Cond.instanceMethod yX2_bySlot, Cond.code yX2_bySlot cX2_bySlot 8 (some .int), Cond.methodLink RX2 105 yX0_isEdge, Cond.instanceMethod yX0_isEdge]
theorem wk_18 : ∀ w ∈ wc_18, w ∈ gT := fun w h => by
  have hp : wc_18 = ([0, 1, 2, 3, 4, 5, 7, 8, 9, 11, 12, 13, 15, 16, 17, 19, 20, 22, 23] : List Nat).filterMap (fun i => ((tables_1_2.drop 168).take 24)[i]?) := by decide +kernel
  have hg : wc_18.all goodWord = true := by decide +kernel
  have h2 := h
  rw [hp] at h2
  obtain ⟨i, -, hi⟩ := List.mem_filterMap.mp h2
  exact gT_tab (sub_2 (List.mem_of_mem_drop (List.mem_of_mem_take (List.mem_of_getElem? hi)))) (List.all_eq_true.mp hg w h)
theorem t_408 : Cond.instanceMethod yX0_nodesOf ∈ gT := wk_18 _ (List.mem_of_getElem? (i := 0) rfl)
theorem t_409 : Cond.code yX0_nodesOf cX0_nodesOf 4 (some .int) ∈ gT := wk_18 _ (List.mem_of_getElem? (i := 1) rfl)
theorem t_410 : Cond.methodLink RX2 24 yX2_at ∈ gT := wk_18 _ (List.mem_of_getElem? (i := 2) rfl)
theorem t_411 : Cond.static yX2_at ∈ gT := wk_18 _ (List.mem_of_getElem? (i := 3) rfl)
theorem t_412 : Cond.code yX2_at cX2_at 4 (some .int) ∈ gT := wk_18 _ (List.mem_of_getElem? (i := 4) rfl)
theorem t_413 : Cond.methodLink RX2 68 yX2_byRule ∈ gT := wk_18 _ (List.mem_of_getElem? (i := 5) rfl)
theorem t_415 : Cond.instanceMethod yX2_byRule ∈ gT := wk_18 _ (List.mem_of_getElem? (i := 6) rfl)
theorem t_416 : Cond.code yX2_byRule cX2_byRule 10 (some .int) ∈ gT := wk_18 _ (List.mem_of_getElem? (i := 7) rfl)
theorem t_417 : Cond.methodLink RX2 76 yX2_standsApart ∈ gT := wk_18 _ (List.mem_of_getElem? (i := 8) rfl)
theorem t_419 : Cond.instanceMethod yX2_standsApart ∈ gT := wk_18 _ (List.mem_of_getElem? (i := 9) rfl)
theorem t_420 : Cond.code yX2_standsApart cX2_standsApart 4 (some .boolean) ∈ gT := wk_18 _ (List.mem_of_getElem? (i := 10) rfl)
theorem t_421 : Cond.methodLink RX2 80 yX2_bySplit ∈ gT := wk_18 _ (List.mem_of_getElem? (i := 11) rfl)
theorem t_423 : Cond.instanceMethod yX2_bySplit ∈ gT := wk_18 _ (List.mem_of_getElem? (i := 12) rfl)
theorem t_424 : Cond.code yX2_bySplit cX2_bySplit 10 (some .int) ∈ gT := wk_18 _ (List.mem_of_getElem? (i := 13) rfl)
theorem t_425 : Cond.methodLink RX2 89 yX2_bySlot ∈ gT := wk_18 _ (List.mem_of_getElem? (i := 14) rfl)
theorem t_427 : Cond.instanceMethod yX2_bySlot ∈ gT := wk_18 _ (List.mem_of_getElem? (i := 15) rfl)
theorem t_428 : Cond.code yX2_bySlot cX2_bySlot 8 (some .int) ∈ gT := wk_18 _ (List.mem_of_getElem? (i := 16) rfl)
theorem t_430 : Cond.methodLink RX2 105 yX0_isEdge ∈ gT := wk_18 _ (List.mem_of_getElem? (i := 17) rfl)
theorem t_431 : Cond.instanceMethod yX0_isEdge ∈ gT := wk_18 _ (List.mem_of_getElem? (i := 18) rfl)
def wc_19 : List Cond := [Cond.selects RX0 yX0_isEdge yX0_isEdge, Cond.code yX0_isEdge cX0_isEdge 6 (some .boolean), Cond.methodLink RX2 83 yJ9_min_7cf53, Cond.static yJ9_min_7cf53, Cond.code yJ9_min_7cf53 cJ9_min_7cf53 2 (some .int), Cond.methodLink RX2 72 yX2_lower, Cond.instanceMethod yX2_lower, Cond.code yX2_lower cX2_lower 3 (some .boolean), Cond.methodLink RX6 151 yX2_ofWhole, Cond.instanceMethod yX2_ofWhole, Cond.selects RX2 yX2_ofWhole yX2_ofWhole, Cond.code yX2_ofWhole cX2_ofWhole 3 (some .int), Cond.constant RX6 155 (536870912), Cond.methodLink RL 65 yX6_kinds, Cond.instanceMethod yX6_kinds, Cond.selects RX6 yX6_kinds yX6_kinds, Cond.code yX6_kinds cX6_kinds 4 (some .int), Cond.methodLink RX6 156 yX6_bringLights, Cond.instanceMethod yX6_bringLights, Cond.code yX6_bringLights cX6_bringLights 1 none, Cond.methodLink RX6 206 yX1_find, Cond.instanceMethod yX1_find]
theorem wk_19 : ∀ w ∈ wc_19, w ∈ gT := fun w h => by
  have hp : wc_19 = ([0, 1, 2, 3, 4, 5, 7, 8, 9, 10, 11, 12, 13, 14, 15, 16, 17, 18, 20, 21, 22, 23] : List Nat).filterMap (fun i => ((tables_1_2.drop 192).take 24)[i]?) := by decide +kernel
  have hg : wc_19.all goodWord = true := by decide +kernel
  have h2 := h
  rw [hp] at h2
  obtain ⟨i, -, hi⟩ := List.mem_filterMap.mp h2
  exact gT_tab (sub_2 (List.mem_of_mem_drop (List.mem_of_mem_take (List.mem_of_getElem? hi)))) (List.all_eq_true.mp hg w h)
theorem t_432 : Cond.selects RX0 yX0_isEdge yX0_isEdge ∈ gT := wk_19 _ (List.mem_of_getElem? (i := 0) rfl)
theorem t_433 : Cond.code yX0_isEdge cX0_isEdge 6 (some .boolean) ∈ gT := wk_19 _ (List.mem_of_getElem? (i := 1) rfl)
theorem t_434 : Cond.methodLink RX2 83 yJ9_min_7cf53 ∈ gT := wk_19 _ (List.mem_of_getElem? (i := 2) rfl)
theorem t_435 : Cond.static yJ9_min_7cf53 ∈ gT := wk_19 _ (List.mem_of_getElem? (i := 3) rfl)
theorem t_436 : Cond.code yJ9_min_7cf53 cJ9_min_7cf53 2 (some .int) ∈ gT := wk_19 _ (List.mem_of_getElem? (i := 4) rfl)
theorem t_437 : Cond.methodLink RX2 72 yX2_lower ∈ gT := wk_19 _ (List.mem_of_getElem? (i := 5) rfl)
theorem t_439 : Cond.instanceMethod yX2_lower ∈ gT := wk_19 _ (List.mem_of_getElem? (i := 6) rfl)
theorem t_440 : Cond.code yX2_lower cX2_lower 3 (some .boolean) ∈ gT := wk_19 _ (List.mem_of_getElem? (i := 7) rfl)
theorem t_441 : Cond.methodLink RX6 151 yX2_ofWhole ∈ gT := wk_19 _ (List.mem_of_getElem? (i := 8) rfl)
theorem t_442 : Cond.instanceMethod yX2_ofWhole ∈ gT := wk_19 _ (List.mem_of_getElem? (i := 9) rfl)
theorem t_443 : Cond.selects RX2 yX2_ofWhole yX2_ofWhole ∈ gT := wk_19 _ (List.mem_of_getElem? (i := 10) rfl)
theorem t_444 : Cond.code yX2_ofWhole cX2_ofWhole 3 (some .int) ∈ gT := wk_19 _ (List.mem_of_getElem? (i := 11) rfl)
theorem t_445 : Cond.constant RX6 155 (536870912) ∈ gT := wk_19 _ (List.mem_of_getElem? (i := 12) rfl)
theorem t_446 : Cond.methodLink RL 65 yX6_kinds ∈ gT := wk_19 _ (List.mem_of_getElem? (i := 13) rfl)
theorem t_447 : Cond.instanceMethod yX6_kinds ∈ gT := wk_19 _ (List.mem_of_getElem? (i := 14) rfl)
theorem t_448 : Cond.selects RX6 yX6_kinds yX6_kinds ∈ gT := wk_19 _ (List.mem_of_getElem? (i := 15) rfl)
theorem t_449 : Cond.code yX6_kinds cX6_kinds 4 (some .int) ∈ gT := wk_19 _ (List.mem_of_getElem? (i := 16) rfl)
theorem t_450 : Cond.methodLink RX6 156 yX6_bringLights ∈ gT := wk_19 _ (List.mem_of_getElem? (i := 17) rfl)
theorem t_452 : Cond.instanceMethod yX6_bringLights ∈ gT := wk_19 _ (List.mem_of_getElem? (i := 18) rfl)
theorem t_453 : Cond.code yX6_bringLights cX6_bringLights 1 none ∈ gT := wk_19 _ (List.mem_of_getElem? (i := 19) rfl)
theorem t_454 : Cond.methodLink RX6 206 yX1_find ∈ gT := wk_19 _ (List.mem_of_getElem? (i := 20) rfl)
theorem t_455 : Cond.instanceMethod yX1_find ∈ gT := wk_19 _ (List.mem_of_getElem? (i := 21) rfl)
def wc_20 : List Cond := [Cond.selects RX1 yX1_find yX1_find, Cond.code yX1_find cX1_find 5 none, Cond.methodLink RX1 45 yX1_forget, Cond.instanceMethod yX1_forget, Cond.code yX1_forget cX1_forget 2 none, Cond.constantLong RX1 29 (2305843009213693952), Cond.methodLink RX1 74 yJ7_fill_d0a16, Cond.static yJ7_fill_d0a16, Cond.code yJ7_fill_d0a16 cJ7_fill_d0a16 5 none, Cond.methodLink RX1 80 yJ7_fill_53178, Cond.methodLink RX1 48 yX1_offer, Cond.instanceMethod yX1_offer, Cond.code yX1_offer cX1_offer 7 none, Cond.methodLink RX1 52 yX1_nearest, Cond.instanceMethod yX1_nearest, Cond.code yX1_nearest cX1_nearest 5 (some .int), Cond.methodLink RX1 56 yX1_settle, Cond.instanceMethod yX1_settle, Cond.code yX1_settle cX1_settle 3 none, Cond.methodLink RX1 70 yX1_spread]
theorem wk_20 : ∀ w ∈ wc_20, w ∈ gT := fun w h => by
  have hp : wc_20 = ([0, 1, 2, 4, 5, 6, 7, 8, 9, 10, 11, 13, 14, 15, 17, 18, 19, 21, 22, 23] : List Nat).filterMap (fun i => ((tables_1_2.drop 216).take 24)[i]?) := by decide +kernel
  have hg : wc_20.all goodWord = true := by decide +kernel
  have h2 := h
  rw [hp] at h2
  obtain ⟨i, -, hi⟩ := List.mem_filterMap.mp h2
  exact gT_tab (sub_2 (List.mem_of_mem_drop (List.mem_of_mem_take (List.mem_of_getElem? hi)))) (List.all_eq_true.mp hg w h)
theorem t_456 : Cond.selects RX1 yX1_find yX1_find ∈ gT := wk_20 _ (List.mem_of_getElem? (i := 0) rfl)
theorem t_457 : Cond.code yX1_find cX1_find 5 none ∈ gT := wk_20 _ (List.mem_of_getElem? (i := 1) rfl)
theorem t_458 : Cond.methodLink RX1 45 yX1_forget ∈ gT := wk_20 _ (List.mem_of_getElem? (i := 2) rfl)
theorem t_460 : Cond.instanceMethod yX1_forget ∈ gT := wk_20 _ (List.mem_of_getElem? (i := 3) rfl)
theorem t_461 : Cond.code yX1_forget cX1_forget 2 none ∈ gT := wk_20 _ (List.mem_of_getElem? (i := 4) rfl)
theorem t_462 : Cond.constantLong RX1 29 (2305843009213693952) ∈ gT := wk_20 _ (List.mem_of_getElem? (i := 5) rfl)
theorem t_463 : Cond.methodLink RX1 74 yJ7_fill_d0a16 ∈ gT := wk_20 _ (List.mem_of_getElem? (i := 6) rfl)
theorem t_464 : Cond.static yJ7_fill_d0a16 ∈ gT := wk_20 _ (List.mem_of_getElem? (i := 7) rfl)
theorem t_465 : Cond.code yJ7_fill_d0a16 cJ7_fill_d0a16 5 none ∈ gT := wk_20 _ (List.mem_of_getElem? (i := 8) rfl)
theorem t_466 : Cond.methodLink RX1 80 yJ7_fill_53178 ∈ gT := wk_20 _ (List.mem_of_getElem? (i := 9) rfl)
theorem t_467 : Cond.methodLink RX1 48 yX1_offer ∈ gT := wk_20 _ (List.mem_of_getElem? (i := 10) rfl)
theorem t_469 : Cond.instanceMethod yX1_offer ∈ gT := wk_20 _ (List.mem_of_getElem? (i := 11) rfl)
theorem t_470 : Cond.code yX1_offer cX1_offer 7 none ∈ gT := wk_20 _ (List.mem_of_getElem? (i := 12) rfl)
theorem t_471 : Cond.methodLink RX1 52 yX1_nearest ∈ gT := wk_20 _ (List.mem_of_getElem? (i := 13) rfl)
theorem t_473 : Cond.instanceMethod yX1_nearest ∈ gT := wk_20 _ (List.mem_of_getElem? (i := 14) rfl)
theorem t_474 : Cond.code yX1_nearest cX1_nearest 5 (some .int) ∈ gT := wk_20 _ (List.mem_of_getElem? (i := 15) rfl)
theorem t_475 : Cond.methodLink RX1 56 yX1_settle ∈ gT := wk_20 _ (List.mem_of_getElem? (i := 16) rfl)
theorem t_477 : Cond.instanceMethod yX1_settle ∈ gT := wk_20 _ (List.mem_of_getElem? (i := 17) rfl)
theorem t_478 : Cond.code yX1_settle cX1_settle 3 none ∈ gT := wk_20 _ (List.mem_of_getElem? (i := 18) rfl)
theorem t_479 : Cond.methodLink RX1 70 yX1_spread ∈ gT := wk_20 _ (List.mem_of_getElem? (i := 19) rfl)
def wc_21 : List Cond := [Cond.instanceMethod yX1_spread, Cond.code yX1_spread cX1_spread 6 none, Cond.methodLink RX1 88 yX1_combine, Cond.instanceMethod yX1_combine, Cond.code yX1_combine cX1_combine 13 none, Cond.methodLink RX1 91 yX1_choices, Cond.instanceMethod yX1_choices, Cond.code yX1_choices cX1_choices 4 (some .int), Cond.methodLink RX1 95 yX1_settledKind, Cond.instanceMethod yX1_settledKind, Cond.code yX1_settledKind cX1_settledKind 4 (some .int), Cond.methodLink RX1 98 yX1_stepsIn, Cond.instanceMethod yX1_stepsIn, Cond.code yX1_stepsIn cX1_stepsIn 4 (some .long), Cond.methodLink RX1 105 yX4_kindFrom, Cond.instanceMethod yX4_kindFrom, Cond.selects RX4 yX4_kindFrom yX4_kindFrom, Cond.code yX4_kindFrom cX4_kindFrom 6 (some .int), Cond.methodLink RX6 159 yX1_reaches]
theorem wk_21 : ∀ w ∈ wc_21, w ∈ gT := fun w h => by
  have hp : wc_21 = ([1, 2, 3, 5, 6, 7, 9, 10, 11, 13, 14, 15, 17, 18, 19, 20, 21, 22, 23] : List Nat).filterMap (fun i => ((tables_1_3.drop 0).take 24)[i]?) := by decide +kernel
  have hg : wc_21.all goodWord = true := by decide +kernel
  have h2 := h
  rw [hp] at h2
  obtain ⟨i, -, hi⟩ := List.mem_filterMap.mp h2
  exact gT_tab (sub_3 (List.mem_of_mem_drop (List.mem_of_mem_take (List.mem_of_getElem? hi)))) (List.all_eq_true.mp hg w h)
theorem t_481 : Cond.instanceMethod yX1_spread ∈ gT := wk_21 _ (List.mem_of_getElem? (i := 0) rfl)
theorem t_482 : Cond.code yX1_spread cX1_spread 6 none ∈ gT := wk_21 _ (List.mem_of_getElem? (i := 1) rfl)
theorem t_483 : Cond.methodLink RX1 88 yX1_combine ∈ gT := wk_21 _ (List.mem_of_getElem? (i := 2) rfl)
theorem t_485 : Cond.instanceMethod yX1_combine ∈ gT := wk_21 _ (List.mem_of_getElem? (i := 3) rfl)
theorem t_486 : Cond.code yX1_combine cX1_combine 13 none ∈ gT := wk_21 _ (List.mem_of_getElem? (i := 4) rfl)
theorem t_487 : Cond.methodLink RX1 91 yX1_choices ∈ gT := wk_21 _ (List.mem_of_getElem? (i := 5) rfl)
theorem t_489 : Cond.instanceMethod yX1_choices ∈ gT := wk_21 _ (List.mem_of_getElem? (i := 6) rfl)
theorem t_490 : Cond.code yX1_choices cX1_choices 4 (some .int) ∈ gT := wk_21 _ (List.mem_of_getElem? (i := 7) rfl)
theorem t_491 : Cond.methodLink RX1 95 yX1_settledKind ∈ gT := wk_21 _ (List.mem_of_getElem? (i := 8) rfl)
theorem t_493 : Cond.instanceMethod yX1_settledKind ∈ gT := wk_21 _ (List.mem_of_getElem? (i := 9) rfl)
theorem t_494 : Cond.code yX1_settledKind cX1_settledKind 4 (some .int) ∈ gT := wk_21 _ (List.mem_of_getElem? (i := 10) rfl)
theorem t_495 : Cond.methodLink RX1 98 yX1_stepsIn ∈ gT := wk_21 _ (List.mem_of_getElem? (i := 11) rfl)
theorem t_497 : Cond.instanceMethod yX1_stepsIn ∈ gT := wk_21 _ (List.mem_of_getElem? (i := 12) rfl)
theorem t_498 : Cond.code yX1_stepsIn cX1_stepsIn 4 (some .long) ∈ gT := wk_21 _ (List.mem_of_getElem? (i := 13) rfl)
theorem t_499 : Cond.methodLink RX1 105 yX4_kindFrom ∈ gT := wk_21 _ (List.mem_of_getElem? (i := 14) rfl)
theorem t_500 : Cond.instanceMethod yX4_kindFrom ∈ gT := wk_21 _ (List.mem_of_getElem? (i := 15) rfl)
theorem t_501 : Cond.selects RX4 yX4_kindFrom yX4_kindFrom ∈ gT := wk_21 _ (List.mem_of_getElem? (i := 16) rfl)
theorem t_502 : Cond.code yX4_kindFrom cX4_kindFrom 6 (some .int) ∈ gT := wk_21 _ (List.mem_of_getElem? (i := 17) rfl)
theorem t_503 : Cond.methodLink RX6 159 yX1_reaches ∈ gT := wk_21 _ (List.mem_of_getElem? (i := 18) rfl)
def wc_22 : List Cond := [Cond.instanceMethod yX1_reaches, Cond.selects RX1 yX1_reaches yX1_reaches, Cond.code yX1_reaches cX1_reaches 3 (some .boolean), Cond.methodLink RL 69 yX6_light, Cond.instanceMethod yX6_light, Cond.selects RX6 yX6_light yX6_light, Cond.code yX6_light cX6_light 4 (some .int), Cond.methodLink RX6 163 yX1_stepsTo, Cond.instanceMethod yX1_stepsTo, Cond.selects RX1 yX1_stepsTo yX1_stepsTo, Cond.code yX1_stepsTo cX1_stepsTo 3 (some .int), Cond.methodLink RX1 31 yX1_reaches, Cond.constantLong RX1 37 (2147483647), Cond.methodLink RX1 39 yJ9_min_f86c9, Cond.static yJ9_min_f86c9, Cond.code yJ9_min_f86c9 cJ9_min_f86c9 4 (some .long), Cond.methodLink RX6 167 yX1_firstTo, Cond.instanceMethod yX1_firstTo, Cond.selects RX1 yX1_firstTo yX1_firstTo, Cond.code yX1_firstTo cX1_firstTo 3 (some .int), Cond.methodLink RL 74 yX6_count, Cond.instanceMethod yX6_count, Cond.selects RX6 yX6_count yX6_count, Cond.code yX6_count cX6_count 2 (some .int)]
theorem wk_22 : ∀ w ∈ wc_22, w ∈ gT := fun w h => by
  have hp : wc_22 = ([0, 1, 2, 3, 4, 5, 6, 7, 8, 9, 10, 11, 12, 13, 14, 15, 16, 17, 18, 19, 20, 21, 22, 23] : List Nat).filterMap (fun i => ((tables_1_3.drop 24).take 24)[i]?) := by decide +kernel
  have hg : wc_22.all goodWord = true := by decide +kernel
  have h2 := h
  rw [hp] at h2
  obtain ⟨i, -, hi⟩ := List.mem_filterMap.mp h2
  exact gT_tab (sub_3 (List.mem_of_mem_drop (List.mem_of_mem_take (List.mem_of_getElem? hi)))) (List.all_eq_true.mp hg w h)
theorem t_504 : Cond.instanceMethod yX1_reaches ∈ gT := wk_22 _ (List.mem_of_getElem? (i := 0) rfl)
theorem t_505 : Cond.selects RX1 yX1_reaches yX1_reaches ∈ gT := wk_22 _ (List.mem_of_getElem? (i := 1) rfl)
theorem t_506 : Cond.code yX1_reaches cX1_reaches 3 (some .boolean) ∈ gT := wk_22 _ (List.mem_of_getElem? (i := 2) rfl)
theorem t_507 : Cond.methodLink RL 69 yX6_light ∈ gT := wk_22 _ (List.mem_of_getElem? (i := 3) rfl)
theorem t_508 : Cond.instanceMethod yX6_light ∈ gT := wk_22 _ (List.mem_of_getElem? (i := 4) rfl)
theorem t_509 : Cond.selects RX6 yX6_light yX6_light ∈ gT := wk_22 _ (List.mem_of_getElem? (i := 5) rfl)
theorem t_510 : Cond.code yX6_light cX6_light 4 (some .int) ∈ gT := wk_22 _ (List.mem_of_getElem? (i := 6) rfl)
theorem t_511 : Cond.methodLink RX6 163 yX1_stepsTo ∈ gT := wk_22 _ (List.mem_of_getElem? (i := 7) rfl)
theorem t_512 : Cond.instanceMethod yX1_stepsTo ∈ gT := wk_22 _ (List.mem_of_getElem? (i := 8) rfl)
theorem t_513 : Cond.selects RX1 yX1_stepsTo yX1_stepsTo ∈ gT := wk_22 _ (List.mem_of_getElem? (i := 9) rfl)
theorem t_514 : Cond.code yX1_stepsTo cX1_stepsTo 3 (some .int) ∈ gT := wk_22 _ (List.mem_of_getElem? (i := 10) rfl)
theorem t_515 : Cond.methodLink RX1 31 yX1_reaches ∈ gT := wk_22 _ (List.mem_of_getElem? (i := 11) rfl)
theorem t_516 : Cond.constantLong RX1 37 (2147483647) ∈ gT := wk_22 _ (List.mem_of_getElem? (i := 12) rfl)
theorem t_517 : Cond.methodLink RX1 39 yJ9_min_f86c9 ∈ gT := wk_22 _ (List.mem_of_getElem? (i := 13) rfl)
theorem t_518 : Cond.static yJ9_min_f86c9 ∈ gT := wk_22 _ (List.mem_of_getElem? (i := 14) rfl)
theorem t_519 : Cond.code yJ9_min_f86c9 cJ9_min_f86c9 4 (some .long) ∈ gT := wk_22 _ (List.mem_of_getElem? (i := 15) rfl)
theorem t_520 : Cond.methodLink RX6 167 yX1_firstTo ∈ gT := wk_22 _ (List.mem_of_getElem? (i := 16) rfl)
theorem t_521 : Cond.instanceMethod yX1_firstTo ∈ gT := wk_22 _ (List.mem_of_getElem? (i := 17) rfl)
theorem t_522 : Cond.selects RX1 yX1_firstTo yX1_firstTo ∈ gT := wk_22 _ (List.mem_of_getElem? (i := 18) rfl)
theorem t_523 : Cond.code yX1_firstTo cX1_firstTo 3 (some .int) ∈ gT := wk_22 _ (List.mem_of_getElem? (i := 19) rfl)
theorem t_524 : Cond.methodLink RL 74 yX6_count ∈ gT := wk_22 _ (List.mem_of_getElem? (i := 20) rfl)
theorem t_525 : Cond.instanceMethod yX6_count ∈ gT := wk_22 _ (List.mem_of_getElem? (i := 21) rfl)
theorem t_526 : Cond.selects RX6 yX6_count yX6_count ∈ gT := wk_22 _ (List.mem_of_getElem? (i := 22) rfl)
theorem t_527 : Cond.code yX6_count cX6_count 2 (some .int) ∈ gT := wk_22 _ (List.mem_of_getElem? (i := 23) rfl)
def wc_23 : List Cond := [Cond.methodLink RX6 170 yX0_openEdges, Cond.methodLink RL 78 yX6_digest, Cond.instanceMethod yX6_digest, Cond.selects RX6 yX6_digest yX6_digest, Cond.code yX6_digest cX6_digest 5 (some .long), Cond.constantLong RX6 173 (1709), Cond.methodLink RX6 175 yX6_of, Cond.methodLink RX6 178 yX6_mix, Cond.static yX6_mix, Cond.code yX6_mix cX6_mix 3 (some .long), Cond.constantLong RX6 204 (31), Cond.methodLink RX6 182 yX6_edge, Cond.methodLink RX6 185 yX6_kind, Cond.methodLink RX6 188 yX6_fewest, Cond.methodLink RX6 191 yX6_kinds, Cond.methodLink RX6 194 yX6_light, Cond.methodLink RX6 201 yX6_count, Cond.classLink RL 10 RX7, Cond.instantiable RX7 27, Cond.methodLink RL 12 yX7_init, Cond.instanceMethod yX7_init, Cond.code yX7_init cX7_init 1 none, Cond.methodLink RX7 1 objectInit, Cond.fieldLink RX7 54 "GrownGraphsModel" "pageLength" "I"]
theorem wk_23 : ∀ w ∈ wc_23, w ∈ gT := fun w h => by
  have hp : wc_23 = ([0, 1, 2, 3, 4, 5, 6, 7, 8, 9, 10, 11, 12, 13, 14, 15, 16, 17, 18, 19, 20, 21, 22, 23] : List Nat).filterMap (fun i => ((tables_1_3.drop 48).take 24)[i]?) := by decide +kernel
  have hg : wc_23.all goodWord = true := by decide +kernel
  have h2 := h
  rw [hp] at h2
  obtain ⟨i, -, hi⟩ := List.mem_filterMap.mp h2
  exact gT_tab (sub_3 (List.mem_of_mem_drop (List.mem_of_mem_take (List.mem_of_getElem? hi)))) (List.all_eq_true.mp hg w h)
theorem t_528 : Cond.methodLink RX6 170 yX0_openEdges ∈ gT := wk_23 _ (List.mem_of_getElem? (i := 0) rfl)
theorem t_529 : Cond.methodLink RL 78 yX6_digest ∈ gT := wk_23 _ (List.mem_of_getElem? (i := 1) rfl)
theorem t_530 : Cond.instanceMethod yX6_digest ∈ gT := wk_23 _ (List.mem_of_getElem? (i := 2) rfl)
theorem t_531 : Cond.selects RX6 yX6_digest yX6_digest ∈ gT := wk_23 _ (List.mem_of_getElem? (i := 3) rfl)
theorem t_532 : Cond.code yX6_digest cX6_digest 5 (some .long) ∈ gT := wk_23 _ (List.mem_of_getElem? (i := 4) rfl)
theorem t_533 : Cond.constantLong RX6 173 (1709) ∈ gT := wk_23 _ (List.mem_of_getElem? (i := 5) rfl)
theorem t_534 : Cond.methodLink RX6 175 yX6_of ∈ gT := wk_23 _ (List.mem_of_getElem? (i := 6) rfl)
theorem t_535 : Cond.methodLink RX6 178 yX6_mix ∈ gT := wk_23 _ (List.mem_of_getElem? (i := 7) rfl)
theorem t_536 : Cond.static yX6_mix ∈ gT := wk_23 _ (List.mem_of_getElem? (i := 8) rfl)
theorem t_537 : Cond.code yX6_mix cX6_mix 3 (some .long) ∈ gT := wk_23 _ (List.mem_of_getElem? (i := 9) rfl)
theorem t_538 : Cond.constantLong RX6 204 (31) ∈ gT := wk_23 _ (List.mem_of_getElem? (i := 10) rfl)
theorem t_539 : Cond.methodLink RX6 182 yX6_edge ∈ gT := wk_23 _ (List.mem_of_getElem? (i := 11) rfl)
theorem t_540 : Cond.methodLink RX6 185 yX6_kind ∈ gT := wk_23 _ (List.mem_of_getElem? (i := 12) rfl)
theorem t_541 : Cond.methodLink RX6 188 yX6_fewest ∈ gT := wk_23 _ (List.mem_of_getElem? (i := 13) rfl)
theorem t_542 : Cond.methodLink RX6 191 yX6_kinds ∈ gT := wk_23 _ (List.mem_of_getElem? (i := 14) rfl)
theorem t_543 : Cond.methodLink RX6 194 yX6_light ∈ gT := wk_23 _ (List.mem_of_getElem? (i := 15) rfl)
theorem t_544 : Cond.methodLink RX6 201 yX6_count ∈ gT := wk_23 _ (List.mem_of_getElem? (i := 16) rfl)
theorem t_545 : Cond.classLink RL 10 RX7 ∈ gT := wk_23 _ (List.mem_of_getElem? (i := 17) rfl)
theorem t_546 : Cond.instantiable RX7 27 ∈ gT := wk_23 _ (List.mem_of_getElem? (i := 18) rfl)
theorem t_547 : Cond.methodLink RL 12 yX7_init ∈ gT := wk_23 _ (List.mem_of_getElem? (i := 19) rfl)
theorem t_548 : Cond.instanceMethod yX7_init ∈ gT := wk_23 _ (List.mem_of_getElem? (i := 20) rfl)
theorem t_549 : Cond.code yX7_init cX7_init 1 none ∈ gT := wk_23 _ (List.mem_of_getElem? (i := 21) rfl)
theorem t_550 : Cond.methodLink RX7 1 objectInit ∈ gT := wk_23 _ (List.mem_of_getElem? (i := 22) rfl)
theorem t_551 : Cond.fieldLink RX7 54 "GrownGraphsModel" "pageLength" "I" ∈ gT := wk_23 _ (List.mem_of_getElem? (i := 23) rfl)
def wc_24 : List Cond := [Cond.fieldLink RX7 7 "GrownGraphsModel" "page" "[I", Cond.fieldLink RX7 94 "GrownGraphsModel" "rules" "I", Cond.fieldLink RX7 13 "GrownGraphsModel" "ruleOf" "[I", Cond.fieldLink RX7 16 "GrownGraphsModel" "ruleEdges" "[I", Cond.fieldLink RX7 19 "GrownGraphsModel" "ruleNodes" "[I", Cond.fieldLink RX7 22 "GrownGraphsModel" "ruleEdge" "[I", Cond.fieldLink RX7 108 "GrownGraphsModel" "edges" "I", Cond.fieldLink RX7 111 "GrownGraphsModel" "nodes" "I", Cond.fieldLink RX7 25 "GrownGraphsModel" "edgeAt" "[I", Cond.fieldLink RX7 114 "GrownGraphsModel" "steps" "I", Cond.fieldLink RX7 139 "GrownGraphsModel" "stepsEver" "I", Cond.fieldLink RX7 117 "GrownGraphsModel" "begun" "I", Cond.fieldLink RX7 68 "GrownGraphsModel" "newMany" "I", Cond.fieldLink RX7 28 "GrownGraphsModel" "newEdge" "[I", Cond.fieldLink RX7 71 "GrownGraphsModel" "newNodes" "I", Cond.fieldLink RX7 58 "GrownGraphsModel" "newStage" "I", Cond.fieldLink RX7 65 "GrownGraphsModel" "newNow" "I", Cond.fieldLink RX7 159 "GrownGraphsModel" "isLaid" "Z", Cond.fieldLink RX7 31 "GrownGraphsModel" "fewestAt" "[I", Cond.fieldLink RX7 34 "GrownGraphsModel" "nodesOf" "[I", Cond.fieldLink RX7 37 "GrownGraphsModel" "nodeAt" "[I", Cond.fieldLink RX7 163 "GrownGraphsModel" "isLightLaid" "Z", Cond.fieldLink RX7 40 "GrownGraphsModel" "lightAt" "[J", Cond.fieldLink RX7 44 "GrownGraphsModel" "firstAt" "[I"]
theorem wk_24 : ∀ w ∈ wc_24, w ∈ gT := fun w h => by
  have hp : wc_24 = ([0, 1, 2, 3, 4, 5, 6, 7, 8, 9, 10, 11, 12, 13, 14, 15, 16, 17, 18, 19, 20, 21, 22, 23] : List Nat).filterMap (fun i => ((tables_1_3.drop 72).take 24)[i]?) := by decide +kernel
  have hg : wc_24.all goodWord = true := by decide +kernel
  have h2 := h
  rw [hp] at h2
  obtain ⟨i, -, hi⟩ := List.mem_filterMap.mp h2
  exact gT_tab (sub_3 (List.mem_of_mem_drop (List.mem_of_mem_take (List.mem_of_getElem? hi)))) (List.all_eq_true.mp hg w h)
theorem t_552 : Cond.fieldLink RX7 7 "GrownGraphsModel" "page" "[I" ∈ gT := wk_24 _ (List.mem_of_getElem? (i := 0) rfl)
theorem t_553 : Cond.fieldLink RX7 94 "GrownGraphsModel" "rules" "I" ∈ gT := wk_24 _ (List.mem_of_getElem? (i := 1) rfl)
theorem t_554 : Cond.fieldLink RX7 13 "GrownGraphsModel" "ruleOf" "[I" ∈ gT := wk_24 _ (List.mem_of_getElem? (i := 2) rfl)
theorem t_555 : Cond.fieldLink RX7 16 "GrownGraphsModel" "ruleEdges" "[I" ∈ gT := wk_24 _ (List.mem_of_getElem? (i := 3) rfl)
theorem t_556 : Cond.fieldLink RX7 19 "GrownGraphsModel" "ruleNodes" "[I" ∈ gT := wk_24 _ (List.mem_of_getElem? (i := 4) rfl)
theorem t_557 : Cond.fieldLink RX7 22 "GrownGraphsModel" "ruleEdge" "[I" ∈ gT := wk_24 _ (List.mem_of_getElem? (i := 5) rfl)
theorem t_558 : Cond.fieldLink RX7 108 "GrownGraphsModel" "edges" "I" ∈ gT := wk_24 _ (List.mem_of_getElem? (i := 6) rfl)
theorem t_559 : Cond.fieldLink RX7 111 "GrownGraphsModel" "nodes" "I" ∈ gT := wk_24 _ (List.mem_of_getElem? (i := 7) rfl)
theorem t_560 : Cond.fieldLink RX7 25 "GrownGraphsModel" "edgeAt" "[I" ∈ gT := wk_24 _ (List.mem_of_getElem? (i := 8) rfl)
theorem t_561 : Cond.fieldLink RX7 114 "GrownGraphsModel" "steps" "I" ∈ gT := wk_24 _ (List.mem_of_getElem? (i := 9) rfl)
theorem t_562 : Cond.fieldLink RX7 139 "GrownGraphsModel" "stepsEver" "I" ∈ gT := wk_24 _ (List.mem_of_getElem? (i := 10) rfl)
theorem t_563 : Cond.fieldLink RX7 117 "GrownGraphsModel" "begun" "I" ∈ gT := wk_24 _ (List.mem_of_getElem? (i := 11) rfl)
theorem t_564 : Cond.fieldLink RX7 68 "GrownGraphsModel" "newMany" "I" ∈ gT := wk_24 _ (List.mem_of_getElem? (i := 12) rfl)
theorem t_565 : Cond.fieldLink RX7 28 "GrownGraphsModel" "newEdge" "[I" ∈ gT := wk_24 _ (List.mem_of_getElem? (i := 13) rfl)
theorem t_566 : Cond.fieldLink RX7 71 "GrownGraphsModel" "newNodes" "I" ∈ gT := wk_24 _ (List.mem_of_getElem? (i := 14) rfl)
theorem t_567 : Cond.fieldLink RX7 58 "GrownGraphsModel" "newStage" "I" ∈ gT := wk_24 _ (List.mem_of_getElem? (i := 15) rfl)
theorem t_568 : Cond.fieldLink RX7 65 "GrownGraphsModel" "newNow" "I" ∈ gT := wk_24 _ (List.mem_of_getElem? (i := 16) rfl)
theorem t_569 : Cond.fieldLink RX7 159 "GrownGraphsModel" "isLaid" "Z" ∈ gT := wk_24 _ (List.mem_of_getElem? (i := 17) rfl)
theorem t_570 : Cond.fieldLink RX7 31 "GrownGraphsModel" "fewestAt" "[I" ∈ gT := wk_24 _ (List.mem_of_getElem? (i := 18) rfl)
theorem t_571 : Cond.fieldLink RX7 34 "GrownGraphsModel" "nodesOf" "[I" ∈ gT := wk_24 _ (List.mem_of_getElem? (i := 19) rfl)
theorem t_572 : Cond.fieldLink RX7 37 "GrownGraphsModel" "nodeAt" "[I" ∈ gT := wk_24 _ (List.mem_of_getElem? (i := 20) rfl)
theorem t_573 : Cond.fieldLink RX7 163 "GrownGraphsModel" "isLightLaid" "Z" ∈ gT := wk_24 _ (List.mem_of_getElem? (i := 21) rfl)
theorem t_574 : Cond.fieldLink RX7 40 "GrownGraphsModel" "lightAt" "[J" ∈ gT := wk_24 _ (List.mem_of_getElem? (i := 22) rfl)
theorem t_575 : Cond.fieldLink RX7 44 "GrownGraphsModel" "firstAt" "[I" ∈ gT := wk_24 _ (List.mem_of_getElem? (i := 23) rfl)
def wc_25 : List Cond := [Cond.fieldLink RX7 47 "GrownGraphsModel" "classNow" "[I", Cond.fieldLink RX7 243 "GrownGraphsModel" "h" "J"]
theorem wk_25 : ∀ w ∈ wc_25, w ∈ gT := fun w h => by
  have hp : wc_25 = ([0, 1] : List Nat).filterMap (fun i => ((tables_1_3.drop 96).take 24)[i]?) := by decide +kernel
  have hg : wc_25.all goodWord = true := by decide +kernel
  have h2 := h
  rw [hp] at h2
  obtain ⟨i, -, hi⟩ := List.mem_filterMap.mp h2
  exact gT_tab (sub_3 (List.mem_of_mem_drop (List.mem_of_mem_take (List.mem_of_getElem? hi)))) (List.all_eq_true.mp hg w h)
theorem t_576 : Cond.fieldLink RX7 47 "GrownGraphsModel" "classNow" "[I" ∈ gT := wk_25 _ (List.mem_of_getElem? (i := 0) rfl)
theorem t_577 : Cond.fieldLink RX7 243 "GrownGraphsModel" "h" "J" ∈ gT := wk_25 _ (List.mem_of_getElem? (i := 1) rfl)
def wc_26 : List Cond := [Cond.methodLink RL 17 yX7_letter, Cond.instanceMethod yX7_letter, Cond.selects RX7 yX7_letter yX7_letter, Cond.code yX7_letter cX7_letter 2 (some .int), Cond.methodLink RX7 50 yX7_within, Cond.static yX7_within, Cond.code yX7_within cX7_within 3 (some .boolean), Cond.methodLink RL 22 yX7_blank, Cond.instanceMethod yX7_blank, Cond.selects RX7 yX7_blank yX7_blank, Cond.code yX7_blank cX7_blank 2 (some .int), Cond.methodLink RL 27 yX7_fault, Cond.instanceMethod yX7_fault, Cond.selects RX7 yX7_fault yX7_fault, Cond.code yX7_fault cX7_fault 2 (some .int)]
theorem wk_26 : ∀ w ∈ wc_26, w ∈ gT := fun w h => by
  have hp : wc_26 = ([9, 10, 11, 12, 13, 14, 15, 16, 17, 18, 19, 20, 21, 22, 23] : List Nat).filterMap (fun i => ((tables_1_3.drop 144).take 24)[i]?) := by decide +kernel
  have hg : wc_26.all goodWord = true := by decide +kernel
  have h2 := h
  rw [hp] at h2
  obtain ⟨i, -, hi⟩ := List.mem_filterMap.mp h2
  exact gT_tab (sub_3 (List.mem_of_mem_drop (List.mem_of_mem_take (List.mem_of_getElem? hi)))) (List.all_eq_true.mp hg w h)
theorem t_633 : Cond.methodLink RL 17 yX7_letter ∈ gT := wk_26 _ (List.mem_of_getElem? (i := 0) rfl)
theorem t_634 : Cond.instanceMethod yX7_letter ∈ gT := wk_26 _ (List.mem_of_getElem? (i := 1) rfl)
theorem t_635 : Cond.selects RX7 yX7_letter yX7_letter ∈ gT := wk_26 _ (List.mem_of_getElem? (i := 2) rfl)
theorem t_636 : Cond.code yX7_letter cX7_letter 2 (some .int) ∈ gT := wk_26 _ (List.mem_of_getElem? (i := 3) rfl)
theorem t_637 : Cond.methodLink RX7 50 yX7_within ∈ gT := wk_26 _ (List.mem_of_getElem? (i := 4) rfl)
theorem t_638 : Cond.static yX7_within ∈ gT := wk_26 _ (List.mem_of_getElem? (i := 5) rfl)
theorem t_639 : Cond.code yX7_within cX7_within 3 (some .boolean) ∈ gT := wk_26 _ (List.mem_of_getElem? (i := 6) rfl)
theorem t_640 : Cond.methodLink RL 22 yX7_blank ∈ gT := wk_26 _ (List.mem_of_getElem? (i := 7) rfl)
theorem t_641 : Cond.instanceMethod yX7_blank ∈ gT := wk_26 _ (List.mem_of_getElem? (i := 8) rfl)
theorem t_642 : Cond.selects RX7 yX7_blank yX7_blank ∈ gT := wk_26 _ (List.mem_of_getElem? (i := 9) rfl)
theorem t_643 : Cond.code yX7_blank cX7_blank 2 (some .int) ∈ gT := wk_26 _ (List.mem_of_getElem? (i := 10) rfl)
theorem t_644 : Cond.methodLink RL 27 yX7_fault ∈ gT := wk_26 _ (List.mem_of_getElem? (i := 11) rfl)
theorem t_645 : Cond.instanceMethod yX7_fault ∈ gT := wk_26 _ (List.mem_of_getElem? (i := 12) rfl)
theorem t_646 : Cond.selects RX7 yX7_fault yX7_fault ∈ gT := wk_26 _ (List.mem_of_getElem? (i := 13) rfl)
theorem t_647 : Cond.code yX7_fault cX7_fault 2 (some .int) ∈ gT := wk_26 _ (List.mem_of_getElem? (i := 14) rfl)
def wc_27 : List Cond := [Cond.methodLink RX7 82 yX7_read, Cond.instanceMethod yX7_read, Cond.code yX7_read cX7_read 3 (some .int), Cond.methodLink RX7 78 yX7_takes, Cond.instanceMethod yX7_takes, Cond.code yX7_takes cX7_takes 4 (some .boolean), Cond.methodLink RX7 74 yX7_takesEdge, Cond.instanceMethod yX7_takesEdge, Cond.code yX7_takesEdge cX7_takesEdge 4 (some .boolean), Cond.methodLink RX7 61 yX7_letterAt, Cond.static yX7_letterAt, Cond.code yX7_letterAt cX7_letterAt 2 (some .int), Cond.methodLink RL 31 yX7_rule, Cond.instanceMethod yX7_rule, Cond.selects RX7 yX7_rule yX7_rule, Cond.code yX7_rule cX7_rule 3 (some .int), Cond.methodLink RX7 86 yX7_isWhole, Cond.instanceMethod yX7_isWhole, Cond.code yX7_isWhole cX7_isWhole 2 (some .boolean), Cond.methodLink RX7 90 yX7_has]
theorem wk_27 : ∀ w ∈ wc_27, w ∈ gT := fun w h => by
  have hp : wc_27 = ([0, 2, 3, 4, 6, 7, 8, 10, 11, 12, 13, 14, 15, 16, 17, 18, 19, 21, 22, 23] : List Nat).filterMap (fun i => ((tables_1_3.drop 168).take 24)[i]?) := by decide +kernel
  have hg : wc_27.all goodWord = true := by decide +kernel
  have h2 := h
  rw [hp] at h2
  obtain ⟨i, -, hi⟩ := List.mem_filterMap.mp h2
  exact gT_tab (sub_3 (List.mem_of_mem_drop (List.mem_of_mem_take (List.mem_of_getElem? hi)))) (List.all_eq_true.mp hg w h)
theorem t_648 : Cond.methodLink RX7 82 yX7_read ∈ gT := wk_27 _ (List.mem_of_getElem? (i := 0) rfl)
theorem t_650 : Cond.instanceMethod yX7_read ∈ gT := wk_27 _ (List.mem_of_getElem? (i := 1) rfl)
theorem t_651 : Cond.code yX7_read cX7_read 3 (some .int) ∈ gT := wk_27 _ (List.mem_of_getElem? (i := 2) rfl)
theorem t_652 : Cond.methodLink RX7 78 yX7_takes ∈ gT := wk_27 _ (List.mem_of_getElem? (i := 3) rfl)
theorem t_654 : Cond.instanceMethod yX7_takes ∈ gT := wk_27 _ (List.mem_of_getElem? (i := 4) rfl)
theorem t_655 : Cond.code yX7_takes cX7_takes 4 (some .boolean) ∈ gT := wk_27 _ (List.mem_of_getElem? (i := 5) rfl)
theorem t_656 : Cond.methodLink RX7 74 yX7_takesEdge ∈ gT := wk_27 _ (List.mem_of_getElem? (i := 6) rfl)
theorem t_658 : Cond.instanceMethod yX7_takesEdge ∈ gT := wk_27 _ (List.mem_of_getElem? (i := 7) rfl)
theorem t_659 : Cond.code yX7_takesEdge cX7_takesEdge 4 (some .boolean) ∈ gT := wk_27 _ (List.mem_of_getElem? (i := 8) rfl)
theorem t_660 : Cond.methodLink RX7 61 yX7_letterAt ∈ gT := wk_27 _ (List.mem_of_getElem? (i := 9) rfl)
theorem t_661 : Cond.static yX7_letterAt ∈ gT := wk_27 _ (List.mem_of_getElem? (i := 10) rfl)
theorem t_662 : Cond.code yX7_letterAt cX7_letterAt 2 (some .int) ∈ gT := wk_27 _ (List.mem_of_getElem? (i := 11) rfl)
theorem t_663 : Cond.methodLink RL 31 yX7_rule ∈ gT := wk_27 _ (List.mem_of_getElem? (i := 12) rfl)
theorem t_664 : Cond.instanceMethod yX7_rule ∈ gT := wk_27 _ (List.mem_of_getElem? (i := 13) rfl)
theorem t_665 : Cond.selects RX7 yX7_rule yX7_rule ∈ gT := wk_27 _ (List.mem_of_getElem? (i := 14) rfl)
theorem t_666 : Cond.code yX7_rule cX7_rule 3 (some .int) ∈ gT := wk_27 _ (List.mem_of_getElem? (i := 15) rfl)
theorem t_667 : Cond.methodLink RX7 86 yX7_isWhole ∈ gT := wk_27 _ (List.mem_of_getElem? (i := 16) rfl)
theorem t_669 : Cond.instanceMethod yX7_isWhole ∈ gT := wk_27 _ (List.mem_of_getElem? (i := 17) rfl)
theorem t_670 : Cond.code yX7_isWhole cX7_isWhole 2 (some .boolean) ∈ gT := wk_27 _ (List.mem_of_getElem? (i := 18) rfl)
theorem t_671 : Cond.methodLink RX7 90 yX7_has ∈ gT := wk_27 _ (List.mem_of_getElem? (i := 19) rfl)
def wc_28 : List Cond := [Cond.static yX7_has, Cond.code yX7_has cX7_has 2 (some .boolean), Cond.methodLink RX7 97 yX7_above, Cond.static yX7_above, Cond.code yX7_above cX7_above 2 (some .int), Cond.methodLink RX7 101 yX7_altered, Cond.instanceMethod yX7_altered, Cond.code yX7_altered cX7_altered 1 none, Cond.methodLink RL 35 yX7_drop, Cond.instanceMethod yX7_drop, Cond.selects RX7 yX7_drop yX7_drop, Cond.code yX7_drop cX7_drop 4 (some .int), Cond.methodLink RX7 104 yX7_isRule, Cond.instanceMethod yX7_isRule, Cond.code yX7_isRule cX7_isRule 2 (some .boolean), Cond.methodLink RL 39 yX7_graph, Cond.instanceMethod yX7_graph, Cond.selects RX7 yX7_graph yX7_graph, Cond.code yX7_graph cX7_graph 3 (some .int), Cond.methodLink RL 44 yX7_of, Cond.instanceMethod yX7_of, Cond.selects RX7 yX7_of yX7_of]
theorem wk_28 : ∀ w ∈ wc_28, w ∈ gT := fun w h => by
  have hp : wc_28 = ([0, 1, 2, 3, 4, 5, 7, 8, 9, 10, 11, 12, 13, 15, 16, 17, 18, 19, 20, 21, 22, 23] : List Nat).filterMap (fun i => ((tables_1_3.drop 192).take 24)[i]?) := by decide +kernel
  have hg : wc_28.all goodWord = true := by decide +kernel
  have h2 := h
  rw [hp] at h2
  obtain ⟨i, -, hi⟩ := List.mem_filterMap.mp h2
  exact gT_tab (sub_3 (List.mem_of_mem_drop (List.mem_of_mem_take (List.mem_of_getElem? hi)))) (List.all_eq_true.mp hg w h)
theorem t_672 : Cond.static yX7_has ∈ gT := wk_28 _ (List.mem_of_getElem? (i := 0) rfl)
theorem t_673 : Cond.code yX7_has cX7_has 2 (some .boolean) ∈ gT := wk_28 _ (List.mem_of_getElem? (i := 1) rfl)
theorem t_674 : Cond.methodLink RX7 97 yX7_above ∈ gT := wk_28 _ (List.mem_of_getElem? (i := 2) rfl)
theorem t_675 : Cond.static yX7_above ∈ gT := wk_28 _ (List.mem_of_getElem? (i := 3) rfl)
theorem t_676 : Cond.code yX7_above cX7_above 2 (some .int) ∈ gT := wk_28 _ (List.mem_of_getElem? (i := 4) rfl)
theorem t_677 : Cond.methodLink RX7 101 yX7_altered ∈ gT := wk_28 _ (List.mem_of_getElem? (i := 5) rfl)
theorem t_679 : Cond.instanceMethod yX7_altered ∈ gT := wk_28 _ (List.mem_of_getElem? (i := 6) rfl)
theorem t_680 : Cond.code yX7_altered cX7_altered 1 none ∈ gT := wk_28 _ (List.mem_of_getElem? (i := 7) rfl)
theorem t_681 : Cond.methodLink RL 35 yX7_drop ∈ gT := wk_28 _ (List.mem_of_getElem? (i := 8) rfl)
theorem t_682 : Cond.instanceMethod yX7_drop ∈ gT := wk_28 _ (List.mem_of_getElem? (i := 9) rfl)
theorem t_683 : Cond.selects RX7 yX7_drop yX7_drop ∈ gT := wk_28 _ (List.mem_of_getElem? (i := 10) rfl)
theorem t_684 : Cond.code yX7_drop cX7_drop 4 (some .int) ∈ gT := wk_28 _ (List.mem_of_getElem? (i := 11) rfl)
theorem t_685 : Cond.methodLink RX7 104 yX7_isRule ∈ gT := wk_28 _ (List.mem_of_getElem? (i := 12) rfl)
theorem t_687 : Cond.instanceMethod yX7_isRule ∈ gT := wk_28 _ (List.mem_of_getElem? (i := 13) rfl)
theorem t_688 : Cond.code yX7_isRule cX7_isRule 2 (some .boolean) ∈ gT := wk_28 _ (List.mem_of_getElem? (i := 14) rfl)
theorem t_689 : Cond.methodLink RL 39 yX7_graph ∈ gT := wk_28 _ (List.mem_of_getElem? (i := 15) rfl)
theorem t_690 : Cond.instanceMethod yX7_graph ∈ gT := wk_28 _ (List.mem_of_getElem? (i := 16) rfl)
theorem t_691 : Cond.selects RX7 yX7_graph yX7_graph ∈ gT := wk_28 _ (List.mem_of_getElem? (i := 17) rfl)
theorem t_692 : Cond.code yX7_graph cX7_graph 3 (some .int) ∈ gT := wk_28 _ (List.mem_of_getElem? (i := 18) rfl)
theorem t_693 : Cond.methodLink RL 44 yX7_of ∈ gT := wk_28 _ (List.mem_of_getElem? (i := 19) rfl)
theorem t_694 : Cond.instanceMethod yX7_of ∈ gT := wk_28 _ (List.mem_of_getElem? (i := 20) rfl)
theorem t_695 : Cond.selects RX7 yX7_of yX7_of ∈ gT := wk_28 _ (List.mem_of_getElem? (i := 21) rfl)
def wc_29 : List Cond := [Cond.code yX7_of cX7_of 3 (some .int), Cond.methodLink RX7 120 yX7_ruleNow, Cond.instanceMethod yX7_ruleNow, Cond.code yX7_ruleNow cX7_ruleNow 3 (some .int), Cond.methodLink RL 48 yX7_begin, Cond.instanceMethod yX7_begin, Cond.selects RX7 yX7_begin yX7_begin, Cond.code yX7_begin cX7_begin 2 (some .int), Cond.methodLink RL 52 yX7_step, Cond.instanceMethod yX7_step, Cond.selects RX7 yX7_step yX7_step, Cond.code yX7_step cX7_step 7 (some .int), Cond.methodLink RX7 124 yX7_isEdge, Cond.instanceMethod yX7_isEdge, Cond.code yX7_isEdge cX7_isEdge 2 (some .boolean), Cond.methodLink RX7 127 yX7_letterOf, Cond.static yX7_letterOf, Cond.code yX7_letterOf cX7_letterOf 1 (some .int), Cond.methodLink RX7 130 yX7_fromOf, Cond.static yX7_fromOf, Cond.code yX7_fromOf cX7_fromOf 1 (some .int), Cond.methodLink RX7 133 yX7_nodeFor]
theorem wk_29 : ∀ w ∈ wc_29, w ∈ gT := fun w h => by
  have hp : wc_29 = ([0, 1, 3, 4, 5, 6, 7, 8, 9, 10, 11, 12, 13, 15, 16, 17, 18, 19, 20, 21, 22, 23] : List Nat).filterMap (fun i => ((tables_1_3.drop 216).take 24)[i]?) := by decide +kernel
  have hg : wc_29.all goodWord = true := by decide +kernel
  have h2 := h
  rw [hp] at h2
  obtain ⟨i, -, hi⟩ := List.mem_filterMap.mp h2
  exact gT_tab (sub_3 (List.mem_of_mem_drop (List.mem_of_mem_take (List.mem_of_getElem? hi)))) (List.all_eq_true.mp hg w h)
theorem t_696 : Cond.code yX7_of cX7_of 3 (some .int) ∈ gT := wk_29 _ (List.mem_of_getElem? (i := 0) rfl)
theorem t_697 : Cond.methodLink RX7 120 yX7_ruleNow ∈ gT := wk_29 _ (List.mem_of_getElem? (i := 1) rfl)
theorem t_699 : Cond.instanceMethod yX7_ruleNow ∈ gT := wk_29 _ (List.mem_of_getElem? (i := 2) rfl)
theorem t_700 : Cond.code yX7_ruleNow cX7_ruleNow 3 (some .int) ∈ gT := wk_29 _ (List.mem_of_getElem? (i := 3) rfl)
theorem t_701 : Cond.methodLink RL 48 yX7_begin ∈ gT := wk_29 _ (List.mem_of_getElem? (i := 4) rfl)
theorem t_702 : Cond.instanceMethod yX7_begin ∈ gT := wk_29 _ (List.mem_of_getElem? (i := 5) rfl)
theorem t_703 : Cond.selects RX7 yX7_begin yX7_begin ∈ gT := wk_29 _ (List.mem_of_getElem? (i := 6) rfl)
theorem t_704 : Cond.code yX7_begin cX7_begin 2 (some .int) ∈ gT := wk_29 _ (List.mem_of_getElem? (i := 7) rfl)
theorem t_705 : Cond.methodLink RL 52 yX7_step ∈ gT := wk_29 _ (List.mem_of_getElem? (i := 8) rfl)
theorem t_706 : Cond.instanceMethod yX7_step ∈ gT := wk_29 _ (List.mem_of_getElem? (i := 9) rfl)
theorem t_707 : Cond.selects RX7 yX7_step yX7_step ∈ gT := wk_29 _ (List.mem_of_getElem? (i := 10) rfl)
theorem t_708 : Cond.code yX7_step cX7_step 7 (some .int) ∈ gT := wk_29 _ (List.mem_of_getElem? (i := 11) rfl)
theorem t_709 : Cond.methodLink RX7 124 yX7_isEdge ∈ gT := wk_29 _ (List.mem_of_getElem? (i := 12) rfl)
theorem t_711 : Cond.instanceMethod yX7_isEdge ∈ gT := wk_29 _ (List.mem_of_getElem? (i := 13) rfl)
theorem t_712 : Cond.code yX7_isEdge cX7_isEdge 2 (some .boolean) ∈ gT := wk_29 _ (List.mem_of_getElem? (i := 14) rfl)
theorem t_713 : Cond.methodLink RX7 127 yX7_letterOf ∈ gT := wk_29 _ (List.mem_of_getElem? (i := 15) rfl)
theorem t_714 : Cond.static yX7_letterOf ∈ gT := wk_29 _ (List.mem_of_getElem? (i := 16) rfl)
theorem t_715 : Cond.code yX7_letterOf cX7_letterOf 1 (some .int) ∈ gT := wk_29 _ (List.mem_of_getElem? (i := 17) rfl)
theorem t_716 : Cond.methodLink RX7 130 yX7_fromOf ∈ gT := wk_29 _ (List.mem_of_getElem? (i := 18) rfl)
theorem t_717 : Cond.static yX7_fromOf ∈ gT := wk_29 _ (List.mem_of_getElem? (i := 19) rfl)
theorem t_718 : Cond.code yX7_fromOf cX7_fromOf 1 (some .int) ∈ gT := wk_29 _ (List.mem_of_getElem? (i := 20) rfl)
theorem t_719 : Cond.methodLink RX7 133 yX7_nodeFor ∈ gT := wk_29 _ (List.mem_of_getElem? (i := 21) rfl)
def wc_30 : List Cond := [Cond.instanceMethod yX7_nodeFor, Cond.code yX7_nodeFor cX7_nodeFor 3 (some .int), Cond.methodLink RX7 136 yX7_toOf, Cond.static yX7_toOf, Cond.code yX7_toOf cX7_toOf 1 (some .int), Cond.methodLink RL 56 yX7_edge, Cond.instanceMethod yX7_edge, Cond.selects RX7 yX7_edge yX7_edge, Cond.code yX7_edge cX7_edge 2 (some .int), Cond.methodLink RL 60 yX7_kind, Cond.instanceMethod yX7_kind, Cond.selects RX7 yX7_kind yX7_kind, Cond.code yX7_kind cX7_kind 1 (some .int), Cond.methodLink RX7 152 yX7_isDone, Cond.instanceMethod yX7_isDone, Cond.code yX7_isDone cX7_isDone 1 (some .boolean), Cond.methodLink RX7 149 yX7_opens, Cond.instanceMethod yX7_opens, Cond.code yX7_opens cX7_opens 3 (some .int), Cond.methodLink RX7 156 yX7_kindNow]
theorem wk_30 : ∀ w ∈ wc_30, w ∈ gT := fun w h => by
  have hp : wc_30 = ([1, 2, 3, 4, 5, 6, 7, 8, 9, 10, 11, 12, 13, 14, 16, 17, 18, 20, 21, 22] : List Nat).filterMap (fun i => ((tables_1_4.drop 0).take 24)[i]?) := by decide +kernel
  have hg : wc_30.all goodWord = true := by decide +kernel
  have h2 := h
  rw [hp] at h2
  obtain ⟨i, -, hi⟩ := List.mem_filterMap.mp h2
  exact gT_tab (sub_4 (List.mem_of_mem_drop (List.mem_of_mem_take (List.mem_of_getElem? hi)))) (List.all_eq_true.mp hg w h)
theorem t_721 : Cond.instanceMethod yX7_nodeFor ∈ gT := wk_30 _ (List.mem_of_getElem? (i := 0) rfl)
theorem t_722 : Cond.code yX7_nodeFor cX7_nodeFor 3 (some .int) ∈ gT := wk_30 _ (List.mem_of_getElem? (i := 1) rfl)
theorem t_723 : Cond.methodLink RX7 136 yX7_toOf ∈ gT := wk_30 _ (List.mem_of_getElem? (i := 2) rfl)
theorem t_724 : Cond.static yX7_toOf ∈ gT := wk_30 _ (List.mem_of_getElem? (i := 3) rfl)
theorem t_725 : Cond.code yX7_toOf cX7_toOf 1 (some .int) ∈ gT := wk_30 _ (List.mem_of_getElem? (i := 4) rfl)
theorem t_726 : Cond.methodLink RL 56 yX7_edge ∈ gT := wk_30 _ (List.mem_of_getElem? (i := 5) rfl)
theorem t_727 : Cond.instanceMethod yX7_edge ∈ gT := wk_30 _ (List.mem_of_getElem? (i := 6) rfl)
theorem t_728 : Cond.selects RX7 yX7_edge yX7_edge ∈ gT := wk_30 _ (List.mem_of_getElem? (i := 7) rfl)
theorem t_729 : Cond.code yX7_edge cX7_edge 2 (some .int) ∈ gT := wk_30 _ (List.mem_of_getElem? (i := 8) rfl)
theorem t_730 : Cond.methodLink RL 60 yX7_kind ∈ gT := wk_30 _ (List.mem_of_getElem? (i := 9) rfl)
theorem t_731 : Cond.instanceMethod yX7_kind ∈ gT := wk_30 _ (List.mem_of_getElem? (i := 10) rfl)
theorem t_732 : Cond.selects RX7 yX7_kind yX7_kind ∈ gT := wk_30 _ (List.mem_of_getElem? (i := 11) rfl)
theorem t_733 : Cond.code yX7_kind cX7_kind 1 (some .int) ∈ gT := wk_30 _ (List.mem_of_getElem? (i := 12) rfl)
theorem t_734 : Cond.methodLink RX7 152 yX7_isDone ∈ gT := wk_30 _ (List.mem_of_getElem? (i := 13) rfl)
theorem t_736 : Cond.instanceMethod yX7_isDone ∈ gT := wk_30 _ (List.mem_of_getElem? (i := 14) rfl)
theorem t_737 : Cond.code yX7_isDone cX7_isDone 1 (some .boolean) ∈ gT := wk_30 _ (List.mem_of_getElem? (i := 15) rfl)
theorem t_738 : Cond.methodLink RX7 149 yX7_opens ∈ gT := wk_30 _ (List.mem_of_getElem? (i := 16) rfl)
theorem t_740 : Cond.instanceMethod yX7_opens ∈ gT := wk_30 _ (List.mem_of_getElem? (i := 17) rfl)
theorem t_741 : Cond.code yX7_opens cX7_opens 3 (some .int) ∈ gT := wk_30 _ (List.mem_of_getElem? (i := 18) rfl)
theorem t_742 : Cond.methodLink RX7 156 yX7_kindNow ∈ gT := wk_30 _ (List.mem_of_getElem? (i := 19) rfl)
def wc_31 : List Cond := [Cond.instanceMethod yX7_kindNow, Cond.code yX7_kindNow cX7_kindNow 1 (some .int), Cond.methodLink RX7 142 yX7_leadsTo, Cond.instanceMethod yX7_leadsTo, Cond.code yX7_leadsTo cX7_leadsTo 7 (some .boolean), Cond.methodLink RX7 145 yX7_coloured, Cond.instanceMethod yX7_coloured, Cond.code yX7_coloured cX7_coloured 6 (some .int), Cond.methodLink RL 64 yX7_fewest, Cond.instanceMethod yX7_fewest, Cond.selects RX7 yX7_fewest yX7_fewest, Cond.code yX7_fewest cX7_fewest 2 (some .int), Cond.methodLink RX7 207 yX7_fewestNow, Cond.instanceMethod yX7_fewestNow, Cond.code yX7_fewestNow cX7_fewestNow 3 (some .int), Cond.methodLink RX7 204 yX7_layFewest, Cond.instanceMethod yX7_layFewest, Cond.code yX7_layFewest cX7_layFewest 3 none, Cond.methodLink RX7 197 yX7_ones, Cond.static yX7_ones]
theorem wk_31 : ∀ w ∈ wc_31, w ∈ gT := fun w h => by
  have hp : wc_31 = ([0, 1, 2, 4, 5, 6, 8, 9, 10, 11, 12, 13, 14, 16, 17, 18, 20, 21, 22, 23] : List Nat).filterMap (fun i => ((tables_1_4.drop 24).take 24)[i]?) := by decide +kernel
  have hg : wc_31.all goodWord = true := by decide +kernel
  have h2 := h
  rw [hp] at h2
  obtain ⟨i, -, hi⟩ := List.mem_filterMap.mp h2
  exact gT_tab (sub_4 (List.mem_of_mem_drop (List.mem_of_mem_take (List.mem_of_getElem? hi)))) (List.all_eq_true.mp hg w h)
theorem t_744 : Cond.instanceMethod yX7_kindNow ∈ gT := wk_31 _ (List.mem_of_getElem? (i := 0) rfl)
theorem t_745 : Cond.code yX7_kindNow cX7_kindNow 1 (some .int) ∈ gT := wk_31 _ (List.mem_of_getElem? (i := 1) rfl)
theorem t_746 : Cond.methodLink RX7 142 yX7_leadsTo ∈ gT := wk_31 _ (List.mem_of_getElem? (i := 2) rfl)
theorem t_748 : Cond.instanceMethod yX7_leadsTo ∈ gT := wk_31 _ (List.mem_of_getElem? (i := 3) rfl)
theorem t_749 : Cond.code yX7_leadsTo cX7_leadsTo 7 (some .boolean) ∈ gT := wk_31 _ (List.mem_of_getElem? (i := 4) rfl)
theorem t_750 : Cond.methodLink RX7 145 yX7_coloured ∈ gT := wk_31 _ (List.mem_of_getElem? (i := 5) rfl)
theorem t_752 : Cond.instanceMethod yX7_coloured ∈ gT := wk_31 _ (List.mem_of_getElem? (i := 6) rfl)
theorem t_753 : Cond.code yX7_coloured cX7_coloured 6 (some .int) ∈ gT := wk_31 _ (List.mem_of_getElem? (i := 7) rfl)
theorem t_754 : Cond.methodLink RL 64 yX7_fewest ∈ gT := wk_31 _ (List.mem_of_getElem? (i := 8) rfl)
theorem t_755 : Cond.instanceMethod yX7_fewest ∈ gT := wk_31 _ (List.mem_of_getElem? (i := 9) rfl)
theorem t_756 : Cond.selects RX7 yX7_fewest yX7_fewest ∈ gT := wk_31 _ (List.mem_of_getElem? (i := 10) rfl)
theorem t_757 : Cond.code yX7_fewest cX7_fewest 2 (some .int) ∈ gT := wk_31 _ (List.mem_of_getElem? (i := 11) rfl)
theorem t_758 : Cond.methodLink RX7 207 yX7_fewestNow ∈ gT := wk_31 _ (List.mem_of_getElem? (i := 12) rfl)
theorem t_760 : Cond.instanceMethod yX7_fewestNow ∈ gT := wk_31 _ (List.mem_of_getElem? (i := 13) rfl)
theorem t_761 : Cond.code yX7_fewestNow cX7_fewestNow 3 (some .int) ∈ gT := wk_31 _ (List.mem_of_getElem? (i := 14) rfl)
theorem t_762 : Cond.methodLink RX7 204 yX7_layFewest ∈ gT := wk_31 _ (List.mem_of_getElem? (i := 15) rfl)
theorem t_764 : Cond.instanceMethod yX7_layFewest ∈ gT := wk_31 _ (List.mem_of_getElem? (i := 16) rfl)
theorem t_765 : Cond.code yX7_layFewest cX7_layFewest 3 none ∈ gT := wk_31 _ (List.mem_of_getElem? (i := 17) rfl)
theorem t_766 : Cond.methodLink RX7 197 yX7_ones ∈ gT := wk_31 _ (List.mem_of_getElem? (i := 18) rfl)
theorem t_767 : Cond.static yX7_ones ∈ gT := wk_31 _ (List.mem_of_getElem? (i := 19) rfl)
def wc_32 : List Cond := [Cond.code yX7_ones cX7_ones 3 (some .int), Cond.methodLink RX7 200 yX7_laySet, Cond.instanceMethod yX7_laySet, Cond.code yX7_laySet cX7_laySet 5 none, Cond.methodLink RX7 187 yX7_layEnds, Cond.instanceMethod yX7_layEnds, Cond.code yX7_layEnds cX7_layEnds 7 none, Cond.methodLink RX7 166 yX7_at, Cond.instanceMethod yX7_at, Cond.code yX7_at cX7_at 5 (some .int), Cond.constant RX7 170 (1000000), Cond.methodLink RX7 194 yX7_byInner, Cond.instanceMethod yX7_byInner, Cond.code yX7_byInner cX7_byInner 8 (some .int), Cond.methodLink RX7 181 yX7_areUnlike, Cond.instanceMethod yX7_areUnlike, Cond.code yX7_areUnlike cX7_areUnlike 5 (some .boolean), Cond.methodLink RX7 184 yX7_bySplits]
theorem wk_32 : ∀ w ∈ wc_32, w ∈ gT := fun w h => by
  have hp : wc_32 = ([0, 1, 3, 4, 5, 7, 8, 9, 11, 12, 13, 14, 16, 17, 18, 20, 21, 22] : List Nat).filterMap (fun i => ((tables_1_4.drop 48).take 24)[i]?) := by decide +kernel
  have hg : wc_32.all goodWord = true := by decide +kernel
  have h2 := h
  rw [hp] at h2
  obtain ⟨i, -, hi⟩ := List.mem_filterMap.mp h2
  exact gT_tab (sub_4 (List.mem_of_mem_drop (List.mem_of_mem_take (List.mem_of_getElem? hi)))) (List.all_eq_true.mp hg w h)
theorem t_768 : Cond.code yX7_ones cX7_ones 3 (some .int) ∈ gT := wk_32 _ (List.mem_of_getElem? (i := 0) rfl)
theorem t_769 : Cond.methodLink RX7 200 yX7_laySet ∈ gT := wk_32 _ (List.mem_of_getElem? (i := 1) rfl)
theorem t_771 : Cond.instanceMethod yX7_laySet ∈ gT := wk_32 _ (List.mem_of_getElem? (i := 2) rfl)
theorem t_772 : Cond.code yX7_laySet cX7_laySet 5 none ∈ gT := wk_32 _ (List.mem_of_getElem? (i := 3) rfl)
theorem t_773 : Cond.methodLink RX7 187 yX7_layEnds ∈ gT := wk_32 _ (List.mem_of_getElem? (i := 4) rfl)
theorem t_775 : Cond.instanceMethod yX7_layEnds ∈ gT := wk_32 _ (List.mem_of_getElem? (i := 5) rfl)
theorem t_776 : Cond.code yX7_layEnds cX7_layEnds 7 none ∈ gT := wk_32 _ (List.mem_of_getElem? (i := 6) rfl)
theorem t_777 : Cond.methodLink RX7 166 yX7_at ∈ gT := wk_32 _ (List.mem_of_getElem? (i := 7) rfl)
theorem t_779 : Cond.instanceMethod yX7_at ∈ gT := wk_32 _ (List.mem_of_getElem? (i := 8) rfl)
theorem t_780 : Cond.code yX7_at cX7_at 5 (some .int) ∈ gT := wk_32 _ (List.mem_of_getElem? (i := 9) rfl)
theorem t_781 : Cond.constant RX7 170 (1000000) ∈ gT := wk_32 _ (List.mem_of_getElem? (i := 10) rfl)
theorem t_782 : Cond.methodLink RX7 194 yX7_byInner ∈ gT := wk_32 _ (List.mem_of_getElem? (i := 11) rfl)
theorem t_784 : Cond.instanceMethod yX7_byInner ∈ gT := wk_32 _ (List.mem_of_getElem? (i := 12) rfl)
theorem t_785 : Cond.code yX7_byInner cX7_byInner 8 (some .int) ∈ gT := wk_32 _ (List.mem_of_getElem? (i := 13) rfl)
theorem t_786 : Cond.methodLink RX7 181 yX7_areUnlike ∈ gT := wk_32 _ (List.mem_of_getElem? (i := 14) rfl)
theorem t_788 : Cond.instanceMethod yX7_areUnlike ∈ gT := wk_32 _ (List.mem_of_getElem? (i := 15) rfl)
theorem t_789 : Cond.code yX7_areUnlike cX7_areUnlike 5 (some .boolean) ∈ gT := wk_32 _ (List.mem_of_getElem? (i := 16) rfl)
theorem t_790 : Cond.methodLink RX7 184 yX7_bySplits ∈ gT := wk_32 _ (List.mem_of_getElem? (i := 17) rfl)
def wc_33 : List Cond := [Cond.instanceMethod yX7_bySplits, Cond.code yX7_bySplits cX7_bySplits 14 (some .int), Cond.methodLink RX7 174 yX7_stepsFor, Cond.instanceMethod yX7_stepsFor, Cond.code yX7_stepsFor cX7_stepsFor 3 (some .int), Cond.methodLink RX7 171 yX7_stepsOf, Cond.instanceMethod yX7_stepsOf, Cond.code yX7_stepsOf cX7_stepsOf 7 (some .int), Cond.methodLink RX7 177 yX7_areApart, Cond.instanceMethod yX7_areApart, Cond.code yX7_areApart cX7_areApart 7 (some .boolean), Cond.methodLink RX7 191 yX7_laySingles, Cond.instanceMethod yX7_laySingles, Cond.code yX7_laySingles cX7_laySingles 8 (some .boolean), Cond.methodLink RL 68 yX7_kinds, Cond.instanceMethod yX7_kinds, Cond.selects RX7 yX7_kinds yX7_kinds, Cond.code yX7_kinds cX7_kinds 2 (some .int), Cond.methodLink RX7 231 yX7_kindsNow]
theorem wk_33 : ∀ w ∈ wc_33, w ∈ gT := fun w h => by
  have hp : wc_33 = ([0, 1, 2, 4, 5, 6, 8, 9, 10, 12, 13, 14, 16, 17, 18, 19, 20, 21, 22] : List Nat).filterMap (fun i => ((tables_1_4.drop 72).take 24)[i]?) := by decide +kernel
  have hg : wc_33.all goodWord = true := by decide +kernel
  have h2 := h
  rw [hp] at h2
  obtain ⟨i, -, hi⟩ := List.mem_filterMap.mp h2
  exact gT_tab (sub_4 (List.mem_of_mem_drop (List.mem_of_mem_take (List.mem_of_getElem? hi)))) (List.all_eq_true.mp hg w h)
theorem t_792 : Cond.instanceMethod yX7_bySplits ∈ gT := wk_33 _ (List.mem_of_getElem? (i := 0) rfl)
theorem t_793 : Cond.code yX7_bySplits cX7_bySplits 14 (some .int) ∈ gT := wk_33 _ (List.mem_of_getElem? (i := 1) rfl)
theorem t_794 : Cond.methodLink RX7 174 yX7_stepsFor ∈ gT := wk_33 _ (List.mem_of_getElem? (i := 2) rfl)
theorem t_796 : Cond.instanceMethod yX7_stepsFor ∈ gT := wk_33 _ (List.mem_of_getElem? (i := 3) rfl)
theorem t_797 : Cond.code yX7_stepsFor cX7_stepsFor 3 (some .int) ∈ gT := wk_33 _ (List.mem_of_getElem? (i := 4) rfl)
theorem t_798 : Cond.methodLink RX7 171 yX7_stepsOf ∈ gT := wk_33 _ (List.mem_of_getElem? (i := 5) rfl)
theorem t_800 : Cond.instanceMethod yX7_stepsOf ∈ gT := wk_33 _ (List.mem_of_getElem? (i := 6) rfl)
theorem t_801 : Cond.code yX7_stepsOf cX7_stepsOf 7 (some .int) ∈ gT := wk_33 _ (List.mem_of_getElem? (i := 7) rfl)
theorem t_802 : Cond.methodLink RX7 177 yX7_areApart ∈ gT := wk_33 _ (List.mem_of_getElem? (i := 8) rfl)
theorem t_804 : Cond.instanceMethod yX7_areApart ∈ gT := wk_33 _ (List.mem_of_getElem? (i := 9) rfl)
theorem t_805 : Cond.code yX7_areApart cX7_areApart 7 (some .boolean) ∈ gT := wk_33 _ (List.mem_of_getElem? (i := 10) rfl)
theorem t_806 : Cond.methodLink RX7 191 yX7_laySingles ∈ gT := wk_33 _ (List.mem_of_getElem? (i := 11) rfl)
theorem t_808 : Cond.instanceMethod yX7_laySingles ∈ gT := wk_33 _ (List.mem_of_getElem? (i := 12) rfl)
theorem t_809 : Cond.code yX7_laySingles cX7_laySingles 8 (some .boolean) ∈ gT := wk_33 _ (List.mem_of_getElem? (i := 13) rfl)
theorem t_810 : Cond.methodLink RL 68 yX7_kinds ∈ gT := wk_33 _ (List.mem_of_getElem? (i := 14) rfl)
theorem t_811 : Cond.instanceMethod yX7_kinds ∈ gT := wk_33 _ (List.mem_of_getElem? (i := 15) rfl)
theorem t_812 : Cond.selects RX7 yX7_kinds yX7_kinds ∈ gT := wk_33 _ (List.mem_of_getElem? (i := 16) rfl)
theorem t_813 : Cond.code yX7_kinds cX7_kinds 2 (some .int) ∈ gT := wk_33 _ (List.mem_of_getElem? (i := 17) rfl)
theorem t_814 : Cond.methodLink RX7 231 yX7_kindsNow ∈ gT := wk_33 _ (List.mem_of_getElem? (i := 18) rfl)
def wc_34 : List Cond := [Cond.instanceMethod yX7_kindsNow, Cond.code yX7_kindsNow cX7_kindsNow 4 (some .int), Cond.methodLink RX7 228 yX7_layLights, Cond.instanceMethod yX7_layLights, Cond.code yX7_layLights cX7_layLights 3 none, Cond.methodLink RX7 222 yX7_classOf, Cond.static yX7_classOf, Cond.code yX7_classOf cX7_classOf 1 (some .int), Cond.constantLong RX7 210 (1152921504606846976), Cond.methodLink RX7 225 yX7_layRule, Cond.instanceMethod yX7_layRule, Cond.code yX7_layRule cX7_layRule 9 (some .boolean), Cond.methodLink RX7 212 yX7_layLight, Cond.instanceMethod yX7_layLight, Cond.code yX7_layLight cX7_layLight 7 (some .boolean), Cond.methodLink RX7 216 yX7_leads, Cond.instanceMethod yX7_leads, Cond.code yX7_leads cX7_leads 7 (some .boolean), Cond.methodLink RX7 219 yX7_colouredBy]
theorem wk_34 : ∀ w ∈ wc_34, w ∈ gT := fun w h => by
  have hp : wc_34 = ([0, 1, 2, 4, 5, 6, 7, 8, 9, 10, 12, 13, 14, 16, 17, 18, 20, 21, 22] : List Nat).filterMap (fun i => ((tables_1_4.drop 96).take 24)[i]?) := by decide +kernel
  have hg : wc_34.all goodWord = true := by decide +kernel
  have h2 := h
  rw [hp] at h2
  obtain ⟨i, -, hi⟩ := List.mem_filterMap.mp h2
  exact gT_tab (sub_4 (List.mem_of_mem_drop (List.mem_of_mem_take (List.mem_of_getElem? hi)))) (List.all_eq_true.mp hg w h)
theorem t_816 : Cond.instanceMethod yX7_kindsNow ∈ gT := wk_34 _ (List.mem_of_getElem? (i := 0) rfl)
theorem t_817 : Cond.code yX7_kindsNow cX7_kindsNow 4 (some .int) ∈ gT := wk_34 _ (List.mem_of_getElem? (i := 1) rfl)
theorem t_818 : Cond.methodLink RX7 228 yX7_layLights ∈ gT := wk_34 _ (List.mem_of_getElem? (i := 2) rfl)
theorem t_820 : Cond.instanceMethod yX7_layLights ∈ gT := wk_34 _ (List.mem_of_getElem? (i := 3) rfl)
theorem t_821 : Cond.code yX7_layLights cX7_layLights 3 none ∈ gT := wk_34 _ (List.mem_of_getElem? (i := 4) rfl)
theorem t_822 : Cond.methodLink RX7 222 yX7_classOf ∈ gT := wk_34 _ (List.mem_of_getElem? (i := 5) rfl)
theorem t_823 : Cond.static yX7_classOf ∈ gT := wk_34 _ (List.mem_of_getElem? (i := 6) rfl)
theorem t_824 : Cond.code yX7_classOf cX7_classOf 1 (some .int) ∈ gT := wk_34 _ (List.mem_of_getElem? (i := 7) rfl)
theorem t_825 : Cond.constantLong RX7 210 (1152921504606846976) ∈ gT := wk_34 _ (List.mem_of_getElem? (i := 8) rfl)
theorem t_826 : Cond.methodLink RX7 225 yX7_layRule ∈ gT := wk_34 _ (List.mem_of_getElem? (i := 9) rfl)
theorem t_828 : Cond.instanceMethod yX7_layRule ∈ gT := wk_34 _ (List.mem_of_getElem? (i := 10) rfl)
theorem t_829 : Cond.code yX7_layRule cX7_layRule 9 (some .boolean) ∈ gT := wk_34 _ (List.mem_of_getElem? (i := 11) rfl)
theorem t_830 : Cond.methodLink RX7 212 yX7_layLight ∈ gT := wk_34 _ (List.mem_of_getElem? (i := 12) rfl)
theorem t_832 : Cond.instanceMethod yX7_layLight ∈ gT := wk_34 _ (List.mem_of_getElem? (i := 13) rfl)
theorem t_833 : Cond.code yX7_layLight cX7_layLight 7 (some .boolean) ∈ gT := wk_34 _ (List.mem_of_getElem? (i := 14) rfl)
theorem t_834 : Cond.methodLink RX7 216 yX7_leads ∈ gT := wk_34 _ (List.mem_of_getElem? (i := 15) rfl)
theorem t_836 : Cond.instanceMethod yX7_leads ∈ gT := wk_34 _ (List.mem_of_getElem? (i := 16) rfl)
theorem t_837 : Cond.code yX7_leads cX7_leads 7 (some .boolean) ∈ gT := wk_34 _ (List.mem_of_getElem? (i := 17) rfl)
theorem t_838 : Cond.methodLink RX7 219 yX7_colouredBy ∈ gT := wk_34 _ (List.mem_of_getElem? (i := 18) rfl)
def wc_35 : List Cond := [Cond.instanceMethod yX7_colouredBy, Cond.code yX7_colouredBy cX7_colouredBy 7 (some .int), Cond.methodLink RL 73 yX7_light, Cond.instanceMethod yX7_light, Cond.selects RX7 yX7_light yX7_light, Cond.code yX7_light cX7_light 4 (some .int), Cond.methodLink RX7 234 yX7_lightNow, Cond.instanceMethod yX7_lightNow, Cond.code yX7_lightNow cX7_lightNow 5 (some .int), Cond.methodLink RL 77 yX7_count, Cond.instanceMethod yX7_count, Cond.selects RX7 yX7_count yX7_count, Cond.code yX7_count cX7_count 2 (some .int), Cond.methodLink RX7 238 yX7_howMany, Cond.instanceMethod yX7_howMany, Cond.code yX7_howMany cX7_howMany 2 (some .int), Cond.methodLink RL 82 yX7_digest, Cond.instanceMethod yX7_digest, Cond.selects RX7 yX7_digest yX7_digest, Cond.code yX7_digest cX7_digest 3 (some .long), Cond.constantLong RX7 251 (1709), Cond.methodLink RX7 247 yX7_mix]
theorem wk_35 : ∀ w ∈ wc_35, w ∈ gT := fun w h => by
  have hp : wc_35 = ([0, 1, 2, 3, 4, 5, 6, 8, 9, 10, 11, 12, 13, 14, 16, 17, 18, 19, 20, 21, 22, 23] : List Nat).filterMap (fun i => ((tables_1_4.drop 120).take 24)[i]?) := by decide +kernel
  have hg : wc_35.all goodWord = true := by decide +kernel
  have h2 := h
  rw [hp] at h2
  obtain ⟨i, -, hi⟩ := List.mem_filterMap.mp h2
  exact gT_tab (sub_4 (List.mem_of_mem_drop (List.mem_of_mem_take (List.mem_of_getElem? hi)))) (List.all_eq_true.mp hg w h)
theorem t_840 : Cond.instanceMethod yX7_colouredBy ∈ gT := wk_35 _ (List.mem_of_getElem? (i := 0) rfl)
theorem t_841 : Cond.code yX7_colouredBy cX7_colouredBy 7 (some .int) ∈ gT := wk_35 _ (List.mem_of_getElem? (i := 1) rfl)
theorem t_842 : Cond.methodLink RL 73 yX7_light ∈ gT := wk_35 _ (List.mem_of_getElem? (i := 2) rfl)
theorem t_843 : Cond.instanceMethod yX7_light ∈ gT := wk_35 _ (List.mem_of_getElem? (i := 3) rfl)
theorem t_844 : Cond.selects RX7 yX7_light yX7_light ∈ gT := wk_35 _ (List.mem_of_getElem? (i := 4) rfl)
theorem t_845 : Cond.code yX7_light cX7_light 4 (some .int) ∈ gT := wk_35 _ (List.mem_of_getElem? (i := 5) rfl)
theorem t_846 : Cond.methodLink RX7 234 yX7_lightNow ∈ gT := wk_35 _ (List.mem_of_getElem? (i := 6) rfl)
theorem t_848 : Cond.instanceMethod yX7_lightNow ∈ gT := wk_35 _ (List.mem_of_getElem? (i := 7) rfl)
theorem t_849 : Cond.code yX7_lightNow cX7_lightNow 5 (some .int) ∈ gT := wk_35 _ (List.mem_of_getElem? (i := 8) rfl)
theorem t_850 : Cond.methodLink RL 77 yX7_count ∈ gT := wk_35 _ (List.mem_of_getElem? (i := 9) rfl)
theorem t_851 : Cond.instanceMethod yX7_count ∈ gT := wk_35 _ (List.mem_of_getElem? (i := 10) rfl)
theorem t_852 : Cond.selects RX7 yX7_count yX7_count ∈ gT := wk_35 _ (List.mem_of_getElem? (i := 11) rfl)
theorem t_853 : Cond.code yX7_count cX7_count 2 (some .int) ∈ gT := wk_35 _ (List.mem_of_getElem? (i := 12) rfl)
theorem t_854 : Cond.methodLink RX7 238 yX7_howMany ∈ gT := wk_35 _ (List.mem_of_getElem? (i := 13) rfl)
theorem t_856 : Cond.instanceMethod yX7_howMany ∈ gT := wk_35 _ (List.mem_of_getElem? (i := 14) rfl)
theorem t_857 : Cond.code yX7_howMany cX7_howMany 2 (some .int) ∈ gT := wk_35 _ (List.mem_of_getElem? (i := 15) rfl)
theorem t_858 : Cond.methodLink RL 82 yX7_digest ∈ gT := wk_35 _ (List.mem_of_getElem? (i := 16) rfl)
theorem t_859 : Cond.instanceMethod yX7_digest ∈ gT := wk_35 _ (List.mem_of_getElem? (i := 17) rfl)
theorem t_860 : Cond.selects RX7 yX7_digest yX7_digest ∈ gT := wk_35 _ (List.mem_of_getElem? (i := 18) rfl)
theorem t_861 : Cond.code yX7_digest cX7_digest 3 (some .long) ∈ gT := wk_35 _ (List.mem_of_getElem? (i := 19) rfl)
theorem t_862 : Cond.constantLong RX7 251 (1709) ∈ gT := wk_35 _ (List.mem_of_getElem? (i := 20) rfl)
theorem t_863 : Cond.methodLink RX7 247 yX7_mix ∈ gT := wk_35 _ (List.mem_of_getElem? (i := 21) rfl)
def wc_36 : List Cond := [Cond.instanceMethod yX7_mix, Cond.code yX7_mix cX7_mix 3 none, Cond.constantLong RX7 241 (31), Cond.constantLong RX7 253 (-1003), Cond.methodLink RX7 255 yX7_mixOpen, Cond.instanceMethod yX7_mixOpen, Cond.code yX7_mixOpen cX7_mixOpen 3 none]
theorem wk_36 : ∀ w ∈ wc_36, w ∈ gT := fun w h => by
  have hp : wc_36 = ([1, 2, 3, 4, 5, 7, 8] : List Nat).filterMap (fun i => ((tables_1_4.drop 144).take 9)[i]?) := by decide +kernel
  have hg : wc_36.all goodWord = true := by decide +kernel
  have h2 := h
  rw [hp] at h2
  obtain ⟨i, -, hi⟩ := List.mem_filterMap.mp h2
  exact gT_tab (sub_4 (List.mem_of_mem_drop (List.mem_of_mem_take (List.mem_of_getElem? hi)))) (List.all_eq_true.mp hg w h)
theorem t_865 : Cond.instanceMethod yX7_mix ∈ gT := wk_36 _ (List.mem_of_getElem? (i := 0) rfl)
theorem t_866 : Cond.code yX7_mix cX7_mix 3 none ∈ gT := wk_36 _ (List.mem_of_getElem? (i := 1) rfl)
theorem t_867 : Cond.constantLong RX7 241 (31) ∈ gT := wk_36 _ (List.mem_of_getElem? (i := 2) rfl)
theorem t_868 : Cond.constantLong RX7 253 (-1003) ∈ gT := wk_36 _ (List.mem_of_getElem? (i := 3) rfl)
theorem t_869 : Cond.methodLink RX7 255 yX7_mixOpen ∈ gT := wk_36 _ (List.mem_of_getElem? (i := 4) rfl)
theorem t_871 : Cond.instanceMethod yX7_mixOpen ∈ gT := wk_36 _ (List.mem_of_getElem? (i := 5) rfl)
theorem t_872 : Cond.code yX7_mixOpen cX7_mixOpen 3 none ∈ gT := wk_36 _ (List.mem_of_getElem? (i := 6) rfl)
theorem ts_0 : Cond.selects RX3 yX3_fitsHead yX3_fitsHead ∈ gT := gT_sel (List.mem_of_getElem? (i := 0) (by decide +kernel)) rfl
theorem ts_1 : Cond.selects RX3 yX3_fitsEdge yX3_fitsEdge ∈ gT := gT_sel (List.mem_of_getElem? (i := 1) (by decide +kernel)) rfl
theorem ts_2 : Cond.selects RX3 yX3_isWhole yX3_isWhole ∈ gT := gT_sel (List.mem_of_getElem? (i := 2) (by decide +kernel)) rfl
theorem ts_3 : Cond.selects RX3 yX3_names yX3_names ∈ gT := gT_sel (List.mem_of_getElem? (i := 3) (by decide +kernel)) rfl
theorem ts_4 : Cond.selects RX3 yX3_namesNoGap yX3_namesNoGap ∈ gT := gT_sel (List.mem_of_getElem? (i := 4) (by decide +kernel)) rfl
theorem ts_5 : Cond.selects RX3 yX3_copyEdges yX3_copyEdges ∈ gT := gT_sel (List.mem_of_getElem? (i := 5) (by decide +kernel)) rfl
theorem ts_6 : Cond.selects RX0 yX0_put yX0_put ∈ gT := gT_sel (List.mem_of_getElem? (i := 6) (by decide +kernel)) rfl
theorem ts_7 : Cond.selects RX0 yX0_comes yX0_comes ∈ gT := gT_sel (List.mem_of_getElem? (i := 7) (by decide +kernel)) rfl
theorem ts_8 : Cond.selects RX0 yX0_allows yX0_allows ∈ gT := gT_sel (List.mem_of_getElem? (i := 8) (by decide +kernel)) rfl
theorem ts_9 : Cond.selects RX6 yX6_noteNewGraph yX6_noteNewGraph ∈ gT := gT_sel (List.mem_of_getElem? (i := 9) (by decide +kernel)) rfl
theorem ts_10 : Cond.selects RX0 yX0_nodeFor yX0_nodeFor ∈ gT := gT_sel (List.mem_of_getElem? (i := 10) (by decide +kernel)) rfl
theorem ts_11 : Cond.selects RX2 yX2_improve yX2_improve ∈ gT := gT_sel (List.mem_of_getElem? (i := 11) (by decide +kernel)) rfl
theorem ts_12 : Cond.selects RX0 yX0_nodesOf yX0_nodesOf ∈ gT := gT_sel (List.mem_of_getElem? (i := 12) (by decide +kernel)) rfl
theorem ts_13 : Cond.selects RX2 yX2_byRule yX2_byRule ∈ gT := gT_sel (List.mem_of_getElem? (i := 13) (by decide +kernel)) rfl
theorem ts_14 : Cond.selects RX2 yX2_standsApart yX2_standsApart ∈ gT := gT_sel (List.mem_of_getElem? (i := 14) (by decide +kernel)) rfl
theorem ts_15 : Cond.selects RX2 yX2_bySplit yX2_bySplit ∈ gT := gT_sel (List.mem_of_getElem? (i := 15) (by decide +kernel)) rfl
theorem ts_16 : Cond.selects RX2 yX2_bySlot yX2_bySlot ∈ gT := gT_sel (List.mem_of_getElem? (i := 16) (by decide +kernel)) rfl
theorem ts_17 : Cond.selects RX2 yX2_lower yX2_lower ∈ gT := gT_sel (List.mem_of_getElem? (i := 17) (by decide +kernel)) rfl
theorem ts_18 : Cond.selects RX6 yX6_bringLights yX6_bringLights ∈ gT := gT_sel (List.mem_of_getElem? (i := 18) (by decide +kernel)) rfl
theorem ts_19 : Cond.selects RX1 yX1_forget yX1_forget ∈ gT := gT_sel (List.mem_of_getElem? (i := 19) (by decide +kernel)) rfl
theorem ts_20 : Cond.selects RX1 yX1_offer yX1_offer ∈ gT := gT_sel (List.mem_of_getElem? (i := 20) (by decide +kernel)) rfl
theorem ts_21 : Cond.selects RX1 yX1_nearest yX1_nearest ∈ gT := gT_sel (List.mem_of_getElem? (i := 21) (by decide +kernel)) rfl
theorem ts_22 : Cond.selects RX1 yX1_settle yX1_settle ∈ gT := gT_sel (List.mem_of_getElem? (i := 22) (by decide +kernel)) rfl
theorem ts_23 : Cond.selects RX1 yX1_spread yX1_spread ∈ gT := gT_sel (List.mem_of_getElem? (i := 23) (by decide +kernel)) rfl
theorem ts_24 : Cond.selects RX1 yX1_combine yX1_combine ∈ gT := gT_sel (List.mem_of_getElem? (i := 24) (by decide +kernel)) rfl
theorem ts_25 : Cond.selects RX1 yX1_choices yX1_choices ∈ gT := gT_sel (List.mem_of_getElem? (i := 25) (by decide +kernel)) rfl
theorem ts_26 : Cond.selects RX1 yX1_settledKind yX1_settledKind ∈ gT := gT_sel (List.mem_of_getElem? (i := 26) (by decide +kernel)) rfl
theorem ts_27 : Cond.selects RX1 yX1_stepsIn yX1_stepsIn ∈ gT := gT_sel (List.mem_of_getElem? (i := 27) (by decide +kernel)) rfl
theorem ts_28 : Cond.selects RX7 yX7_read yX7_read ∈ gT := gT_sel (List.mem_of_getElem? (i := 28) (by decide +kernel)) rfl
theorem ts_29 : Cond.selects RX7 yX7_takes yX7_takes ∈ gT := gT_sel (List.mem_of_getElem? (i := 29) (by decide +kernel)) rfl
theorem ts_30 : Cond.selects RX7 yX7_takesEdge yX7_takesEdge ∈ gT := gT_sel (List.mem_of_getElem? (i := 30) (by decide +kernel)) rfl
theorem ts_31 : Cond.selects RX7 yX7_isWhole yX7_isWhole ∈ gT := gT_sel (List.mem_of_getElem? (i := 31) (by decide +kernel)) rfl
theorem ts_32 : Cond.selects RX7 yX7_altered yX7_altered ∈ gT := gT_sel (List.mem_of_getElem? (i := 32) (by decide +kernel)) rfl
theorem ts_33 : Cond.selects RX7 yX7_isRule yX7_isRule ∈ gT := gT_sel (List.mem_of_getElem? (i := 33) (by decide +kernel)) rfl
theorem ts_34 : Cond.selects RX7 yX7_ruleNow yX7_ruleNow ∈ gT := gT_sel (List.mem_of_getElem? (i := 34) (by decide +kernel)) rfl
theorem ts_35 : Cond.selects RX7 yX7_isEdge yX7_isEdge ∈ gT := gT_sel (List.mem_of_getElem? (i := 35) (by decide +kernel)) rfl
theorem ts_36 : Cond.selects RX7 yX7_nodeFor yX7_nodeFor ∈ gT := gT_sel (List.mem_of_getElem? (i := 36) (by decide +kernel)) rfl
theorem ts_37 : Cond.selects RX7 yX7_isDone yX7_isDone ∈ gT := gT_sel (List.mem_of_getElem? (i := 37) (by decide +kernel)) rfl
theorem ts_38 : Cond.selects RX7 yX7_opens yX7_opens ∈ gT := gT_sel (List.mem_of_getElem? (i := 38) (by decide +kernel)) rfl
theorem ts_39 : Cond.selects RX7 yX7_kindNow yX7_kindNow ∈ gT := gT_sel (List.mem_of_getElem? (i := 39) (by decide +kernel)) rfl
theorem ts_40 : Cond.selects RX7 yX7_leadsTo yX7_leadsTo ∈ gT := gT_sel (List.mem_of_getElem? (i := 40) (by decide +kernel)) rfl
theorem ts_41 : Cond.selects RX7 yX7_coloured yX7_coloured ∈ gT := gT_sel (List.mem_of_getElem? (i := 41) (by decide +kernel)) rfl
theorem ts_42 : Cond.selects RX7 yX7_fewestNow yX7_fewestNow ∈ gT := gT_sel (List.mem_of_getElem? (i := 42) (by decide +kernel)) rfl
theorem ts_43 : Cond.selects RX7 yX7_layFewest yX7_layFewest ∈ gT := gT_sel (List.mem_of_getElem? (i := 43) (by decide +kernel)) rfl
theorem ts_44 : Cond.selects RX7 yX7_laySet yX7_laySet ∈ gT := gT_sel (List.mem_of_getElem? (i := 44) (by decide +kernel)) rfl
theorem ts_45 : Cond.selects RX7 yX7_layEnds yX7_layEnds ∈ gT := gT_sel (List.mem_of_getElem? (i := 45) (by decide +kernel)) rfl
theorem ts_46 : Cond.selects RX7 yX7_at yX7_at ∈ gT := gT_sel (List.mem_of_getElem? (i := 46) (by decide +kernel)) rfl
theorem ts_47 : Cond.selects RX7 yX7_byInner yX7_byInner ∈ gT := gT_sel (List.mem_of_getElem? (i := 47) (by decide +kernel)) rfl
theorem ts_48 : Cond.selects RX7 yX7_areUnlike yX7_areUnlike ∈ gT := gT_sel (List.mem_of_getElem? (i := 48) (by decide +kernel)) rfl
theorem ts_49 : Cond.selects RX7 yX7_bySplits yX7_bySplits ∈ gT := gT_sel (List.mem_of_getElem? (i := 49) (by decide +kernel)) rfl
theorem ts_50 : Cond.selects RX7 yX7_stepsFor yX7_stepsFor ∈ gT := gT_sel (List.mem_of_getElem? (i := 50) (by decide +kernel)) rfl
theorem ts_51 : Cond.selects RX7 yX7_stepsOf yX7_stepsOf ∈ gT := gT_sel (List.mem_of_getElem? (i := 51) (by decide +kernel)) rfl
theorem ts_52 : Cond.selects RX7 yX7_areApart yX7_areApart ∈ gT := gT_sel (List.mem_of_getElem? (i := 52) (by decide +kernel)) rfl
theorem ts_53 : Cond.selects RX7 yX7_laySingles yX7_laySingles ∈ gT := gT_sel (List.mem_of_getElem? (i := 53) (by decide +kernel)) rfl
theorem ts_54 : Cond.selects RX7 yX7_kindsNow yX7_kindsNow ∈ gT := gT_sel (List.mem_of_getElem? (i := 54) (by decide +kernel)) rfl
theorem ts_55 : Cond.selects RX7 yX7_layLights yX7_layLights ∈ gT := gT_sel (List.mem_of_getElem? (i := 55) (by decide +kernel)) rfl
theorem ts_56 : Cond.selects RX7 yX7_layRule yX7_layRule ∈ gT := gT_sel (List.mem_of_getElem? (i := 56) (by decide +kernel)) rfl
theorem ts_57 : Cond.selects RX7 yX7_layLight yX7_layLight ∈ gT := gT_sel (List.mem_of_getElem? (i := 57) (by decide +kernel)) rfl
theorem ts_58 : Cond.selects RX7 yX7_leads yX7_leads ∈ gT := gT_sel (List.mem_of_getElem? (i := 58) (by decide +kernel)) rfl
theorem ts_59 : Cond.selects RX7 yX7_colouredBy yX7_colouredBy ∈ gT := gT_sel (List.mem_of_getElem? (i := 59) (by decide +kernel)) rfl
theorem ts_60 : Cond.selects RX7 yX7_lightNow yX7_lightNow ∈ gT := gT_sel (List.mem_of_getElem? (i := 60) (by decide +kernel)) rfl
theorem ts_61 : Cond.selects RX7 yX7_howMany yX7_howMany ∈ gT := gT_sel (List.mem_of_getElem? (i := 61) (by decide +kernel)) rfl
theorem ts_62 : Cond.selects RX7 yX7_mix yX7_mix ∈ gT := gT_sel (List.mem_of_getElem? (i := 62) (by decide +kernel)) rfl
theorem ts_63 : Cond.selects RX7 yX7_mixOpen yX7_mixOpen ∈ gT := gT_sel (List.mem_of_getElem? (i := 63) (by decide +kernel)) rfl
theorem iT_X0 : ∀ w ∈ wsX00, w ∈ gT := fun w h => by
  have hp : wsX00 = ([68, 70, 72, 74, 76] : List Nat).filterMap (fun i => tables_1[i]?) := by decide +kernel
  have hg : wsX00.all goodWord = true := by decide +kernel
  have h2 := h
  rw [hp] at h2
  obtain ⟨i, -, hi⟩ := List.mem_filterMap.mp h2
  exact gT_tab (List.mem_of_getElem? hi) (List.all_eq_true.mp hg w h)
theorem iT_X1 : ∀ w ∈ wsX10, w ∈ gT := fun w h => by
  have hp : wsX10 = ([141, 143, 145, 147, 149] : List Nat).filterMap (fun i => tables_1[i]?) := by decide +kernel
  have hg : wsX10.all goodWord = true := by decide +kernel
  have h2 := h
  rw [hp] at h2
  obtain ⟨i, -, hi⟩ := List.mem_filterMap.mp h2
  exact gT_tab (List.mem_of_getElem? hi) (List.all_eq_true.mp hg w h)
theorem iT_X2 : ∀ w ∈ wsX20, w ∈ gT := fun w h => by
  have hp : wsX20 = ([125, 127] : List Nat).filterMap (fun i => tables_1[i]?) := by decide +kernel
  have hg : wsX20.all goodWord = true := by decide +kernel
  have h2 := h
  rw [hp] at h2
  obtain ⟨i, -, hi⟩ := List.mem_filterMap.mp h2
  exact gT_tab (List.mem_of_getElem? hi) (List.all_eq_true.mp hg w h)
theorem iT_X3 : ∀ w ∈ wsX30, w ∈ gT := fun w h => by
  have hp : wsX30 = ([30, 32] : List Nat).filterMap (fun i => tables_1[i]?) := by decide +kernel
  have hg : wsX30.all goodWord = true := by decide +kernel
  have h2 := h
  rw [hp] at h2
  obtain ⟨i, -, hi⟩ := List.mem_filterMap.mp h2
  exact gT_tab (List.mem_of_getElem? hi) (List.all_eq_true.mp hg w h)
theorem iT_X4 : ∀ w ∈ wsX40, w ∈ gT := fun w h => by
  have hp : wsX40 = ([91, 93, 95, 97, 99] : List Nat).filterMap (fun i => tables_1[i]?) := by decide +kernel
  have hg : wsX40.all goodWord = true := by decide +kernel
  have h2 := h
  rw [hp] at h2
  obtain ⟨i, -, hi⟩ := List.mem_filterMap.mp h2
  exact gT_tab (List.mem_of_getElem? hi) (List.all_eq_true.mp hg w h)
theorem iT_X5 : ∀ w ∈ wsX50, w ∈ gT := fun w h => by
  have hp : wsX50 = ([110, 112] : List Nat).filterMap (fun i => tables_1[i]?) := by decide +kernel
  have hg : wsX50.all goodWord = true := by decide +kernel
  have h2 := h
  rw [hp] at h2
  obtain ⟨i, -, hi⟩ := List.mem_filterMap.mp h2
  exact gT_tab (List.mem_of_getElem? hi) (List.all_eq_true.mp hg w h)
theorem iT_X6 : ∀ w ∈ wsX60, w ∈ gT := fun w h => by
  have hp : wsX60 = ([164, 166, 168, 170, 172, 174, 176, 178, 180, 182] : List Nat).filterMap (fun i => tables_1[i]?) := by decide +kernel
  have hg : wsX60.all goodWord = true := by decide +kernel
  have h2 := h
  rw [hp] at h2
  obtain ⟨i, -, hi⟩ := List.mem_filterMap.mp h2
  exact gT_tab (List.mem_of_getElem? hi) (List.all_eq_true.mp hg w h)
theorem iT_X7 : ∀ w ∈ wsX70, w ∈ gT := fun w h => by
  have hp : wsX70 = ([578, 580, 582, 584, 586, 588, 590, 592, 594, 596, 598, 600, 602, 604, 606, 608, 610, 612, 614, 616, 618, 620, 622, 624, 626, 628, 630] : List Nat).filterMap (fun i => tables_1[i]?) := by decide +kernel
  have hg : wsX70.all goodWord = true := by decide +kernel
  have h2 := h
  rw [hp] at h2
  obtain ⟨i, -, hi⟩ := List.mem_filterMap.mp h2
  exact gT_tab (List.mem_of_getElem? hi) (List.all_eq_true.mp hg w h)
