section
-- ===== PART A: goes FIRST, ahead of the names: the tables' words, and 'selects' of the private methods out of them =====
/-- a private method of a class that the tables say can be made, by its rows of tables_1 -/
def lw_okq (q : MethodName × Nat) : Prop := (q.1.cls ≠ "java/lang/invoke/MethodHandle" ∧ q.1.cls ≠ "java/lang/invoke/VarHandle") ∧ Cond.instantiable q.1.cls q.2 ∈ tables_1 ∧ Cond.privateMethod q.1 ∈ tables_1 ∧ Cond.instanceMethod q.1 ∈ tables_1
theorem lw_p0 : lw_okq (⟨"GrownGraphs$Page", "fitsHead", "(I)Z"⟩, 2) := ⟨⟨by decide +kernel, by decide +kernel⟩, List.mem_of_getElem? (i := 21) (by decide +kernel), List.mem_of_getElem? (i := 210) (by decide +kernel), List.mem_of_getElem? (i := 211) (by decide +kernel)⟩
theorem lw_p1 : lw_okq (⟨"GrownGraphs$Page", "fitsEdge", "(IIZ)Z"⟩, 2) := ⟨⟨by decide +kernel, by decide +kernel⟩, List.mem_of_getElem? (i := 21) (by decide +kernel), List.mem_of_getElem? (i := 220) (by decide +kernel), List.mem_of_getElem? (i := 221) (by decide +kernel)⟩
theorem lw_p2 : lw_okq (⟨"GrownGraphs$Page", "isWhole", "(I)Z"⟩, 2) := ⟨⟨by decide +kernel, by decide +kernel⟩, List.mem_of_getElem? (i := 21) (by decide +kernel), List.mem_of_getElem? (i := 232) (by decide +kernel), List.mem_of_getElem? (i := 233) (by decide +kernel)⟩
theorem lw_p3 : lw_okq (⟨"GrownGraphs$Page", "names", "(I)Z"⟩, 2) := ⟨⟨by decide +kernel, by decide +kernel⟩, List.mem_of_getElem? (i := 21) (by decide +kernel), List.mem_of_getElem? (i := 237) (by decide +kernel), List.mem_of_getElem? (i := 238) (by decide +kernel)⟩
theorem lw_p4 : lw_okq (⟨"GrownGraphs$Page", "namesNoGap", "()Z"⟩, 2) := ⟨⟨by decide +kernel, by decide +kernel⟩, List.mem_of_getElem? (i := 21) (by decide +kernel), List.mem_of_getElem? (i := 241) (by decide +kernel), List.mem_of_getElem? (i := 242) (by decide +kernel)⟩
theorem lw_p5 : lw_okq (⟨"GrownGraphs$Page", "copyEdges", "(LGrownGraphs$Figure;I)V"⟩, 2) := ⟨⟨by decide +kernel, by decide +kernel⟩, List.mem_of_getElem? (i := 21) (by decide +kernel), List.mem_of_getElem? (i := 264) (by decide +kernel), List.mem_of_getElem? (i := 265) (by decide +kernel)⟩
theorem lw_p6 : lw_okq (⟨"GrownGraphs$Figure", "put", "(IIII)V"⟩, 5) := ⟨⟨by decide +kernel, by decide +kernel⟩, List.mem_of_getElem? (i := 50) (by decide +kernel), List.mem_of_getElem? (i := 276) (by decide +kernel), List.mem_of_getElem? (i := 277) (by decide +kernel)⟩
theorem lw_p7 : lw_okq (⟨"GrownGraphs$Figure", "comes", "(III)Z"⟩, 5) := ⟨⟨by decide +kernel, by decide +kernel⟩, List.mem_of_getElem? (i := 50) (by decide +kernel), List.mem_of_getElem? (i := 288) (by decide +kernel), List.mem_of_getElem? (i := 289) (by decide +kernel)⟩
theorem lw_p8 : lw_okq (⟨"GrownGraphs$Figure", "allows", "(II)Z"⟩, 5) := ⟨⟨by decide +kernel, by decide +kernel⟩, List.mem_of_getElem? (i := 50) (by decide +kernel), List.mem_of_getElem? (i := 296) (by decide +kernel), List.mem_of_getElem? (i := 297) (by decide +kernel)⟩
theorem lw_p9 : lw_okq (⟨"GrownGraphs", "noteNewGraph", "()V"⟩, 10) := ⟨⟨by decide +kernel, by decide +kernel⟩, List.mem_of_getElem? (i := 13) (by decide +kernel), List.mem_of_getElem? (i := 325) (by decide +kernel), List.mem_of_getElem? (i := 326) (by decide +kernel)⟩
theorem lw_p10 : lw_okq (⟨"GrownGraphs$Figure", "nodeFor", "(III)I"⟩, 5) := ⟨⟨by decide +kernel, by decide +kernel⟩, List.mem_of_getElem? (i := 50) (by decide +kernel), List.mem_of_getElem? (i := 354) (by decide +kernel), List.mem_of_getElem? (i := 355) (by decide +kernel)⟩
theorem lw_p11 : lw_okq (⟨"GrownGraphs$Origins", "improve", "(LGrownGraphs$Figure;ILGrownGraphs$RuleBook;Z)Z"⟩, 2) := ⟨⟨by decide +kernel, by decide +kernel⟩, List.mem_of_getElem? (i := 118) (by decide +kernel), List.mem_of_getElem? (i := 393) (by decide +kernel), List.mem_of_getElem? (i := 394) (by decide +kernel)⟩
theorem lw_p12 : lw_okq (⟨"GrownGraphs$Figure", "nodesOf", "(I)I"⟩, 5) := ⟨⟨by decide +kernel, by decide +kernel⟩, List.mem_of_getElem? (i := 50) (by decide +kernel), List.mem_of_getElem? (i := 407) (by decide +kernel), List.mem_of_getElem? (i := 408) (by decide +kernel)⟩
theorem lw_p13 : lw_okq (⟨"GrownGraphs$Origins", "byRule", "(LGrownGraphs$Figure;ILGrownGraphs$Rule;)I"⟩, 2) := ⟨⟨by decide +kernel, by decide +kernel⟩, List.mem_of_getElem? (i := 118) (by decide +kernel), List.mem_of_getElem? (i := 414) (by decide +kernel), List.mem_of_getElem? (i := 415) (by decide +kernel)⟩
theorem lw_p14 : lw_okq (⟨"GrownGraphs$Origins", "standsApart", "(I)Z"⟩, 2) := ⟨⟨by decide +kernel, by decide +kernel⟩, List.mem_of_getElem? (i := 118) (by decide +kernel), List.mem_of_getElem? (i := 418) (by decide +kernel), List.mem_of_getElem? (i := 419) (by decide +kernel)⟩
theorem lw_p15 : lw_okq (⟨"GrownGraphs$Origins", "bySplit", "(LGrownGraphs$Figure;ILGrownGraphs$Rule;)I"⟩, 2) := ⟨⟨by decide +kernel, by decide +kernel⟩, List.mem_of_getElem? (i := 118) (by decide +kernel), List.mem_of_getElem? (i := 422) (by decide +kernel), List.mem_of_getElem? (i := 423) (by decide +kernel)⟩
def lw_privs_1 : List (MethodName × Nat) := [(⟨"GrownGraphs$Page", "fitsHead", "(I)Z"⟩, 2), (⟨"GrownGraphs$Page", "fitsEdge", "(IIZ)Z"⟩, 2), (⟨"GrownGraphs$Page", "isWhole", "(I)Z"⟩, 2), (⟨"GrownGraphs$Page", "names", "(I)Z"⟩, 2), (⟨"GrownGraphs$Page", "namesNoGap", "()Z"⟩, 2), (⟨"GrownGraphs$Page", "copyEdges", "(LGrownGraphs$Figure;I)V"⟩, 2), (⟨"GrownGraphs$Figure", "put", "(IIII)V"⟩, 5), (⟨"GrownGraphs$Figure", "comes", "(III)Z"⟩, 5), (⟨"GrownGraphs$Figure", "allows", "(II)Z"⟩, 5), (⟨"GrownGraphs", "noteNewGraph", "()V"⟩, 10), (⟨"GrownGraphs$Figure", "nodeFor", "(III)I"⟩, 5), (⟨"GrownGraphs$Origins", "improve", "(LGrownGraphs$Figure;ILGrownGraphs$RuleBook;Z)Z"⟩, 2), (⟨"GrownGraphs$Figure", "nodesOf", "(I)I"⟩, 5), (⟨"GrownGraphs$Origins", "byRule", "(LGrownGraphs$Figure;ILGrownGraphs$Rule;)I"⟩, 2), (⟨"GrownGraphs$Origins", "standsApart", "(I)Z"⟩, 2), (⟨"GrownGraphs$Origins", "bySplit", "(LGrownGraphs$Figure;ILGrownGraphs$Rule;)I"⟩, 2)]
theorem lw_r1 : ∀ q ∈ lw_privs_1, lw_okq q := List.forall_mem_cons.mpr ⟨lw_p0, List.forall_mem_cons.mpr ⟨lw_p1, List.forall_mem_cons.mpr ⟨lw_p2, List.forall_mem_cons.mpr ⟨lw_p3, List.forall_mem_cons.mpr ⟨lw_p4, List.forall_mem_cons.mpr ⟨lw_p5, List.forall_mem_cons.mpr ⟨lw_p6, List.forall_mem_cons.mpr ⟨lw_p7, List.forall_mem_cons.mpr ⟨lw_p8, List.forall_mem_cons.mpr ⟨lw_p9, List.forall_mem_cons.mpr ⟨lw_p10, List.forall_mem_cons.mpr ⟨lw_p11, List.forall_mem_cons.mpr ⟨lw_p12, List.forall_mem_cons.mpr ⟨lw_p13, List.forall_mem_cons.mpr ⟨lw_p14, List.forall_mem_cons.mpr ⟨lw_p15, fun _ h => absurd h List.not_mem_nil⟩⟩⟩⟩⟩⟩⟩⟩⟩⟩⟩⟩⟩⟩⟩⟩
theorem lw_p16 : lw_okq (⟨"GrownGraphs$Origins", "bySlot", "(LGrownGraphs$Figure;ILGrownGraphs$Rule;I)I"⟩, 2) := ⟨⟨by decide +kernel, by decide +kernel⟩, List.mem_of_getElem? (i := 118) (by decide +kernel), List.mem_of_getElem? (i := 426) (by decide +kernel), List.mem_of_getElem? (i := 427) (by decide +kernel)⟩
theorem lw_p17 : lw_okq (⟨"GrownGraphs$Origins", "lower", "(II)Z"⟩, 2) := ⟨⟨by decide +kernel, by decide +kernel⟩, List.mem_of_getElem? (i := 118) (by decide +kernel), List.mem_of_getElem? (i := 438) (by decide +kernel), List.mem_of_getElem? (i := 439) (by decide +kernel)⟩
theorem lw_p18 : lw_okq (⟨"GrownGraphs", "bringLights", "()V"⟩, 10) := ⟨⟨by decide +kernel, by decide +kernel⟩, List.mem_of_getElem? (i := 13) (by decide +kernel), List.mem_of_getElem? (i := 451) (by decide +kernel), List.mem_of_getElem? (i := 452) (by decide +kernel)⟩
theorem lw_p19 : lw_okq (⟨"GrownGraphs$Lights", "forget", "()V"⟩, 5) := ⟨⟨by decide +kernel, by decide +kernel⟩, List.mem_of_getElem? (i := 131) (by decide +kernel), List.mem_of_getElem? (i := 459) (by decide +kernel), List.mem_of_getElem? (i := 460) (by decide +kernel)⟩
theorem lw_p20 : lw_okq (⟨"GrownGraphs$Lights", "offer", "(IIJI)V"⟩, 5) := ⟨⟨by decide +kernel, by decide +kernel⟩, List.mem_of_getElem? (i := 131) (by decide +kernel), List.mem_of_getElem? (i := 468) (by decide +kernel), List.mem_of_getElem? (i := 469) (by decide +kernel)⟩
theorem lw_p21 : lw_okq (⟨"GrownGraphs$Lights", "nearest", "()I"⟩, 5) := ⟨⟨by decide +kernel, by decide +kernel⟩, List.mem_of_getElem? (i := 131) (by decide +kernel), List.mem_of_getElem? (i := 472) (by decide +kernel), List.mem_of_getElem? (i := 473) (by decide +kernel)⟩
theorem lw_p22 : lw_okq (⟨"GrownGraphs$Lights", "settle", "(II)V"⟩, 5) := ⟨⟨by decide +kernel, by decide +kernel⟩, List.mem_of_getElem? (i := 131) (by decide +kernel), List.mem_of_getElem? (i := 476) (by decide +kernel), List.mem_of_getElem? (i := 477) (by decide +kernel)⟩
theorem lw_p23 : lw_okq (⟨"GrownGraphs$Lights", "spread", "(LGrownGraphs$Rule;III)V"⟩, 5) := ⟨⟨by decide +kernel, by decide +kernel⟩, List.mem_of_getElem? (i := 131) (by decide +kernel), List.mem_of_getElem? (i := 480) (by decide +kernel), List.mem_of_getElem? (i := 481) (by decide +kernel)⟩
theorem lw_p24 : lw_okq (⟨"GrownGraphs$Lights", "combine", "(LGrownGraphs$Rule;III)V"⟩, 5) := ⟨⟨by decide +kernel, by decide +kernel⟩, List.mem_of_getElem? (i := 131) (by decide +kernel), List.mem_of_getElem? (i := 484) (by decide +kernel), List.mem_of_getElem? (i := 485) (by decide +kernel)⟩
theorem lw_p25 : lw_okq (⟨"GrownGraphs$Lights", "choices", "(LGrownGraphs$Rule;II)I"⟩, 5) := ⟨⟨by decide +kernel, by decide +kernel⟩, List.mem_of_getElem? (i := 131) (by decide +kernel), List.mem_of_getElem? (i := 488) (by decide +kernel), List.mem_of_getElem? (i := 489) (by decide +kernel)⟩
theorem lw_p26 : lw_okq (⟨"GrownGraphs$Lights", "settledKind", "(LGrownGraphs$Rule;II)I"⟩, 5) := ⟨⟨by decide +kernel, by decide +kernel⟩, List.mem_of_getElem? (i := 131) (by decide +kernel), List.mem_of_getElem? (i := 492) (by decide +kernel), List.mem_of_getElem? (i := 493) (by decide +kernel)⟩
theorem lw_p27 : lw_okq (⟨"GrownGraphs$Lights", "stepsIn", "(LGrownGraphs$Rule;II)J"⟩, 5) := ⟨⟨by decide +kernel, by decide +kernel⟩, List.mem_of_getElem? (i := 131) (by decide +kernel), List.mem_of_getElem? (i := 496) (by decide +kernel), List.mem_of_getElem? (i := 497) (by decide +kernel)⟩
theorem lw_p28 : lw_okq (⟨"GrownGraphsModel", "read", "(Z)I"⟩, 27) := ⟨⟨by decide +kernel, by decide +kernel⟩, List.mem_of_getElem? (i := 546) (by decide +kernel), List.mem_of_getElem? (i := 649) (by decide +kernel), List.mem_of_getElem? (i := 650) (by decide +kernel)⟩
theorem lw_p29 : lw_okq (⟨"GrownGraphsModel", "takes", "(IIZ)Z"⟩, 27) := ⟨⟨by decide +kernel, by decide +kernel⟩, List.mem_of_getElem? (i := 546) (by decide +kernel), List.mem_of_getElem? (i := 653) (by decide +kernel), List.mem_of_getElem? (i := 654) (by decide +kernel)⟩
theorem lw_p30 : lw_okq (⟨"GrownGraphsModel", "takesEdge", "(IZ)Z"⟩, 27) := ⟨⟨by decide +kernel, by decide +kernel⟩, List.mem_of_getElem? (i := 546) (by decide +kernel), List.mem_of_getElem? (i := 657) (by decide +kernel), List.mem_of_getElem? (i := 658) (by decide +kernel)⟩
theorem lw_p31 : lw_okq (⟨"GrownGraphsModel", "isWhole", "(Z)Z"⟩, 27) := ⟨⟨by decide +kernel, by decide +kernel⟩, List.mem_of_getElem? (i := 546) (by decide +kernel), List.mem_of_getElem? (i := 668) (by decide +kernel), List.mem_of_getElem? (i := 669) (by decide +kernel)⟩
def lw_privs_2 : List (MethodName × Nat) := [(⟨"GrownGraphs$Origins", "bySlot", "(LGrownGraphs$Figure;ILGrownGraphs$Rule;I)I"⟩, 2), (⟨"GrownGraphs$Origins", "lower", "(II)Z"⟩, 2), (⟨"GrownGraphs", "bringLights", "()V"⟩, 10), (⟨"GrownGraphs$Lights", "forget", "()V"⟩, 5), (⟨"GrownGraphs$Lights", "offer", "(IIJI)V"⟩, 5), (⟨"GrownGraphs$Lights", "nearest", "()I"⟩, 5), (⟨"GrownGraphs$Lights", "settle", "(II)V"⟩, 5), (⟨"GrownGraphs$Lights", "spread", "(LGrownGraphs$Rule;III)V"⟩, 5), (⟨"GrownGraphs$Lights", "combine", "(LGrownGraphs$Rule;III)V"⟩, 5), (⟨"GrownGraphs$Lights", "choices", "(LGrownGraphs$Rule;II)I"⟩, 5), (⟨"GrownGraphs$Lights", "settledKind", "(LGrownGraphs$Rule;II)I"⟩, 5), (⟨"GrownGraphs$Lights", "stepsIn", "(LGrownGraphs$Rule;II)J"⟩, 5), (⟨"GrownGraphsModel", "read", "(Z)I"⟩, 27), (⟨"GrownGraphsModel", "takes", "(IIZ)Z"⟩, 27), (⟨"GrownGraphsModel", "takesEdge", "(IZ)Z"⟩, 27), (⟨"GrownGraphsModel", "isWhole", "(Z)Z"⟩, 27)]
theorem lw_r2 : ∀ q ∈ lw_privs_2, lw_okq q := List.forall_mem_cons.mpr ⟨lw_p16, List.forall_mem_cons.mpr ⟨lw_p17, List.forall_mem_cons.mpr ⟨lw_p18, List.forall_mem_cons.mpr ⟨lw_p19, List.forall_mem_cons.mpr ⟨lw_p20, List.forall_mem_cons.mpr ⟨lw_p21, List.forall_mem_cons.mpr ⟨lw_p22, List.forall_mem_cons.mpr ⟨lw_p23, List.forall_mem_cons.mpr ⟨lw_p24, List.forall_mem_cons.mpr ⟨lw_p25, List.forall_mem_cons.mpr ⟨lw_p26, List.forall_mem_cons.mpr ⟨lw_p27, List.forall_mem_cons.mpr ⟨lw_p28, List.forall_mem_cons.mpr ⟨lw_p29, List.forall_mem_cons.mpr ⟨lw_p30, List.forall_mem_cons.mpr ⟨lw_p31, fun _ h => absurd h List.not_mem_nil⟩⟩⟩⟩⟩⟩⟩⟩⟩⟩⟩⟩⟩⟩⟩⟩
theorem lw_p32 : lw_okq (⟨"GrownGraphsModel", "altered", "()V"⟩, 27) := ⟨⟨by decide +kernel, by decide +kernel⟩, List.mem_of_getElem? (i := 546) (by decide +kernel), List.mem_of_getElem? (i := 678) (by decide +kernel), List.mem_of_getElem? (i := 679) (by decide +kernel)⟩
theorem lw_p33 : lw_okq (⟨"GrownGraphsModel", "isRule", "(I)Z"⟩, 27) := ⟨⟨by decide +kernel, by decide +kernel⟩, List.mem_of_getElem? (i := 546) (by decide +kernel), List.mem_of_getElem? (i := 686) (by decide +kernel), List.mem_of_getElem? (i := 687) (by decide +kernel)⟩
theorem lw_p34 : lw_okq (⟨"GrownGraphsModel", "ruleNow", "(II)I"⟩, 27) := ⟨⟨by decide +kernel, by decide +kernel⟩, List.mem_of_getElem? (i := 546) (by decide +kernel), List.mem_of_getElem? (i := 698) (by decide +kernel), List.mem_of_getElem? (i := 699) (by decide +kernel)⟩
theorem lw_p35 : lw_okq (⟨"GrownGraphsModel", "isEdge", "(I)Z"⟩, 27) := ⟨⟨by decide +kernel, by decide +kernel⟩, List.mem_of_getElem? (i := 546) (by decide +kernel), List.mem_of_getElem? (i := 710) (by decide +kernel), List.mem_of_getElem? (i := 711) (by decide +kernel)⟩
theorem lw_p36 : lw_okq (⟨"GrownGraphsModel", "nodeFor", "(II)I"⟩, 27) := ⟨⟨by decide +kernel, by decide +kernel⟩, List.mem_of_getElem? (i := 546) (by decide +kernel), List.mem_of_getElem? (i := 720) (by decide +kernel), List.mem_of_getElem? (i := 721) (by decide +kernel)⟩
theorem lw_p37 : lw_okq (⟨"GrownGraphsModel", "isDone", "()Z"⟩, 27) := ⟨⟨by decide +kernel, by decide +kernel⟩, List.mem_of_getElem? (i := 546) (by decide +kernel), List.mem_of_getElem? (i := 735) (by decide +kernel), List.mem_of_getElem? (i := 736) (by decide +kernel)⟩
theorem lw_p38 : lw_okq (⟨"GrownGraphsModel", "opens", "()I"⟩, 27) := ⟨⟨by decide +kernel, by decide +kernel⟩, List.mem_of_getElem? (i := 546) (by decide +kernel), List.mem_of_getElem? (i := 739) (by decide +kernel), List.mem_of_getElem? (i := 740) (by decide +kernel)⟩
theorem lw_p39 : lw_okq (⟨"GrownGraphsModel", "kindNow", "()I"⟩, 27) := ⟨⟨by decide +kernel, by decide +kernel⟩, List.mem_of_getElem? (i := 546) (by decide +kernel), List.mem_of_getElem? (i := 743) (by decide +kernel), List.mem_of_getElem? (i := 744) (by decide +kernel)⟩
theorem lw_p40 : lw_okq (⟨"GrownGraphsModel", "leadsTo", "(II)Z"⟩, 27) := ⟨⟨by decide +kernel, by decide +kernel⟩, List.mem_of_getElem? (i := 546) (by decide +kernel), List.mem_of_getElem? (i := 747) (by decide +kernel), List.mem_of_getElem? (i := 748) (by decide +kernel)⟩
theorem lw_p41 : lw_okq (⟨"GrownGraphsModel", "coloured", "()I"⟩, 27) := ⟨⟨by decide +kernel, by decide +kernel⟩, List.mem_of_getElem? (i := 546) (by decide +kernel), List.mem_of_getElem? (i := 751) (by decide +kernel), List.mem_of_getElem? (i := 752) (by decide +kernel)⟩
theorem lw_p42 : lw_okq (⟨"GrownGraphsModel", "fewestNow", "(I)I"⟩, 27) := ⟨⟨by decide +kernel, by decide +kernel⟩, List.mem_of_getElem? (i := 546) (by decide +kernel), List.mem_of_getElem? (i := 759) (by decide +kernel), List.mem_of_getElem? (i := 760) (by decide +kernel)⟩
theorem lw_p43 : lw_okq (⟨"GrownGraphsModel", "layFewest", "()V"⟩, 27) := ⟨⟨by decide +kernel, by decide +kernel⟩, List.mem_of_getElem? (i := 546) (by decide +kernel), List.mem_of_getElem? (i := 763) (by decide +kernel), List.mem_of_getElem? (i := 764) (by decide +kernel)⟩
theorem lw_p44 : lw_okq (⟨"GrownGraphsModel", "laySet", "(I)V"⟩, 27) := ⟨⟨by decide +kernel, by decide +kernel⟩, List.mem_of_getElem? (i := 546) (by decide +kernel), List.mem_of_getElem? (i := 770) (by decide +kernel), List.mem_of_getElem? (i := 771) (by decide +kernel)⟩
theorem lw_p45 : lw_okq (⟨"GrownGraphsModel", "layEnds", "(III)V"⟩, 27) := ⟨⟨by decide +kernel, by decide +kernel⟩, List.mem_of_getElem? (i := 546) (by decide +kernel), List.mem_of_getElem? (i := 774) (by decide +kernel), List.mem_of_getElem? (i := 775) (by decide +kernel)⟩
theorem lw_p46 : lw_okq (⟨"GrownGraphsModel", "at", "(IIII)I"⟩, 27) := ⟨⟨by decide +kernel, by decide +kernel⟩, List.mem_of_getElem? (i := 546) (by decide +kernel), List.mem_of_getElem? (i := 778) (by decide +kernel), List.mem_of_getElem? (i := 779) (by decide +kernel)⟩
theorem lw_p47 : lw_okq (⟨"GrownGraphsModel", "byInner", "(II)I"⟩, 27) := ⟨⟨by decide +kernel, by decide +kernel⟩, List.mem_of_getElem? (i := 546) (by decide +kernel), List.mem_of_getElem? (i := 783) (by decide +kernel), List.mem_of_getElem? (i := 784) (by decide +kernel)⟩
def lw_privs_3 : List (MethodName × Nat) := [(⟨"GrownGraphsModel", "altered", "()V"⟩, 27), (⟨"GrownGraphsModel", "isRule", "(I)Z"⟩, 27), (⟨"GrownGraphsModel", "ruleNow", "(II)I"⟩, 27), (⟨"GrownGraphsModel", "isEdge", "(I)Z"⟩, 27), (⟨"GrownGraphsModel", "nodeFor", "(II)I"⟩, 27), (⟨"GrownGraphsModel", "isDone", "()Z"⟩, 27), (⟨"GrownGraphsModel", "opens", "()I"⟩, 27), (⟨"GrownGraphsModel", "kindNow", "()I"⟩, 27), (⟨"GrownGraphsModel", "leadsTo", "(II)Z"⟩, 27), (⟨"GrownGraphsModel", "coloured", "()I"⟩, 27), (⟨"GrownGraphsModel", "fewestNow", "(I)I"⟩, 27), (⟨"GrownGraphsModel", "layFewest", "()V"⟩, 27), (⟨"GrownGraphsModel", "laySet", "(I)V"⟩, 27), (⟨"GrownGraphsModel", "layEnds", "(III)V"⟩, 27), (⟨"GrownGraphsModel", "at", "(IIII)I"⟩, 27), (⟨"GrownGraphsModel", "byInner", "(II)I"⟩, 27)]
theorem lw_r3 : ∀ q ∈ lw_privs_3, lw_okq q := List.forall_mem_cons.mpr ⟨lw_p32, List.forall_mem_cons.mpr ⟨lw_p33, List.forall_mem_cons.mpr ⟨lw_p34, List.forall_mem_cons.mpr ⟨lw_p35, List.forall_mem_cons.mpr ⟨lw_p36, List.forall_mem_cons.mpr ⟨lw_p37, List.forall_mem_cons.mpr ⟨lw_p38, List.forall_mem_cons.mpr ⟨lw_p39, List.forall_mem_cons.mpr ⟨lw_p40, List.forall_mem_cons.mpr ⟨lw_p41, List.forall_mem_cons.mpr ⟨lw_p42, List.forall_mem_cons.mpr ⟨lw_p43, List.forall_mem_cons.mpr ⟨lw_p44, List.forall_mem_cons.mpr ⟨lw_p45, List.forall_mem_cons.mpr ⟨lw_p46, List.forall_mem_cons.mpr ⟨lw_p47, fun _ h => absurd h List.not_mem_nil⟩⟩⟩⟩⟩⟩⟩⟩⟩⟩⟩⟩⟩⟩⟩⟩
theorem lw_p48 : lw_okq (⟨"GrownGraphsModel", "areUnlike", "(I)Z"⟩, 27) := ⟨⟨by decide +kernel, by decide +kernel⟩, List.mem_of_getElem? (i := 546) (by decide +kernel), List.mem_of_getElem? (i := 787) (by decide +kernel), List.mem_of_getElem? (i := 788) (by decide +kernel)⟩
theorem lw_p49 : lw_okq (⟨"GrownGraphsModel", "bySplits", "(II)I"⟩, 27) := ⟨⟨by decide +kernel, by decide +kernel⟩, List.mem_of_getElem? (i := 546) (by decide +kernel), List.mem_of_getElem? (i := 791) (by decide +kernel), List.mem_of_getElem? (i := 792) (by decide +kernel)⟩
theorem lw_p50 : lw_okq (⟨"GrownGraphsModel", "stepsFor", "(II)I"⟩, 27) := ⟨⟨by decide +kernel, by decide +kernel⟩, List.mem_of_getElem? (i := 546) (by decide +kernel), List.mem_of_getElem? (i := 795) (by decide +kernel), List.mem_of_getElem? (i := 796) (by decide +kernel)⟩
theorem lw_p51 : lw_okq (⟨"GrownGraphsModel", "stepsOf", "(IIII)I"⟩, 27) := ⟨⟨by decide +kernel, by decide +kernel⟩, List.mem_of_getElem? (i := 546) (by decide +kernel), List.mem_of_getElem? (i := 799) (by decide +kernel), List.mem_of_getElem? (i := 800) (by decide +kernel)⟩
theorem lw_p52 : lw_okq (⟨"GrownGraphsModel", "areApart", "(IIII)Z"⟩, 27) := ⟨⟨by decide +kernel, by decide +kernel⟩, List.mem_of_getElem? (i := 546) (by decide +kernel), List.mem_of_getElem? (i := 803) (by decide +kernel), List.mem_of_getElem? (i := 804) (by decide +kernel)⟩
theorem lw_p53 : lw_okq (⟨"GrownGraphsModel", "laySingles", "(III)Z"⟩, 27) := ⟨⟨by decide +kernel, by decide +kernel⟩, List.mem_of_getElem? (i := 546) (by decide +kernel), List.mem_of_getElem? (i := 807) (by decide +kernel), List.mem_of_getElem? (i := 808) (by decide +kernel)⟩
theorem lw_p54 : lw_okq (⟨"GrownGraphsModel", "kindsNow", "(I)I"⟩, 27) := ⟨⟨by decide +kernel, by decide +kernel⟩, List.mem_of_getElem? (i := 546) (by decide +kernel), List.mem_of_getElem? (i := 815) (by decide +kernel), List.mem_of_getElem? (i := 816) (by decide +kernel)⟩
theorem lw_p55 : lw_okq (⟨"GrownGraphsModel", "layLights", "()V"⟩, 27) := ⟨⟨by decide +kernel, by decide +kernel⟩, List.mem_of_getElem? (i := 546) (by decide +kernel), List.mem_of_getElem? (i := 819) (by decide +kernel), List.mem_of_getElem? (i := 820) (by decide +kernel)⟩
theorem lw_p56 : lw_okq (⟨"GrownGraphsModel", "layRule", "(IZ)Z"⟩, 27) := ⟨⟨by decide +kernel, by decide +kernel⟩, List.mem_of_getElem? (i := 546) (by decide +kernel), List.mem_of_getElem? (i := 827) (by decide +kernel), List.mem_of_getElem? (i := 828) (by decide +kernel)⟩
theorem lw_p57 : lw_okq (⟨"GrownGraphsModel", "layLight", "(IJZ)Z"⟩, 27) := ⟨⟨by decide +kernel, by decide +kernel⟩, List.mem_of_getElem? (i := 546) (by decide +kernel), List.mem_of_getElem? (i := 831) (by decide +kernel), List.mem_of_getElem? (i := 832) (by decide +kernel)⟩
theorem lw_p58 : lw_okq (⟨"GrownGraphsModel", "leads", "(IZ)Z"⟩, 27) := ⟨⟨by decide +kernel, by decide +kernel⟩, List.mem_of_getElem? (i := 546) (by decide +kernel), List.mem_of_getElem? (i := 835) (by decide +kernel), List.mem_of_getElem? (i := 836) (by decide +kernel)⟩
theorem lw_p59 : lw_okq (⟨"GrownGraphsModel", "colouredBy", "(I)I"⟩, 27) := ⟨⟨by decide +kernel, by decide +kernel⟩, List.mem_of_getElem? (i := 546) (by decide +kernel), List.mem_of_getElem? (i := 839) (by decide +kernel), List.mem_of_getElem? (i := 840) (by decide +kernel)⟩
theorem lw_p60 : lw_okq (⟨"GrownGraphsModel", "lightNow", "(III)I"⟩, 27) := ⟨⟨by decide +kernel, by decide +kernel⟩, List.mem_of_getElem? (i := 546) (by decide +kernel), List.mem_of_getElem? (i := 847) (by decide +kernel), List.mem_of_getElem? (i := 848) (by decide +kernel)⟩
theorem lw_p61 : lw_okq (⟨"GrownGraphsModel", "howMany", "(I)I"⟩, 27) := ⟨⟨by decide +kernel, by decide +kernel⟩, List.mem_of_getElem? (i := 546) (by decide +kernel), List.mem_of_getElem? (i := 855) (by decide +kernel), List.mem_of_getElem? (i := 856) (by decide +kernel)⟩
theorem lw_p62 : lw_okq (⟨"GrownGraphsModel", "mix", "(J)V"⟩, 27) := ⟨⟨by decide +kernel, by decide +kernel⟩, List.mem_of_getElem? (i := 546) (by decide +kernel), List.mem_of_getElem? (i := 864) (by decide +kernel), List.mem_of_getElem? (i := 865) (by decide +kernel)⟩
theorem lw_p63 : lw_okq (⟨"GrownGraphsModel", "mixOpen", "(I)V"⟩, 27) := ⟨⟨by decide +kernel, by decide +kernel⟩, List.mem_of_getElem? (i := 546) (by decide +kernel), List.mem_of_getElem? (i := 870) (by decide +kernel), List.mem_of_getElem? (i := 871) (by decide +kernel)⟩
def lw_privs_4 : List (MethodName × Nat) := [(⟨"GrownGraphsModel", "areUnlike", "(I)Z"⟩, 27), (⟨"GrownGraphsModel", "bySplits", "(II)I"⟩, 27), (⟨"GrownGraphsModel", "stepsFor", "(II)I"⟩, 27), (⟨"GrownGraphsModel", "stepsOf", "(IIII)I"⟩, 27), (⟨"GrownGraphsModel", "areApart", "(IIII)Z"⟩, 27), (⟨"GrownGraphsModel", "laySingles", "(III)Z"⟩, 27), (⟨"GrownGraphsModel", "kindsNow", "(I)I"⟩, 27), (⟨"GrownGraphsModel", "layLights", "()V"⟩, 27), (⟨"GrownGraphsModel", "layRule", "(IZ)Z"⟩, 27), (⟨"GrownGraphsModel", "layLight", "(IJZ)Z"⟩, 27), (⟨"GrownGraphsModel", "leads", "(IZ)Z"⟩, 27), (⟨"GrownGraphsModel", "colouredBy", "(I)I"⟩, 27), (⟨"GrownGraphsModel", "lightNow", "(III)I"⟩, 27), (⟨"GrownGraphsModel", "howMany", "(I)I"⟩, 27), (⟨"GrownGraphsModel", "mix", "(J)V"⟩, 27), (⟨"GrownGraphsModel", "mixOpen", "(I)V"⟩, 27)]
theorem lw_r4 : ∀ q ∈ lw_privs_4, lw_okq q := List.forall_mem_cons.mpr ⟨lw_p48, List.forall_mem_cons.mpr ⟨lw_p49, List.forall_mem_cons.mpr ⟨lw_p50, List.forall_mem_cons.mpr ⟨lw_p51, List.forall_mem_cons.mpr ⟨lw_p52, List.forall_mem_cons.mpr ⟨lw_p53, List.forall_mem_cons.mpr ⟨lw_p54, List.forall_mem_cons.mpr ⟨lw_p55, List.forall_mem_cons.mpr ⟨lw_p56, List.forall_mem_cons.mpr ⟨lw_p57, List.forall_mem_cons.mpr ⟨lw_p58, List.forall_mem_cons.mpr ⟨lw_p59, List.forall_mem_cons.mpr ⟨lw_p60, List.forall_mem_cons.mpr ⟨lw_p61, List.forall_mem_cons.mpr ⟨lw_p62, List.forall_mem_cons.mpr ⟨lw_p63, fun _ h => absurd h List.not_mem_nil⟩⟩⟩⟩⟩⟩⟩⟩⟩⟩⟩⟩⟩⟩⟩⟩
def lw_privs : List (MethodName × Nat) := lw_privs_1 ++ (lw_privs_2 ++ (lw_privs_3 ++ (lw_privs_4)))
def lw_tbl : List Cond := k2_sels lw_privs ++ tables_1
theorem lw_privs_ok : ∀ q ∈ lw_privs, lw_okq q := by
  show ∀ q ∈ lw_privs_1 ++ (lw_privs_2 ++ (lw_privs_3 ++ (lw_privs_4))), lw_okq q
  exact List.forall_mem_append.mpr ⟨lw_r1, List.forall_mem_append.mpr ⟨lw_r2, List.forall_mem_append.mpr ⟨lw_r3, lw_r4⟩⟩⟩
end
section
def RX0 : String := "GrownGraphs$Figure"
def TX0 : u_T := fun k => match k with
  | 0 => ("GrownGraphs$Figure", "letters", "[I", true)
  | 1 => ("GrownGraphs$Figure", "from", "[I", true)
  | 2 => ("GrownGraphs$Figure", "to", "[I", true)
  | 3 => ("GrownGraphs$Figure", "size", "I", false)
  | _ => ("GrownGraphs$Figure", "nodes", "I", false)
def tyX0 : Nat → FieldType := fun k => match k with
  | 0 => .array .int
  | 1 => .array .int
  | 2 => .array .int
  | 3 => .int
  | _ => .int
abbrev wsX00 : List Cond := u_ws RX0 TX0 5
theorem nmX0 : ∀ a, a < 5 → ∀ b, b < 5 → a ≠ b → (TX0 a).2.1 ≠ (TX0 b).2.1 := by decide +kernel
theorem tyX0_ok : ∀ k, k < 5 → parseFieldDescriptor (TX0 k).2.2.1 = some (tyX0 k) := by decide +kernel
abbrev cX0_init : ByteArray := prog_2_method_1_code
def yX0_init : MethodName := ⟨RX0, "<init>", "(I)V"⟩
abbrev cX0_clear : ByteArray := prog_2_method_2_code
def yX0_clear : MethodName := ⟨RX0, "clear", "(I)V"⟩
abbrev cX0_has : ByteArray := prog_2_method_3_code
def yX0_has : MethodName := ⟨RX0, "has", "(I)Z"⟩
abbrev cX0_append : ByteArray := prog_2_method_4_code
def yX0_append : MethodName := ⟨RX0, "append", "(III)V"⟩
abbrev cX0_put : ByteArray := prog_2_method_5_code
def yX0_put : MethodName := ⟨RX0, "put", "(IIII)V"⟩
abbrev cX0_told : ByteArray := prog_2_method_6_code
def yX0_told : MethodName := ⟨RX0, "told", "(I)I"⟩
abbrev cX0_openEdges : ByteArray := prog_2_method_7_code
def yX0_openEdges : MethodName := ⟨RX0, "openEdges", "()I"⟩
abbrev cX0_isDone : ByteArray := prog_2_method_8_code
def yX0_isDone : MethodName := ⟨RX0, "isDone", "()Z"⟩
abbrev cX0_replace : ByteArray := prog_2_method_9_code
def yX0_replace : MethodName := ⟨RX0, "replace", "(ILGrownGraphs$Figure;)V"⟩
abbrev cX0_nodeFor : ByteArray := prog_2_method_10_code
def yX0_nodeFor : MethodName := ⟨RX0, "nodeFor", "(III)I"⟩
abbrev cX0_isPart : ByteArray := prog_2_method_11_code
def yX0_isPart : MethodName := ⟨RX0, "isPart", "(III)Z"⟩
abbrev cX0_nodesOf : ByteArray := prog_2_method_12_code
def yX0_nodesOf : MethodName := ⟨RX0, "nodesOf", "(I)I"⟩
abbrev cX0_isEdge : ByteArray := prog_2_method_13_code
def yX0_isEdge : MethodName := ⟨RX0, "isEdge", "(IIII)Z"⟩
abbrev cX0_ownKind : ByteArray := prog_2_method_14_code
def yX0_ownKind : MethodName := ⟨RX0, "ownKind", "()I"⟩
abbrev cX0_waysOf : ByteArray := prog_2_method_15_code
def yX0_waysOf : MethodName := ⟨RX0, "waysOf", "(I)I"⟩
abbrev cX0_comes : ByteArray := prog_2_method_16_code
def yX0_comes : MethodName := ⟨RX0, "comes", "(III)Z"⟩
abbrev cX0_huesOf : ByteArray := prog_2_method_17_code
def yX0_huesOf : MethodName := ⟨RX0, "huesOf", "(I)I"⟩
abbrev cX0_allows : ByteArray := prog_2_method_18_code
def yX0_allows : MethodName := ⟨RX0, "allows", "(II)Z"⟩
def RX1 : String := "GrownGraphs$Lights"
def TX1 : u_T := fun k => match k with
  | 0 => ("GrownGraphs$Lights", "steps", "[J", true)
  | 1 => ("GrownGraphs$Lights", "firsts", "[I", true)
  | 2 => ("GrownGraphs$Lights", "settled", "[Z", true)
  | 3 => ("GrownGraphs$Lights", "settledKinds", "[I", true)
  | _ => ("GrownGraphs$Lights", "settledCount", "[I", true)
def tyX1 : Nat → FieldType := fun k => match k with
  | 0 => .array .long
  | 1 => .array .int
  | 2 => .array .boolean
  | 3 => .array .int
  | _ => .array .int
abbrev wsX10 : List Cond := u_ws RX1 TX1 5
theorem nmX1 : ∀ a, a < 5 → ∀ b, b < 5 → a ≠ b → (TX1 a).2.1 ≠ (TX1 b).2.1 := by decide +kernel
theorem tyX1_ok : ∀ k, k < 5 → parseFieldDescriptor (TX1 k).2.2.1 = some (tyX1 k) := by decide +kernel
abbrev cX1_init : ByteArray := prog_3_method_1_code
def yX1_init : MethodName := ⟨RX1, "<init>", "()V"⟩
abbrev cX1_reaches : ByteArray := prog_3_method_2_code
def yX1_reaches : MethodName := ⟨RX1, "reaches", "(II)Z"⟩
abbrev cX1_stepsTo : ByteArray := prog_3_method_3_code
def yX1_stepsTo : MethodName := ⟨RX1, "stepsTo", "(II)I"⟩
abbrev cX1_firstTo : ByteArray := prog_3_method_4_code
def yX1_firstTo : MethodName := ⟨RX1, "firstTo", "(II)I"⟩
abbrev cX1_find : ByteArray := prog_3_method_5_code
def yX1_find : MethodName := ⟨RX1, "find", "(LGrownGraphs$RuleBook;)V"⟩
abbrev cX1_forget : ByteArray := prog_3_method_6_code
def yX1_forget : MethodName := ⟨RX1, "forget", "()V"⟩
abbrev cX1_offer : ByteArray := prog_3_method_7_code
def yX1_offer : MethodName := ⟨RX1, "offer", "(IIJI)V"⟩
abbrev cX1_nearest : ByteArray := prog_3_method_8_code
def yX1_nearest : MethodName := ⟨RX1, "nearest", "()I"⟩
abbrev cX1_settle : ByteArray := prog_3_method_9_code
def yX1_settle : MethodName := ⟨RX1, "settle", "(II)V"⟩
abbrev cX1_spread : ByteArray := prog_3_method_10_code
def yX1_spread : MethodName := ⟨RX1, "spread", "(LGrownGraphs$Rule;III)V"⟩
abbrev cX1_combine : ByteArray := prog_3_method_11_code
def yX1_combine : MethodName := ⟨RX1, "combine", "(LGrownGraphs$Rule;III)V"⟩
abbrev cX1_choices : ByteArray := prog_3_method_12_code
def yX1_choices : MethodName := ⟨RX1, "choices", "(LGrownGraphs$Rule;II)I"⟩
abbrev cX1_settledKind : ByteArray := prog_3_method_13_code
def yX1_settledKind : MethodName := ⟨RX1, "settledKind", "(LGrownGraphs$Rule;II)I"⟩
abbrev cX1_stepsIn : ByteArray := prog_3_method_14_code
def yX1_stepsIn : MethodName := ⟨RX1, "stepsIn", "(LGrownGraphs$Rule;II)J"⟩
def RX2 : String := "GrownGraphs$Origins"
def TX2 : u_T := fun k => match k with
  | 0 => ("GrownGraphs$Origins", "steps", "[I", true)
  | _ => ("GrownGraphs$Origins", "stand", "[I", true)
def tyX2 : Nat → FieldType := fun k => match k with
  | 0 => .array .int
  | _ => .array .int
abbrev wsX20 : List Cond := u_ws RX2 TX2 2
theorem nmX2 : ∀ a, a < 2 → ∀ b, b < 2 → a ≠ b → (TX2 a).2.1 ≠ (TX2 b).2.1 := by decide +kernel
theorem tyX2_ok : ∀ k, k < 2 → parseFieldDescriptor (TX2 k).2.2.1 = some (tyX2 k) := by decide +kernel
abbrev cX2_init : ByteArray := prog_4_method_1_code
def yX2_init : MethodName := ⟨RX2, "<init>", "()V"⟩
abbrev cX2_ofWhole : ByteArray := prog_4_method_2_code
def yX2_ofWhole : MethodName := ⟨RX2, "ofWhole", "(LGrownGraphs$Figure;I)I"⟩
abbrev cX2_at : ByteArray := prog_4_method_3_code
def yX2_at : MethodName := ⟨RX2, "at", "(IIII)I"⟩
abbrev cX2_find : ByteArray := prog_4_method_4_code
def yX2_find : MethodName := ⟨RX2, "find", "(LGrownGraphs$Figure;LGrownGraphs$RuleBook;)V"⟩
abbrev cX2_improve : ByteArray := prog_4_method_5_code
def yX2_improve : MethodName := ⟨RX2, "improve", "(LGrownGraphs$Figure;ILGrownGraphs$RuleBook;Z)Z"⟩
abbrev cX2_lower : ByteArray := prog_4_method_6_code
def yX2_lower : MethodName := ⟨RX2, "lower", "(II)Z"⟩
abbrev cX2_byRule : ByteArray := prog_4_method_7_code
def yX2_byRule : MethodName := ⟨RX2, "byRule", "(LGrownGraphs$Figure;ILGrownGraphs$Rule;)I"⟩
abbrev cX2_standsApart : ByteArray := prog_4_method_8_code
def yX2_standsApart : MethodName := ⟨RX2, "standsApart", "(I)Z"⟩
abbrev cX2_bySplit : ByteArray := prog_4_method_9_code
def yX2_bySplit : MethodName := ⟨RX2, "bySplit", "(LGrownGraphs$Figure;ILGrownGraphs$Rule;)I"⟩
abbrev cX2_bySlot : ByteArray := prog_4_method_10_code
def yX2_bySlot : MethodName := ⟨RX2, "bySlot", "(LGrownGraphs$Figure;ILGrownGraphs$Rule;I)I"⟩
def RX3 : String := "GrownGraphs$Page"
def TX3 : u_T := fun k => match k with
  | 0 => ("GrownGraphs$Page", "codes", "[I", true)
  | _ => ("GrownGraphs$Page", "size", "I", false)
def tyX3 : Nat → FieldType := fun k => match k with
  | 0 => .array .int
  | _ => .int
abbrev wsX30 : List Cond := u_ws RX3 TX3 2
theorem nmX3 : ∀ a, a < 2 → ∀ b, b < 2 → a ≠ b → (TX3 a).2.1 ≠ (TX3 b).2.1 := by decide +kernel
theorem tyX3_ok : ∀ k, k < 2 → parseFieldDescriptor (TX3 k).2.2.1 = some (tyX3 k) := by decide +kernel
abbrev cX3_init : ByteArray := prog_5_method_1_code
def yX3_init : MethodName := ⟨RX3, "<init>", "()V"⟩
abbrev cX3_clear : ByteArray := prog_5_method_2_code
def yX3_clear : MethodName := ⟨RX3, "clear", "()V"⟩
abbrev cX3_write : ByteArray := prog_5_method_3_code
def yX3_write : MethodName := ⟨RX3, "write", "(I)V"⟩
abbrev cX3_firstFault : ByteArray := prog_5_method_4_code
def yX3_firstFault : MethodName := ⟨RX3, "firstFault", "(Z)I"⟩
abbrev cX3_fitsHead : ByteArray := prog_5_method_5_code
def yX3_fitsHead : MethodName := ⟨RX3, "fitsHead", "(I)Z"⟩
abbrev cX3_fitsEdge : ByteArray := prog_5_method_6_code
def yX3_fitsEdge : MethodName := ⟨RX3, "fitsEdge", "(IIZ)Z"⟩
abbrev cX3_letterOf : ByteArray := prog_5_method_7_code
def yX3_letterOf : MethodName := ⟨RX3, "letterOf", "(I)I"⟩
abbrev cX3_isRule : ByteArray := prog_5_method_8_code
def yX3_isRule : MethodName := ⟨RX3, "isRule", "()Z"⟩
abbrev cX3_isGraph : ByteArray := prog_5_method_9_code
def yX3_isGraph : MethodName := ⟨RX3, "isGraph", "()Z"⟩
abbrev cX3_isWhole : ByteArray := prog_5_method_10_code
def yX3_isWhole : MethodName := ⟨RX3, "isWhole", "(I)Z"⟩
abbrev cX3_names : ByteArray := prog_5_method_11_code
def yX3_names : MethodName := ⟨RX3, "names", "(I)Z"⟩
abbrev cX3_namesNoGap : ByteArray := prog_5_method_12_code
def yX3_namesNoGap : MethodName := ⟨RX3, "namesNoGap", "()Z"⟩
abbrev cX3_openLetter : ByteArray := prog_5_method_13_code
def yX3_openLetter : MethodName := ⟨RX3, "openLetter", "()I"⟩
abbrev cX3_copyRule : ByteArray := prog_5_method_14_code
def yX3_copyRule : MethodName := ⟨RX3, "copyRule", "(LGrownGraphs$Figure;)V"⟩
abbrev cX3_copyGraph : ByteArray := prog_5_method_15_code
def yX3_copyGraph : MethodName := ⟨RX3, "copyGraph", "(LGrownGraphs$Figure;)V"⟩
abbrev cX3_copyEdges : ByteArray := prog_5_method_16_code
def yX3_copyEdges : MethodName := ⟨RX3, "copyEdges", "(LGrownGraphs$Figure;I)V"⟩
def RX4 : String := "GrownGraphs$Rule"
def TX4 : u_T := fun k => match k with
  | 0 => ("GrownGraphs$Rule", "open", "I", false)
  | 1 => ("GrownGraphs$Rule", "body", "LGrownGraphs$Figure;", true)
  | 2 => ("GrownGraphs$Rule", "slots", "[I", true)
  | 3 => ("GrownGraphs$Rule", "ways", "[I", true)
  | _ => ("GrownGraphs$Rule", "hues", "[I", true)
def tyX4 : Nat → FieldType := fun k => match k with
  | 0 => .int
  | 1 => .object "GrownGraphs$Figure"
  | 2 => .array .int
  | 3 => .array .int
  | _ => .array .int
abbrev wsX40 : List Cond := u_ws RX4 TX4 5
theorem nmX4 : ∀ a, a < 5 → ∀ b, b < 5 → a ≠ b → (TX4 a).2.1 ≠ (TX4 b).2.1 := by decide +kernel
theorem tyX4_ok : ∀ k, k < 5 → parseFieldDescriptor (TX4 k).2.2.1 = some (tyX4 k) := by decide +kernel
abbrev cX4_init : ByteArray := prog_6_method_1_code
def yX4_init : MethodName := ⟨RX4, "<init>", "()V"⟩
abbrev cX4_read : ByteArray := prog_6_method_2_code
def yX4_read : MethodName := ⟨RX4, "read", "(LGrownGraphs$Page;)V"⟩
abbrev cX4_kindFrom : ByteArray := prog_6_method_3_code
def yX4_kindFrom : MethodName := ⟨RX4, "kindFrom", "(III)I"⟩
def RX5 : String := "GrownGraphs$RuleBook"
def TX5 : u_T := fun k => match k with
  | 0 => ("GrownGraphs$RuleBook", "rules", "[LGrownGraphs$Rule;", true)
  | _ => ("GrownGraphs$RuleBook", "size", "I", false)
def tyX5 : Nat → FieldType := fun k => match k with
  | 0 => .array (.object "GrownGraphs$Rule")
  | _ => .int
abbrev wsX50 : List Cond := u_ws RX5 TX5 2
theorem nmX5 : ∀ a, a < 2 → ∀ b, b < 2 → a ≠ b → (TX5 a).2.1 ≠ (TX5 b).2.1 := by decide +kernel
theorem tyX5_ok : ∀ k, k < 2 → parseFieldDescriptor (TX5 k).2.2.1 = some (tyX5 k) := by decide +kernel
abbrev cX5_init : ByteArray := prog_7_method_1_code
def yX5_init : MethodName := ⟨RX5, "<init>", "()V"⟩
abbrev cX5_has : ByteArray := prog_7_method_2_code
def yX5_has : MethodName := ⟨RX5, "has", "(I)Z"⟩
abbrev cX5_add : ByteArray := prog_7_method_3_code
def yX5_add : MethodName := ⟨RX5, "add", "(LGrownGraphs$Page;)V"⟩
abbrev cX5_remove : ByteArray := prog_7_method_4_code
def yX5_remove : MethodName := ⟨RX5, "remove", "(I)V"⟩
def RX6 : String := "GrownGraphs"
def TX6 : u_T := fun k => match k with
  | 0 => ("GrownGraphs", "page", "LGrownGraphs$Page;", true)
  | 1 => ("GrownGraphs", "book", "LGrownGraphs$RuleBook;", true)
  | 2 => ("GrownGraphs", "figure", "LGrownGraphs$Figure;", true)
  | 3 => ("GrownGraphs", "origins", "LGrownGraphs$Origins;", true)
  | 4 => ("GrownGraphs", "lights", "LGrownGraphs$Lights;", true)
  | 5 => ("GrownGraphs", "originsStand", "Z", false)
  | 6 => ("GrownGraphs", "lightsStand", "Z", false)
  | 7 => ("GrownGraphs", "stepsSinceBegin", "I", false)
  | 8 => ("GrownGraphs", "stepsEver", "I", false)
  | _ => ("GrownGraphs", "graphsEver", "I", false)
def tyX6 : Nat → FieldType := fun k => match k with
  | 0 => .object "GrownGraphs$Page"
  | 1 => .object "GrownGraphs$RuleBook"
  | 2 => .object "GrownGraphs$Figure"
  | 3 => .object "GrownGraphs$Origins"
  | 4 => .object "GrownGraphs$Lights"
  | 5 => .boolean
  | 6 => .boolean
  | 7 => .int
  | 8 => .int
  | _ => .int
abbrev wsX60 : List Cond := u_ws RX6 TX6 10
theorem nmX6 : ∀ a, a < 10 → ∀ b, b < 10 → a ≠ b → (TX6 a).2.1 ≠ (TX6 b).2.1 := by decide +kernel
theorem tyX6_ok : ∀ k, k < 10 → parseFieldDescriptor (TX6 k).2.2.1 = some (tyX6 k) := by decide +kernel
abbrev cX6_init : ByteArray := prog_1_method_1_code
def yX6_init : MethodName := ⟨RX6, "<init>", "()V"⟩
abbrev cX6_letter : ByteArray := prog_1_method_2_code
def yX6_letter : MethodName := ⟨RX6, "letter", "(I)I"⟩
abbrev cX6_blank : ByteArray := prog_1_method_3_code
def yX6_blank : MethodName := ⟨RX6, "blank", "()I"⟩
abbrev cX6_fault : ByteArray := prog_1_method_4_code
def yX6_fault : MethodName := ⟨RX6, "fault", "(Z)I"⟩
abbrev cX6_rule : ByteArray := prog_1_method_5_code
def yX6_rule : MethodName := ⟨RX6, "rule", "()I"⟩
abbrev cX6_drop : ByteArray := prog_1_method_6_code
def yX6_drop : MethodName := ⟨RX6, "drop", "(I)I"⟩
abbrev cX6_graph : ByteArray := prog_1_method_7_code
def yX6_graph : MethodName := ⟨RX6, "graph", "()I"⟩
abbrev cX6_of : ByteArray := prog_1_method_8_code
def yX6_of : MethodName := ⟨RX6, "of", "(II)I"⟩
abbrev cX6_begin : ByteArray := prog_1_method_9_code
def yX6_begin : MethodName := ⟨RX6, "begin", "(I)I"⟩
abbrev cX6_step : ByteArray := prog_1_method_10_code
def yX6_step : MethodName := ⟨RX6, "step", "(II)I"⟩
abbrev cX6_edge : ByteArray := prog_1_method_11_code
def yX6_edge : MethodName := ⟨RX6, "edge", "(I)I"⟩
abbrev cX6_kind : ByteArray := prog_1_method_12_code
def yX6_kind : MethodName := ⟨RX6, "kind", "()I"⟩
abbrev cX6_fewest : ByteArray := prog_1_method_13_code
def yX6_fewest : MethodName := ⟨RX6, "fewest", "(I)I"⟩
abbrev cX6_kinds : ByteArray := prog_1_method_14_code
def yX6_kinds : MethodName := ⟨RX6, "kinds", "(I)I"⟩
abbrev cX6_light : ByteArray := prog_1_method_15_code
def yX6_light : MethodName := ⟨RX6, "light", "(III)I"⟩
abbrev cX6_count : ByteArray := prog_1_method_16_code
def yX6_count : MethodName := ⟨RX6, "count", "(I)I"⟩
abbrev cX6_digest : ByteArray := prog_1_method_17_code
def yX6_digest : MethodName := ⟨RX6, "digest", "()J"⟩
abbrev cX6_mix : ByteArray := prog_1_method_18_code
def yX6_mix : MethodName := ⟨RX6, "mix", "(JI)J"⟩
abbrev cX6_isOpen : ByteArray := prog_1_method_19_code
def yX6_isOpen : MethodName := ⟨RX6, "isOpen", "(I)Z"⟩
abbrev cX6_noteNewGraph : ByteArray := prog_1_method_20_code
def yX6_noteNewGraph : MethodName := ⟨RX6, "noteNewGraph", "()V"⟩
abbrev cX6_bringLights : ByteArray := prog_1_method_21_code
def yX6_bringLights : MethodName := ⟨RX6, "bringLights", "()V"⟩
def RX7 : String := "GrownGraphsModel"
def TX7 : u_T := fun k => match k with
  | 0 => ("GrownGraphsModel", "pageLength", "I", false)
  | 1 => ("GrownGraphsModel", "page", "[I", true)
  | 2 => ("GrownGraphsModel", "rules", "I", false)
  | 3 => ("GrownGraphsModel", "ruleOf", "[I", true)
  | 4 => ("GrownGraphsModel", "ruleEdges", "[I", true)
  | 5 => ("GrownGraphsModel", "ruleNodes", "[I", true)
  | 6 => ("GrownGraphsModel", "ruleEdge", "[I", true)
  | 7 => ("GrownGraphsModel", "edges", "I", false)
  | 8 => ("GrownGraphsModel", "nodes", "I", false)
  | 9 => ("GrownGraphsModel", "edgeAt", "[I", true)
  | 10 => ("GrownGraphsModel", "steps", "I", false)
  | 11 => ("GrownGraphsModel", "stepsEver", "I", false)
  | 12 => ("GrownGraphsModel", "begun", "I", false)
  | 13 => ("GrownGraphsModel", "newMany", "I", false)
  | 14 => ("GrownGraphsModel", "newEdge", "[I", true)
  | 15 => ("GrownGraphsModel", "newNodes", "I", false)
  | 16 => ("GrownGraphsModel", "newStage", "I", false)
  | 17 => ("GrownGraphsModel", "newNow", "I", false)
  | 18 => ("GrownGraphsModel", "isLaid", "Z", false)
  | 19 => ("GrownGraphsModel", "fewestAt", "[I", true)
  | 20 => ("GrownGraphsModel", "nodesOf", "[I", true)
  | 21 => ("GrownGraphsModel", "nodeAt", "[I", true)
  | 22 => ("GrownGraphsModel", "isLightLaid", "Z", false)
  | 23 => ("GrownGraphsModel", "lightAt", "[J", true)
  | 24 => ("GrownGraphsModel", "firstAt", "[I", true)
  | 25 => ("GrownGraphsModel", "classNow", "[I", true)
  | _ => ("GrownGraphsModel", "h", "J", false)
def tyX7 : Nat → FieldType := fun k => match k with
  | 0 => .int
  | 1 => .array .int
  | 2 => .int
  | 3 => .array .int
  | 4 => .array .int
  | 5 => .array .int
  | 6 => .array .int
  | 7 => .int
  | 8 => .int
  | 9 => .array .int
  | 10 => .int
  | 11 => .int
  | 12 => .int
  | 13 => .int
  | 14 => .array .int
  | 15 => .int
  | 16 => .int
  | 17 => .int
  | 18 => .boolean
  | 19 => .array .int
  | 20 => .array .int
  | 21 => .array .int
  | 22 => .boolean
  | 23 => .array .long
  | 24 => .array .int
  | 25 => .array .int
  | _ => .long
abbrev wsX70 : List Cond := u_ws RX7 TX7 27
theorem nmX7 : ∀ a, a < 27 → ∀ b, b < 27 → a ≠ b → (TX7 a).2.1 ≠ (TX7 b).2.1 := by decide +kernel
theorem tyX7_ok : ∀ k, k < 27 → parseFieldDescriptor (TX7 k).2.2.1 = some (tyX7 k) := by decide +kernel
abbrev cX7_init : ByteArray := prog_9_method_1_code
def yX7_init : MethodName := ⟨RX7, "<init>", "()V"⟩
abbrev cX7_within : ByteArray := prog_9_method_3_code
def yX7_within : MethodName := ⟨RX7, "within", "(III)Z"⟩
abbrev cX7_has : ByteArray := prog_9_method_4_code
def yX7_has : MethodName := ⟨RX7, "has", "(II)Z"⟩
abbrev cX7_letterOf : ByteArray := prog_9_method_5_code
def yX7_letterOf : MethodName := ⟨RX7, "letterOf", "(I)I"⟩
abbrev cX7_fromOf : ByteArray := prog_9_method_6_code
def yX7_fromOf : MethodName := ⟨RX7, "fromOf", "(I)I"⟩
abbrev cX7_toOf : ByteArray := prog_9_method_7_code
def yX7_toOf : MethodName := ⟨RX7, "toOf", "(I)I"⟩
abbrev cX7_letter : ByteArray := prog_9_method_8_code
def yX7_letter : MethodName := ⟨RX7, "letter", "(I)I"⟩
abbrev cX7_blank : ByteArray := prog_9_method_9_code
def yX7_blank : MethodName := ⟨RX7, "blank", "()I"⟩
abbrev cX7_letterAt : ByteArray := prog_9_method_10_code
def yX7_letterAt : MethodName := ⟨RX7, "letterAt", "(IZ)I"⟩
abbrev cX7_takesEdge : ByteArray := prog_9_method_11_code
def yX7_takesEdge : MethodName := ⟨RX7, "takesEdge", "(IZ)Z"⟩
abbrev cX7_takes : ByteArray := prog_9_method_12_code
def yX7_takes : MethodName := ⟨RX7, "takes", "(IIZ)Z"⟩
abbrev cX7_read : ByteArray := prog_9_method_13_code
def yX7_read : MethodName := ⟨RX7, "read", "(Z)I"⟩
abbrev cX7_fault : ByteArray := prog_9_method_14_code
def yX7_fault : MethodName := ⟨RX7, "fault", "(Z)I"⟩
abbrev cX7_isWhole : ByteArray := prog_9_method_15_code
def yX7_isWhole : MethodName := ⟨RX7, "isWhole", "(Z)Z"⟩
abbrev cX7_above : ByteArray := prog_9_method_16_code
def yX7_above : MethodName := ⟨RX7, "above", "(I)I"⟩
abbrev cX7_rule : ByteArray := prog_9_method_17_code
def yX7_rule : MethodName := ⟨RX7, "rule", "()I"⟩
abbrev cX7_isRule : ByteArray := prog_9_method_18_code
def yX7_isRule : MethodName := ⟨RX7, "isRule", "(I)Z"⟩
abbrev cX7_drop : ByteArray := prog_9_method_19_code
def yX7_drop : MethodName := ⟨RX7, "drop", "(I)I"⟩
abbrev cX7_graph : ByteArray := prog_9_method_20_code
def yX7_graph : MethodName := ⟨RX7, "graph", "()I"⟩
abbrev cX7_ruleNow : ByteArray := prog_9_method_21_code
def yX7_ruleNow : MethodName := ⟨RX7, "ruleNow", "(II)I"⟩
abbrev cX7_of : ByteArray := prog_9_method_22_code
def yX7_of : MethodName := ⟨RX7, "of", "(II)I"⟩
abbrev cX7_begin : ByteArray := prog_9_method_23_code
def yX7_begin : MethodName := ⟨RX7, "begin", "(I)I"⟩
abbrev cX7_isEdge : ByteArray := prog_9_method_24_code
def yX7_isEdge : MethodName := ⟨RX7, "isEdge", "(I)Z"⟩
abbrev cX7_step : ByteArray := prog_9_method_25_code
def yX7_step : MethodName := ⟨RX7, "step", "(II)I"⟩
abbrev cX7_nodeFor : ByteArray := prog_9_method_26_code
def yX7_nodeFor : MethodName := ⟨RX7, "nodeFor", "(II)I"⟩
abbrev cX7_edge : ByteArray := prog_9_method_27_code
def yX7_edge : MethodName := ⟨RX7, "edge", "(I)I"⟩
abbrev cX7_opens : ByteArray := prog_9_method_28_code
def yX7_opens : MethodName := ⟨RX7, "opens", "()I"⟩
abbrev cX7_leadsTo : ByteArray := prog_9_method_29_code
def yX7_leadsTo : MethodName := ⟨RX7, "leadsTo", "(II)Z"⟩
abbrev cX7_coloured : ByteArray := prog_9_method_30_code
def yX7_coloured : MethodName := ⟨RX7, "coloured", "()I"⟩
abbrev cX7_kindNow : ByteArray := prog_9_method_31_code
def yX7_kindNow : MethodName := ⟨RX7, "kindNow", "()I"⟩
abbrev cX7_isDone : ByteArray := prog_9_method_32_code
def yX7_isDone : MethodName := ⟨RX7, "isDone", "()Z"⟩
abbrev cX7_kind : ByteArray := prog_9_method_33_code
def yX7_kind : MethodName := ⟨RX7, "kind", "()I"⟩
abbrev cX7_altered : ByteArray := prog_9_method_34_code
def yX7_altered : MethodName := ⟨RX7, "altered", "()V"⟩
abbrev cX7_at : ByteArray := prog_9_method_35_code
def yX7_at : MethodName := ⟨RX7, "at", "(IIII)I"⟩
abbrev cX7_stepsOf : ByteArray := prog_9_method_36_code
def yX7_stepsOf : MethodName := ⟨RX7, "stepsOf", "(IIII)I"⟩
abbrev cX7_stepsFor : ByteArray := prog_9_method_37_code
def yX7_stepsFor : MethodName := ⟨RX7, "stepsFor", "(II)I"⟩
abbrev cX7_areApart : ByteArray := prog_9_method_38_code
def yX7_areApart : MethodName := ⟨RX7, "areApart", "(IIII)Z"⟩
abbrev cX7_bySplits : ByteArray := prog_9_method_39_code
def yX7_bySplits : MethodName := ⟨RX7, "bySplits", "(II)I"⟩
abbrev cX7_byInner : ByteArray := prog_9_method_40_code
def yX7_byInner : MethodName := ⟨RX7, "byInner", "(II)I"⟩
abbrev cX7_areUnlike : ByteArray := prog_9_method_41_code
def yX7_areUnlike : MethodName := ⟨RX7, "areUnlike", "(I)Z"⟩
abbrev cX7_laySet : ByteArray := prog_9_method_42_code
def yX7_laySet : MethodName := ⟨RX7, "laySet", "(I)V"⟩
abbrev cX7_layEnds : ByteArray := prog_9_method_43_code
def yX7_layEnds : MethodName := ⟨RX7, "layEnds", "(III)V"⟩
abbrev cX7_laySingles : ByteArray := prog_9_method_44_code
def yX7_laySingles : MethodName := ⟨RX7, "laySingles", "(III)Z"⟩
abbrev cX7_ones : ByteArray := prog_9_method_45_code
def yX7_ones : MethodName := ⟨RX7, "ones", "(I)I"⟩
abbrev cX7_layFewest : ByteArray := prog_9_method_46_code
def yX7_layFewest : MethodName := ⟨RX7, "layFewest", "()V"⟩
abbrev cX7_fewestNow : ByteArray := prog_9_method_47_code
def yX7_fewestNow : MethodName := ⟨RX7, "fewestNow", "(I)I"⟩
abbrev cX7_fewest : ByteArray := prog_9_method_48_code
def yX7_fewest : MethodName := ⟨RX7, "fewest", "(I)I"⟩
abbrev cX7_classOf : ByteArray := prog_9_method_49_code
def yX7_classOf : MethodName := ⟨RX7, "classOf", "(I)I"⟩
abbrev cX7_leads : ByteArray := prog_9_method_50_code
def yX7_leads : MethodName := ⟨RX7, "leads", "(IZ)Z"⟩
abbrev cX7_colouredBy : ByteArray := prog_9_method_51_code
def yX7_colouredBy : MethodName := ⟨RX7, "colouredBy", "(I)I"⟩
abbrev cX7_layRule : ByteArray := prog_9_method_52_code
def yX7_layRule : MethodName := ⟨RX7, "layRule", "(IZ)Z"⟩
abbrev cX7_layLight : ByteArray := prog_9_method_53_code
def yX7_layLight : MethodName := ⟨RX7, "layLight", "(IJZ)Z"⟩
abbrev cX7_layLights : ByteArray := prog_9_method_54_code
def yX7_layLights : MethodName := ⟨RX7, "layLights", "()V"⟩
abbrev cX7_kindsNow : ByteArray := prog_9_method_55_code
def yX7_kindsNow : MethodName := ⟨RX7, "kindsNow", "(I)I"⟩
abbrev cX7_kinds : ByteArray := prog_9_method_56_code
def yX7_kinds : MethodName := ⟨RX7, "kinds", "(I)I"⟩
abbrev cX7_lightNow : ByteArray := prog_9_method_57_code
def yX7_lightNow : MethodName := ⟨RX7, "lightNow", "(III)I"⟩
abbrev cX7_light : ByteArray := prog_9_method_58_code
def yX7_light : MethodName := ⟨RX7, "light", "(III)I"⟩
abbrev cX7_howMany : ByteArray := prog_9_method_59_code
def yX7_howMany : MethodName := ⟨RX7, "howMany", "(I)I"⟩
abbrev cX7_count : ByteArray := prog_9_method_60_code
def yX7_count : MethodName := ⟨RX7, "count", "(I)I"⟩
abbrev cX7_mix : ByteArray := prog_9_method_61_code
def yX7_mix : MethodName := ⟨RX7, "mix", "(J)V"⟩
abbrev cX7_mixOpen : ByteArray := prog_9_method_62_code
def yX7_mixOpen : MethodName := ⟨RX7, "mixOpen", "(I)V"⟩
abbrev cX7_digest : ByteArray := prog_9_method_63_code
def yX7_digest : MethodName := ⟨RX7, "digest", "()J"⟩
def RJ6 : String := "java/lang/Integer"
def TJ6 : u_T := fun k => match k with
  | _ => ("", "", "", false)
def tyJ6 : Nat → FieldType := fun k => match k with
  | _ => .int
abbrev wsJ60 : List Cond := u_ws RJ6 TJ6 0
theorem nmJ6 : ∀ a, a < 0 → ∀ b, b < 0 → a ≠ b → (TJ6 a).2.1 ≠ (TJ6 b).2.1 := by decide +kernel
theorem tyJ6_ok : ∀ k, k < 0 → parseFieldDescriptor (TJ6 k).2.2.1 = some (tyJ6 k) := by decide +kernel
abbrev cJ6_bitCount_0f7a4 : ByteArray := prog_10_method_49_code
def yJ6_bitCount_0f7a4 : MethodName := ⟨RJ6, "bitCount", "(I)I"⟩
def RJ9 : String := "java/lang/Math"
def TJ9 : u_T := fun k => match k with
  | _ => ("", "", "", false)
def tyJ9 : Nat → FieldType := fun k => match k with
  | _ => .int
abbrev wsJ90 : List Cond := u_ws RJ9 TJ9 0
theorem nmJ9 : ∀ a, a < 0 → ∀ b, b < 0 → a ≠ b → (TJ9 a).2.1 ≠ (TJ9 b).2.1 := by decide +kernel
theorem tyJ9_ok : ∀ k, k < 0 → parseFieldDescriptor (TJ9 k).2.2.1 = some (tyJ9 k) := by decide +kernel
abbrev cJ9_max_7cf53 : ByteArray := prog_11_method_65_code
def yJ9_max_7cf53 : MethodName := ⟨RJ9, "max", "(II)I"⟩
abbrev cJ9_min_7cf53 : ByteArray := prog_11_method_69_code
def yJ9_min_7cf53 : MethodName := ⟨RJ9, "min", "(II)I"⟩
abbrev cJ9_min_f86c9 : ByteArray := prog_11_method_70_code
def yJ9_min_f86c9 : MethodName := ⟨RJ9, "min", "(JJ)J"⟩
def RJ7 : String := "java/util/Arrays"
def TJ7 : u_T := fun k => match k with
  | _ => ("", "", "", false)
def tyJ7 : Nat → FieldType := fun k => match k with
  | _ => .int
abbrev wsJ70 : List Cond := u_ws RJ7 TJ7 0
theorem nmJ7 : ∀ a, a < 0 → ∀ b, b < 0 → a ≠ b → (TJ7 a).2.1 ≠ (TJ7 b).2.1 := by decide +kernel
theorem tyJ7_ok : ∀ k, k < 0 → parseFieldDescriptor (TJ7 k).2.2.1 = some (tyJ7 k) := by decide +kernel
abbrev cJ7_fill_d0a16 : ByteArray := prog_12_method_101_code
def yJ7_fill_d0a16 : MethodName := ⟨RJ7, "fill", "([JJ)V"⟩
abbrev cJ7_fill_53178 : ByteArray := prog_12_method_103_code
def yJ7_fill_53178 : MethodName := ⟨RJ7, "fill", "([II)V"⟩
def RL : String := "GrownGraphsLaw"
abbrev cL_law : ByteArray := code
def yL_law : MethodName := ⟨RL, "law", "([I)Z"⟩
abbrev vwCl : List vw_C := [(RX0, TX0, 5), (RX1, TX1, 5), (RX2, TX2, 2), (RX3, TX3, 2), (RX4, TX4, 5), (RX5, TX5, 2), (RX6, TX6, 10), (RX7, TX7, 27)]
end
section
/-! the words that every contract of ours carries: the good ones of the tables, in one list -/
def gT : List Cond := lw_tbl.filter goodWord
theorem gT_of {w : Cond} (h : w ∈ lw_tbl) (g : goodWord w = true) : w ∈ gT := List.mem_filter.mpr ⟨h, g⟩
theorem gT_tab {w : Cond} (h : w ∈ tables_1) (g : goodWord w = true) : w ∈ gT := gT_of (List.mem_append_right _ h) g
theorem gT_sel {w : Cond} (h : w ∈ k2_sels lw_privs) (g : goodWord w = true) : w ∈ gT := gT_of (List.mem_append_left _ h) g
theorem gT_good {w : Cond} (h : w ∈ gT) : w ∈ gT ∧ ((w.onTables && w.keeps) = true ∨ ∃ ty, w = .arrayClass ty) := ⟨h, good_of_word (List.mem_filter.mp h).2⟩
end
section
theorem t_0 : Cond.initialized RL ∈ gT := gT_tab (List.mem_of_getElem? (i := 0) (by decide +kernel)) rfl
theorem t_1 : Cond.initialized RX6 ∈ gT := gT_tab (List.mem_of_getElem? (i := 1) (by decide +kernel)) rfl
theorem t_2 : Cond.initialized RX3 ∈ gT := gT_tab (List.mem_of_getElem? (i := 2) (by decide +kernel)) rfl
theorem t_3 : Cond.initialized RX5 ∈ gT := gT_tab (List.mem_of_getElem? (i := 3) (by decide +kernel)) rfl
theorem t_4 : Cond.initialized RX4 ∈ gT := gT_tab (List.mem_of_getElem? (i := 4) (by decide +kernel)) rfl
theorem t_5 : Cond.initialized RX0 ∈ gT := gT_tab (List.mem_of_getElem? (i := 5) (by decide +kernel)) rfl
theorem t_6 : Cond.initialized RX2 ∈ gT := gT_tab (List.mem_of_getElem? (i := 6) (by decide +kernel)) rfl
theorem t_7 : Cond.initialized RX1 ∈ gT := gT_tab (List.mem_of_getElem? (i := 7) (by decide +kernel)) rfl
theorem t_8 : Cond.initialized RX7 ∈ gT := gT_tab (List.mem_of_getElem? (i := 8) (by decide +kernel)) rfl
theorem t_9 : Cond.initialized RJ9 ∈ gT := gT_tab (List.mem_of_getElem? (i := 9) (by decide +kernel)) rfl
theorem t_10 : Cond.initialized RJ7 ∈ gT := gT_tab (List.mem_of_getElem? (i := 10) (by decide +kernel)) rfl
theorem t_11 : Cond.initialized RJ6 ∈ gT := gT_tab (List.mem_of_getElem? (i := 11) (by decide +kernel)) rfl
theorem t_12 : Cond.classLink RL 7 RX6 ∈ gT := gT_tab (List.mem_of_getElem? (i := 12) (by decide +kernel)) rfl
theorem t_13 : Cond.instantiable RX6 10 ∈ gT := gT_tab (List.mem_of_getElem? (i := 13) (by decide +kernel)) rfl
theorem t_14 : Cond.methodLink RL 9 yX6_init ∈ gT := gT_tab (List.mem_of_getElem? (i := 14) (by decide +kernel)) rfl
theorem t_15 : Cond.instanceMethod yX6_init ∈ gT := gT_tab (List.mem_of_getElem? (i := 15) (by decide +kernel)) rfl
theorem t_16 : Cond.code yX6_init cX6_init 1 none ∈ gT := gT_tab (List.mem_of_getElem? (i := 16) (by decide +kernel)) rfl
theorem t_17 : Cond.methodLink RX6 1 objectInit ∈ gT := gT_tab (List.mem_of_getElem? (i := 17) (by decide +kernel)) rfl
theorem t_18 : Cond.instanceMethod objectInit ∈ gT := gT_tab (List.mem_of_getElem? (i := 18) (by decide +kernel)) rfl
theorem t_19 : Cond.code objectInit ⟨#[0xb1]⟩ 1 none ∈ gT := gT_tab (List.mem_of_getElem? (i := 19) (by decide +kernel)) rfl
theorem t_20 : Cond.classLink RX6 7 RX3 ∈ gT := gT_tab (List.mem_of_getElem? (i := 20) (by decide +kernel)) rfl
theorem t_21 : Cond.instantiable RX3 2 ∈ gT := gT_tab (List.mem_of_getElem? (i := 21) (by decide +kernel)) rfl
theorem t_23 : Cond.instanceMethod yX3_init ∈ gT := gT_tab (List.mem_of_getElem? (i := 23) (by decide +kernel)) rfl
theorem t_24 : Cond.code yX3_init cX3_init 1 none ∈ gT := gT_tab (List.mem_of_getElem? (i := 24) (by decide +kernel)) rfl
theorem t_25 : Cond.methodLink RX3 3 objectInit ∈ gT := gT_tab (List.mem_of_getElem? (i := 25) (by decide +kernel)) rfl
theorem t_26 : Cond.fieldLink RX3 9 "GrownGraphs$Page" "codes" "[I" ∈ gT := gT_tab (List.mem_of_getElem? (i := 26) (by decide +kernel)) rfl
theorem t_27 : Cond.fieldLink RX6 198 "GrownGraphs$Page" "codes" "[I" ∈ gT := gT_tab (List.mem_of_getElem? (i := 27) (by decide +kernel)) rfl
theorem t_28 : Cond.fieldLink RX3 15 "GrownGraphs$Page" "size" "I" ∈ gT := gT_tab (List.mem_of_getElem? (i := 28) (by decide +kernel)) rfl
theorem t_29 : Cond.fieldLink RX6 63 "GrownGraphs$Page" "size" "I" ∈ gT := gT_tab (List.mem_of_getElem? (i := 29) (by decide +kernel)) rfl
theorem t_35 : Cond.arrayClass .int ∈ gT := gT_tab (List.mem_of_getElem? (i := 35) (by decide +kernel)) rfl
theorem t_36 : Cond.classLink RX6 16 RX5 ∈ gT := gT_tab (List.mem_of_getElem? (i := 36) (by decide +kernel)) rfl
theorem t_37 : Cond.instantiable RX5 2 ∈ gT := gT_tab (List.mem_of_getElem? (i := 37) (by decide +kernel)) rfl
theorem t_38 : Cond.methodLink RX6 18 yX5_init ∈ gT := gT_tab (List.mem_of_getElem? (i := 38) (by decide +kernel)) rfl
theorem t_39 : Cond.instanceMethod yX5_init ∈ gT := gT_tab (List.mem_of_getElem? (i := 39) (by decide +kernel)) rfl
theorem t_40 : Cond.code yX5_init cX5_init 2 none ∈ gT := gT_tab (List.mem_of_getElem? (i := 40) (by decide +kernel)) rfl
theorem t_41 : Cond.methodLink RX5 3 objectInit ∈ gT := gT_tab (List.mem_of_getElem? (i := 41) (by decide +kernel)) rfl
theorem t_42 : Cond.classLink RX5 9 RX4 ∈ gT := gT_tab (List.mem_of_getElem? (i := 42) (by decide +kernel)) rfl
theorem t_44 : Cond.instantiable RX4 5 ∈ gT := gT_tab (List.mem_of_getElem? (i := 44) (by decide +kernel)) rfl
theorem t_46 : Cond.instanceMethod yX4_init ∈ gT := gT_tab (List.mem_of_getElem? (i := 46) (by decide +kernel)) rfl
theorem t_47 : Cond.code yX4_init cX4_init 1 none ∈ gT := gT_tab (List.mem_of_getElem? (i := 47) (by decide +kernel)) rfl
theorem t_48 : Cond.methodLink RX4 3 objectInit ∈ gT := gT_tab (List.mem_of_getElem? (i := 48) (by decide +kernel)) rfl
theorem t_49 : Cond.classLink RX4 15 RX0 ∈ gT := gT_tab (List.mem_of_getElem? (i := 49) (by decide +kernel)) rfl
theorem t_50 : Cond.instantiable RX0 5 ∈ gT := gT_tab (List.mem_of_getElem? (i := 50) (by decide +kernel)) rfl
theorem t_51 : Cond.methodLink RX4 17 yX0_init ∈ gT := gT_tab (List.mem_of_getElem? (i := 51) (by decide +kernel)) rfl
theorem t_52 : Cond.instanceMethod yX0_init ∈ gT := gT_tab (List.mem_of_getElem? (i := 52) (by decide +kernel)) rfl
theorem t_53 : Cond.code yX0_init cX0_init 2 none ∈ gT := gT_tab (List.mem_of_getElem? (i := 53) (by decide +kernel)) rfl
theorem t_54 : Cond.methodLink RX0 3 objectInit ∈ gT := gT_tab (List.mem_of_getElem? (i := 54) (by decide +kernel)) rfl
theorem t_55 : Cond.fieldLink RX0 18 "GrownGraphs$Figure" "letters" "[I" ∈ gT := gT_tab (List.mem_of_getElem? (i := 55) (by decide +kernel)) rfl
theorem t_56 : Cond.fieldLink RX4 48 "GrownGraphs$Figure" "letters" "[I" ∈ gT := gT_tab (List.mem_of_getElem? (i := 56) (by decide +kernel)) rfl
theorem t_57 : Cond.fieldLink RX6 132 "GrownGraphs$Figure" "letters" "[I" ∈ gT := gT_tab (List.mem_of_getElem? (i := 57) (by decide +kernel)) rfl
theorem t_58 : Cond.fieldLink RX0 22 "GrownGraphs$Figure" "from" "[I" ∈ gT := gT_tab (List.mem_of_getElem? (i := 58) (by decide +kernel)) rfl
theorem t_59 : Cond.fieldLink RX2 96 "GrownGraphs$Figure" "from" "[I" ∈ gT := gT_tab (List.mem_of_getElem? (i := 59) (by decide +kernel)) rfl
theorem t_60 : Cond.fieldLink RX0 25 "GrownGraphs$Figure" "to" "[I" ∈ gT := gT_tab (List.mem_of_getElem? (i := 60) (by decide +kernel)) rfl
theorem t_61 : Cond.fieldLink RX2 99 "GrownGraphs$Figure" "to" "[I" ∈ gT := gT_tab (List.mem_of_getElem? (i := 61) (by decide +kernel)) rfl
theorem t_62 : Cond.fieldLink RX0 9 "GrownGraphs$Figure" "size" "I" ∈ gT := gT_tab (List.mem_of_getElem? (i := 62) (by decide +kernel)) rfl
theorem t_63 : Cond.fieldLink RX2 18 "GrownGraphs$Figure" "size" "I" ∈ gT := gT_tab (List.mem_of_getElem? (i := 63) (by decide +kernel)) rfl
theorem t_64 : Cond.fieldLink RX6 102 "GrownGraphs$Figure" "size" "I" ∈ gT := gT_tab (List.mem_of_getElem? (i := 64) (by decide +kernel)) rfl
theorem t_65 : Cond.fieldLink RX0 15 "GrownGraphs$Figure" "nodes" "I" ∈ gT := gT_tab (List.mem_of_getElem? (i := 65) (by decide +kernel)) rfl
theorem t_66 : Cond.fieldLink RX2 35 "GrownGraphs$Figure" "nodes" "I" ∈ gT := gT_tab (List.mem_of_getElem? (i := 66) (by decide +kernel)) rfl
theorem t_67 : Cond.fieldLink RX6 115 "GrownGraphs$Figure" "nodes" "I" ∈ gT := gT_tab (List.mem_of_getElem? (i := 67) (by decide +kernel)) rfl
theorem t_79 : Cond.fieldLink RX4 9 "GrownGraphs$Rule" "open" "I" ∈ gT := gT_tab (List.mem_of_getElem? (i := 79) (by decide +kernel)) rfl
theorem t_80 : Cond.fieldLink RX2 65 "GrownGraphs$Rule" "open" "I" ∈ gT := gT_tab (List.mem_of_getElem? (i := 80) (by decide +kernel)) rfl
theorem t_81 : Cond.fieldLink RX6 107 "GrownGraphs$Rule" "open" "I" ∈ gT := gT_tab (List.mem_of_getElem? (i := 81) (by decide +kernel)) rfl
theorem t_82 : Cond.fieldLink RX1 102 "GrownGraphs$Rule" "open" "I" ∈ gT := gT_tab (List.mem_of_getElem? (i := 82) (by decide +kernel)) rfl
theorem t_83 : Cond.fieldLink RX4 20 "GrownGraphs$Rule" "body" "LGrownGraphs$Figure;" ∈ gT := gT_tab (List.mem_of_getElem? (i := 83) (by decide +kernel)) rfl
theorem t_84 : Cond.fieldLink RX2 59 "GrownGraphs$Rule" "body" "LGrownGraphs$Figure;" ∈ gT := gT_tab (List.mem_of_getElem? (i := 84) (by decide +kernel)) rfl
theorem t_85 : Cond.fieldLink RX6 112 "GrownGraphs$Rule" "body" "LGrownGraphs$Figure;" ∈ gT := gT_tab (List.mem_of_getElem? (i := 85) (by decide +kernel)) rfl
theorem t_86 : Cond.fieldLink RX4 24 "GrownGraphs$Rule" "slots" "[I" ∈ gT := gT_tab (List.mem_of_getElem? (i := 86) (by decide +kernel)) rfl
theorem t_87 : Cond.fieldLink RX2 93 "GrownGraphs$Rule" "slots" "[I" ∈ gT := gT_tab (List.mem_of_getElem? (i := 87) (by decide +kernel)) rfl
theorem t_88 : Cond.fieldLink RX1 83 "GrownGraphs$Rule" "slots" "[I" ∈ gT := gT_tab (List.mem_of_getElem? (i := 88) (by decide +kernel)) rfl
theorem t_89 : Cond.fieldLink RX4 28 "GrownGraphs$Rule" "ways" "[I" ∈ gT := gT_tab (List.mem_of_getElem? (i := 89) (by decide +kernel)) rfl
theorem t_90 : Cond.fieldLink RX4 31 "GrownGraphs$Rule" "hues" "[I" ∈ gT := gT_tab (List.mem_of_getElem? (i := 90) (by decide +kernel)) rfl
theorem t_102 : Cond.fieldLink RX5 11 "GrownGraphs$RuleBook" "rules" "[LGrownGraphs$Rule;" ∈ gT := gT_tab (List.mem_of_getElem? (i := 102) (by decide +kernel)) rfl
theorem t_103 : Cond.fieldLink RX1 66 "GrownGraphs$RuleBook" "rules" "[LGrownGraphs$Rule;" ∈ gT := gT_tab (List.mem_of_getElem? (i := 103) (by decide +kernel)) rfl
theorem t_104 : Cond.fieldLink RX2 55 "GrownGraphs$RuleBook" "rules" "[LGrownGraphs$Rule;" ∈ gT := gT_tab (List.mem_of_getElem? (i := 104) (by decide +kernel)) rfl
theorem t_105 : Cond.fieldLink RX6 103 "GrownGraphs$RuleBook" "rules" "[LGrownGraphs$Rule;" ∈ gT := gT_tab (List.mem_of_getElem? (i := 105) (by decide +kernel)) rfl
theorem t_106 : Cond.fieldLink RX5 17 "GrownGraphs$RuleBook" "size" "I" ∈ gT := gT_tab (List.mem_of_getElem? (i := 106) (by decide +kernel)) rfl
theorem t_107 : Cond.fieldLink RX6 80 "GrownGraphs$RuleBook" "size" "I" ∈ gT := gT_tab (List.mem_of_getElem? (i := 107) (by decide +kernel)) rfl
theorem t_108 : Cond.fieldLink RX1 60 "GrownGraphs$RuleBook" "size" "I" ∈ gT := gT_tab (List.mem_of_getElem? (i := 108) (by decide +kernel)) rfl
theorem t_109 : Cond.fieldLink RX2 52 "GrownGraphs$RuleBook" "size" "I" ∈ gT := gT_tab (List.mem_of_getElem? (i := 109) (by decide +kernel)) rfl
theorem t_115 : Cond.classLink RX6 23 RX0 ∈ gT := gT_tab (List.mem_of_getElem? (i := 115) (by decide +kernel)) rfl
theorem t_116 : Cond.methodLink RX6 25 yX0_init ∈ gT := gT_tab (List.mem_of_getElem? (i := 116) (by decide +kernel)) rfl
theorem t_117 : Cond.classLink RX6 32 RX2 ∈ gT := gT_tab (List.mem_of_getElem? (i := 117) (by decide +kernel)) rfl
theorem t_118 : Cond.instantiable RX2 2 ∈ gT := gT_tab (List.mem_of_getElem? (i := 118) (by decide +kernel)) rfl
theorem t_120 : Cond.instanceMethod yX2_init ∈ gT := gT_tab (List.mem_of_getElem? (i := 120) (by decide +kernel)) rfl
theorem t_121 : Cond.code yX2_init cX2_init 1 none ∈ gT := gT_tab (List.mem_of_getElem? (i := 121) (by decide +kernel)) rfl
theorem t_122 : Cond.methodLink RX2 3 objectInit ∈ gT := gT_tab (List.mem_of_getElem? (i := 122) (by decide +kernel)) rfl
theorem t_123 : Cond.fieldLink RX2 11 "GrownGraphs$Origins" "steps" "[I" ∈ gT := gT_tab (List.mem_of_getElem? (i := 123) (by decide +kernel)) rfl
theorem t_124 : Cond.fieldLink RX2 15 "GrownGraphs$Origins" "stand" "[I" ∈ gT := gT_tab (List.mem_of_getElem? (i := 124) (by decide +kernel)) rfl
theorem t_130 : Cond.classLink RX6 39 RX1 ∈ gT := gT_tab (List.mem_of_getElem? (i := 130) (by decide +kernel)) rfl
theorem t_131 : Cond.instantiable RX1 5 ∈ gT := gT_tab (List.mem_of_getElem? (i := 131) (by decide +kernel)) rfl
theorem t_133 : Cond.instanceMethod yX1_init ∈ gT := gT_tab (List.mem_of_getElem? (i := 133) (by decide +kernel)) rfl
theorem t_134 : Cond.code yX1_init cX1_init 1 none ∈ gT := gT_tab (List.mem_of_getElem? (i := 134) (by decide +kernel)) rfl
theorem t_135 : Cond.methodLink RX1 3 objectInit ∈ gT := gT_tab (List.mem_of_getElem? (i := 135) (by decide +kernel)) rfl
theorem t_136 : Cond.fieldLink RX1 11 "GrownGraphs$Lights" "steps" "[J" ∈ gT := gT_tab (List.mem_of_getElem? (i := 136) (by decide +kernel)) rfl
theorem t_137 : Cond.fieldLink RX1 15 "GrownGraphs$Lights" "firsts" "[I" ∈ gT := gT_tab (List.mem_of_getElem? (i := 137) (by decide +kernel)) rfl
theorem t_138 : Cond.fieldLink RX1 19 "GrownGraphs$Lights" "settled" "[Z" ∈ gT := gT_tab (List.mem_of_getElem? (i := 138) (by decide +kernel)) rfl
theorem t_139 : Cond.fieldLink RX1 23 "GrownGraphs$Lights" "settledKinds" "[I" ∈ gT := gT_tab (List.mem_of_getElem? (i := 139) (by decide +kernel)) rfl
theorem t_140 : Cond.fieldLink RX1 26 "GrownGraphs$Lights" "settledCount" "[I" ∈ gT := gT_tab (List.mem_of_getElem? (i := 140) (by decide +kernel)) rfl
theorem t_152 : Cond.arrayClass .long ∈ gT := gT_tab (List.mem_of_getElem? (i := 152) (by decide +kernel)) rfl
theorem t_153 : Cond.arrayClass .boolean ∈ gT := gT_tab (List.mem_of_getElem? (i := 153) (by decide +kernel)) rfl
theorem t_154 : Cond.fieldLink RX6 10 "GrownGraphs" "page" "LGrownGraphs$Page;" ∈ gT := gT_tab (List.mem_of_getElem? (i := 154) (by decide +kernel)) rfl
theorem t_155 : Cond.fieldLink RX6 19 "GrownGraphs" "book" "LGrownGraphs$RuleBook;" ∈ gT := gT_tab (List.mem_of_getElem? (i := 155) (by decide +kernel)) rfl
theorem t_156 : Cond.fieldLink RX6 28 "GrownGraphs" "figure" "LGrownGraphs$Figure;" ∈ gT := gT_tab (List.mem_of_getElem? (i := 156) (by decide +kernel)) rfl
theorem t_157 : Cond.fieldLink RX6 35 "GrownGraphs" "origins" "LGrownGraphs$Origins;" ∈ gT := gT_tab (List.mem_of_getElem? (i := 157) (by decide +kernel)) rfl
theorem t_158 : Cond.fieldLink RX6 42 "GrownGraphs" "lights" "LGrownGraphs$Lights;" ∈ gT := gT_tab (List.mem_of_getElem? (i := 158) (by decide +kernel)) rfl
theorem t_159 : Cond.fieldLink RX6 46 "GrownGraphs" "originsStand" "Z" ∈ gT := gT_tab (List.mem_of_getElem? (i := 159) (by decide +kernel)) rfl
theorem t_160 : Cond.fieldLink RX6 50 "GrownGraphs" "lightsStand" "Z" ∈ gT := gT_tab (List.mem_of_getElem? (i := 160) (by decide +kernel)) rfl
theorem t_161 : Cond.fieldLink RX6 53 "GrownGraphs" "stepsSinceBegin" "I" ∈ gT := gT_tab (List.mem_of_getElem? (i := 161) (by decide +kernel)) rfl
theorem t_162 : Cond.fieldLink RX6 57 "GrownGraphs" "stepsEver" "I" ∈ gT := gT_tab (List.mem_of_getElem? (i := 162) (by decide +kernel)) rfl
theorem t_163 : Cond.fieldLink RX6 60 "GrownGraphs" "graphsEver" "I" ∈ gT := gT_tab (List.mem_of_getElem? (i := 163) (by decide +kernel)) rfl
theorem t_185 : Cond.methodLink RL 13 yX6_letter ∈ gT := gT_tab (List.mem_of_getElem? (i := 185) (by decide +kernel)) rfl
theorem t_186 : Cond.instanceMethod yX6_letter ∈ gT := gT_tab (List.mem_of_getElem? (i := 186) (by decide +kernel)) rfl
theorem t_187 : Cond.selects RX6 yX6_letter yX6_letter ∈ gT := gT_tab (List.mem_of_getElem? (i := 187) (by decide +kernel)) rfl
theorem t_188 : Cond.code yX6_letter cX6_letter 2 (some .int) ∈ gT := gT_tab (List.mem_of_getElem? (i := 188) (by decide +kernel)) rfl
theorem t_189 : Cond.methodLink RX6 66 yX3_write ∈ gT := gT_tab (List.mem_of_getElem? (i := 189) (by decide +kernel)) rfl
theorem t_190 : Cond.instanceMethod yX3_write ∈ gT := gT_tab (List.mem_of_getElem? (i := 190) (by decide +kernel)) rfl
theorem t_191 : Cond.selects RX3 yX3_write yX3_write ∈ gT := gT_tab (List.mem_of_getElem? (i := 191) (by decide +kernel)) rfl
theorem t_192 : Cond.code yX3_write cX3_write 2 none ∈ gT := gT_tab (List.mem_of_getElem? (i := 192) (by decide +kernel)) rfl
theorem t_193 : Cond.methodLink RL 18 yX6_blank ∈ gT := gT_tab (List.mem_of_getElem? (i := 193) (by decide +kernel)) rfl
theorem t_194 : Cond.instanceMethod yX6_blank ∈ gT := gT_tab (List.mem_of_getElem? (i := 194) (by decide +kernel)) rfl
theorem t_195 : Cond.selects RX6 yX6_blank yX6_blank ∈ gT := gT_tab (List.mem_of_getElem? (i := 195) (by decide +kernel)) rfl
theorem t_196 : Cond.code yX6_blank cX6_blank 2 (some .int) ∈ gT := gT_tab (List.mem_of_getElem? (i := 196) (by decide +kernel)) rfl
theorem t_197 : Cond.methodLink RX6 69 yX3_clear ∈ gT := gT_tab (List.mem_of_getElem? (i := 197) (by decide +kernel)) rfl
theorem t_198 : Cond.instanceMethod yX3_clear ∈ gT := gT_tab (List.mem_of_getElem? (i := 198) (by decide +kernel)) rfl
theorem t_199 : Cond.selects RX3 yX3_clear yX3_clear ∈ gT := gT_tab (List.mem_of_getElem? (i := 199) (by decide +kernel)) rfl
theorem t_200 : Cond.code yX3_clear cX3_clear 1 none ∈ gT := gT_tab (List.mem_of_getElem? (i := 200) (by decide +kernel)) rfl
theorem t_201 : Cond.methodLink RL 23 yX6_fault ∈ gT := gT_tab (List.mem_of_getElem? (i := 201) (by decide +kernel)) rfl
theorem t_202 : Cond.instanceMethod yX6_fault ∈ gT := gT_tab (List.mem_of_getElem? (i := 202) (by decide +kernel)) rfl
theorem t_203 : Cond.selects RX6 yX6_fault yX6_fault ∈ gT := gT_tab (List.mem_of_getElem? (i := 203) (by decide +kernel)) rfl
theorem t_204 : Cond.code yX6_fault cX6_fault 2 (some .int) ∈ gT := gT_tab (List.mem_of_getElem? (i := 204) (by decide +kernel)) rfl
theorem t_205 : Cond.methodLink RX6 72 yX3_firstFault ∈ gT := gT_tab (List.mem_of_getElem? (i := 205) (by decide +kernel)) rfl
theorem t_206 : Cond.instanceMethod yX3_firstFault ∈ gT := gT_tab (List.mem_of_getElem? (i := 206) (by decide +kernel)) rfl
theorem t_207 : Cond.selects RX3 yX3_firstFault yX3_firstFault ∈ gT := gT_tab (List.mem_of_getElem? (i := 207) (by decide +kernel)) rfl
theorem t_208 : Cond.code yX3_firstFault cX3_firstFault 6 (some .int) ∈ gT := gT_tab (List.mem_of_getElem? (i := 208) (by decide +kernel)) rfl
theorem t_209 : Cond.methodLink RX3 19 yX3_fitsHead ∈ gT := gT_tab (List.mem_of_getElem? (i := 209) (by decide +kernel)) rfl
theorem t_211 : Cond.instanceMethod yX3_fitsHead ∈ gT := gT_tab (List.mem_of_getElem? (i := 211) (by decide +kernel)) rfl
theorem t_212 : Cond.code yX3_fitsHead cX3_fitsHead 2 (some .boolean) ∈ gT := gT_tab (List.mem_of_getElem? (i := 212) (by decide +kernel)) rfl
theorem t_213 : Cond.methodLink RX3 27 yX3_letterOf ∈ gT := gT_tab (List.mem_of_getElem? (i := 213) (by decide +kernel)) rfl
theorem t_214 : Cond.static yX3_letterOf ∈ gT := gT_tab (List.mem_of_getElem? (i := 214) (by decide +kernel)) rfl
theorem t_215 : Cond.code yX3_letterOf cX3_letterOf 1 (some .int) ∈ gT := gT_tab (List.mem_of_getElem? (i := 215) (by decide +kernel)) rfl
theorem t_217 : Cond.static yX6_isOpen ∈ gT := gT_tab (List.mem_of_getElem? (i := 217) (by decide +kernel)) rfl
theorem t_218 : Cond.code yX6_isOpen cX6_isOpen 1 (some .boolean) ∈ gT := gT_tab (List.mem_of_getElem? (i := 218) (by decide +kernel)) rfl
theorem t_219 : Cond.methodLink RX3 23 yX3_fitsEdge ∈ gT := gT_tab (List.mem_of_getElem? (i := 219) (by decide +kernel)) rfl
theorem t_221 : Cond.instanceMethod yX3_fitsEdge ∈ gT := gT_tab (List.mem_of_getElem? (i := 221) (by decide +kernel)) rfl
theorem t_222 : Cond.code yX3_fitsEdge cX3_fitsEdge 6 (some .boolean) ∈ gT := gT_tab (List.mem_of_getElem? (i := 222) (by decide +kernel)) rfl
theorem t_223 : Cond.methodLink RL 28 yX6_rule ∈ gT := gT_tab (List.mem_of_getElem? (i := 223) (by decide +kernel)) rfl
theorem t_224 : Cond.instanceMethod yX6_rule ∈ gT := gT_tab (List.mem_of_getElem? (i := 224) (by decide +kernel)) rfl
theorem t_225 : Cond.selects RX6 yX6_rule yX6_rule ∈ gT := gT_tab (List.mem_of_getElem? (i := 225) (by decide +kernel)) rfl
theorem t_226 : Cond.code yX6_rule cX6_rule 1 (some .int) ∈ gT := gT_tab (List.mem_of_getElem? (i := 226) (by decide +kernel)) rfl
theorem t_227 : Cond.methodLink RX6 76 yX3_isRule ∈ gT := gT_tab (List.mem_of_getElem? (i := 227) (by decide +kernel)) rfl
theorem t_228 : Cond.instanceMethod yX3_isRule ∈ gT := gT_tab (List.mem_of_getElem? (i := 228) (by decide +kernel)) rfl
theorem t_229 : Cond.selects RX3 yX3_isRule yX3_isRule ∈ gT := gT_tab (List.mem_of_getElem? (i := 229) (by decide +kernel)) rfl
theorem t_230 : Cond.code yX3_isRule cX3_isRule 1 (some .boolean) ∈ gT := gT_tab (List.mem_of_getElem? (i := 230) (by decide +kernel)) rfl
theorem t_231 : Cond.methodLink RX3 34 yX3_isWhole ∈ gT := gT_tab (List.mem_of_getElem? (i := 231) (by decide +kernel)) rfl
theorem t_233 : Cond.instanceMethod yX3_isWhole ∈ gT := gT_tab (List.mem_of_getElem? (i := 233) (by decide +kernel)) rfl
theorem t_234 : Cond.code yX3_isWhole cX3_isWhole 2 (some .boolean) ∈ gT := gT_tab (List.mem_of_getElem? (i := 234) (by decide +kernel)) rfl
theorem t_235 : Cond.methodLink RX3 37 yX3_firstFault ∈ gT := gT_tab (List.mem_of_getElem? (i := 235) (by decide +kernel)) rfl
theorem t_236 : Cond.methodLink RX3 41 yX3_names ∈ gT := gT_tab (List.mem_of_getElem? (i := 236) (by decide +kernel)) rfl
theorem t_238 : Cond.instanceMethod yX3_names ∈ gT := gT_tab (List.mem_of_getElem? (i := 238) (by decide +kernel)) rfl
theorem t_239 : Cond.code yX3_names cX3_names 3 (some .boolean) ∈ gT := gT_tab (List.mem_of_getElem? (i := 239) (by decide +kernel)) rfl
theorem t_240 : Cond.methodLink RX3 44 yX3_namesNoGap ∈ gT := gT_tab (List.mem_of_getElem? (i := 240) (by decide +kernel)) rfl
theorem t_242 : Cond.instanceMethod yX3_namesNoGap ∈ gT := gT_tab (List.mem_of_getElem? (i := 242) (by decide +kernel)) rfl
theorem t_243 : Cond.code yX3_namesNoGap cX3_namesNoGap 2 (some .boolean) ∈ gT := gT_tab (List.mem_of_getElem? (i := 243) (by decide +kernel)) rfl
theorem t_244 : Cond.methodLink RX6 81 yX5_add ∈ gT := gT_tab (List.mem_of_getElem? (i := 244) (by decide +kernel)) rfl
theorem t_245 : Cond.instanceMethod yX5_add ∈ gT := gT_tab (List.mem_of_getElem? (i := 245) (by decide +kernel)) rfl
theorem t_246 : Cond.selects RX5 yX5_add yX5_add ∈ gT := gT_tab (List.mem_of_getElem? (i := 246) (by decide +kernel)) rfl
theorem t_247 : Cond.code yX5_add cX5_add 2 none ∈ gT := gT_tab (List.mem_of_getElem? (i := 247) (by decide +kernel)) rfl
theorem t_248 : Cond.methodLink RX5 22 yX4_read ∈ gT := gT_tab (List.mem_of_getElem? (i := 248) (by decide +kernel)) rfl
theorem t_249 : Cond.instanceMethod yX4_read ∈ gT := gT_tab (List.mem_of_getElem? (i := 249) (by decide +kernel)) rfl
theorem t_250 : Cond.selects RX4 yX4_read yX4_read ∈ gT := gT_tab (List.mem_of_getElem? (i := 250) (by decide +kernel)) rfl
theorem t_251 : Cond.code yX4_read cX4_read 3 none ∈ gT := gT_tab (List.mem_of_getElem? (i := 251) (by decide +kernel)) rfl
theorem t_252 : Cond.methodLink RX4 34 yX3_openLetter ∈ gT := gT_tab (List.mem_of_getElem? (i := 252) (by decide +kernel)) rfl
theorem t_253 : Cond.instanceMethod yX3_openLetter ∈ gT := gT_tab (List.mem_of_getElem? (i := 253) (by decide +kernel)) rfl
theorem t_254 : Cond.selects RX3 yX3_openLetter yX3_openLetter ∈ gT := gT_tab (List.mem_of_getElem? (i := 254) (by decide +kernel)) rfl
theorem t_255 : Cond.code yX3_openLetter cX3_openLetter 1 (some .int) ∈ gT := gT_tab (List.mem_of_getElem? (i := 255) (by decide +kernel)) rfl
theorem t_256 : Cond.methodLink RX3 48 yJ9_max_7cf53 ∈ gT := gT_tab (List.mem_of_getElem? (i := 256) (by decide +kernel)) rfl
theorem t_257 : Cond.static yJ9_max_7cf53 ∈ gT := gT_tab (List.mem_of_getElem? (i := 257) (by decide +kernel)) rfl
theorem t_258 : Cond.code yJ9_max_7cf53 cJ9_max_7cf53 2 (some .int) ∈ gT := gT_tab (List.mem_of_getElem? (i := 258) (by decide +kernel)) rfl
theorem t_259 : Cond.methodLink RX4 40 yX3_copyRule ∈ gT := gT_tab (List.mem_of_getElem? (i := 259) (by decide +kernel)) rfl
theorem t_260 : Cond.instanceMethod yX3_copyRule ∈ gT := gT_tab (List.mem_of_getElem? (i := 260) (by decide +kernel)) rfl
theorem t_261 : Cond.selects RX3 yX3_copyRule yX3_copyRule ∈ gT := gT_tab (List.mem_of_getElem? (i := 261) (by decide +kernel)) rfl
theorem t_262 : Cond.code yX3_copyRule cX3_copyRule 2 none ∈ gT := gT_tab (List.mem_of_getElem? (i := 262) (by decide +kernel)) rfl
theorem t_263 : Cond.methodLink RX3 54 yX3_copyEdges ∈ gT := gT_tab (List.mem_of_getElem? (i := 263) (by decide +kernel)) rfl
theorem t_265 : Cond.instanceMethod yX3_copyEdges ∈ gT := gT_tab (List.mem_of_getElem? (i := 265) (by decide +kernel)) rfl
theorem t_266 : Cond.code yX3_copyEdges cX3_copyEdges 5 none ∈ gT := gT_tab (List.mem_of_getElem? (i := 266) (by decide +kernel)) rfl
theorem t_267 : Cond.methodLink RX3 58 yX0_clear ∈ gT := gT_tab (List.mem_of_getElem? (i := 267) (by decide +kernel)) rfl
theorem t_268 : Cond.instanceMethod yX0_clear ∈ gT := gT_tab (List.mem_of_getElem? (i := 268) (by decide +kernel)) rfl
theorem t_269 : Cond.selects RX0 yX0_clear yX0_clear ∈ gT := gT_tab (List.mem_of_getElem? (i := 269) (by decide +kernel)) rfl
theorem t_270 : Cond.code yX0_clear cX0_clear 2 none ∈ gT := gT_tab (List.mem_of_getElem? (i := 270) (by decide +kernel)) rfl
theorem t_271 : Cond.methodLink RX3 64 yX0_append ∈ gT := gT_tab (List.mem_of_getElem? (i := 271) (by decide +kernel)) rfl
theorem t_272 : Cond.instanceMethod yX0_append ∈ gT := gT_tab (List.mem_of_getElem? (i := 272) (by decide +kernel)) rfl
theorem t_273 : Cond.selects RX0 yX0_append yX0_append ∈ gT := gT_tab (List.mem_of_getElem? (i := 273) (by decide +kernel)) rfl
theorem t_274 : Cond.code yX0_append cX0_append 4 none ∈ gT := gT_tab (List.mem_of_getElem? (i := 274) (by decide +kernel)) rfl
theorem t_275 : Cond.methodLink RX0 28 yX0_put ∈ gT := gT_tab (List.mem_of_getElem? (i := 275) (by decide +kernel)) rfl
theorem t_277 : Cond.instanceMethod yX0_put ∈ gT := gT_tab (List.mem_of_getElem? (i := 277) (by decide +kernel)) rfl
theorem t_278 : Cond.code yX0_put cX0_put 5 none ∈ gT := gT_tab (List.mem_of_getElem? (i := 278) (by decide +kernel)) rfl
theorem t_279 : Cond.methodLink RX4 44 yX0_has ∈ gT := gT_tab (List.mem_of_getElem? (i := 279) (by decide +kernel)) rfl
theorem t_280 : Cond.instanceMethod yX0_has ∈ gT := gT_tab (List.mem_of_getElem? (i := 280) (by decide +kernel)) rfl
theorem t_281 : Cond.selects RX0 yX0_has yX0_has ∈ gT := gT_tab (List.mem_of_getElem? (i := 281) (by decide +kernel)) rfl
theorem t_282 : Cond.code yX0_has cX0_has 2 (some .boolean) ∈ gT := gT_tab (List.mem_of_getElem? (i := 282) (by decide +kernel)) rfl
theorem t_283 : Cond.methodLink RX4 51 yX0_waysOf ∈ gT := gT_tab (List.mem_of_getElem? (i := 283) (by decide +kernel)) rfl
theorem t_284 : Cond.instanceMethod yX0_waysOf ∈ gT := gT_tab (List.mem_of_getElem? (i := 284) (by decide +kernel)) rfl
theorem t_285 : Cond.selects RX0 yX0_waysOf yX0_waysOf ∈ gT := gT_tab (List.mem_of_getElem? (i := 285) (by decide +kernel)) rfl
theorem t_286 : Cond.code yX0_waysOf cX0_waysOf 2 (some .int) ∈ gT := gT_tab (List.mem_of_getElem? (i := 286) (by decide +kernel)) rfl
theorem t_287 : Cond.methodLink RX0 57 yX0_comes ∈ gT := gT_tab (List.mem_of_getElem? (i := 287) (by decide +kernel)) rfl
theorem t_289 : Cond.instanceMethod yX0_comes ∈ gT := gT_tab (List.mem_of_getElem? (i := 289) (by decide +kernel)) rfl
theorem t_290 : Cond.code yX0_comes cX0_comes 8 (some .boolean) ∈ gT := gT_tab (List.mem_of_getElem? (i := 290) (by decide +kernel)) rfl
theorem t_291 : Cond.methodLink RX4 55 yX0_huesOf ∈ gT := gT_tab (List.mem_of_getElem? (i := 291) (by decide +kernel)) rfl
theorem t_292 : Cond.instanceMethod yX0_huesOf ∈ gT := gT_tab (List.mem_of_getElem? (i := 292) (by decide +kernel)) rfl
theorem t_293 : Cond.selects RX0 yX0_huesOf yX0_huesOf ∈ gT := gT_tab (List.mem_of_getElem? (i := 293) (by decide +kernel)) rfl
theorem t_294 : Cond.code yX0_huesOf cX0_huesOf 4 (some .int) ∈ gT := gT_tab (List.mem_of_getElem? (i := 294) (by decide +kernel)) rfl
theorem t_295 : Cond.methodLink RX0 61 yX0_allows ∈ gT := gT_tab (List.mem_of_getElem? (i := 295) (by decide +kernel)) rfl
theorem t_297 : Cond.instanceMethod yX0_allows ∈ gT := gT_tab (List.mem_of_getElem? (i := 297) (by decide +kernel)) rfl
theorem t_298 : Cond.code yX0_allows cX0_allows 5 (some .boolean) ∈ gT := gT_tab (List.mem_of_getElem? (i := 298) (by decide +kernel)) rfl
theorem t_299 : Cond.methodLink RL 32 yX6_drop ∈ gT := gT_tab (List.mem_of_getElem? (i := 299) (by decide +kernel)) rfl
theorem t_300 : Cond.instanceMethod yX6_drop ∈ gT := gT_tab (List.mem_of_getElem? (i := 300) (by decide +kernel)) rfl
theorem t_301 : Cond.selects RX6 yX6_drop yX6_drop ∈ gT := gT_tab (List.mem_of_getElem? (i := 301) (by decide +kernel)) rfl
theorem t_302 : Cond.code yX6_drop cX6_drop 2 (some .int) ∈ gT := gT_tab (List.mem_of_getElem? (i := 302) (by decide +kernel)) rfl
theorem t_303 : Cond.methodLink RX6 85 yX5_has ∈ gT := gT_tab (List.mem_of_getElem? (i := 303) (by decide +kernel)) rfl
theorem t_304 : Cond.instanceMethod yX5_has ∈ gT := gT_tab (List.mem_of_getElem? (i := 304) (by decide +kernel)) rfl
theorem t_305 : Cond.selects RX5 yX5_has yX5_has ∈ gT := gT_tab (List.mem_of_getElem? (i := 305) (by decide +kernel)) rfl
theorem t_306 : Cond.code yX5_has cX5_has 2 (some .boolean) ∈ gT := gT_tab (List.mem_of_getElem? (i := 306) (by decide +kernel)) rfl
theorem t_307 : Cond.methodLink RX6 89 yX5_remove ∈ gT := gT_tab (List.mem_of_getElem? (i := 307) (by decide +kernel)) rfl
theorem t_308 : Cond.instanceMethod yX5_remove ∈ gT := gT_tab (List.mem_of_getElem? (i := 308) (by decide +kernel)) rfl
theorem t_309 : Cond.selects RX5 yX5_remove yX5_remove ∈ gT := gT_tab (List.mem_of_getElem? (i := 309) (by decide +kernel)) rfl
theorem t_310 : Cond.code yX5_remove cX5_remove 4 none ∈ gT := gT_tab (List.mem_of_getElem? (i := 310) (by decide +kernel)) rfl
theorem t_311 : Cond.methodLink RX5 26 yX5_has ∈ gT := gT_tab (List.mem_of_getElem? (i := 311) (by decide +kernel)) rfl
theorem t_312 : Cond.methodLink RL 36 yX6_graph ∈ gT := gT_tab (List.mem_of_getElem? (i := 312) (by decide +kernel)) rfl
theorem t_313 : Cond.instanceMethod yX6_graph ∈ gT := gT_tab (List.mem_of_getElem? (i := 313) (by decide +kernel)) rfl
theorem t_314 : Cond.selects RX6 yX6_graph yX6_graph ∈ gT := gT_tab (List.mem_of_getElem? (i := 314) (by decide +kernel)) rfl
theorem t_315 : Cond.code yX6_graph cX6_graph 1 (some .int) ∈ gT := gT_tab (List.mem_of_getElem? (i := 315) (by decide +kernel)) rfl
theorem t_316 : Cond.methodLink RX6 92 yX3_isGraph ∈ gT := gT_tab (List.mem_of_getElem? (i := 316) (by decide +kernel)) rfl
theorem t_317 : Cond.instanceMethod yX3_isGraph ∈ gT := gT_tab (List.mem_of_getElem? (i := 317) (by decide +kernel)) rfl
theorem t_318 : Cond.selects RX3 yX3_isGraph yX3_isGraph ∈ gT := gT_tab (List.mem_of_getElem? (i := 318) (by decide +kernel)) rfl
theorem t_319 : Cond.code yX3_isGraph cX3_isGraph 1 (some .boolean) ∈ gT := gT_tab (List.mem_of_getElem? (i := 319) (by decide +kernel)) rfl
theorem t_320 : Cond.methodLink RX6 95 yX3_copyGraph ∈ gT := gT_tab (List.mem_of_getElem? (i := 320) (by decide +kernel)) rfl
theorem t_321 : Cond.instanceMethod yX3_copyGraph ∈ gT := gT_tab (List.mem_of_getElem? (i := 321) (by decide +kernel)) rfl
theorem t_322 : Cond.selects RX3 yX3_copyGraph yX3_copyGraph ∈ gT := gT_tab (List.mem_of_getElem? (i := 322) (by decide +kernel)) rfl
theorem t_323 : Cond.code yX3_copyGraph cX3_copyGraph 2 none ∈ gT := gT_tab (List.mem_of_getElem? (i := 323) (by decide +kernel)) rfl
theorem t_324 : Cond.methodLink RX6 99 yX6_noteNewGraph ∈ gT := gT_tab (List.mem_of_getElem? (i := 324) (by decide +kernel)) rfl
theorem t_326 : Cond.instanceMethod yX6_noteNewGraph ∈ gT := gT_tab (List.mem_of_getElem? (i := 326) (by decide +kernel)) rfl
theorem t_327 : Cond.code yX6_noteNewGraph cX6_noteNewGraph 1 none ∈ gT := gT_tab (List.mem_of_getElem? (i := 327) (by decide +kernel)) rfl
theorem t_328 : Cond.methodLink RL 40 yX6_of ∈ gT := gT_tab (List.mem_of_getElem? (i := 328) (by decide +kernel)) rfl
theorem t_329 : Cond.instanceMethod yX6_of ∈ gT := gT_tab (List.mem_of_getElem? (i := 329) (by decide +kernel)) rfl
theorem t_330 : Cond.selects RX6 yX6_of yX6_of ∈ gT := gT_tab (List.mem_of_getElem? (i := 330) (by decide +kernel)) rfl
theorem t_331 : Cond.code yX6_of cX6_of 4 (some .int) ∈ gT := gT_tab (List.mem_of_getElem? (i := 331) (by decide +kernel)) rfl
theorem t_332 : Cond.methodLink RX6 118 yX0_has ∈ gT := gT_tab (List.mem_of_getElem? (i := 332) (by decide +kernel)) rfl
theorem t_333 : Cond.methodLink RX6 119 yX0_told ∈ gT := gT_tab (List.mem_of_getElem? (i := 333) (by decide +kernel)) rfl
theorem t_334 : Cond.instanceMethod yX0_told ∈ gT := gT_tab (List.mem_of_getElem? (i := 334) (by decide +kernel)) rfl
theorem t_335 : Cond.selects RX0 yX0_told yX0_told ∈ gT := gT_tab (List.mem_of_getElem? (i := 335) (by decide +kernel)) rfl
theorem t_336 : Cond.code yX0_told cX0_told 2 (some .int) ∈ gT := gT_tab (List.mem_of_getElem? (i := 336) (by decide +kernel)) rfl
theorem t_337 : Cond.methodLink RL 45 yX6_begin ∈ gT := gT_tab (List.mem_of_getElem? (i := 337) (by decide +kernel)) rfl
theorem t_338 : Cond.instanceMethod yX6_begin ∈ gT := gT_tab (List.mem_of_getElem? (i := 338) (by decide +kernel)) rfl
theorem t_339 : Cond.selects RX6 yX6_begin yX6_begin ∈ gT := gT_tab (List.mem_of_getElem? (i := 339) (by decide +kernel)) rfl
theorem t_340 : Cond.code yX6_begin cX6_begin 2 (some .int) ∈ gT := gT_tab (List.mem_of_getElem? (i := 340) (by decide +kernel)) rfl
theorem t_341 : Cond.methodLink RX6 123 yX6_isOpen ∈ gT := gT_tab (List.mem_of_getElem? (i := 341) (by decide +kernel)) rfl
theorem t_342 : Cond.methodLink RX6 126 yX0_clear ∈ gT := gT_tab (List.mem_of_getElem? (i := 342) (by decide +kernel)) rfl
theorem t_343 : Cond.methodLink RX6 128 yX0_append ∈ gT := gT_tab (List.mem_of_getElem? (i := 343) (by decide +kernel)) rfl
theorem t_344 : Cond.methodLink RL 49 yX6_step ∈ gT := gT_tab (List.mem_of_getElem? (i := 344) (by decide +kernel)) rfl
theorem t_345 : Cond.instanceMethod yX6_step ∈ gT := gT_tab (List.mem_of_getElem? (i := 345) (by decide +kernel)) rfl
theorem t_346 : Cond.selects RX6 yX6_step yX6_step ∈ gT := gT_tab (List.mem_of_getElem? (i := 346) (by decide +kernel)) rfl
theorem t_347 : Cond.code yX6_step cX6_step 4 (some .int) ∈ gT := gT_tab (List.mem_of_getElem? (i := 347) (by decide +kernel)) rfl
theorem t_348 : Cond.methodLink RX6 136 yX0_replace ∈ gT := gT_tab (List.mem_of_getElem? (i := 348) (by decide +kernel)) rfl
theorem t_349 : Cond.instanceMethod yX0_replace ∈ gT := gT_tab (List.mem_of_getElem? (i := 349) (by decide +kernel)) rfl
theorem t_350 : Cond.selects RX0 yX0_replace yX0_replace ∈ gT := gT_tab (List.mem_of_getElem? (i := 350) (by decide +kernel)) rfl
theorem t_351 : Cond.code yX0_replace cX0_replace 7 none ∈ gT := gT_tab (List.mem_of_getElem? (i := 351) (by decide +kernel)) rfl
theorem t_352 : Cond.methodLink RX0 40 yX0_has ∈ gT := gT_tab (List.mem_of_getElem? (i := 352) (by decide +kernel)) rfl
theorem t_353 : Cond.methodLink RX0 43 yX0_nodeFor ∈ gT := gT_tab (List.mem_of_getElem? (i := 353) (by decide +kernel)) rfl
theorem t_355 : Cond.instanceMethod yX0_nodeFor ∈ gT := gT_tab (List.mem_of_getElem? (i := 355) (by decide +kernel)) rfl
theorem t_356 : Cond.code yX0_nodeFor cX0_nodeFor 4 (some .int) ∈ gT := gT_tab (List.mem_of_getElem? (i := 356) (by decide +kernel)) rfl
theorem t_357 : Cond.methodLink RL 53 yX6_edge ∈ gT := gT_tab (List.mem_of_getElem? (i := 357) (by decide +kernel)) rfl
theorem t_358 : Cond.instanceMethod yX6_edge ∈ gT := gT_tab (List.mem_of_getElem? (i := 358) (by decide +kernel)) rfl
theorem t_359 : Cond.selects RX6 yX6_edge yX6_edge ∈ gT := gT_tab (List.mem_of_getElem? (i := 359) (by decide +kernel)) rfl
theorem t_360 : Cond.code yX6_edge cX6_edge 2 (some .int) ∈ gT := gT_tab (List.mem_of_getElem? (i := 360) (by decide +kernel)) rfl
theorem t_361 : Cond.methodLink RL 57 yX6_kind ∈ gT := gT_tab (List.mem_of_getElem? (i := 361) (by decide +kernel)) rfl
theorem t_362 : Cond.instanceMethod yX6_kind ∈ gT := gT_tab (List.mem_of_getElem? (i := 362) (by decide +kernel)) rfl
theorem t_363 : Cond.selects RX6 yX6_kind yX6_kind ∈ gT := gT_tab (List.mem_of_getElem? (i := 363) (by decide +kernel)) rfl
theorem t_364 : Cond.code yX6_kind cX6_kind 1 (some .int) ∈ gT := gT_tab (List.mem_of_getElem? (i := 364) (by decide +kernel)) rfl
theorem t_365 : Cond.methodLink RX6 140 yX0_isDone ∈ gT := gT_tab (List.mem_of_getElem? (i := 365) (by decide +kernel)) rfl
theorem t_366 : Cond.instanceMethod yX0_isDone ∈ gT := gT_tab (List.mem_of_getElem? (i := 366) (by decide +kernel)) rfl
theorem t_367 : Cond.selects RX0 yX0_isDone yX0_isDone ∈ gT := gT_tab (List.mem_of_getElem? (i := 367) (by decide +kernel)) rfl
theorem t_368 : Cond.code yX0_isDone cX0_isDone 1 (some .boolean) ∈ gT := gT_tab (List.mem_of_getElem? (i := 368) (by decide +kernel)) rfl
theorem t_369 : Cond.methodLink RX0 36 yX0_openEdges ∈ gT := gT_tab (List.mem_of_getElem? (i := 369) (by decide +kernel)) rfl
theorem t_370 : Cond.instanceMethod yX0_openEdges ∈ gT := gT_tab (List.mem_of_getElem? (i := 370) (by decide +kernel)) rfl
theorem t_371 : Cond.selects RX0 yX0_openEdges yX0_openEdges ∈ gT := gT_tab (List.mem_of_getElem? (i := 371) (by decide +kernel)) rfl
theorem t_372 : Cond.code yX0_openEdges cX0_openEdges 3 (some .int) ∈ gT := gT_tab (List.mem_of_getElem? (i := 372) (by decide +kernel)) rfl
theorem t_374 : Cond.methodLink RX6 143 yX0_ownKind ∈ gT := gT_tab (List.mem_of_getElem? (i := 374) (by decide +kernel)) rfl
theorem t_375 : Cond.instanceMethod yX0_ownKind ∈ gT := gT_tab (List.mem_of_getElem? (i := 375) (by decide +kernel)) rfl
theorem t_376 : Cond.selects RX0 yX0_ownKind yX0_ownKind ∈ gT := gT_tab (List.mem_of_getElem? (i := 376) (by decide +kernel)) rfl
theorem t_377 : Cond.code yX0_ownKind cX0_ownKind 5 (some .int) ∈ gT := gT_tab (List.mem_of_getElem? (i := 377) (by decide +kernel)) rfl
theorem t_378 : Cond.methodLink RX0 51 yX0_waysOf ∈ gT := gT_tab (List.mem_of_getElem? (i := 378) (by decide +kernel)) rfl
theorem t_379 : Cond.methodLink RX0 54 yX0_huesOf ∈ gT := gT_tab (List.mem_of_getElem? (i := 379) (by decide +kernel)) rfl
theorem t_380 : Cond.methodLink RL 61 yX6_fewest ∈ gT := gT_tab (List.mem_of_getElem? (i := 380) (by decide +kernel)) rfl
theorem t_381 : Cond.instanceMethod yX6_fewest ∈ gT := gT_tab (List.mem_of_getElem? (i := 381) (by decide +kernel)) rfl
theorem t_382 : Cond.selects RX6 yX6_fewest yX6_fewest ∈ gT := gT_tab (List.mem_of_getElem? (i := 382) (by decide +kernel)) rfl
theorem t_383 : Cond.code yX6_fewest cX6_fewest 3 (some .int) ∈ gT := gT_tab (List.mem_of_getElem? (i := 383) (by decide +kernel)) rfl
theorem t_384 : Cond.methodLink RX6 147 yX2_find ∈ gT := gT_tab (List.mem_of_getElem? (i := 384) (by decide +kernel)) rfl
theorem t_385 : Cond.instanceMethod yX2_find ∈ gT := gT_tab (List.mem_of_getElem? (i := 385) (by decide +kernel)) rfl
theorem t_386 : Cond.selects RX2 yX2_find yX2_find ∈ gT := gT_tab (List.mem_of_getElem? (i := 386) (by decide +kernel)) rfl
theorem t_387 : Cond.code yX2_find cX2_find 6 none ∈ gT := gT_tab (List.mem_of_getElem? (i := 387) (by decide +kernel)) rfl
theorem t_388 : Cond.constant RX2 28 (536870912) ∈ gT := gT_tab (List.mem_of_getElem? (i := 388) (by decide +kernel)) rfl
theorem t_389 : Cond.methodLink RX2 29 yJ7_fill_53178 ∈ gT := gT_tab (List.mem_of_getElem? (i := 389) (by decide +kernel)) rfl
theorem t_390 : Cond.static yJ7_fill_53178 ∈ gT := gT_tab (List.mem_of_getElem? (i := 390) (by decide +kernel)) rfl
theorem t_391 : Cond.code yJ7_fill_53178 cJ7_fill_53178 4 none ∈ gT := gT_tab (List.mem_of_getElem? (i := 391) (by decide +kernel)) rfl
theorem t_392 : Cond.methodLink RX2 38 yX2_improve ∈ gT := gT_tab (List.mem_of_getElem? (i := 392) (by decide +kernel)) rfl
theorem t_394 : Cond.instanceMethod yX2_improve ∈ gT := gT_tab (List.mem_of_getElem? (i := 394) (by decide +kernel)) rfl
theorem t_395 : Cond.code yX2_improve cX2_improve 11 (some .boolean) ∈ gT := gT_tab (List.mem_of_getElem? (i := 395) (by decide +kernel)) rfl
theorem t_396 : Cond.methodLink RX2 42 yJ6_bitCount_0f7a4 ∈ gT := gT_tab (List.mem_of_getElem? (i := 396) (by decide +kernel)) rfl
theorem t_397 : Cond.static yJ6_bitCount_0f7a4 ∈ gT := gT_tab (List.mem_of_getElem? (i := 397) (by decide +kernel)) rfl
theorem t_398 : Cond.code yJ6_bitCount_0f7a4 cJ6_bitCount_0f7a4 1 (some .int) ∈ gT := gT_tab (List.mem_of_getElem? (i := 398) (by decide +kernel)) rfl
theorem t_399 : Cond.constant RJ6 265 (1431655765) ∈ gT := gT_tab (List.mem_of_getElem? (i := 399) (by decide +kernel)) rfl
theorem t_400 : Cond.constant RJ6 266 (858993459) ∈ gT := gT_tab (List.mem_of_getElem? (i := 400) (by decide +kernel)) rfl
theorem t_401 : Cond.constant RJ6 267 (252645135) ∈ gT := gT_tab (List.mem_of_getElem? (i := 401) (by decide +kernel)) rfl
theorem t_402 : Cond.methodLink RX2 48 yX0_isPart ∈ gT := gT_tab (List.mem_of_getElem? (i := 402) (by decide +kernel)) rfl
theorem t_403 : Cond.instanceMethod yX0_isPart ∈ gT := gT_tab (List.mem_of_getElem? (i := 403) (by decide +kernel)) rfl
theorem t_404 : Cond.selects RX0 yX0_isPart yX0_isPart ∈ gT := gT_tab (List.mem_of_getElem? (i := 404) (by decide +kernel)) rfl
theorem t_405 : Cond.code yX0_isPart cX0_isPart 7 (some .boolean) ∈ gT := gT_tab (List.mem_of_getElem? (i := 405) (by decide +kernel)) rfl
theorem t_406 : Cond.methodLink RX0 47 yX0_nodesOf ∈ gT := gT_tab (List.mem_of_getElem? (i := 406) (by decide +kernel)) rfl
theorem t_408 : Cond.instanceMethod yX0_nodesOf ∈ gT := gT_tab (List.mem_of_getElem? (i := 408) (by decide +kernel)) rfl
theorem t_409 : Cond.code yX0_nodesOf cX0_nodesOf 4 (some .int) ∈ gT := gT_tab (List.mem_of_getElem? (i := 409) (by decide +kernel)) rfl
theorem t_410 : Cond.methodLink RX2 24 yX2_at ∈ gT := gT_tab (List.mem_of_getElem? (i := 410) (by decide +kernel)) rfl
theorem t_411 : Cond.static yX2_at ∈ gT := gT_tab (List.mem_of_getElem? (i := 411) (by decide +kernel)) rfl
theorem t_412 : Cond.code yX2_at cX2_at 4 (some .int) ∈ gT := gT_tab (List.mem_of_getElem? (i := 412) (by decide +kernel)) rfl
theorem t_413 : Cond.methodLink RX2 68 yX2_byRule ∈ gT := gT_tab (List.mem_of_getElem? (i := 413) (by decide +kernel)) rfl
theorem t_415 : Cond.instanceMethod yX2_byRule ∈ gT := gT_tab (List.mem_of_getElem? (i := 415) (by decide +kernel)) rfl
theorem t_416 : Cond.code yX2_byRule cX2_byRule 10 (some .int) ∈ gT := gT_tab (List.mem_of_getElem? (i := 416) (by decide +kernel)) rfl
theorem t_417 : Cond.methodLink RX2 76 yX2_standsApart ∈ gT := gT_tab (List.mem_of_getElem? (i := 417) (by decide +kernel)) rfl
theorem t_419 : Cond.instanceMethod yX2_standsApart ∈ gT := gT_tab (List.mem_of_getElem? (i := 419) (by decide +kernel)) rfl
theorem t_420 : Cond.code yX2_standsApart cX2_standsApart 4 (some .boolean) ∈ gT := gT_tab (List.mem_of_getElem? (i := 420) (by decide +kernel)) rfl
theorem t_421 : Cond.methodLink RX2 80 yX2_bySplit ∈ gT := gT_tab (List.mem_of_getElem? (i := 421) (by decide +kernel)) rfl
theorem t_423 : Cond.instanceMethod yX2_bySplit ∈ gT := gT_tab (List.mem_of_getElem? (i := 423) (by decide +kernel)) rfl
theorem t_424 : Cond.code yX2_bySplit cX2_bySplit 10 (some .int) ∈ gT := gT_tab (List.mem_of_getElem? (i := 424) (by decide +kernel)) rfl
theorem t_425 : Cond.methodLink RX2 89 yX2_bySlot ∈ gT := gT_tab (List.mem_of_getElem? (i := 425) (by decide +kernel)) rfl
theorem t_427 : Cond.instanceMethod yX2_bySlot ∈ gT := gT_tab (List.mem_of_getElem? (i := 427) (by decide +kernel)) rfl
theorem t_428 : Cond.code yX2_bySlot cX2_bySlot 8 (some .int) ∈ gT := gT_tab (List.mem_of_getElem? (i := 428) (by decide +kernel)) rfl
theorem t_430 : Cond.methodLink RX2 105 yX0_isEdge ∈ gT := gT_tab (List.mem_of_getElem? (i := 430) (by decide +kernel)) rfl
theorem t_431 : Cond.instanceMethod yX0_isEdge ∈ gT := gT_tab (List.mem_of_getElem? (i := 431) (by decide +kernel)) rfl
theorem t_432 : Cond.selects RX0 yX0_isEdge yX0_isEdge ∈ gT := gT_tab (List.mem_of_getElem? (i := 432) (by decide +kernel)) rfl
theorem t_433 : Cond.code yX0_isEdge cX0_isEdge 6 (some .boolean) ∈ gT := gT_tab (List.mem_of_getElem? (i := 433) (by decide +kernel)) rfl
theorem t_434 : Cond.methodLink RX2 83 yJ9_min_7cf53 ∈ gT := gT_tab (List.mem_of_getElem? (i := 434) (by decide +kernel)) rfl
theorem t_435 : Cond.static yJ9_min_7cf53 ∈ gT := gT_tab (List.mem_of_getElem? (i := 435) (by decide +kernel)) rfl
theorem t_436 : Cond.code yJ9_min_7cf53 cJ9_min_7cf53 2 (some .int) ∈ gT := gT_tab (List.mem_of_getElem? (i := 436) (by decide +kernel)) rfl
theorem t_437 : Cond.methodLink RX2 72 yX2_lower ∈ gT := gT_tab (List.mem_of_getElem? (i := 437) (by decide +kernel)) rfl
theorem t_439 : Cond.instanceMethod yX2_lower ∈ gT := gT_tab (List.mem_of_getElem? (i := 439) (by decide +kernel)) rfl
theorem t_440 : Cond.code yX2_lower cX2_lower 3 (some .boolean) ∈ gT := gT_tab (List.mem_of_getElem? (i := 440) (by decide +kernel)) rfl
theorem t_441 : Cond.methodLink RX6 151 yX2_ofWhole ∈ gT := gT_tab (List.mem_of_getElem? (i := 441) (by decide +kernel)) rfl
theorem t_442 : Cond.instanceMethod yX2_ofWhole ∈ gT := gT_tab (List.mem_of_getElem? (i := 442) (by decide +kernel)) rfl
theorem t_443 : Cond.selects RX2 yX2_ofWhole yX2_ofWhole ∈ gT := gT_tab (List.mem_of_getElem? (i := 443) (by decide +kernel)) rfl
theorem t_444 : Cond.code yX2_ofWhole cX2_ofWhole 3 (some .int) ∈ gT := gT_tab (List.mem_of_getElem? (i := 444) (by decide +kernel)) rfl
theorem t_445 : Cond.constant RX6 155 (536870912) ∈ gT := gT_tab (List.mem_of_getElem? (i := 445) (by decide +kernel)) rfl
theorem t_446 : Cond.methodLink RL 65 yX6_kinds ∈ gT := gT_tab (List.mem_of_getElem? (i := 446) (by decide +kernel)) rfl
theorem t_447 : Cond.instanceMethod yX6_kinds ∈ gT := gT_tab (List.mem_of_getElem? (i := 447) (by decide +kernel)) rfl
theorem t_448 : Cond.selects RX6 yX6_kinds yX6_kinds ∈ gT := gT_tab (List.mem_of_getElem? (i := 448) (by decide +kernel)) rfl
theorem t_449 : Cond.code yX6_kinds cX6_kinds 4 (some .int) ∈ gT := gT_tab (List.mem_of_getElem? (i := 449) (by decide +kernel)) rfl
theorem t_450 : Cond.methodLink RX6 156 yX6_bringLights ∈ gT := gT_tab (List.mem_of_getElem? (i := 450) (by decide +kernel)) rfl
theorem t_452 : Cond.instanceMethod yX6_bringLights ∈ gT := gT_tab (List.mem_of_getElem? (i := 452) (by decide +kernel)) rfl
theorem t_453 : Cond.code yX6_bringLights cX6_bringLights 1 none ∈ gT := gT_tab (List.mem_of_getElem? (i := 453) (by decide +kernel)) rfl
theorem t_454 : Cond.methodLink RX6 206 yX1_find ∈ gT := gT_tab (List.mem_of_getElem? (i := 454) (by decide +kernel)) rfl
theorem t_455 : Cond.instanceMethod yX1_find ∈ gT := gT_tab (List.mem_of_getElem? (i := 455) (by decide +kernel)) rfl
theorem t_456 : Cond.selects RX1 yX1_find yX1_find ∈ gT := gT_tab (List.mem_of_getElem? (i := 456) (by decide +kernel)) rfl
theorem t_457 : Cond.code yX1_find cX1_find 5 none ∈ gT := gT_tab (List.mem_of_getElem? (i := 457) (by decide +kernel)) rfl
theorem t_458 : Cond.methodLink RX1 45 yX1_forget ∈ gT := gT_tab (List.mem_of_getElem? (i := 458) (by decide +kernel)) rfl
theorem t_460 : Cond.instanceMethod yX1_forget ∈ gT := gT_tab (List.mem_of_getElem? (i := 460) (by decide +kernel)) rfl
theorem t_461 : Cond.code yX1_forget cX1_forget 2 none ∈ gT := gT_tab (List.mem_of_getElem? (i := 461) (by decide +kernel)) rfl
theorem t_462 : Cond.constantLong RX1 29 (2305843009213693952) ∈ gT := gT_tab (List.mem_of_getElem? (i := 462) (by decide +kernel)) rfl
theorem t_463 : Cond.methodLink RX1 74 yJ7_fill_d0a16 ∈ gT := gT_tab (List.mem_of_getElem? (i := 463) (by decide +kernel)) rfl
theorem t_464 : Cond.static yJ7_fill_d0a16 ∈ gT := gT_tab (List.mem_of_getElem? (i := 464) (by decide +kernel)) rfl
theorem t_465 : Cond.code yJ7_fill_d0a16 cJ7_fill_d0a16 5 none ∈ gT := gT_tab (List.mem_of_getElem? (i := 465) (by decide +kernel)) rfl
theorem t_466 : Cond.methodLink RX1 80 yJ7_fill_53178 ∈ gT := gT_tab (List.mem_of_getElem? (i := 466) (by decide +kernel)) rfl
theorem t_467 : Cond.methodLink RX1 48 yX1_offer ∈ gT := gT_tab (List.mem_of_getElem? (i := 467) (by decide +kernel)) rfl
theorem t_469 : Cond.instanceMethod yX1_offer ∈ gT := gT_tab (List.mem_of_getElem? (i := 469) (by decide +kernel)) rfl
theorem t_470 : Cond.code yX1_offer cX1_offer 7 none ∈ gT := gT_tab (List.mem_of_getElem? (i := 470) (by decide +kernel)) rfl
theorem t_471 : Cond.methodLink RX1 52 yX1_nearest ∈ gT := gT_tab (List.mem_of_getElem? (i := 471) (by decide +kernel)) rfl
theorem t_473 : Cond.instanceMethod yX1_nearest ∈ gT := gT_tab (List.mem_of_getElem? (i := 473) (by decide +kernel)) rfl
theorem t_474 : Cond.code yX1_nearest cX1_nearest 5 (some .int) ∈ gT := gT_tab (List.mem_of_getElem? (i := 474) (by decide +kernel)) rfl
theorem t_475 : Cond.methodLink RX1 56 yX1_settle ∈ gT := gT_tab (List.mem_of_getElem? (i := 475) (by decide +kernel)) rfl
theorem t_477 : Cond.instanceMethod yX1_settle ∈ gT := gT_tab (List.mem_of_getElem? (i := 477) (by decide +kernel)) rfl
theorem t_478 : Cond.code yX1_settle cX1_settle 3 none ∈ gT := gT_tab (List.mem_of_getElem? (i := 478) (by decide +kernel)) rfl
theorem t_479 : Cond.methodLink RX1 70 yX1_spread ∈ gT := gT_tab (List.mem_of_getElem? (i := 479) (by decide +kernel)) rfl
theorem t_481 : Cond.instanceMethod yX1_spread ∈ gT := gT_tab (List.mem_of_getElem? (i := 481) (by decide +kernel)) rfl
theorem t_482 : Cond.code yX1_spread cX1_spread 6 none ∈ gT := gT_tab (List.mem_of_getElem? (i := 482) (by decide +kernel)) rfl
theorem t_483 : Cond.methodLink RX1 88 yX1_combine ∈ gT := gT_tab (List.mem_of_getElem? (i := 483) (by decide +kernel)) rfl
theorem t_485 : Cond.instanceMethod yX1_combine ∈ gT := gT_tab (List.mem_of_getElem? (i := 485) (by decide +kernel)) rfl
theorem t_486 : Cond.code yX1_combine cX1_combine 13 none ∈ gT := gT_tab (List.mem_of_getElem? (i := 486) (by decide +kernel)) rfl
theorem t_487 : Cond.methodLink RX1 91 yX1_choices ∈ gT := gT_tab (List.mem_of_getElem? (i := 487) (by decide +kernel)) rfl
theorem t_489 : Cond.instanceMethod yX1_choices ∈ gT := gT_tab (List.mem_of_getElem? (i := 489) (by decide +kernel)) rfl
theorem t_490 : Cond.code yX1_choices cX1_choices 4 (some .int) ∈ gT := gT_tab (List.mem_of_getElem? (i := 490) (by decide +kernel)) rfl
theorem t_491 : Cond.methodLink RX1 95 yX1_settledKind ∈ gT := gT_tab (List.mem_of_getElem? (i := 491) (by decide +kernel)) rfl
theorem t_493 : Cond.instanceMethod yX1_settledKind ∈ gT := gT_tab (List.mem_of_getElem? (i := 493) (by decide +kernel)) rfl
theorem t_494 : Cond.code yX1_settledKind cX1_settledKind 4 (some .int) ∈ gT := gT_tab (List.mem_of_getElem? (i := 494) (by decide +kernel)) rfl
theorem t_495 : Cond.methodLink RX1 98 yX1_stepsIn ∈ gT := gT_tab (List.mem_of_getElem? (i := 495) (by decide +kernel)) rfl
theorem t_497 : Cond.instanceMethod yX1_stepsIn ∈ gT := gT_tab (List.mem_of_getElem? (i := 497) (by decide +kernel)) rfl
theorem t_498 : Cond.code yX1_stepsIn cX1_stepsIn 4 (some .long) ∈ gT := gT_tab (List.mem_of_getElem? (i := 498) (by decide +kernel)) rfl
theorem t_499 : Cond.methodLink RX1 105 yX4_kindFrom ∈ gT := gT_tab (List.mem_of_getElem? (i := 499) (by decide +kernel)) rfl
theorem t_500 : Cond.instanceMethod yX4_kindFrom ∈ gT := gT_tab (List.mem_of_getElem? (i := 500) (by decide +kernel)) rfl
theorem t_501 : Cond.selects RX4 yX4_kindFrom yX4_kindFrom ∈ gT := gT_tab (List.mem_of_getElem? (i := 501) (by decide +kernel)) rfl
theorem t_502 : Cond.code yX4_kindFrom cX4_kindFrom 6 (some .int) ∈ gT := gT_tab (List.mem_of_getElem? (i := 502) (by decide +kernel)) rfl
theorem t_503 : Cond.methodLink RX6 159 yX1_reaches ∈ gT := gT_tab (List.mem_of_getElem? (i := 503) (by decide +kernel)) rfl
theorem t_504 : Cond.instanceMethod yX1_reaches ∈ gT := gT_tab (List.mem_of_getElem? (i := 504) (by decide +kernel)) rfl
theorem t_505 : Cond.selects RX1 yX1_reaches yX1_reaches ∈ gT := gT_tab (List.mem_of_getElem? (i := 505) (by decide +kernel)) rfl
theorem t_506 : Cond.code yX1_reaches cX1_reaches 3 (some .boolean) ∈ gT := gT_tab (List.mem_of_getElem? (i := 506) (by decide +kernel)) rfl
theorem t_507 : Cond.methodLink RL 69 yX6_light ∈ gT := gT_tab (List.mem_of_getElem? (i := 507) (by decide +kernel)) rfl
theorem t_508 : Cond.instanceMethod yX6_light ∈ gT := gT_tab (List.mem_of_getElem? (i := 508) (by decide +kernel)) rfl
theorem t_509 : Cond.selects RX6 yX6_light yX6_light ∈ gT := gT_tab (List.mem_of_getElem? (i := 509) (by decide +kernel)) rfl
theorem t_510 : Cond.code yX6_light cX6_light 4 (some .int) ∈ gT := gT_tab (List.mem_of_getElem? (i := 510) (by decide +kernel)) rfl
theorem t_511 : Cond.methodLink RX6 163 yX1_stepsTo ∈ gT := gT_tab (List.mem_of_getElem? (i := 511) (by decide +kernel)) rfl
theorem t_512 : Cond.instanceMethod yX1_stepsTo ∈ gT := gT_tab (List.mem_of_getElem? (i := 512) (by decide +kernel)) rfl
theorem t_513 : Cond.selects RX1 yX1_stepsTo yX1_stepsTo ∈ gT := gT_tab (List.mem_of_getElem? (i := 513) (by decide +kernel)) rfl
theorem t_514 : Cond.code yX1_stepsTo cX1_stepsTo 3 (some .int) ∈ gT := gT_tab (List.mem_of_getElem? (i := 514) (by decide +kernel)) rfl
theorem t_515 : Cond.methodLink RX1 31 yX1_reaches ∈ gT := gT_tab (List.mem_of_getElem? (i := 515) (by decide +kernel)) rfl
theorem t_516 : Cond.constantLong RX1 37 (2147483647) ∈ gT := gT_tab (List.mem_of_getElem? (i := 516) (by decide +kernel)) rfl
theorem t_517 : Cond.methodLink RX1 39 yJ9_min_f86c9 ∈ gT := gT_tab (List.mem_of_getElem? (i := 517) (by decide +kernel)) rfl
theorem t_518 : Cond.static yJ9_min_f86c9 ∈ gT := gT_tab (List.mem_of_getElem? (i := 518) (by decide +kernel)) rfl
theorem t_519 : Cond.code yJ9_min_f86c9 cJ9_min_f86c9 4 (some .long) ∈ gT := gT_tab (List.mem_of_getElem? (i := 519) (by decide +kernel)) rfl
theorem t_520 : Cond.methodLink RX6 167 yX1_firstTo ∈ gT := gT_tab (List.mem_of_getElem? (i := 520) (by decide +kernel)) rfl
theorem t_521 : Cond.instanceMethod yX1_firstTo ∈ gT := gT_tab (List.mem_of_getElem? (i := 521) (by decide +kernel)) rfl
theorem t_522 : Cond.selects RX1 yX1_firstTo yX1_firstTo ∈ gT := gT_tab (List.mem_of_getElem? (i := 522) (by decide +kernel)) rfl
theorem t_523 : Cond.code yX1_firstTo cX1_firstTo 3 (some .int) ∈ gT := gT_tab (List.mem_of_getElem? (i := 523) (by decide +kernel)) rfl
theorem t_524 : Cond.methodLink RL 74 yX6_count ∈ gT := gT_tab (List.mem_of_getElem? (i := 524) (by decide +kernel)) rfl
theorem t_525 : Cond.instanceMethod yX6_count ∈ gT := gT_tab (List.mem_of_getElem? (i := 525) (by decide +kernel)) rfl
theorem t_526 : Cond.selects RX6 yX6_count yX6_count ∈ gT := gT_tab (List.mem_of_getElem? (i := 526) (by decide +kernel)) rfl
theorem t_527 : Cond.code yX6_count cX6_count 2 (some .int) ∈ gT := gT_tab (List.mem_of_getElem? (i := 527) (by decide +kernel)) rfl
theorem t_528 : Cond.methodLink RX6 170 yX0_openEdges ∈ gT := gT_tab (List.mem_of_getElem? (i := 528) (by decide +kernel)) rfl
theorem t_529 : Cond.methodLink RL 78 yX6_digest ∈ gT := gT_tab (List.mem_of_getElem? (i := 529) (by decide +kernel)) rfl
theorem t_530 : Cond.instanceMethod yX6_digest ∈ gT := gT_tab (List.mem_of_getElem? (i := 530) (by decide +kernel)) rfl
theorem t_531 : Cond.selects RX6 yX6_digest yX6_digest ∈ gT := gT_tab (List.mem_of_getElem? (i := 531) (by decide +kernel)) rfl
theorem t_532 : Cond.code yX6_digest cX6_digest 5 (some .long) ∈ gT := gT_tab (List.mem_of_getElem? (i := 532) (by decide +kernel)) rfl
theorem t_533 : Cond.constantLong RX6 173 (1709) ∈ gT := gT_tab (List.mem_of_getElem? (i := 533) (by decide +kernel)) rfl
theorem t_534 : Cond.methodLink RX6 175 yX6_of ∈ gT := gT_tab (List.mem_of_getElem? (i := 534) (by decide +kernel)) rfl
theorem t_535 : Cond.methodLink RX6 178 yX6_mix ∈ gT := gT_tab (List.mem_of_getElem? (i := 535) (by decide +kernel)) rfl
theorem t_536 : Cond.static yX6_mix ∈ gT := gT_tab (List.mem_of_getElem? (i := 536) (by decide +kernel)) rfl
theorem t_537 : Cond.code yX6_mix cX6_mix 3 (some .long) ∈ gT := gT_tab (List.mem_of_getElem? (i := 537) (by decide +kernel)) rfl
theorem t_538 : Cond.constantLong RX6 204 (31) ∈ gT := gT_tab (List.mem_of_getElem? (i := 538) (by decide +kernel)) rfl
theorem t_539 : Cond.methodLink RX6 182 yX6_edge ∈ gT := gT_tab (List.mem_of_getElem? (i := 539) (by decide +kernel)) rfl
theorem t_540 : Cond.methodLink RX6 185 yX6_kind ∈ gT := gT_tab (List.mem_of_getElem? (i := 540) (by decide +kernel)) rfl
theorem t_541 : Cond.methodLink RX6 188 yX6_fewest ∈ gT := gT_tab (List.mem_of_getElem? (i := 541) (by decide +kernel)) rfl
theorem t_542 : Cond.methodLink RX6 191 yX6_kinds ∈ gT := gT_tab (List.mem_of_getElem? (i := 542) (by decide +kernel)) rfl
theorem t_543 : Cond.methodLink RX6 194 yX6_light ∈ gT := gT_tab (List.mem_of_getElem? (i := 543) (by decide +kernel)) rfl
theorem t_544 : Cond.methodLink RX6 201 yX6_count ∈ gT := gT_tab (List.mem_of_getElem? (i := 544) (by decide +kernel)) rfl
theorem t_545 : Cond.classLink RL 10 RX7 ∈ gT := gT_tab (List.mem_of_getElem? (i := 545) (by decide +kernel)) rfl
theorem t_546 : Cond.instantiable RX7 27 ∈ gT := gT_tab (List.mem_of_getElem? (i := 546) (by decide +kernel)) rfl
theorem t_547 : Cond.methodLink RL 12 yX7_init ∈ gT := gT_tab (List.mem_of_getElem? (i := 547) (by decide +kernel)) rfl
theorem t_548 : Cond.instanceMethod yX7_init ∈ gT := gT_tab (List.mem_of_getElem? (i := 548) (by decide +kernel)) rfl
theorem t_549 : Cond.code yX7_init cX7_init 1 none ∈ gT := gT_tab (List.mem_of_getElem? (i := 549) (by decide +kernel)) rfl
theorem t_550 : Cond.methodLink RX7 1 objectInit ∈ gT := gT_tab (List.mem_of_getElem? (i := 550) (by decide +kernel)) rfl
theorem t_551 : Cond.fieldLink RX7 54 "GrownGraphsModel" "pageLength" "I" ∈ gT := gT_tab (List.mem_of_getElem? (i := 551) (by decide +kernel)) rfl
theorem t_552 : Cond.fieldLink RX7 7 "GrownGraphsModel" "page" "[I" ∈ gT := gT_tab (List.mem_of_getElem? (i := 552) (by decide +kernel)) rfl
theorem t_553 : Cond.fieldLink RX7 94 "GrownGraphsModel" "rules" "I" ∈ gT := gT_tab (List.mem_of_getElem? (i := 553) (by decide +kernel)) rfl
theorem t_554 : Cond.fieldLink RX7 13 "GrownGraphsModel" "ruleOf" "[I" ∈ gT := gT_tab (List.mem_of_getElem? (i := 554) (by decide +kernel)) rfl
theorem t_555 : Cond.fieldLink RX7 16 "GrownGraphsModel" "ruleEdges" "[I" ∈ gT := gT_tab (List.mem_of_getElem? (i := 555) (by decide +kernel)) rfl
theorem t_556 : Cond.fieldLink RX7 19 "GrownGraphsModel" "ruleNodes" "[I" ∈ gT := gT_tab (List.mem_of_getElem? (i := 556) (by decide +kernel)) rfl
theorem t_557 : Cond.fieldLink RX7 22 "GrownGraphsModel" "ruleEdge" "[I" ∈ gT := gT_tab (List.mem_of_getElem? (i := 557) (by decide +kernel)) rfl
theorem t_558 : Cond.fieldLink RX7 108 "GrownGraphsModel" "edges" "I" ∈ gT := gT_tab (List.mem_of_getElem? (i := 558) (by decide +kernel)) rfl
theorem t_559 : Cond.fieldLink RX7 111 "GrownGraphsModel" "nodes" "I" ∈ gT := gT_tab (List.mem_of_getElem? (i := 559) (by decide +kernel)) rfl
theorem t_560 : Cond.fieldLink RX7 25 "GrownGraphsModel" "edgeAt" "[I" ∈ gT := gT_tab (List.mem_of_getElem? (i := 560) (by decide +kernel)) rfl
theorem t_561 : Cond.fieldLink RX7 114 "GrownGraphsModel" "steps" "I" ∈ gT := gT_tab (List.mem_of_getElem? (i := 561) (by decide +kernel)) rfl
theorem t_562 : Cond.fieldLink RX7 139 "GrownGraphsModel" "stepsEver" "I" ∈ gT := gT_tab (List.mem_of_getElem? (i := 562) (by decide +kernel)) rfl
theorem t_563 : Cond.fieldLink RX7 117 "GrownGraphsModel" "begun" "I" ∈ gT := gT_tab (List.mem_of_getElem? (i := 563) (by decide +kernel)) rfl
theorem t_564 : Cond.fieldLink RX7 68 "GrownGraphsModel" "newMany" "I" ∈ gT := gT_tab (List.mem_of_getElem? (i := 564) (by decide +kernel)) rfl
theorem t_565 : Cond.fieldLink RX7 28 "GrownGraphsModel" "newEdge" "[I" ∈ gT := gT_tab (List.mem_of_getElem? (i := 565) (by decide +kernel)) rfl
theorem t_566 : Cond.fieldLink RX7 71 "GrownGraphsModel" "newNodes" "I" ∈ gT := gT_tab (List.mem_of_getElem? (i := 566) (by decide +kernel)) rfl
theorem t_567 : Cond.fieldLink RX7 58 "GrownGraphsModel" "newStage" "I" ∈ gT := gT_tab (List.mem_of_getElem? (i := 567) (by decide +kernel)) rfl
theorem t_568 : Cond.fieldLink RX7 65 "GrownGraphsModel" "newNow" "I" ∈ gT := gT_tab (List.mem_of_getElem? (i := 568) (by decide +kernel)) rfl
theorem t_569 : Cond.fieldLink RX7 159 "GrownGraphsModel" "isLaid" "Z" ∈ gT := gT_tab (List.mem_of_getElem? (i := 569) (by decide +kernel)) rfl
theorem t_570 : Cond.fieldLink RX7 31 "GrownGraphsModel" "fewestAt" "[I" ∈ gT := gT_tab (List.mem_of_getElem? (i := 570) (by decide +kernel)) rfl
theorem t_571 : Cond.fieldLink RX7 34 "GrownGraphsModel" "nodesOf" "[I" ∈ gT := gT_tab (List.mem_of_getElem? (i := 571) (by decide +kernel)) rfl
theorem t_572 : Cond.fieldLink RX7 37 "GrownGraphsModel" "nodeAt" "[I" ∈ gT := gT_tab (List.mem_of_getElem? (i := 572) (by decide +kernel)) rfl
theorem t_573 : Cond.fieldLink RX7 163 "GrownGraphsModel" "isLightLaid" "Z" ∈ gT := gT_tab (List.mem_of_getElem? (i := 573) (by decide +kernel)) rfl
theorem t_574 : Cond.fieldLink RX7 40 "GrownGraphsModel" "lightAt" "[J" ∈ gT := gT_tab (List.mem_of_getElem? (i := 574) (by decide +kernel)) rfl
theorem t_575 : Cond.fieldLink RX7 44 "GrownGraphsModel" "firstAt" "[I" ∈ gT := gT_tab (List.mem_of_getElem? (i := 575) (by decide +kernel)) rfl
theorem t_576 : Cond.fieldLink RX7 47 "GrownGraphsModel" "classNow" "[I" ∈ gT := gT_tab (List.mem_of_getElem? (i := 576) (by decide +kernel)) rfl
theorem t_577 : Cond.fieldLink RX7 243 "GrownGraphsModel" "h" "J" ∈ gT := gT_tab (List.mem_of_getElem? (i := 577) (by decide +kernel)) rfl
theorem t_633 : Cond.methodLink RL 17 yX7_letter ∈ gT := gT_tab (List.mem_of_getElem? (i := 633) (by decide +kernel)) rfl
theorem t_634 : Cond.instanceMethod yX7_letter ∈ gT := gT_tab (List.mem_of_getElem? (i := 634) (by decide +kernel)) rfl
theorem t_635 : Cond.selects RX7 yX7_letter yX7_letter ∈ gT := gT_tab (List.mem_of_getElem? (i := 635) (by decide +kernel)) rfl
theorem t_636 : Cond.code yX7_letter cX7_letter 2 (some .int) ∈ gT := gT_tab (List.mem_of_getElem? (i := 636) (by decide +kernel)) rfl
theorem t_637 : Cond.methodLink RX7 50 yX7_within ∈ gT := gT_tab (List.mem_of_getElem? (i := 637) (by decide +kernel)) rfl
theorem t_638 : Cond.static yX7_within ∈ gT := gT_tab (List.mem_of_getElem? (i := 638) (by decide +kernel)) rfl
theorem t_639 : Cond.code yX7_within cX7_within 3 (some .boolean) ∈ gT := gT_tab (List.mem_of_getElem? (i := 639) (by decide +kernel)) rfl
theorem t_640 : Cond.methodLink RL 22 yX7_blank ∈ gT := gT_tab (List.mem_of_getElem? (i := 640) (by decide +kernel)) rfl
theorem t_641 : Cond.instanceMethod yX7_blank ∈ gT := gT_tab (List.mem_of_getElem? (i := 641) (by decide +kernel)) rfl
theorem t_642 : Cond.selects RX7 yX7_blank yX7_blank ∈ gT := gT_tab (List.mem_of_getElem? (i := 642) (by decide +kernel)) rfl
theorem t_643 : Cond.code yX7_blank cX7_blank 2 (some .int) ∈ gT := gT_tab (List.mem_of_getElem? (i := 643) (by decide +kernel)) rfl
theorem t_644 : Cond.methodLink RL 27 yX7_fault ∈ gT := gT_tab (List.mem_of_getElem? (i := 644) (by decide +kernel)) rfl
theorem t_645 : Cond.instanceMethod yX7_fault ∈ gT := gT_tab (List.mem_of_getElem? (i := 645) (by decide +kernel)) rfl
theorem t_646 : Cond.selects RX7 yX7_fault yX7_fault ∈ gT := gT_tab (List.mem_of_getElem? (i := 646) (by decide +kernel)) rfl
theorem t_647 : Cond.code yX7_fault cX7_fault 2 (some .int) ∈ gT := gT_tab (List.mem_of_getElem? (i := 647) (by decide +kernel)) rfl
theorem t_648 : Cond.methodLink RX7 82 yX7_read ∈ gT := gT_tab (List.mem_of_getElem? (i := 648) (by decide +kernel)) rfl
theorem t_650 : Cond.instanceMethod yX7_read ∈ gT := gT_tab (List.mem_of_getElem? (i := 650) (by decide +kernel)) rfl
theorem t_651 : Cond.code yX7_read cX7_read 3 (some .int) ∈ gT := gT_tab (List.mem_of_getElem? (i := 651) (by decide +kernel)) rfl
theorem t_652 : Cond.methodLink RX7 78 yX7_takes ∈ gT := gT_tab (List.mem_of_getElem? (i := 652) (by decide +kernel)) rfl
theorem t_654 : Cond.instanceMethod yX7_takes ∈ gT := gT_tab (List.mem_of_getElem? (i := 654) (by decide +kernel)) rfl
theorem t_655 : Cond.code yX7_takes cX7_takes 4 (some .boolean) ∈ gT := gT_tab (List.mem_of_getElem? (i := 655) (by decide +kernel)) rfl
theorem t_656 : Cond.methodLink RX7 74 yX7_takesEdge ∈ gT := gT_tab (List.mem_of_getElem? (i := 656) (by decide +kernel)) rfl
theorem t_658 : Cond.instanceMethod yX7_takesEdge ∈ gT := gT_tab (List.mem_of_getElem? (i := 658) (by decide +kernel)) rfl
theorem t_659 : Cond.code yX7_takesEdge cX7_takesEdge 4 (some .boolean) ∈ gT := gT_tab (List.mem_of_getElem? (i := 659) (by decide +kernel)) rfl
theorem t_660 : Cond.methodLink RX7 61 yX7_letterAt ∈ gT := gT_tab (List.mem_of_getElem? (i := 660) (by decide +kernel)) rfl
theorem t_661 : Cond.static yX7_letterAt ∈ gT := gT_tab (List.mem_of_getElem? (i := 661) (by decide +kernel)) rfl
theorem t_662 : Cond.code yX7_letterAt cX7_letterAt 2 (some .int) ∈ gT := gT_tab (List.mem_of_getElem? (i := 662) (by decide +kernel)) rfl
theorem t_663 : Cond.methodLink RL 31 yX7_rule ∈ gT := gT_tab (List.mem_of_getElem? (i := 663) (by decide +kernel)) rfl
theorem t_664 : Cond.instanceMethod yX7_rule ∈ gT := gT_tab (List.mem_of_getElem? (i := 664) (by decide +kernel)) rfl
theorem t_665 : Cond.selects RX7 yX7_rule yX7_rule ∈ gT := gT_tab (List.mem_of_getElem? (i := 665) (by decide +kernel)) rfl
theorem t_666 : Cond.code yX7_rule cX7_rule 3 (some .int) ∈ gT := gT_tab (List.mem_of_getElem? (i := 666) (by decide +kernel)) rfl
theorem t_667 : Cond.methodLink RX7 86 yX7_isWhole ∈ gT := gT_tab (List.mem_of_getElem? (i := 667) (by decide +kernel)) rfl
theorem t_669 : Cond.instanceMethod yX7_isWhole ∈ gT := gT_tab (List.mem_of_getElem? (i := 669) (by decide +kernel)) rfl
theorem t_670 : Cond.code yX7_isWhole cX7_isWhole 2 (some .boolean) ∈ gT := gT_tab (List.mem_of_getElem? (i := 670) (by decide +kernel)) rfl
theorem t_671 : Cond.methodLink RX7 90 yX7_has ∈ gT := gT_tab (List.mem_of_getElem? (i := 671) (by decide +kernel)) rfl
theorem t_672 : Cond.static yX7_has ∈ gT := gT_tab (List.mem_of_getElem? (i := 672) (by decide +kernel)) rfl
theorem t_673 : Cond.code yX7_has cX7_has 2 (some .boolean) ∈ gT := gT_tab (List.mem_of_getElem? (i := 673) (by decide +kernel)) rfl
theorem t_674 : Cond.methodLink RX7 97 yX7_above ∈ gT := gT_tab (List.mem_of_getElem? (i := 674) (by decide +kernel)) rfl
theorem t_675 : Cond.static yX7_above ∈ gT := gT_tab (List.mem_of_getElem? (i := 675) (by decide +kernel)) rfl
theorem t_676 : Cond.code yX7_above cX7_above 2 (some .int) ∈ gT := gT_tab (List.mem_of_getElem? (i := 676) (by decide +kernel)) rfl
theorem t_677 : Cond.methodLink RX7 101 yX7_altered ∈ gT := gT_tab (List.mem_of_getElem? (i := 677) (by decide +kernel)) rfl
theorem t_679 : Cond.instanceMethod yX7_altered ∈ gT := gT_tab (List.mem_of_getElem? (i := 679) (by decide +kernel)) rfl
theorem t_680 : Cond.code yX7_altered cX7_altered 1 none ∈ gT := gT_tab (List.mem_of_getElem? (i := 680) (by decide +kernel)) rfl
theorem t_681 : Cond.methodLink RL 35 yX7_drop ∈ gT := gT_tab (List.mem_of_getElem? (i := 681) (by decide +kernel)) rfl
theorem t_682 : Cond.instanceMethod yX7_drop ∈ gT := gT_tab (List.mem_of_getElem? (i := 682) (by decide +kernel)) rfl
theorem t_683 : Cond.selects RX7 yX7_drop yX7_drop ∈ gT := gT_tab (List.mem_of_getElem? (i := 683) (by decide +kernel)) rfl
theorem t_684 : Cond.code yX7_drop cX7_drop 4 (some .int) ∈ gT := gT_tab (List.mem_of_getElem? (i := 684) (by decide +kernel)) rfl
theorem t_685 : Cond.methodLink RX7 104 yX7_isRule ∈ gT := gT_tab (List.mem_of_getElem? (i := 685) (by decide +kernel)) rfl
theorem t_687 : Cond.instanceMethod yX7_isRule ∈ gT := gT_tab (List.mem_of_getElem? (i := 687) (by decide +kernel)) rfl
theorem t_688 : Cond.code yX7_isRule cX7_isRule 2 (some .boolean) ∈ gT := gT_tab (List.mem_of_getElem? (i := 688) (by decide +kernel)) rfl
theorem t_689 : Cond.methodLink RL 39 yX7_graph ∈ gT := gT_tab (List.mem_of_getElem? (i := 689) (by decide +kernel)) rfl
theorem t_690 : Cond.instanceMethod yX7_graph ∈ gT := gT_tab (List.mem_of_getElem? (i := 690) (by decide +kernel)) rfl
theorem t_691 : Cond.selects RX7 yX7_graph yX7_graph ∈ gT := gT_tab (List.mem_of_getElem? (i := 691) (by decide +kernel)) rfl
theorem t_692 : Cond.code yX7_graph cX7_graph 3 (some .int) ∈ gT := gT_tab (List.mem_of_getElem? (i := 692) (by decide +kernel)) rfl
theorem t_693 : Cond.methodLink RL 44 yX7_of ∈ gT := gT_tab (List.mem_of_getElem? (i := 693) (by decide +kernel)) rfl
theorem t_694 : Cond.instanceMethod yX7_of ∈ gT := gT_tab (List.mem_of_getElem? (i := 694) (by decide +kernel)) rfl
theorem t_695 : Cond.selects RX7 yX7_of yX7_of ∈ gT := gT_tab (List.mem_of_getElem? (i := 695) (by decide +kernel)) rfl
theorem t_696 : Cond.code yX7_of cX7_of 3 (some .int) ∈ gT := gT_tab (List.mem_of_getElem? (i := 696) (by decide +kernel)) rfl
theorem t_697 : Cond.methodLink RX7 120 yX7_ruleNow ∈ gT := gT_tab (List.mem_of_getElem? (i := 697) (by decide +kernel)) rfl
theorem t_699 : Cond.instanceMethod yX7_ruleNow ∈ gT := gT_tab (List.mem_of_getElem? (i := 699) (by decide +kernel)) rfl
theorem t_700 : Cond.code yX7_ruleNow cX7_ruleNow 3 (some .int) ∈ gT := gT_tab (List.mem_of_getElem? (i := 700) (by decide +kernel)) rfl
theorem t_701 : Cond.methodLink RL 48 yX7_begin ∈ gT := gT_tab (List.mem_of_getElem? (i := 701) (by decide +kernel)) rfl
theorem t_702 : Cond.instanceMethod yX7_begin ∈ gT := gT_tab (List.mem_of_getElem? (i := 702) (by decide +kernel)) rfl
theorem t_703 : Cond.selects RX7 yX7_begin yX7_begin ∈ gT := gT_tab (List.mem_of_getElem? (i := 703) (by decide +kernel)) rfl
theorem t_704 : Cond.code yX7_begin cX7_begin 2 (some .int) ∈ gT := gT_tab (List.mem_of_getElem? (i := 704) (by decide +kernel)) rfl
theorem t_705 : Cond.methodLink RL 52 yX7_step ∈ gT := gT_tab (List.mem_of_getElem? (i := 705) (by decide +kernel)) rfl
theorem t_706 : Cond.instanceMethod yX7_step ∈ gT := gT_tab (List.mem_of_getElem? (i := 706) (by decide +kernel)) rfl
theorem t_707 : Cond.selects RX7 yX7_step yX7_step ∈ gT := gT_tab (List.mem_of_getElem? (i := 707) (by decide +kernel)) rfl
theorem t_708 : Cond.code yX7_step cX7_step 7 (some .int) ∈ gT := gT_tab (List.mem_of_getElem? (i := 708) (by decide +kernel)) rfl
theorem t_709 : Cond.methodLink RX7 124 yX7_isEdge ∈ gT := gT_tab (List.mem_of_getElem? (i := 709) (by decide +kernel)) rfl
theorem t_711 : Cond.instanceMethod yX7_isEdge ∈ gT := gT_tab (List.mem_of_getElem? (i := 711) (by decide +kernel)) rfl
theorem t_712 : Cond.code yX7_isEdge cX7_isEdge 2 (some .boolean) ∈ gT := gT_tab (List.mem_of_getElem? (i := 712) (by decide +kernel)) rfl
theorem t_713 : Cond.methodLink RX7 127 yX7_letterOf ∈ gT := gT_tab (List.mem_of_getElem? (i := 713) (by decide +kernel)) rfl
theorem t_714 : Cond.static yX7_letterOf ∈ gT := gT_tab (List.mem_of_getElem? (i := 714) (by decide +kernel)) rfl
theorem t_715 : Cond.code yX7_letterOf cX7_letterOf 1 (some .int) ∈ gT := gT_tab (List.mem_of_getElem? (i := 715) (by decide +kernel)) rfl
theorem t_716 : Cond.methodLink RX7 130 yX7_fromOf ∈ gT := gT_tab (List.mem_of_getElem? (i := 716) (by decide +kernel)) rfl
theorem t_717 : Cond.static yX7_fromOf ∈ gT := gT_tab (List.mem_of_getElem? (i := 717) (by decide +kernel)) rfl
theorem t_718 : Cond.code yX7_fromOf cX7_fromOf 1 (some .int) ∈ gT := gT_tab (List.mem_of_getElem? (i := 718) (by decide +kernel)) rfl
theorem t_719 : Cond.methodLink RX7 133 yX7_nodeFor ∈ gT := gT_tab (List.mem_of_getElem? (i := 719) (by decide +kernel)) rfl
theorem t_721 : Cond.instanceMethod yX7_nodeFor ∈ gT := gT_tab (List.mem_of_getElem? (i := 721) (by decide +kernel)) rfl
theorem t_722 : Cond.code yX7_nodeFor cX7_nodeFor 3 (some .int) ∈ gT := gT_tab (List.mem_of_getElem? (i := 722) (by decide +kernel)) rfl
theorem t_723 : Cond.methodLink RX7 136 yX7_toOf ∈ gT := gT_tab (List.mem_of_getElem? (i := 723) (by decide +kernel)) rfl
theorem t_724 : Cond.static yX7_toOf ∈ gT := gT_tab (List.mem_of_getElem? (i := 724) (by decide +kernel)) rfl
theorem t_725 : Cond.code yX7_toOf cX7_toOf 1 (some .int) ∈ gT := gT_tab (List.mem_of_getElem? (i := 725) (by decide +kernel)) rfl
theorem t_726 : Cond.methodLink RL 56 yX7_edge ∈ gT := gT_tab (List.mem_of_getElem? (i := 726) (by decide +kernel)) rfl
theorem t_727 : Cond.instanceMethod yX7_edge ∈ gT := gT_tab (List.mem_of_getElem? (i := 727) (by decide +kernel)) rfl
theorem t_728 : Cond.selects RX7 yX7_edge yX7_edge ∈ gT := gT_tab (List.mem_of_getElem? (i := 728) (by decide +kernel)) rfl
theorem t_729 : Cond.code yX7_edge cX7_edge 2 (some .int) ∈ gT := gT_tab (List.mem_of_getElem? (i := 729) (by decide +kernel)) rfl
theorem t_730 : Cond.methodLink RL 60 yX7_kind ∈ gT := gT_tab (List.mem_of_getElem? (i := 730) (by decide +kernel)) rfl
theorem t_731 : Cond.instanceMethod yX7_kind ∈ gT := gT_tab (List.mem_of_getElem? (i := 731) (by decide +kernel)) rfl
theorem t_732 : Cond.selects RX7 yX7_kind yX7_kind ∈ gT := gT_tab (List.mem_of_getElem? (i := 732) (by decide +kernel)) rfl
theorem t_733 : Cond.code yX7_kind cX7_kind 1 (some .int) ∈ gT := gT_tab (List.mem_of_getElem? (i := 733) (by decide +kernel)) rfl
theorem t_734 : Cond.methodLink RX7 152 yX7_isDone ∈ gT := gT_tab (List.mem_of_getElem? (i := 734) (by decide +kernel)) rfl
theorem t_736 : Cond.instanceMethod yX7_isDone ∈ gT := gT_tab (List.mem_of_getElem? (i := 736) (by decide +kernel)) rfl
theorem t_737 : Cond.code yX7_isDone cX7_isDone 1 (some .boolean) ∈ gT := gT_tab (List.mem_of_getElem? (i := 737) (by decide +kernel)) rfl
theorem t_738 : Cond.methodLink RX7 149 yX7_opens ∈ gT := gT_tab (List.mem_of_getElem? (i := 738) (by decide +kernel)) rfl
theorem t_740 : Cond.instanceMethod yX7_opens ∈ gT := gT_tab (List.mem_of_getElem? (i := 740) (by decide +kernel)) rfl
theorem t_741 : Cond.code yX7_opens cX7_opens 3 (some .int) ∈ gT := gT_tab (List.mem_of_getElem? (i := 741) (by decide +kernel)) rfl
theorem t_742 : Cond.methodLink RX7 156 yX7_kindNow ∈ gT := gT_tab (List.mem_of_getElem? (i := 742) (by decide +kernel)) rfl
theorem t_744 : Cond.instanceMethod yX7_kindNow ∈ gT := gT_tab (List.mem_of_getElem? (i := 744) (by decide +kernel)) rfl
theorem t_745 : Cond.code yX7_kindNow cX7_kindNow 1 (some .int) ∈ gT := gT_tab (List.mem_of_getElem? (i := 745) (by decide +kernel)) rfl
theorem t_746 : Cond.methodLink RX7 142 yX7_leadsTo ∈ gT := gT_tab (List.mem_of_getElem? (i := 746) (by decide +kernel)) rfl
theorem t_748 : Cond.instanceMethod yX7_leadsTo ∈ gT := gT_tab (List.mem_of_getElem? (i := 748) (by decide +kernel)) rfl
theorem t_749 : Cond.code yX7_leadsTo cX7_leadsTo 7 (some .boolean) ∈ gT := gT_tab (List.mem_of_getElem? (i := 749) (by decide +kernel)) rfl
theorem t_750 : Cond.methodLink RX7 145 yX7_coloured ∈ gT := gT_tab (List.mem_of_getElem? (i := 750) (by decide +kernel)) rfl
theorem t_752 : Cond.instanceMethod yX7_coloured ∈ gT := gT_tab (List.mem_of_getElem? (i := 752) (by decide +kernel)) rfl
theorem t_753 : Cond.code yX7_coloured cX7_coloured 6 (some .int) ∈ gT := gT_tab (List.mem_of_getElem? (i := 753) (by decide +kernel)) rfl
theorem t_754 : Cond.methodLink RL 64 yX7_fewest ∈ gT := gT_tab (List.mem_of_getElem? (i := 754) (by decide +kernel)) rfl
theorem t_755 : Cond.instanceMethod yX7_fewest ∈ gT := gT_tab (List.mem_of_getElem? (i := 755) (by decide +kernel)) rfl
theorem t_756 : Cond.selects RX7 yX7_fewest yX7_fewest ∈ gT := gT_tab (List.mem_of_getElem? (i := 756) (by decide +kernel)) rfl
theorem t_757 : Cond.code yX7_fewest cX7_fewest 2 (some .int) ∈ gT := gT_tab (List.mem_of_getElem? (i := 757) (by decide +kernel)) rfl
theorem t_758 : Cond.methodLink RX7 207 yX7_fewestNow ∈ gT := gT_tab (List.mem_of_getElem? (i := 758) (by decide +kernel)) rfl
theorem t_760 : Cond.instanceMethod yX7_fewestNow ∈ gT := gT_tab (List.mem_of_getElem? (i := 760) (by decide +kernel)) rfl
theorem t_761 : Cond.code yX7_fewestNow cX7_fewestNow 3 (some .int) ∈ gT := gT_tab (List.mem_of_getElem? (i := 761) (by decide +kernel)) rfl
theorem t_762 : Cond.methodLink RX7 204 yX7_layFewest ∈ gT := gT_tab (List.mem_of_getElem? (i := 762) (by decide +kernel)) rfl
theorem t_764 : Cond.instanceMethod yX7_layFewest ∈ gT := gT_tab (List.mem_of_getElem? (i := 764) (by decide +kernel)) rfl
theorem t_765 : Cond.code yX7_layFewest cX7_layFewest 3 none ∈ gT := gT_tab (List.mem_of_getElem? (i := 765) (by decide +kernel)) rfl
theorem t_766 : Cond.methodLink RX7 197 yX7_ones ∈ gT := gT_tab (List.mem_of_getElem? (i := 766) (by decide +kernel)) rfl
theorem t_767 : Cond.static yX7_ones ∈ gT := gT_tab (List.mem_of_getElem? (i := 767) (by decide +kernel)) rfl
theorem t_768 : Cond.code yX7_ones cX7_ones 3 (some .int) ∈ gT := gT_tab (List.mem_of_getElem? (i := 768) (by decide +kernel)) rfl
theorem t_769 : Cond.methodLink RX7 200 yX7_laySet ∈ gT := gT_tab (List.mem_of_getElem? (i := 769) (by decide +kernel)) rfl
theorem t_771 : Cond.instanceMethod yX7_laySet ∈ gT := gT_tab (List.mem_of_getElem? (i := 771) (by decide +kernel)) rfl
theorem t_772 : Cond.code yX7_laySet cX7_laySet 5 none ∈ gT := gT_tab (List.mem_of_getElem? (i := 772) (by decide +kernel)) rfl
theorem t_773 : Cond.methodLink RX7 187 yX7_layEnds ∈ gT := gT_tab (List.mem_of_getElem? (i := 773) (by decide +kernel)) rfl
theorem t_775 : Cond.instanceMethod yX7_layEnds ∈ gT := gT_tab (List.mem_of_getElem? (i := 775) (by decide +kernel)) rfl
theorem t_776 : Cond.code yX7_layEnds cX7_layEnds 7 none ∈ gT := gT_tab (List.mem_of_getElem? (i := 776) (by decide +kernel)) rfl
theorem t_777 : Cond.methodLink RX7 166 yX7_at ∈ gT := gT_tab (List.mem_of_getElem? (i := 777) (by decide +kernel)) rfl
theorem t_779 : Cond.instanceMethod yX7_at ∈ gT := gT_tab (List.mem_of_getElem? (i := 779) (by decide +kernel)) rfl
theorem t_780 : Cond.code yX7_at cX7_at 5 (some .int) ∈ gT := gT_tab (List.mem_of_getElem? (i := 780) (by decide +kernel)) rfl
theorem t_781 : Cond.constant RX7 170 (1000000) ∈ gT := gT_tab (List.mem_of_getElem? (i := 781) (by decide +kernel)) rfl
theorem t_782 : Cond.methodLink RX7 194 yX7_byInner ∈ gT := gT_tab (List.mem_of_getElem? (i := 782) (by decide +kernel)) rfl
theorem t_784 : Cond.instanceMethod yX7_byInner ∈ gT := gT_tab (List.mem_of_getElem? (i := 784) (by decide +kernel)) rfl
theorem t_785 : Cond.code yX7_byInner cX7_byInner 8 (some .int) ∈ gT := gT_tab (List.mem_of_getElem? (i := 785) (by decide +kernel)) rfl
theorem t_786 : Cond.methodLink RX7 181 yX7_areUnlike ∈ gT := gT_tab (List.mem_of_getElem? (i := 786) (by decide +kernel)) rfl
theorem t_788 : Cond.instanceMethod yX7_areUnlike ∈ gT := gT_tab (List.mem_of_getElem? (i := 788) (by decide +kernel)) rfl
theorem t_789 : Cond.code yX7_areUnlike cX7_areUnlike 5 (some .boolean) ∈ gT := gT_tab (List.mem_of_getElem? (i := 789) (by decide +kernel)) rfl
theorem t_790 : Cond.methodLink RX7 184 yX7_bySplits ∈ gT := gT_tab (List.mem_of_getElem? (i := 790) (by decide +kernel)) rfl
theorem t_792 : Cond.instanceMethod yX7_bySplits ∈ gT := gT_tab (List.mem_of_getElem? (i := 792) (by decide +kernel)) rfl
theorem t_793 : Cond.code yX7_bySplits cX7_bySplits 14 (some .int) ∈ gT := gT_tab (List.mem_of_getElem? (i := 793) (by decide +kernel)) rfl
theorem t_794 : Cond.methodLink RX7 174 yX7_stepsFor ∈ gT := gT_tab (List.mem_of_getElem? (i := 794) (by decide +kernel)) rfl
theorem t_796 : Cond.instanceMethod yX7_stepsFor ∈ gT := gT_tab (List.mem_of_getElem? (i := 796) (by decide +kernel)) rfl
theorem t_797 : Cond.code yX7_stepsFor cX7_stepsFor 3 (some .int) ∈ gT := gT_tab (List.mem_of_getElem? (i := 797) (by decide +kernel)) rfl
theorem t_798 : Cond.methodLink RX7 171 yX7_stepsOf ∈ gT := gT_tab (List.mem_of_getElem? (i := 798) (by decide +kernel)) rfl
theorem t_800 : Cond.instanceMethod yX7_stepsOf ∈ gT := gT_tab (List.mem_of_getElem? (i := 800) (by decide +kernel)) rfl
theorem t_801 : Cond.code yX7_stepsOf cX7_stepsOf 7 (some .int) ∈ gT := gT_tab (List.mem_of_getElem? (i := 801) (by decide +kernel)) rfl
theorem t_802 : Cond.methodLink RX7 177 yX7_areApart ∈ gT := gT_tab (List.mem_of_getElem? (i := 802) (by decide +kernel)) rfl
theorem t_804 : Cond.instanceMethod yX7_areApart ∈ gT := gT_tab (List.mem_of_getElem? (i := 804) (by decide +kernel)) rfl
theorem t_805 : Cond.code yX7_areApart cX7_areApart 7 (some .boolean) ∈ gT := gT_tab (List.mem_of_getElem? (i := 805) (by decide +kernel)) rfl
theorem t_806 : Cond.methodLink RX7 191 yX7_laySingles ∈ gT := gT_tab (List.mem_of_getElem? (i := 806) (by decide +kernel)) rfl
theorem t_808 : Cond.instanceMethod yX7_laySingles ∈ gT := gT_tab (List.mem_of_getElem? (i := 808) (by decide +kernel)) rfl
theorem t_809 : Cond.code yX7_laySingles cX7_laySingles 8 (some .boolean) ∈ gT := gT_tab (List.mem_of_getElem? (i := 809) (by decide +kernel)) rfl
theorem t_810 : Cond.methodLink RL 68 yX7_kinds ∈ gT := gT_tab (List.mem_of_getElem? (i := 810) (by decide +kernel)) rfl
theorem t_811 : Cond.instanceMethod yX7_kinds ∈ gT := gT_tab (List.mem_of_getElem? (i := 811) (by decide +kernel)) rfl
theorem t_812 : Cond.selects RX7 yX7_kinds yX7_kinds ∈ gT := gT_tab (List.mem_of_getElem? (i := 812) (by decide +kernel)) rfl
theorem t_813 : Cond.code yX7_kinds cX7_kinds 2 (some .int) ∈ gT := gT_tab (List.mem_of_getElem? (i := 813) (by decide +kernel)) rfl
theorem t_814 : Cond.methodLink RX7 231 yX7_kindsNow ∈ gT := gT_tab (List.mem_of_getElem? (i := 814) (by decide +kernel)) rfl
theorem t_816 : Cond.instanceMethod yX7_kindsNow ∈ gT := gT_tab (List.mem_of_getElem? (i := 816) (by decide +kernel)) rfl
theorem t_817 : Cond.code yX7_kindsNow cX7_kindsNow 4 (some .int) ∈ gT := gT_tab (List.mem_of_getElem? (i := 817) (by decide +kernel)) rfl
theorem t_818 : Cond.methodLink RX7 228 yX7_layLights ∈ gT := gT_tab (List.mem_of_getElem? (i := 818) (by decide +kernel)) rfl
theorem t_820 : Cond.instanceMethod yX7_layLights ∈ gT := gT_tab (List.mem_of_getElem? (i := 820) (by decide +kernel)) rfl
theorem t_821 : Cond.code yX7_layLights cX7_layLights 3 none ∈ gT := gT_tab (List.mem_of_getElem? (i := 821) (by decide +kernel)) rfl
theorem t_822 : Cond.methodLink RX7 222 yX7_classOf ∈ gT := gT_tab (List.mem_of_getElem? (i := 822) (by decide +kernel)) rfl
theorem t_823 : Cond.static yX7_classOf ∈ gT := gT_tab (List.mem_of_getElem? (i := 823) (by decide +kernel)) rfl
theorem t_824 : Cond.code yX7_classOf cX7_classOf 1 (some .int) ∈ gT := gT_tab (List.mem_of_getElem? (i := 824) (by decide +kernel)) rfl
theorem t_825 : Cond.constantLong RX7 210 (1152921504606846976) ∈ gT := gT_tab (List.mem_of_getElem? (i := 825) (by decide +kernel)) rfl
theorem t_826 : Cond.methodLink RX7 225 yX7_layRule ∈ gT := gT_tab (List.mem_of_getElem? (i := 826) (by decide +kernel)) rfl
theorem t_828 : Cond.instanceMethod yX7_layRule ∈ gT := gT_tab (List.mem_of_getElem? (i := 828) (by decide +kernel)) rfl
theorem t_829 : Cond.code yX7_layRule cX7_layRule 9 (some .boolean) ∈ gT := gT_tab (List.mem_of_getElem? (i := 829) (by decide +kernel)) rfl
theorem t_830 : Cond.methodLink RX7 212 yX7_layLight ∈ gT := gT_tab (List.mem_of_getElem? (i := 830) (by decide +kernel)) rfl
theorem t_832 : Cond.instanceMethod yX7_layLight ∈ gT := gT_tab (List.mem_of_getElem? (i := 832) (by decide +kernel)) rfl
theorem t_833 : Cond.code yX7_layLight cX7_layLight 7 (some .boolean) ∈ gT := gT_tab (List.mem_of_getElem? (i := 833) (by decide +kernel)) rfl
theorem t_834 : Cond.methodLink RX7 216 yX7_leads ∈ gT := gT_tab (List.mem_of_getElem? (i := 834) (by decide +kernel)) rfl
theorem t_836 : Cond.instanceMethod yX7_leads ∈ gT := gT_tab (List.mem_of_getElem? (i := 836) (by decide +kernel)) rfl
theorem t_837 : Cond.code yX7_leads cX7_leads 7 (some .boolean) ∈ gT := gT_tab (List.mem_of_getElem? (i := 837) (by decide +kernel)) rfl
theorem t_838 : Cond.methodLink RX7 219 yX7_colouredBy ∈ gT := gT_tab (List.mem_of_getElem? (i := 838) (by decide +kernel)) rfl
theorem t_840 : Cond.instanceMethod yX7_colouredBy ∈ gT := gT_tab (List.mem_of_getElem? (i := 840) (by decide +kernel)) rfl
theorem t_841 : Cond.code yX7_colouredBy cX7_colouredBy 7 (some .int) ∈ gT := gT_tab (List.mem_of_getElem? (i := 841) (by decide +kernel)) rfl
theorem t_842 : Cond.methodLink RL 73 yX7_light ∈ gT := gT_tab (List.mem_of_getElem? (i := 842) (by decide +kernel)) rfl
theorem t_843 : Cond.instanceMethod yX7_light ∈ gT := gT_tab (List.mem_of_getElem? (i := 843) (by decide +kernel)) rfl
theorem t_844 : Cond.selects RX7 yX7_light yX7_light ∈ gT := gT_tab (List.mem_of_getElem? (i := 844) (by decide +kernel)) rfl
theorem t_845 : Cond.code yX7_light cX7_light 4 (some .int) ∈ gT := gT_tab (List.mem_of_getElem? (i := 845) (by decide +kernel)) rfl
theorem t_846 : Cond.methodLink RX7 234 yX7_lightNow ∈ gT := gT_tab (List.mem_of_getElem? (i := 846) (by decide +kernel)) rfl
theorem t_848 : Cond.instanceMethod yX7_lightNow ∈ gT := gT_tab (List.mem_of_getElem? (i := 848) (by decide +kernel)) rfl
theorem t_849 : Cond.code yX7_lightNow cX7_lightNow 5 (some .int) ∈ gT := gT_tab (List.mem_of_getElem? (i := 849) (by decide +kernel)) rfl
theorem t_850 : Cond.methodLink RL 77 yX7_count ∈ gT := gT_tab (List.mem_of_getElem? (i := 850) (by decide +kernel)) rfl
theorem t_851 : Cond.instanceMethod yX7_count ∈ gT := gT_tab (List.mem_of_getElem? (i := 851) (by decide +kernel)) rfl
theorem t_852 : Cond.selects RX7 yX7_count yX7_count ∈ gT := gT_tab (List.mem_of_getElem? (i := 852) (by decide +kernel)) rfl
theorem t_853 : Cond.code yX7_count cX7_count 2 (some .int) ∈ gT := gT_tab (List.mem_of_getElem? (i := 853) (by decide +kernel)) rfl
theorem t_854 : Cond.methodLink RX7 238 yX7_howMany ∈ gT := gT_tab (List.mem_of_getElem? (i := 854) (by decide +kernel)) rfl
theorem t_856 : Cond.instanceMethod yX7_howMany ∈ gT := gT_tab (List.mem_of_getElem? (i := 856) (by decide +kernel)) rfl
theorem t_857 : Cond.code yX7_howMany cX7_howMany 2 (some .int) ∈ gT := gT_tab (List.mem_of_getElem? (i := 857) (by decide +kernel)) rfl
theorem t_858 : Cond.methodLink RL 82 yX7_digest ∈ gT := gT_tab (List.mem_of_getElem? (i := 858) (by decide +kernel)) rfl
theorem t_859 : Cond.instanceMethod yX7_digest ∈ gT := gT_tab (List.mem_of_getElem? (i := 859) (by decide +kernel)) rfl
theorem t_860 : Cond.selects RX7 yX7_digest yX7_digest ∈ gT := gT_tab (List.mem_of_getElem? (i := 860) (by decide +kernel)) rfl
theorem t_861 : Cond.code yX7_digest cX7_digest 3 (some .long) ∈ gT := gT_tab (List.mem_of_getElem? (i := 861) (by decide +kernel)) rfl
theorem t_862 : Cond.constantLong RX7 251 (1709) ∈ gT := gT_tab (List.mem_of_getElem? (i := 862) (by decide +kernel)) rfl
theorem t_863 : Cond.methodLink RX7 247 yX7_mix ∈ gT := gT_tab (List.mem_of_getElem? (i := 863) (by decide +kernel)) rfl
theorem t_865 : Cond.instanceMethod yX7_mix ∈ gT := gT_tab (List.mem_of_getElem? (i := 865) (by decide +kernel)) rfl
theorem t_866 : Cond.code yX7_mix cX7_mix 3 none ∈ gT := gT_tab (List.mem_of_getElem? (i := 866) (by decide +kernel)) rfl
theorem t_867 : Cond.constantLong RX7 241 (31) ∈ gT := gT_tab (List.mem_of_getElem? (i := 867) (by decide +kernel)) rfl
theorem t_868 : Cond.constantLong RX7 253 (-1003) ∈ gT := gT_tab (List.mem_of_getElem? (i := 868) (by decide +kernel)) rfl
theorem t_869 : Cond.methodLink RX7 255 yX7_mixOpen ∈ gT := gT_tab (List.mem_of_getElem? (i := 869) (by decide +kernel)) rfl
theorem t_871 : Cond.instanceMethod yX7_mixOpen ∈ gT := gT_tab (List.mem_of_getElem? (i := 871) (by decide +kernel)) rfl
theorem t_872 : Cond.code yX7_mixOpen cX7_mixOpen 3 none ∈ gT := gT_tab (List.mem_of_getElem? (i := 872) (by decide +kernel)) rfl
theorem ts_0 : Cond.selects RX3 yX3_fitsHead yX3_fitsHead ∈ gT := gT_sel (List.mem_of_getElem? (i := 0) (by decide +kernel)) rfl
theorem ts_1 : Cond.selects RX3 yX3_fitsEdge yX3_fitsEdge ∈ gT := gT_sel (List.mem_of_getElem? (i := 1) (by decide +kernel)) rfl
theorem ts_2 : Cond.selects RX3 yX3_isWhole yX3_isWhole ∈ gT := gT_sel (List.mem_of_getElem? (i := 2) (by decide +kernel)) rfl
theorem ts_3 : Cond.selects RX3 yX3_names yX3_names ∈ gT := gT_sel (List.mem_of_getElem? (i := 3) (by decide +kernel)) rfl
theorem ts_4 : Cond.selects RX3 yX3_namesNoGap yX3_namesNoGap ∈ gT := gT_sel (List.mem_of_getElem? (i := 4) (by decide +kernel)) rfl
theorem ts_5 : Cond.selects RX3 yX3_copyEdges yX3_copyEdges ∈ gT := gT_sel (List.mem_of_getElem? (i := 5) (by decide +kernel)) rfl
theorem ts_6 : Cond.selects RX0 yX0_put yX0_put ∈ gT := gT_sel (List.mem_of_getElem? (i := 6) (by decide +kernel)) rfl
theorem ts_7 : Cond.selects RX0 yX0_comes yX0_comes ∈ gT := gT_sel (List.mem_of_getElem? (i := 7) (by decide +kernel)) rfl
theorem ts_8 : Cond.selects RX0 yX0_allows yX0_allows ∈ gT := gT_sel (List.mem_of_getElem? (i := 8) (by decide +kernel)) rfl
theorem ts_9 : Cond.selects RX6 yX6_noteNewGraph yX6_noteNewGraph ∈ gT := gT_sel (List.mem_of_getElem? (i := 9) (by decide +kernel)) rfl
theorem ts_10 : Cond.selects RX0 yX0_nodeFor yX0_nodeFor ∈ gT := gT_sel (List.mem_of_getElem? (i := 10) (by decide +kernel)) rfl
theorem ts_11 : Cond.selects RX2 yX2_improve yX2_improve ∈ gT := gT_sel (List.mem_of_getElem? (i := 11) (by decide +kernel)) rfl
theorem ts_12 : Cond.selects RX0 yX0_nodesOf yX0_nodesOf ∈ gT := gT_sel (List.mem_of_getElem? (i := 12) (by decide +kernel)) rfl
theorem ts_13 : Cond.selects RX2 yX2_byRule yX2_byRule ∈ gT := gT_sel (List.mem_of_getElem? (i := 13) (by decide +kernel)) rfl
theorem ts_14 : Cond.selects RX2 yX2_standsApart yX2_standsApart ∈ gT := gT_sel (List.mem_of_getElem? (i := 14) (by decide +kernel)) rfl
theorem ts_15 : Cond.selects RX2 yX2_bySplit yX2_bySplit ∈ gT := gT_sel (List.mem_of_getElem? (i := 15) (by decide +kernel)) rfl
theorem ts_16 : Cond.selects RX2 yX2_bySlot yX2_bySlot ∈ gT := gT_sel (List.mem_of_getElem? (i := 16) (by decide +kernel)) rfl
theorem ts_17 : Cond.selects RX2 yX2_lower yX2_lower ∈ gT := gT_sel (List.mem_of_getElem? (i := 17) (by decide +kernel)) rfl
theorem ts_18 : Cond.selects RX6 yX6_bringLights yX6_bringLights ∈ gT := gT_sel (List.mem_of_getElem? (i := 18) (by decide +kernel)) rfl
theorem ts_19 : Cond.selects RX1 yX1_forget yX1_forget ∈ gT := gT_sel (List.mem_of_getElem? (i := 19) (by decide +kernel)) rfl
theorem ts_20 : Cond.selects RX1 yX1_offer yX1_offer ∈ gT := gT_sel (List.mem_of_getElem? (i := 20) (by decide +kernel)) rfl
theorem ts_21 : Cond.selects RX1 yX1_nearest yX1_nearest ∈ gT := gT_sel (List.mem_of_getElem? (i := 21) (by decide +kernel)) rfl
theorem ts_22 : Cond.selects RX1 yX1_settle yX1_settle ∈ gT := gT_sel (List.mem_of_getElem? (i := 22) (by decide +kernel)) rfl
theorem ts_23 : Cond.selects RX1 yX1_spread yX1_spread ∈ gT := gT_sel (List.mem_of_getElem? (i := 23) (by decide +kernel)) rfl
theorem ts_24 : Cond.selects RX1 yX1_combine yX1_combine ∈ gT := gT_sel (List.mem_of_getElem? (i := 24) (by decide +kernel)) rfl
theorem ts_25 : Cond.selects RX1 yX1_choices yX1_choices ∈ gT := gT_sel (List.mem_of_getElem? (i := 25) (by decide +kernel)) rfl
theorem ts_26 : Cond.selects RX1 yX1_settledKind yX1_settledKind ∈ gT := gT_sel (List.mem_of_getElem? (i := 26) (by decide +kernel)) rfl
theorem ts_27 : Cond.selects RX1 yX1_stepsIn yX1_stepsIn ∈ gT := gT_sel (List.mem_of_getElem? (i := 27) (by decide +kernel)) rfl
theorem ts_28 : Cond.selects RX7 yX7_read yX7_read ∈ gT := gT_sel (List.mem_of_getElem? (i := 28) (by decide +kernel)) rfl
theorem ts_29 : Cond.selects RX7 yX7_takes yX7_takes ∈ gT := gT_sel (List.mem_of_getElem? (i := 29) (by decide +kernel)) rfl
theorem ts_30 : Cond.selects RX7 yX7_takesEdge yX7_takesEdge ∈ gT := gT_sel (List.mem_of_getElem? (i := 30) (by decide +kernel)) rfl
theorem ts_31 : Cond.selects RX7 yX7_isWhole yX7_isWhole ∈ gT := gT_sel (List.mem_of_getElem? (i := 31) (by decide +kernel)) rfl
theorem ts_32 : Cond.selects RX7 yX7_altered yX7_altered ∈ gT := gT_sel (List.mem_of_getElem? (i := 32) (by decide +kernel)) rfl
theorem ts_33 : Cond.selects RX7 yX7_isRule yX7_isRule ∈ gT := gT_sel (List.mem_of_getElem? (i := 33) (by decide +kernel)) rfl
theorem ts_34 : Cond.selects RX7 yX7_ruleNow yX7_ruleNow ∈ gT := gT_sel (List.mem_of_getElem? (i := 34) (by decide +kernel)) rfl
theorem ts_35 : Cond.selects RX7 yX7_isEdge yX7_isEdge ∈ gT := gT_sel (List.mem_of_getElem? (i := 35) (by decide +kernel)) rfl
theorem ts_36 : Cond.selects RX7 yX7_nodeFor yX7_nodeFor ∈ gT := gT_sel (List.mem_of_getElem? (i := 36) (by decide +kernel)) rfl
theorem ts_37 : Cond.selects RX7 yX7_isDone yX7_isDone ∈ gT := gT_sel (List.mem_of_getElem? (i := 37) (by decide +kernel)) rfl
theorem ts_38 : Cond.selects RX7 yX7_opens yX7_opens ∈ gT := gT_sel (List.mem_of_getElem? (i := 38) (by decide +kernel)) rfl
theorem ts_39 : Cond.selects RX7 yX7_kindNow yX7_kindNow ∈ gT := gT_sel (List.mem_of_getElem? (i := 39) (by decide +kernel)) rfl
theorem ts_40 : Cond.selects RX7 yX7_leadsTo yX7_leadsTo ∈ gT := gT_sel (List.mem_of_getElem? (i := 40) (by decide +kernel)) rfl
theorem ts_41 : Cond.selects RX7 yX7_coloured yX7_coloured ∈ gT := gT_sel (List.mem_of_getElem? (i := 41) (by decide +kernel)) rfl
theorem ts_42 : Cond.selects RX7 yX7_fewestNow yX7_fewestNow ∈ gT := gT_sel (List.mem_of_getElem? (i := 42) (by decide +kernel)) rfl
theorem ts_43 : Cond.selects RX7 yX7_layFewest yX7_layFewest ∈ gT := gT_sel (List.mem_of_getElem? (i := 43) (by decide +kernel)) rfl
theorem ts_44 : Cond.selects RX7 yX7_laySet yX7_laySet ∈ gT := gT_sel (List.mem_of_getElem? (i := 44) (by decide +kernel)) rfl
theorem ts_45 : Cond.selects RX7 yX7_layEnds yX7_layEnds ∈ gT := gT_sel (List.mem_of_getElem? (i := 45) (by decide +kernel)) rfl
theorem ts_46 : Cond.selects RX7 yX7_at yX7_at ∈ gT := gT_sel (List.mem_of_getElem? (i := 46) (by decide +kernel)) rfl
theorem ts_47 : Cond.selects RX7 yX7_byInner yX7_byInner ∈ gT := gT_sel (List.mem_of_getElem? (i := 47) (by decide +kernel)) rfl
theorem ts_48 : Cond.selects RX7 yX7_areUnlike yX7_areUnlike ∈ gT := gT_sel (List.mem_of_getElem? (i := 48) (by decide +kernel)) rfl
theorem ts_49 : Cond.selects RX7 yX7_bySplits yX7_bySplits ∈ gT := gT_sel (List.mem_of_getElem? (i := 49) (by decide +kernel)) rfl
theorem ts_50 : Cond.selects RX7 yX7_stepsFor yX7_stepsFor ∈ gT := gT_sel (List.mem_of_getElem? (i := 50) (by decide +kernel)) rfl
theorem ts_51 : Cond.selects RX7 yX7_stepsOf yX7_stepsOf ∈ gT := gT_sel (List.mem_of_getElem? (i := 51) (by decide +kernel)) rfl
theorem ts_52 : Cond.selects RX7 yX7_areApart yX7_areApart ∈ gT := gT_sel (List.mem_of_getElem? (i := 52) (by decide +kernel)) rfl
theorem ts_53 : Cond.selects RX7 yX7_laySingles yX7_laySingles ∈ gT := gT_sel (List.mem_of_getElem? (i := 53) (by decide +kernel)) rfl
theorem ts_54 : Cond.selects RX7 yX7_kindsNow yX7_kindsNow ∈ gT := gT_sel (List.mem_of_getElem? (i := 54) (by decide +kernel)) rfl
theorem ts_55 : Cond.selects RX7 yX7_layLights yX7_layLights ∈ gT := gT_sel (List.mem_of_getElem? (i := 55) (by decide +kernel)) rfl
theorem ts_56 : Cond.selects RX7 yX7_layRule yX7_layRule ∈ gT := gT_sel (List.mem_of_getElem? (i := 56) (by decide +kernel)) rfl
theorem ts_57 : Cond.selects RX7 yX7_layLight yX7_layLight ∈ gT := gT_sel (List.mem_of_getElem? (i := 57) (by decide +kernel)) rfl
theorem ts_58 : Cond.selects RX7 yX7_leads yX7_leads ∈ gT := gT_sel (List.mem_of_getElem? (i := 58) (by decide +kernel)) rfl
theorem ts_59 : Cond.selects RX7 yX7_colouredBy yX7_colouredBy ∈ gT := gT_sel (List.mem_of_getElem? (i := 59) (by decide +kernel)) rfl
theorem ts_60 : Cond.selects RX7 yX7_lightNow yX7_lightNow ∈ gT := gT_sel (List.mem_of_getElem? (i := 60) (by decide +kernel)) rfl
theorem ts_61 : Cond.selects RX7 yX7_howMany yX7_howMany ∈ gT := gT_sel (List.mem_of_getElem? (i := 61) (by decide +kernel)) rfl
theorem ts_62 : Cond.selects RX7 yX7_mix yX7_mix ∈ gT := gT_sel (List.mem_of_getElem? (i := 62) (by decide +kernel)) rfl
theorem ts_63 : Cond.selects RX7 yX7_mixOpen yX7_mixOpen ∈ gT := gT_sel (List.mem_of_getElem? (i := 63) (by decide +kernel)) rfl
theorem iT_X0 : ∀ w ∈ wsX00, w ∈ gT := fun w h => by
  have hp : wsX00 = ([68, 70, 72, 74, 76] : List Nat).filterMap (fun i => tables_1[i]?) := by decide +kernel
  have hg : wsX00.all goodWord = true := by decide +kernel
  have h2 := h
  rw [hp] at h2
  obtain ⟨i, -, hi⟩ := List.mem_filterMap.mp h2
  exact gT_tab (List.mem_of_getElem? hi) (List.all_eq_true.mp hg w h)
theorem iT_X1 : ∀ w ∈ wsX10, w ∈ gT := fun w h => by
  have hp : wsX10 = ([141, 143, 145, 147, 149] : List Nat).filterMap (fun i => tables_1[i]?) := by decide +kernel
  have hg : wsX10.all goodWord = true := by decide +kernel
  have h2 := h
  rw [hp] at h2
  obtain ⟨i, -, hi⟩ := List.mem_filterMap.mp h2
  exact gT_tab (List.mem_of_getElem? hi) (List.all_eq_true.mp hg w h)
theorem iT_X2 : ∀ w ∈ wsX20, w ∈ gT := fun w h => by
  have hp : wsX20 = ([125, 127] : List Nat).filterMap (fun i => tables_1[i]?) := by decide +kernel
  have hg : wsX20.all goodWord = true := by decide +kernel
  have h2 := h
  rw [hp] at h2
  obtain ⟨i, -, hi⟩ := List.mem_filterMap.mp h2
  exact gT_tab (List.mem_of_getElem? hi) (List.all_eq_true.mp hg w h)
theorem iT_X3 : ∀ w ∈ wsX30, w ∈ gT := fun w h => by
  have hp : wsX30 = ([30, 32] : List Nat).filterMap (fun i => tables_1[i]?) := by decide +kernel
  have hg : wsX30.all goodWord = true := by decide +kernel
  have h2 := h
  rw [hp] at h2
  obtain ⟨i, -, hi⟩ := List.mem_filterMap.mp h2
  exact gT_tab (List.mem_of_getElem? hi) (List.all_eq_true.mp hg w h)
theorem iT_X4 : ∀ w ∈ wsX40, w ∈ gT := fun w h => by
  have hp : wsX40 = ([91, 93, 95, 97, 99] : List Nat).filterMap (fun i => tables_1[i]?) := by decide +kernel
  have hg : wsX40.all goodWord = true := by decide +kernel
  have h2 := h
  rw [hp] at h2
  obtain ⟨i, -, hi⟩ := List.mem_filterMap.mp h2
  exact gT_tab (List.mem_of_getElem? hi) (List.all_eq_true.mp hg w h)
theorem iT_X5 : ∀ w ∈ wsX50, w ∈ gT := fun w h => by
  have hp : wsX50 = ([110, 112] : List Nat).filterMap (fun i => tables_1[i]?) := by decide +kernel
  have hg : wsX50.all goodWord = true := by decide +kernel
  have h2 := h
  rw [hp] at h2
  obtain ⟨i, -, hi⟩ := List.mem_filterMap.mp h2
  exact gT_tab (List.mem_of_getElem? hi) (List.all_eq_true.mp hg w h)
theorem iT_X6 : ∀ w ∈ wsX60, w ∈ gT := fun w h => by
  have hp : wsX60 = ([164, 166, 168, 170, 172, 174, 176, 178, 180, 182] : List Nat).filterMap (fun i => tables_1[i]?) := by decide +kernel
  have hg : wsX60.all goodWord = true := by decide +kernel
  have h2 := h
  rw [hp] at h2
  obtain ⟨i, -, hi⟩ := List.mem_filterMap.mp h2
  exact gT_tab (List.mem_of_getElem? hi) (List.all_eq_true.mp hg w h)
theorem iT_X7 : ∀ w ∈ wsX70, w ∈ gT := fun w h => by
  have hp : wsX70 = ([578, 580, 582, 584, 586, 588, 590, 592, 594, 596, 598, 600, 602, 604, 606, 608, 610, 612, 614, 616, 618, 620, 622, 624, 626, 628, 630] : List Nat).filterMap (fun i => tables_1[i]?) := by decide +kernel
  have hg : wsX70.all goodWord = true := by decide +kernel
  have h2 := h
  rw [hp] at h2
  obtain ⟨i, -, hi⟩ := List.mem_filterMap.mp h2
  exact gT_tab (List.mem_of_getElem? hi) (List.all_eq_true.mp hg w h)
end
section
def wC (y : MethodName) (cc : ByteArray) (n : Nat) (ret : Option FieldType) : List Cond := Cond.code y cc n ret :: gT
theorem gW {y : MethodName} {cc : ByteArray} {n : Nat} {ret : Option FieldType} (h : Cond.code y cc n ret ∈ gT) : GoodIn gT (wC y cc n ret) := fun w hw => by
  rcases List.mem_cons.mp hw with rfl | h2
  · exact gT_good h
  · exact gT_good h2
theorem gV {own C : String} {idx : Nat} {y : MethodName} {cc : ByteArray} {n : Nat} {ret : Option FieldType} (h1 : Cond.methodLink own idx y ∈ gT) (h : Cond.instanceMethod y ∈ gT ∧ Cond.selects C y y ∈ gT ∧ Cond.initialized C ∈ gT ∧ Cond.code y cc n ret ∈ gT) : GoodIn gT (wsV own idx C y (wC y cc n ret)) := fun w hw => by
  rcases List.mem_append.mp hw with h2 | h2
  · simp only [List.mem_cons, List.not_mem_nil, or_false] at h2
    rcases h2 with rfl | rfl | rfl | rfl
    · exact gT_good h1
    · exact gT_good h.1
    · exact gT_good h.2.1
    · exact gT_good h.2.2.1
  · exact gW h.2.2.2 w h2
theorem gS {own : String} {idx : Nat} {y : MethodName} {cc : ByteArray} {n : Nat} {ret : Option FieldType} (h1 : Cond.methodLink own idx y ∈ gT) (h : Cond.static y ∈ gT ∧ Cond.initialized y.cls ∈ gT ∧ Cond.code y cc n ret ∈ gT) : GoodIn gT (va_wsS own idx y (wC y cc n ret)) := fun w hw => by
  rcases List.mem_append.mp hw with h2 | h2
  · simp only [List.mem_cons, List.not_mem_nil, or_false] at h2
    rcases h2 with rfl | rfl | rfl
    · exact gT_good h1
    · exact gT_good h.1
    · exact gT_good h.2.1
  · exact gW h.2.2 w h2
/-! what never changes: the classes, the array classes, the nest's links -/
abbrev gY (cI cJ cZ cR : ClassId) : List (ClassId × FieldType) := [(cI, .int), (cJ, .long), (cZ, .boolean), (cR, .object "GrownGraphs$Rule")]
def kN (U : State) : Prop := va_Nw (.methodLinkNest RX6 9 yX3_init RX6) U ∧ va_Nw (.methodLinkNest RX5 21 yX4_init RX6) U ∧ va_Nw (.methodLinkNest RX6 34 yX2_init RX6) U ∧ va_Nw (.methodLinkNest RX6 41 yX1_init RX6) U ∧ va_Nw (.methodLinkNest RX3 31 yX6_isOpen RX6) U ∧ va_Nw (.methodLinkNest RX0 32 yX6_isOpen RX6) U ∧ va_Nw (.methodLinkNest RX2 102 yX6_isOpen RX6) U ∧ va_AO "GrownGraphs$Rule" U
theorem kN.warm {s U : State} (hW : s.WarmedH U.vm) (h : kN s) : kN U := ⟨va_Nw.warmM hW h.1, va_Nw.warmM hW h.2.1, va_Nw.warmM hW h.2.2.1, va_Nw.warmM hW h.2.2.2.1, va_Nw.warmM hW h.2.2.2.2.1, va_Nw.warmM hW h.2.2.2.2.2.1, va_Nw.warmM hW h.2.2.2.2.2.2.1, va_AO.moved hW.alike h.2.2.2.2.2.2.2⟩
theorem kN.same {s U : State} (hW : s.vm = U.vm) (h : kN s) : kN U := ⟨va_Nw.same rfl hW h.1, va_Nw.same rfl hW h.2.1, va_Nw.same rfl hW h.2.2.1, va_Nw.same rfl hW h.2.2.2.1, va_Nw.same rfl hW h.2.2.2.2.1, va_Nw.same rfl hW h.2.2.2.2.2.1, va_Nw.same rfl hW h.2.2.2.2.2.2.1, va_AO.moved (by rw [hW]; exact Vm.Alike.refl _) h.2.2.2.2.2.2.2⟩
def kK (D : va_G) (cI cJ cZ cR : ClassId) (U : State) : Prop := va_K D vwCl (gY cI cJ cZ cR) U ∧ kN U
def pB (D : va_G) (cI cJ cZ cR : ClassId) (sz : Nat) (ws : va_W) (U : State) : Prop := U.heap.size = sz ∧ va_P D vwCl ws U.heap ∧ kK D cI cJ cZ cR U ∧ va_D (fun _ => True) ws
def bB (D : va_G) (A : Nat → Prop) (ws : va_W) (t : State) : Prop := va_P D vwCl ws t.heap ∧ va_D A ws
theorem pB.blind {D : va_G} {cI cJ cZ cR : ClassId} {sz : Nat} {ws : va_W} {av : List Value} : FrameBlind (va_Pc av (pB D cI cJ cZ cR sz ws)) := fun a U g mk q => by
  obtain ⟨q0, q1, qP, ⟨qK, qN⟩, qD⟩ := q
  exact ⟨q0, q1, qP, ⟨va_K.moved (u := U) (U := U.calling g mk a) (Vm.Alike.refl U.vm) qK, kN.same (s := U) rfl qN⟩, qD⟩
theorem pB.pre {D : va_G} {cI cJ cZ cR : ClassId} {ws wc : va_W} {A : Nat → Prop} {s U : State} {H : Heap} (hU : U.heap = H) (hW : s.WarmedH U.vm) (hK : kK D cI cJ cZ cR s) (hP : va_P D vwCl ws H) (hD : va_D A ws) (isC : List Nat) (hn : va_nd isC = true) (hC : isC.map (fun i => ws[i]?) = wc.map some) : pB D cI cJ cZ cR H.size wc U := by
  refine ⟨by rw [hU], ?_, ⟨va_K.moved hW.alike hK.1, hK.2.warm hW⟩, (hD.sub isC hn hC).weaken (fun _ _ _ _ => trivial)⟩
  rw [hU]
  intro k q hk
  have h1 : (isC.map (fun i => ws[i]?))[k]? = some (some q) := by rw [hC, List.getElem?_map, hk]; rfl
  rw [List.getElem?_map] at h1
  cases hi : isC[k]? with
  | none => rw [hi] at h1; cases h1
  | some i => rw [hi] at h1; exact hP i q (Option.some.inj h1)
/-! contracts, by what they answer -/
abbrev rM (fr mc ms lo : Nat) : Room := { frames := fr, cells := mc, slots := ms, locals := lo }
def CTi (l : Launch) (D : va_G) (cI cJ cZ cR : ClassId) (y : MethodName) (cc : ByteArray) (n : Nat) (ret : Option FieldType) (fr lo mc ms sz : Nat) (av : List Value) (W0 : va_W) {S : Type} (post : Int32 → S → Prop) (aft : S → va_W) : Prop := Met l y (wC y cc n ret) (rM fr mc ms lo) (va_Pc av (pB D cI cJ cZ cR sz W0)) (va_Qi post (fun u => bB D (va_A W0 sz) (aft u)) (va_A W0 sz)) mc ms (va_A W0 sz)
def CTl (l : Launch) (D : va_G) (cI cJ cZ cR : ClassId) (y : MethodName) (cc : ByteArray) (n : Nat) (ret : Option FieldType) (fr lo mc ms sz : Nat) (av : List Value) (W0 : va_W) {S : Type} (post : Int64 → S → Prop) (aft : S → va_W) : Prop := Met l y (wC y cc n ret) (rM fr mc ms lo) (va_Pc av (pB D cI cJ cZ cR sz W0)) (va_Ql post (fun u => bB D (va_A W0 sz) (aft u)) (va_A W0 sz)) mc ms (va_A W0 sz)
def CTv (l : Launch) (D : va_G) (cI cJ cZ cR : ClassId) (y : MethodName) (cc : ByteArray) (n : Nat) (ret : Option FieldType) (fr lo mc ms sz : Nat) (av : List Value) (W0 : va_W) {S : Type} (post : S → Prop) (aft : S → va_W) : Prop := Met l y (wC y cc n ret) (rM fr mc ms lo) (va_Pc av (pB D cI cJ cZ cR sz W0)) (va_Qv post (fun u => bB D (va_A W0 sz) (aft u)) (va_A W0 sz)) mc ms (va_A W0 sz)
/-- what a walk has at its start -/
def Hd (p : Program) (s : State) (m : MethodId) (meth : Method) (c : Code) (args : Array Value) (y : MethodName) (cc : ByteArray) (n : Nat) : Prop := p.tables.exec = Jvm.exec ∧ c.code = cc ∧ c.maxLocals = n ∧ s.vm.findClass y.cls = some m.cls ∧ ∀ w ∈ gT, w.before args s = true
section
variable {l : Launch} {D : va_G} {cI cJ cZ cR : ClassId} {y : MethodName} {cc : ByteArray} {n : Nat} {fr lo mc ms sz : Nat} {av : List Value} {W0 : va_W} {S : Type} {aft : S → va_W}
theorem CTi.of {ret : Option FieldType} {ty : FieldType} {post : Int32 → S → Prop} (hy : plainName y.cls = true) (hn : (lg_sl av).length ≤ n) (hret : ret = some ty)
    (body : ∀ (p : Program) (e : Env) (s : State) (m : MethodId) (below : List Frame) (meth : Method) (c : Code) (A : Nat → Prop) (Q : State → Prop) (ls : Array Slot), Hd p s m meth c av.toArray y cc n → meth.name = y.name → kK D cI cJ cZ cR s → s.heap.size = sz → va_P D vwCl W0 s.heap → va_D A W0 → (∀ q, s.heap.size ≤ q → A q) → va_S A s.heap s.heap [] → lv_has ls n (lv_args 0 av) →
      (∀ (H : Heap) (locs : List Loc) (cells slots pc : Nat) (ls : Array Slot) (v : Int32) (u : S), decode cc pc = .ok (.ireturn, 1) → narrow ty (.int v) = .int v → va_S A s.heap H locs → cells ≤ mc → slots ≤ ms → post v u → va_P D vwCl (aft u) H → va_D A (aft u) → W p l e (rM fr mc ms lo) s m av.toArray below meth c H locs cells slots Q (F0 m pc ls [.int v])) →
      W p l e (rM fr mc ms lo) s m av.toArray below meth c s.heap [] 0 0 Q (F0 m 0 ls [])) : CTi l D cI cJ cZ cR y cc n ret fr lo mc ms sz av W0 post aft := by
  subst hret
  refine Met.ofW (cc := cc) (maxL := n) (ret := some ty) hy rfl ?_
  intro p e s m args below meth c s₁ B hml hv
  obtain ⟨rfl, hsz, hP, hK, hD0⟩ := hv
  have hts := atoms_spec (ws := wC y cc n (some ty)) B.pre
  have hlocks := B.notSynchronized
  have hl := lv_entry av (n := n) hn
  rw [lg_entry_eq]
  subst hsz
  exact body p e s m below meth c _ _ _ ⟨B.exec, B.bytes, hml, findClass_of_methodNamed B.named, fun w h => hts w (List.mem_cons_of_mem _ h)⟩ (name_of_methodNamed B.named B.method).1 hK rfl hP hD0.self (fun q h => Or.inr h) va_S.rf hl (fun H locs cells slots pc ls v u hd hnr hS h1 h2 hp hP9 hD9 => by
    refine W.widen h1 h2 ?_
    exact W.zret B.exec B.bytes B.returns hnr (fun t ht hW => ⟨⟨v, u, rfl, hp, by rw [ht]; exact hP9, hD9⟩, hS.F ht⟩) hS.2.2 hd)
theorem CTl.of {ret : Option FieldType} {post : Int64 → S → Prop} (hy : plainName y.cls = true) (hn : (lg_sl av).length ≤ n) (hret : ret = some .long)
    (body : ∀ (p : Program) (e : Env) (s : State) (m : MethodId) (below : List Frame) (meth : Method) (c : Code) (A : Nat → Prop) (Q : State → Prop) (ls : Array Slot), Hd p s m meth c av.toArray y cc n → meth.name = y.name → kK D cI cJ cZ cR s → s.heap.size = sz → va_P D vwCl W0 s.heap → va_D A W0 → (∀ q, s.heap.size ≤ q → A q) → va_S A s.heap s.heap [] → lv_has ls n (lv_args 0 av) →
      (∀ (H : Heap) (locs : List Loc) (cells slots pc : Nat) (ls : Array Slot) (v : Int64) (u : S), decode cc pc = .ok (.lreturn, 1) → va_S A s.heap H locs → cells ≤ mc → slots ≤ ms → post v u → va_P D vwCl (aft u) H → va_D A (aft u) → W p l e (rM fr mc ms lo) s m av.toArray below meth c H locs cells slots Q (F0 m pc ls [.long v])) →
      W p l e (rM fr mc ms lo) s m av.toArray below meth c s.heap [] 0 0 Q (F0 m 0 ls [])) : CTl l D cI cJ cZ cR y cc n ret fr lo mc ms sz av W0 post aft := by
  subst hret
  refine Met.ofW (cc := cc) (maxL := n) (ret := some .long) hy rfl ?_
  intro p e s m args below meth c s₁ B hml hv
  obtain ⟨rfl, hsz, hP, hK, hD0⟩ := hv
  have hts := atoms_spec (ws := wC y cc n (some .long)) B.pre
  have hlocks := B.notSynchronized
  have hl := lv_entry av (n := n) hn
  rw [lg_entry_eq]
  subst hsz
  exact body p e s m below meth c _ _ _ ⟨B.exec, B.bytes, hml, findClass_of_methodNamed B.named, fun w h => hts w (List.mem_cons_of_mem _ h)⟩ (name_of_methodNamed B.named B.method).1 hK rfl hP hD0.self (fun q h => Or.inr h) va_S.rf hl (fun H locs cells slots pc ls v u hd hS h1 h2 hp hP9 hD9 => by
    refine W.widen h1 h2 ?_
    exact W.lret B.exec B.bytes B.returns (fun t ht hW => ⟨⟨v, u, rfl, hp, by rw [ht]; exact hP9, hD9⟩, hS.F ht⟩) hS.2.2 hd)
theorem CTv.of {ret : Option FieldType} {post : S → Prop} (hy : plainName y.cls = true) (hn : (lg_sl av).length ≤ n) (hret : ret = none)
    (body : ∀ (p : Program) (e : Env) (s : State) (m : MethodId) (below : List Frame) (meth : Method) (c : Code) (A : Nat → Prop) (Q : State → Prop) (ls : Array Slot), Hd p s m meth c av.toArray y cc n → meth.name = y.name → kK D cI cJ cZ cR s → s.heap.size = sz → va_P D vwCl W0 s.heap → va_D A W0 → (∀ q, s.heap.size ≤ q → A q) → va_S A s.heap s.heap [] → lv_has ls n (lv_args 0 av) →
      (∀ (H : Heap) (locs : List Loc) (cells slots pc : Nat) (ls : Array Slot) (u : S), decode cc pc = .ok (.return_, 1) → va_S A s.heap H locs → cells ≤ mc → slots ≤ ms → post u → va_P D vwCl (aft u) H → va_D A (aft u) → W p l e (rM fr mc ms lo) s m av.toArray below meth c H locs cells slots Q (F0 m pc ls [])) →
      W p l e (rM fr mc ms lo) s m av.toArray below meth c s.heap [] 0 0 Q (F0 m 0 ls [])) : CTv l D cI cJ cZ cR y cc n ret fr lo mc ms sz av W0 post aft := by
  subst hret
  refine Met.ofW (cc := cc) (maxL := n) (ret := none) hy rfl ?_
  intro p e s m args below meth c s₁ B hml hv
  obtain ⟨rfl, hsz, hP, hK, hD0⟩ := hv
  have hts := atoms_spec (ws := wC y cc n none) B.pre
  have hlocks := B.notSynchronized
  have hl := lv_entry av (n := n) hn
  rw [lg_entry_eq]
  subst hsz
  exact body p e s m below meth c _ _ _ ⟨B.exec, B.bytes, hml, findClass_of_methodNamed B.named, fun w h => hts w (List.mem_cons_of_mem _ h)⟩ (name_of_methodNamed B.named B.method).1 hK rfl hP hD0.self (fun q h => Or.inr h) va_S.rf hl (fun H locs cells slots pc ls u hd hS h1 h2 hp hP9 hD9 => by
    refine W.widen h1 h2 ?_
    exact W.vret B.exec B.bytes B.returns (fun t ht hW => ⟨⟨u, rfl, hp, by rw [ht]; exact hP9, hD9⟩, hS.F ht⟩) hS.2.2 hd)
end
section
variable {p : Program} {l : Launch} {e : Env} {R : Room} {s : State} {m : MethodId} {args : Array Value} {below : List Frame} {meth : Method} {c : Code} {H H0 : Heap} {locs : List Loc} {cells slots : Nat} {Q : State → Prop} {cc bytes : ByteArray} {pc nL maxL : Nat} {ls : Array Slot} {rest : List Value} {A : Nat → Prop} {D : va_G} {cI cJ cZ cR : ClassId} {ws wc wr : va_W} {S : Type} {aft : S → va_W} {fr lo mc ms n index b : Nat} {own C host : String} {y y0 : MethodName} {ret : Option FieldType} {As : List Value}
theorem lv_nmi {x z : Int32} (h : x = z) (k : W p l e R s m args below meth c H locs cells slots Q (F0 m pc ls (.int z :: rest))) : W p l e R s m args below meth c H locs cells slots Q (F0 m pc ls (.int x :: rest)) := by
  subst h
  exact k
theorem lv_nml {x z : Int64} (h : x = z) (k : W p l e R s m args below meth c H locs cells slots Q (F0 m pc ls (.long z :: rest))) : W p l e R s m args below meth c H locs cells slots Q (F0 m pc ls (.long x :: rest)) := by
  subst h
  exact k
theorem xc_i {st0 : List Value} {a : Array Value} {post : Int32 → S → Prop} (hrun : va_Run p l e R s m args below meth c H locs cells slots mc ms (F0 m pc ls st0) rest (va_Qi post (fun u => bB D (va_A wc H.size) (aft u)) (va_A wc H.size) a) (va_A wc H.size)) (hP : va_P D vwCl ws H) (hD : va_D A ws) (hS : va_S A H0 H locs) (hA : ∀ q, H0.size ≤ q → A q) (isC isR : List Nat) (hC : isC.map (fun i => ws[i]?) = wc.map some) (hR : isR.map (fun i => ws[i]?) = wr.map some) (hn : va_nd isR = true) (hdis : ∀ i ∈ isR, i ∉ isC)
    (kk : ∀ (r : Int32) (u : S) (H1 : Heap) (locs1 : List Loc), post r u → va_P D vwCl (wr ++ aft u) H1 → va_D A (wr ++ aft u) → va_S A H0 H1 locs1 → W p l e R s m args below meth c H1 locs1 (cells + mc) (slots + ms) Q (F0 m (pc + 3) ls (.int r :: rest))) : W p l e R s m args below meth c H locs cells slots Q (F0 m pc ls st0) := by
  have hFc := va_free (wc := wc) hD hS hA isC hC
  refine va_calli hrun hS (fun q _ h => hFc q h) hFc (fun r u t H1 locs1 ht hvm hw hB hz1 hk1 hS1 => ?_)
  obtain ⟨hP1, hD1⟩ := hB
  rw [ht] at hP1
  obtain ⟨hP2, hD2⟩ := va_join hP hD isC isR hC hR hn hdis hk1 hFc hP1 hD1
  exact kk r u H1 locs1 hw hP2 hD2 hS1
theorem xc_l {st0 : List Value} {a : Array Value} {post : Int64 → S → Prop} (hrun : va_Run p l e R s m args below meth c H locs cells slots mc ms (F0 m pc ls st0) rest (va_Ql post (fun u => bB D (va_A wc H.size) (aft u)) (va_A wc H.size) a) (va_A wc H.size)) (hP : va_P D vwCl ws H) (hD : va_D A ws) (hS : va_S A H0 H locs) (hA : ∀ q, H0.size ≤ q → A q) (isC isR : List Nat) (hC : isC.map (fun i => ws[i]?) = wc.map some) (hR : isR.map (fun i => ws[i]?) = wr.map some) (hn : va_nd isR = true) (hdis : ∀ i ∈ isR, i ∉ isC)
    (kk : ∀ (r : Int64) (u : S) (H1 : Heap) (locs1 : List Loc), post r u → va_P D vwCl (wr ++ aft u) H1 → va_D A (wr ++ aft u) → va_S A H0 H1 locs1 → W p l e R s m args below meth c H1 locs1 (cells + mc) (slots + ms) Q (F0 m (pc + 3) ls (.long r :: rest))) : W p l e R s m args below meth c H locs cells slots Q (F0 m pc ls st0) := by
  have hFc := va_free (wc := wc) hD hS hA isC hC
  refine va_calll hrun hS (fun q _ h => hFc q h) hFc (fun r u t H1 locs1 ht hvm hw hB hz1 hk1 hS1 => ?_)
  obtain ⟨hP1, hD1⟩ := hB
  rw [ht] at hP1
  obtain ⟨hP2, hD2⟩ := va_join hP hD isC isR hC hR hn hdis hk1 hFc hP1 hD1
  exact kk r u H1 locs1 hw hP2 hD2 hS1
theorem xc_v {st0 : List Value} {a : Array Value} {post : S → Prop} (hrun : va_Run p l e R s m args below meth c H locs cells slots mc ms (F0 m pc ls st0) rest (va_Qv post (fun u => bB D (va_A wc H.size) (aft u)) (va_A wc H.size) a) (va_A wc H.size)) (hP : va_P D vwCl ws H) (hD : va_D A ws) (hS : va_S A H0 H locs) (hA : ∀ q, H0.size ≤ q → A q) (isC isR : List Nat) (hC : isC.map (fun i => ws[i]?) = wc.map some) (hR : isR.map (fun i => ws[i]?) = wr.map some) (hn : va_nd isR = true) (hdis : ∀ i ∈ isR, i ∉ isC)
    (kk : ∀ (u : S) (H1 : Heap) (locs1 : List Loc), post u → va_P D vwCl (wr ++ aft u) H1 → va_D A (wr ++ aft u) → va_S A H0 H1 locs1 → W p l e R s m args below meth c H1 locs1 (cells + mc) (slots + ms) Q (F0 m (pc + 3) ls rest)) : W p l e R s m args below meth c H locs cells slots Q (F0 m pc ls st0) := by
  have hFc := va_free (wc := wc) hD hS hA isC hC
  refine va_callv hrun hS (fun q _ h => hFc q h) hFc (fun u t H1 locs1 ht hvm hw hB hz1 hk1 hS1 => ?_)
  obtain ⟨hP1, hD1⟩ := hB
  rw [ht] at hP1
  obtain ⟨hP2, hD2⟩ := va_join hP hD isC isR hC hR hn hdis hk1 hFc hP1 hD1
  exact kk u H1 locs1 hw hP2 hD2 hS1
/-! a call on an object of ours, its class by its cell -/
theorem xrV {Qc : Array Value → State → Outcome → State → Prop} {ci q0 : Nat} {fs : List Value} {T : u_T} {N : Nat} (hd : Hd p s m meth c args y0 cc nL) (hK : kK D cI cJ cZ cR s) (hP : va_P D vwCl ws H) (hD : va_D A ws) (hM : Met l y (wC y bytes maxL ret) (rM fr mc ms lo) (va_Pc (.ref b :: As) (pB D cI cJ cZ cR H.size wc)) Qc mc ms (va_A wc H.size)) (hG : GoodIn gT (wsV y0.cls index C y (wC y bytes maxL ret)))
    (hdd : y.cls = C ∧ y.cls ≠ "java/lang/invoke/MethodHandle" ∧ y.cls ≠ "java/lang/invoke/VarHandle" ∧ (parseMethodDescriptor y.desc).map (fun d => d.parameters.length) = some n) (hR : fr + 1 ≤ R.frames ∧ 8 + (maxL + 11) + lo ≤ R.locals) (he : ws[q0]? = some (b, .inr (ci, fs))) (hc : vwCl[ci]? = some (C, T, N)) (isC : List Nat) (hnC : va_nd isC = true) (hC : isC.map (fun i => ws[i]?) = wc.map some)
    (hnA : As.length = n) (hls : ls.size = nL) {st0 : List Value} (hst : st0 = As.reverse ++ .ref b :: rest) (hrs : (rest.map fun v => v.category).sum ≤ 8) (hdg : decode cc pc = .ok (.invokevirtual index, 3)) (hf : cells + mc ≤ R.cells ∧ slots + ms ≤ R.slots) :
    va_Run p l e R s m args below meth c H locs cells slots mc ms (F0 m pc ls st0) rest (Qc (Value.ref b :: As).toArray) (va_A wc H.size) := by
  obtain ⟨hx, hb, hml, hown, hts⟩ := hd
  exact va_runV (As := As) (rest := rest) (C := C) ⟨hx, hb, hml, hown, hts⟩ hM (cwV n hts hG rfl rfl rfl hdd hR) ⟨pB.blind, va_recv hK.1 hP hc he, fun U hU hW => ⟨rfl, pB.pre hU hW hK hP hD isC hnC hC⟩⟩ rfl hnA hls hst (lv_room hrs) hdg hf
theorem xrS {Qc : Array Value → State → Outcome → State → Prop} (hd : Hd p s m meth c args y0 cc nL) (hK : kK D cI cJ cZ cR s) (hP : va_P D vwCl ws H) (hD : va_D A ws) (hM : Met l y (wC y bytes maxL ret) (rM fr mc ms lo) (va_Pc As (pB D cI cJ cZ cR H.size wc)) Qc mc ms (va_A wc H.size)) (hG : GoodIn gT (va_wsS y0.cls index y (wC y bytes maxL ret)))
    (hdd : y.cls ≠ "java/lang/invoke/MethodHandle" ∧ y.cls ≠ "java/lang/invoke/VarHandle" ∧ (parseMethodDescriptor y.desc).map (fun d => d.parameters.length) = some n) (hR : fr + 1 ≤ R.frames ∧ 8 + (maxL + 11) + lo ≤ R.locals) (isC : List Nat) (hnC : va_nd isC = true) (hC : isC.map (fun i => ws[i]?) = wc.map some)
    (hnA : As.length = n) (hls : ls.size = nL) {st0 : List Value} (hst : st0 = As.reverse ++ rest) (hrs : (rest.map fun v => v.category).sum ≤ 8) (hdg : decode cc pc = .ok (.invokestatic index, 3)) (hf : cells + mc ≤ R.cells ∧ slots + ms ≤ R.slots) :
    va_Run p l e R s m args below meth c H locs cells slots mc ms (F0 m pc ls st0) rest (Qc As.toArray) (va_A wc H.size) := by
  obtain ⟨hx, hb, hml, hown, hts⟩ := hd
  exact va_runS (As := As) (rest := rest) ⟨hx, hb, hml, hown, hts⟩ hM (va_cwS n hts hG rfl rfl rfl hdd hR) ⟨pB.blind, fun U hU hW => ⟨rfl, pB.pre hU hW hK hP hD isC hnC hC⟩⟩ rfl hnA hls hst (lv_room hrs) hdg hf
theorem xrSN {Qc : Array Value → State → Outcome → State → Prop} (hd : Hd p s m meth c args y0 cc nL) (hK : kK D cI cJ cZ cR s) (hP : va_P D vwCl ws H) (hD : va_D A ws) (hM : Met l y (wC y bytes maxL ret) (rM fr mc ms lo) (va_Pc As (pB D cI cJ cZ cR H.size wc)) Qc mc ms (va_A wc H.size)) (hcd : Cond.code y bytes maxL ret ∈ gT) (hst0 : Cond.static y ∈ gT) (hin0 : Cond.initialized y.cls ∈ gT) (hln : va_Nw (.methodLinkNest y0.cls index y host) s)
    (hdd : y.cls ≠ "java/lang/invoke/MethodHandle" ∧ y.cls ≠ "java/lang/invoke/VarHandle" ∧ (parseMethodDescriptor y.desc).map (fun d => d.parameters.length) = some n) (hR : fr + 1 ≤ R.frames ∧ 8 + (maxL + 11) + lo ≤ R.locals) (isC : List Nat) (hnC : va_nd isC = true) (hC : isC.map (fun i => ws[i]?) = wc.map some)
    (hnA : As.length = n) (hls : ls.size = nL) {st0 : List Value} (hst : st0 = As.reverse ++ rest) (hrs : (rest.map fun v => v.category).sum ≤ 8) (hdg : decode cc pc = .ok (.invokestatic index, 3)) (hf : cells + mc ≤ R.cells ∧ slots + ms ≤ R.slots) :
    va_Run p l e R s m args below meth c H locs cells slots mc ms (F0 m pc ls st0) rest (Qc As.toArray) (va_A wc H.size) := by
  obtain ⟨hx, hb, hml, hown, hts⟩ := hd
  exact va_runSN (As := As) (rest := rest) ⟨hx, hb, hml, hown, hts⟩ hM ⟨va_cnB n hts (gW hcd) rfl rfl rfl hln (hts _ hin0) hdd hR, hts _ hst0, trivial⟩ ⟨pB.blind, fun U hU hW => ⟨rfl, pB.pre hU hW hK hP hD isC hnC hC⟩⟩ rfl hnA hls hst (lv_room hrs) hdg hf
theorem xrI {Qc : Array Value → State → Outcome → State → Prop} (hd : Hd p s m meth c args y0 cc nL) (hK : kK D cI cJ cZ cR s) (hP : va_P D vwCl ws H) (hD : va_D A ws) (hM : Met l y (wC y bytes maxL none) (rM fr mc ms lo) (va_Pc (.ref b :: As) (pB D cI cJ cZ cR H.size wc)) Qc mc ms (va_A wc H.size)) (hcd : Cond.code y bytes maxL none ∈ gT) (hin0 : Cond.initialized y.cls ∈ gT) (hln : Cond.methodLink y0.cls index y ∈ gT) (him : Cond.instanceMethod y ∈ gT) (hy1 : y.name = "<init>")
    (hdd : y.cls ≠ "java/lang/invoke/MethodHandle" ∧ y.cls ≠ "java/lang/invoke/VarHandle" ∧ (parseMethodDescriptor y.desc).map (fun d => d.parameters.length) = some n) (hR : fr + 1 ≤ R.frames ∧ 8 + (maxL + 11) + lo ≤ R.locals) (isC : List Nat) (hnC : va_nd isC = true) (hC : isC.map (fun i => ws[i]?) = wc.map some)
    (hnA : As.length = n) (hls : ls.size = nL) {st0 : List Value} (hst : st0 = As.reverse ++ .ref b :: rest) (hrs : (rest.map fun v => v.category).sum ≤ 8) (hdg : decode cc pc = .ok (.invokespecial index, 3)) (hf : cells + mc ≤ R.cells ∧ slots + ms ≤ R.slots) :
    va_Run p l e R s m args below meth c H locs cells slots mc ms (F0 m pc ls st0) rest (Qc (Value.ref b :: As).toArray) (va_A wc H.size) := by
  obtain ⟨hx, hb, hml, hown, hts⟩ := hd
  exact va_runI (As := As) (rest := rest) ⟨hx, hb, hml, hown, hts⟩ hM (cwI n hts (gW hcd) rfl rfl rfl (hts _ hin0) (hts _ hln) (hts _ him) hy1 hdd hR) ⟨pB.blind, fun U hU hW => ⟨rfl, pB.pre hU hW hK hP hD isC hnC hC⟩⟩ rfl hnA hls hst (lv_room hrs) hdg hf
theorem xrIN {Qc : Array Value → State → Outcome → State → Prop} (hd : Hd p s m meth c args y0 cc nL) (hK : kK D cI cJ cZ cR s) (hP : va_P D vwCl ws H) (hD : va_D A ws) (hM : Met l y (wC y bytes maxL none) (rM fr mc ms lo) (va_Pc (.ref b :: As) (pB D cI cJ cZ cR H.size wc)) Qc mc ms (va_A wc H.size)) (hcd : Cond.code y bytes maxL none ∈ gT) (hin0 : Cond.initialized y.cls ∈ gT) (hln : va_Nw (.methodLinkNest y0.cls index y host) s) (him : Cond.instanceMethod y ∈ gT) (hy1 : y.name = "<init>")
    (hdd : y.cls ≠ "java/lang/invoke/MethodHandle" ∧ y.cls ≠ "java/lang/invoke/VarHandle" ∧ (parseMethodDescriptor y.desc).map (fun d => d.parameters.length) = some n) (hR : fr + 1 ≤ R.frames ∧ 8 + (maxL + 11) + lo ≤ R.locals) (isC : List Nat) (hnC : va_nd isC = true) (hC : isC.map (fun i => ws[i]?) = wc.map some)
    (hnA : As.length = n) (hls : ls.size = nL) {st0 : List Value} (hst : st0 = As.reverse ++ .ref b :: rest) (hrs : (rest.map fun v => v.category).sum ≤ 8) (hdg : decode cc pc = .ok (.invokespecial index, 3)) (hf : cells + mc ≤ R.cells ∧ slots + ms ≤ R.slots) :
    va_Run p l e R s m args below meth c H locs cells slots mc ms (F0 m pc ls st0) rest (Qc (Value.ref b :: As).toArray) (va_A wc H.size) := by
  obtain ⟨hx, hb, hml, hown, hts⟩ := hd
  exact va_runIN (As := As) (rest := rest) ⟨hx, hb, hml, hown, hts⟩ hM ⟨va_cnB n hts (gW hcd) rfl rfl rfl hln (hts _ hin0) hdd hR, hy1, hts _ him⟩ ⟨pB.blind, fun U hU hW => ⟨rfl, pB.pre hU hW hK hP hD isC hnC hC⟩⟩ rfl hnA hls hst (lv_room hrs) hdg hf
/-! new rows of the array classes that are known -/
theorem same_arr {tys : List (ClassId × FieldType)} {cA cB : ClassId} {ty : FieldType} (h : va_K D vwCl tys s) (i j : Nat) (hi : tys[i]? = some (cA, ty)) (hj : tys[j]? = some (cB, ty)) : cA = cB := by
  have h1 := (h.2 i _ hi).2
  have h2 := (h.2 j _ hj).2
  unfold va_RA at h1 h2
  cases ty with
  | object C =>
    obtain ⟨-, -, -, -, -, e1⟩ := h1
    obtain ⟨-, -, -, -, -, e2⟩ := h2
    exact Option.some.inj (e1.symm.trans e2)
  | _ => exact Option.some.inj (h1.symm.trans h2)
theorem nw_I {N' : Nat} {k : Int32} (hx : p.tables.exec = Jvm.exec) (hb : c.code = cc) (harr : (Cond.arrayClass .int).before args s = true) (hK : kK D cI cJ cZ cR s) (hP : va_P D vwCl ws H) (hD : va_D A ws) (hS : va_S A H0 H locs) (hA : ∀ q, H0.size ≤ q → A q) (hn : ¬ k < 0) (hN : k.toNatClampNeg = N') (hbytes : N' * 4 ≤ 536870912) (hcells : cells + 1 ≤ R.cells) (hslots : slots + N' ≤ R.slots) (hdg : decode cc pc = .ok (.newarray .int, 2))
    (kk : ∀ (q : Nat) (H1 : Heap), va_P D vwCl (ws ++ [(q, .inl (cI, N', .inl (fun _ => 0)))]) H1 → va_D A (ws ++ [(q, .inl (cI, N', .inl (fun _ => 0)))]) → va_S A H0 H1 locs → W p l e R s m args below meth c H1 locs (cells + 1) (slots + N') Q (F0 m (pc + 2) ls (.ref q :: rest))) : W p l e R s m args below meth c H locs cells slots Q (F0 m pc ls (.int k :: rest)) := by
  refine va_newa (atype := .int) (ty := .int) (a0 := (N', .inl (fun _ => 0))) hx hb harr rfl hK.1 hP hD hS hA (fun _ => rfl) hn hN hbytes hcells hslots hdg (fun q cA H1 hK2 hP2 hD2 hS2 => ?_)
  have hc : cA = cI := same_arr hK2 4 0 rfl rfl
  subst hc
  exact kk q H1 hP2 hD2 hS2
theorem nw_J {N' : Nat} {k : Int32} (hx : p.tables.exec = Jvm.exec) (hb : c.code = cc) (harr : (Cond.arrayClass .long).before args s = true) (hK : kK D cI cJ cZ cR s) (hP : va_P D vwCl ws H) (hD : va_D A ws) (hS : va_S A H0 H locs) (hA : ∀ q, H0.size ≤ q → A q) (hn : ¬ k < 0) (hN : k.toNatClampNeg = N') (hbytes : N' * 8 ≤ 536870912) (hcells : cells + 1 ≤ R.cells) (hslots : slots + N' ≤ R.slots) (hdg : decode cc pc = .ok (.newarray .long, 2))
    (kk : ∀ (q : Nat) (H1 : Heap), va_P D vwCl (ws ++ [(q, .inl (cJ, N', .inr (.inl (fun _ => 0))))]) H1 → va_D A (ws ++ [(q, .inl (cJ, N', .inr (.inl (fun _ => 0))))]) → va_S A H0 H1 locs → W p l e R s m args below meth c H1 locs (cells + 1) (slots + N') Q (F0 m (pc + 2) ls (.ref q :: rest))) : W p l e R s m args below meth c H locs cells slots Q (F0 m pc ls (.int k :: rest)) := by
  refine va_newa (atype := .long) (ty := .long) (a0 := (N', .inr (.inl (fun _ => 0)))) hx hb harr rfl hK.1 hP hD hS hA (fun _ => rfl) hn hN hbytes hcells hslots hdg (fun q cA H1 hK2 hP2 hD2 hS2 => ?_)
  have hc : cA = cJ := same_arr hK2 4 1 rfl rfl
  subst hc
  exact kk q H1 hP2 hD2 hS2
theorem nw_Z {N' : Nat} {k : Int32} (hx : p.tables.exec = Jvm.exec) (hb : c.code = cc) (harr : (Cond.arrayClass .boolean).before args s = true) (hK : kK D cI cJ cZ cR s) (hP : va_P D vwCl ws H) (hD : va_D A ws) (hS : va_S A H0 H locs) (hA : ∀ q, H0.size ≤ q → A q) (hn : ¬ k < 0) (hN : k.toNatClampNeg = N') (hbytes : N' * 1 ≤ 536870912) (hcells : cells + 1 ≤ R.cells) (hslots : slots + N' ≤ R.slots) (hdg : decode cc pc = .ok (.newarray .boolean, 2))
    (kk : ∀ (q : Nat) (H1 : Heap), va_P D vwCl (ws ++ [(q, .inl (cZ, N', .inl (fun _ => 0)))]) H1 → va_D A (ws ++ [(q, .inl (cZ, N', .inl (fun _ => 0)))]) → va_S A H0 H1 locs → W p l e R s m args below meth c H1 locs (cells + 1) (slots + N') Q (F0 m (pc + 2) ls (.ref q :: rest))) : W p l e R s m args below meth c H locs cells slots Q (F0 m pc ls (.int k :: rest)) := by
  refine va_newa (atype := .boolean) (ty := .boolean) (a0 := (N', .inl (fun _ => 0))) hx hb harr rfl hK.1 hP hD hS hA (fun _ => rfl) hn hN hbytes hcells hslots hdg (fun q cA H1 hK2 hP2 hD2 hS2 => ?_)
  have hc : cA = cZ := same_arr hK2 4 2 rfl rfl
  subst hc
  exact kk q H1 hP2 hD2 hS2
theorem nw_Q {N' idx : Nat} {k : Int32} {own1 : String} (hx : p.tables.exec = Jvm.exec) (hb : c.code = cc) (hown : s.vm.findClass own1 = some m.cls) (hcl : (Cond.classLink own1 idx "GrownGraphs$Rule").before args s = true) (hK : kK D cI cJ cZ cR s) (hP : va_P D vwCl ws H) (hD : va_D A ws) (hS : va_S A H0 H locs) (hA : ∀ q, H0.size ≤ q → A q) (hn : ¬ k < 0) (hN : k.toNatClampNeg = N') (hbytes : N' * 4 ≤ 536870912) (hcells : cells + 1 ≤ R.cells) (hslots : slots + N' ≤ R.slots) (hdg : decode cc pc = .ok (.anewarray idx, 3))
    (kk : ∀ (q : Nat) (H1 : Heap), va_P D vwCl (ws ++ [(q, .inl (cR, N', .inr (.inr (.inr (.inr (fun _ => none))))))]) H1 → va_D A (ws ++ [(q, .inl (cR, N', .inr (.inr (.inr (.inr (fun _ => none))))))]) → va_S A H0 H1 locs → W p l e R s m args below meth c H1 locs (cells + 1) (slots + N') Q (F0 m (pc + 3) ls (.ref q :: rest))) : W p l e R s m args below meth c H locs cells slots Q (F0 m pc ls (.int k :: rest)) := by
  refine va_newq hx hb hown hcl hK.2.2.2.2.2.2.2.2 hK.1 hP hD hS hA hn hN hbytes hcells hslots hdg (fun q cA H1 hK2 hP2 hD2 hS2 => ?_)
  have hc : cA = cR := same_arr hK2 4 3 rfl rfl
  subst hc
  exact kk q H1 hP2 hD2 hS2
end

theorem vin {i : Int32} {n : Nat} (h : (decide (i < 0) || decide (n ≤ i.toNatClampNeg)) = false) : vp_in i n := fun q => by
  rcases q with q | q
  · rw [decide_eq_true q] at h; cases h
  · rw [decide_eq_true q, Bool.or_true] at h; cases h
theorem sw_7 (x : Int32) : x = 0 ∨ x = 1 ∨ x = 2 ∨ x = 3 ∨ x = 4 ∨ x = 5 ∨ x = 6 ∨ x = 7 ∨ (x.toInt < 0 ∨ 7 < x.toInt) := by
  simp only [← Int32.toInt_inj]
  have h0 : (0 : Int32).toInt = 0 := by decide
  have h1 : (1 : Int32).toInt = 1 := by decide
  have h2 : (2 : Int32).toInt = 2 := by decide
  have h3 : (3 : Int32).toInt = 3 := by decide
  have h4 : (4 : Int32).toInt = 4 := by decide
  have h5 : (5 : Int32).toInt = 5 := by decide
  have h6 : (6 : Int32).toInt = 6 := by decide
  have h7 : (7 : Int32).toInt = 7 := by decide
  omega
theorem df_X0 : ∀ j, j < 5 → defaultValue (tyX0 j) = vp_V [.null, .null, .null, .int 0, .int 0] j := fun j hj => by
  rcases (show j = 0 ∨ j = 1 ∨ j = 2 ∨ j = 3 ∨ j = 4 by omega) with rfl | rfl | rfl | rfl | rfl <;> rfl
theorem df_X1 : ∀ j, j < 5 → defaultValue (tyX1 j) = vp_V [.null, .null, .null, .null, .null] j := fun j hj => by
  rcases (show j = 0 ∨ j = 1 ∨ j = 2 ∨ j = 3 ∨ j = 4 by omega) with rfl | rfl | rfl | rfl | rfl <;> rfl
theorem df_X2 : ∀ j, j < 2 → defaultValue (tyX2 j) = vp_V [.null, .null] j := fun j hj => by
  rcases (show j = 0 ∨ j = 1 by omega) with rfl | rfl <;> rfl
theorem df_X3 : ∀ j, j < 2 → defaultValue (tyX3 j) = vp_V [.null, .int 0] j := fun j hj => by
  rcases (show j = 0 ∨ j = 1 by omega) with rfl | rfl <;> rfl
theorem df_X4 : ∀ j, j < 5 → defaultValue (tyX4 j) = vp_V [.int 0, .null, .null, .null, .null] j := fun j hj => by
  rcases (show j = 0 ∨ j = 1 ∨ j = 2 ∨ j = 3 ∨ j = 4 by omega) with rfl | rfl | rfl | rfl | rfl <;> rfl
theorem df_X5 : ∀ j, j < 2 → defaultValue (tyX5 j) = vp_V [.null, .int 0] j := fun j hj => by
  rcases (show j = 0 ∨ j = 1 by omega) with rfl | rfl <;> rfl
theorem df_X6 : ∀ j, j < 10 → defaultValue (tyX6 j) = vp_V [.null, .null, .null, .null, .null, .int 0, .int 0, .int 0, .int 0, .int 0] j := fun j hj => by
  rcases (show j = 0 ∨ j = 1 ∨ j = 2 ∨ j = 3 ∨ j = 4 ∨ j = 5 ∨ j = 6 ∨ j = 7 ∨ j = 8 ∨ j = 9 by omega) with rfl | rfl | rfl | rfl | rfl | rfl | rfl | rfl | rfl | rfl <;> rfl
theorem df_X7 : ∀ j, j < 27 → defaultValue (tyX7 j) = vp_V [.int 0, .null, .int 0, .null, .null, .null, .null, .int 0, .int 0, .null, .int 0, .int 0, .int 0, .int 0, .null, .int 0, .int 0, .int 0, .int 0, .null, .null, .null, .int 0, .null, .null, .null, .long 0] j := fun j hj => by
  rcases (show j = 0 ∨ j = 1 ∨ j = 2 ∨ j = 3 ∨ j = 4 ∨ j = 5 ∨ j = 6 ∨ j = 7 ∨ j = 8 ∨ j = 9 ∨ j = 10 ∨ j = 11 ∨ j = 12 ∨ j = 13 ∨ j = 14 ∨ j = 15 ∨ j = 16 ∨ j = 17 ∨ j = 18 ∨ j = 19 ∨ j = 20 ∨ j = 21 ∨ j = 22 ∨ j = 23 ∨ j = 24 ∨ j = 25 ∨ j = 26 by omega) with rfl | rfl | rfl | rfl | rfl | rfl | rfl | rfl | rfl | rfl | rfl | rfl | rfl | rfl | rfl | rfl | rfl | rfl | rfl | rfl | rfl | rfl | rfl | rfl | rfl | rfl | rfl <;> rfl
end
section
/-! rows by what they hold below their length -/
theorem arrV_ext {cA : ClassId} {n : Nat} {f g : Nat → Value} (h : ∀ j, j < n → f j = g j) : arrV cA n f = arrV cA n g := by
  unfold arrV
  congr 1
  congr 1
  funext j
  exact h j.val j.isLt
theorem va_P.rowI {D : va_G} {ws : va_W} {H : Heap} {a n : Nat} {cA : ClassId} {f g : Nat → Int32} {A : Nat → Prop} (k : Nat) (hP : va_P D vwCl ws H) (hD : va_D A ws) (he : ws[k]? = some (a, .inl (cA, n, .inl f))) (h : ∀ j, j < n → f j = g j) : va_P D vwCl (ws.set k (a, .inl (cA, n, .inl g))) H ∧ va_D A (ws.set k (a, .inl (cA, n, .inl g))) := by
  refine ⟨hP.set hD he ?_ (fun _ _ => rfl), hD.set he⟩
  have h1 : H[a]? = some (vp_cell cA (n, .inl f)) := hP k _ he
  show H[a]? = some (vp_cell cA (n, .inl g))
  rw [h1, vp_cell_i, vp_cell_i, arrV_ext (fun j hj => by rw [h j hj])]
theorem va_P.rowJ {D : va_G} {ws : va_W} {H : Heap} {a n : Nat} {cA : ClassId} {f g : Nat → Int64} {A : Nat → Prop} (k : Nat) (hP : va_P D vwCl ws H) (hD : va_D A ws) (he : ws[k]? = some (a, .inl (cA, n, .inr (.inl f)))) (h : ∀ j, j < n → f j = g j) : va_P D vwCl (ws.set k (a, .inl (cA, n, .inr (.inl g)))) H ∧ va_D A (ws.set k (a, .inl (cA, n, .inr (.inl g)))) := by
  refine ⟨hP.set hD he ?_ (fun _ _ => rfl), hD.set he⟩
  have h1 : H[a]? = some (vp_cell cA (n, .inr (.inl f))) := hP k _ he
  show H[a]? = some (vp_cell cA (n, .inr (.inl g)))
  rw [h1, vp_cell_l, vp_cell_l, arrV_ext (fun j hj => by rw [h j hj])]
theorem up_lt {g : Nat → Int32} {i : Nat} {v : Int32} (hg : ∀ j, j < i → g j = v) : ∀ j, j < i + 1 → upd g i v j = v := fun j hj => by
  by_cases h9 : j = i
  · subst h9; exact pk_us
  · rw [pk_un h9]; exact hg j (by omega)
theorem upL_lt {g : Nat → Int64} {i : Nat} {v : Int64} (hg : ∀ j, j < i → g j = v) : ∀ j, j < i + 1 → vp_updL g i v j = v := fun j hj => by
  by_cases h9 : j = i
  · subst h9; exact pk_uLs
  · rw [pk_uLn h9]; exact hg j (by omega)
/-- Lights.nearest behind i places: the best, its steps -/
def nearS (f : Nat → Int64) (z : Nat → Int32) : Nat → Int32 × Int64
  | 0 => (-1, 2305843009213693952)
  | i + 1 => if z i = 0 then (if 0 ≤ lg_cmp (f i) (nearS f z i).2 then nearS f z i else (nI i, f i)) else nearS f z i
theorem nearS_a {f : Nat → Int64} {z : Nat → Int32} {i : Nat} (h : ¬ z i = 0) : nearS f z (i + 1) = nearS f z i := by
  rw [nearS, if_neg h]
theorem nearS_b {f : Nat → Int64} {z : Nat → Int32} {i : Nat} (h : z i = 0) (h2 : 0 ≤ lg_cmp (f i) (nearS f z i).2) : nearS f z (i + 1) = nearS f z i := by
  rw [nearS, if_pos h, if_pos h2]
theorem nearS_c {f : Nat → Int64} {z : Nat → Int32} {i : Nat} (h : z i = 0) (h2 : ¬ 0 ≤ lg_cmp (f i) (nearS f z i).2) : nearS f z (i + 1) = (nI i, f i) := by
  rw [nearS, if_pos h, if_neg h2]
def NEV : Int64 := 2305843009213693952
/-- the lights of no rule at all -/
def Lz (f : Nat → Int64) (g : Nat → Int32) : Prop := (∀ j, j < 48 → f j = 2305843009213693952) ∧ ∀ j, j < 48 → g j = -1
theorem opn_ok {a : Nat} (h : a < 3) : (if nI a < 0 then (0 : Int32) else if 3 ≤ nI a then 0 else 1) = 1 := by
  rw [if_neg (nI_pos (by omega)), if_neg (show ¬ (3 : Int32) ≤ nI a from nI_ge (b := 3) h (by decide))]
theorem opn_bad {x : Int32} (h : x < 0 ∨ 3 ≤ x) : (if x < 0 then (0 : Int32) else if 3 ≤ x then 0 else 1) = 0 := by
  rcases h with h | h
  · rw [if_pos h]
  · by_cases h2 : x < 0
    · rw [if_pos h2]
    · rw [if_neg h2, if_pos h]
theorem has0 (x : Int32) : (if x < 0 then (0 : Int32) else if 0 ≤ x then 0 else 1) = 0 := by
  by_cases h : x < 0
  · rw [if_pos h]
  · rw [if_neg h, if_pos (Int32.not_lt.mp h)]
theorem i32_split3 (x : Int32) : (x < 0 ∨ 3 ≤ x) ∨ ∃ a : Nat, a < 3 ∧ x = nI a := by
  by_cases h : x < 0
  · exact Or.inl (Or.inl h)
  · by_cases h3 : 3 ≤ x
    · exact Or.inl (Or.inr h3)
    · obtain ⟨j, hj, e⟩ := nI_of h
      refine Or.inr ⟨j, ?_, e⟩
      rcases Nat.lt_or_ge j 3 with q | q
      · exact q
      · exact absurd (by rw [e]; exact nI_le (a := 3) q hj) h3
theorem opn_few {x v : Int32} (h : (if x < 0 then (0 : Int32) else if 3 ≤ x then 0 else 1) = 0) : (-1001 : Int32) = if x < 0 then -1001 else if 3 ≤ x then -1001 else v := by
  by_cases h1 : x < 0
  · rw [if_pos h1]
  · by_cases h2 : 3 ≤ x
    · rw [if_neg h1, if_pos h2]
    · rw [if_neg h1, if_neg h2] at h
      exact absurd h (by decide)
theorem opn_few2 {x v : Int32} (h : ¬ (if x < 0 then (0 : Int32) else if 3 ≤ x then 0 else 1) = 0) : v = if x < 0 then -1001 else if 3 ≤ x then -1001 else v := by
  by_cases h1 : x < 0
  · rw [if_pos h1] at h
    exact absurd rfl h
  · by_cases h2 : 3 ≤ x
    · rw [if_neg h1, if_pos h2] at h
      exact absurd rfl h
    · rw [if_neg h1, if_neg h2]
def cnt0 (x : Int32) : Int32 := if x.toInt < 0 ∨ 7 < x.toInt then -1002 else 0
theorem cnt0_out {x : Int32} (h : x.toInt < 0 ∨ 7 < x.toInt) : (-1002 : Int32) = cnt0 x := by
  rw [cnt0, if_pos h]
theorem cnt0_in {x k : Int32} (h : x = k) (h2 : ¬ (k.toInt < 0 ∨ 7 < k.toInt)) : (0 : Int32) = cnt0 x := by
  rw [cnt0, h, if_neg h2]
theorem near_skip {f : Nat → Int64} {z : Nat → Int32} {a : Nat} {p : Int32 × Int64} (ha : nearS f z a = p) : ∀ n, (∀ j, j < n → (¬ z (a + j) = 0 ∨ 0 ≤ lg_cmp (f (a + j)) p.2)) → nearS f z (a + n) = p := by
  intro n
  induction n with
  | zero => intro _; exact ha
  | succ n ih =>
    intro h
    have h1 := ih (fun j hj => h j (by omega))
    show nearS f z (a + n + 1) = p
    by_cases hz : z (a + n) = 0
    · rcases h n (by omega) with h2 | h2
      · exact absurd hz h2
      · rw [nearS_b hz (by rw [h1]; exact h2), h1]
    · rw [nearS_a hz, h1]
abbrev nF : Nat → Int64 := vp_updL (vp_updL (vp_updL (fun _ => 2305843009213693952) 57 0) 79 0) 92 0
theorem near_1 : (nearS nF (fun _ => 0) 96).1 = 57 := by
  have h0 : nearS nF (fun _ => 0) (0 + 57) = (-1, 2305843009213693952) := near_skip rfl 57 (by decide +kernel)
  have h1 : nearS nF (fun _ => 0) (57 + 1) = (57, 0) := nearS_c rfl (by rw [show (57 : Nat) = 0 + 57 from rfl, h0]; decide +kernel)
  rw [show (96 : Nat) = 57 + 1 + 38 from rfl, near_skip h1 38 (by decide +kernel)]
theorem near_2 : (nearS nF (upd (fun _ => 0) 57 1) 96).1 = 79 := by
  have h0 : nearS nF (upd (fun _ => 0) 57 1) (0 + 79) = (-1, 2305843009213693952) := near_skip rfl 79 (by decide +kernel)
  have h1 : nearS nF (upd (fun _ => 0) 57 1) (79 + 1) = (79, 0) := nearS_c (by decide +kernel) (by rw [show (79 : Nat) = 0 + 79 from rfl, h0]; decide +kernel)
  rw [show (96 : Nat) = 79 + 1 + 16 from rfl, near_skip h1 16 (by decide +kernel)]
theorem near_3 : (nearS nF (upd (upd (fun _ => 0) 57 1) 79 1) 96).1 = 92 := by
  have h0 : nearS nF (upd (upd (fun _ => 0) 57 1) 79 1) (0 + 92) = (-1, 2305843009213693952) := near_skip rfl 92 (by decide +kernel)
  have h1 : nearS nF (upd (upd (fun _ => 0) 57 1) 79 1) (92 + 1) = (92, 0) := nearS_c (by decide +kernel) (by rw [show (92 : Nat) = 0 + 92 from rfl, h0]; decide +kernel)
  rw [show (96 : Nat) = 92 + 1 + 3 from rfl, near_skip h1 3 (by decide +kernel)]
theorem near_4 : (nearS nF (upd (upd (upd (fun _ => 0) 57 1) 79 1) 92 1) 96).1 = -1 := by
  have h0 : nearS nF (upd (upd (upd (fun _ => 0) 57 1) 79 1) 92 1) (0 + 96) = (-1, 2305843009213693952) := near_skip rfl 96 (by decide +kernel)
  rw [show (96 : Nat) = 0 + 96 from rfl, h0]
theorem nF_0 : ∀ j, j < 48 → nF j = 2305843009213693952 := by decide +kernel
theorem nG_0 : ∀ j, j < 48 → (upd (upd (upd (fun _ => (-1)) 57 (-1)) 79 (-1)) 92 (-1)) j = (-1 : Int32) := by decide +kernel
theorem few_ok {a : Nat} {v : Int32} (h : a < 3) : (if nI a < 0 then (-1001 : Int32) else if 3 ≤ nI a then -1001 else v) = v := by
  rw [if_neg (nI_pos (by omega)), if_neg (show ¬ (3 : Int32) ≤ nI a from nI_ge (b := 3) h (by decide))]
theorem cnt0_ok {k : Nat} (h : k < 8) : cnt0 (nI k) = 0 := by
  rw [cnt0, if_neg]
  rw [nI_toInt (by omega)]
  omega
/-! the digest of an object without rules, graph and text -/
def dk (h : Int64) : Nat → Int64
  | 0 => h
  | k + 1 => 31 * (31 * dk h k + (-1)) + (-1)
def dO : Nat → Int64
  | 0 => 31 * 1709 + (-1003)
  | i + 1 => dk (31 * (31 * dO i + (-1003)) + 0) 16
def dC (h : Int64) : Nat → Int64
  | 0 => h
  | k + 1 => 31 * dC h k + 0
def LSt (v : Int32) (f : Nat → Int64) (g : Nat → Int32) : Prop := v = 0 ∨ (v = 1 ∧ Lz f g)
end
section
theorem mS_X6_isOpen : Cond.static yX6_isOpen ∈ gT ∧ Cond.initialized yX6_isOpen.cls ∈ gT ∧ Cond.code yX6_isOpen cX6_isOpen 1 (some .boolean) ∈ gT := ⟨t_217, t_1, t_218⟩
theorem hS_X6_isOpen : yX6_isOpen.cls ≠ "java/lang/invoke/MethodHandle" ∧ yX6_isOpen.cls ≠ "java/lang/invoke/VarHandle" ∧ (parseMethodDescriptor yX6_isOpen.desc).map (fun d => d.parameters.length) = some 1 := by decide +kernel
theorem mS_X6_mix : Cond.static yX6_mix ∈ gT ∧ Cond.initialized yX6_mix.cls ∈ gT ∧ Cond.code yX6_mix cX6_mix 3 (some .long) ∈ gT := ⟨t_536, t_1, t_537⟩
theorem hS_X6_mix : yX6_mix.cls ≠ "java/lang/invoke/MethodHandle" ∧ yX6_mix.cls ≠ "java/lang/invoke/VarHandle" ∧ (parseMethodDescriptor yX6_mix.desc).map (fun d => d.parameters.length) = some 2 := by decide +kernel
theorem mV_X0_has : Cond.instanceMethod yX0_has ∈ gT ∧ Cond.selects RX0 yX0_has yX0_has ∈ gT ∧ Cond.initialized RX0 ∈ gT ∧ Cond.code yX0_has cX0_has 2 (some .boolean) ∈ gT := ⟨t_280, t_281, t_5, t_282⟩
theorem hV_X0_has : yX0_has.cls = RX0 ∧ yX0_has.cls ≠ "java/lang/invoke/MethodHandle" ∧ yX0_has.cls ≠ "java/lang/invoke/VarHandle" ∧ (parseMethodDescriptor yX0_has.desc).map (fun d => d.parameters.length) = some 1 := by decide +kernel
theorem mV_X0_clear : Cond.instanceMethod yX0_clear ∈ gT ∧ Cond.selects RX0 yX0_clear yX0_clear ∈ gT ∧ Cond.initialized RX0 ∈ gT ∧ Cond.code yX0_clear cX0_clear 2 none ∈ gT := ⟨t_268, t_269, t_5, t_270⟩
theorem hV_X0_clear : yX0_clear.cls = RX0 ∧ yX0_clear.cls ≠ "java/lang/invoke/MethodHandle" ∧ yX0_clear.cls ≠ "java/lang/invoke/VarHandle" ∧ (parseMethodDescriptor yX0_clear.desc).map (fun d => d.parameters.length) = some 1 := by decide +kernel
theorem mV_X5_has : Cond.instanceMethod yX5_has ∈ gT ∧ Cond.selects RX5 yX5_has yX5_has ∈ gT ∧ Cond.initialized RX5 ∈ gT ∧ Cond.code yX5_has cX5_has 2 (some .boolean) ∈ gT := ⟨t_304, t_305, t_3, t_306⟩
theorem hV_X5_has : yX5_has.cls = RX5 ∧ yX5_has.cls ≠ "java/lang/invoke/MethodHandle" ∧ yX5_has.cls ≠ "java/lang/invoke/VarHandle" ∧ (parseMethodDescriptor yX5_has.desc).map (fun d => d.parameters.length) = some 1 := by decide +kernel
theorem mV_X3_clear : Cond.instanceMethod yX3_clear ∈ gT ∧ Cond.selects RX3 yX3_clear yX3_clear ∈ gT ∧ Cond.initialized RX3 ∈ gT ∧ Cond.code yX3_clear cX3_clear 1 none ∈ gT := ⟨t_198, t_199, t_2, t_200⟩
theorem hV_X3_clear : yX3_clear.cls = RX3 ∧ yX3_clear.cls ≠ "java/lang/invoke/MethodHandle" ∧ yX3_clear.cls ≠ "java/lang/invoke/VarHandle" ∧ (parseMethodDescriptor yX3_clear.desc).map (fun d => d.parameters.length) = some 0 := by decide +kernel
theorem mI_X0_init : Cond.code yX0_init cX0_init 2 none ∈ gT ∧ Cond.initialized yX0_init.cls ∈ gT ∧ Cond.instanceMethod yX0_init ∈ gT := ⟨t_53, t_5, t_52⟩
theorem hS_X0_init : yX0_init.cls ≠ "java/lang/invoke/MethodHandle" ∧ yX0_init.cls ≠ "java/lang/invoke/VarHandle" ∧ (parseMethodDescriptor yX0_init.desc).map (fun d => d.parameters.length) = some 1 := by decide +kernel
theorem mI_X3_init : Cond.code yX3_init cX3_init 1 none ∈ gT ∧ Cond.initialized yX3_init.cls ∈ gT ∧ Cond.instanceMethod yX3_init ∈ gT := ⟨t_24, t_2, t_23⟩
theorem hS_X3_init : yX3_init.cls ≠ "java/lang/invoke/MethodHandle" ∧ yX3_init.cls ≠ "java/lang/invoke/VarHandle" ∧ (parseMethodDescriptor yX3_init.desc).map (fun d => d.parameters.length) = some 0 := by decide +kernel
theorem mI_X4_init : Cond.code yX4_init cX4_init 1 none ∈ gT ∧ Cond.initialized yX4_init.cls ∈ gT ∧ Cond.instanceMethod yX4_init ∈ gT := ⟨t_47, t_4, t_46⟩
theorem hS_X4_init : yX4_init.cls ≠ "java/lang/invoke/MethodHandle" ∧ yX4_init.cls ≠ "java/lang/invoke/VarHandle" ∧ (parseMethodDescriptor yX4_init.desc).map (fun d => d.parameters.length) = some 0 := by decide +kernel
theorem mI_X5_init : Cond.code yX5_init cX5_init 2 none ∈ gT ∧ Cond.initialized yX5_init.cls ∈ gT ∧ Cond.instanceMethod yX5_init ∈ gT := ⟨t_40, t_3, t_39⟩
theorem hS_X5_init : yX5_init.cls ≠ "java/lang/invoke/MethodHandle" ∧ yX5_init.cls ≠ "java/lang/invoke/VarHandle" ∧ (parseMethodDescriptor yX5_init.desc).map (fun d => d.parameters.length) = some 0 := by decide +kernel
theorem mI_X2_init : Cond.code yX2_init cX2_init 1 none ∈ gT ∧ Cond.initialized yX2_init.cls ∈ gT ∧ Cond.instanceMethod yX2_init ∈ gT := ⟨t_121, t_6, t_120⟩
theorem hS_X2_init : yX2_init.cls ≠ "java/lang/invoke/MethodHandle" ∧ yX2_init.cls ≠ "java/lang/invoke/VarHandle" ∧ (parseMethodDescriptor yX2_init.desc).map (fun d => d.parameters.length) = some 0 := by decide +kernel
theorem mI_X1_init : Cond.code yX1_init cX1_init 1 none ∈ gT ∧ Cond.initialized yX1_init.cls ∈ gT ∧ Cond.instanceMethod yX1_init ∈ gT := ⟨t_134, t_7, t_133⟩
theorem hS_X1_init : yX1_init.cls ≠ "java/lang/invoke/MethodHandle" ∧ yX1_init.cls ≠ "java/lang/invoke/VarHandle" ∧ (parseMethodDescriptor yX1_init.desc).map (fun d => d.parameters.length) = some 0 := by decide +kernel
theorem mI_X6_init : Cond.code yX6_init cX6_init 1 none ∈ gT ∧ Cond.initialized yX6_init.cls ∈ gT ∧ Cond.instanceMethod yX6_init ∈ gT := ⟨t_16, t_1, t_15⟩
theorem hS_X6_init : yX6_init.cls ≠ "java/lang/invoke/MethodHandle" ∧ yX6_init.cls ≠ "java/lang/invoke/VarHandle" ∧ (parseMethodDescriptor yX6_init.desc).map (fun d => d.parameters.length) = some 0 := by decide +kernel
theorem mI_X7_init : Cond.code yX7_init cX7_init 1 none ∈ gT ∧ Cond.initialized yX7_init.cls ∈ gT ∧ Cond.instanceMethod yX7_init ∈ gT := ⟨t_549, t_8, t_548⟩
theorem hS_X7_init : yX7_init.cls ≠ "java/lang/invoke/MethodHandle" ∧ yX7_init.cls ≠ "java/lang/invoke/VarHandle" ∧ (parseMethodDescriptor yX7_init.desc).map (fun d => d.parameters.length) = some 0 := by decide +kernel
theorem dX0_clear_0 : decode cX0_clear 0 = .ok (.aload_n 0, 1) := by decide +kernel
theorem dX0_clear_1 : decode cX0_clear 1 = .ok (.iconst 0, 1) := by decide +kernel
theorem dX0_clear_2 : decode cX0_clear 2 = .ok (.putfield 9, 3) := by decide +kernel
theorem dX0_clear_5 : decode cX0_clear 5 = .ok (.aload_n 0, 1) := by decide +kernel
theorem dX0_clear_6 : decode cX0_clear 6 = .ok (.iload_n 1, 1) := by decide +kernel
theorem dX0_clear_7 : decode cX0_clear 7 = .ok (.putfield 15, 3) := by decide +kernel
theorem dX0_clear_10 : decode cX0_clear 10 = .ok (.return_, 1) := by decide +kernel
theorem dX0_has_0 : decode cX0_has 0 = .ok (.iload_n 1, 1) := by decide +kernel
theorem dX0_has_1 : decode cX0_has 1 = .ok (.ifCond .lt 15, 3) := by decide +kernel
theorem dX0_has_4 : decode cX0_has 4 = .ok (.iload_n 1, 1) := by decide +kernel
theorem dX0_has_5 : decode cX0_has 5 = .ok (.aload_n 0, 1) := by decide +kernel
theorem dX0_has_6 : decode cX0_has 6 = .ok (.getfield 9, 3) := by decide +kernel
theorem dX0_has_9 : decode cX0_has 9 = .ok (.if_icmp .ge 7, 3) := by decide +kernel
theorem dX0_has_12 : decode cX0_has 12 = .ok (.iconst 1, 1) := by decide +kernel
theorem dX0_has_13 : decode cX0_has 13 = .ok (.goto 4, 3) := by decide +kernel
theorem dX0_has_16 : decode cX0_has 16 = .ok (.iconst 0, 1) := by decide +kernel
theorem dX0_has_17 : decode cX0_has 17 = .ok (.ireturn, 1) := by decide +kernel
theorem dX0_init_0 : decode cX0_init 0 = .ok (.aload_n 0, 1) := by decide +kernel
theorem dX0_init_1 : decode cX0_init 1 = .ok (.invokespecial 3, 3) := by decide +kernel
theorem dX0_init_4 : decode cX0_init 4 = .ok (.aload_n 0, 1) := by decide +kernel
theorem dX0_init_5 : decode cX0_init 5 = .ok (.iconst 0, 1) := by decide +kernel
theorem dX0_init_6 : decode cX0_init 6 = .ok (.putfield 9, 3) := by decide +kernel
theorem dX0_init_9 : decode cX0_init 9 = .ok (.aload_n 0, 1) := by decide +kernel
theorem dX0_init_10 : decode cX0_init 10 = .ok (.iconst 0, 1) := by decide +kernel
theorem dX0_init_11 : decode cX0_init 11 = .ok (.putfield 15, 3) := by decide +kernel
theorem dX0_init_14 : decode cX0_init 14 = .ok (.aload_n 0, 1) := by decide +kernel
theorem dX0_init_15 : decode cX0_init 15 = .ok (.iload_n 1, 1) := by decide +kernel
theorem dX0_init_16 : decode cX0_init 16 = .ok (.newarray .int, 2) := by decide +kernel
theorem dX0_init_18 : decode cX0_init 18 = .ok (.putfield 18, 3) := by decide +kernel
theorem dX0_init_21 : decode cX0_init 21 = .ok (.aload_n 0, 1) := by decide +kernel
theorem dX0_init_22 : decode cX0_init 22 = .ok (.iload_n 1, 1) := by decide +kernel
theorem dX0_init_23 : decode cX0_init 23 = .ok (.newarray .int, 2) := by decide +kernel
theorem dX0_init_25 : decode cX0_init 25 = .ok (.putfield 22, 3) := by decide +kernel
theorem dX0_init_28 : decode cX0_init 28 = .ok (.aload_n 0, 1) := by decide +kernel
theorem dX0_init_29 : decode cX0_init 29 = .ok (.iload_n 1, 1) := by decide +kernel
theorem dX0_init_30 : decode cX0_init 30 = .ok (.newarray .int, 2) := by decide +kernel
theorem dX0_init_32 : decode cX0_init 32 = .ok (.putfield 25, 3) := by decide +kernel
theorem dX0_init_35 : decode cX0_init 35 = .ok (.return_, 1) := by decide +kernel
theorem dX1_init_0 : decode cX1_init 0 = .ok (.aload_n 0, 1) := by decide +kernel
theorem dX1_init_1 : decode cX1_init 1 = .ok (.invokespecial 3, 3) := by decide +kernel
theorem dX1_init_4 : decode cX1_init 4 = .ok (.aload_n 0, 1) := by decide +kernel
theorem dX1_init_5 : decode cX1_init 5 = .ok (.bipush 96, 2) := by decide +kernel
theorem dX1_init_7 : decode cX1_init 7 = .ok (.newarray .long, 2) := by decide +kernel
theorem dX1_init_9 : decode cX1_init 9 = .ok (.putfield 11, 3) := by decide +kernel
theorem dX1_init_12 : decode cX1_init 12 = .ok (.aload_n 0, 1) := by decide +kernel
theorem dX1_init_13 : decode cX1_init 13 = .ok (.bipush 96, 2) := by decide +kernel
theorem dX1_init_15 : decode cX1_init 15 = .ok (.newarray .int, 2) := by decide +kernel
theorem dX1_init_17 : decode cX1_init 17 = .ok (.putfield 15, 3) := by decide +kernel
theorem dX1_init_20 : decode cX1_init 20 = .ok (.aload_n 0, 1) := by decide +kernel
theorem dX1_init_21 : decode cX1_init 21 = .ok (.bipush 96, 2) := by decide +kernel
theorem dX1_init_23 : decode cX1_init 23 = .ok (.newarray .boolean, 2) := by decide +kernel
theorem dX1_init_25 : decode cX1_init 25 = .ok (.putfield 19, 3) := by decide +kernel
theorem dX1_init_28 : decode cX1_init 28 = .ok (.aload_n 0, 1) := by decide +kernel
theorem dX1_init_29 : decode cX1_init 29 = .ok (.bipush 96, 2) := by decide +kernel
theorem dX1_init_31 : decode cX1_init 31 = .ok (.newarray .int, 2) := by decide +kernel
theorem dX1_init_33 : decode cX1_init 33 = .ok (.putfield 23, 3) := by decide +kernel
theorem dX1_init_36 : decode cX1_init 36 = .ok (.aload_n 0, 1) := by decide +kernel
theorem dX1_init_37 : decode cX1_init 37 = .ok (.bipush 6, 2) := by decide +kernel
theorem dX1_init_39 : decode cX1_init 39 = .ok (.newarray .int, 2) := by decide +kernel
theorem dX1_init_41 : decode cX1_init 41 = .ok (.putfield 26, 3) := by decide +kernel
theorem dX1_init_44 : decode cX1_init 44 = .ok (.return_, 1) := by decide +kernel
theorem dX2_init_0 : decode cX2_init 0 = .ok (.aload_n 0, 1) := by decide +kernel
theorem dX2_init_1 : decode cX2_init 1 = .ok (.invokespecial 3, 3) := by decide +kernel
theorem dX2_init_4 : decode cX2_init 4 = .ok (.aload_n 0, 1) := by decide +kernel
theorem dX2_init_5 : decode cX2_init 5 = .ok (.sipush 2400, 3) := by decide +kernel
theorem dX2_init_8 : decode cX2_init 8 = .ok (.newarray .int, 2) := by decide +kernel
theorem dX2_init_10 : decode cX2_init 10 = .ok (.putfield 11, 3) := by decide +kernel
theorem dX2_init_13 : decode cX2_init 13 = .ok (.aload_n 0, 1) := by decide +kernel
theorem dX2_init_14 : decode cX2_init 14 = .ok (.iconst 4, 1) := by decide +kernel
theorem dX2_init_15 : decode cX2_init 15 = .ok (.newarray .int, 2) := by decide +kernel
theorem dX2_init_17 : decode cX2_init 17 = .ok (.putfield 15, 3) := by decide +kernel
theorem dX2_init_20 : decode cX2_init 20 = .ok (.return_, 1) := by decide +kernel
theorem dX3_clear_0 : decode cX3_clear 0 = .ok (.aload_n 0, 1) := by decide +kernel
theorem dX3_clear_1 : decode cX3_clear 1 = .ok (.iconst 0, 1) := by decide +kernel
theorem dX3_clear_2 : decode cX3_clear 2 = .ok (.putfield 15, 3) := by decide +kernel
theorem dX3_clear_5 : decode cX3_clear 5 = .ok (.return_, 1) := by decide +kernel
theorem dX3_init_0 : decode cX3_init 0 = .ok (.aload_n 0, 1) := by decide +kernel
theorem dX3_init_1 : decode cX3_init 1 = .ok (.invokespecial 3, 3) := by decide +kernel
theorem dX3_init_4 : decode cX3_init 4 = .ok (.aload_n 0, 1) := by decide +kernel
theorem dX3_init_5 : decode cX3_init 5 = .ok (.bipush 16, 2) := by decide +kernel
theorem dX3_init_7 : decode cX3_init 7 = .ok (.newarray .int, 2) := by decide +kernel
theorem dX3_init_9 : decode cX3_init 9 = .ok (.putfield 9, 3) := by decide +kernel
theorem dX3_init_12 : decode cX3_init 12 = .ok (.aload_n 0, 1) := by decide +kernel
theorem dX3_init_13 : decode cX3_init 13 = .ok (.iconst 0, 1) := by decide +kernel
theorem dX3_init_14 : decode cX3_init 14 = .ok (.putfield 15, 3) := by decide +kernel
theorem dX3_init_17 : decode cX3_init 17 = .ok (.return_, 1) := by decide +kernel
theorem dX4_init_0 : decode cX4_init 0 = .ok (.aload_n 0, 1) := by decide +kernel
theorem dX4_init_1 : decode cX4_init 1 = .ok (.invokespecial 3, 3) := by decide +kernel
theorem dX4_init_4 : decode cX4_init 4 = .ok (.aload_n 0, 1) := by decide +kernel
theorem dX4_init_5 : decode cX4_init 5 = .ok (.iconst 0, 1) := by decide +kernel
theorem dX4_init_6 : decode cX4_init 6 = .ok (.putfield 9, 3) := by decide +kernel
theorem dX4_init_9 : decode cX4_init 9 = .ok (.aload_n 0, 1) := by decide +kernel
theorem dX4_init_10 : decode cX4_init 10 = .ok (.new 15, 3) := by decide +kernel
theorem dX4_init_13 : decode cX4_init 13 = .ok (.dup, 1) := by decide +kernel
theorem dX4_init_14 : decode cX4_init 14 = .ok (.iconst 3, 1) := by decide +kernel
theorem dX4_init_15 : decode cX4_init 15 = .ok (.invokespecial 17, 3) := by decide +kernel
theorem dX4_init_18 : decode cX4_init 18 = .ok (.putfield 20, 3) := by decide +kernel
theorem dX4_init_21 : decode cX4_init 21 = .ok (.aload_n 0, 1) := by decide +kernel
theorem dX4_init_22 : decode cX4_init 22 = .ok (.iconst 3, 1) := by decide +kernel
theorem dX4_init_23 : decode cX4_init 23 = .ok (.newarray .int, 2) := by decide +kernel
theorem dX4_init_25 : decode cX4_init 25 = .ok (.putfield 24, 3) := by decide +kernel
theorem dX4_init_28 : decode cX4_init 28 = .ok (.aload_n 0, 1) := by decide +kernel
theorem dX4_init_29 : decode cX4_init 29 = .ok (.bipush 64, 2) := by decide +kernel
theorem dX4_init_31 : decode cX4_init 31 = .ok (.newarray .int, 2) := by decide +kernel
theorem dX4_init_33 : decode cX4_init 33 = .ok (.putfield 28, 3) := by decide +kernel
theorem dX4_init_36 : decode cX4_init 36 = .ok (.aload_n 0, 1) := by decide +kernel
theorem dX4_init_37 : decode cX4_init 37 = .ok (.bipush 64, 2) := by decide +kernel
theorem dX4_init_39 : decode cX4_init 39 = .ok (.newarray .int, 2) := by decide +kernel
theorem dX4_init_41 : decode cX4_init 41 = .ok (.putfield 31, 3) := by decide +kernel
theorem dX4_init_44 : decode cX4_init 44 = .ok (.return_, 1) := by decide +kernel
theorem dX5_has_0 : decode cX5_has 0 = .ok (.iload_n 1, 1) := by decide +kernel
theorem dX5_has_1 : decode cX5_has 1 = .ok (.ifCond .lt 15, 3) := by decide +kernel
theorem dX5_has_4 : decode cX5_has 4 = .ok (.iload_n 1, 1) := by decide +kernel
theorem dX5_has_5 : decode cX5_has 5 = .ok (.aload_n 0, 1) := by decide +kernel
theorem dX5_has_6 : decode cX5_has 6 = .ok (.getfield 17, 3) := by decide +kernel
theorem dX5_has_9 : decode cX5_has 9 = .ok (.if_icmp .ge 7, 3) := by decide +kernel
theorem dX5_has_12 : decode cX5_has 12 = .ok (.iconst 1, 1) := by decide +kernel
theorem dX5_has_13 : decode cX5_has 13 = .ok (.goto 4, 3) := by decide +kernel
theorem dX5_has_16 : decode cX5_has 16 = .ok (.iconst 0, 1) := by decide +kernel
theorem dX5_has_17 : decode cX5_has 17 = .ok (.ireturn, 1) := by decide +kernel
theorem dX5_init_0 : decode cX5_init 0 = .ok (.aload_n 0, 1) := by decide +kernel
theorem dX5_init_1 : decode cX5_init 1 = .ok (.invokespecial 3, 3) := by decide +kernel
theorem dX5_init_4 : decode cX5_init 4 = .ok (.aload_n 0, 1) := by decide +kernel
theorem dX5_init_5 : decode cX5_init 5 = .ok (.bipush 9, 2) := by decide +kernel
theorem dX5_init_7 : decode cX5_init 7 = .ok (.anewarray 9, 3) := by decide +kernel
theorem dX5_init_10 : decode cX5_init 10 = .ok (.putfield 11, 3) := by decide +kernel
theorem dX5_init_13 : decode cX5_init 13 = .ok (.aload_n 0, 1) := by decide +kernel
theorem dX5_init_14 : decode cX5_init 14 = .ok (.iconst 0, 1) := by decide +kernel
theorem dX5_init_15 : decode cX5_init 15 = .ok (.putfield 17, 3) := by decide +kernel
theorem dX5_init_18 : decode cX5_init 18 = .ok (.iconst 0, 1) := by decide +kernel
theorem dX5_init_19 : decode cX5_init 19 = .ok (.istore_n 1, 1) := by decide +kernel
theorem dX5_init_20 : decode cX5_init 20 = .ok (.iload_n 1, 1) := by decide +kernel
theorem dX5_init_21 : decode cX5_init 21 = .ok (.aload_n 0, 1) := by decide +kernel
theorem dX5_init_22 : decode cX5_init 22 = .ok (.getfield 11, 3) := by decide +kernel
theorem dX5_init_25 : decode cX5_init 25 = .ok (.arraylength, 1) := by decide +kernel
theorem dX5_init_26 : decode cX5_init 26 = .ok (.if_icmp .ge 22, 3) := by decide +kernel
theorem dX5_init_29 : decode cX5_init 29 = .ok (.aload_n 0, 1) := by decide +kernel
theorem dX5_init_30 : decode cX5_init 30 = .ok (.getfield 11, 3) := by decide +kernel
theorem dX5_init_33 : decode cX5_init 33 = .ok (.iload_n 1, 1) := by decide +kernel
theorem dX5_init_34 : decode cX5_init 34 = .ok (.new 9, 3) := by decide +kernel
theorem dX5_init_37 : decode cX5_init 37 = .ok (.dup, 1) := by decide +kernel
theorem dX5_init_38 : decode cX5_init 38 = .ok (.invokespecial 21, 3) := by decide +kernel
theorem dX5_init_41 : decode cX5_init 41 = .ok (.aastore, 1) := by decide +kernel
theorem dX5_init_42 : decode cX5_init 42 = .ok (.iinc 1 1, 3) := by decide +kernel
theorem dX5_init_45 : decode cX5_init 45 = .ok (.goto (-25), 3) := by decide +kernel
theorem dX5_init_48 : decode cX5_init 48 = .ok (.return_, 1) := by decide +kernel
theorem dX6_init_0 : decode cX6_init 0 = .ok (.aload_n 0, 1) := by decide +kernel
theorem dX6_init_1 : decode cX6_init 1 = .ok (.invokespecial 1, 3) := by decide +kernel
theorem dX6_init_4 : decode cX6_init 4 = .ok (.aload_n 0, 1) := by decide +kernel
theorem dX6_init_5 : decode cX6_init 5 = .ok (.new 7, 3) := by decide +kernel
theorem dX6_init_8 : decode cX6_init 8 = .ok (.dup, 1) := by decide +kernel
theorem dX6_init_9 : decode cX6_init 9 = .ok (.invokespecial 9, 3) := by decide +kernel
theorem dX6_init_12 : decode cX6_init 12 = .ok (.putfield 10, 3) := by decide +kernel
theorem dX6_init_15 : decode cX6_init 15 = .ok (.aload_n 0, 1) := by decide +kernel
theorem dX6_init_16 : decode cX6_init 16 = .ok (.new 16, 3) := by decide +kernel
theorem dX6_init_19 : decode cX6_init 19 = .ok (.dup, 1) := by decide +kernel
theorem dX6_init_20 : decode cX6_init 20 = .ok (.invokespecial 18, 3) := by decide +kernel
theorem dX6_init_23 : decode cX6_init 23 = .ok (.putfield 19, 3) := by decide +kernel
theorem dX6_init_26 : decode cX6_init 26 = .ok (.aload_n 0, 1) := by decide +kernel
theorem dX6_init_27 : decode cX6_init 27 = .ok (.new 23, 3) := by decide +kernel
theorem dX6_init_30 : decode cX6_init 30 = .ok (.dup, 1) := by decide +kernel
theorem dX6_init_31 : decode cX6_init 31 = .ok (.bipush 12, 2) := by decide +kernel
theorem dX6_init_33 : decode cX6_init 33 = .ok (.invokespecial 25, 3) := by decide +kernel
theorem dX6_init_36 : decode cX6_init 36 = .ok (.putfield 28, 3) := by decide +kernel
theorem dX6_init_39 : decode cX6_init 39 = .ok (.aload_n 0, 1) := by decide +kernel
theorem dX6_init_40 : decode cX6_init 40 = .ok (.new 32, 3) := by decide +kernel
theorem dX6_init_43 : decode cX6_init 43 = .ok (.dup, 1) := by decide +kernel
theorem dX6_init_44 : decode cX6_init 44 = .ok (.invokespecial 34, 3) := by decide +kernel
theorem dX6_init_47 : decode cX6_init 47 = .ok (.putfield 35, 3) := by decide +kernel
theorem dX6_init_50 : decode cX6_init 50 = .ok (.aload_n 0, 1) := by decide +kernel
theorem dX6_init_51 : decode cX6_init 51 = .ok (.new 39, 3) := by decide +kernel
theorem dX6_init_54 : decode cX6_init 54 = .ok (.dup, 1) := by decide +kernel
theorem dX6_init_55 : decode cX6_init 55 = .ok (.invokespecial 41, 3) := by decide +kernel
theorem dX6_init_58 : decode cX6_init 58 = .ok (.putfield 42, 3) := by decide +kernel
theorem dX6_init_61 : decode cX6_init 61 = .ok (.aload_n 0, 1) := by decide +kernel
theorem dX6_init_62 : decode cX6_init 62 = .ok (.iconst 0, 1) := by decide +kernel
theorem dX6_init_63 : decode cX6_init 63 = .ok (.putfield 46, 3) := by decide +kernel
theorem dX6_init_66 : decode cX6_init 66 = .ok (.aload_n 0, 1) := by decide +kernel
theorem dX6_init_67 : decode cX6_init 67 = .ok (.iconst 0, 1) := by decide +kernel
theorem dX6_init_68 : decode cX6_init 68 = .ok (.putfield 50, 3) := by decide +kernel
theorem dX6_init_71 : decode cX6_init 71 = .ok (.aload_n 0, 1) := by decide +kernel
theorem dX6_init_72 : decode cX6_init 72 = .ok (.iconst 0, 1) := by decide +kernel
theorem dX6_init_73 : decode cX6_init 73 = .ok (.putfield 53, 3) := by decide +kernel
theorem dX6_init_76 : decode cX6_init 76 = .ok (.aload_n 0, 1) := by decide +kernel
theorem dX6_init_77 : decode cX6_init 77 = .ok (.iconst 0, 1) := by decide +kernel
theorem dX6_init_78 : decode cX6_init 78 = .ok (.putfield 57, 3) := by decide +kernel
theorem dX6_init_81 : decode cX6_init 81 = .ok (.aload_n 0, 1) := by decide +kernel
theorem dX6_init_82 : decode cX6_init 82 = .ok (.iconst 0, 1) := by decide +kernel
theorem dX6_init_83 : decode cX6_init 83 = .ok (.putfield 60, 3) := by decide +kernel
theorem dX6_init_86 : decode cX6_init 86 = .ok (.return_, 1) := by decide +kernel
theorem dX6_isOpen_0 : decode cX6_isOpen 0 = .ok (.iload_n 0, 1) := by decide +kernel
theorem dX6_isOpen_1 : decode cX6_isOpen 1 = .ok (.ifCond .lt 12, 3) := by decide +kernel
theorem dX6_isOpen_4 : decode cX6_isOpen 4 = .ok (.iload_n 0, 1) := by decide +kernel
theorem dX6_isOpen_5 : decode cX6_isOpen 5 = .ok (.iconst 3, 1) := by decide +kernel
theorem dX6_isOpen_6 : decode cX6_isOpen 6 = .ok (.if_icmp .ge 7, 3) := by decide +kernel
theorem dX6_isOpen_9 : decode cX6_isOpen 9 = .ok (.iconst 1, 1) := by decide +kernel
theorem dX6_isOpen_10 : decode cX6_isOpen 10 = .ok (.goto 4, 3) := by decide +kernel
theorem dX6_isOpen_13 : decode cX6_isOpen 13 = .ok (.iconst 0, 1) := by decide +kernel
theorem dX6_isOpen_14 : decode cX6_isOpen 14 = .ok (.ireturn, 1) := by decide +kernel
theorem dX6_mix_0 : decode cX6_mix 0 = .ok (.ldc2_w 204, 3) := by decide +kernel
theorem dX6_mix_3 : decode cX6_mix 3 = .ok (.lload_n 0, 1) := by decide +kernel
theorem dX6_mix_4 : decode cX6_mix 4 = .ok (.lmul, 1) := by decide +kernel
theorem dX6_mix_5 : decode cX6_mix 5 = .ok (.iload_n 2, 1) := by decide +kernel
theorem dX6_mix_6 : decode cX6_mix 6 = .ok (.i2l, 1) := by decide +kernel
theorem dX6_mix_7 : decode cX6_mix 7 = .ok (.ladd, 1) := by decide +kernel
theorem dX6_mix_8 : decode cX6_mix 8 = .ok (.lreturn, 1) := by decide +kernel
theorem dX7_init_0 : decode cX7_init 0 = .ok (.aload_n 0, 1) := by decide +kernel
theorem dX7_init_1 : decode cX7_init 1 = .ok (.invokespecial 1, 3) := by decide +kernel
theorem dX7_init_4 : decode cX7_init 4 = .ok (.aload_n 0, 1) := by decide +kernel
theorem dX7_init_5 : decode cX7_init 5 = .ok (.bipush 16, 2) := by decide +kernel
theorem dX7_init_7 : decode cX7_init 7 = .ok (.newarray .int, 2) := by decide +kernel
theorem dX7_init_9 : decode cX7_init 9 = .ok (.putfield 7, 3) := by decide +kernel
theorem dX7_init_12 : decode cX7_init 12 = .ok (.aload_n 0, 1) := by decide +kernel
theorem dX7_init_13 : decode cX7_init 13 = .ok (.bipush 9, 2) := by decide +kernel
theorem dX7_init_15 : decode cX7_init 15 = .ok (.newarray .int, 2) := by decide +kernel
theorem dX7_init_17 : decode cX7_init 17 = .ok (.putfield 13, 3) := by decide +kernel
theorem dX7_init_20 : decode cX7_init 20 = .ok (.aload_n 0, 1) := by decide +kernel
theorem dX7_init_21 : decode cX7_init 21 = .ok (.bipush 9, 2) := by decide +kernel
theorem dX7_init_23 : decode cX7_init 23 = .ok (.newarray .int, 2) := by decide +kernel
theorem dX7_init_25 : decode cX7_init 25 = .ok (.putfield 16, 3) := by decide +kernel
theorem dX7_init_28 : decode cX7_init 28 = .ok (.aload_n 0, 1) := by decide +kernel
theorem dX7_init_29 : decode cX7_init 29 = .ok (.bipush 9, 2) := by decide +kernel
theorem dX7_init_31 : decode cX7_init 31 = .ok (.newarray .int, 2) := by decide +kernel
theorem dX7_init_33 : decode cX7_init 33 = .ok (.putfield 19, 3) := by decide +kernel
theorem dX7_init_36 : decode cX7_init 36 = .ok (.aload_n 0, 1) := by decide +kernel
theorem dX7_init_37 : decode cX7_init 37 = .ok (.bipush 27, 2) := by decide +kernel
theorem dX7_init_39 : decode cX7_init 39 = .ok (.newarray .int, 2) := by decide +kernel
theorem dX7_init_41 : decode cX7_init 41 = .ok (.putfield 22, 3) := by decide +kernel
theorem dX7_init_44 : decode cX7_init 44 = .ok (.aload_n 0, 1) := by decide +kernel
theorem dX7_init_45 : decode cX7_init 45 = .ok (.bipush 12, 2) := by decide +kernel
theorem dX7_init_47 : decode cX7_init 47 = .ok (.newarray .int, 2) := by decide +kernel
theorem dX7_init_49 : decode cX7_init 49 = .ok (.putfield 25, 3) := by decide +kernel
theorem dX7_init_52 : decode cX7_init 52 = .ok (.aload_n 0, 1) := by decide +kernel
theorem dX7_init_53 : decode cX7_init 53 = .ok (.iconst 5, 1) := by decide +kernel
theorem dX7_init_54 : decode cX7_init 54 = .ok (.newarray .int, 2) := by decide +kernel
theorem dX7_init_56 : decode cX7_init 56 = .ok (.putfield 28, 3) := by decide +kernel
theorem dX7_init_59 : decode cX7_init 59 = .ok (.aload_n 0, 1) := by decide +kernel
theorem dX7_init_60 : decode cX7_init 60 = .ok (.sipush 2400, 3) := by decide +kernel
theorem dX7_init_63 : decode cX7_init 63 = .ok (.newarray .int, 2) := by decide +kernel
theorem dX7_init_65 : decode cX7_init 65 = .ok (.putfield 31, 3) := by decide +kernel
theorem dX7_init_68 : decode cX7_init 68 = .ok (.aload_n 0, 1) := by decide +kernel
theorem dX7_init_69 : decode cX7_init 69 = .ok (.bipush 32, 2) := by decide +kernel
theorem dX7_init_71 : decode cX7_init 71 = .ok (.newarray .int, 2) := by decide +kernel
theorem dX7_init_73 : decode cX7_init 73 = .ok (.putfield 34, 3) := by decide +kernel
theorem dX7_init_76 : decode cX7_init 76 = .ok (.aload_n 0, 1) := by decide +kernel
theorem dX7_init_77 : decode cX7_init 77 = .ok (.iconst 4, 1) := by decide +kernel
theorem dX7_init_78 : decode cX7_init 78 = .ok (.newarray .int, 2) := by decide +kernel
theorem dX7_init_80 : decode cX7_init 80 = .ok (.putfield 37, 3) := by decide +kernel
theorem dX7_init_83 : decode cX7_init 83 = .ok (.aload_n 0, 1) := by decide +kernel
theorem dX7_init_84 : decode cX7_init 84 = .ok (.bipush 80, 2) := by decide +kernel
theorem dX7_init_86 : decode cX7_init 86 = .ok (.newarray .long, 2) := by decide +kernel
theorem dX7_init_88 : decode cX7_init 88 = .ok (.putfield 40, 3) := by decide +kernel
theorem dX7_init_91 : decode cX7_init 91 = .ok (.aload_n 0, 1) := by decide +kernel
theorem dX7_init_92 : decode cX7_init 92 = .ok (.bipush 48, 2) := by decide +kernel
theorem dX7_init_94 : decode cX7_init 94 = .ok (.newarray .int, 2) := by decide +kernel
theorem dX7_init_96 : decode cX7_init 96 = .ok (.putfield 44, 3) := by decide +kernel
theorem dX7_init_99 : decode cX7_init 99 = .ok (.aload_n 0, 1) := by decide +kernel
theorem dX7_init_100 : decode cX7_init 100 = .ok (.iconst 3, 1) := by decide +kernel
theorem dX7_init_101 : decode cX7_init 101 = .ok (.newarray .int, 2) := by decide +kernel
theorem dX7_init_103 : decode cX7_init 103 = .ok (.putfield 47, 3) := by decide +kernel
theorem dX7_init_106 : decode cX7_init 106 = .ok (.return_, 1) := by decide +kernel
section
variable (l : Launch) (D : va_G) (cI cJ cZ cR : ClassId)
set_option maxHeartbeats 4000000 in
set_option maxRecDepth 100000 in
theorem c_X6_isOpen (sz : Nat) (p0 : Int32)  : CTi l D cI cJ cZ cR yX6_isOpen cX6_isOpen 1 (some .boolean) 0 0 0 0 sz [.int p0] [] (fun (r : Int32) (u : Unit) => (r = (if p0 < 0 then 0 else if 3 ≤ p0 then 0 else 1))) (fun (u : Unit) => []) := by
  refine CTi.of (ty := .boolean) (by decide) (Nat.le_of_ble_eq_true rfl) rfl ?_
  intro p e s m below meth c A Q ls hd hin hK hsz hP hD hA hS hl hret
  obtain ⟨hx, hb, hml, hown, hts⟩ := id hd
  have hK1 := hK.1
  have hown : s.vm.findClass RX6 = some m.cls := hown
  have hl : lv_has ls 1 [(0, .int p0)] := hl
  refine lv_iload_n hx hb dX6_isOpen_0 rfl (lv_at hl 0 rfl) ?_
  refine lv_if_lt (tgt := 13) hx hb dX6_isOpen_1 (by decide) (fun c_1 => ?_) (fun c_1 => ?_)
  · skip
    refine lv_iconst (v := 0) hx hb dX6_isOpen_13 (by decide) ?_
    exact hret _ _ _ _ _ _ 0 () dX6_isOpen_14 rfl hS (Nat.le_of_ble_eq_true rfl) (Nat.le_of_ble_eq_true rfl) (by simp [c_1]) (hP.sub [] rfl) (hD.sub [] rfl rfl)
  · skip
    refine lv_iload_n hx hb dX6_isOpen_4 rfl (lv_at hl 0 rfl) ?_
    refine lv_iconst (v := 3) hx hb dX6_isOpen_5 (by decide) ?_
    refine lv_icmp_ge (tgt := 13) hx hb dX6_isOpen_6 (by decide) (fun c_2 => ?_) (fun c_2 => ?_)
    · skip
      refine lv_iconst (v := 0) hx hb dX6_isOpen_13 (by decide) ?_
      exact hret _ _ _ _ _ _ 0 () dX6_isOpen_14 rfl hS (Nat.le_of_ble_eq_true rfl) (Nat.le_of_ble_eq_true rfl) (by simp [c_1, c_2]) (hP.sub [] rfl) (hD.sub [] rfl rfl)
    · skip
      refine lv_iconst (v := 1) hx hb dX6_isOpen_9 (by decide) ?_
      refine lv_goto (tgt := 14) hx hb dX6_isOpen_10 (by decide) ?_
      exact hret _ _ _ _ _ _ 1 () dX6_isOpen_14 rfl hS (Nat.le_of_ble_eq_true rfl) (Nat.le_of_ble_eq_true rfl) (by simp [c_1, c_2]) (hP.sub [] rfl) (hD.sub [] rfl rfl)
set_option maxHeartbeats 4000000 in
set_option maxRecDepth 100000 in
theorem c_X6_mix (sz : Nat) (p0 : Int64) (p1 : Int32)  : CTl l D cI cJ cZ cR yX6_mix cX6_mix 3 (some .long) 0 0 0 0 sz [.long p0, .int p1] [] (fun (r : Int64) (u : Unit) => (r = (31 * p0 + Int32.toInt64 p1))) (fun (u : Unit) => []) := by
  refine CTl.of (by decide) (Nat.le_of_ble_eq_true rfl) rfl ?_
  intro p e s m below meth c A Q ls hd hin hK hsz hP hD hA hS hl hret
  obtain ⟨hx, hb, hml, hown, hts⟩ := id hd
  have hK1 := hK.1
  have hown : s.vm.findClass RX6 = some m.cls := hown
  have hl : lv_has ls 3 [(0, .long p0), (2, .int p1)] := hl
  refine lv_ldc2 hx hb hown (hts _ t_538) dX6_mix_0 ?_
  refine lv_lload_n hx hb dX6_mix_3 rfl (lv_at hl 0 rfl) ?_
  refine lv_lmul hx hb dX6_mix_4 ?_
  refine lv_iload_n hx hb dX6_mix_5 rfl (lv_at hl 1 rfl) ?_
  refine lv_i2l (v := Int32.toInt64 p1) hx hb dX6_mix_6 rfl ?_
  refine lv_ladd hx hb dX6_mix_7 ?_
  exact hret _ _ _ _ _ _ ((31 * p0) + (Int32.toInt64 p1)) () dX6_mix_8 hS (Nat.le_of_ble_eq_true rfl) (Nat.le_of_ble_eq_true rfl) (by simp []) (hP.sub [] rfl) (hD.sub [] rfl rfl)
set_option maxHeartbeats 4000000 in
set_option maxRecDepth 100000 in
theorem c_X0_has (sz : Nat) (h0 : Nat) (a1 : Nat) (a2 : Nat) (a3 : Nat) (sn : Int32) (nd : Int32) (p0 : Int32)  : CTi l D cI cJ cZ cR yX0_has cX0_has 2 (some .boolean) 0 0 0 0 sz [.ref h0, .int p0] [(h0, .inr (0, [.ref a1, .ref a2, .ref a3, .int sn, .int nd]))] (fun (r : Int32) (u : Unit) => (r = (if p0 < 0 then 0 else if sn ≤ p0 then 0 else 1))) (fun (u : Unit) => [(h0, .inr (0, [.ref a1, .ref a2, .ref a3, .int sn, .int nd]))]) := by
  refine CTi.of (ty := .boolean) (by decide) (Nat.le_of_ble_eq_true rfl) rfl ?_
  intro p e s m below meth c A Q ls hd hin hK hsz hP hD hA hS hl hret
  obtain ⟨hx, hb, hml, hown, hts⟩ := id hd
  have hK1 := hK.1
  have hown : s.vm.findClass RX0 = some m.cls := hown
  have hl : lv_has ls 2 [(0, .ref h0), (1, .int p0)] := hl
  refine lv_iload_n hx hb dX0_has_0 rfl (lv_at hl 1 rfl) ?_
  refine lv_if_lt (tgt := 16) hx hb dX0_has_1 (by decide) (fun c_1 => ?_) (fun c_1 => ?_)
  · skip
    refine lv_iconst (v := 0) hx hb dX0_has_16 (by decide) ?_
    exact hret _ _ _ _ _ _ 0 () dX0_has_17 rfl hS (Nat.le_of_ble_eq_true rfl) (Nat.le_of_ble_eq_true rfl) (by simp [c_1]) (hP.sub [0] rfl) (hD.sub [0] rfl rfl)
  · skip
    refine lv_iload_n hx hb dX0_has_4 rfl (lv_at hl 1 rfl) ?_
    refine lv_aload_n hx hb dX0_has_5 rfl (lv_at hl 0 rfl) ?_
    refine va_get (D := D) (ci := 0) (v := .int sn) (C := RX0) (T := TX0) (N := 5) hx hb hts iT_X0 hown hK1 hP 0 rfl rfl 3 (by decide) (hts _ t_62) (fun _ h9 => h9) rfl dX0_has_6 ?_
    refine lv_icmp_ge (tgt := 16) hx hb dX0_has_9 (by decide) (fun c_2 => ?_) (fun c_2 => ?_)
    · skip
      refine lv_iconst (v := 0) hx hb dX0_has_16 (by decide) ?_
      exact hret _ _ _ _ _ _ 0 () dX0_has_17 rfl hS (Nat.le_of_ble_eq_true rfl) (Nat.le_of_ble_eq_true rfl) (by simp [c_1, c_2]) (hP.sub [0] rfl) (hD.sub [0] rfl rfl)
    · skip
      refine lv_iconst (v := 1) hx hb dX0_has_12 (by decide) ?_
      refine lv_goto (tgt := 17) hx hb dX0_has_13 (by decide) ?_
      exact hret _ _ _ _ _ _ 1 () dX0_has_17 rfl hS (Nat.le_of_ble_eq_true rfl) (Nat.le_of_ble_eq_true rfl) (by simp [c_1, c_2]) (hP.sub [0] rfl) (hD.sub [0] rfl rfl)
set_option maxHeartbeats 4000000 in
set_option maxRecDepth 100000 in
theorem c_X0_clear (sz : Nat) (h0 : Nat) (a1 : Nat) (a2 : Nat) (a3 : Nat) (sn : Int32) (nd : Int32) (p0 : Int32)  : CTv l D cI cJ cZ cR yX0_clear cX0_clear 2 none 0 0 0 0 sz [.ref h0, .int p0] [(h0, .inr (0, [.ref a1, .ref a2, .ref a3, .int sn, .int nd]))] (fun (u : Unit) => True) (fun (u : Unit) => [(h0, .inr (0, [.ref a1, .ref a2, .ref a3, .int 0, .int p0]))]) := by
  refine CTv.of (by decide) (Nat.le_of_ble_eq_true rfl) rfl ?_
  intro p e s m below meth c A Q ls hd hin hK hsz hP hD hA hS hl hret
  obtain ⟨hx, hb, hml, hown, hts⟩ := id hd
  have hK1 := hK.1
  have hown : s.vm.findClass RX0 = some m.cls := hown
  have hl : lv_has ls 2 [(0, .ref h0), (1, .int p0)] := hl
  refine lv_aload_n hx hb dX0_clear_0 rfl (lv_at hl 0 rfl) ?_
  refine lv_iconst (v := 0) hx hb dX0_clear_1 (by decide) ?_
  refine va_put (D := D) (ci := 0) (v := .int 0) (ty := .int) (C := RX0) (T := TX0) (N := 5) hx hb hts iT_X0 tyX0 tyX0_ok nmX0 hown hK1 hP hD hS 0 rfl rfl 3 (by decide) (hts _ t_62) (fun _ h9 => h9) rfl (by decide +kernel) rfl rfl (Nat.le_of_ble_eq_true rfl) dX0_clear_2 (fun H locs hP hD hS => ?_)
  have hP : va_P D vwCl [(h0, .inr (0, [.ref a1, .ref a2, .ref a3, .int 0, .int nd]))] H := hP
  have hD : va_D A [(h0, .inr (0, [.ref a1, .ref a2, .ref a3, .int 0, .int nd]))] := hD
  refine lv_aload_n hx hb dX0_clear_5 rfl (lv_at hl 0 rfl) ?_
  refine lv_iload_n hx hb dX0_clear_6 rfl (lv_at hl 1 rfl) ?_
  refine va_put (D := D) (ci := 0) (v := .int p0) (ty := .int) (C := RX0) (T := TX0) (N := 5) hx hb hts iT_X0 tyX0 tyX0_ok nmX0 hown hK1 hP hD hS 0 rfl rfl 4 (by decide) (hts _ t_65) (fun _ h9 => h9) rfl (by decide +kernel) rfl rfl (Nat.le_of_ble_eq_true rfl) dX0_clear_7 (fun H locs hP hD hS => ?_)
  have hP : va_P D vwCl [(h0, .inr (0, [.ref a1, .ref a2, .ref a3, .int 0, .int p0]))] H := hP
  have hD : va_D A [(h0, .inr (0, [.ref a1, .ref a2, .ref a3, .int 0, .int p0]))] := hD
  exact hret _ _ _ _ _ _ () dX0_clear_10 hS (Nat.le_of_ble_eq_true rfl) (Nat.le_of_ble_eq_true rfl) trivial (hP.sub [0] rfl) (hD.sub [0] rfl rfl)
set_option maxHeartbeats 4000000 in
set_option maxRecDepth 100000 in
theorem c_X5_has (sz : Nat) (h0 : Nat) (a1 : Nat) (sn : Int32) (p0 : Int32)  : CTi l D cI cJ cZ cR yX5_has cX5_has 2 (some .boolean) 0 0 0 0 sz [.ref h0, .int p0] [(h0, .inr (5, [.ref a1, .int sn]))] (fun (r : Int32) (u : Unit) => (r = (if p0 < 0 then 0 else if sn ≤ p0 then 0 else 1))) (fun (u : Unit) => [(h0, .inr (5, [.ref a1, .int sn]))]) := by
  refine CTi.of (ty := .boolean) (by decide) (Nat.le_of_ble_eq_true rfl) rfl ?_
  intro p e s m below meth c A Q ls hd hin hK hsz hP hD hA hS hl hret
  obtain ⟨hx, hb, hml, hown, hts⟩ := id hd
  have hK1 := hK.1
  have hown : s.vm.findClass RX5 = some m.cls := hown
  have hl : lv_has ls 2 [(0, .ref h0), (1, .int p0)] := hl
  refine lv_iload_n hx hb dX5_has_0 rfl (lv_at hl 1 rfl) ?_
  refine lv_if_lt (tgt := 16) hx hb dX5_has_1 (by decide) (fun c_1 => ?_) (fun c_1 => ?_)
  · skip
    refine lv_iconst (v := 0) hx hb dX5_has_16 (by decide) ?_
    exact hret _ _ _ _ _ _ 0 () dX5_has_17 rfl hS (Nat.le_of_ble_eq_true rfl) (Nat.le_of_ble_eq_true rfl) (by simp [c_1]) (hP.sub [0] rfl) (hD.sub [0] rfl rfl)
  · skip
    refine lv_iload_n hx hb dX5_has_4 rfl (lv_at hl 1 rfl) ?_
    refine lv_aload_n hx hb dX5_has_5 rfl (lv_at hl 0 rfl) ?_
    refine va_get (D := D) (ci := 5) (v := .int sn) (C := RX5) (T := TX5) (N := 2) hx hb hts iT_X5 hown hK1 hP 0 rfl rfl 1 (by decide) (hts _ t_106) (fun _ h9 => h9) rfl dX5_has_6 ?_
    refine lv_icmp_ge (tgt := 16) hx hb dX5_has_9 (by decide) (fun c_2 => ?_) (fun c_2 => ?_)
    · skip
      refine lv_iconst (v := 0) hx hb dX5_has_16 (by decide) ?_
      exact hret _ _ _ _ _ _ 0 () dX5_has_17 rfl hS (Nat.le_of_ble_eq_true rfl) (Nat.le_of_ble_eq_true rfl) (by simp [c_1, c_2]) (hP.sub [0] rfl) (hD.sub [0] rfl rfl)
    · skip
      refine lv_iconst (v := 1) hx hb dX5_has_12 (by decide) ?_
      refine lv_goto (tgt := 17) hx hb dX5_has_13 (by decide) ?_
      exact hret _ _ _ _ _ _ 1 () dX5_has_17 rfl hS (Nat.le_of_ble_eq_true rfl) (Nat.le_of_ble_eq_true rfl) (by simp [c_1, c_2]) (hP.sub [0] rfl) (hD.sub [0] rfl rfl)
set_option maxHeartbeats 4000000 in
set_option maxRecDepth 100000 in
theorem c_X3_clear (sz : Nat) (h0 : Nat) (a1 : Nat) (sn : Int32)  : CTv l D cI cJ cZ cR yX3_clear cX3_clear 1 none 0 0 0 0 sz [.ref h0] [(h0, .inr (3, [.ref a1, .int sn]))] (fun (u : Unit) => True) (fun (u : Unit) => [(h0, .inr (3, [.ref a1, .int 0]))]) := by
  refine CTv.of (by decide) (Nat.le_of_ble_eq_true rfl) rfl ?_
  intro p e s m below meth c A Q ls hd hin hK hsz hP hD hA hS hl hret
  obtain ⟨hx, hb, hml, hown, hts⟩ := id hd
  have hK1 := hK.1
  have hown : s.vm.findClass RX3 = some m.cls := hown
  have hl : lv_has ls 1 [(0, .ref h0)] := hl
  refine lv_aload_n hx hb dX3_clear_0 rfl (lv_at hl 0 rfl) ?_
  refine lv_iconst (v := 0) hx hb dX3_clear_1 (by decide) ?_
  refine va_put (D := D) (ci := 3) (v := .int 0) (ty := .int) (C := RX3) (T := TX3) (N := 2) hx hb hts iT_X3 tyX3 tyX3_ok nmX3 hown hK1 hP hD hS 0 rfl rfl 1 (by decide) (hts _ t_28) (fun _ h9 => h9) rfl (by decide +kernel) rfl rfl (Nat.le_of_ble_eq_true rfl) dX3_clear_2 (fun H locs hP hD hS => ?_)
  have hP : va_P D vwCl [(h0, .inr (3, [.ref a1, .int 0]))] H := hP
  have hD : va_D A [(h0, .inr (3, [.ref a1, .int 0]))] := hD
  exact hret _ _ _ _ _ _ () dX3_clear_5 hS (Nat.le_of_ble_eq_true rfl) (Nat.le_of_ble_eq_true rfl) trivial (hP.sub [0] rfl) (hD.sub [0] rfl rfl)
set_option maxHeartbeats 4000000 in
set_option maxRecDepth 100000 in
theorem c_X0_init_12 (sz : Nat) (h0 : Nat)  : CTv l D cI cJ cZ cR yX0_init cX0_init 2 none 1 24 3 36 sz [.ref h0, .int 12] [(h0, .inr (0, [.null, .null, .null, .int 0, .int 0]))] (fun (u : Nat × Nat × Nat) => True) (fun (u : Nat × Nat × Nat) => [(h0, .inr (0, [.ref u.1, .ref u.2.1, .ref u.2.2, .int 0, .int 0])), (u.1, .inl (cI, 12, .inl (fun _ => 0))), (u.2.1, .inl (cI, 12, .inl (fun _ => 0))), (u.2.2, .inl (cI, 12, .inl (fun _ => 0)))]) := by
  refine CTv.of (by decide) (Nat.le_of_ble_eq_true rfl) rfl ?_
  intro p e s m below meth c A Q ls hd hin hK hsz hP hD hA hS hl hret
  obtain ⟨hx, hb, hml, hown, hts⟩ := id hd
  have hK1 := hK.1
  have hown : s.vm.findClass RX0 = some m.cls := hown
  have hin : meth.name = "<init>" := hin
  have hl : lv_has ls 2 [(0, .ref h0), (1, .int 12)] := hl
  refine lv_aload_n hx hb dX0_init_0 rfl (lv_at hl 0 rfl) ?_
  refine W.objInit hx hb hown (hts _ t_54) (hts _ t_18) (hts _ t_19) rfl (by rw [hml]; exact hl.1) rfl dX0_init_1 (Nat.le_of_ble_eq_true rfl) (Nat.le_of_ble_eq_true rfl) ?_
  refine W.eq (g2 := F0 m 4 ls []) rfl ?_
  refine lv_aload_n hx hb dX0_init_4 rfl (lv_at hl 0 rfl) ?_
  refine lv_iconst (v := 0) hx hb dX0_init_5 (by decide) ?_
  refine va_put (D := D) (ci := 0) (v := .int 0) (ty := .int) (C := RX0) (T := TX0) (N := 5) hx hb hts iT_X0 tyX0 tyX0_ok nmX0 hown hK1 hP hD hS 0 rfl rfl 3 (by decide) (hts _ t_62) (fun _ h9 => h9) rfl (by decide +kernel) rfl rfl (Nat.le_of_ble_eq_true rfl) dX0_init_6 (fun H locs hP hD hS => ?_)
  have hP : va_P D vwCl [(h0, .inr (0, [.null, .null, .null, .int 0, .int 0]))] H := hP
  have hD : va_D A [(h0, .inr (0, [.null, .null, .null, .int 0, .int 0]))] := hD
  refine lv_aload_n hx hb dX0_init_9 rfl (lv_at hl 0 rfl) ?_
  refine lv_iconst (v := 0) hx hb dX0_init_10 (by decide) ?_
  refine va_put (D := D) (ci := 0) (v := .int 0) (ty := .int) (C := RX0) (T := TX0) (N := 5) hx hb hts iT_X0 tyX0 tyX0_ok nmX0 hown hK1 hP hD hS 0 rfl rfl 4 (by decide) (hts _ t_65) (fun _ h9 => h9) rfl (by decide +kernel) rfl rfl (Nat.le_of_ble_eq_true rfl) dX0_init_11 (fun H locs hP hD hS => ?_)
  have hP : va_P D vwCl [(h0, .inr (0, [.null, .null, .null, .int 0, .int 0]))] H := hP
  have hD : va_D A [(h0, .inr (0, [.null, .null, .null, .int 0, .int 0]))] := hD
  refine lv_aload_n hx hb dX0_init_14 rfl (lv_at hl 0 rfl) ?_
  refine lv_iload_n hx hb dX0_init_15 rfl (lv_at hl 1 rfl) ?_
  refine nw_I (N' := 12) hx hb (hts _ t_35) hK hP hD hS hA (by decide) (by decide) (by decide) (Nat.le_of_ble_eq_true rfl) (Nat.le_of_ble_eq_true rfl) dX0_init_16 (fun q_1 H hP hD hS => ?_)
  have hP : va_P D vwCl [(h0, .inr (0, [.null, .null, .null, .int 0, .int 0])), (q_1, .inl (cI, 12, .inl (fun _ => 0)))] H := hP
  have hD : va_D A [(h0, .inr (0, [.null, .null, .null, .int 0, .int 0])), (q_1, .inl (cI, 12, .inl (fun _ => 0)))] := hD
  refine W.widen (k := 1) (n := 12) (Nat.le_of_ble_eq_true rfl) (Nat.le_of_ble_eq_true rfl) ?_
  refine va_putF (D := D) (ci := 0) (v := .ref q_1) (ty := (.array .int)) (C := RX0) (T := TX0) (N := 5) hx hb hts iT_X0 tyX0 tyX0_ok nmX0 hown hK1 hP hD hS 0 rfl rfl 0 (by decide) (hts _ t_55) (fun _ h9 => h9) rfl hin rfl (by decide +kernel) rfl rfl (Nat.le_of_ble_eq_true rfl) dX0_init_18 (fun H locs hP hD hS => ?_)
  have hP : va_P D vwCl [(h0, .inr (0, [.ref q_1, .null, .null, .int 0, .int 0])), (q_1, .inl (cI, 12, .inl (fun _ => 0)))] H := hP
  have hD : va_D A [(h0, .inr (0, [.ref q_1, .null, .null, .int 0, .int 0])), (q_1, .inl (cI, 12, .inl (fun _ => 0)))] := hD
  refine lv_aload_n hx hb dX0_init_21 rfl (lv_at hl 0 rfl) ?_
  refine lv_iload_n hx hb dX0_init_22 rfl (lv_at hl 1 rfl) ?_
  refine nw_I (N' := 12) hx hb (hts _ t_35) hK hP hD hS hA (by decide) (by decide) (by decide) (Nat.le_of_ble_eq_true rfl) (Nat.le_of_ble_eq_true rfl) dX0_init_23 (fun q_2 H hP hD hS => ?_)
  have hP : va_P D vwCl [(h0, .inr (0, [.ref q_1, .null, .null, .int 0, .int 0])), (q_1, .inl (cI, 12, .inl (fun _ => 0))), (q_2, .inl (cI, 12, .inl (fun _ => 0)))] H := hP
  have hD : va_D A [(h0, .inr (0, [.ref q_1, .null, .null, .int 0, .int 0])), (q_1, .inl (cI, 12, .inl (fun _ => 0))), (q_2, .inl (cI, 12, .inl (fun _ => 0)))] := hD
  refine W.widen (k := 2) (n := 24) (Nat.le_of_ble_eq_true rfl) (Nat.le_of_ble_eq_true rfl) ?_
  refine va_putF (D := D) (ci := 0) (v := .ref q_2) (ty := (.array .int)) (C := RX0) (T := TX0) (N := 5) hx hb hts iT_X0 tyX0 tyX0_ok nmX0 hown hK1 hP hD hS 0 rfl rfl 1 (by decide) (hts _ t_58) (fun _ h9 => h9) rfl hin rfl (by decide +kernel) rfl rfl (Nat.le_of_ble_eq_true rfl) dX0_init_25 (fun H locs hP hD hS => ?_)
  have hP : va_P D vwCl [(h0, .inr (0, [.ref q_1, .ref q_2, .null, .int 0, .int 0])), (q_1, .inl (cI, 12, .inl (fun _ => 0))), (q_2, .inl (cI, 12, .inl (fun _ => 0)))] H := hP
  have hD : va_D A [(h0, .inr (0, [.ref q_1, .ref q_2, .null, .int 0, .int 0])), (q_1, .inl (cI, 12, .inl (fun _ => 0))), (q_2, .inl (cI, 12, .inl (fun _ => 0)))] := hD
  refine lv_aload_n hx hb dX0_init_28 rfl (lv_at hl 0 rfl) ?_
  refine lv_iload_n hx hb dX0_init_29 rfl (lv_at hl 1 rfl) ?_
  refine nw_I (N' := 12) hx hb (hts _ t_35) hK hP hD hS hA (by decide) (by decide) (by decide) (Nat.le_of_ble_eq_true rfl) (Nat.le_of_ble_eq_true rfl) dX0_init_30 (fun q_3 H hP hD hS => ?_)
  have hP : va_P D vwCl [(h0, .inr (0, [.ref q_1, .ref q_2, .null, .int 0, .int 0])), (q_1, .inl (cI, 12, .inl (fun _ => 0))), (q_2, .inl (cI, 12, .inl (fun _ => 0))), (q_3, .inl (cI, 12, .inl (fun _ => 0)))] H := hP
  have hD : va_D A [(h0, .inr (0, [.ref q_1, .ref q_2, .null, .int 0, .int 0])), (q_1, .inl (cI, 12, .inl (fun _ => 0))), (q_2, .inl (cI, 12, .inl (fun _ => 0))), (q_3, .inl (cI, 12, .inl (fun _ => 0)))] := hD
  refine W.widen (k := 3) (n := 36) (Nat.le_of_ble_eq_true rfl) (Nat.le_of_ble_eq_true rfl) ?_
  refine va_putF (D := D) (ci := 0) (v := .ref q_3) (ty := (.array .int)) (C := RX0) (T := TX0) (N := 5) hx hb hts iT_X0 tyX0 tyX0_ok nmX0 hown hK1 hP hD hS 0 rfl rfl 2 (by decide) (hts _ t_60) (fun _ h9 => h9) rfl hin rfl (by decide +kernel) rfl rfl (Nat.le_of_ble_eq_true rfl) dX0_init_32 (fun H locs hP hD hS => ?_)
  have hP : va_P D vwCl [(h0, .inr (0, [.ref q_1, .ref q_2, .ref q_3, .int 0, .int 0])), (q_1, .inl (cI, 12, .inl (fun _ => 0))), (q_2, .inl (cI, 12, .inl (fun _ => 0))), (q_3, .inl (cI, 12, .inl (fun _ => 0)))] H := hP
  have hD : va_D A [(h0, .inr (0, [.ref q_1, .ref q_2, .ref q_3, .int 0, .int 0])), (q_1, .inl (cI, 12, .inl (fun _ => 0))), (q_2, .inl (cI, 12, .inl (fun _ => 0))), (q_3, .inl (cI, 12, .inl (fun _ => 0)))] := hD
  exact hret _ _ _ _ _ _ (q_1, q_2, q_3) dX0_init_35 hS (Nat.le_of_ble_eq_true rfl) (Nat.le_of_ble_eq_true rfl) trivial (hP.sub [0, 1, 2, 3] rfl) (hD.sub [0, 1, 2, 3] rfl rfl)
set_option maxHeartbeats 4000000 in
set_option maxRecDepth 100000 in
theorem c_X0_init_3 (sz : Nat) (h0 : Nat)  : CTv l D cI cJ cZ cR yX0_init cX0_init 2 none 1 24 3 9 sz [.ref h0, .int 3] [(h0, .inr (0, [.null, .null, .null, .int 0, .int 0]))] (fun (u : Nat × Nat × Nat) => True) (fun (u : Nat × Nat × Nat) => [(h0, .inr (0, [.ref u.1, .ref u.2.1, .ref u.2.2, .int 0, .int 0])), (u.1, .inl (cI, 3, .inl (fun _ => 0))), (u.2.1, .inl (cI, 3, .inl (fun _ => 0))), (u.2.2, .inl (cI, 3, .inl (fun _ => 0)))]) := by
  refine CTv.of (by decide) (Nat.le_of_ble_eq_true rfl) rfl ?_
  intro p e s m below meth c A Q ls hd hin hK hsz hP hD hA hS hl hret
  obtain ⟨hx, hb, hml, hown, hts⟩ := id hd
  have hK1 := hK.1
  have hown : s.vm.findClass RX0 = some m.cls := hown
  have hin : meth.name = "<init>" := hin
  have hl : lv_has ls 2 [(0, .ref h0), (1, .int 3)] := hl
  refine lv_aload_n hx hb dX0_init_0 rfl (lv_at hl 0 rfl) ?_
  refine W.objInit hx hb hown (hts _ t_54) (hts _ t_18) (hts _ t_19) rfl (by rw [hml]; exact hl.1) rfl dX0_init_1 (Nat.le_of_ble_eq_true rfl) (Nat.le_of_ble_eq_true rfl) ?_
  refine W.eq (g2 := F0 m 4 ls []) rfl ?_
  refine lv_aload_n hx hb dX0_init_4 rfl (lv_at hl 0 rfl) ?_
  refine lv_iconst (v := 0) hx hb dX0_init_5 (by decide) ?_
  refine va_put (D := D) (ci := 0) (v := .int 0) (ty := .int) (C := RX0) (T := TX0) (N := 5) hx hb hts iT_X0 tyX0 tyX0_ok nmX0 hown hK1 hP hD hS 0 rfl rfl 3 (by decide) (hts _ t_62) (fun _ h9 => h9) rfl (by decide +kernel) rfl rfl (Nat.le_of_ble_eq_true rfl) dX0_init_6 (fun H locs hP hD hS => ?_)
  have hP : va_P D vwCl [(h0, .inr (0, [.null, .null, .null, .int 0, .int 0]))] H := hP
  have hD : va_D A [(h0, .inr (0, [.null, .null, .null, .int 0, .int 0]))] := hD
  refine lv_aload_n hx hb dX0_init_9 rfl (lv_at hl 0 rfl) ?_
  refine lv_iconst (v := 0) hx hb dX0_init_10 (by decide) ?_
  refine va_put (D := D) (ci := 0) (v := .int 0) (ty := .int) (C := RX0) (T := TX0) (N := 5) hx hb hts iT_X0 tyX0 tyX0_ok nmX0 hown hK1 hP hD hS 0 rfl rfl 4 (by decide) (hts _ t_65) (fun _ h9 => h9) rfl (by decide +kernel) rfl rfl (Nat.le_of_ble_eq_true rfl) dX0_init_11 (fun H locs hP hD hS => ?_)
  have hP : va_P D vwCl [(h0, .inr (0, [.null, .null, .null, .int 0, .int 0]))] H := hP
  have hD : va_D A [(h0, .inr (0, [.null, .null, .null, .int 0, .int 0]))] := hD
  refine lv_aload_n hx hb dX0_init_14 rfl (lv_at hl 0 rfl) ?_
  refine lv_iload_n hx hb dX0_init_15 rfl (lv_at hl 1 rfl) ?_
  refine nw_I (N' := 3) hx hb (hts _ t_35) hK hP hD hS hA (by decide) (by decide) (by decide) (Nat.le_of_ble_eq_true rfl) (Nat.le_of_ble_eq_true rfl) dX0_init_16 (fun q_1 H hP hD hS => ?_)
  have hP : va_P D vwCl [(h0, .inr (0, [.null, .null, .null, .int 0, .int 0])), (q_1, .inl (cI, 3, .inl (fun _ => 0)))] H := hP
  have hD : va_D A [(h0, .inr (0, [.null, .null, .null, .int 0, .int 0])), (q_1, .inl (cI, 3, .inl (fun _ => 0)))] := hD
  refine W.widen (k := 1) (n := 3) (Nat.le_of_ble_eq_true rfl) (Nat.le_of_ble_eq_true rfl) ?_
  refine va_putF (D := D) (ci := 0) (v := .ref q_1) (ty := (.array .int)) (C := RX0) (T := TX0) (N := 5) hx hb hts iT_X0 tyX0 tyX0_ok nmX0 hown hK1 hP hD hS 0 rfl rfl 0 (by decide) (hts _ t_55) (fun _ h9 => h9) rfl hin rfl (by decide +kernel) rfl rfl (Nat.le_of_ble_eq_true rfl) dX0_init_18 (fun H locs hP hD hS => ?_)
  have hP : va_P D vwCl [(h0, .inr (0, [.ref q_1, .null, .null, .int 0, .int 0])), (q_1, .inl (cI, 3, .inl (fun _ => 0)))] H := hP
  have hD : va_D A [(h0, .inr (0, [.ref q_1, .null, .null, .int 0, .int 0])), (q_1, .inl (cI, 3, .inl (fun _ => 0)))] := hD
  refine lv_aload_n hx hb dX0_init_21 rfl (lv_at hl 0 rfl) ?_
  refine lv_iload_n hx hb dX0_init_22 rfl (lv_at hl 1 rfl) ?_
  refine nw_I (N' := 3) hx hb (hts _ t_35) hK hP hD hS hA (by decide) (by decide) (by decide) (Nat.le_of_ble_eq_true rfl) (Nat.le_of_ble_eq_true rfl) dX0_init_23 (fun q_2 H hP hD hS => ?_)
  have hP : va_P D vwCl [(h0, .inr (0, [.ref q_1, .null, .null, .int 0, .int 0])), (q_1, .inl (cI, 3, .inl (fun _ => 0))), (q_2, .inl (cI, 3, .inl (fun _ => 0)))] H := hP
  have hD : va_D A [(h0, .inr (0, [.ref q_1, .null, .null, .int 0, .int 0])), (q_1, .inl (cI, 3, .inl (fun _ => 0))), (q_2, .inl (cI, 3, .inl (fun _ => 0)))] := hD
  refine W.widen (k := 2) (n := 6) (Nat.le_of_ble_eq_true rfl) (Nat.le_of_ble_eq_true rfl) ?_
  refine va_putF (D := D) (ci := 0) (v := .ref q_2) (ty := (.array .int)) (C := RX0) (T := TX0) (N := 5) hx hb hts iT_X0 tyX0 tyX0_ok nmX0 hown hK1 hP hD hS 0 rfl rfl 1 (by decide) (hts _ t_58) (fun _ h9 => h9) rfl hin rfl (by decide +kernel) rfl rfl (Nat.le_of_ble_eq_true rfl) dX0_init_25 (fun H locs hP hD hS => ?_)
  have hP : va_P D vwCl [(h0, .inr (0, [.ref q_1, .ref q_2, .null, .int 0, .int 0])), (q_1, .inl (cI, 3, .inl (fun _ => 0))), (q_2, .inl (cI, 3, .inl (fun _ => 0)))] H := hP
  have hD : va_D A [(h0, .inr (0, [.ref q_1, .ref q_2, .null, .int 0, .int 0])), (q_1, .inl (cI, 3, .inl (fun _ => 0))), (q_2, .inl (cI, 3, .inl (fun _ => 0)))] := hD
  refine lv_aload_n hx hb dX0_init_28 rfl (lv_at hl 0 rfl) ?_
  refine lv_iload_n hx hb dX0_init_29 rfl (lv_at hl 1 rfl) ?_
  refine nw_I (N' := 3) hx hb (hts _ t_35) hK hP hD hS hA (by decide) (by decide) (by decide) (Nat.le_of_ble_eq_true rfl) (Nat.le_of_ble_eq_true rfl) dX0_init_30 (fun q_3 H hP hD hS => ?_)
  have hP : va_P D vwCl [(h0, .inr (0, [.ref q_1, .ref q_2, .null, .int 0, .int 0])), (q_1, .inl (cI, 3, .inl (fun _ => 0))), (q_2, .inl (cI, 3, .inl (fun _ => 0))), (q_3, .inl (cI, 3, .inl (fun _ => 0)))] H := hP
  have hD : va_D A [(h0, .inr (0, [.ref q_1, .ref q_2, .null, .int 0, .int 0])), (q_1, .inl (cI, 3, .inl (fun _ => 0))), (q_2, .inl (cI, 3, .inl (fun _ => 0))), (q_3, .inl (cI, 3, .inl (fun _ => 0)))] := hD
  refine W.widen (k := 3) (n := 9) (Nat.le_of_ble_eq_true rfl) (Nat.le_of_ble_eq_true rfl) ?_
  refine va_putF (D := D) (ci := 0) (v := .ref q_3) (ty := (.array .int)) (C := RX0) (T := TX0) (N := 5) hx hb hts iT_X0 tyX0 tyX0_ok nmX0 hown hK1 hP hD hS 0 rfl rfl 2 (by decide) (hts _ t_60) (fun _ h9 => h9) rfl hin rfl (by decide +kernel) rfl rfl (Nat.le_of_ble_eq_true rfl) dX0_init_32 (fun H locs hP hD hS => ?_)
  have hP : va_P D vwCl [(h0, .inr (0, [.ref q_1, .ref q_2, .ref q_3, .int 0, .int 0])), (q_1, .inl (cI, 3, .inl (fun _ => 0))), (q_2, .inl (cI, 3, .inl (fun _ => 0))), (q_3, .inl (cI, 3, .inl (fun _ => 0)))] H := hP
  have hD : va_D A [(h0, .inr (0, [.ref q_1, .ref q_2, .ref q_3, .int 0, .int 0])), (q_1, .inl (cI, 3, .inl (fun _ => 0))), (q_2, .inl (cI, 3, .inl (fun _ => 0))), (q_3, .inl (cI, 3, .inl (fun _ => 0)))] := hD
  exact hret _ _ _ _ _ _ (q_1, q_2, q_3) dX0_init_35 hS (Nat.le_of_ble_eq_true rfl) (Nat.le_of_ble_eq_true rfl) trivial (hP.sub [0, 1, 2, 3] rfl) (hD.sub [0, 1, 2, 3] rfl rfl)
set_option maxHeartbeats 4000000 in
set_option maxRecDepth 100000 in
theorem c_X3_init (sz : Nat) (h0 : Nat)  : CTv l D cI cJ cZ cR yX3_init cX3_init 1 none 1 24 1 16 sz [.ref h0] [(h0, .inr (3, [.null, .int 0]))] (fun (u : Nat) => True) (fun (u : Nat) => [(h0, .inr (3, [.ref u, .int 0])), (u, .inl (cI, 16, .inl (fun _ => 0)))]) := by
  refine CTv.of (by decide) (Nat.le_of_ble_eq_true rfl) rfl ?_
  intro p e s m below meth c A Q ls hd hin hK hsz hP hD hA hS hl hret
  obtain ⟨hx, hb, hml, hown, hts⟩ := id hd
  have hK1 := hK.1
  have hown : s.vm.findClass RX3 = some m.cls := hown
  have hin : meth.name = "<init>" := hin
  have hl : lv_has ls 1 [(0, .ref h0)] := hl
  refine lv_aload_n hx hb dX3_init_0 rfl (lv_at hl 0 rfl) ?_
  refine W.objInit hx hb hown (hts _ t_25) (hts _ t_18) (hts _ t_19) rfl (by rw [hml]; exact hl.1) rfl dX3_init_1 (Nat.le_of_ble_eq_true rfl) (Nat.le_of_ble_eq_true rfl) ?_
  refine W.eq (g2 := F0 m 4 ls []) rfl ?_
  refine lv_aload_n hx hb dX3_init_4 rfl (lv_at hl 0 rfl) ?_
  refine lv_bipush (v := 16) hx hb dX3_init_5 (by decide) ?_
  refine nw_I (N' := 16) hx hb (hts _ t_35) hK hP hD hS hA (by decide) (by decide) (by decide) (Nat.le_of_ble_eq_true rfl) (Nat.le_of_ble_eq_true rfl) dX3_init_7 (fun q_1 H hP hD hS => ?_)
  have hP : va_P D vwCl [(h0, .inr (3, [.null, .int 0])), (q_1, .inl (cI, 16, .inl (fun _ => 0)))] H := hP
  have hD : va_D A [(h0, .inr (3, [.null, .int 0])), (q_1, .inl (cI, 16, .inl (fun _ => 0)))] := hD
  refine W.widen (k := 1) (n := 16) (Nat.le_of_ble_eq_true rfl) (Nat.le_of_ble_eq_true rfl) ?_
  refine va_putF (D := D) (ci := 3) (v := .ref q_1) (ty := (.array .int)) (C := RX3) (T := TX3) (N := 2) hx hb hts iT_X3 tyX3 tyX3_ok nmX3 hown hK1 hP hD hS 0 rfl rfl 0 (by decide) (hts _ t_26) (fun _ h9 => h9) rfl hin rfl (by decide +kernel) rfl rfl (Nat.le_of_ble_eq_true rfl) dX3_init_9 (fun H locs hP hD hS => ?_)
  have hP : va_P D vwCl [(h0, .inr (3, [.ref q_1, .int 0])), (q_1, .inl (cI, 16, .inl (fun _ => 0)))] H := hP
  have hD : va_D A [(h0, .inr (3, [.ref q_1, .int 0])), (q_1, .inl (cI, 16, .inl (fun _ => 0)))] := hD
  refine lv_aload_n hx hb dX3_init_12 rfl (lv_at hl 0 rfl) ?_
  refine lv_iconst (v := 0) hx hb dX3_init_13 (by decide) ?_
  refine va_put (D := D) (ci := 3) (v := .int 0) (ty := .int) (C := RX3) (T := TX3) (N := 2) hx hb hts iT_X3 tyX3 tyX3_ok nmX3 hown hK1 hP hD hS 0 rfl rfl 1 (by decide) (hts _ t_28) (fun _ h9 => h9) rfl (by decide +kernel) rfl rfl (Nat.le_of_ble_eq_true rfl) dX3_init_14 (fun H locs hP hD hS => ?_)
  have hP : va_P D vwCl [(h0, .inr (3, [.ref q_1, .int 0])), (q_1, .inl (cI, 16, .inl (fun _ => 0)))] H := hP
  have hD : va_D A [(h0, .inr (3, [.ref q_1, .int 0])), (q_1, .inl (cI, 16, .inl (fun _ => 0)))] := hD
  exact hret _ _ _ _ _ _ q_1 dX3_init_17 hS (Nat.le_of_ble_eq_true rfl) (Nat.le_of_ble_eq_true rfl) trivial (hP.sub [0, 1] rfl) (hD.sub [0, 1] rfl rfl)
set_option maxHeartbeats 4000000 in
set_option maxRecDepth 100000 in
theorem c_X4_init (sz : Nat) (h0 : Nat)  : CTv l D cI cJ cZ cR yX4_init cX4_init 1 none 2 45 7 145 sz [.ref h0] [(h0, .inr (4, [.int 0, .null, .null, .null, .null]))] (fun (u : Nat × Nat × Nat × Nat × Nat × Nat × Nat) => True) (fun (u : Nat × Nat × Nat × Nat × Nat × Nat × Nat) => [(h0, .inr (4, [.int 0, .ref u.1, .ref u.2.2.2.2.1, .ref u.2.2.2.2.2.1, .ref u.2.2.2.2.2.2])), (u.1, .inr (0, [.ref u.2.1, .ref u.2.2.1, .ref u.2.2.2.1, .int 0, .int 0])), (u.2.1, .inl (cI, 3, .inl (fun _ => 0))), (u.2.2.1, .inl (cI, 3, .inl (fun _ => 0))), (u.2.2.2.1, .inl (cI, 3, .inl (fun _ => 0))), (u.2.2.2.2.1, .inl (cI, 3, .inl (fun _ => 0))), (u.2.2.2.2.2.1, .inl (cI, 64, .inl (fun _ => 0))), (u.2.2.2.2.2.2, .inl (cI, 64, .inl (fun _ => 0)))]) := by
  refine CTv.of (by decide) (Nat.le_of_ble_eq_true rfl) rfl ?_
  intro p e s m below meth c A Q ls hd hin hK hsz hP hD hA hS hl hret
  obtain ⟨hx, hb, hml, hown, hts⟩ := id hd
  have hK1 := hK.1
  have hown : s.vm.findClass RX4 = some m.cls := hown
  have hin : meth.name = "<init>" := hin
  have hl : lv_has ls 1 [(0, .ref h0)] := hl
  refine lv_aload_n hx hb dX4_init_0 rfl (lv_at hl 0 rfl) ?_
  refine W.objInit hx hb hown (hts _ t_48) (hts _ t_18) (hts _ t_19) rfl (by rw [hml]; exact hl.1) rfl dX4_init_1 (Nat.le_of_ble_eq_true rfl) (Nat.le_of_ble_eq_true rfl) ?_
  refine W.eq (g2 := F0 m 4 ls []) rfl ?_
  refine lv_aload_n hx hb dX4_init_4 rfl (lv_at hl 0 rfl) ?_
  refine lv_iconst (v := 0) hx hb dX4_init_5 (by decide) ?_
  refine va_put (D := D) (ci := 4) (v := .int 0) (ty := .int) (C := RX4) (T := TX4) (N := 5) hx hb hts iT_X4 tyX4 tyX4_ok nmX4 hown hK1 hP hD hS 0 rfl rfl 0 (by decide) (hts _ t_79) (fun _ h9 => h9) rfl (by decide +kernel) rfl rfl (Nat.le_of_ble_eq_true rfl) dX4_init_6 (fun H locs hP hD hS => ?_)
  have hP : va_P D vwCl [(h0, .inr (4, [.int 0, .null, .null, .null, .null]))] H := hP
  have hD : va_D A [(h0, .inr (4, [.int 0, .null, .null, .null, .null]))] := hD
  refine lv_aload_n hx hb dX4_init_9 rfl (lv_at hl 0 rfl) ?_
  refine va_new (ci := 0) (fs := [.null, .null, .null, .int 0, .int 0]) (C := RX0) (T := TX0) (N := 5) hx hb hts iT_X0 tyX0 tyX0_ok hown (hts _ t_49) (hts _ t_50) (hts _ t_5) hK1 hP hD hS hA rfl df_X0 (Nat.le_of_ble_eq_true rfl) (Nat.le_of_ble_eq_true rfl) dX4_init_10 (fun q_1 H hP hD hS => ?_)
  have hP : va_P D vwCl [(h0, .inr (4, [.int 0, .null, .null, .null, .null])), (q_1, .inr (0, [.null, .null, .null, .int 0, .int 0]))] H := hP
  have hD : va_D A [(h0, .inr (4, [.int 0, .null, .null, .null, .null])), (q_1, .inr (0, [.null, .null, .null, .int 0, .int 0]))] := hD
  refine W.widen (k := 1) (n := 5) (Nat.le_of_ble_eq_true rfl) (Nat.le_of_ble_eq_true rfl) ?_
  refine lv_dup hx hb dX4_init_13 rfl ?_
  refine lv_iconst (v := 3) hx hb dX4_init_14 (by decide) ?_
  refine xc_v (wc := [(q_1, .inr (0, [.null, .null, .null, .int 0, .int 0]))]) (wr := [(h0, .inr (4, [.int 0, .null, .null, .null, .null]))]) (xrI (n := 1) (As := [.int 3]) (rest := [.ref q_1, .ref h0]) hd hK hP hD (c_X0_init_3 l D cI cJ cZ cR _ q_1 ) mI_X0_init.1 mI_X0_init.2.1 t_51 mI_X0_init.2.2 rfl hS_X0_init ⟨(Nat.le_of_ble_eq_true rfl), (Nat.le_of_ble_eq_true rfl)⟩ [1] rfl rfl rfl hl.1 rfl (Nat.le_of_ble_eq_true rfl) dX4_init_15 ⟨(Nat.le_of_ble_eq_true rfl), (Nat.le_of_ble_eq_true rfl)⟩) hP hD hS hA [1] [0] rfl rfl rfl (by decide) (fun u_3 H locs hw_4 hP hD hS => ?_)
  obtain ⟨a1_5, a2_6, a3_7⟩ := u_3
  have hP : va_P D vwCl [(h0, .inr (4, [.int 0, .null, .null, .null, .null])), (q_1, .inr (0, [.ref a1_5, .ref a2_6, .ref a3_7, .int 0, .int 0])), (a1_5, .inl (cI, 3, .inl (fun _ => 0))), (a2_6, .inl (cI, 3, .inl (fun _ => 0))), (a3_7, .inl (cI, 3, .inl (fun _ => 0)))] H := hP
  have hD : va_D A [(h0, .inr (4, [.int 0, .null, .null, .null, .null])), (q_1, .inr (0, [.ref a1_5, .ref a2_6, .ref a3_7, .int 0, .int 0])), (a1_5, .inl (cI, 3, .inl (fun _ => 0))), (a2_6, .inl (cI, 3, .inl (fun _ => 0))), (a3_7, .inl (cI, 3, .inl (fun _ => 0)))] := hD
  refine W.widen (k := 4) (n := 14) (Nat.le_of_ble_eq_true rfl) (Nat.le_of_ble_eq_true rfl) ?_
  refine va_putF (D := D) (ci := 4) (v := .ref q_1) (ty := (.object "GrownGraphs$Figure")) (C := RX4) (T := TX4) (N := 5) hx hb hts iT_X4 tyX4 tyX4_ok nmX4 hown hK1 hP hD hS 0 rfl rfl 1 (by decide) (hts _ t_83) (fun _ h9 => h9) rfl hin rfl (by decide +kernel) rfl rfl (Nat.le_of_ble_eq_true rfl) dX4_init_18 (fun H locs hP hD hS => ?_)
  have hP : va_P D vwCl [(h0, .inr (4, [.int 0, .ref q_1, .null, .null, .null])), (q_1, .inr (0, [.ref a1_5, .ref a2_6, .ref a3_7, .int 0, .int 0])), (a1_5, .inl (cI, 3, .inl (fun _ => 0))), (a2_6, .inl (cI, 3, .inl (fun _ => 0))), (a3_7, .inl (cI, 3, .inl (fun _ => 0)))] H := hP
  have hD : va_D A [(h0, .inr (4, [.int 0, .ref q_1, .null, .null, .null])), (q_1, .inr (0, [.ref a1_5, .ref a2_6, .ref a3_7, .int 0, .int 0])), (a1_5, .inl (cI, 3, .inl (fun _ => 0))), (a2_6, .inl (cI, 3, .inl (fun _ => 0))), (a3_7, .inl (cI, 3, .inl (fun _ => 0)))] := hD
  refine lv_aload_n hx hb dX4_init_21 rfl (lv_at hl 0 rfl) ?_
  refine lv_iconst (v := 3) hx hb dX4_init_22 (by decide) ?_
  refine nw_I (N' := 3) hx hb (hts _ t_35) hK hP hD hS hA (by decide) (by decide) (by decide) (Nat.le_of_ble_eq_true rfl) (Nat.le_of_ble_eq_true rfl) dX4_init_23 (fun q_8 H hP hD hS => ?_)
  have hP : va_P D vwCl [(h0, .inr (4, [.int 0, .ref q_1, .null, .null, .null])), (q_1, .inr (0, [.ref a1_5, .ref a2_6, .ref a3_7, .int 0, .int 0])), (a1_5, .inl (cI, 3, .inl (fun _ => 0))), (a2_6, .inl (cI, 3, .inl (fun _ => 0))), (a3_7, .inl (cI, 3, .inl (fun _ => 0))), (q_8, .inl (cI, 3, .inl (fun _ => 0)))] H := hP
  have hD : va_D A [(h0, .inr (4, [.int 0, .ref q_1, .null, .null, .null])), (q_1, .inr (0, [.ref a1_5, .ref a2_6, .ref a3_7, .int 0, .int 0])), (a1_5, .inl (cI, 3, .inl (fun _ => 0))), (a2_6, .inl (cI, 3, .inl (fun _ => 0))), (a3_7, .inl (cI, 3, .inl (fun _ => 0))), (q_8, .inl (cI, 3, .inl (fun _ => 0)))] := hD
  refine W.widen (k := 5) (n := 17) (Nat.le_of_ble_eq_true rfl) (Nat.le_of_ble_eq_true rfl) ?_
  refine va_putF (D := D) (ci := 4) (v := .ref q_8) (ty := (.array .int)) (C := RX4) (T := TX4) (N := 5) hx hb hts iT_X4 tyX4 tyX4_ok nmX4 hown hK1 hP hD hS 0 rfl rfl 2 (by decide) (hts _ t_86) (fun _ h9 => h9) rfl hin rfl (by decide +kernel) rfl rfl (Nat.le_of_ble_eq_true rfl) dX4_init_25 (fun H locs hP hD hS => ?_)
  have hP : va_P D vwCl [(h0, .inr (4, [.int 0, .ref q_1, .ref q_8, .null, .null])), (q_1, .inr (0, [.ref a1_5, .ref a2_6, .ref a3_7, .int 0, .int 0])), (a1_5, .inl (cI, 3, .inl (fun _ => 0))), (a2_6, .inl (cI, 3, .inl (fun _ => 0))), (a3_7, .inl (cI, 3, .inl (fun _ => 0))), (q_8, .inl (cI, 3, .inl (fun _ => 0)))] H := hP
  have hD : va_D A [(h0, .inr (4, [.int 0, .ref q_1, .ref q_8, .null, .null])), (q_1, .inr (0, [.ref a1_5, .ref a2_6, .ref a3_7, .int 0, .int 0])), (a1_5, .inl (cI, 3, .inl (fun _ => 0))), (a2_6, .inl (cI, 3, .inl (fun _ => 0))), (a3_7, .inl (cI, 3, .inl (fun _ => 0))), (q_8, .inl (cI, 3, .inl (fun _ => 0)))] := hD
  refine lv_aload_n hx hb dX4_init_28 rfl (lv_at hl 0 rfl) ?_
  refine lv_bipush (v := 64) hx hb dX4_init_29 (by decide) ?_
  refine nw_I (N' := 64) hx hb (hts _ t_35) hK hP hD hS hA (by decide) (by decide) (by decide) (Nat.le_of_ble_eq_true rfl) (Nat.le_of_ble_eq_true rfl) dX4_init_31 (fun q_9 H hP hD hS => ?_)
  have hP : va_P D vwCl [(h0, .inr (4, [.int 0, .ref q_1, .ref q_8, .null, .null])), (q_1, .inr (0, [.ref a1_5, .ref a2_6, .ref a3_7, .int 0, .int 0])), (a1_5, .inl (cI, 3, .inl (fun _ => 0))), (a2_6, .inl (cI, 3, .inl (fun _ => 0))), (a3_7, .inl (cI, 3, .inl (fun _ => 0))), (q_8, .inl (cI, 3, .inl (fun _ => 0))), (q_9, .inl (cI, 64, .inl (fun _ => 0)))] H := hP
  have hD : va_D A [(h0, .inr (4, [.int 0, .ref q_1, .ref q_8, .null, .null])), (q_1, .inr (0, [.ref a1_5, .ref a2_6, .ref a3_7, .int 0, .int 0])), (a1_5, .inl (cI, 3, .inl (fun _ => 0))), (a2_6, .inl (cI, 3, .inl (fun _ => 0))), (a3_7, .inl (cI, 3, .inl (fun _ => 0))), (q_8, .inl (cI, 3, .inl (fun _ => 0))), (q_9, .inl (cI, 64, .inl (fun _ => 0)))] := hD
  refine W.widen (k := 6) (n := 81) (Nat.le_of_ble_eq_true rfl) (Nat.le_of_ble_eq_true rfl) ?_
  refine va_putF (D := D) (ci := 4) (v := .ref q_9) (ty := (.array .int)) (C := RX4) (T := TX4) (N := 5) hx hb hts iT_X4 tyX4 tyX4_ok nmX4 hown hK1 hP hD hS 0 rfl rfl 3 (by decide) (hts _ t_89) (fun _ h9 => h9) rfl hin rfl (by decide +kernel) rfl rfl (Nat.le_of_ble_eq_true rfl) dX4_init_33 (fun H locs hP hD hS => ?_)
  have hP : va_P D vwCl [(h0, .inr (4, [.int 0, .ref q_1, .ref q_8, .ref q_9, .null])), (q_1, .inr (0, [.ref a1_5, .ref a2_6, .ref a3_7, .int 0, .int 0])), (a1_5, .inl (cI, 3, .inl (fun _ => 0))), (a2_6, .inl (cI, 3, .inl (fun _ => 0))), (a3_7, .inl (cI, 3, .inl (fun _ => 0))), (q_8, .inl (cI, 3, .inl (fun _ => 0))), (q_9, .inl (cI, 64, .inl (fun _ => 0)))] H := hP
  have hD : va_D A [(h0, .inr (4, [.int 0, .ref q_1, .ref q_8, .ref q_9, .null])), (q_1, .inr (0, [.ref a1_5, .ref a2_6, .ref a3_7, .int 0, .int 0])), (a1_5, .inl (cI, 3, .inl (fun _ => 0))), (a2_6, .inl (cI, 3, .inl (fun _ => 0))), (a3_7, .inl (cI, 3, .inl (fun _ => 0))), (q_8, .inl (cI, 3, .inl (fun _ => 0))), (q_9, .inl (cI, 64, .inl (fun _ => 0)))] := hD
  refine lv_aload_n hx hb dX4_init_36 rfl (lv_at hl 0 rfl) ?_
  refine lv_bipush (v := 64) hx hb dX4_init_37 (by decide) ?_
  refine nw_I (N' := 64) hx hb (hts _ t_35) hK hP hD hS hA (by decide) (by decide) (by decide) (Nat.le_of_ble_eq_true rfl) (Nat.le_of_ble_eq_true rfl) dX4_init_39 (fun q_10 H hP hD hS => ?_)
  have hP : va_P D vwCl [(h0, .inr (4, [.int 0, .ref q_1, .ref q_8, .ref q_9, .null])), (q_1, .inr (0, [.ref a1_5, .ref a2_6, .ref a3_7, .int 0, .int 0])), (a1_5, .inl (cI, 3, .inl (fun _ => 0))), (a2_6, .inl (cI, 3, .inl (fun _ => 0))), (a3_7, .inl (cI, 3, .inl (fun _ => 0))), (q_8, .inl (cI, 3, .inl (fun _ => 0))), (q_9, .inl (cI, 64, .inl (fun _ => 0))), (q_10, .inl (cI, 64, .inl (fun _ => 0)))] H := hP
  have hD : va_D A [(h0, .inr (4, [.int 0, .ref q_1, .ref q_8, .ref q_9, .null])), (q_1, .inr (0, [.ref a1_5, .ref a2_6, .ref a3_7, .int 0, .int 0])), (a1_5, .inl (cI, 3, .inl (fun _ => 0))), (a2_6, .inl (cI, 3, .inl (fun _ => 0))), (a3_7, .inl (cI, 3, .inl (fun _ => 0))), (q_8, .inl (cI, 3, .inl (fun _ => 0))), (q_9, .inl (cI, 64, .inl (fun _ => 0))), (q_10, .inl (cI, 64, .inl (fun _ => 0)))] := hD
  refine W.widen (k := 7) (n := 145) (Nat.le_of_ble_eq_true rfl) (Nat.le_of_ble_eq_true rfl) ?_
  refine va_putF (D := D) (ci := 4) (v := .ref q_10) (ty := (.array .int)) (C := RX4) (T := TX4) (N := 5) hx hb hts iT_X4 tyX4 tyX4_ok nmX4 hown hK1 hP hD hS 0 rfl rfl 4 (by decide) (hts _ t_90) (fun _ h9 => h9) rfl hin rfl (by decide +kernel) rfl rfl (Nat.le_of_ble_eq_true rfl) dX4_init_41 (fun H locs hP hD hS => ?_)
  have hP : va_P D vwCl [(h0, .inr (4, [.int 0, .ref q_1, .ref q_8, .ref q_9, .ref q_10])), (q_1, .inr (0, [.ref a1_5, .ref a2_6, .ref a3_7, .int 0, .int 0])), (a1_5, .inl (cI, 3, .inl (fun _ => 0))), (a2_6, .inl (cI, 3, .inl (fun _ => 0))), (a3_7, .inl (cI, 3, .inl (fun _ => 0))), (q_8, .inl (cI, 3, .inl (fun _ => 0))), (q_9, .inl (cI, 64, .inl (fun _ => 0))), (q_10, .inl (cI, 64, .inl (fun _ => 0)))] H := hP
  have hD : va_D A [(h0, .inr (4, [.int 0, .ref q_1, .ref q_8, .ref q_9, .ref q_10])), (q_1, .inr (0, [.ref a1_5, .ref a2_6, .ref a3_7, .int 0, .int 0])), (a1_5, .inl (cI, 3, .inl (fun _ => 0))), (a2_6, .inl (cI, 3, .inl (fun _ => 0))), (a3_7, .inl (cI, 3, .inl (fun _ => 0))), (q_8, .inl (cI, 3, .inl (fun _ => 0))), (q_9, .inl (cI, 64, .inl (fun _ => 0))), (q_10, .inl (cI, 64, .inl (fun _ => 0)))] := hD
  exact hret _ _ _ _ _ _ (q_1, a1_5, a2_6, a3_7, q_8, q_9, q_10) dX4_init_44 hS (Nat.le_of_ble_eq_true rfl) (Nat.le_of_ble_eq_true rfl) trivial (hP.sub [0, 1, 2, 3, 4, 5, 6, 7] rfl) (hD.sub [0, 1, 2, 3, 4, 5, 6, 7] rfl rfl)
set_option maxHeartbeats 4000000 in
set_option maxRecDepth 100000 in
theorem c_X5_init (sz : Nat) (h0 : Nat)  : CTv l D cI cJ cZ cR yX5_init cX5_init 2 none 3 65 73 1359 sz [.ref h0] [(h0, .inr (5, [.null, .int 0]))] (fun (u : Nat) => True) (fun (u : Nat) => [(h0, .inr (5, [.ref u, .int 0]))]) := by
  refine CTv.of (by decide) (Nat.le_of_ble_eq_true rfl) rfl ?_
  intro p e s m below meth c A Q ls hd hin hK hsz hP hD hA hS hl hret
  obtain ⟨hx, hb, hml, hown, hts⟩ := id hd
  have hK1 := hK.1
  have hown : s.vm.findClass RX5 = some m.cls := hown
  have hin : meth.name = "<init>" := hin
  have hl : lv_has ls 2 [(0, .ref h0)] := hl
  refine lv_aload_n hx hb dX5_init_0 rfl (lv_at hl 0 rfl) ?_
  refine W.objInit hx hb hown (hts _ t_41) (hts _ t_18) (hts _ t_19) rfl (by rw [hml]; exact hl.1) rfl dX5_init_1 (Nat.le_of_ble_eq_true rfl) (Nat.le_of_ble_eq_true rfl) ?_
  refine W.eq (g2 := F0 m 4 ls []) rfl ?_
  refine lv_aload_n hx hb dX5_init_4 rfl (lv_at hl 0 rfl) ?_
  refine lv_bipush (v := 9) hx hb dX5_init_5 (by decide) ?_
  refine nw_Q (N' := 9) hx hb hown (hts _ t_42) hK hP hD hS hA (by decide) (by decide) (by decide) (Nat.le_of_ble_eq_true rfl) (Nat.le_of_ble_eq_true rfl) dX5_init_7 (fun q_1 H hP hD hS => ?_)
  have hP : va_P D vwCl [(h0, .inr (5, [.null, .int 0])), (q_1, .inl (cR, 9, .inr (.inr (.inr (.inr (fun _ => none))))))] H := hP
  have hD : va_D A [(h0, .inr (5, [.null, .int 0])), (q_1, .inl (cR, 9, .inr (.inr (.inr (.inr (fun _ => none))))))] := hD
  refine W.widen (k := 1) (n := 9) (Nat.le_of_ble_eq_true rfl) (Nat.le_of_ble_eq_true rfl) ?_
  refine va_putF (D := D) (ci := 5) (v := .ref q_1) (ty := (.array (.object "GrownGraphs$Rule"))) (C := RX5) (T := TX5) (N := 2) hx hb hts iT_X5 tyX5 tyX5_ok nmX5 hown hK1 hP hD hS 0 rfl rfl 0 (by decide) (hts _ t_102) (fun _ h9 => h9) rfl hin rfl (by decide +kernel) rfl rfl (Nat.le_of_ble_eq_true rfl) dX5_init_10 (fun H locs hP hD hS => ?_)
  have hP : va_P D vwCl [(h0, .inr (5, [.ref q_1, .int 0])), (q_1, .inl (cR, 9, .inr (.inr (.inr (.inr (fun _ => none))))))] H := hP
  have hD : va_D A [(h0, .inr (5, [.ref q_1, .int 0])), (q_1, .inl (cR, 9, .inr (.inr (.inr (.inr (fun _ => none))))))] := hD
  refine lv_aload_n hx hb dX5_init_13 rfl (lv_at hl 0 rfl) ?_
  refine lv_iconst (v := 0) hx hb dX5_init_14 (by decide) ?_
  refine va_put (D := D) (ci := 5) (v := .int 0) (ty := .int) (C := RX5) (T := TX5) (N := 2) hx hb hts iT_X5 tyX5 tyX5_ok nmX5 hown hK1 hP hD hS 0 rfl rfl 1 (by decide) (hts _ t_106) (fun _ h9 => h9) rfl (by decide +kernel) rfl rfl (Nat.le_of_ble_eq_true rfl) dX5_init_15 (fun H locs hP hD hS => ?_)
  have hP : va_P D vwCl [(h0, .inr (5, [.ref q_1, .int 0])), (q_1, .inl (cR, 9, .inr (.inr (.inr (.inr (fun _ => none))))))] H := hP
  have hD : va_D A [(h0, .inr (5, [.ref q_1, .int 0])), (q_1, .inl (cR, 9, .inr (.inr (.inr (.inr (fun _ => none))))))] := hD
  refine lv_iconst (v := 0) hx hb dX5_init_18 (by decide) ?_
  refine lv_istore_n (lv' := [(1, .int 0), (0, .ref h0)]) hx hb dX5_init_19 rfl hl (by decide) rfl (fun ls hl => ?_)
  refine lv_iload_n hx hb dX5_init_20 rfl (lv_at hl 0 rfl) ?_
  refine lv_aload_n hx hb dX5_init_21 rfl (lv_at hl 1 rfl) ?_
  refine va_get (D := D) (ci := 5) (v := .ref q_1) (C := RX5) (T := TX5) (N := 2) hx hb hts iT_X5 hown hK1 hP 0 rfl rfl 0 (by decide) (hts _ t_102) (fun _ h9 => h9) rfl dX5_init_22 ?_
  refine va_alen hx hb hK1 hP 1 3 rfl rfl (v := 9) rfl dX5_init_25 ?_
  refine lv_icmp_ge (tgt := 48) hx hb dX5_init_26 (by decide) (fun c_2 => ?_) (fun c_2 => ?_)
  · exact absurd c_2 (by decide)
  refine lv_aload_n hx hb dX5_init_29 rfl (lv_at hl 1 rfl) ?_
  refine va_get (D := D) (ci := 5) (v := .ref q_1) (C := RX5) (T := TX5) (N := 2) hx hb hts iT_X5 hown hK1 hP 0 rfl rfl 0 (by decide) (hts _ t_102) (fun _ h9 => h9) rfl dX5_init_30 ?_
  refine lv_iload_n hx hb dX5_init_33 rfl (lv_at hl 0 rfl) ?_
  refine va_new (ci := 4) (fs := [.int 0, .null, .null, .null, .null]) (C := RX4) (T := TX4) (N := 5) hx hb hts iT_X4 tyX4 tyX4_ok hown (hts _ t_42) (hts _ t_44) (hts _ t_4) hK1 hP hD hS hA rfl df_X4 (Nat.le_of_ble_eq_true rfl) (Nat.le_of_ble_eq_true rfl) dX5_init_34 (fun q_3 H hP hD hS => ?_)
  have hP : va_P D vwCl [(h0, .inr (5, [.ref q_1, .int 0])), (q_1, .inl (cR, 9, .inr (.inr (.inr (.inr (fun _ => none)))))), (q_3, .inr (4, [.int 0, .null, .null, .null, .null]))] H := hP
  have hD : va_D A [(h0, .inr (5, [.ref q_1, .int 0])), (q_1, .inl (cR, 9, .inr (.inr (.inr (.inr (fun _ => none)))))), (q_3, .inr (4, [.int 0, .null, .null, .null, .null]))] := hD
  refine W.widen (k := 2) (n := 14) (Nat.le_of_ble_eq_true rfl) (Nat.le_of_ble_eq_true rfl) ?_
  refine lv_dup hx hb dX5_init_37 rfl ?_
  refine xc_v (wc := [(q_3, .inr (4, [.int 0, .null, .null, .null, .null]))]) (wr := [(h0, .inr (5, [.ref q_1, .int 0])), (q_1, .inl (cR, 9, .inr (.inr (.inr (.inr (fun _ => none))))))]) (xrIN (n := 0) (As := []) (rest := [.ref q_3, .int 0, .ref q_1]) hd hK hP hD (c_X4_init l D cI cJ cZ cR _ q_3 ) mI_X4_init.1 mI_X4_init.2.1 hK.2.2.1 mI_X4_init.2.2 rfl hS_X4_init ⟨(Nat.le_of_ble_eq_true rfl), (Nat.le_of_ble_eq_true rfl)⟩ [2] rfl rfl rfl hl.1 rfl (Nat.le_of_ble_eq_true rfl) dX5_init_38 ⟨(Nat.le_of_ble_eq_true rfl), (Nat.le_of_ble_eq_true rfl)⟩) hP hD hS hA [2] [0, 1] rfl rfl rfl (by decide) (fun u_5 H locs hw_6 hP hD hS => ?_)
  obtain ⟨b0_7, a1_8, a2_9, a3_10, b1_11, b2_12, b3_13⟩ := u_5
  have hP : va_P D vwCl [(h0, .inr (5, [.ref q_1, .int 0])), (q_1, .inl (cR, 9, .inr (.inr (.inr (.inr (fun _ => none)))))), (q_3, .inr (4, [.int 0, .ref b0_7, .ref b1_11, .ref b2_12, .ref b3_13])), (b0_7, .inr (0, [.ref a1_8, .ref a2_9, .ref a3_10, .int 0, .int 0])), (a1_8, .inl (cI, 3, .inl (fun _ => 0))), (a2_9, .inl (cI, 3, .inl (fun _ => 0))), (a3_10, .inl (cI, 3, .inl (fun _ => 0))), (b1_11, .inl (cI, 3, .inl (fun _ => 0))), (b2_12, .inl (cI, 64, .inl (fun _ => 0))), (b3_13, .inl (cI, 64, .inl (fun _ => 0)))] H := hP
  have hD : va_D A [(h0, .inr (5, [.ref q_1, .int 0])), (q_1, .inl (cR, 9, .inr (.inr (.inr (.inr (fun _ => none)))))), (q_3, .inr (4, [.int 0, .ref b0_7, .ref b1_11, .ref b2_12, .ref b3_13])), (b0_7, .inr (0, [.ref a1_8, .ref a2_9, .ref a3_10, .int 0, .int 0])), (a1_8, .inl (cI, 3, .inl (fun _ => 0))), (a2_9, .inl (cI, 3, .inl (fun _ => 0))), (a3_10, .inl (cI, 3, .inl (fun _ => 0))), (b1_11, .inl (cI, 3, .inl (fun _ => 0))), (b2_12, .inl (cI, 64, .inl (fun _ => 0))), (b3_13, .inl (cI, 64, .inl (fun _ => 0)))] := hD
  refine W.widen (k := 9) (n := 159) (Nat.le_of_ble_eq_true rfl) (Nat.le_of_ble_eq_true rfl) ?_
  have hP := hP.sub (ws' := [(h0, .inr (5, [.ref q_1, .int 0])), (q_1, .inl (cR, 9, .inr (.inr (.inr (.inr (fun _ => none)))))), (q_3, .inr (4, [.int 0, .ref b0_7, .ref b1_11, .ref b2_12, .ref b3_13]))]) [0, 1, 2] rfl
  have hD := hD.sub (ws' := [(h0, .inr (5, [.ref q_1, .int 0])), (q_1, .inl (cR, 9, .inr (.inr (.inr (.inr (fun _ => none)))))), (q_3, .inr (4, [.int 0, .ref b0_7, .ref b1_11, .ref b2_12, .ref b3_13]))]) [0, 1, 2] rfl rfl
  refine va_astq hx hb hK1 hP hD hS 1 3 2 4 rfl rfl rfl rfl (vin (by decide)) dX5_init_41 (fun H locs hP hD hS => ?_)
  have hP : va_P D vwCl [(h0, .inr (5, [.ref q_1, .int 0])), (q_1, .inl (cR, 9, .inr (.inr (.inr (.inr (va_up (fun _ => none) 0 (some q_3))))))), (q_3, .inr (4, [.int 0, .ref b0_7, .ref b1_11, .ref b2_12, .ref b3_13]))] H := hP
  have hD : va_D A [(h0, .inr (5, [.ref q_1, .int 0])), (q_1, .inl (cR, 9, .inr (.inr (.inr (.inr (va_up (fun _ => none) 0 (some q_3))))))), (q_3, .inr (4, [.int 0, .ref b0_7, .ref b1_11, .ref b2_12, .ref b3_13]))] := hD
  refine lv_iinc (v := 1) (lv' := [(1, .int 1), (0, .ref h0)]) hx hb dX5_init_42 hl (k := 0) rfl (by decide) (by decide) rfl (fun ls hl => ?_)
  refine lv_goto (tgt := 20) hx hb dX5_init_45 (by decide) ?_
  refine lv_iload_n hx hb dX5_init_20 rfl (lv_at hl 0 rfl) ?_
  refine lv_aload_n hx hb dX5_init_21 rfl (lv_at hl 1 rfl) ?_
  refine va_get (D := D) (ci := 5) (v := .ref q_1) (C := RX5) (T := TX5) (N := 2) hx hb hts iT_X5 hown hK1 hP 0 rfl rfl 0 (by decide) (hts _ t_102) (fun _ h9 => h9) rfl dX5_init_22 ?_
  refine va_alen hx hb hK1 hP 1 3 rfl rfl (v := 9) rfl dX5_init_25 ?_
  refine lv_icmp_ge (tgt := 48) hx hb dX5_init_26 (by decide) (fun c_14 => ?_) (fun c_14 => ?_)
  · exact absurd c_14 (by decide)
  refine lv_aload_n hx hb dX5_init_29 rfl (lv_at hl 1 rfl) ?_
  refine va_get (D := D) (ci := 5) (v := .ref q_1) (C := RX5) (T := TX5) (N := 2) hx hb hts iT_X5 hown hK1 hP 0 rfl rfl 0 (by decide) (hts _ t_102) (fun _ h9 => h9) rfl dX5_init_30 ?_
  refine lv_iload_n hx hb dX5_init_33 rfl (lv_at hl 0 rfl) ?_
  refine va_new (ci := 4) (fs := [.int 0, .null, .null, .null, .null]) (C := RX4) (T := TX4) (N := 5) hx hb hts iT_X4 tyX4 tyX4_ok hown (hts _ t_42) (hts _ t_44) (hts _ t_4) hK1 hP hD hS hA rfl df_X4 (Nat.le_of_ble_eq_true rfl) (Nat.le_of_ble_eq_true rfl) dX5_init_34 (fun q_15 H hP hD hS => ?_)
  have hP : va_P D vwCl [(h0, .inr (5, [.ref q_1, .int 0])), (q_1, .inl (cR, 9, .inr (.inr (.inr (.inr (va_up (fun _ => none) 0 (some q_3))))))), (q_3, .inr (4, [.int 0, .ref b0_7, .ref b1_11, .ref b2_12, .ref b3_13])), (q_15, .inr (4, [.int 0, .null, .null, .null, .null]))] H := hP
  have hD : va_D A [(h0, .inr (5, [.ref q_1, .int 0])), (q_1, .inl (cR, 9, .inr (.inr (.inr (.inr (va_up (fun _ => none) 0 (some q_3))))))), (q_3, .inr (4, [.int 0, .ref b0_7, .ref b1_11, .ref b2_12, .ref b3_13])), (q_15, .inr (4, [.int 0, .null, .null, .null, .null]))] := hD
  refine W.widen (k := 10) (n := 164) (Nat.le_of_ble_eq_true rfl) (Nat.le_of_ble_eq_true rfl) ?_
  refine lv_dup hx hb dX5_init_37 rfl ?_
  refine xc_v (wc := [(q_15, .inr (4, [.int 0, .null, .null, .null, .null]))]) (wr := [(h0, .inr (5, [.ref q_1, .int 0])), (q_1, .inl (cR, 9, .inr (.inr (.inr (.inr (va_up (fun _ => none) 0 (some q_3))))))), (q_3, .inr (4, [.int 0, .ref b0_7, .ref b1_11, .ref b2_12, .ref b3_13]))]) (xrIN (n := 0) (As := []) (rest := [.ref q_15, .int 1, .ref q_1]) hd hK hP hD (c_X4_init l D cI cJ cZ cR _ q_15 ) mI_X4_init.1 mI_X4_init.2.1 hK.2.2.1 mI_X4_init.2.2 rfl hS_X4_init ⟨(Nat.le_of_ble_eq_true rfl), (Nat.le_of_ble_eq_true rfl)⟩ [3] rfl rfl rfl hl.1 rfl (Nat.le_of_ble_eq_true rfl) dX5_init_38 ⟨(Nat.le_of_ble_eq_true rfl), (Nat.le_of_ble_eq_true rfl)⟩) hP hD hS hA [3] [0, 1, 2] rfl rfl rfl (by decide) (fun u_17 H locs hw_18 hP hD hS => ?_)
  obtain ⟨b0_19, a1_20, a2_21, a3_22, b1_23, b2_24, b3_25⟩ := u_17
  have hP : va_P D vwCl [(h0, .inr (5, [.ref q_1, .int 0])), (q_1, .inl (cR, 9, .inr (.inr (.inr (.inr (va_up (fun _ => none) 0 (some q_3))))))), (q_3, .inr (4, [.int 0, .ref b0_7, .ref b1_11, .ref b2_12, .ref b3_13])), (q_15, .inr (4, [.int 0, .ref b0_19, .ref b1_23, .ref b2_24, .ref b3_25])), (b0_19, .inr (0, [.ref a1_20, .ref a2_21, .ref a3_22, .int 0, .int 0])), (a1_20, .inl (cI, 3, .inl (fun _ => 0))), (a2_21, .inl (cI, 3, .inl (fun _ => 0))), (a3_22, .inl (cI, 3, .inl (fun _ => 0))), (b1_23, .inl (cI, 3, .inl (fun _ => 0))), (b2_24, .inl (cI, 64, .inl (fun _ => 0))), (b3_25, .inl (cI, 64, .inl (fun _ => 0)))] H := hP
  have hD : va_D A [(h0, .inr (5, [.ref q_1, .int 0])), (q_1, .inl (cR, 9, .inr (.inr (.inr (.inr (va_up (fun _ => none) 0 (some q_3))))))), (q_3, .inr (4, [.int 0, .ref b0_7, .ref b1_11, .ref b2_12, .ref b3_13])), (q_15, .inr (4, [.int 0, .ref b0_19, .ref b1_23, .ref b2_24, .ref b3_25])), (b0_19, .inr (0, [.ref a1_20, .ref a2_21, .ref a3_22, .int 0, .int 0])), (a1_20, .inl (cI, 3, .inl (fun _ => 0))), (a2_21, .inl (cI, 3, .inl (fun _ => 0))), (a3_22, .inl (cI, 3, .inl (fun _ => 0))), (b1_23, .inl (cI, 3, .inl (fun _ => 0))), (b2_24, .inl (cI, 64, .inl (fun _ => 0))), (b3_25, .inl (cI, 64, .inl (fun _ => 0)))] := hD
  refine W.widen (k := 17) (n := 309) (Nat.le_of_ble_eq_true rfl) (Nat.le_of_ble_eq_true rfl) ?_
  have hP := hP.sub (ws' := [(h0, .inr (5, [.ref q_1, .int 0])), (q_1, .inl (cR, 9, .inr (.inr (.inr (.inr (va_up (fun _ => none) 0 (some q_3))))))), (q_15, .inr (4, [.int 0, .ref b0_19, .ref b1_23, .ref b2_24, .ref b3_25]))]) [0, 1, 3] rfl
  have hD := hD.sub (ws' := [(h0, .inr (5, [.ref q_1, .int 0])), (q_1, .inl (cR, 9, .inr (.inr (.inr (.inr (va_up (fun _ => none) 0 (some q_3))))))), (q_15, .inr (4, [.int 0, .ref b0_19, .ref b1_23, .ref b2_24, .ref b3_25]))]) [0, 1, 3] rfl rfl
  refine va_astq hx hb hK1 hP hD hS 1 3 2 4 rfl rfl rfl rfl (vin (by decide)) dX5_init_41 (fun H locs hP hD hS => ?_)
  have hP : va_P D vwCl [(h0, .inr (5, [.ref q_1, .int 0])), (q_1, .inl (cR, 9, .inr (.inr (.inr (.inr (va_up (va_up (fun _ => none) 0 (some q_3)) 1 (some q_15))))))), (q_15, .inr (4, [.int 0, .ref b0_19, .ref b1_23, .ref b2_24, .ref b3_25]))] H := hP
  have hD : va_D A [(h0, .inr (5, [.ref q_1, .int 0])), (q_1, .inl (cR, 9, .inr (.inr (.inr (.inr (va_up (va_up (fun _ => none) 0 (some q_3)) 1 (some q_15))))))), (q_15, .inr (4, [.int 0, .ref b0_19, .ref b1_23, .ref b2_24, .ref b3_25]))] := hD
  refine lv_iinc (v := 2) (lv' := [(1, .int 2), (0, .ref h0)]) hx hb dX5_init_42 hl (k := 0) rfl (by decide) (by decide) rfl (fun ls hl => ?_)
  refine lv_goto (tgt := 20) hx hb dX5_init_45 (by decide) ?_
  refine lv_iload_n hx hb dX5_init_20 rfl (lv_at hl 0 rfl) ?_
  refine lv_aload_n hx hb dX5_init_21 rfl (lv_at hl 1 rfl) ?_
  refine va_get (D := D) (ci := 5) (v := .ref q_1) (C := RX5) (T := TX5) (N := 2) hx hb hts iT_X5 hown hK1 hP 0 rfl rfl 0 (by decide) (hts _ t_102) (fun _ h9 => h9) rfl dX5_init_22 ?_
  refine va_alen hx hb hK1 hP 1 3 rfl rfl (v := 9) rfl dX5_init_25 ?_
  refine lv_icmp_ge (tgt := 48) hx hb dX5_init_26 (by decide) (fun c_26 => ?_) (fun c_26 => ?_)
  · exact absurd c_26 (by decide)
  refine lv_aload_n hx hb dX5_init_29 rfl (lv_at hl 1 rfl) ?_
  refine va_get (D := D) (ci := 5) (v := .ref q_1) (C := RX5) (T := TX5) (N := 2) hx hb hts iT_X5 hown hK1 hP 0 rfl rfl 0 (by decide) (hts _ t_102) (fun _ h9 => h9) rfl dX5_init_30 ?_
  refine lv_iload_n hx hb dX5_init_33 rfl (lv_at hl 0 rfl) ?_
  refine va_new (ci := 4) (fs := [.int 0, .null, .null, .null, .null]) (C := RX4) (T := TX4) (N := 5) hx hb hts iT_X4 tyX4 tyX4_ok hown (hts _ t_42) (hts _ t_44) (hts _ t_4) hK1 hP hD hS hA rfl df_X4 (Nat.le_of_ble_eq_true rfl) (Nat.le_of_ble_eq_true rfl) dX5_init_34 (fun q_27 H hP hD hS => ?_)
  have hP : va_P D vwCl [(h0, .inr (5, [.ref q_1, .int 0])), (q_1, .inl (cR, 9, .inr (.inr (.inr (.inr (va_up (va_up (fun _ => none) 0 (some q_3)) 1 (some q_15))))))), (q_15, .inr (4, [.int 0, .ref b0_19, .ref b1_23, .ref b2_24, .ref b3_25])), (q_27, .inr (4, [.int 0, .null, .null, .null, .null]))] H := hP
  have hD : va_D A [(h0, .inr (5, [.ref q_1, .int 0])), (q_1, .inl (cR, 9, .inr (.inr (.inr (.inr (va_up (va_up (fun _ => none) 0 (some q_3)) 1 (some q_15))))))), (q_15, .inr (4, [.int 0, .ref b0_19, .ref b1_23, .ref b2_24, .ref b3_25])), (q_27, .inr (4, [.int 0, .null, .null, .null, .null]))] := hD
  refine W.widen (k := 18) (n := 314) (Nat.le_of_ble_eq_true rfl) (Nat.le_of_ble_eq_true rfl) ?_
  refine lv_dup hx hb dX5_init_37 rfl ?_
  refine xc_v (wc := [(q_27, .inr (4, [.int 0, .null, .null, .null, .null]))]) (wr := [(h0, .inr (5, [.ref q_1, .int 0])), (q_1, .inl (cR, 9, .inr (.inr (.inr (.inr (va_up (va_up (fun _ => none) 0 (some q_3)) 1 (some q_15))))))), (q_15, .inr (4, [.int 0, .ref b0_19, .ref b1_23, .ref b2_24, .ref b3_25]))]) (xrIN (n := 0) (As := []) (rest := [.ref q_27, .int 2, .ref q_1]) hd hK hP hD (c_X4_init l D cI cJ cZ cR _ q_27 ) mI_X4_init.1 mI_X4_init.2.1 hK.2.2.1 mI_X4_init.2.2 rfl hS_X4_init ⟨(Nat.le_of_ble_eq_true rfl), (Nat.le_of_ble_eq_true rfl)⟩ [3] rfl rfl rfl hl.1 rfl (Nat.le_of_ble_eq_true rfl) dX5_init_38 ⟨(Nat.le_of_ble_eq_true rfl), (Nat.le_of_ble_eq_true rfl)⟩) hP hD hS hA [3] [0, 1, 2] rfl rfl rfl (by decide) (fun u_29 H locs hw_30 hP hD hS => ?_)
  obtain ⟨b0_31, a1_32, a2_33, a3_34, b1_35, b2_36, b3_37⟩ := u_29
  have hP : va_P D vwCl [(h0, .inr (5, [.ref q_1, .int 0])), (q_1, .inl (cR, 9, .inr (.inr (.inr (.inr (va_up (va_up (fun _ => none) 0 (some q_3)) 1 (some q_15))))))), (q_15, .inr (4, [.int 0, .ref b0_19, .ref b1_23, .ref b2_24, .ref b3_25])), (q_27, .inr (4, [.int 0, .ref b0_31, .ref b1_35, .ref b2_36, .ref b3_37])), (b0_31, .inr (0, [.ref a1_32, .ref a2_33, .ref a3_34, .int 0, .int 0])), (a1_32, .inl (cI, 3, .inl (fun _ => 0))), (a2_33, .inl (cI, 3, .inl (fun _ => 0))), (a3_34, .inl (cI, 3, .inl (fun _ => 0))), (b1_35, .inl (cI, 3, .inl (fun _ => 0))), (b2_36, .inl (cI, 64, .inl (fun _ => 0))), (b3_37, .inl (cI, 64, .inl (fun _ => 0)))] H := hP
  have hD : va_D A [(h0, .inr (5, [.ref q_1, .int 0])), (q_1, .inl (cR, 9, .inr (.inr (.inr (.inr (va_up (va_up (fun _ => none) 0 (some q_3)) 1 (some q_15))))))), (q_15, .inr (4, [.int 0, .ref b0_19, .ref b1_23, .ref b2_24, .ref b3_25])), (q_27, .inr (4, [.int 0, .ref b0_31, .ref b1_35, .ref b2_36, .ref b3_37])), (b0_31, .inr (0, [.ref a1_32, .ref a2_33, .ref a3_34, .int 0, .int 0])), (a1_32, .inl (cI, 3, .inl (fun _ => 0))), (a2_33, .inl (cI, 3, .inl (fun _ => 0))), (a3_34, .inl (cI, 3, .inl (fun _ => 0))), (b1_35, .inl (cI, 3, .inl (fun _ => 0))), (b2_36, .inl (cI, 64, .inl (fun _ => 0))), (b3_37, .inl (cI, 64, .inl (fun _ => 0)))] := hD
  refine W.widen (k := 25) (n := 459) (Nat.le_of_ble_eq_true rfl) (Nat.le_of_ble_eq_true rfl) ?_
  have hP := hP.sub (ws' := [(h0, .inr (5, [.ref q_1, .int 0])), (q_1, .inl (cR, 9, .inr (.inr (.inr (.inr (va_up (va_up (fun _ => none) 0 (some q_3)) 1 (some q_15))))))), (q_27, .inr (4, [.int 0, .ref b0_31, .ref b1_35, .ref b2_36, .ref b3_37]))]) [0, 1, 3] rfl
  have hD := hD.sub (ws' := [(h0, .inr (5, [.ref q_1, .int 0])), (q_1, .inl (cR, 9, .inr (.inr (.inr (.inr (va_up (va_up (fun _ => none) 0 (some q_3)) 1 (some q_15))))))), (q_27, .inr (4, [.int 0, .ref b0_31, .ref b1_35, .ref b2_36, .ref b3_37]))]) [0, 1, 3] rfl rfl
  refine va_astq hx hb hK1 hP hD hS 1 3 2 4 rfl rfl rfl rfl (vin (by decide)) dX5_init_41 (fun H locs hP hD hS => ?_)
  have hP : va_P D vwCl [(h0, .inr (5, [.ref q_1, .int 0])), (q_1, .inl (cR, 9, .inr (.inr (.inr (.inr (va_up (va_up (va_up (fun _ => none) 0 (some q_3)) 1 (some q_15)) 2 (some q_27))))))), (q_27, .inr (4, [.int 0, .ref b0_31, .ref b1_35, .ref b2_36, .ref b3_37]))] H := hP
  have hD : va_D A [(h0, .inr (5, [.ref q_1, .int 0])), (q_1, .inl (cR, 9, .inr (.inr (.inr (.inr (va_up (va_up (va_up (fun _ => none) 0 (some q_3)) 1 (some q_15)) 2 (some q_27))))))), (q_27, .inr (4, [.int 0, .ref b0_31, .ref b1_35, .ref b2_36, .ref b3_37]))] := hD
  refine lv_iinc (v := 3) (lv' := [(1, .int 3), (0, .ref h0)]) hx hb dX5_init_42 hl (k := 0) rfl (by decide) (by decide) rfl (fun ls hl => ?_)
  refine lv_goto (tgt := 20) hx hb dX5_init_45 (by decide) ?_
  refine lv_iload_n hx hb dX5_init_20 rfl (lv_at hl 0 rfl) ?_
  refine lv_aload_n hx hb dX5_init_21 rfl (lv_at hl 1 rfl) ?_
  refine va_get (D := D) (ci := 5) (v := .ref q_1) (C := RX5) (T := TX5) (N := 2) hx hb hts iT_X5 hown hK1 hP 0 rfl rfl 0 (by decide) (hts _ t_102) (fun _ h9 => h9) rfl dX5_init_22 ?_
  refine va_alen hx hb hK1 hP 1 3 rfl rfl (v := 9) rfl dX5_init_25 ?_
  refine lv_icmp_ge (tgt := 48) hx hb dX5_init_26 (by decide) (fun c_38 => ?_) (fun c_38 => ?_)
  · exact absurd c_38 (by decide)
  refine lv_aload_n hx hb dX5_init_29 rfl (lv_at hl 1 rfl) ?_
  refine va_get (D := D) (ci := 5) (v := .ref q_1) (C := RX5) (T := TX5) (N := 2) hx hb hts iT_X5 hown hK1 hP 0 rfl rfl 0 (by decide) (hts _ t_102) (fun _ h9 => h9) rfl dX5_init_30 ?_
  refine lv_iload_n hx hb dX5_init_33 rfl (lv_at hl 0 rfl) ?_
  refine va_new (ci := 4) (fs := [.int 0, .null, .null, .null, .null]) (C := RX4) (T := TX4) (N := 5) hx hb hts iT_X4 tyX4 tyX4_ok hown (hts _ t_42) (hts _ t_44) (hts _ t_4) hK1 hP hD hS hA rfl df_X4 (Nat.le_of_ble_eq_true rfl) (Nat.le_of_ble_eq_true rfl) dX5_init_34 (fun q_39 H hP hD hS => ?_)
  have hP : va_P D vwCl [(h0, .inr (5, [.ref q_1, .int 0])), (q_1, .inl (cR, 9, .inr (.inr (.inr (.inr (va_up (va_up (va_up (fun _ => none) 0 (some q_3)) 1 (some q_15)) 2 (some q_27))))))), (q_27, .inr (4, [.int 0, .ref b0_31, .ref b1_35, .ref b2_36, .ref b3_37])), (q_39, .inr (4, [.int 0, .null, .null, .null, .null]))] H := hP
  have hD : va_D A [(h0, .inr (5, [.ref q_1, .int 0])), (q_1, .inl (cR, 9, .inr (.inr (.inr (.inr (va_up (va_up (va_up (fun _ => none) 0 (some q_3)) 1 (some q_15)) 2 (some q_27))))))), (q_27, .inr (4, [.int 0, .ref b0_31, .ref b1_35, .ref b2_36, .ref b3_37])), (q_39, .inr (4, [.int 0, .null, .null, .null, .null]))] := hD
  refine W.widen (k := 26) (n := 464) (Nat.le_of_ble_eq_true rfl) (Nat.le_of_ble_eq_true rfl) ?_
  refine lv_dup hx hb dX5_init_37 rfl ?_
  refine xc_v (wc := [(q_39, .inr (4, [.int 0, .null, .null, .null, .null]))]) (wr := [(h0, .inr (5, [.ref q_1, .int 0])), (q_1, .inl (cR, 9, .inr (.inr (.inr (.inr (va_up (va_up (va_up (fun _ => none) 0 (some q_3)) 1 (some q_15)) 2 (some q_27))))))), (q_27, .inr (4, [.int 0, .ref b0_31, .ref b1_35, .ref b2_36, .ref b3_37]))]) (xrIN (n := 0) (As := []) (rest := [.ref q_39, .int 3, .ref q_1]) hd hK hP hD (c_X4_init l D cI cJ cZ cR _ q_39 ) mI_X4_init.1 mI_X4_init.2.1 hK.2.2.1 mI_X4_init.2.2 rfl hS_X4_init ⟨(Nat.le_of_ble_eq_true rfl), (Nat.le_of_ble_eq_true rfl)⟩ [3] rfl rfl rfl hl.1 rfl (Nat.le_of_ble_eq_true rfl) dX5_init_38 ⟨(Nat.le_of_ble_eq_true rfl), (Nat.le_of_ble_eq_true rfl)⟩) hP hD hS hA [3] [0, 1, 2] rfl rfl rfl (by decide) (fun u_41 H locs hw_42 hP hD hS => ?_)
  obtain ⟨b0_43, a1_44, a2_45, a3_46, b1_47, b2_48, b3_49⟩ := u_41
  have hP : va_P D vwCl [(h0, .inr (5, [.ref q_1, .int 0])), (q_1, .inl (cR, 9, .inr (.inr (.inr (.inr (va_up (va_up (va_up (fun _ => none) 0 (some q_3)) 1 (some q_15)) 2 (some q_27))))))), (q_27, .inr (4, [.int 0, .ref b0_31, .ref b1_35, .ref b2_36, .ref b3_37])), (q_39, .inr (4, [.int 0, .ref b0_43, .ref b1_47, .ref b2_48, .ref b3_49])), (b0_43, .inr (0, [.ref a1_44, .ref a2_45, .ref a3_46, .int 0, .int 0])), (a1_44, .inl (cI, 3, .inl (fun _ => 0))), (a2_45, .inl (cI, 3, .inl (fun _ => 0))), (a3_46, .inl (cI, 3, .inl (fun _ => 0))), (b1_47, .inl (cI, 3, .inl (fun _ => 0))), (b2_48, .inl (cI, 64, .inl (fun _ => 0))), (b3_49, .inl (cI, 64, .inl (fun _ => 0)))] H := hP
  have hD : va_D A [(h0, .inr (5, [.ref q_1, .int 0])), (q_1, .inl (cR, 9, .inr (.inr (.inr (.inr (va_up (va_up (va_up (fun _ => none) 0 (some q_3)) 1 (some q_15)) 2 (some q_27))))))), (q_27, .inr (4, [.int 0, .ref b0_31, .ref b1_35, .ref b2_36, .ref b3_37])), (q_39, .inr (4, [.int 0, .ref b0_43, .ref b1_47, .ref b2_48, .ref b3_49])), (b0_43, .inr (0, [.ref a1_44, .ref a2_45, .ref a3_46, .int 0, .int 0])), (a1_44, .inl (cI, 3, .inl (fun _ => 0))), (a2_45, .inl (cI, 3, .inl (fun _ => 0))), (a3_46, .inl (cI, 3, .inl (fun _ => 0))), (b1_47, .inl (cI, 3, .inl (fun _ => 0))), (b2_48, .inl (cI, 64, .inl (fun _ => 0))), (b3_49, .inl (cI, 64, .inl (fun _ => 0)))] := hD
  refine W.widen (k := 33) (n := 609) (Nat.le_of_ble_eq_true rfl) (Nat.le_of_ble_eq_true rfl) ?_
  have hP := hP.sub (ws' := [(h0, .inr (5, [.ref q_1, .int 0])), (q_1, .inl (cR, 9, .inr (.inr (.inr (.inr (va_up (va_up (va_up (fun _ => none) 0 (some q_3)) 1 (some q_15)) 2 (some q_27))))))), (q_39, .inr (4, [.int 0, .ref b0_43, .ref b1_47, .ref b2_48, .ref b3_49]))]) [0, 1, 3] rfl
  have hD := hD.sub (ws' := [(h0, .inr (5, [.ref q_1, .int 0])), (q_1, .inl (cR, 9, .inr (.inr (.inr (.inr (va_up (va_up (va_up (fun _ => none) 0 (some q_3)) 1 (some q_15)) 2 (some q_27))))))), (q_39, .inr (4, [.int 0, .ref b0_43, .ref b1_47, .ref b2_48, .ref b3_49]))]) [0, 1, 3] rfl rfl
  refine va_astq hx hb hK1 hP hD hS 1 3 2 4 rfl rfl rfl rfl (vin (by decide)) dX5_init_41 (fun H locs hP hD hS => ?_)
  have hP : va_P D vwCl [(h0, .inr (5, [.ref q_1, .int 0])), (q_1, .inl (cR, 9, .inr (.inr (.inr (.inr (va_up (va_up (va_up (va_up (fun _ => none) 0 (some q_3)) 1 (some q_15)) 2 (some q_27)) 3 (some q_39))))))), (q_39, .inr (4, [.int 0, .ref b0_43, .ref b1_47, .ref b2_48, .ref b3_49]))] H := hP
  have hD : va_D A [(h0, .inr (5, [.ref q_1, .int 0])), (q_1, .inl (cR, 9, .inr (.inr (.inr (.inr (va_up (va_up (va_up (va_up (fun _ => none) 0 (some q_3)) 1 (some q_15)) 2 (some q_27)) 3 (some q_39))))))), (q_39, .inr (4, [.int 0, .ref b0_43, .ref b1_47, .ref b2_48, .ref b3_49]))] := hD
  refine lv_iinc (v := 4) (lv' := [(1, .int 4), (0, .ref h0)]) hx hb dX5_init_42 hl (k := 0) rfl (by decide) (by decide) rfl (fun ls hl => ?_)
  refine lv_goto (tgt := 20) hx hb dX5_init_45 (by decide) ?_
  refine lv_iload_n hx hb dX5_init_20 rfl (lv_at hl 0 rfl) ?_
  refine lv_aload_n hx hb dX5_init_21 rfl (lv_at hl 1 rfl) ?_
  refine va_get (D := D) (ci := 5) (v := .ref q_1) (C := RX5) (T := TX5) (N := 2) hx hb hts iT_X5 hown hK1 hP 0 rfl rfl 0 (by decide) (hts _ t_102) (fun _ h9 => h9) rfl dX5_init_22 ?_
  refine va_alen hx hb hK1 hP 1 3 rfl rfl (v := 9) rfl dX5_init_25 ?_
  refine lv_icmp_ge (tgt := 48) hx hb dX5_init_26 (by decide) (fun c_50 => ?_) (fun c_50 => ?_)
  · exact absurd c_50 (by decide)
  refine lv_aload_n hx hb dX5_init_29 rfl (lv_at hl 1 rfl) ?_
  refine va_get (D := D) (ci := 5) (v := .ref q_1) (C := RX5) (T := TX5) (N := 2) hx hb hts iT_X5 hown hK1 hP 0 rfl rfl 0 (by decide) (hts _ t_102) (fun _ h9 => h9) rfl dX5_init_30 ?_
  refine lv_iload_n hx hb dX5_init_33 rfl (lv_at hl 0 rfl) ?_
  refine va_new (ci := 4) (fs := [.int 0, .null, .null, .null, .null]) (C := RX4) (T := TX4) (N := 5) hx hb hts iT_X4 tyX4 tyX4_ok hown (hts _ t_42) (hts _ t_44) (hts _ t_4) hK1 hP hD hS hA rfl df_X4 (Nat.le_of_ble_eq_true rfl) (Nat.le_of_ble_eq_true rfl) dX5_init_34 (fun q_51 H hP hD hS => ?_)
  have hP : va_P D vwCl [(h0, .inr (5, [.ref q_1, .int 0])), (q_1, .inl (cR, 9, .inr (.inr (.inr (.inr (va_up (va_up (va_up (va_up (fun _ => none) 0 (some q_3)) 1 (some q_15)) 2 (some q_27)) 3 (some q_39))))))), (q_39, .inr (4, [.int 0, .ref b0_43, .ref b1_47, .ref b2_48, .ref b3_49])), (q_51, .inr (4, [.int 0, .null, .null, .null, .null]))] H := hP
  have hD : va_D A [(h0, .inr (5, [.ref q_1, .int 0])), (q_1, .inl (cR, 9, .inr (.inr (.inr (.inr (va_up (va_up (va_up (va_up (fun _ => none) 0 (some q_3)) 1 (some q_15)) 2 (some q_27)) 3 (some q_39))))))), (q_39, .inr (4, [.int 0, .ref b0_43, .ref b1_47, .ref b2_48, .ref b3_49])), (q_51, .inr (4, [.int 0, .null, .null, .null, .null]))] := hD
  refine W.widen (k := 34) (n := 614) (Nat.le_of_ble_eq_true rfl) (Nat.le_of_ble_eq_true rfl) ?_
  refine lv_dup hx hb dX5_init_37 rfl ?_
  refine xc_v (wc := [(q_51, .inr (4, [.int 0, .null, .null, .null, .null]))]) (wr := [(h0, .inr (5, [.ref q_1, .int 0])), (q_1, .inl (cR, 9, .inr (.inr (.inr (.inr (va_up (va_up (va_up (va_up (fun _ => none) 0 (some q_3)) 1 (some q_15)) 2 (some q_27)) 3 (some q_39))))))), (q_39, .inr (4, [.int 0, .ref b0_43, .ref b1_47, .ref b2_48, .ref b3_49]))]) (xrIN (n := 0) (As := []) (rest := [.ref q_51, .int 4, .ref q_1]) hd hK hP hD (c_X4_init l D cI cJ cZ cR _ q_51 ) mI_X4_init.1 mI_X4_init.2.1 hK.2.2.1 mI_X4_init.2.2 rfl hS_X4_init ⟨(Nat.le_of_ble_eq_true rfl), (Nat.le_of_ble_eq_true rfl)⟩ [3] rfl rfl rfl hl.1 rfl (Nat.le_of_ble_eq_true rfl) dX5_init_38 ⟨(Nat.le_of_ble_eq_true rfl), (Nat.le_of_ble_eq_true rfl)⟩) hP hD hS hA [3] [0, 1, 2] rfl rfl rfl (by decide) (fun u_53 H locs hw_54 hP hD hS => ?_)
  obtain ⟨b0_55, a1_56, a2_57, a3_58, b1_59, b2_60, b3_61⟩ := u_53
  have hP : va_P D vwCl [(h0, .inr (5, [.ref q_1, .int 0])), (q_1, .inl (cR, 9, .inr (.inr (.inr (.inr (va_up (va_up (va_up (va_up (fun _ => none) 0 (some q_3)) 1 (some q_15)) 2 (some q_27)) 3 (some q_39))))))), (q_39, .inr (4, [.int 0, .ref b0_43, .ref b1_47, .ref b2_48, .ref b3_49])), (q_51, .inr (4, [.int 0, .ref b0_55, .ref b1_59, .ref b2_60, .ref b3_61])), (b0_55, .inr (0, [.ref a1_56, .ref a2_57, .ref a3_58, .int 0, .int 0])), (a1_56, .inl (cI, 3, .inl (fun _ => 0))), (a2_57, .inl (cI, 3, .inl (fun _ => 0))), (a3_58, .inl (cI, 3, .inl (fun _ => 0))), (b1_59, .inl (cI, 3, .inl (fun _ => 0))), (b2_60, .inl (cI, 64, .inl (fun _ => 0))), (b3_61, .inl (cI, 64, .inl (fun _ => 0)))] H := hP
  have hD : va_D A [(h0, .inr (5, [.ref q_1, .int 0])), (q_1, .inl (cR, 9, .inr (.inr (.inr (.inr (va_up (va_up (va_up (va_up (fun _ => none) 0 (some q_3)) 1 (some q_15)) 2 (some q_27)) 3 (some q_39))))))), (q_39, .inr (4, [.int 0, .ref b0_43, .ref b1_47, .ref b2_48, .ref b3_49])), (q_51, .inr (4, [.int 0, .ref b0_55, .ref b1_59, .ref b2_60, .ref b3_61])), (b0_55, .inr (0, [.ref a1_56, .ref a2_57, .ref a3_58, .int 0, .int 0])), (a1_56, .inl (cI, 3, .inl (fun _ => 0))), (a2_57, .inl (cI, 3, .inl (fun _ => 0))), (a3_58, .inl (cI, 3, .inl (fun _ => 0))), (b1_59, .inl (cI, 3, .inl (fun _ => 0))), (b2_60, .inl (cI, 64, .inl (fun _ => 0))), (b3_61, .inl (cI, 64, .inl (fun _ => 0)))] := hD
  refine W.widen (k := 41) (n := 759) (Nat.le_of_ble_eq_true rfl) (Nat.le_of_ble_eq_true rfl) ?_
  have hP := hP.sub (ws' := [(h0, .inr (5, [.ref q_1, .int 0])), (q_1, .inl (cR, 9, .inr (.inr (.inr (.inr (va_up (va_up (va_up (va_up (fun _ => none) 0 (some q_3)) 1 (some q_15)) 2 (some q_27)) 3 (some q_39))))))), (q_51, .inr (4, [.int 0, .ref b0_55, .ref b1_59, .ref b2_60, .ref b3_61]))]) [0, 1, 3] rfl
  have hD := hD.sub (ws' := [(h0, .inr (5, [.ref q_1, .int 0])), (q_1, .inl (cR, 9, .inr (.inr (.inr (.inr (va_up (va_up (va_up (va_up (fun _ => none) 0 (some q_3)) 1 (some q_15)) 2 (some q_27)) 3 (some q_39))))))), (q_51, .inr (4, [.int 0, .ref b0_55, .ref b1_59, .ref b2_60, .ref b3_61]))]) [0, 1, 3] rfl rfl
  refine va_astq hx hb hK1 hP hD hS 1 3 2 4 rfl rfl rfl rfl (vin (by decide)) dX5_init_41 (fun H locs hP hD hS => ?_)
  have hP : va_P D vwCl [(h0, .inr (5, [.ref q_1, .int 0])), (q_1, .inl (cR, 9, .inr (.inr (.inr (.inr (va_up (va_up (va_up (va_up (va_up (fun _ => none) 0 (some q_3)) 1 (some q_15)) 2 (some q_27)) 3 (some q_39)) 4 (some q_51))))))), (q_51, .inr (4, [.int 0, .ref b0_55, .ref b1_59, .ref b2_60, .ref b3_61]))] H := hP
  have hD : va_D A [(h0, .inr (5, [.ref q_1, .int 0])), (q_1, .inl (cR, 9, .inr (.inr (.inr (.inr (va_up (va_up (va_up (va_up (va_up (fun _ => none) 0 (some q_3)) 1 (some q_15)) 2 (some q_27)) 3 (some q_39)) 4 (some q_51))))))), (q_51, .inr (4, [.int 0, .ref b0_55, .ref b1_59, .ref b2_60, .ref b3_61]))] := hD
  refine lv_iinc (v := 5) (lv' := [(1, .int 5), (0, .ref h0)]) hx hb dX5_init_42 hl (k := 0) rfl (by decide) (by decide) rfl (fun ls hl => ?_)
  refine lv_goto (tgt := 20) hx hb dX5_init_45 (by decide) ?_
  refine lv_iload_n hx hb dX5_init_20 rfl (lv_at hl 0 rfl) ?_
  refine lv_aload_n hx hb dX5_init_21 rfl (lv_at hl 1 rfl) ?_
  refine va_get (D := D) (ci := 5) (v := .ref q_1) (C := RX5) (T := TX5) (N := 2) hx hb hts iT_X5 hown hK1 hP 0 rfl rfl 0 (by decide) (hts _ t_102) (fun _ h9 => h9) rfl dX5_init_22 ?_
  refine va_alen hx hb hK1 hP 1 3 rfl rfl (v := 9) rfl dX5_init_25 ?_
  refine lv_icmp_ge (tgt := 48) hx hb dX5_init_26 (by decide) (fun c_62 => ?_) (fun c_62 => ?_)
  · exact absurd c_62 (by decide)
  refine lv_aload_n hx hb dX5_init_29 rfl (lv_at hl 1 rfl) ?_
  refine va_get (D := D) (ci := 5) (v := .ref q_1) (C := RX5) (T := TX5) (N := 2) hx hb hts iT_X5 hown hK1 hP 0 rfl rfl 0 (by decide) (hts _ t_102) (fun _ h9 => h9) rfl dX5_init_30 ?_
  refine lv_iload_n hx hb dX5_init_33 rfl (lv_at hl 0 rfl) ?_
  refine va_new (ci := 4) (fs := [.int 0, .null, .null, .null, .null]) (C := RX4) (T := TX4) (N := 5) hx hb hts iT_X4 tyX4 tyX4_ok hown (hts _ t_42) (hts _ t_44) (hts _ t_4) hK1 hP hD hS hA rfl df_X4 (Nat.le_of_ble_eq_true rfl) (Nat.le_of_ble_eq_true rfl) dX5_init_34 (fun q_63 H hP hD hS => ?_)
  have hP : va_P D vwCl [(h0, .inr (5, [.ref q_1, .int 0])), (q_1, .inl (cR, 9, .inr (.inr (.inr (.inr (va_up (va_up (va_up (va_up (va_up (fun _ => none) 0 (some q_3)) 1 (some q_15)) 2 (some q_27)) 3 (some q_39)) 4 (some q_51))))))), (q_51, .inr (4, [.int 0, .ref b0_55, .ref b1_59, .ref b2_60, .ref b3_61])), (q_63, .inr (4, [.int 0, .null, .null, .null, .null]))] H := hP
  have hD : va_D A [(h0, .inr (5, [.ref q_1, .int 0])), (q_1, .inl (cR, 9, .inr (.inr (.inr (.inr (va_up (va_up (va_up (va_up (va_up (fun _ => none) 0 (some q_3)) 1 (some q_15)) 2 (some q_27)) 3 (some q_39)) 4 (some q_51))))))), (q_51, .inr (4, [.int 0, .ref b0_55, .ref b1_59, .ref b2_60, .ref b3_61])), (q_63, .inr (4, [.int 0, .null, .null, .null, .null]))] := hD
  refine W.widen (k := 42) (n := 764) (Nat.le_of_ble_eq_true rfl) (Nat.le_of_ble_eq_true rfl) ?_
  refine lv_dup hx hb dX5_init_37 rfl ?_
  refine xc_v (wc := [(q_63, .inr (4, [.int 0, .null, .null, .null, .null]))]) (wr := [(h0, .inr (5, [.ref q_1, .int 0])), (q_1, .inl (cR, 9, .inr (.inr (.inr (.inr (va_up (va_up (va_up (va_up (va_up (fun _ => none) 0 (some q_3)) 1 (some q_15)) 2 (some q_27)) 3 (some q_39)) 4 (some q_51))))))), (q_51, .inr (4, [.int 0, .ref b0_55, .ref b1_59, .ref b2_60, .ref b3_61]))]) (xrIN (n := 0) (As := []) (rest := [.ref q_63, .int 5, .ref q_1]) hd hK hP hD (c_X4_init l D cI cJ cZ cR _ q_63 ) mI_X4_init.1 mI_X4_init.2.1 hK.2.2.1 mI_X4_init.2.2 rfl hS_X4_init ⟨(Nat.le_of_ble_eq_true rfl), (Nat.le_of_ble_eq_true rfl)⟩ [3] rfl rfl rfl hl.1 rfl (Nat.le_of_ble_eq_true rfl) dX5_init_38 ⟨(Nat.le_of_ble_eq_true rfl), (Nat.le_of_ble_eq_true rfl)⟩) hP hD hS hA [3] [0, 1, 2] rfl rfl rfl (by decide) (fun u_65 H locs hw_66 hP hD hS => ?_)
  obtain ⟨b0_67, a1_68, a2_69, a3_70, b1_71, b2_72, b3_73⟩ := u_65
  have hP : va_P D vwCl [(h0, .inr (5, [.ref q_1, .int 0])), (q_1, .inl (cR, 9, .inr (.inr (.inr (.inr (va_up (va_up (va_up (va_up (va_up (fun _ => none) 0 (some q_3)) 1 (some q_15)) 2 (some q_27)) 3 (some q_39)) 4 (some q_51))))))), (q_51, .inr (4, [.int 0, .ref b0_55, .ref b1_59, .ref b2_60, .ref b3_61])), (q_63, .inr (4, [.int 0, .ref b0_67, .ref b1_71, .ref b2_72, .ref b3_73])), (b0_67, .inr (0, [.ref a1_68, .ref a2_69, .ref a3_70, .int 0, .int 0])), (a1_68, .inl (cI, 3, .inl (fun _ => 0))), (a2_69, .inl (cI, 3, .inl (fun _ => 0))), (a3_70, .inl (cI, 3, .inl (fun _ => 0))), (b1_71, .inl (cI, 3, .inl (fun _ => 0))), (b2_72, .inl (cI, 64, .inl (fun _ => 0))), (b3_73, .inl (cI, 64, .inl (fun _ => 0)))] H := hP
  have hD : va_D A [(h0, .inr (5, [.ref q_1, .int 0])), (q_1, .inl (cR, 9, .inr (.inr (.inr (.inr (va_up (va_up (va_up (va_up (va_up (fun _ => none) 0 (some q_3)) 1 (some q_15)) 2 (some q_27)) 3 (some q_39)) 4 (some q_51))))))), (q_51, .inr (4, [.int 0, .ref b0_55, .ref b1_59, .ref b2_60, .ref b3_61])), (q_63, .inr (4, [.int 0, .ref b0_67, .ref b1_71, .ref b2_72, .ref b3_73])), (b0_67, .inr (0, [.ref a1_68, .ref a2_69, .ref a3_70, .int 0, .int 0])), (a1_68, .inl (cI, 3, .inl (fun _ => 0))), (a2_69, .inl (cI, 3, .inl (fun _ => 0))), (a3_70, .inl (cI, 3, .inl (fun _ => 0))), (b1_71, .inl (cI, 3, .inl (fun _ => 0))), (b2_72, .inl (cI, 64, .inl (fun _ => 0))), (b3_73, .inl (cI, 64, .inl (fun _ => 0)))] := hD
  refine W.widen (k := 49) (n := 909) (Nat.le_of_ble_eq_true rfl) (Nat.le_of_ble_eq_true rfl) ?_
  have hP := hP.sub (ws' := [(h0, .inr (5, [.ref q_1, .int 0])), (q_1, .inl (cR, 9, .inr (.inr (.inr (.inr (va_up (va_up (va_up (va_up (va_up (fun _ => none) 0 (some q_3)) 1 (some q_15)) 2 (some q_27)) 3 (some q_39)) 4 (some q_51))))))), (q_63, .inr (4, [.int 0, .ref b0_67, .ref b1_71, .ref b2_72, .ref b3_73]))]) [0, 1, 3] rfl
  have hD := hD.sub (ws' := [(h0, .inr (5, [.ref q_1, .int 0])), (q_1, .inl (cR, 9, .inr (.inr (.inr (.inr (va_up (va_up (va_up (va_up (va_up (fun _ => none) 0 (some q_3)) 1 (some q_15)) 2 (some q_27)) 3 (some q_39)) 4 (some q_51))))))), (q_63, .inr (4, [.int 0, .ref b0_67, .ref b1_71, .ref b2_72, .ref b3_73]))]) [0, 1, 3] rfl rfl
  refine va_astq hx hb hK1 hP hD hS 1 3 2 4 rfl rfl rfl rfl (vin (by decide)) dX5_init_41 (fun H locs hP hD hS => ?_)
  have hP : va_P D vwCl [(h0, .inr (5, [.ref q_1, .int 0])), (q_1, .inl (cR, 9, .inr (.inr (.inr (.inr (va_up (va_up (va_up (va_up (va_up (va_up (fun _ => none) 0 (some q_3)) 1 (some q_15)) 2 (some q_27)) 3 (some q_39)) 4 (some q_51)) 5 (some q_63))))))), (q_63, .inr (4, [.int 0, .ref b0_67, .ref b1_71, .ref b2_72, .ref b3_73]))] H := hP
  have hD : va_D A [(h0, .inr (5, [.ref q_1, .int 0])), (q_1, .inl (cR, 9, .inr (.inr (.inr (.inr (va_up (va_up (va_up (va_up (va_up (va_up (fun _ => none) 0 (some q_3)) 1 (some q_15)) 2 (some q_27)) 3 (some q_39)) 4 (some q_51)) 5 (some q_63))))))), (q_63, .inr (4, [.int 0, .ref b0_67, .ref b1_71, .ref b2_72, .ref b3_73]))] := hD
  refine lv_iinc (v := 6) (lv' := [(1, .int 6), (0, .ref h0)]) hx hb dX5_init_42 hl (k := 0) rfl (by decide) (by decide) rfl (fun ls hl => ?_)
  refine lv_goto (tgt := 20) hx hb dX5_init_45 (by decide) ?_
  refine lv_iload_n hx hb dX5_init_20 rfl (lv_at hl 0 rfl) ?_
  refine lv_aload_n hx hb dX5_init_21 rfl (lv_at hl 1 rfl) ?_
  refine va_get (D := D) (ci := 5) (v := .ref q_1) (C := RX5) (T := TX5) (N := 2) hx hb hts iT_X5 hown hK1 hP 0 rfl rfl 0 (by decide) (hts _ t_102) (fun _ h9 => h9) rfl dX5_init_22 ?_
  refine va_alen hx hb hK1 hP 1 3 rfl rfl (v := 9) rfl dX5_init_25 ?_
  refine lv_icmp_ge (tgt := 48) hx hb dX5_init_26 (by decide) (fun c_74 => ?_) (fun c_74 => ?_)
  · exact absurd c_74 (by decide)
  refine lv_aload_n hx hb dX5_init_29 rfl (lv_at hl 1 rfl) ?_
  refine va_get (D := D) (ci := 5) (v := .ref q_1) (C := RX5) (T := TX5) (N := 2) hx hb hts iT_X5 hown hK1 hP 0 rfl rfl 0 (by decide) (hts _ t_102) (fun _ h9 => h9) rfl dX5_init_30 ?_
  refine lv_iload_n hx hb dX5_init_33 rfl (lv_at hl 0 rfl) ?_
  refine va_new (ci := 4) (fs := [.int 0, .null, .null, .null, .null]) (C := RX4) (T := TX4) (N := 5) hx hb hts iT_X4 tyX4 tyX4_ok hown (hts _ t_42) (hts _ t_44) (hts _ t_4) hK1 hP hD hS hA rfl df_X4 (Nat.le_of_ble_eq_true rfl) (Nat.le_of_ble_eq_true rfl) dX5_init_34 (fun q_75 H hP hD hS => ?_)
  have hP : va_P D vwCl [(h0, .inr (5, [.ref q_1, .int 0])), (q_1, .inl (cR, 9, .inr (.inr (.inr (.inr (va_up (va_up (va_up (va_up (va_up (va_up (fun _ => none) 0 (some q_3)) 1 (some q_15)) 2 (some q_27)) 3 (some q_39)) 4 (some q_51)) 5 (some q_63))))))), (q_63, .inr (4, [.int 0, .ref b0_67, .ref b1_71, .ref b2_72, .ref b3_73])), (q_75, .inr (4, [.int 0, .null, .null, .null, .null]))] H := hP
  have hD : va_D A [(h0, .inr (5, [.ref q_1, .int 0])), (q_1, .inl (cR, 9, .inr (.inr (.inr (.inr (va_up (va_up (va_up (va_up (va_up (va_up (fun _ => none) 0 (some q_3)) 1 (some q_15)) 2 (some q_27)) 3 (some q_39)) 4 (some q_51)) 5 (some q_63))))))), (q_63, .inr (4, [.int 0, .ref b0_67, .ref b1_71, .ref b2_72, .ref b3_73])), (q_75, .inr (4, [.int 0, .null, .null, .null, .null]))] := hD
  refine W.widen (k := 50) (n := 914) (Nat.le_of_ble_eq_true rfl) (Nat.le_of_ble_eq_true rfl) ?_
  refine lv_dup hx hb dX5_init_37 rfl ?_
  refine xc_v (wc := [(q_75, .inr (4, [.int 0, .null, .null, .null, .null]))]) (wr := [(h0, .inr (5, [.ref q_1, .int 0])), (q_1, .inl (cR, 9, .inr (.inr (.inr (.inr (va_up (va_up (va_up (va_up (va_up (va_up (fun _ => none) 0 (some q_3)) 1 (some q_15)) 2 (some q_27)) 3 (some q_39)) 4 (some q_51)) 5 (some q_63))))))), (q_63, .inr (4, [.int 0, .ref b0_67, .ref b1_71, .ref b2_72, .ref b3_73]))]) (xrIN (n := 0) (As := []) (rest := [.ref q_75, .int 6, .ref q_1]) hd hK hP hD (c_X4_init l D cI cJ cZ cR _ q_75 ) mI_X4_init.1 mI_X4_init.2.1 hK.2.2.1 mI_X4_init.2.2 rfl hS_X4_init ⟨(Nat.le_of_ble_eq_true rfl), (Nat.le_of_ble_eq_true rfl)⟩ [3] rfl rfl rfl hl.1 rfl (Nat.le_of_ble_eq_true rfl) dX5_init_38 ⟨(Nat.le_of_ble_eq_true rfl), (Nat.le_of_ble_eq_true rfl)⟩) hP hD hS hA [3] [0, 1, 2] rfl rfl rfl (by decide) (fun u_77 H locs hw_78 hP hD hS => ?_)
  obtain ⟨b0_79, a1_80, a2_81, a3_82, b1_83, b2_84, b3_85⟩ := u_77
  have hP : va_P D vwCl [(h0, .inr (5, [.ref q_1, .int 0])), (q_1, .inl (cR, 9, .inr (.inr (.inr (.inr (va_up (va_up (va_up (va_up (va_up (va_up (fun _ => none) 0 (some q_3)) 1 (some q_15)) 2 (some q_27)) 3 (some q_39)) 4 (some q_51)) 5 (some q_63))))))), (q_63, .inr (4, [.int 0, .ref b0_67, .ref b1_71, .ref b2_72, .ref b3_73])), (q_75, .inr (4, [.int 0, .ref b0_79, .ref b1_83, .ref b2_84, .ref b3_85])), (b0_79, .inr (0, [.ref a1_80, .ref a2_81, .ref a3_82, .int 0, .int 0])), (a1_80, .inl (cI, 3, .inl (fun _ => 0))), (a2_81, .inl (cI, 3, .inl (fun _ => 0))), (a3_82, .inl (cI, 3, .inl (fun _ => 0))), (b1_83, .inl (cI, 3, .inl (fun _ => 0))), (b2_84, .inl (cI, 64, .inl (fun _ => 0))), (b3_85, .inl (cI, 64, .inl (fun _ => 0)))] H := hP
  have hD : va_D A [(h0, .inr (5, [.ref q_1, .int 0])), (q_1, .inl (cR, 9, .inr (.inr (.inr (.inr (va_up (va_up (va_up (va_up (va_up (va_up (fun _ => none) 0 (some q_3)) 1 (some q_15)) 2 (some q_27)) 3 (some q_39)) 4 (some q_51)) 5 (some q_63))))))), (q_63, .inr (4, [.int 0, .ref b0_67, .ref b1_71, .ref b2_72, .ref b3_73])), (q_75, .inr (4, [.int 0, .ref b0_79, .ref b1_83, .ref b2_84, .ref b3_85])), (b0_79, .inr (0, [.ref a1_80, .ref a2_81, .ref a3_82, .int 0, .int 0])), (a1_80, .inl (cI, 3, .inl (fun _ => 0))), (a2_81, .inl (cI, 3, .inl (fun _ => 0))), (a3_82, .inl (cI, 3, .inl (fun _ => 0))), (b1_83, .inl (cI, 3, .inl (fun _ => 0))), (b2_84, .inl (cI, 64, .inl (fun _ => 0))), (b3_85, .inl (cI, 64, .inl (fun _ => 0)))] := hD
  refine W.widen (k := 57) (n := 1059) (Nat.le_of_ble_eq_true rfl) (Nat.le_of_ble_eq_true rfl) ?_
  have hP := hP.sub (ws' := [(h0, .inr (5, [.ref q_1, .int 0])), (q_1, .inl (cR, 9, .inr (.inr (.inr (.inr (va_up (va_up (va_up (va_up (va_up (va_up (fun _ => none) 0 (some q_3)) 1 (some q_15)) 2 (some q_27)) 3 (some q_39)) 4 (some q_51)) 5 (some q_63))))))), (q_75, .inr (4, [.int 0, .ref b0_79, .ref b1_83, .ref b2_84, .ref b3_85]))]) [0, 1, 3] rfl
  have hD := hD.sub (ws' := [(h0, .inr (5, [.ref q_1, .int 0])), (q_1, .inl (cR, 9, .inr (.inr (.inr (.inr (va_up (va_up (va_up (va_up (va_up (va_up (fun _ => none) 0 (some q_3)) 1 (some q_15)) 2 (some q_27)) 3 (some q_39)) 4 (some q_51)) 5 (some q_63))))))), (q_75, .inr (4, [.int 0, .ref b0_79, .ref b1_83, .ref b2_84, .ref b3_85]))]) [0, 1, 3] rfl rfl
  refine va_astq hx hb hK1 hP hD hS 1 3 2 4 rfl rfl rfl rfl (vin (by decide)) dX5_init_41 (fun H locs hP hD hS => ?_)
  have hP : va_P D vwCl [(h0, .inr (5, [.ref q_1, .int 0])), (q_1, .inl (cR, 9, .inr (.inr (.inr (.inr (va_up (va_up (va_up (va_up (va_up (va_up (va_up (fun _ => none) 0 (some q_3)) 1 (some q_15)) 2 (some q_27)) 3 (some q_39)) 4 (some q_51)) 5 (some q_63)) 6 (some q_75))))))), (q_75, .inr (4, [.int 0, .ref b0_79, .ref b1_83, .ref b2_84, .ref b3_85]))] H := hP
  have hD : va_D A [(h0, .inr (5, [.ref q_1, .int 0])), (q_1, .inl (cR, 9, .inr (.inr (.inr (.inr (va_up (va_up (va_up (va_up (va_up (va_up (va_up (fun _ => none) 0 (some q_3)) 1 (some q_15)) 2 (some q_27)) 3 (some q_39)) 4 (some q_51)) 5 (some q_63)) 6 (some q_75))))))), (q_75, .inr (4, [.int 0, .ref b0_79, .ref b1_83, .ref b2_84, .ref b3_85]))] := hD
  refine lv_iinc (v := 7) (lv' := [(1, .int 7), (0, .ref h0)]) hx hb dX5_init_42 hl (k := 0) rfl (by decide) (by decide) rfl (fun ls hl => ?_)
  refine lv_goto (tgt := 20) hx hb dX5_init_45 (by decide) ?_
  refine lv_iload_n hx hb dX5_init_20 rfl (lv_at hl 0 rfl) ?_
  refine lv_aload_n hx hb dX5_init_21 rfl (lv_at hl 1 rfl) ?_
  refine va_get (D := D) (ci := 5) (v := .ref q_1) (C := RX5) (T := TX5) (N := 2) hx hb hts iT_X5 hown hK1 hP 0 rfl rfl 0 (by decide) (hts _ t_102) (fun _ h9 => h9) rfl dX5_init_22 ?_
  refine va_alen hx hb hK1 hP 1 3 rfl rfl (v := 9) rfl dX5_init_25 ?_
  refine lv_icmp_ge (tgt := 48) hx hb dX5_init_26 (by decide) (fun c_86 => ?_) (fun c_86 => ?_)
  · exact absurd c_86 (by decide)
  refine lv_aload_n hx hb dX5_init_29 rfl (lv_at hl 1 rfl) ?_
  refine va_get (D := D) (ci := 5) (v := .ref q_1) (C := RX5) (T := TX5) (N := 2) hx hb hts iT_X5 hown hK1 hP 0 rfl rfl 0 (by decide) (hts _ t_102) (fun _ h9 => h9) rfl dX5_init_30 ?_
  refine lv_iload_n hx hb dX5_init_33 rfl (lv_at hl 0 rfl) ?_
  refine va_new (ci := 4) (fs := [.int 0, .null, .null, .null, .null]) (C := RX4) (T := TX4) (N := 5) hx hb hts iT_X4 tyX4 tyX4_ok hown (hts _ t_42) (hts _ t_44) (hts _ t_4) hK1 hP hD hS hA rfl df_X4 (Nat.le_of_ble_eq_true rfl) (Nat.le_of_ble_eq_true rfl) dX5_init_34 (fun q_87 H hP hD hS => ?_)
  have hP : va_P D vwCl [(h0, .inr (5, [.ref q_1, .int 0])), (q_1, .inl (cR, 9, .inr (.inr (.inr (.inr (va_up (va_up (va_up (va_up (va_up (va_up (va_up (fun _ => none) 0 (some q_3)) 1 (some q_15)) 2 (some q_27)) 3 (some q_39)) 4 (some q_51)) 5 (some q_63)) 6 (some q_75))))))), (q_75, .inr (4, [.int 0, .ref b0_79, .ref b1_83, .ref b2_84, .ref b3_85])), (q_87, .inr (4, [.int 0, .null, .null, .null, .null]))] H := hP
  have hD : va_D A [(h0, .inr (5, [.ref q_1, .int 0])), (q_1, .inl (cR, 9, .inr (.inr (.inr (.inr (va_up (va_up (va_up (va_up (va_up (va_up (va_up (fun _ => none) 0 (some q_3)) 1 (some q_15)) 2 (some q_27)) 3 (some q_39)) 4 (some q_51)) 5 (some q_63)) 6 (some q_75))))))), (q_75, .inr (4, [.int 0, .ref b0_79, .ref b1_83, .ref b2_84, .ref b3_85])), (q_87, .inr (4, [.int 0, .null, .null, .null, .null]))] := hD
  refine W.widen (k := 58) (n := 1064) (Nat.le_of_ble_eq_true rfl) (Nat.le_of_ble_eq_true rfl) ?_
  refine lv_dup hx hb dX5_init_37 rfl ?_
  refine xc_v (wc := [(q_87, .inr (4, [.int 0, .null, .null, .null, .null]))]) (wr := [(h0, .inr (5, [.ref q_1, .int 0])), (q_1, .inl (cR, 9, .inr (.inr (.inr (.inr (va_up (va_up (va_up (va_up (va_up (va_up (va_up (fun _ => none) 0 (some q_3)) 1 (some q_15)) 2 (some q_27)) 3 (some q_39)) 4 (some q_51)) 5 (some q_63)) 6 (some q_75))))))), (q_75, .inr (4, [.int 0, .ref b0_79, .ref b1_83, .ref b2_84, .ref b3_85]))]) (xrIN (n := 0) (As := []) (rest := [.ref q_87, .int 7, .ref q_1]) hd hK hP hD (c_X4_init l D cI cJ cZ cR _ q_87 ) mI_X4_init.1 mI_X4_init.2.1 hK.2.2.1 mI_X4_init.2.2 rfl hS_X4_init ⟨(Nat.le_of_ble_eq_true rfl), (Nat.le_of_ble_eq_true rfl)⟩ [3] rfl rfl rfl hl.1 rfl (Nat.le_of_ble_eq_true rfl) dX5_init_38 ⟨(Nat.le_of_ble_eq_true rfl), (Nat.le_of_ble_eq_true rfl)⟩) hP hD hS hA [3] [0, 1, 2] rfl rfl rfl (by decide) (fun u_89 H locs hw_90 hP hD hS => ?_)
  obtain ⟨b0_91, a1_92, a2_93, a3_94, b1_95, b2_96, b3_97⟩ := u_89
  have hP : va_P D vwCl [(h0, .inr (5, [.ref q_1, .int 0])), (q_1, .inl (cR, 9, .inr (.inr (.inr (.inr (va_up (va_up (va_up (va_up (va_up (va_up (va_up (fun _ => none) 0 (some q_3)) 1 (some q_15)) 2 (some q_27)) 3 (some q_39)) 4 (some q_51)) 5 (some q_63)) 6 (some q_75))))))), (q_75, .inr (4, [.int 0, .ref b0_79, .ref b1_83, .ref b2_84, .ref b3_85])), (q_87, .inr (4, [.int 0, .ref b0_91, .ref b1_95, .ref b2_96, .ref b3_97])), (b0_91, .inr (0, [.ref a1_92, .ref a2_93, .ref a3_94, .int 0, .int 0])), (a1_92, .inl (cI, 3, .inl (fun _ => 0))), (a2_93, .inl (cI, 3, .inl (fun _ => 0))), (a3_94, .inl (cI, 3, .inl (fun _ => 0))), (b1_95, .inl (cI, 3, .inl (fun _ => 0))), (b2_96, .inl (cI, 64, .inl (fun _ => 0))), (b3_97, .inl (cI, 64, .inl (fun _ => 0)))] H := hP
  have hD : va_D A [(h0, .inr (5, [.ref q_1, .int 0])), (q_1, .inl (cR, 9, .inr (.inr (.inr (.inr (va_up (va_up (va_up (va_up (va_up (va_up (va_up (fun _ => none) 0 (some q_3)) 1 (some q_15)) 2 (some q_27)) 3 (some q_39)) 4 (some q_51)) 5 (some q_63)) 6 (some q_75))))))), (q_75, .inr (4, [.int 0, .ref b0_79, .ref b1_83, .ref b2_84, .ref b3_85])), (q_87, .inr (4, [.int 0, .ref b0_91, .ref b1_95, .ref b2_96, .ref b3_97])), (b0_91, .inr (0, [.ref a1_92, .ref a2_93, .ref a3_94, .int 0, .int 0])), (a1_92, .inl (cI, 3, .inl (fun _ => 0))), (a2_93, .inl (cI, 3, .inl (fun _ => 0))), (a3_94, .inl (cI, 3, .inl (fun _ => 0))), (b1_95, .inl (cI, 3, .inl (fun _ => 0))), (b2_96, .inl (cI, 64, .inl (fun _ => 0))), (b3_97, .inl (cI, 64, .inl (fun _ => 0)))] := hD
  refine W.widen (k := 65) (n := 1209) (Nat.le_of_ble_eq_true rfl) (Nat.le_of_ble_eq_true rfl) ?_
  have hP := hP.sub (ws' := [(h0, .inr (5, [.ref q_1, .int 0])), (q_1, .inl (cR, 9, .inr (.inr (.inr (.inr (va_up (va_up (va_up (va_up (va_up (va_up (va_up (fun _ => none) 0 (some q_3)) 1 (some q_15)) 2 (some q_27)) 3 (some q_39)) 4 (some q_51)) 5 (some q_63)) 6 (some q_75))))))), (q_87, .inr (4, [.int 0, .ref b0_91, .ref b1_95, .ref b2_96, .ref b3_97]))]) [0, 1, 3] rfl
  have hD := hD.sub (ws' := [(h0, .inr (5, [.ref q_1, .int 0])), (q_1, .inl (cR, 9, .inr (.inr (.inr (.inr (va_up (va_up (va_up (va_up (va_up (va_up (va_up (fun _ => none) 0 (some q_3)) 1 (some q_15)) 2 (some q_27)) 3 (some q_39)) 4 (some q_51)) 5 (some q_63)) 6 (some q_75))))))), (q_87, .inr (4, [.int 0, .ref b0_91, .ref b1_95, .ref b2_96, .ref b3_97]))]) [0, 1, 3] rfl rfl
  refine va_astq hx hb hK1 hP hD hS 1 3 2 4 rfl rfl rfl rfl (vin (by decide)) dX5_init_41 (fun H locs hP hD hS => ?_)
  have hP : va_P D vwCl [(h0, .inr (5, [.ref q_1, .int 0])), (q_1, .inl (cR, 9, .inr (.inr (.inr (.inr (va_up (va_up (va_up (va_up (va_up (va_up (va_up (va_up (fun _ => none) 0 (some q_3)) 1 (some q_15)) 2 (some q_27)) 3 (some q_39)) 4 (some q_51)) 5 (some q_63)) 6 (some q_75)) 7 (some q_87))))))), (q_87, .inr (4, [.int 0, .ref b0_91, .ref b1_95, .ref b2_96, .ref b3_97]))] H := hP
  have hD : va_D A [(h0, .inr (5, [.ref q_1, .int 0])), (q_1, .inl (cR, 9, .inr (.inr (.inr (.inr (va_up (va_up (va_up (va_up (va_up (va_up (va_up (va_up (fun _ => none) 0 (some q_3)) 1 (some q_15)) 2 (some q_27)) 3 (some q_39)) 4 (some q_51)) 5 (some q_63)) 6 (some q_75)) 7 (some q_87))))))), (q_87, .inr (4, [.int 0, .ref b0_91, .ref b1_95, .ref b2_96, .ref b3_97]))] := hD
  refine lv_iinc (v := 8) (lv' := [(1, .int 8), (0, .ref h0)]) hx hb dX5_init_42 hl (k := 0) rfl (by decide) (by decide) rfl (fun ls hl => ?_)
  refine lv_goto (tgt := 20) hx hb dX5_init_45 (by decide) ?_
  refine lv_iload_n hx hb dX5_init_20 rfl (lv_at hl 0 rfl) ?_
  refine lv_aload_n hx hb dX5_init_21 rfl (lv_at hl 1 rfl) ?_
  refine va_get (D := D) (ci := 5) (v := .ref q_1) (C := RX5) (T := TX5) (N := 2) hx hb hts iT_X5 hown hK1 hP 0 rfl rfl 0 (by decide) (hts _ t_102) (fun _ h9 => h9) rfl dX5_init_22 ?_
  refine va_alen hx hb hK1 hP 1 3 rfl rfl (v := 9) rfl dX5_init_25 ?_
  refine lv_icmp_ge (tgt := 48) hx hb dX5_init_26 (by decide) (fun c_98 => ?_) (fun c_98 => ?_)
  · exact absurd c_98 (by decide)
  refine lv_aload_n hx hb dX5_init_29 rfl (lv_at hl 1 rfl) ?_
  refine va_get (D := D) (ci := 5) (v := .ref q_1) (C := RX5) (T := TX5) (N := 2) hx hb hts iT_X5 hown hK1 hP 0 rfl rfl 0 (by decide) (hts _ t_102) (fun _ h9 => h9) rfl dX5_init_30 ?_
  refine lv_iload_n hx hb dX5_init_33 rfl (lv_at hl 0 rfl) ?_
  refine va_new (ci := 4) (fs := [.int 0, .null, .null, .null, .null]) (C := RX4) (T := TX4) (N := 5) hx hb hts iT_X4 tyX4 tyX4_ok hown (hts _ t_42) (hts _ t_44) (hts _ t_4) hK1 hP hD hS hA rfl df_X4 (Nat.le_of_ble_eq_true rfl) (Nat.le_of_ble_eq_true rfl) dX5_init_34 (fun q_99 H hP hD hS => ?_)
  have hP : va_P D vwCl [(h0, .inr (5, [.ref q_1, .int 0])), (q_1, .inl (cR, 9, .inr (.inr (.inr (.inr (va_up (va_up (va_up (va_up (va_up (va_up (va_up (va_up (fun _ => none) 0 (some q_3)) 1 (some q_15)) 2 (some q_27)) 3 (some q_39)) 4 (some q_51)) 5 (some q_63)) 6 (some q_75)) 7 (some q_87))))))), (q_87, .inr (4, [.int 0, .ref b0_91, .ref b1_95, .ref b2_96, .ref b3_97])), (q_99, .inr (4, [.int 0, .null, .null, .null, .null]))] H := hP
  have hD : va_D A [(h0, .inr (5, [.ref q_1, .int 0])), (q_1, .inl (cR, 9, .inr (.inr (.inr (.inr (va_up (va_up (va_up (va_up (va_up (va_up (va_up (va_up (fun _ => none) 0 (some q_3)) 1 (some q_15)) 2 (some q_27)) 3 (some q_39)) 4 (some q_51)) 5 (some q_63)) 6 (some q_75)) 7 (some q_87))))))), (q_87, .inr (4, [.int 0, .ref b0_91, .ref b1_95, .ref b2_96, .ref b3_97])), (q_99, .inr (4, [.int 0, .null, .null, .null, .null]))] := hD
  refine W.widen (k := 66) (n := 1214) (Nat.le_of_ble_eq_true rfl) (Nat.le_of_ble_eq_true rfl) ?_
  refine lv_dup hx hb dX5_init_37 rfl ?_
  refine xc_v (wc := [(q_99, .inr (4, [.int 0, .null, .null, .null, .null]))]) (wr := [(h0, .inr (5, [.ref q_1, .int 0])), (q_1, .inl (cR, 9, .inr (.inr (.inr (.inr (va_up (va_up (va_up (va_up (va_up (va_up (va_up (va_up (fun _ => none) 0 (some q_3)) 1 (some q_15)) 2 (some q_27)) 3 (some q_39)) 4 (some q_51)) 5 (some q_63)) 6 (some q_75)) 7 (some q_87))))))), (q_87, .inr (4, [.int 0, .ref b0_91, .ref b1_95, .ref b2_96, .ref b3_97]))]) (xrIN (n := 0) (As := []) (rest := [.ref q_99, .int 8, .ref q_1]) hd hK hP hD (c_X4_init l D cI cJ cZ cR _ q_99 ) mI_X4_init.1 mI_X4_init.2.1 hK.2.2.1 mI_X4_init.2.2 rfl hS_X4_init ⟨(Nat.le_of_ble_eq_true rfl), (Nat.le_of_ble_eq_true rfl)⟩ [3] rfl rfl rfl hl.1 rfl (Nat.le_of_ble_eq_true rfl) dX5_init_38 ⟨(Nat.le_of_ble_eq_true rfl), (Nat.le_of_ble_eq_true rfl)⟩) hP hD hS hA [3] [0, 1, 2] rfl rfl rfl (by decide) (fun u_101 H locs hw_102 hP hD hS => ?_)
  obtain ⟨b0_103, a1_104, a2_105, a3_106, b1_107, b2_108, b3_109⟩ := u_101
  have hP : va_P D vwCl [(h0, .inr (5, [.ref q_1, .int 0])), (q_1, .inl (cR, 9, .inr (.inr (.inr (.inr (va_up (va_up (va_up (va_up (va_up (va_up (va_up (va_up (fun _ => none) 0 (some q_3)) 1 (some q_15)) 2 (some q_27)) 3 (some q_39)) 4 (some q_51)) 5 (some q_63)) 6 (some q_75)) 7 (some q_87))))))), (q_87, .inr (4, [.int 0, .ref b0_91, .ref b1_95, .ref b2_96, .ref b3_97])), (q_99, .inr (4, [.int 0, .ref b0_103, .ref b1_107, .ref b2_108, .ref b3_109])), (b0_103, .inr (0, [.ref a1_104, .ref a2_105, .ref a3_106, .int 0, .int 0])), (a1_104, .inl (cI, 3, .inl (fun _ => 0))), (a2_105, .inl (cI, 3, .inl (fun _ => 0))), (a3_106, .inl (cI, 3, .inl (fun _ => 0))), (b1_107, .inl (cI, 3, .inl (fun _ => 0))), (b2_108, .inl (cI, 64, .inl (fun _ => 0))), (b3_109, .inl (cI, 64, .inl (fun _ => 0)))] H := hP
  have hD : va_D A [(h0, .inr (5, [.ref q_1, .int 0])), (q_1, .inl (cR, 9, .inr (.inr (.inr (.inr (va_up (va_up (va_up (va_up (va_up (va_up (va_up (va_up (fun _ => none) 0 (some q_3)) 1 (some q_15)) 2 (some q_27)) 3 (some q_39)) 4 (some q_51)) 5 (some q_63)) 6 (some q_75)) 7 (some q_87))))))), (q_87, .inr (4, [.int 0, .ref b0_91, .ref b1_95, .ref b2_96, .ref b3_97])), (q_99, .inr (4, [.int 0, .ref b0_103, .ref b1_107, .ref b2_108, .ref b3_109])), (b0_103, .inr (0, [.ref a1_104, .ref a2_105, .ref a3_106, .int 0, .int 0])), (a1_104, .inl (cI, 3, .inl (fun _ => 0))), (a2_105, .inl (cI, 3, .inl (fun _ => 0))), (a3_106, .inl (cI, 3, .inl (fun _ => 0))), (b1_107, .inl (cI, 3, .inl (fun _ => 0))), (b2_108, .inl (cI, 64, .inl (fun _ => 0))), (b3_109, .inl (cI, 64, .inl (fun _ => 0)))] := hD
  refine W.widen (k := 73) (n := 1359) (Nat.le_of_ble_eq_true rfl) (Nat.le_of_ble_eq_true rfl) ?_
  have hP := hP.sub (ws' := [(h0, .inr (5, [.ref q_1, .int 0])), (q_1, .inl (cR, 9, .inr (.inr (.inr (.inr (va_up (va_up (va_up (va_up (va_up (va_up (va_up (va_up (fun _ => none) 0 (some q_3)) 1 (some q_15)) 2 (some q_27)) 3 (some q_39)) 4 (some q_51)) 5 (some q_63)) 6 (some q_75)) 7 (some q_87))))))), (q_99, .inr (4, [.int 0, .ref b0_103, .ref b1_107, .ref b2_108, .ref b3_109]))]) [0, 1, 3] rfl
  have hD := hD.sub (ws' := [(h0, .inr (5, [.ref q_1, .int 0])), (q_1, .inl (cR, 9, .inr (.inr (.inr (.inr (va_up (va_up (va_up (va_up (va_up (va_up (va_up (va_up (fun _ => none) 0 (some q_3)) 1 (some q_15)) 2 (some q_27)) 3 (some q_39)) 4 (some q_51)) 5 (some q_63)) 6 (some q_75)) 7 (some q_87))))))), (q_99, .inr (4, [.int 0, .ref b0_103, .ref b1_107, .ref b2_108, .ref b3_109]))]) [0, 1, 3] rfl rfl
  refine va_astq hx hb hK1 hP hD hS 1 3 2 4 rfl rfl rfl rfl (vin (by decide)) dX5_init_41 (fun H locs hP hD hS => ?_)
  have hP : va_P D vwCl [(h0, .inr (5, [.ref q_1, .int 0])), (q_1, .inl (cR, 9, .inr (.inr (.inr (.inr (va_up (va_up (va_up (va_up (va_up (va_up (va_up (va_up (va_up (fun _ => none) 0 (some q_3)) 1 (some q_15)) 2 (some q_27)) 3 (some q_39)) 4 (some q_51)) 5 (some q_63)) 6 (some q_75)) 7 (some q_87)) 8 (some q_99))))))), (q_99, .inr (4, [.int 0, .ref b0_103, .ref b1_107, .ref b2_108, .ref b3_109]))] H := hP
  have hD : va_D A [(h0, .inr (5, [.ref q_1, .int 0])), (q_1, .inl (cR, 9, .inr (.inr (.inr (.inr (va_up (va_up (va_up (va_up (va_up (va_up (va_up (va_up (va_up (fun _ => none) 0 (some q_3)) 1 (some q_15)) 2 (some q_27)) 3 (some q_39)) 4 (some q_51)) 5 (some q_63)) 6 (some q_75)) 7 (some q_87)) 8 (some q_99))))))), (q_99, .inr (4, [.int 0, .ref b0_103, .ref b1_107, .ref b2_108, .ref b3_109]))] := hD
  refine lv_iinc (v := 9) (lv' := [(1, .int 9), (0, .ref h0)]) hx hb dX5_init_42 hl (k := 0) rfl (by decide) (by decide) rfl (fun ls hl => ?_)
  refine lv_goto (tgt := 20) hx hb dX5_init_45 (by decide) ?_
  refine lv_iload_n hx hb dX5_init_20 rfl (lv_at hl 0 rfl) ?_
  refine lv_aload_n hx hb dX5_init_21 rfl (lv_at hl 1 rfl) ?_
  refine va_get (D := D) (ci := 5) (v := .ref q_1) (C := RX5) (T := TX5) (N := 2) hx hb hts iT_X5 hown hK1 hP 0 rfl rfl 0 (by decide) (hts _ t_102) (fun _ h9 => h9) rfl dX5_init_22 ?_
  refine va_alen hx hb hK1 hP 1 3 rfl rfl (v := 9) rfl dX5_init_25 ?_
  refine lv_icmp_ge (tgt := 48) hx hb dX5_init_26 (by decide) (fun c_110 => ?_) (fun c_110 => ?_)
  rotate_left
  · exact absurd c_110 (by decide)
  exact hret _ _ _ _ _ _ q_1 dX5_init_48 hS (Nat.le_of_ble_eq_true rfl) (Nat.le_of_ble_eq_true rfl) trivial (hP.sub [0] rfl) (hD.sub [0] rfl rfl)
set_option maxHeartbeats 4000000 in
set_option maxRecDepth 100000 in
theorem c_X2_init (sz : Nat) (h0 : Nat)  : CTv l D cI cJ cZ cR yX2_init cX2_init 1 none 1 24 2 2404 sz [.ref h0] [(h0, .inr (2, [.null, .null]))] (fun (u : Nat × Nat) => True) (fun (u : Nat × Nat) => [(h0, .inr (2, [.ref u.1, .ref u.2])), (u.1, .inl (cI, 2400, .inl (fun _ => 0))), (u.2, .inl (cI, 4, .inl (fun _ => 0)))]) := by
  refine CTv.of (by decide) (Nat.le_of_ble_eq_true rfl) rfl ?_
  intro p e s m below meth c A Q ls hd hin hK hsz hP hD hA hS hl hret
  obtain ⟨hx, hb, hml, hown, hts⟩ := id hd
  have hK1 := hK.1
  have hown : s.vm.findClass RX2 = some m.cls := hown
  have hin : meth.name = "<init>" := hin
  have hl : lv_has ls 1 [(0, .ref h0)] := hl
  refine lv_aload_n hx hb dX2_init_0 rfl (lv_at hl 0 rfl) ?_
  refine W.objInit hx hb hown (hts _ t_122) (hts _ t_18) (hts _ t_19) rfl (by rw [hml]; exact hl.1) rfl dX2_init_1 (Nat.le_of_ble_eq_true rfl) (Nat.le_of_ble_eq_true rfl) ?_
  refine W.eq (g2 := F0 m 4 ls []) rfl ?_
  refine lv_aload_n hx hb dX2_init_4 rfl (lv_at hl 0 rfl) ?_
  refine lv_sipush (v := 2400) hx hb dX2_init_5 (by decide) ?_
  refine nw_I (N' := 2400) hx hb (hts _ t_35) hK hP hD hS hA (by decide) (by decide) (by decide) (Nat.le_of_ble_eq_true rfl) (Nat.le_of_ble_eq_true rfl) dX2_init_8 (fun q_1 H hP hD hS => ?_)
  have hP : va_P D vwCl [(h0, .inr (2, [.null, .null])), (q_1, .inl (cI, 2400, .inl (fun _ => 0)))] H := hP
  have hD : va_D A [(h0, .inr (2, [.null, .null])), (q_1, .inl (cI, 2400, .inl (fun _ => 0)))] := hD
  refine W.widen (k := 1) (n := 2400) (Nat.le_of_ble_eq_true rfl) (Nat.le_of_ble_eq_true rfl) ?_
  refine va_putF (D := D) (ci := 2) (v := .ref q_1) (ty := (.array .int)) (C := RX2) (T := TX2) (N := 2) hx hb hts iT_X2 tyX2 tyX2_ok nmX2 hown hK1 hP hD hS 0 rfl rfl 0 (by decide) (hts _ t_123) (fun _ h9 => h9) rfl hin rfl (by decide +kernel) rfl rfl (Nat.le_of_ble_eq_true rfl) dX2_init_10 (fun H locs hP hD hS => ?_)
  have hP : va_P D vwCl [(h0, .inr (2, [.ref q_1, .null])), (q_1, .inl (cI, 2400, .inl (fun _ => 0)))] H := hP
  have hD : va_D A [(h0, .inr (2, [.ref q_1, .null])), (q_1, .inl (cI, 2400, .inl (fun _ => 0)))] := hD
  refine lv_aload_n hx hb dX2_init_13 rfl (lv_at hl 0 rfl) ?_
  refine lv_iconst (v := 4) hx hb dX2_init_14 (by decide) ?_
  refine nw_I (N' := 4) hx hb (hts _ t_35) hK hP hD hS hA (by decide) (by decide) (by decide) (Nat.le_of_ble_eq_true rfl) (Nat.le_of_ble_eq_true rfl) dX2_init_15 (fun q_2 H hP hD hS => ?_)
  have hP : va_P D vwCl [(h0, .inr (2, [.ref q_1, .null])), (q_1, .inl (cI, 2400, .inl (fun _ => 0))), (q_2, .inl (cI, 4, .inl (fun _ => 0)))] H := hP
  have hD : va_D A [(h0, .inr (2, [.ref q_1, .null])), (q_1, .inl (cI, 2400, .inl (fun _ => 0))), (q_2, .inl (cI, 4, .inl (fun _ => 0)))] := hD
  refine W.widen (k := 2) (n := 2404) (Nat.le_of_ble_eq_true rfl) (Nat.le_of_ble_eq_true rfl) ?_
  refine va_putF (D := D) (ci := 2) (v := .ref q_2) (ty := (.array .int)) (C := RX2) (T := TX2) (N := 2) hx hb hts iT_X2 tyX2 tyX2_ok nmX2 hown hK1 hP hD hS 0 rfl rfl 1 (by decide) (hts _ t_124) (fun _ h9 => h9) rfl hin rfl (by decide +kernel) rfl rfl (Nat.le_of_ble_eq_true rfl) dX2_init_17 (fun H locs hP hD hS => ?_)
  have hP : va_P D vwCl [(h0, .inr (2, [.ref q_1, .ref q_2])), (q_1, .inl (cI, 2400, .inl (fun _ => 0))), (q_2, .inl (cI, 4, .inl (fun _ => 0)))] H := hP
  have hD : va_D A [(h0, .inr (2, [.ref q_1, .ref q_2])), (q_1, .inl (cI, 2400, .inl (fun _ => 0))), (q_2, .inl (cI, 4, .inl (fun _ => 0)))] := hD
  exact hret _ _ _ _ _ _ (q_1, q_2) dX2_init_20 hS (Nat.le_of_ble_eq_true rfl) (Nat.le_of_ble_eq_true rfl) trivial (hP.sub [0, 1, 2] rfl) (hD.sub [0, 1, 2] rfl rfl)
set_option maxHeartbeats 4000000 in
set_option maxRecDepth 100000 in
theorem c_X1_init (sz : Nat) (h0 : Nat)  : CTv l D cI cJ cZ cR yX1_init cX1_init 1 none 1 24 5 390 sz [.ref h0] [(h0, .inr (1, [.null, .null, .null, .null, .null]))] (fun (u : Nat × Nat × Nat × Nat × Nat) => True) (fun (u : Nat × Nat × Nat × Nat × Nat) => [(h0, .inr (1, [.ref u.1, .ref u.2.1, .ref u.2.2.1, .ref u.2.2.2.1, .ref u.2.2.2.2])), (u.1, .inl (cJ, 96, .inr (.inl (fun _ => 0)))), (u.2.1, .inl (cI, 96, .inl (fun _ => 0))), (u.2.2.1, .inl (cZ, 96, .inl (fun _ => 0))), (u.2.2.2.1, .inl (cI, 96, .inl (fun _ => 0))), (u.2.2.2.2, .inl (cI, 6, .inl (fun _ => 0)))]) := by
  refine CTv.of (by decide) (Nat.le_of_ble_eq_true rfl) rfl ?_
  intro p e s m below meth c A Q ls hd hin hK hsz hP hD hA hS hl hret
  obtain ⟨hx, hb, hml, hown, hts⟩ := id hd
  have hK1 := hK.1
  have hown : s.vm.findClass RX1 = some m.cls := hown
  have hin : meth.name = "<init>" := hin
  have hl : lv_has ls 1 [(0, .ref h0)] := hl
  refine lv_aload_n hx hb dX1_init_0 rfl (lv_at hl 0 rfl) ?_
  refine W.objInit hx hb hown (hts _ t_135) (hts _ t_18) (hts _ t_19) rfl (by rw [hml]; exact hl.1) rfl dX1_init_1 (Nat.le_of_ble_eq_true rfl) (Nat.le_of_ble_eq_true rfl) ?_
  refine W.eq (g2 := F0 m 4 ls []) rfl ?_
  refine lv_aload_n hx hb dX1_init_4 rfl (lv_at hl 0 rfl) ?_
  refine lv_bipush (v := 96) hx hb dX1_init_5 (by decide) ?_
  refine nw_J (N' := 96) hx hb (hts _ t_152) hK hP hD hS hA (by decide) (by decide) (by decide) (Nat.le_of_ble_eq_true rfl) (Nat.le_of_ble_eq_true rfl) dX1_init_7 (fun q_1 H hP hD hS => ?_)
  have hP : va_P D vwCl [(h0, .inr (1, [.null, .null, .null, .null, .null])), (q_1, .inl (cJ, 96, .inr (.inl (fun _ => 0))))] H := hP
  have hD : va_D A [(h0, .inr (1, [.null, .null, .null, .null, .null])), (q_1, .inl (cJ, 96, .inr (.inl (fun _ => 0))))] := hD
  refine W.widen (k := 1) (n := 96) (Nat.le_of_ble_eq_true rfl) (Nat.le_of_ble_eq_true rfl) ?_
  refine va_putF (D := D) (ci := 1) (v := .ref q_1) (ty := (.array .long)) (C := RX1) (T := TX1) (N := 5) hx hb hts iT_X1 tyX1 tyX1_ok nmX1 hown hK1 hP hD hS 0 rfl rfl 0 (by decide) (hts _ t_136) (fun _ h9 => h9) rfl hin rfl (by decide +kernel) rfl rfl (Nat.le_of_ble_eq_true rfl) dX1_init_9 (fun H locs hP hD hS => ?_)
  have hP : va_P D vwCl [(h0, .inr (1, [.ref q_1, .null, .null, .null, .null])), (q_1, .inl (cJ, 96, .inr (.inl (fun _ => 0))))] H := hP
  have hD : va_D A [(h0, .inr (1, [.ref q_1, .null, .null, .null, .null])), (q_1, .inl (cJ, 96, .inr (.inl (fun _ => 0))))] := hD
  refine lv_aload_n hx hb dX1_init_12 rfl (lv_at hl 0 rfl) ?_
  refine lv_bipush (v := 96) hx hb dX1_init_13 (by decide) ?_
  refine nw_I (N' := 96) hx hb (hts _ t_35) hK hP hD hS hA (by decide) (by decide) (by decide) (Nat.le_of_ble_eq_true rfl) (Nat.le_of_ble_eq_true rfl) dX1_init_15 (fun q_2 H hP hD hS => ?_)
  have hP : va_P D vwCl [(h0, .inr (1, [.ref q_1, .null, .null, .null, .null])), (q_1, .inl (cJ, 96, .inr (.inl (fun _ => 0)))), (q_2, .inl (cI, 96, .inl (fun _ => 0)))] H := hP
  have hD : va_D A [(h0, .inr (1, [.ref q_1, .null, .null, .null, .null])), (q_1, .inl (cJ, 96, .inr (.inl (fun _ => 0)))), (q_2, .inl (cI, 96, .inl (fun _ => 0)))] := hD
  refine W.widen (k := 2) (n := 192) (Nat.le_of_ble_eq_true rfl) (Nat.le_of_ble_eq_true rfl) ?_
  refine va_putF (D := D) (ci := 1) (v := .ref q_2) (ty := (.array .int)) (C := RX1) (T := TX1) (N := 5) hx hb hts iT_X1 tyX1 tyX1_ok nmX1 hown hK1 hP hD hS 0 rfl rfl 1 (by decide) (hts _ t_137) (fun _ h9 => h9) rfl hin rfl (by decide +kernel) rfl rfl (Nat.le_of_ble_eq_true rfl) dX1_init_17 (fun H locs hP hD hS => ?_)
  have hP : va_P D vwCl [(h0, .inr (1, [.ref q_1, .ref q_2, .null, .null, .null])), (q_1, .inl (cJ, 96, .inr (.inl (fun _ => 0)))), (q_2, .inl (cI, 96, .inl (fun _ => 0)))] H := hP
  have hD : va_D A [(h0, .inr (1, [.ref q_1, .ref q_2, .null, .null, .null])), (q_1, .inl (cJ, 96, .inr (.inl (fun _ => 0)))), (q_2, .inl (cI, 96, .inl (fun _ => 0)))] := hD
  refine lv_aload_n hx hb dX1_init_20 rfl (lv_at hl 0 rfl) ?_
  refine lv_bipush (v := 96) hx hb dX1_init_21 (by decide) ?_
  refine nw_Z (N' := 96) hx hb (hts _ t_153) hK hP hD hS hA (by decide) (by decide) (by decide) (Nat.le_of_ble_eq_true rfl) (Nat.le_of_ble_eq_true rfl) dX1_init_23 (fun q_3 H hP hD hS => ?_)
  have hP : va_P D vwCl [(h0, .inr (1, [.ref q_1, .ref q_2, .null, .null, .null])), (q_1, .inl (cJ, 96, .inr (.inl (fun _ => 0)))), (q_2, .inl (cI, 96, .inl (fun _ => 0))), (q_3, .inl (cZ, 96, .inl (fun _ => 0)))] H := hP
  have hD : va_D A [(h0, .inr (1, [.ref q_1, .ref q_2, .null, .null, .null])), (q_1, .inl (cJ, 96, .inr (.inl (fun _ => 0)))), (q_2, .inl (cI, 96, .inl (fun _ => 0))), (q_3, .inl (cZ, 96, .inl (fun _ => 0)))] := hD
  refine W.widen (k := 3) (n := 288) (Nat.le_of_ble_eq_true rfl) (Nat.le_of_ble_eq_true rfl) ?_
  refine va_putF (D := D) (ci := 1) (v := .ref q_3) (ty := (.array .boolean)) (C := RX1) (T := TX1) (N := 5) hx hb hts iT_X1 tyX1 tyX1_ok nmX1 hown hK1 hP hD hS 0 rfl rfl 2 (by decide) (hts _ t_138) (fun _ h9 => h9) rfl hin rfl (by decide +kernel) rfl rfl (Nat.le_of_ble_eq_true rfl) dX1_init_25 (fun H locs hP hD hS => ?_)
  have hP : va_P D vwCl [(h0, .inr (1, [.ref q_1, .ref q_2, .ref q_3, .null, .null])), (q_1, .inl (cJ, 96, .inr (.inl (fun _ => 0)))), (q_2, .inl (cI, 96, .inl (fun _ => 0))), (q_3, .inl (cZ, 96, .inl (fun _ => 0)))] H := hP
  have hD : va_D A [(h0, .inr (1, [.ref q_1, .ref q_2, .ref q_3, .null, .null])), (q_1, .inl (cJ, 96, .inr (.inl (fun _ => 0)))), (q_2, .inl (cI, 96, .inl (fun _ => 0))), (q_3, .inl (cZ, 96, .inl (fun _ => 0)))] := hD
  refine lv_aload_n hx hb dX1_init_28 rfl (lv_at hl 0 rfl) ?_
  refine lv_bipush (v := 96) hx hb dX1_init_29 (by decide) ?_
  refine nw_I (N' := 96) hx hb (hts _ t_35) hK hP hD hS hA (by decide) (by decide) (by decide) (Nat.le_of_ble_eq_true rfl) (Nat.le_of_ble_eq_true rfl) dX1_init_31 (fun q_4 H hP hD hS => ?_)
  have hP : va_P D vwCl [(h0, .inr (1, [.ref q_1, .ref q_2, .ref q_3, .null, .null])), (q_1, .inl (cJ, 96, .inr (.inl (fun _ => 0)))), (q_2, .inl (cI, 96, .inl (fun _ => 0))), (q_3, .inl (cZ, 96, .inl (fun _ => 0))), (q_4, .inl (cI, 96, .inl (fun _ => 0)))] H := hP
  have hD : va_D A [(h0, .inr (1, [.ref q_1, .ref q_2, .ref q_3, .null, .null])), (q_1, .inl (cJ, 96, .inr (.inl (fun _ => 0)))), (q_2, .inl (cI, 96, .inl (fun _ => 0))), (q_3, .inl (cZ, 96, .inl (fun _ => 0))), (q_4, .inl (cI, 96, .inl (fun _ => 0)))] := hD
  refine W.widen (k := 4) (n := 384) (Nat.le_of_ble_eq_true rfl) (Nat.le_of_ble_eq_true rfl) ?_
  refine va_putF (D := D) (ci := 1) (v := .ref q_4) (ty := (.array .int)) (C := RX1) (T := TX1) (N := 5) hx hb hts iT_X1 tyX1 tyX1_ok nmX1 hown hK1 hP hD hS 0 rfl rfl 3 (by decide) (hts _ t_139) (fun _ h9 => h9) rfl hin rfl (by decide +kernel) rfl rfl (Nat.le_of_ble_eq_true rfl) dX1_init_33 (fun H locs hP hD hS => ?_)
  have hP : va_P D vwCl [(h0, .inr (1, [.ref q_1, .ref q_2, .ref q_3, .ref q_4, .null])), (q_1, .inl (cJ, 96, .inr (.inl (fun _ => 0)))), (q_2, .inl (cI, 96, .inl (fun _ => 0))), (q_3, .inl (cZ, 96, .inl (fun _ => 0))), (q_4, .inl (cI, 96, .inl (fun _ => 0)))] H := hP
  have hD : va_D A [(h0, .inr (1, [.ref q_1, .ref q_2, .ref q_3, .ref q_4, .null])), (q_1, .inl (cJ, 96, .inr (.inl (fun _ => 0)))), (q_2, .inl (cI, 96, .inl (fun _ => 0))), (q_3, .inl (cZ, 96, .inl (fun _ => 0))), (q_4, .inl (cI, 96, .inl (fun _ => 0)))] := hD
  refine lv_aload_n hx hb dX1_init_36 rfl (lv_at hl 0 rfl) ?_
  refine lv_bipush (v := 6) hx hb dX1_init_37 (by decide) ?_
  refine nw_I (N' := 6) hx hb (hts _ t_35) hK hP hD hS hA (by decide) (by decide) (by decide) (Nat.le_of_ble_eq_true rfl) (Nat.le_of_ble_eq_true rfl) dX1_init_39 (fun q_5 H hP hD hS => ?_)
  have hP : va_P D vwCl [(h0, .inr (1, [.ref q_1, .ref q_2, .ref q_3, .ref q_4, .null])), (q_1, .inl (cJ, 96, .inr (.inl (fun _ => 0)))), (q_2, .inl (cI, 96, .inl (fun _ => 0))), (q_3, .inl (cZ, 96, .inl (fun _ => 0))), (q_4, .inl (cI, 96, .inl (fun _ => 0))), (q_5, .inl (cI, 6, .inl (fun _ => 0)))] H := hP
  have hD : va_D A [(h0, .inr (1, [.ref q_1, .ref q_2, .ref q_3, .ref q_4, .null])), (q_1, .inl (cJ, 96, .inr (.inl (fun _ => 0)))), (q_2, .inl (cI, 96, .inl (fun _ => 0))), (q_3, .inl (cZ, 96, .inl (fun _ => 0))), (q_4, .inl (cI, 96, .inl (fun _ => 0))), (q_5, .inl (cI, 6, .inl (fun _ => 0)))] := hD
  refine W.widen (k := 5) (n := 390) (Nat.le_of_ble_eq_true rfl) (Nat.le_of_ble_eq_true rfl) ?_
  refine va_putF (D := D) (ci := 1) (v := .ref q_5) (ty := (.array .int)) (C := RX1) (T := TX1) (N := 5) hx hb hts iT_X1 tyX1 tyX1_ok nmX1 hown hK1 hP hD hS 0 rfl rfl 4 (by decide) (hts _ t_140) (fun _ h9 => h9) rfl hin rfl (by decide +kernel) rfl rfl (Nat.le_of_ble_eq_true rfl) dX1_init_41 (fun H locs hP hD hS => ?_)
  have hP : va_P D vwCl [(h0, .inr (1, [.ref q_1, .ref q_2, .ref q_3, .ref q_4, .ref q_5])), (q_1, .inl (cJ, 96, .inr (.inl (fun _ => 0)))), (q_2, .inl (cI, 96, .inl (fun _ => 0))), (q_3, .inl (cZ, 96, .inl (fun _ => 0))), (q_4, .inl (cI, 96, .inl (fun _ => 0))), (q_5, .inl (cI, 6, .inl (fun _ => 0)))] H := hP
  have hD : va_D A [(h0, .inr (1, [.ref q_1, .ref q_2, .ref q_3, .ref q_4, .ref q_5])), (q_1, .inl (cJ, 96, .inr (.inl (fun _ => 0)))), (q_2, .inl (cI, 96, .inl (fun _ => 0))), (q_3, .inl (cZ, 96, .inl (fun _ => 0))), (q_4, .inl (cI, 96, .inl (fun _ => 0))), (q_5, .inl (cI, 6, .inl (fun _ => 0)))] := hD
  exact hret _ _ _ _ _ _ (q_1, q_2, q_3, q_4, q_5) dX1_init_44 hS (Nat.le_of_ble_eq_true rfl) (Nat.le_of_ble_eq_true rfl) trivial (hP.sub [0, 1, 2, 3, 4, 5] rfl) (hD.sub [0, 1, 2, 3, 4, 5] rfl rfl)
set_option maxHeartbeats 4000000 in
set_option maxRecDepth 100000 in
theorem c_X6_init (sz : Nat) (h0 : Nat)  : CTv l D cI cJ cZ cR yX6_init cX6_init 1 none 4 86 89 4221 sz [.ref h0] [(h0, .inr (6, [.null, .null, .null, .null, .null, .int 0, .int 0, .int 0, .int 0, .int 0]))] (fun (u : Nat × Nat × Nat × Nat × Nat × Nat × Nat × Nat × Nat × Nat × Nat × Nat × Nat × Nat × Nat) => True) (fun (u : Nat × Nat × Nat × Nat × Nat × Nat × Nat × Nat × Nat × Nat × Nat × Nat × Nat × Nat × Nat) => [(h0, .inr (6, [.ref u.1, .ref u.2.2.1, .ref u.2.2.2.2.1, .ref u.2.2.2.2.2.2.2.2.1, .ref u.2.2.2.2.2.2.2.2.2.1, .int 0, .int 0, .int 0, .int 0, .int 0])), (u.1, .inr (3, [.ref u.2.1, .int 0])), (u.2.1, .inl (cI, 16, .inl (fun _ => 0))), (u.2.2.1, .inr (5, [.ref u.2.2.2.1, .int 0])), (u.2.2.2.2.1, .inr (0, [.ref u.2.2.2.2.2.1, .ref u.2.2.2.2.2.2.1, .ref u.2.2.2.2.2.2.2.1, .int 0, .int 0])), (u.2.2.2.2.2.1, .inl (cI, 12, .inl (fun _ => 0))), (u.2.2.2.2.2.2.1, .inl (cI, 12, .inl (fun _ => 0))), (u.2.2.2.2.2.2.2.1, .inl (cI, 12, .inl (fun _ => 0))), (u.2.2.2.2.2.2.2.2.2.1, .inr (1, [.ref u.2.2.2.2.2.2.2.2.2.2.1, .ref u.2.2.2.2.2.2.2.2.2.2.2.1, .ref u.2.2.2.2.2.2.2.2.2.2.2.2.1, .ref u.2.2.2.2.2.2.2.2.2.2.2.2.2.1, .ref u.2.2.2.2.2.2.2.2.2.2.2.2.2.2])), (u.2.2.2.2.2.2.2.2.2.2.1, .inl (cJ, 96, .inr (.inl (fun _ => 0)))), (u.2.2.2.2.2.2.2.2.2.2.2.1, .inl (cI, 96, .inl (fun _ => 0))), (u.2.2.2.2.2.2.2.2.2.2.2.2.1, .inl (cZ, 96, .inl (fun _ => 0))), (u.2.2.2.2.2.2.2.2.2.2.2.2.2.1, .inl (cI, 96, .inl (fun _ => 0))), (u.2.2.2.2.2.2.2.2.2.2.2.2.2.2, .inl (cI, 6, .inl (fun _ => 0)))]) := by
  refine CTv.of (by decide) (Nat.le_of_ble_eq_true rfl) rfl ?_
  intro p e s m below meth c A Q ls hd hin hK hsz hP hD hA hS hl hret
  obtain ⟨hx, hb, hml, hown, hts⟩ := id hd
  have hK1 := hK.1
  have hown : s.vm.findClass RX6 = some m.cls := hown
  have hin : meth.name = "<init>" := hin
  have hl : lv_has ls 1 [(0, .ref h0)] := hl
  refine lv_aload_n hx hb dX6_init_0 rfl (lv_at hl 0 rfl) ?_
  refine W.objInit hx hb hown (hts _ t_17) (hts _ t_18) (hts _ t_19) rfl (by rw [hml]; exact hl.1) rfl dX6_init_1 (Nat.le_of_ble_eq_true rfl) (Nat.le_of_ble_eq_true rfl) ?_
  refine W.eq (g2 := F0 m 4 ls []) rfl ?_
  refine lv_aload_n hx hb dX6_init_4 rfl (lv_at hl 0 rfl) ?_
  refine va_new (ci := 3) (fs := [.null, .int 0]) (C := RX3) (T := TX3) (N := 2) hx hb hts iT_X3 tyX3 tyX3_ok hown (hts _ t_20) (hts _ t_21) (hts _ t_2) hK1 hP hD hS hA rfl df_X3 (Nat.le_of_ble_eq_true rfl) (Nat.le_of_ble_eq_true rfl) dX6_init_5 (fun q_1 H hP hD hS => ?_)
  have hP : va_P D vwCl [(h0, .inr (6, [.null, .null, .null, .null, .null, .int 0, .int 0, .int 0, .int 0, .int 0])), (q_1, .inr (3, [.null, .int 0]))] H := hP
  have hD : va_D A [(h0, .inr (6, [.null, .null, .null, .null, .null, .int 0, .int 0, .int 0, .int 0, .int 0])), (q_1, .inr (3, [.null, .int 0]))] := hD
  refine W.widen (k := 1) (n := 2) (Nat.le_of_ble_eq_true rfl) (Nat.le_of_ble_eq_true rfl) ?_
  refine lv_dup hx hb dX6_init_8 rfl ?_
  refine xc_v (wc := [(q_1, .inr (3, [.null, .int 0]))]) (wr := [(h0, .inr (6, [.null, .null, .null, .null, .null, .int 0, .int 0, .int 0, .int 0, .int 0]))]) (xrIN (n := 0) (As := []) (rest := [.ref q_1, .ref h0]) hd hK hP hD (c_X3_init l D cI cJ cZ cR _ q_1 ) mI_X3_init.1 mI_X3_init.2.1 hK.2.1 mI_X3_init.2.2 rfl hS_X3_init ⟨(Nat.le_of_ble_eq_true rfl), (Nat.le_of_ble_eq_true rfl)⟩ [1] rfl rfl rfl hl.1 rfl (Nat.le_of_ble_eq_true rfl) dX6_init_9 ⟨(Nat.le_of_ble_eq_true rfl), (Nat.le_of_ble_eq_true rfl)⟩) hP hD hS hA [1] [0] rfl rfl rfl (by decide) (fun u_3 H locs hw_4 hP hD hS => ?_)
  obtain ⟨a1_5, rfl⟩ : ∃ z9, z9 = u_3 := ⟨_, rfl⟩
  have hP : va_P D vwCl [(h0, .inr (6, [.null, .null, .null, .null, .null, .int 0, .int 0, .int 0, .int 0, .int 0])), (q_1, .inr (3, [.ref a1_5, .int 0])), (a1_5, .inl (cI, 16, .inl (fun _ => 0)))] H := hP
  have hD : va_D A [(h0, .inr (6, [.null, .null, .null, .null, .null, .int 0, .int 0, .int 0, .int 0, .int 0])), (q_1, .inr (3, [.ref a1_5, .int 0])), (a1_5, .inl (cI, 16, .inl (fun _ => 0)))] := hD
  refine W.widen (k := 2) (n := 18) (Nat.le_of_ble_eq_true rfl) (Nat.le_of_ble_eq_true rfl) ?_
  refine va_putF (D := D) (ci := 6) (v := .ref q_1) (ty := (.object "GrownGraphs$Page")) (C := RX6) (T := TX6) (N := 10) hx hb hts iT_X6 tyX6 tyX6_ok nmX6 hown hK1 hP hD hS 0 rfl rfl 0 (by decide) (hts _ t_154) (fun _ h9 => h9) rfl hin rfl (by decide +kernel) rfl rfl (Nat.le_of_ble_eq_true rfl) dX6_init_12 (fun H locs hP hD hS => ?_)
  have hP : va_P D vwCl [(h0, .inr (6, [.ref q_1, .null, .null, .null, .null, .int 0, .int 0, .int 0, .int 0, .int 0])), (q_1, .inr (3, [.ref a1_5, .int 0])), (a1_5, .inl (cI, 16, .inl (fun _ => 0)))] H := hP
  have hD : va_D A [(h0, .inr (6, [.ref q_1, .null, .null, .null, .null, .int 0, .int 0, .int 0, .int 0, .int 0])), (q_1, .inr (3, [.ref a1_5, .int 0])), (a1_5, .inl (cI, 16, .inl (fun _ => 0)))] := hD
  refine lv_aload_n hx hb dX6_init_15 rfl (lv_at hl 0 rfl) ?_
  refine va_new (ci := 5) (fs := [.null, .int 0]) (C := RX5) (T := TX5) (N := 2) hx hb hts iT_X5 tyX5 tyX5_ok hown (hts _ t_36) (hts _ t_37) (hts _ t_3) hK1 hP hD hS hA rfl df_X5 (Nat.le_of_ble_eq_true rfl) (Nat.le_of_ble_eq_true rfl) dX6_init_16 (fun q_6 H hP hD hS => ?_)
  have hP : va_P D vwCl [(h0, .inr (6, [.ref q_1, .null, .null, .null, .null, .int 0, .int 0, .int 0, .int 0, .int 0])), (q_1, .inr (3, [.ref a1_5, .int 0])), (a1_5, .inl (cI, 16, .inl (fun _ => 0))), (q_6, .inr (5, [.null, .int 0]))] H := hP
  have hD : va_D A [(h0, .inr (6, [.ref q_1, .null, .null, .null, .null, .int 0, .int 0, .int 0, .int 0, .int 0])), (q_1, .inr (3, [.ref a1_5, .int 0])), (a1_5, .inl (cI, 16, .inl (fun _ => 0))), (q_6, .inr (5, [.null, .int 0]))] := hD
  refine W.widen (k := 3) (n := 20) (Nat.le_of_ble_eq_true rfl) (Nat.le_of_ble_eq_true rfl) ?_
  refine lv_dup hx hb dX6_init_19 rfl ?_
  refine xc_v (wc := [(q_6, .inr (5, [.null, .int 0]))]) (wr := [(h0, .inr (6, [.ref q_1, .null, .null, .null, .null, .int 0, .int 0, .int 0, .int 0, .int 0])), (q_1, .inr (3, [.ref a1_5, .int 0])), (a1_5, .inl (cI, 16, .inl (fun _ => 0)))]) (xrI (n := 0) (As := []) (rest := [.ref q_6, .ref h0]) hd hK hP hD (c_X5_init l D cI cJ cZ cR _ q_6 ) mI_X5_init.1 mI_X5_init.2.1 t_38 mI_X5_init.2.2 rfl hS_X5_init ⟨(Nat.le_of_ble_eq_true rfl), (Nat.le_of_ble_eq_true rfl)⟩ [3] rfl rfl rfl hl.1 rfl (Nat.le_of_ble_eq_true rfl) dX6_init_20 ⟨(Nat.le_of_ble_eq_true rfl), (Nat.le_of_ble_eq_true rfl)⟩) hP hD hS hA [3] [0, 1, 2] rfl rfl rfl (by decide) (fun u_8 H locs hw_9 hP hD hS => ?_)
  obtain ⟨a1_10, rfl⟩ : ∃ z9, z9 = u_8 := ⟨_, rfl⟩
  have hP : va_P D vwCl [(h0, .inr (6, [.ref q_1, .null, .null, .null, .null, .int 0, .int 0, .int 0, .int 0, .int 0])), (q_1, .inr (3, [.ref a1_5, .int 0])), (a1_5, .inl (cI, 16, .inl (fun _ => 0))), (q_6, .inr (5, [.ref a1_10, .int 0]))] H := hP
  have hD : va_D A [(h0, .inr (6, [.ref q_1, .null, .null, .null, .null, .int 0, .int 0, .int 0, .int 0, .int 0])), (q_1, .inr (3, [.ref a1_5, .int 0])), (a1_5, .inl (cI, 16, .inl (fun _ => 0))), (q_6, .inr (5, [.ref a1_10, .int 0]))] := hD
  refine W.widen (k := 76) (n := 1379) (Nat.le_of_ble_eq_true rfl) (Nat.le_of_ble_eq_true rfl) ?_
  refine va_putF (D := D) (ci := 6) (v := .ref q_6) (ty := (.object "GrownGraphs$RuleBook")) (C := RX6) (T := TX6) (N := 10) hx hb hts iT_X6 tyX6 tyX6_ok nmX6 hown hK1 hP hD hS 0 rfl rfl 1 (by decide) (hts _ t_155) (fun _ h9 => h9) rfl hin rfl (by decide +kernel) rfl rfl (Nat.le_of_ble_eq_true rfl) dX6_init_23 (fun H locs hP hD hS => ?_)
  have hP : va_P D vwCl [(h0, .inr (6, [.ref q_1, .ref q_6, .null, .null, .null, .int 0, .int 0, .int 0, .int 0, .int 0])), (q_1, .inr (3, [.ref a1_5, .int 0])), (a1_5, .inl (cI, 16, .inl (fun _ => 0))), (q_6, .inr (5, [.ref a1_10, .int 0]))] H := hP
  have hD : va_D A [(h0, .inr (6, [.ref q_1, .ref q_6, .null, .null, .null, .int 0, .int 0, .int 0, .int 0, .int 0])), (q_1, .inr (3, [.ref a1_5, .int 0])), (a1_5, .inl (cI, 16, .inl (fun _ => 0))), (q_6, .inr (5, [.ref a1_10, .int 0]))] := hD
  refine lv_aload_n hx hb dX6_init_26 rfl (lv_at hl 0 rfl) ?_
  refine va_new (ci := 0) (fs := [.null, .null, .null, .int 0, .int 0]) (C := RX0) (T := TX0) (N := 5) hx hb hts iT_X0 tyX0 tyX0_ok hown (hts _ t_115) (hts _ t_50) (hts _ t_5) hK1 hP hD hS hA rfl df_X0 (Nat.le_of_ble_eq_true rfl) (Nat.le_of_ble_eq_true rfl) dX6_init_27 (fun q_11 H hP hD hS => ?_)
  have hP : va_P D vwCl [(h0, .inr (6, [.ref q_1, .ref q_6, .null, .null, .null, .int 0, .int 0, .int 0, .int 0, .int 0])), (q_1, .inr (3, [.ref a1_5, .int 0])), (a1_5, .inl (cI, 16, .inl (fun _ => 0))), (q_6, .inr (5, [.ref a1_10, .int 0])), (q_11, .inr (0, [.null, .null, .null, .int 0, .int 0]))] H := hP
  have hD : va_D A [(h0, .inr (6, [.ref q_1, .ref q_6, .null, .null, .null, .int 0, .int 0, .int 0, .int 0, .int 0])), (q_1, .inr (3, [.ref a1_5, .int 0])), (a1_5, .inl (cI, 16, .inl (fun _ => 0))), (q_6, .inr (5, [.ref a1_10, .int 0])), (q_11, .inr (0, [.null, .null, .null, .int 0, .int 0]))] := hD
  refine W.widen (k := 77) (n := 1384) (Nat.le_of_ble_eq_true rfl) (Nat.le_of_ble_eq_true rfl) ?_
  refine lv_dup hx hb dX6_init_30 rfl ?_
  refine lv_bipush (v := 12) hx hb dX6_init_31 (by decide) ?_
  refine xc_v (wc := [(q_11, .inr (0, [.null, .null, .null, .int 0, .int 0]))]) (wr := [(h0, .inr (6, [.ref q_1, .ref q_6, .null, .null, .null, .int 0, .int 0, .int 0, .int 0, .int 0])), (q_1, .inr (3, [.ref a1_5, .int 0])), (a1_5, .inl (cI, 16, .inl (fun _ => 0))), (q_6, .inr (5, [.ref a1_10, .int 0]))]) (xrI (n := 1) (As := [.int 12]) (rest := [.ref q_11, .ref h0]) hd hK hP hD (c_X0_init_12 l D cI cJ cZ cR _ q_11 ) mI_X0_init.1 mI_X0_init.2.1 t_116 mI_X0_init.2.2 rfl hS_X0_init ⟨(Nat.le_of_ble_eq_true rfl), (Nat.le_of_ble_eq_true rfl)⟩ [4] rfl rfl rfl hl.1 rfl (Nat.le_of_ble_eq_true rfl) dX6_init_33 ⟨(Nat.le_of_ble_eq_true rfl), (Nat.le_of_ble_eq_true rfl)⟩) hP hD hS hA [4] [0, 1, 2, 3] rfl rfl rfl (by decide) (fun u_13 H locs hw_14 hP hD hS => ?_)
  obtain ⟨a1_15, a2_16, a3_17⟩ := u_13
  have hP : va_P D vwCl [(h0, .inr (6, [.ref q_1, .ref q_6, .null, .null, .null, .int 0, .int 0, .int 0, .int 0, .int 0])), (q_1, .inr (3, [.ref a1_5, .int 0])), (a1_5, .inl (cI, 16, .inl (fun _ => 0))), (q_6, .inr (5, [.ref a1_10, .int 0])), (q_11, .inr (0, [.ref a1_15, .ref a2_16, .ref a3_17, .int 0, .int 0])), (a1_15, .inl (cI, 12, .inl (fun _ => 0))), (a2_16, .inl (cI, 12, .inl (fun _ => 0))), (a3_17, .inl (cI, 12, .inl (fun _ => 0)))] H := hP
  have hD : va_D A [(h0, .inr (6, [.ref q_1, .ref q_6, .null, .null, .null, .int 0, .int 0, .int 0, .int 0, .int 0])), (q_1, .inr (3, [.ref a1_5, .int 0])), (a1_5, .inl (cI, 16, .inl (fun _ => 0))), (q_6, .inr (5, [.ref a1_10, .int 0])), (q_11, .inr (0, [.ref a1_15, .ref a2_16, .ref a3_17, .int 0, .int 0])), (a1_15, .inl (cI, 12, .inl (fun _ => 0))), (a2_16, .inl (cI, 12, .inl (fun _ => 0))), (a3_17, .inl (cI, 12, .inl (fun _ => 0)))] := hD
  refine W.widen (k := 80) (n := 1420) (Nat.le_of_ble_eq_true rfl) (Nat.le_of_ble_eq_true rfl) ?_
  refine va_putF (D := D) (ci := 6) (v := .ref q_11) (ty := (.object "GrownGraphs$Figure")) (C := RX6) (T := TX6) (N := 10) hx hb hts iT_X6 tyX6 tyX6_ok nmX6 hown hK1 hP hD hS 0 rfl rfl 2 (by decide) (hts _ t_156) (fun _ h9 => h9) rfl hin rfl (by decide +kernel) rfl rfl (Nat.le_of_ble_eq_true rfl) dX6_init_36 (fun H locs hP hD hS => ?_)
  have hP : va_P D vwCl [(h0, .inr (6, [.ref q_1, .ref q_6, .ref q_11, .null, .null, .int 0, .int 0, .int 0, .int 0, .int 0])), (q_1, .inr (3, [.ref a1_5, .int 0])), (a1_5, .inl (cI, 16, .inl (fun _ => 0))), (q_6, .inr (5, [.ref a1_10, .int 0])), (q_11, .inr (0, [.ref a1_15, .ref a2_16, .ref a3_17, .int 0, .int 0])), (a1_15, .inl (cI, 12, .inl (fun _ => 0))), (a2_16, .inl (cI, 12, .inl (fun _ => 0))), (a3_17, .inl (cI, 12, .inl (fun _ => 0)))] H := hP
  have hD : va_D A [(h0, .inr (6, [.ref q_1, .ref q_6, .ref q_11, .null, .null, .int 0, .int 0, .int 0, .int 0, .int 0])), (q_1, .inr (3, [.ref a1_5, .int 0])), (a1_5, .inl (cI, 16, .inl (fun _ => 0))), (q_6, .inr (5, [.ref a1_10, .int 0])), (q_11, .inr (0, [.ref a1_15, .ref a2_16, .ref a3_17, .int 0, .int 0])), (a1_15, .inl (cI, 12, .inl (fun _ => 0))), (a2_16, .inl (cI, 12, .inl (fun _ => 0))), (a3_17, .inl (cI, 12, .inl (fun _ => 0)))] := hD
  refine lv_aload_n hx hb dX6_init_39 rfl (lv_at hl 0 rfl) ?_
  refine va_new (ci := 2) (fs := [.null, .null]) (C := RX2) (T := TX2) (N := 2) hx hb hts iT_X2 tyX2 tyX2_ok hown (hts _ t_117) (hts _ t_118) (hts _ t_6) hK1 hP hD hS hA rfl df_X2 (Nat.le_of_ble_eq_true rfl) (Nat.le_of_ble_eq_true rfl) dX6_init_40 (fun q_18 H hP hD hS => ?_)
  have hP : va_P D vwCl [(h0, .inr (6, [.ref q_1, .ref q_6, .ref q_11, .null, .null, .int 0, .int 0, .int 0, .int 0, .int 0])), (q_1, .inr (3, [.ref a1_5, .int 0])), (a1_5, .inl (cI, 16, .inl (fun _ => 0))), (q_6, .inr (5, [.ref a1_10, .int 0])), (q_11, .inr (0, [.ref a1_15, .ref a2_16, .ref a3_17, .int 0, .int 0])), (a1_15, .inl (cI, 12, .inl (fun _ => 0))), (a2_16, .inl (cI, 12, .inl (fun _ => 0))), (a3_17, .inl (cI, 12, .inl (fun _ => 0))), (q_18, .inr (2, [.null, .null]))] H := hP
  have hD : va_D A [(h0, .inr (6, [.ref q_1, .ref q_6, .ref q_11, .null, .null, .int 0, .int 0, .int 0, .int 0, .int 0])), (q_1, .inr (3, [.ref a1_5, .int 0])), (a1_5, .inl (cI, 16, .inl (fun _ => 0))), (q_6, .inr (5, [.ref a1_10, .int 0])), (q_11, .inr (0, [.ref a1_15, .ref a2_16, .ref a3_17, .int 0, .int 0])), (a1_15, .inl (cI, 12, .inl (fun _ => 0))), (a2_16, .inl (cI, 12, .inl (fun _ => 0))), (a3_17, .inl (cI, 12, .inl (fun _ => 0))), (q_18, .inr (2, [.null, .null]))] := hD
  refine W.widen (k := 81) (n := 1422) (Nat.le_of_ble_eq_true rfl) (Nat.le_of_ble_eq_true rfl) ?_
  refine lv_dup hx hb dX6_init_43 rfl ?_
  refine xc_v (wc := [(q_18, .inr (2, [.null, .null]))]) (wr := [(h0, .inr (6, [.ref q_1, .ref q_6, .ref q_11, .null, .null, .int 0, .int 0, .int 0, .int 0, .int 0])), (q_1, .inr (3, [.ref a1_5, .int 0])), (a1_5, .inl (cI, 16, .inl (fun _ => 0))), (q_6, .inr (5, [.ref a1_10, .int 0])), (q_11, .inr (0, [.ref a1_15, .ref a2_16, .ref a3_17, .int 0, .int 0])), (a1_15, .inl (cI, 12, .inl (fun _ => 0))), (a2_16, .inl (cI, 12, .inl (fun _ => 0))), (a3_17, .inl (cI, 12, .inl (fun _ => 0)))]) (xrIN (n := 0) (As := []) (rest := [.ref q_18, .ref h0]) hd hK hP hD (c_X2_init l D cI cJ cZ cR _ q_18 ) mI_X2_init.1 mI_X2_init.2.1 hK.2.2.2.1 mI_X2_init.2.2 rfl hS_X2_init ⟨(Nat.le_of_ble_eq_true rfl), (Nat.le_of_ble_eq_true rfl)⟩ [8] rfl rfl rfl hl.1 rfl (Nat.le_of_ble_eq_true rfl) dX6_init_44 ⟨(Nat.le_of_ble_eq_true rfl), (Nat.le_of_ble_eq_true rfl)⟩) hP hD hS hA [8] [0, 1, 2, 3, 4, 5, 6, 7] rfl rfl rfl (by decide) (fun u_20 H locs hw_21 hP hD hS => ?_)
  obtain ⟨a1_22, a2_23⟩ := u_20
  have hP : va_P D vwCl [(h0, .inr (6, [.ref q_1, .ref q_6, .ref q_11, .null, .null, .int 0, .int 0, .int 0, .int 0, .int 0])), (q_1, .inr (3, [.ref a1_5, .int 0])), (a1_5, .inl (cI, 16, .inl (fun _ => 0))), (q_6, .inr (5, [.ref a1_10, .int 0])), (q_11, .inr (0, [.ref a1_15, .ref a2_16, .ref a3_17, .int 0, .int 0])), (a1_15, .inl (cI, 12, .inl (fun _ => 0))), (a2_16, .inl (cI, 12, .inl (fun _ => 0))), (a3_17, .inl (cI, 12, .inl (fun _ => 0))), (q_18, .inr (2, [.ref a1_22, .ref a2_23])), (a1_22, .inl (cI, 2400, .inl (fun _ => 0))), (a2_23, .inl (cI, 4, .inl (fun _ => 0)))] H := hP
  have hD : va_D A [(h0, .inr (6, [.ref q_1, .ref q_6, .ref q_11, .null, .null, .int 0, .int 0, .int 0, .int 0, .int 0])), (q_1, .inr (3, [.ref a1_5, .int 0])), (a1_5, .inl (cI, 16, .inl (fun _ => 0))), (q_6, .inr (5, [.ref a1_10, .int 0])), (q_11, .inr (0, [.ref a1_15, .ref a2_16, .ref a3_17, .int 0, .int 0])), (a1_15, .inl (cI, 12, .inl (fun _ => 0))), (a2_16, .inl (cI, 12, .inl (fun _ => 0))), (a3_17, .inl (cI, 12, .inl (fun _ => 0))), (q_18, .inr (2, [.ref a1_22, .ref a2_23])), (a1_22, .inl (cI, 2400, .inl (fun _ => 0))), (a2_23, .inl (cI, 4, .inl (fun _ => 0)))] := hD
  refine W.widen (k := 83) (n := 3826) (Nat.le_of_ble_eq_true rfl) (Nat.le_of_ble_eq_true rfl) ?_
  refine va_putF (D := D) (ci := 6) (v := .ref q_18) (ty := (.object "GrownGraphs$Origins")) (C := RX6) (T := TX6) (N := 10) hx hb hts iT_X6 tyX6 tyX6_ok nmX6 hown hK1 hP hD hS 0 rfl rfl 3 (by decide) (hts _ t_157) (fun _ h9 => h9) rfl hin rfl (by decide +kernel) rfl rfl (Nat.le_of_ble_eq_true rfl) dX6_init_47 (fun H locs hP hD hS => ?_)
  have hP : va_P D vwCl [(h0, .inr (6, [.ref q_1, .ref q_6, .ref q_11, .ref q_18, .null, .int 0, .int 0, .int 0, .int 0, .int 0])), (q_1, .inr (3, [.ref a1_5, .int 0])), (a1_5, .inl (cI, 16, .inl (fun _ => 0))), (q_6, .inr (5, [.ref a1_10, .int 0])), (q_11, .inr (0, [.ref a1_15, .ref a2_16, .ref a3_17, .int 0, .int 0])), (a1_15, .inl (cI, 12, .inl (fun _ => 0))), (a2_16, .inl (cI, 12, .inl (fun _ => 0))), (a3_17, .inl (cI, 12, .inl (fun _ => 0))), (q_18, .inr (2, [.ref a1_22, .ref a2_23])), (a1_22, .inl (cI, 2400, .inl (fun _ => 0))), (a2_23, .inl (cI, 4, .inl (fun _ => 0)))] H := hP
  have hD : va_D A [(h0, .inr (6, [.ref q_1, .ref q_6, .ref q_11, .ref q_18, .null, .int 0, .int 0, .int 0, .int 0, .int 0])), (q_1, .inr (3, [.ref a1_5, .int 0])), (a1_5, .inl (cI, 16, .inl (fun _ => 0))), (q_6, .inr (5, [.ref a1_10, .int 0])), (q_11, .inr (0, [.ref a1_15, .ref a2_16, .ref a3_17, .int 0, .int 0])), (a1_15, .inl (cI, 12, .inl (fun _ => 0))), (a2_16, .inl (cI, 12, .inl (fun _ => 0))), (a3_17, .inl (cI, 12, .inl (fun _ => 0))), (q_18, .inr (2, [.ref a1_22, .ref a2_23])), (a1_22, .inl (cI, 2400, .inl (fun _ => 0))), (a2_23, .inl (cI, 4, .inl (fun _ => 0)))] := hD
  refine lv_aload_n hx hb dX6_init_50 rfl (lv_at hl 0 rfl) ?_
  refine va_new (ci := 1) (fs := [.null, .null, .null, .null, .null]) (C := RX1) (T := TX1) (N := 5) hx hb hts iT_X1 tyX1 tyX1_ok hown (hts _ t_130) (hts _ t_131) (hts _ t_7) hK1 hP hD hS hA rfl df_X1 (Nat.le_of_ble_eq_true rfl) (Nat.le_of_ble_eq_true rfl) dX6_init_51 (fun q_24 H hP hD hS => ?_)
  have hP : va_P D vwCl [(h0, .inr (6, [.ref q_1, .ref q_6, .ref q_11, .ref q_18, .null, .int 0, .int 0, .int 0, .int 0, .int 0])), (q_1, .inr (3, [.ref a1_5, .int 0])), (a1_5, .inl (cI, 16, .inl (fun _ => 0))), (q_6, .inr (5, [.ref a1_10, .int 0])), (q_11, .inr (0, [.ref a1_15, .ref a2_16, .ref a3_17, .int 0, .int 0])), (a1_15, .inl (cI, 12, .inl (fun _ => 0))), (a2_16, .inl (cI, 12, .inl (fun _ => 0))), (a3_17, .inl (cI, 12, .inl (fun _ => 0))), (q_18, .inr (2, [.ref a1_22, .ref a2_23])), (a1_22, .inl (cI, 2400, .inl (fun _ => 0))), (a2_23, .inl (cI, 4, .inl (fun _ => 0))), (q_24, .inr (1, [.null, .null, .null, .null, .null]))] H := hP
  have hD : va_D A [(h0, .inr (6, [.ref q_1, .ref q_6, .ref q_11, .ref q_18, .null, .int 0, .int 0, .int 0, .int 0, .int 0])), (q_1, .inr (3, [.ref a1_5, .int 0])), (a1_5, .inl (cI, 16, .inl (fun _ => 0))), (q_6, .inr (5, [.ref a1_10, .int 0])), (q_11, .inr (0, [.ref a1_15, .ref a2_16, .ref a3_17, .int 0, .int 0])), (a1_15, .inl (cI, 12, .inl (fun _ => 0))), (a2_16, .inl (cI, 12, .inl (fun _ => 0))), (a3_17, .inl (cI, 12, .inl (fun _ => 0))), (q_18, .inr (2, [.ref a1_22, .ref a2_23])), (a1_22, .inl (cI, 2400, .inl (fun _ => 0))), (a2_23, .inl (cI, 4, .inl (fun _ => 0))), (q_24, .inr (1, [.null, .null, .null, .null, .null]))] := hD
  refine W.widen (k := 84) (n := 3831) (Nat.le_of_ble_eq_true rfl) (Nat.le_of_ble_eq_true rfl) ?_
  refine lv_dup hx hb dX6_init_54 rfl ?_
  refine xc_v (wc := [(q_24, .inr (1, [.null, .null, .null, .null, .null]))]) (wr := [(h0, .inr (6, [.ref q_1, .ref q_6, .ref q_11, .ref q_18, .null, .int 0, .int 0, .int 0, .int 0, .int 0])), (q_1, .inr (3, [.ref a1_5, .int 0])), (a1_5, .inl (cI, 16, .inl (fun _ => 0))), (q_6, .inr (5, [.ref a1_10, .int 0])), (q_11, .inr (0, [.ref a1_15, .ref a2_16, .ref a3_17, .int 0, .int 0])), (a1_15, .inl (cI, 12, .inl (fun _ => 0))), (a2_16, .inl (cI, 12, .inl (fun _ => 0))), (a3_17, .inl (cI, 12, .inl (fun _ => 0))), (q_18, .inr (2, [.ref a1_22, .ref a2_23])), (a1_22, .inl (cI, 2400, .inl (fun _ => 0))), (a2_23, .inl (cI, 4, .inl (fun _ => 0)))]) (xrIN (n := 0) (As := []) (rest := [.ref q_24, .ref h0]) hd hK hP hD (c_X1_init l D cI cJ cZ cR _ q_24 ) mI_X1_init.1 mI_X1_init.2.1 hK.2.2.2.2.1 mI_X1_init.2.2 rfl hS_X1_init ⟨(Nat.le_of_ble_eq_true rfl), (Nat.le_of_ble_eq_true rfl)⟩ [11] rfl rfl rfl hl.1 rfl (Nat.le_of_ble_eq_true rfl) dX6_init_55 ⟨(Nat.le_of_ble_eq_true rfl), (Nat.le_of_ble_eq_true rfl)⟩) hP hD hS hA [11] [0, 1, 2, 3, 4, 5, 6, 7, 8, 9, 10] rfl rfl rfl (by decide) (fun u_26 H locs hw_27 hP hD hS => ?_)
  obtain ⟨a1_28, a2_29, a3_30, a4_31, a5_32⟩ := u_26
  have hP : va_P D vwCl [(h0, .inr (6, [.ref q_1, .ref q_6, .ref q_11, .ref q_18, .null, .int 0, .int 0, .int 0, .int 0, .int 0])), (q_1, .inr (3, [.ref a1_5, .int 0])), (a1_5, .inl (cI, 16, .inl (fun _ => 0))), (q_6, .inr (5, [.ref a1_10, .int 0])), (q_11, .inr (0, [.ref a1_15, .ref a2_16, .ref a3_17, .int 0, .int 0])), (a1_15, .inl (cI, 12, .inl (fun _ => 0))), (a2_16, .inl (cI, 12, .inl (fun _ => 0))), (a3_17, .inl (cI, 12, .inl (fun _ => 0))), (q_18, .inr (2, [.ref a1_22, .ref a2_23])), (a1_22, .inl (cI, 2400, .inl (fun _ => 0))), (a2_23, .inl (cI, 4, .inl (fun _ => 0))), (q_24, .inr (1, [.ref a1_28, .ref a2_29, .ref a3_30, .ref a4_31, .ref a5_32])), (a1_28, .inl (cJ, 96, .inr (.inl (fun _ => 0)))), (a2_29, .inl (cI, 96, .inl (fun _ => 0))), (a3_30, .inl (cZ, 96, .inl (fun _ => 0))), (a4_31, .inl (cI, 96, .inl (fun _ => 0))), (a5_32, .inl (cI, 6, .inl (fun _ => 0)))] H := hP
  have hD : va_D A [(h0, .inr (6, [.ref q_1, .ref q_6, .ref q_11, .ref q_18, .null, .int 0, .int 0, .int 0, .int 0, .int 0])), (q_1, .inr (3, [.ref a1_5, .int 0])), (a1_5, .inl (cI, 16, .inl (fun _ => 0))), (q_6, .inr (5, [.ref a1_10, .int 0])), (q_11, .inr (0, [.ref a1_15, .ref a2_16, .ref a3_17, .int 0, .int 0])), (a1_15, .inl (cI, 12, .inl (fun _ => 0))), (a2_16, .inl (cI, 12, .inl (fun _ => 0))), (a3_17, .inl (cI, 12, .inl (fun _ => 0))), (q_18, .inr (2, [.ref a1_22, .ref a2_23])), (a1_22, .inl (cI, 2400, .inl (fun _ => 0))), (a2_23, .inl (cI, 4, .inl (fun _ => 0))), (q_24, .inr (1, [.ref a1_28, .ref a2_29, .ref a3_30, .ref a4_31, .ref a5_32])), (a1_28, .inl (cJ, 96, .inr (.inl (fun _ => 0)))), (a2_29, .inl (cI, 96, .inl (fun _ => 0))), (a3_30, .inl (cZ, 96, .inl (fun _ => 0))), (a4_31, .inl (cI, 96, .inl (fun _ => 0))), (a5_32, .inl (cI, 6, .inl (fun _ => 0)))] := hD
  refine W.widen (k := 89) (n := 4221) (Nat.le_of_ble_eq_true rfl) (Nat.le_of_ble_eq_true rfl) ?_
  refine va_putF (D := D) (ci := 6) (v := .ref q_24) (ty := (.object "GrownGraphs$Lights")) (C := RX6) (T := TX6) (N := 10) hx hb hts iT_X6 tyX6 tyX6_ok nmX6 hown hK1 hP hD hS 0 rfl rfl 4 (by decide) (hts _ t_158) (fun _ h9 => h9) rfl hin rfl (by decide +kernel) rfl rfl (Nat.le_of_ble_eq_true rfl) dX6_init_58 (fun H locs hP hD hS => ?_)
  have hP : va_P D vwCl [(h0, .inr (6, [.ref q_1, .ref q_6, .ref q_11, .ref q_18, .ref q_24, .int 0, .int 0, .int 0, .int 0, .int 0])), (q_1, .inr (3, [.ref a1_5, .int 0])), (a1_5, .inl (cI, 16, .inl (fun _ => 0))), (q_6, .inr (5, [.ref a1_10, .int 0])), (q_11, .inr (0, [.ref a1_15, .ref a2_16, .ref a3_17, .int 0, .int 0])), (a1_15, .inl (cI, 12, .inl (fun _ => 0))), (a2_16, .inl (cI, 12, .inl (fun _ => 0))), (a3_17, .inl (cI, 12, .inl (fun _ => 0))), (q_18, .inr (2, [.ref a1_22, .ref a2_23])), (a1_22, .inl (cI, 2400, .inl (fun _ => 0))), (a2_23, .inl (cI, 4, .inl (fun _ => 0))), (q_24, .inr (1, [.ref a1_28, .ref a2_29, .ref a3_30, .ref a4_31, .ref a5_32])), (a1_28, .inl (cJ, 96, .inr (.inl (fun _ => 0)))), (a2_29, .inl (cI, 96, .inl (fun _ => 0))), (a3_30, .inl (cZ, 96, .inl (fun _ => 0))), (a4_31, .inl (cI, 96, .inl (fun _ => 0))), (a5_32, .inl (cI, 6, .inl (fun _ => 0)))] H := hP
  have hD : va_D A [(h0, .inr (6, [.ref q_1, .ref q_6, .ref q_11, .ref q_18, .ref q_24, .int 0, .int 0, .int 0, .int 0, .int 0])), (q_1, .inr (3, [.ref a1_5, .int 0])), (a1_5, .inl (cI, 16, .inl (fun _ => 0))), (q_6, .inr (5, [.ref a1_10, .int 0])), (q_11, .inr (0, [.ref a1_15, .ref a2_16, .ref a3_17, .int 0, .int 0])), (a1_15, .inl (cI, 12, .inl (fun _ => 0))), (a2_16, .inl (cI, 12, .inl (fun _ => 0))), (a3_17, .inl (cI, 12, .inl (fun _ => 0))), (q_18, .inr (2, [.ref a1_22, .ref a2_23])), (a1_22, .inl (cI, 2400, .inl (fun _ => 0))), (a2_23, .inl (cI, 4, .inl (fun _ => 0))), (q_24, .inr (1, [.ref a1_28, .ref a2_29, .ref a3_30, .ref a4_31, .ref a5_32])), (a1_28, .inl (cJ, 96, .inr (.inl (fun _ => 0)))), (a2_29, .inl (cI, 96, .inl (fun _ => 0))), (a3_30, .inl (cZ, 96, .inl (fun _ => 0))), (a4_31, .inl (cI, 96, .inl (fun _ => 0))), (a5_32, .inl (cI, 6, .inl (fun _ => 0)))] := hD
  refine lv_aload_n hx hb dX6_init_61 rfl (lv_at hl 0 rfl) ?_
  refine lv_iconst (v := 0) hx hb dX6_init_62 (by decide) ?_
  refine va_put (D := D) (ci := 6) (v := .int 0) (ty := .boolean) (C := RX6) (T := TX6) (N := 10) hx hb hts iT_X6 tyX6 tyX6_ok nmX6 hown hK1 hP hD hS 0 rfl rfl 5 (by decide) (hts _ t_159) (fun _ h9 => h9) rfl (by decide +kernel) rfl rfl (Nat.le_of_ble_eq_true rfl) dX6_init_63 (fun H locs hP hD hS => ?_)
  have hP : va_P D vwCl [(h0, .inr (6, [.ref q_1, .ref q_6, .ref q_11, .ref q_18, .ref q_24, .int 0, .int 0, .int 0, .int 0, .int 0])), (q_1, .inr (3, [.ref a1_5, .int 0])), (a1_5, .inl (cI, 16, .inl (fun _ => 0))), (q_6, .inr (5, [.ref a1_10, .int 0])), (q_11, .inr (0, [.ref a1_15, .ref a2_16, .ref a3_17, .int 0, .int 0])), (a1_15, .inl (cI, 12, .inl (fun _ => 0))), (a2_16, .inl (cI, 12, .inl (fun _ => 0))), (a3_17, .inl (cI, 12, .inl (fun _ => 0))), (q_18, .inr (2, [.ref a1_22, .ref a2_23])), (a1_22, .inl (cI, 2400, .inl (fun _ => 0))), (a2_23, .inl (cI, 4, .inl (fun _ => 0))), (q_24, .inr (1, [.ref a1_28, .ref a2_29, .ref a3_30, .ref a4_31, .ref a5_32])), (a1_28, .inl (cJ, 96, .inr (.inl (fun _ => 0)))), (a2_29, .inl (cI, 96, .inl (fun _ => 0))), (a3_30, .inl (cZ, 96, .inl (fun _ => 0))), (a4_31, .inl (cI, 96, .inl (fun _ => 0))), (a5_32, .inl (cI, 6, .inl (fun _ => 0)))] H := hP
  have hD : va_D A [(h0, .inr (6, [.ref q_1, .ref q_6, .ref q_11, .ref q_18, .ref q_24, .int 0, .int 0, .int 0, .int 0, .int 0])), (q_1, .inr (3, [.ref a1_5, .int 0])), (a1_5, .inl (cI, 16, .inl (fun _ => 0))), (q_6, .inr (5, [.ref a1_10, .int 0])), (q_11, .inr (0, [.ref a1_15, .ref a2_16, .ref a3_17, .int 0, .int 0])), (a1_15, .inl (cI, 12, .inl (fun _ => 0))), (a2_16, .inl (cI, 12, .inl (fun _ => 0))), (a3_17, .inl (cI, 12, .inl (fun _ => 0))), (q_18, .inr (2, [.ref a1_22, .ref a2_23])), (a1_22, .inl (cI, 2400, .inl (fun _ => 0))), (a2_23, .inl (cI, 4, .inl (fun _ => 0))), (q_24, .inr (1, [.ref a1_28, .ref a2_29, .ref a3_30, .ref a4_31, .ref a5_32])), (a1_28, .inl (cJ, 96, .inr (.inl (fun _ => 0)))), (a2_29, .inl (cI, 96, .inl (fun _ => 0))), (a3_30, .inl (cZ, 96, .inl (fun _ => 0))), (a4_31, .inl (cI, 96, .inl (fun _ => 0))), (a5_32, .inl (cI, 6, .inl (fun _ => 0)))] := hD
  refine lv_aload_n hx hb dX6_init_66 rfl (lv_at hl 0 rfl) ?_
  refine lv_iconst (v := 0) hx hb dX6_init_67 (by decide) ?_
  refine va_put (D := D) (ci := 6) (v := .int 0) (ty := .boolean) (C := RX6) (T := TX6) (N := 10) hx hb hts iT_X6 tyX6 tyX6_ok nmX6 hown hK1 hP hD hS 0 rfl rfl 6 (by decide) (hts _ t_160) (fun _ h9 => h9) rfl (by decide +kernel) rfl rfl (Nat.le_of_ble_eq_true rfl) dX6_init_68 (fun H locs hP hD hS => ?_)
  have hP : va_P D vwCl [(h0, .inr (6, [.ref q_1, .ref q_6, .ref q_11, .ref q_18, .ref q_24, .int 0, .int 0, .int 0, .int 0, .int 0])), (q_1, .inr (3, [.ref a1_5, .int 0])), (a1_5, .inl (cI, 16, .inl (fun _ => 0))), (q_6, .inr (5, [.ref a1_10, .int 0])), (q_11, .inr (0, [.ref a1_15, .ref a2_16, .ref a3_17, .int 0, .int 0])), (a1_15, .inl (cI, 12, .inl (fun _ => 0))), (a2_16, .inl (cI, 12, .inl (fun _ => 0))), (a3_17, .inl (cI, 12, .inl (fun _ => 0))), (q_18, .inr (2, [.ref a1_22, .ref a2_23])), (a1_22, .inl (cI, 2400, .inl (fun _ => 0))), (a2_23, .inl (cI, 4, .inl (fun _ => 0))), (q_24, .inr (1, [.ref a1_28, .ref a2_29, .ref a3_30, .ref a4_31, .ref a5_32])), (a1_28, .inl (cJ, 96, .inr (.inl (fun _ => 0)))), (a2_29, .inl (cI, 96, .inl (fun _ => 0))), (a3_30, .inl (cZ, 96, .inl (fun _ => 0))), (a4_31, .inl (cI, 96, .inl (fun _ => 0))), (a5_32, .inl (cI, 6, .inl (fun _ => 0)))] H := hP
  have hD : va_D A [(h0, .inr (6, [.ref q_1, .ref q_6, .ref q_11, .ref q_18, .ref q_24, .int 0, .int 0, .int 0, .int 0, .int 0])), (q_1, .inr (3, [.ref a1_5, .int 0])), (a1_5, .inl (cI, 16, .inl (fun _ => 0))), (q_6, .inr (5, [.ref a1_10, .int 0])), (q_11, .inr (0, [.ref a1_15, .ref a2_16, .ref a3_17, .int 0, .int 0])), (a1_15, .inl (cI, 12, .inl (fun _ => 0))), (a2_16, .inl (cI, 12, .inl (fun _ => 0))), (a3_17, .inl (cI, 12, .inl (fun _ => 0))), (q_18, .inr (2, [.ref a1_22, .ref a2_23])), (a1_22, .inl (cI, 2400, .inl (fun _ => 0))), (a2_23, .inl (cI, 4, .inl (fun _ => 0))), (q_24, .inr (1, [.ref a1_28, .ref a2_29, .ref a3_30, .ref a4_31, .ref a5_32])), (a1_28, .inl (cJ, 96, .inr (.inl (fun _ => 0)))), (a2_29, .inl (cI, 96, .inl (fun _ => 0))), (a3_30, .inl (cZ, 96, .inl (fun _ => 0))), (a4_31, .inl (cI, 96, .inl (fun _ => 0))), (a5_32, .inl (cI, 6, .inl (fun _ => 0)))] := hD
  refine lv_aload_n hx hb dX6_init_71 rfl (lv_at hl 0 rfl) ?_
  refine lv_iconst (v := 0) hx hb dX6_init_72 (by decide) ?_
  refine va_put (D := D) (ci := 6) (v := .int 0) (ty := .int) (C := RX6) (T := TX6) (N := 10) hx hb hts iT_X6 tyX6 tyX6_ok nmX6 hown hK1 hP hD hS 0 rfl rfl 7 (by decide) (hts _ t_161) (fun _ h9 => h9) rfl (by decide +kernel) rfl rfl (Nat.le_of_ble_eq_true rfl) dX6_init_73 (fun H locs hP hD hS => ?_)
  have hP : va_P D vwCl [(h0, .inr (6, [.ref q_1, .ref q_6, .ref q_11, .ref q_18, .ref q_24, .int 0, .int 0, .int 0, .int 0, .int 0])), (q_1, .inr (3, [.ref a1_5, .int 0])), (a1_5, .inl (cI, 16, .inl (fun _ => 0))), (q_6, .inr (5, [.ref a1_10, .int 0])), (q_11, .inr (0, [.ref a1_15, .ref a2_16, .ref a3_17, .int 0, .int 0])), (a1_15, .inl (cI, 12, .inl (fun _ => 0))), (a2_16, .inl (cI, 12, .inl (fun _ => 0))), (a3_17, .inl (cI, 12, .inl (fun _ => 0))), (q_18, .inr (2, [.ref a1_22, .ref a2_23])), (a1_22, .inl (cI, 2400, .inl (fun _ => 0))), (a2_23, .inl (cI, 4, .inl (fun _ => 0))), (q_24, .inr (1, [.ref a1_28, .ref a2_29, .ref a3_30, .ref a4_31, .ref a5_32])), (a1_28, .inl (cJ, 96, .inr (.inl (fun _ => 0)))), (a2_29, .inl (cI, 96, .inl (fun _ => 0))), (a3_30, .inl (cZ, 96, .inl (fun _ => 0))), (a4_31, .inl (cI, 96, .inl (fun _ => 0))), (a5_32, .inl (cI, 6, .inl (fun _ => 0)))] H := hP
  have hD : va_D A [(h0, .inr (6, [.ref q_1, .ref q_6, .ref q_11, .ref q_18, .ref q_24, .int 0, .int 0, .int 0, .int 0, .int 0])), (q_1, .inr (3, [.ref a1_5, .int 0])), (a1_5, .inl (cI, 16, .inl (fun _ => 0))), (q_6, .inr (5, [.ref a1_10, .int 0])), (q_11, .inr (0, [.ref a1_15, .ref a2_16, .ref a3_17, .int 0, .int 0])), (a1_15, .inl (cI, 12, .inl (fun _ => 0))), (a2_16, .inl (cI, 12, .inl (fun _ => 0))), (a3_17, .inl (cI, 12, .inl (fun _ => 0))), (q_18, .inr (2, [.ref a1_22, .ref a2_23])), (a1_22, .inl (cI, 2400, .inl (fun _ => 0))), (a2_23, .inl (cI, 4, .inl (fun _ => 0))), (q_24, .inr (1, [.ref a1_28, .ref a2_29, .ref a3_30, .ref a4_31, .ref a5_32])), (a1_28, .inl (cJ, 96, .inr (.inl (fun _ => 0)))), (a2_29, .inl (cI, 96, .inl (fun _ => 0))), (a3_30, .inl (cZ, 96, .inl (fun _ => 0))), (a4_31, .inl (cI, 96, .inl (fun _ => 0))), (a5_32, .inl (cI, 6, .inl (fun _ => 0)))] := hD
  refine lv_aload_n hx hb dX6_init_76 rfl (lv_at hl 0 rfl) ?_
  refine lv_iconst (v := 0) hx hb dX6_init_77 (by decide) ?_
  refine va_put (D := D) (ci := 6) (v := .int 0) (ty := .int) (C := RX6) (T := TX6) (N := 10) hx hb hts iT_X6 tyX6 tyX6_ok nmX6 hown hK1 hP hD hS 0 rfl rfl 8 (by decide) (hts _ t_162) (fun _ h9 => h9) rfl (by decide +kernel) rfl rfl (Nat.le_of_ble_eq_true rfl) dX6_init_78 (fun H locs hP hD hS => ?_)
  have hP : va_P D vwCl [(h0, .inr (6, [.ref q_1, .ref q_6, .ref q_11, .ref q_18, .ref q_24, .int 0, .int 0, .int 0, .int 0, .int 0])), (q_1, .inr (3, [.ref a1_5, .int 0])), (a1_5, .inl (cI, 16, .inl (fun _ => 0))), (q_6, .inr (5, [.ref a1_10, .int 0])), (q_11, .inr (0, [.ref a1_15, .ref a2_16, .ref a3_17, .int 0, .int 0])), (a1_15, .inl (cI, 12, .inl (fun _ => 0))), (a2_16, .inl (cI, 12, .inl (fun _ => 0))), (a3_17, .inl (cI, 12, .inl (fun _ => 0))), (q_18, .inr (2, [.ref a1_22, .ref a2_23])), (a1_22, .inl (cI, 2400, .inl (fun _ => 0))), (a2_23, .inl (cI, 4, .inl (fun _ => 0))), (q_24, .inr (1, [.ref a1_28, .ref a2_29, .ref a3_30, .ref a4_31, .ref a5_32])), (a1_28, .inl (cJ, 96, .inr (.inl (fun _ => 0)))), (a2_29, .inl (cI, 96, .inl (fun _ => 0))), (a3_30, .inl (cZ, 96, .inl (fun _ => 0))), (a4_31, .inl (cI, 96, .inl (fun _ => 0))), (a5_32, .inl (cI, 6, .inl (fun _ => 0)))] H := hP
  have hD : va_D A [(h0, .inr (6, [.ref q_1, .ref q_6, .ref q_11, .ref q_18, .ref q_24, .int 0, .int 0, .int 0, .int 0, .int 0])), (q_1, .inr (3, [.ref a1_5, .int 0])), (a1_5, .inl (cI, 16, .inl (fun _ => 0))), (q_6, .inr (5, [.ref a1_10, .int 0])), (q_11, .inr (0, [.ref a1_15, .ref a2_16, .ref a3_17, .int 0, .int 0])), (a1_15, .inl (cI, 12, .inl (fun _ => 0))), (a2_16, .inl (cI, 12, .inl (fun _ => 0))), (a3_17, .inl (cI, 12, .inl (fun _ => 0))), (q_18, .inr (2, [.ref a1_22, .ref a2_23])), (a1_22, .inl (cI, 2400, .inl (fun _ => 0))), (a2_23, .inl (cI, 4, .inl (fun _ => 0))), (q_24, .inr (1, [.ref a1_28, .ref a2_29, .ref a3_30, .ref a4_31, .ref a5_32])), (a1_28, .inl (cJ, 96, .inr (.inl (fun _ => 0)))), (a2_29, .inl (cI, 96, .inl (fun _ => 0))), (a3_30, .inl (cZ, 96, .inl (fun _ => 0))), (a4_31, .inl (cI, 96, .inl (fun _ => 0))), (a5_32, .inl (cI, 6, .inl (fun _ => 0)))] := hD
  refine lv_aload_n hx hb dX6_init_81 rfl (lv_at hl 0 rfl) ?_
  refine lv_iconst (v := 0) hx hb dX6_init_82 (by decide) ?_
  refine va_put (D := D) (ci := 6) (v := .int 0) (ty := .int) (C := RX6) (T := TX6) (N := 10) hx hb hts iT_X6 tyX6 tyX6_ok nmX6 hown hK1 hP hD hS 0 rfl rfl 9 (by decide) (hts _ t_163) (fun _ h9 => h9) rfl (by decide +kernel) rfl rfl (Nat.le_of_ble_eq_true rfl) dX6_init_83 (fun H locs hP hD hS => ?_)
  have hP : va_P D vwCl [(h0, .inr (6, [.ref q_1, .ref q_6, .ref q_11, .ref q_18, .ref q_24, .int 0, .int 0, .int 0, .int 0, .int 0])), (q_1, .inr (3, [.ref a1_5, .int 0])), (a1_5, .inl (cI, 16, .inl (fun _ => 0))), (q_6, .inr (5, [.ref a1_10, .int 0])), (q_11, .inr (0, [.ref a1_15, .ref a2_16, .ref a3_17, .int 0, .int 0])), (a1_15, .inl (cI, 12, .inl (fun _ => 0))), (a2_16, .inl (cI, 12, .inl (fun _ => 0))), (a3_17, .inl (cI, 12, .inl (fun _ => 0))), (q_18, .inr (2, [.ref a1_22, .ref a2_23])), (a1_22, .inl (cI, 2400, .inl (fun _ => 0))), (a2_23, .inl (cI, 4, .inl (fun _ => 0))), (q_24, .inr (1, [.ref a1_28, .ref a2_29, .ref a3_30, .ref a4_31, .ref a5_32])), (a1_28, .inl (cJ, 96, .inr (.inl (fun _ => 0)))), (a2_29, .inl (cI, 96, .inl (fun _ => 0))), (a3_30, .inl (cZ, 96, .inl (fun _ => 0))), (a4_31, .inl (cI, 96, .inl (fun _ => 0))), (a5_32, .inl (cI, 6, .inl (fun _ => 0)))] H := hP
  have hD : va_D A [(h0, .inr (6, [.ref q_1, .ref q_6, .ref q_11, .ref q_18, .ref q_24, .int 0, .int 0, .int 0, .int 0, .int 0])), (q_1, .inr (3, [.ref a1_5, .int 0])), (a1_5, .inl (cI, 16, .inl (fun _ => 0))), (q_6, .inr (5, [.ref a1_10, .int 0])), (q_11, .inr (0, [.ref a1_15, .ref a2_16, .ref a3_17, .int 0, .int 0])), (a1_15, .inl (cI, 12, .inl (fun _ => 0))), (a2_16, .inl (cI, 12, .inl (fun _ => 0))), (a3_17, .inl (cI, 12, .inl (fun _ => 0))), (q_18, .inr (2, [.ref a1_22, .ref a2_23])), (a1_22, .inl (cI, 2400, .inl (fun _ => 0))), (a2_23, .inl (cI, 4, .inl (fun _ => 0))), (q_24, .inr (1, [.ref a1_28, .ref a2_29, .ref a3_30, .ref a4_31, .ref a5_32])), (a1_28, .inl (cJ, 96, .inr (.inl (fun _ => 0)))), (a2_29, .inl (cI, 96, .inl (fun _ => 0))), (a3_30, .inl (cZ, 96, .inl (fun _ => 0))), (a4_31, .inl (cI, 96, .inl (fun _ => 0))), (a5_32, .inl (cI, 6, .inl (fun _ => 0)))] := hD
  exact hret _ _ _ _ _ _ (q_1, a1_5, q_6, a1_10, q_11, a1_15, a2_16, a3_17, q_18, q_24, a1_28, a2_29, a3_30, a4_31, a5_32) dX6_init_86 hS (Nat.le_of_ble_eq_true rfl) (Nat.le_of_ble_eq_true rfl) trivial (hP.sub [0, 1, 2, 3, 4, 5, 6, 7, 11, 12, 13, 14, 15, 16] rfl) (hD.sub [0, 1, 2, 3, 4, 5, 6, 7, 11, 12, 13, 14, 15, 16] rfl rfl)
set_option maxHeartbeats 4000000 in
set_option maxRecDepth 100000 in
theorem c_X7_init (sz : Nat) (h0 : Nat)  : CTv l D cI cJ cZ cR yX7_init cX7_init 1 none 1 24 13 2654 sz [.ref h0] [(h0, .inr (7, [.int 0, .null, .int 0, .null, .null, .null, .null, .int 0, .int 0, .null, .int 0, .int 0, .int 0, .int 0, .null, .int 0, .int 0, .int 0, .int 0, .null, .null, .null, .int 0, .null, .null, .null, .long 0]))] (fun (u : Nat × Nat × Nat × Nat × Nat × Nat × Nat × Nat × Nat × Nat × Nat × Nat × Nat) => True) (fun (u : Nat × Nat × Nat × Nat × Nat × Nat × Nat × Nat × Nat × Nat × Nat × Nat × Nat) => [(h0, .inr (7, [.int 0, .ref u.1, .int 0, .ref u.2.1, .ref u.2.2.1, .ref u.2.2.2.1, .ref u.2.2.2.2.1, .int 0, .int 0, .ref u.2.2.2.2.2.1, .int 0, .int 0, .int 0, .int 0, .ref u.2.2.2.2.2.2.1, .int 0, .int 0, .int 0, .int 0, .ref u.2.2.2.2.2.2.2.1, .ref u.2.2.2.2.2.2.2.2.1, .ref u.2.2.2.2.2.2.2.2.2.1, .int 0, .ref u.2.2.2.2.2.2.2.2.2.2.1, .ref u.2.2.2.2.2.2.2.2.2.2.2.1, .ref u.2.2.2.2.2.2.2.2.2.2.2.2, .long 0])), (u.1, .inl (cI, 16, .inl (fun _ => 0))), (u.2.1, .inl (cI, 9, .inl (fun _ => 0))), (u.2.2.1, .inl (cI, 9, .inl (fun _ => 0))), (u.2.2.2.1, .inl (cI, 9, .inl (fun _ => 0))), (u.2.2.2.2.1, .inl (cI, 27, .inl (fun _ => 0))), (u.2.2.2.2.2.1, .inl (cI, 12, .inl (fun _ => 0))), (u.2.2.2.2.2.2.1, .inl (cI, 5, .inl (fun _ => 0))), (u.2.2.2.2.2.2.2.1, .inl (cI, 2400, .inl (fun _ => 0))), (u.2.2.2.2.2.2.2.2.1, .inl (cI, 32, .inl (fun _ => 0))), (u.2.2.2.2.2.2.2.2.2.1, .inl (cI, 4, .inl (fun _ => 0))), (u.2.2.2.2.2.2.2.2.2.2.1, .inl (cJ, 80, .inr (.inl (fun _ => 0)))), (u.2.2.2.2.2.2.2.2.2.2.2.1, .inl (cI, 48, .inl (fun _ => 0))), (u.2.2.2.2.2.2.2.2.2.2.2.2, .inl (cI, 3, .inl (fun _ => 0)))]) := by
  refine CTv.of (by decide) (Nat.le_of_ble_eq_true rfl) rfl ?_
  intro p e s m below meth c A Q ls hd hin hK hsz hP hD hA hS hl hret
  obtain ⟨hx, hb, hml, hown, hts⟩ := id hd
  have hK1 := hK.1
  have hown : s.vm.findClass RX7 = some m.cls := hown
  have hin : meth.name = "<init>" := hin
  have hl : lv_has ls 1 [(0, .ref h0)] := hl
  refine lv_aload_n hx hb dX7_init_0 rfl (lv_at hl 0 rfl) ?_
  refine W.objInit hx hb hown (hts _ t_550) (hts _ t_18) (hts _ t_19) rfl (by rw [hml]; exact hl.1) rfl dX7_init_1 (Nat.le_of_ble_eq_true rfl) (Nat.le_of_ble_eq_true rfl) ?_
  refine W.eq (g2 := F0 m 4 ls []) rfl ?_
  refine lv_aload_n hx hb dX7_init_4 rfl (lv_at hl 0 rfl) ?_
  refine lv_bipush (v := 16) hx hb dX7_init_5 (by decide) ?_
  refine nw_I (N' := 16) hx hb (hts _ t_35) hK hP hD hS hA (by decide) (by decide) (by decide) (Nat.le_of_ble_eq_true rfl) (Nat.le_of_ble_eq_true rfl) dX7_init_7 (fun q_1 H hP hD hS => ?_)
  have hP : va_P D vwCl [(h0, .inr (7, [.int 0, .null, .int 0, .null, .null, .null, .null, .int 0, .int 0, .null, .int 0, .int 0, .int 0, .int 0, .null, .int 0, .int 0, .int 0, .int 0, .null, .null, .null, .int 0, .null, .null, .null, .long 0])), (q_1, .inl (cI, 16, .inl (fun _ => 0)))] H := hP
  have hD : va_D A [(h0, .inr (7, [.int 0, .null, .int 0, .null, .null, .null, .null, .int 0, .int 0, .null, .int 0, .int 0, .int 0, .int 0, .null, .int 0, .int 0, .int 0, .int 0, .null, .null, .null, .int 0, .null, .null, .null, .long 0])), (q_1, .inl (cI, 16, .inl (fun _ => 0)))] := hD
  refine W.widen (k := 1) (n := 16) (Nat.le_of_ble_eq_true rfl) (Nat.le_of_ble_eq_true rfl) ?_
  refine va_putF (D := D) (ci := 7) (v := .ref q_1) (ty := (.array .int)) (C := RX7) (T := TX7) (N := 27) hx hb hts iT_X7 tyX7 tyX7_ok nmX7 hown hK1 hP hD hS 0 rfl rfl 1 (by decide) (hts _ t_552) (fun _ h9 => h9) rfl hin rfl (by decide +kernel) rfl rfl (Nat.le_of_ble_eq_true rfl) dX7_init_9 (fun H locs hP hD hS => ?_)
  have hP : va_P D vwCl [(h0, .inr (7, [.int 0, .ref q_1, .int 0, .null, .null, .null, .null, .int 0, .int 0, .null, .int 0, .int 0, .int 0, .int 0, .null, .int 0, .int 0, .int 0, .int 0, .null, .null, .null, .int 0, .null, .null, .null, .long 0])), (q_1, .inl (cI, 16, .inl (fun _ => 0)))] H := hP
  have hD : va_D A [(h0, .inr (7, [.int 0, .ref q_1, .int 0, .null, .null, .null, .null, .int 0, .int 0, .null, .int 0, .int 0, .int 0, .int 0, .null, .int 0, .int 0, .int 0, .int 0, .null, .null, .null, .int 0, .null, .null, .null, .long 0])), (q_1, .inl (cI, 16, .inl (fun _ => 0)))] := hD
  refine lv_aload_n hx hb dX7_init_12 rfl (lv_at hl 0 rfl) ?_
  refine lv_bipush (v := 9) hx hb dX7_init_13 (by decide) ?_
  refine nw_I (N' := 9) hx hb (hts _ t_35) hK hP hD hS hA (by decide) (by decide) (by decide) (Nat.le_of_ble_eq_true rfl) (Nat.le_of_ble_eq_true rfl) dX7_init_15 (fun q_2 H hP hD hS => ?_)
  have hP : va_P D vwCl [(h0, .inr (7, [.int 0, .ref q_1, .int 0, .null, .null, .null, .null, .int 0, .int 0, .null, .int 0, .int 0, .int 0, .int 0, .null, .int 0, .int 0, .int 0, .int 0, .null, .null, .null, .int 0, .null, .null, .null, .long 0])), (q_1, .inl (cI, 16, .inl (fun _ => 0))), (q_2, .inl (cI, 9, .inl (fun _ => 0)))] H := hP
  have hD : va_D A [(h0, .inr (7, [.int 0, .ref q_1, .int 0, .null, .null, .null, .null, .int 0, .int 0, .null, .int 0, .int 0, .int 0, .int 0, .null, .int 0, .int 0, .int 0, .int 0, .null, .null, .null, .int 0, .null, .null, .null, .long 0])), (q_1, .inl (cI, 16, .inl (fun _ => 0))), (q_2, .inl (cI, 9, .inl (fun _ => 0)))] := hD
  refine W.widen (k := 2) (n := 25) (Nat.le_of_ble_eq_true rfl) (Nat.le_of_ble_eq_true rfl) ?_
  refine va_putF (D := D) (ci := 7) (v := .ref q_2) (ty := (.array .int)) (C := RX7) (T := TX7) (N := 27) hx hb hts iT_X7 tyX7 tyX7_ok nmX7 hown hK1 hP hD hS 0 rfl rfl 3 (by decide) (hts _ t_554) (fun _ h9 => h9) rfl hin rfl (by decide +kernel) rfl rfl (Nat.le_of_ble_eq_true rfl) dX7_init_17 (fun H locs hP hD hS => ?_)
  have hP : va_P D vwCl [(h0, .inr (7, [.int 0, .ref q_1, .int 0, .ref q_2, .null, .null, .null, .int 0, .int 0, .null, .int 0, .int 0, .int 0, .int 0, .null, .int 0, .int 0, .int 0, .int 0, .null, .null, .null, .int 0, .null, .null, .null, .long 0])), (q_1, .inl (cI, 16, .inl (fun _ => 0))), (q_2, .inl (cI, 9, .inl (fun _ => 0)))] H := hP
  have hD : va_D A [(h0, .inr (7, [.int 0, .ref q_1, .int 0, .ref q_2, .null, .null, .null, .int 0, .int 0, .null, .int 0, .int 0, .int 0, .int 0, .null, .int 0, .int 0, .int 0, .int 0, .null, .null, .null, .int 0, .null, .null, .null, .long 0])), (q_1, .inl (cI, 16, .inl (fun _ => 0))), (q_2, .inl (cI, 9, .inl (fun _ => 0)))] := hD
  refine lv_aload_n hx hb dX7_init_20 rfl (lv_at hl 0 rfl) ?_
  refine lv_bipush (v := 9) hx hb dX7_init_21 (by decide) ?_
  refine nw_I (N' := 9) hx hb (hts _ t_35) hK hP hD hS hA (by decide) (by decide) (by decide) (Nat.le_of_ble_eq_true rfl) (Nat.le_of_ble_eq_true rfl) dX7_init_23 (fun q_3 H hP hD hS => ?_)
  have hP : va_P D vwCl [(h0, .inr (7, [.int 0, .ref q_1, .int 0, .ref q_2, .null, .null, .null, .int 0, .int 0, .null, .int 0, .int 0, .int 0, .int 0, .null, .int 0, .int 0, .int 0, .int 0, .null, .null, .null, .int 0, .null, .null, .null, .long 0])), (q_1, .inl (cI, 16, .inl (fun _ => 0))), (q_2, .inl (cI, 9, .inl (fun _ => 0))), (q_3, .inl (cI, 9, .inl (fun _ => 0)))] H := hP
  have hD : va_D A [(h0, .inr (7, [.int 0, .ref q_1, .int 0, .ref q_2, .null, .null, .null, .int 0, .int 0, .null, .int 0, .int 0, .int 0, .int 0, .null, .int 0, .int 0, .int 0, .int 0, .null, .null, .null, .int 0, .null, .null, .null, .long 0])), (q_1, .inl (cI, 16, .inl (fun _ => 0))), (q_2, .inl (cI, 9, .inl (fun _ => 0))), (q_3, .inl (cI, 9, .inl (fun _ => 0)))] := hD
  refine W.widen (k := 3) (n := 34) (Nat.le_of_ble_eq_true rfl) (Nat.le_of_ble_eq_true rfl) ?_
  refine va_putF (D := D) (ci := 7) (v := .ref q_3) (ty := (.array .int)) (C := RX7) (T := TX7) (N := 27) hx hb hts iT_X7 tyX7 tyX7_ok nmX7 hown hK1 hP hD hS 0 rfl rfl 4 (by decide) (hts _ t_555) (fun _ h9 => h9) rfl hin rfl (by decide +kernel) rfl rfl (Nat.le_of_ble_eq_true rfl) dX7_init_25 (fun H locs hP hD hS => ?_)
  have hP : va_P D vwCl [(h0, .inr (7, [.int 0, .ref q_1, .int 0, .ref q_2, .ref q_3, .null, .null, .int 0, .int 0, .null, .int 0, .int 0, .int 0, .int 0, .null, .int 0, .int 0, .int 0, .int 0, .null, .null, .null, .int 0, .null, .null, .null, .long 0])), (q_1, .inl (cI, 16, .inl (fun _ => 0))), (q_2, .inl (cI, 9, .inl (fun _ => 0))), (q_3, .inl (cI, 9, .inl (fun _ => 0)))] H := hP
  have hD : va_D A [(h0, .inr (7, [.int 0, .ref q_1, .int 0, .ref q_2, .ref q_3, .null, .null, .int 0, .int 0, .null, .int 0, .int 0, .int 0, .int 0, .null, .int 0, .int 0, .int 0, .int 0, .null, .null, .null, .int 0, .null, .null, .null, .long 0])), (q_1, .inl (cI, 16, .inl (fun _ => 0))), (q_2, .inl (cI, 9, .inl (fun _ => 0))), (q_3, .inl (cI, 9, .inl (fun _ => 0)))] := hD
  refine lv_aload_n hx hb dX7_init_28 rfl (lv_at hl 0 rfl) ?_
  refine lv_bipush (v := 9) hx hb dX7_init_29 (by decide) ?_
  refine nw_I (N' := 9) hx hb (hts _ t_35) hK hP hD hS hA (by decide) (by decide) (by decide) (Nat.le_of_ble_eq_true rfl) (Nat.le_of_ble_eq_true rfl) dX7_init_31 (fun q_4 H hP hD hS => ?_)
  have hP : va_P D vwCl [(h0, .inr (7, [.int 0, .ref q_1, .int 0, .ref q_2, .ref q_3, .null, .null, .int 0, .int 0, .null, .int 0, .int 0, .int 0, .int 0, .null, .int 0, .int 0, .int 0, .int 0, .null, .null, .null, .int 0, .null, .null, .null, .long 0])), (q_1, .inl (cI, 16, .inl (fun _ => 0))), (q_2, .inl (cI, 9, .inl (fun _ => 0))), (q_3, .inl (cI, 9, .inl (fun _ => 0))), (q_4, .inl (cI, 9, .inl (fun _ => 0)))] H := hP
  have hD : va_D A [(h0, .inr (7, [.int 0, .ref q_1, .int 0, .ref q_2, .ref q_3, .null, .null, .int 0, .int 0, .null, .int 0, .int 0, .int 0, .int 0, .null, .int 0, .int 0, .int 0, .int 0, .null, .null, .null, .int 0, .null, .null, .null, .long 0])), (q_1, .inl (cI, 16, .inl (fun _ => 0))), (q_2, .inl (cI, 9, .inl (fun _ => 0))), (q_3, .inl (cI, 9, .inl (fun _ => 0))), (q_4, .inl (cI, 9, .inl (fun _ => 0)))] := hD
  refine W.widen (k := 4) (n := 43) (Nat.le_of_ble_eq_true rfl) (Nat.le_of_ble_eq_true rfl) ?_
  refine va_putF (D := D) (ci := 7) (v := .ref q_4) (ty := (.array .int)) (C := RX7) (T := TX7) (N := 27) hx hb hts iT_X7 tyX7 tyX7_ok nmX7 hown hK1 hP hD hS 0 rfl rfl 5 (by decide) (hts _ t_556) (fun _ h9 => h9) rfl hin rfl (by decide +kernel) rfl rfl (Nat.le_of_ble_eq_true rfl) dX7_init_33 (fun H locs hP hD hS => ?_)
  have hP : va_P D vwCl [(h0, .inr (7, [.int 0, .ref q_1, .int 0, .ref q_2, .ref q_3, .ref q_4, .null, .int 0, .int 0, .null, .int 0, .int 0, .int 0, .int 0, .null, .int 0, .int 0, .int 0, .int 0, .null, .null, .null, .int 0, .null, .null, .null, .long 0])), (q_1, .inl (cI, 16, .inl (fun _ => 0))), (q_2, .inl (cI, 9, .inl (fun _ => 0))), (q_3, .inl (cI, 9, .inl (fun _ => 0))), (q_4, .inl (cI, 9, .inl (fun _ => 0)))] H := hP
  have hD : va_D A [(h0, .inr (7, [.int 0, .ref q_1, .int 0, .ref q_2, .ref q_3, .ref q_4, .null, .int 0, .int 0, .null, .int 0, .int 0, .int 0, .int 0, .null, .int 0, .int 0, .int 0, .int 0, .null, .null, .null, .int 0, .null, .null, .null, .long 0])), (q_1, .inl (cI, 16, .inl (fun _ => 0))), (q_2, .inl (cI, 9, .inl (fun _ => 0))), (q_3, .inl (cI, 9, .inl (fun _ => 0))), (q_4, .inl (cI, 9, .inl (fun _ => 0)))] := hD
  refine lv_aload_n hx hb dX7_init_36 rfl (lv_at hl 0 rfl) ?_
  refine lv_bipush (v := 27) hx hb dX7_init_37 (by decide) ?_
  refine nw_I (N' := 27) hx hb (hts _ t_35) hK hP hD hS hA (by decide) (by decide) (by decide) (Nat.le_of_ble_eq_true rfl) (Nat.le_of_ble_eq_true rfl) dX7_init_39 (fun q_5 H hP hD hS => ?_)
  have hP : va_P D vwCl [(h0, .inr (7, [.int 0, .ref q_1, .int 0, .ref q_2, .ref q_3, .ref q_4, .null, .int 0, .int 0, .null, .int 0, .int 0, .int 0, .int 0, .null, .int 0, .int 0, .int 0, .int 0, .null, .null, .null, .int 0, .null, .null, .null, .long 0])), (q_1, .inl (cI, 16, .inl (fun _ => 0))), (q_2, .inl (cI, 9, .inl (fun _ => 0))), (q_3, .inl (cI, 9, .inl (fun _ => 0))), (q_4, .inl (cI, 9, .inl (fun _ => 0))), (q_5, .inl (cI, 27, .inl (fun _ => 0)))] H := hP
  have hD : va_D A [(h0, .inr (7, [.int 0, .ref q_1, .int 0, .ref q_2, .ref q_3, .ref q_4, .null, .int 0, .int 0, .null, .int 0, .int 0, .int 0, .int 0, .null, .int 0, .int 0, .int 0, .int 0, .null, .null, .null, .int 0, .null, .null, .null, .long 0])), (q_1, .inl (cI, 16, .inl (fun _ => 0))), (q_2, .inl (cI, 9, .inl (fun _ => 0))), (q_3, .inl (cI, 9, .inl (fun _ => 0))), (q_4, .inl (cI, 9, .inl (fun _ => 0))), (q_5, .inl (cI, 27, .inl (fun _ => 0)))] := hD
  refine W.widen (k := 5) (n := 70) (Nat.le_of_ble_eq_true rfl) (Nat.le_of_ble_eq_true rfl) ?_
  refine va_putF (D := D) (ci := 7) (v := .ref q_5) (ty := (.array .int)) (C := RX7) (T := TX7) (N := 27) hx hb hts iT_X7 tyX7 tyX7_ok nmX7 hown hK1 hP hD hS 0 rfl rfl 6 (by decide) (hts _ t_557) (fun _ h9 => h9) rfl hin rfl (by decide +kernel) rfl rfl (Nat.le_of_ble_eq_true rfl) dX7_init_41 (fun H locs hP hD hS => ?_)
  have hP : va_P D vwCl [(h0, .inr (7, [.int 0, .ref q_1, .int 0, .ref q_2, .ref q_3, .ref q_4, .ref q_5, .int 0, .int 0, .null, .int 0, .int 0, .int 0, .int 0, .null, .int 0, .int 0, .int 0, .int 0, .null, .null, .null, .int 0, .null, .null, .null, .long 0])), (q_1, .inl (cI, 16, .inl (fun _ => 0))), (q_2, .inl (cI, 9, .inl (fun _ => 0))), (q_3, .inl (cI, 9, .inl (fun _ => 0))), (q_4, .inl (cI, 9, .inl (fun _ => 0))), (q_5, .inl (cI, 27, .inl (fun _ => 0)))] H := hP
  have hD : va_D A [(h0, .inr (7, [.int 0, .ref q_1, .int 0, .ref q_2, .ref q_3, .ref q_4, .ref q_5, .int 0, .int 0, .null, .int 0, .int 0, .int 0, .int 0, .null, .int 0, .int 0, .int 0, .int 0, .null, .null, .null, .int 0, .null, .null, .null, .long 0])), (q_1, .inl (cI, 16, .inl (fun _ => 0))), (q_2, .inl (cI, 9, .inl (fun _ => 0))), (q_3, .inl (cI, 9, .inl (fun _ => 0))), (q_4, .inl (cI, 9, .inl (fun _ => 0))), (q_5, .inl (cI, 27, .inl (fun _ => 0)))] := hD
  refine lv_aload_n hx hb dX7_init_44 rfl (lv_at hl 0 rfl) ?_
  refine lv_bipush (v := 12) hx hb dX7_init_45 (by decide) ?_
  refine nw_I (N' := 12) hx hb (hts _ t_35) hK hP hD hS hA (by decide) (by decide) (by decide) (Nat.le_of_ble_eq_true rfl) (Nat.le_of_ble_eq_true rfl) dX7_init_47 (fun q_6 H hP hD hS => ?_)
  have hP : va_P D vwCl [(h0, .inr (7, [.int 0, .ref q_1, .int 0, .ref q_2, .ref q_3, .ref q_4, .ref q_5, .int 0, .int 0, .null, .int 0, .int 0, .int 0, .int 0, .null, .int 0, .int 0, .int 0, .int 0, .null, .null, .null, .int 0, .null, .null, .null, .long 0])), (q_1, .inl (cI, 16, .inl (fun _ => 0))), (q_2, .inl (cI, 9, .inl (fun _ => 0))), (q_3, .inl (cI, 9, .inl (fun _ => 0))), (q_4, .inl (cI, 9, .inl (fun _ => 0))), (q_5, .inl (cI, 27, .inl (fun _ => 0))), (q_6, .inl (cI, 12, .inl (fun _ => 0)))] H := hP
  have hD : va_D A [(h0, .inr (7, [.int 0, .ref q_1, .int 0, .ref q_2, .ref q_3, .ref q_4, .ref q_5, .int 0, .int 0, .null, .int 0, .int 0, .int 0, .int 0, .null, .int 0, .int 0, .int 0, .int 0, .null, .null, .null, .int 0, .null, .null, .null, .long 0])), (q_1, .inl (cI, 16, .inl (fun _ => 0))), (q_2, .inl (cI, 9, .inl (fun _ => 0))), (q_3, .inl (cI, 9, .inl (fun _ => 0))), (q_4, .inl (cI, 9, .inl (fun _ => 0))), (q_5, .inl (cI, 27, .inl (fun _ => 0))), (q_6, .inl (cI, 12, .inl (fun _ => 0)))] := hD
  refine W.widen (k := 6) (n := 82) (Nat.le_of_ble_eq_true rfl) (Nat.le_of_ble_eq_true rfl) ?_
  refine va_putF (D := D) (ci := 7) (v := .ref q_6) (ty := (.array .int)) (C := RX7) (T := TX7) (N := 27) hx hb hts iT_X7 tyX7 tyX7_ok nmX7 hown hK1 hP hD hS 0 rfl rfl 9 (by decide) (hts _ t_560) (fun _ h9 => h9) rfl hin rfl (by decide +kernel) rfl rfl (Nat.le_of_ble_eq_true rfl) dX7_init_49 (fun H locs hP hD hS => ?_)
  have hP : va_P D vwCl [(h0, .inr (7, [.int 0, .ref q_1, .int 0, .ref q_2, .ref q_3, .ref q_4, .ref q_5, .int 0, .int 0, .ref q_6, .int 0, .int 0, .int 0, .int 0, .null, .int 0, .int 0, .int 0, .int 0, .null, .null, .null, .int 0, .null, .null, .null, .long 0])), (q_1, .inl (cI, 16, .inl (fun _ => 0))), (q_2, .inl (cI, 9, .inl (fun _ => 0))), (q_3, .inl (cI, 9, .inl (fun _ => 0))), (q_4, .inl (cI, 9, .inl (fun _ => 0))), (q_5, .inl (cI, 27, .inl (fun _ => 0))), (q_6, .inl (cI, 12, .inl (fun _ => 0)))] H := hP
  have hD : va_D A [(h0, .inr (7, [.int 0, .ref q_1, .int 0, .ref q_2, .ref q_3, .ref q_4, .ref q_5, .int 0, .int 0, .ref q_6, .int 0, .int 0, .int 0, .int 0, .null, .int 0, .int 0, .int 0, .int 0, .null, .null, .null, .int 0, .null, .null, .null, .long 0])), (q_1, .inl (cI, 16, .inl (fun _ => 0))), (q_2, .inl (cI, 9, .inl (fun _ => 0))), (q_3, .inl (cI, 9, .inl (fun _ => 0))), (q_4, .inl (cI, 9, .inl (fun _ => 0))), (q_5, .inl (cI, 27, .inl (fun _ => 0))), (q_6, .inl (cI, 12, .inl (fun _ => 0)))] := hD
  refine lv_aload_n hx hb dX7_init_52 rfl (lv_at hl 0 rfl) ?_
  refine lv_iconst (v := 5) hx hb dX7_init_53 (by decide) ?_
  refine nw_I (N' := 5) hx hb (hts _ t_35) hK hP hD hS hA (by decide) (by decide) (by decide) (Nat.le_of_ble_eq_true rfl) (Nat.le_of_ble_eq_true rfl) dX7_init_54 (fun q_7 H hP hD hS => ?_)
  have hP : va_P D vwCl [(h0, .inr (7, [.int 0, .ref q_1, .int 0, .ref q_2, .ref q_3, .ref q_4, .ref q_5, .int 0, .int 0, .ref q_6, .int 0, .int 0, .int 0, .int 0, .null, .int 0, .int 0, .int 0, .int 0, .null, .null, .null, .int 0, .null, .null, .null, .long 0])), (q_1, .inl (cI, 16, .inl (fun _ => 0))), (q_2, .inl (cI, 9, .inl (fun _ => 0))), (q_3, .inl (cI, 9, .inl (fun _ => 0))), (q_4, .inl (cI, 9, .inl (fun _ => 0))), (q_5, .inl (cI, 27, .inl (fun _ => 0))), (q_6, .inl (cI, 12, .inl (fun _ => 0))), (q_7, .inl (cI, 5, .inl (fun _ => 0)))] H := hP
  have hD : va_D A [(h0, .inr (7, [.int 0, .ref q_1, .int 0, .ref q_2, .ref q_3, .ref q_4, .ref q_5, .int 0, .int 0, .ref q_6, .int 0, .int 0, .int 0, .int 0, .null, .int 0, .int 0, .int 0, .int 0, .null, .null, .null, .int 0, .null, .null, .null, .long 0])), (q_1, .inl (cI, 16, .inl (fun _ => 0))), (q_2, .inl (cI, 9, .inl (fun _ => 0))), (q_3, .inl (cI, 9, .inl (fun _ => 0))), (q_4, .inl (cI, 9, .inl (fun _ => 0))), (q_5, .inl (cI, 27, .inl (fun _ => 0))), (q_6, .inl (cI, 12, .inl (fun _ => 0))), (q_7, .inl (cI, 5, .inl (fun _ => 0)))] := hD
  refine W.widen (k := 7) (n := 87) (Nat.le_of_ble_eq_true rfl) (Nat.le_of_ble_eq_true rfl) ?_
  refine va_putF (D := D) (ci := 7) (v := .ref q_7) (ty := (.array .int)) (C := RX7) (T := TX7) (N := 27) hx hb hts iT_X7 tyX7 tyX7_ok nmX7 hown hK1 hP hD hS 0 rfl rfl 14 (by decide) (hts _ t_565) (fun _ h9 => h9) rfl hin rfl (by decide +kernel) rfl rfl (Nat.le_of_ble_eq_true rfl) dX7_init_56 (fun H locs hP hD hS => ?_)
  have hP : va_P D vwCl [(h0, .inr (7, [.int 0, .ref q_1, .int 0, .ref q_2, .ref q_3, .ref q_4, .ref q_5, .int 0, .int 0, .ref q_6, .int 0, .int 0, .int 0, .int 0, .ref q_7, .int 0, .int 0, .int 0, .int 0, .null, .null, .null, .int 0, .null, .null, .null, .long 0])), (q_1, .inl (cI, 16, .inl (fun _ => 0))), (q_2, .inl (cI, 9, .inl (fun _ => 0))), (q_3, .inl (cI, 9, .inl (fun _ => 0))), (q_4, .inl (cI, 9, .inl (fun _ => 0))), (q_5, .inl (cI, 27, .inl (fun _ => 0))), (q_6, .inl (cI, 12, .inl (fun _ => 0))), (q_7, .inl (cI, 5, .inl (fun _ => 0)))] H := hP
  have hD : va_D A [(h0, .inr (7, [.int 0, .ref q_1, .int 0, .ref q_2, .ref q_3, .ref q_4, .ref q_5, .int 0, .int 0, .ref q_6, .int 0, .int 0, .int 0, .int 0, .ref q_7, .int 0, .int 0, .int 0, .int 0, .null, .null, .null, .int 0, .null, .null, .null, .long 0])), (q_1, .inl (cI, 16, .inl (fun _ => 0))), (q_2, .inl (cI, 9, .inl (fun _ => 0))), (q_3, .inl (cI, 9, .inl (fun _ => 0))), (q_4, .inl (cI, 9, .inl (fun _ => 0))), (q_5, .inl (cI, 27, .inl (fun _ => 0))), (q_6, .inl (cI, 12, .inl (fun _ => 0))), (q_7, .inl (cI, 5, .inl (fun _ => 0)))] := hD
  refine lv_aload_n hx hb dX7_init_59 rfl (lv_at hl 0 rfl) ?_
  refine lv_sipush (v := 2400) hx hb dX7_init_60 (by decide) ?_
  refine nw_I (N' := 2400) hx hb (hts _ t_35) hK hP hD hS hA (by decide) (by decide) (by decide) (Nat.le_of_ble_eq_true rfl) (Nat.le_of_ble_eq_true rfl) dX7_init_63 (fun q_8 H hP hD hS => ?_)
  have hP : va_P D vwCl [(h0, .inr (7, [.int 0, .ref q_1, .int 0, .ref q_2, .ref q_3, .ref q_4, .ref q_5, .int 0, .int 0, .ref q_6, .int 0, .int 0, .int 0, .int 0, .ref q_7, .int 0, .int 0, .int 0, .int 0, .null, .null, .null, .int 0, .null, .null, .null, .long 0])), (q_1, .inl (cI, 16, .inl (fun _ => 0))), (q_2, .inl (cI, 9, .inl (fun _ => 0))), (q_3, .inl (cI, 9, .inl (fun _ => 0))), (q_4, .inl (cI, 9, .inl (fun _ => 0))), (q_5, .inl (cI, 27, .inl (fun _ => 0))), (q_6, .inl (cI, 12, .inl (fun _ => 0))), (q_7, .inl (cI, 5, .inl (fun _ => 0))), (q_8, .inl (cI, 2400, .inl (fun _ => 0)))] H := hP
  have hD : va_D A [(h0, .inr (7, [.int 0, .ref q_1, .int 0, .ref q_2, .ref q_3, .ref q_4, .ref q_5, .int 0, .int 0, .ref q_6, .int 0, .int 0, .int 0, .int 0, .ref q_7, .int 0, .int 0, .int 0, .int 0, .null, .null, .null, .int 0, .null, .null, .null, .long 0])), (q_1, .inl (cI, 16, .inl (fun _ => 0))), (q_2, .inl (cI, 9, .inl (fun _ => 0))), (q_3, .inl (cI, 9, .inl (fun _ => 0))), (q_4, .inl (cI, 9, .inl (fun _ => 0))), (q_5, .inl (cI, 27, .inl (fun _ => 0))), (q_6, .inl (cI, 12, .inl (fun _ => 0))), (q_7, .inl (cI, 5, .inl (fun _ => 0))), (q_8, .inl (cI, 2400, .inl (fun _ => 0)))] := hD
  refine W.widen (k := 8) (n := 2487) (Nat.le_of_ble_eq_true rfl) (Nat.le_of_ble_eq_true rfl) ?_
  refine va_putF (D := D) (ci := 7) (v := .ref q_8) (ty := (.array .int)) (C := RX7) (T := TX7) (N := 27) hx hb hts iT_X7 tyX7 tyX7_ok nmX7 hown hK1 hP hD hS 0 rfl rfl 19 (by decide) (hts _ t_570) (fun _ h9 => h9) rfl hin rfl (by decide +kernel) rfl rfl (Nat.le_of_ble_eq_true rfl) dX7_init_65 (fun H locs hP hD hS => ?_)
  have hP : va_P D vwCl [(h0, .inr (7, [.int 0, .ref q_1, .int 0, .ref q_2, .ref q_3, .ref q_4, .ref q_5, .int 0, .int 0, .ref q_6, .int 0, .int 0, .int 0, .int 0, .ref q_7, .int 0, .int 0, .int 0, .int 0, .ref q_8, .null, .null, .int 0, .null, .null, .null, .long 0])), (q_1, .inl (cI, 16, .inl (fun _ => 0))), (q_2, .inl (cI, 9, .inl (fun _ => 0))), (q_3, .inl (cI, 9, .inl (fun _ => 0))), (q_4, .inl (cI, 9, .inl (fun _ => 0))), (q_5, .inl (cI, 27, .inl (fun _ => 0))), (q_6, .inl (cI, 12, .inl (fun _ => 0))), (q_7, .inl (cI, 5, .inl (fun _ => 0))), (q_8, .inl (cI, 2400, .inl (fun _ => 0)))] H := hP
  have hD : va_D A [(h0, .inr (7, [.int 0, .ref q_1, .int 0, .ref q_2, .ref q_3, .ref q_4, .ref q_5, .int 0, .int 0, .ref q_6, .int 0, .int 0, .int 0, .int 0, .ref q_7, .int 0, .int 0, .int 0, .int 0, .ref q_8, .null, .null, .int 0, .null, .null, .null, .long 0])), (q_1, .inl (cI, 16, .inl (fun _ => 0))), (q_2, .inl (cI, 9, .inl (fun _ => 0))), (q_3, .inl (cI, 9, .inl (fun _ => 0))), (q_4, .inl (cI, 9, .inl (fun _ => 0))), (q_5, .inl (cI, 27, .inl (fun _ => 0))), (q_6, .inl (cI, 12, .inl (fun _ => 0))), (q_7, .inl (cI, 5, .inl (fun _ => 0))), (q_8, .inl (cI, 2400, .inl (fun _ => 0)))] := hD
  refine lv_aload_n hx hb dX7_init_68 rfl (lv_at hl 0 rfl) ?_
  refine lv_bipush (v := 32) hx hb dX7_init_69 (by decide) ?_
  refine nw_I (N' := 32) hx hb (hts _ t_35) hK hP hD hS hA (by decide) (by decide) (by decide) (Nat.le_of_ble_eq_true rfl) (Nat.le_of_ble_eq_true rfl) dX7_init_71 (fun q_9 H hP hD hS => ?_)
  have hP : va_P D vwCl [(h0, .inr (7, [.int 0, .ref q_1, .int 0, .ref q_2, .ref q_3, .ref q_4, .ref q_5, .int 0, .int 0, .ref q_6, .int 0, .int 0, .int 0, .int 0, .ref q_7, .int 0, .int 0, .int 0, .int 0, .ref q_8, .null, .null, .int 0, .null, .null, .null, .long 0])), (q_1, .inl (cI, 16, .inl (fun _ => 0))), (q_2, .inl (cI, 9, .inl (fun _ => 0))), (q_3, .inl (cI, 9, .inl (fun _ => 0))), (q_4, .inl (cI, 9, .inl (fun _ => 0))), (q_5, .inl (cI, 27, .inl (fun _ => 0))), (q_6, .inl (cI, 12, .inl (fun _ => 0))), (q_7, .inl (cI, 5, .inl (fun _ => 0))), (q_8, .inl (cI, 2400, .inl (fun _ => 0))), (q_9, .inl (cI, 32, .inl (fun _ => 0)))] H := hP
  have hD : va_D A [(h0, .inr (7, [.int 0, .ref q_1, .int 0, .ref q_2, .ref q_3, .ref q_4, .ref q_5, .int 0, .int 0, .ref q_6, .int 0, .int 0, .int 0, .int 0, .ref q_7, .int 0, .int 0, .int 0, .int 0, .ref q_8, .null, .null, .int 0, .null, .null, .null, .long 0])), (q_1, .inl (cI, 16, .inl (fun _ => 0))), (q_2, .inl (cI, 9, .inl (fun _ => 0))), (q_3, .inl (cI, 9, .inl (fun _ => 0))), (q_4, .inl (cI, 9, .inl (fun _ => 0))), (q_5, .inl (cI, 27, .inl (fun _ => 0))), (q_6, .inl (cI, 12, .inl (fun _ => 0))), (q_7, .inl (cI, 5, .inl (fun _ => 0))), (q_8, .inl (cI, 2400, .inl (fun _ => 0))), (q_9, .inl (cI, 32, .inl (fun _ => 0)))] := hD
  refine W.widen (k := 9) (n := 2519) (Nat.le_of_ble_eq_true rfl) (Nat.le_of_ble_eq_true rfl) ?_
  refine va_putF (D := D) (ci := 7) (v := .ref q_9) (ty := (.array .int)) (C := RX7) (T := TX7) (N := 27) hx hb hts iT_X7 tyX7 tyX7_ok nmX7 hown hK1 hP hD hS 0 rfl rfl 20 (by decide) (hts _ t_571) (fun _ h9 => h9) rfl hin rfl (by decide +kernel) rfl rfl (Nat.le_of_ble_eq_true rfl) dX7_init_73 (fun H locs hP hD hS => ?_)
  have hP : va_P D vwCl [(h0, .inr (7, [.int 0, .ref q_1, .int 0, .ref q_2, .ref q_3, .ref q_4, .ref q_5, .int 0, .int 0, .ref q_6, .int 0, .int 0, .int 0, .int 0, .ref q_7, .int 0, .int 0, .int 0, .int 0, .ref q_8, .ref q_9, .null, .int 0, .null, .null, .null, .long 0])), (q_1, .inl (cI, 16, .inl (fun _ => 0))), (q_2, .inl (cI, 9, .inl (fun _ => 0))), (q_3, .inl (cI, 9, .inl (fun _ => 0))), (q_4, .inl (cI, 9, .inl (fun _ => 0))), (q_5, .inl (cI, 27, .inl (fun _ => 0))), (q_6, .inl (cI, 12, .inl (fun _ => 0))), (q_7, .inl (cI, 5, .inl (fun _ => 0))), (q_8, .inl (cI, 2400, .inl (fun _ => 0))), (q_9, .inl (cI, 32, .inl (fun _ => 0)))] H := hP
  have hD : va_D A [(h0, .inr (7, [.int 0, .ref q_1, .int 0, .ref q_2, .ref q_3, .ref q_4, .ref q_5, .int 0, .int 0, .ref q_6, .int 0, .int 0, .int 0, .int 0, .ref q_7, .int 0, .int 0, .int 0, .int 0, .ref q_8, .ref q_9, .null, .int 0, .null, .null, .null, .long 0])), (q_1, .inl (cI, 16, .inl (fun _ => 0))), (q_2, .inl (cI, 9, .inl (fun _ => 0))), (q_3, .inl (cI, 9, .inl (fun _ => 0))), (q_4, .inl (cI, 9, .inl (fun _ => 0))), (q_5, .inl (cI, 27, .inl (fun _ => 0))), (q_6, .inl (cI, 12, .inl (fun _ => 0))), (q_7, .inl (cI, 5, .inl (fun _ => 0))), (q_8, .inl (cI, 2400, .inl (fun _ => 0))), (q_9, .inl (cI, 32, .inl (fun _ => 0)))] := hD
  refine lv_aload_n hx hb dX7_init_76 rfl (lv_at hl 0 rfl) ?_
  refine lv_iconst (v := 4) hx hb dX7_init_77 (by decide) ?_
  refine nw_I (N' := 4) hx hb (hts _ t_35) hK hP hD hS hA (by decide) (by decide) (by decide) (Nat.le_of_ble_eq_true rfl) (Nat.le_of_ble_eq_true rfl) dX7_init_78 (fun q_10 H hP hD hS => ?_)
  have hP : va_P D vwCl [(h0, .inr (7, [.int 0, .ref q_1, .int 0, .ref q_2, .ref q_3, .ref q_4, .ref q_5, .int 0, .int 0, .ref q_6, .int 0, .int 0, .int 0, .int 0, .ref q_7, .int 0, .int 0, .int 0, .int 0, .ref q_8, .ref q_9, .null, .int 0, .null, .null, .null, .long 0])), (q_1, .inl (cI, 16, .inl (fun _ => 0))), (q_2, .inl (cI, 9, .inl (fun _ => 0))), (q_3, .inl (cI, 9, .inl (fun _ => 0))), (q_4, .inl (cI, 9, .inl (fun _ => 0))), (q_5, .inl (cI, 27, .inl (fun _ => 0))), (q_6, .inl (cI, 12, .inl (fun _ => 0))), (q_7, .inl (cI, 5, .inl (fun _ => 0))), (q_8, .inl (cI, 2400, .inl (fun _ => 0))), (q_9, .inl (cI, 32, .inl (fun _ => 0))), (q_10, .inl (cI, 4, .inl (fun _ => 0)))] H := hP
  have hD : va_D A [(h0, .inr (7, [.int 0, .ref q_1, .int 0, .ref q_2, .ref q_3, .ref q_4, .ref q_5, .int 0, .int 0, .ref q_6, .int 0, .int 0, .int 0, .int 0, .ref q_7, .int 0, .int 0, .int 0, .int 0, .ref q_8, .ref q_9, .null, .int 0, .null, .null, .null, .long 0])), (q_1, .inl (cI, 16, .inl (fun _ => 0))), (q_2, .inl (cI, 9, .inl (fun _ => 0))), (q_3, .inl (cI, 9, .inl (fun _ => 0))), (q_4, .inl (cI, 9, .inl (fun _ => 0))), (q_5, .inl (cI, 27, .inl (fun _ => 0))), (q_6, .inl (cI, 12, .inl (fun _ => 0))), (q_7, .inl (cI, 5, .inl (fun _ => 0))), (q_8, .inl (cI, 2400, .inl (fun _ => 0))), (q_9, .inl (cI, 32, .inl (fun _ => 0))), (q_10, .inl (cI, 4, .inl (fun _ => 0)))] := hD
  refine W.widen (k := 10) (n := 2523) (Nat.le_of_ble_eq_true rfl) (Nat.le_of_ble_eq_true rfl) ?_
  refine va_putF (D := D) (ci := 7) (v := .ref q_10) (ty := (.array .int)) (C := RX7) (T := TX7) (N := 27) hx hb hts iT_X7 tyX7 tyX7_ok nmX7 hown hK1 hP hD hS 0 rfl rfl 21 (by decide) (hts _ t_572) (fun _ h9 => h9) rfl hin rfl (by decide +kernel) rfl rfl (Nat.le_of_ble_eq_true rfl) dX7_init_80 (fun H locs hP hD hS => ?_)
  have hP : va_P D vwCl [(h0, .inr (7, [.int 0, .ref q_1, .int 0, .ref q_2, .ref q_3, .ref q_4, .ref q_5, .int 0, .int 0, .ref q_6, .int 0, .int 0, .int 0, .int 0, .ref q_7, .int 0, .int 0, .int 0, .int 0, .ref q_8, .ref q_9, .ref q_10, .int 0, .null, .null, .null, .long 0])), (q_1, .inl (cI, 16, .inl (fun _ => 0))), (q_2, .inl (cI, 9, .inl (fun _ => 0))), (q_3, .inl (cI, 9, .inl (fun _ => 0))), (q_4, .inl (cI, 9, .inl (fun _ => 0))), (q_5, .inl (cI, 27, .inl (fun _ => 0))), (q_6, .inl (cI, 12, .inl (fun _ => 0))), (q_7, .inl (cI, 5, .inl (fun _ => 0))), (q_8, .inl (cI, 2400, .inl (fun _ => 0))), (q_9, .inl (cI, 32, .inl (fun _ => 0))), (q_10, .inl (cI, 4, .inl (fun _ => 0)))] H := hP
  have hD : va_D A [(h0, .inr (7, [.int 0, .ref q_1, .int 0, .ref q_2, .ref q_3, .ref q_4, .ref q_5, .int 0, .int 0, .ref q_6, .int 0, .int 0, .int 0, .int 0, .ref q_7, .int 0, .int 0, .int 0, .int 0, .ref q_8, .ref q_9, .ref q_10, .int 0, .null, .null, .null, .long 0])), (q_1, .inl (cI, 16, .inl (fun _ => 0))), (q_2, .inl (cI, 9, .inl (fun _ => 0))), (q_3, .inl (cI, 9, .inl (fun _ => 0))), (q_4, .inl (cI, 9, .inl (fun _ => 0))), (q_5, .inl (cI, 27, .inl (fun _ => 0))), (q_6, .inl (cI, 12, .inl (fun _ => 0))), (q_7, .inl (cI, 5, .inl (fun _ => 0))), (q_8, .inl (cI, 2400, .inl (fun _ => 0))), (q_9, .inl (cI, 32, .inl (fun _ => 0))), (q_10, .inl (cI, 4, .inl (fun _ => 0)))] := hD
  refine lv_aload_n hx hb dX7_init_83 rfl (lv_at hl 0 rfl) ?_
  refine lv_bipush (v := 80) hx hb dX7_init_84 (by decide) ?_
  refine nw_J (N' := 80) hx hb (hts _ t_152) hK hP hD hS hA (by decide) (by decide) (by decide) (Nat.le_of_ble_eq_true rfl) (Nat.le_of_ble_eq_true rfl) dX7_init_86 (fun q_11 H hP hD hS => ?_)
  have hP : va_P D vwCl [(h0, .inr (7, [.int 0, .ref q_1, .int 0, .ref q_2, .ref q_3, .ref q_4, .ref q_5, .int 0, .int 0, .ref q_6, .int 0, .int 0, .int 0, .int 0, .ref q_7, .int 0, .int 0, .int 0, .int 0, .ref q_8, .ref q_9, .ref q_10, .int 0, .null, .null, .null, .long 0])), (q_1, .inl (cI, 16, .inl (fun _ => 0))), (q_2, .inl (cI, 9, .inl (fun _ => 0))), (q_3, .inl (cI, 9, .inl (fun _ => 0))), (q_4, .inl (cI, 9, .inl (fun _ => 0))), (q_5, .inl (cI, 27, .inl (fun _ => 0))), (q_6, .inl (cI, 12, .inl (fun _ => 0))), (q_7, .inl (cI, 5, .inl (fun _ => 0))), (q_8, .inl (cI, 2400, .inl (fun _ => 0))), (q_9, .inl (cI, 32, .inl (fun _ => 0))), (q_10, .inl (cI, 4, .inl (fun _ => 0))), (q_11, .inl (cJ, 80, .inr (.inl (fun _ => 0))))] H := hP
  have hD : va_D A [(h0, .inr (7, [.int 0, .ref q_1, .int 0, .ref q_2, .ref q_3, .ref q_4, .ref q_5, .int 0, .int 0, .ref q_6, .int 0, .int 0, .int 0, .int 0, .ref q_7, .int 0, .int 0, .int 0, .int 0, .ref q_8, .ref q_9, .ref q_10, .int 0, .null, .null, .null, .long 0])), (q_1, .inl (cI, 16, .inl (fun _ => 0))), (q_2, .inl (cI, 9, .inl (fun _ => 0))), (q_3, .inl (cI, 9, .inl (fun _ => 0))), (q_4, .inl (cI, 9, .inl (fun _ => 0))), (q_5, .inl (cI, 27, .inl (fun _ => 0))), (q_6, .inl (cI, 12, .inl (fun _ => 0))), (q_7, .inl (cI, 5, .inl (fun _ => 0))), (q_8, .inl (cI, 2400, .inl (fun _ => 0))), (q_9, .inl (cI, 32, .inl (fun _ => 0))), (q_10, .inl (cI, 4, .inl (fun _ => 0))), (q_11, .inl (cJ, 80, .inr (.inl (fun _ => 0))))] := hD
  refine W.widen (k := 11) (n := 2603) (Nat.le_of_ble_eq_true rfl) (Nat.le_of_ble_eq_true rfl) ?_
  refine va_putF (D := D) (ci := 7) (v := .ref q_11) (ty := (.array .long)) (C := RX7) (T := TX7) (N := 27) hx hb hts iT_X7 tyX7 tyX7_ok nmX7 hown hK1 hP hD hS 0 rfl rfl 23 (by decide) (hts _ t_574) (fun _ h9 => h9) rfl hin rfl (by decide +kernel) rfl rfl (Nat.le_of_ble_eq_true rfl) dX7_init_88 (fun H locs hP hD hS => ?_)
  have hP : va_P D vwCl [(h0, .inr (7, [.int 0, .ref q_1, .int 0, .ref q_2, .ref q_3, .ref q_4, .ref q_5, .int 0, .int 0, .ref q_6, .int 0, .int 0, .int 0, .int 0, .ref q_7, .int 0, .int 0, .int 0, .int 0, .ref q_8, .ref q_9, .ref q_10, .int 0, .ref q_11, .null, .null, .long 0])), (q_1, .inl (cI, 16, .inl (fun _ => 0))), (q_2, .inl (cI, 9, .inl (fun _ => 0))), (q_3, .inl (cI, 9, .inl (fun _ => 0))), (q_4, .inl (cI, 9, .inl (fun _ => 0))), (q_5, .inl (cI, 27, .inl (fun _ => 0))), (q_6, .inl (cI, 12, .inl (fun _ => 0))), (q_7, .inl (cI, 5, .inl (fun _ => 0))), (q_8, .inl (cI, 2400, .inl (fun _ => 0))), (q_9, .inl (cI, 32, .inl (fun _ => 0))), (q_10, .inl (cI, 4, .inl (fun _ => 0))), (q_11, .inl (cJ, 80, .inr (.inl (fun _ => 0))))] H := hP
  have hD : va_D A [(h0, .inr (7, [.int 0, .ref q_1, .int 0, .ref q_2, .ref q_3, .ref q_4, .ref q_5, .int 0, .int 0, .ref q_6, .int 0, .int 0, .int 0, .int 0, .ref q_7, .int 0, .int 0, .int 0, .int 0, .ref q_8, .ref q_9, .ref q_10, .int 0, .ref q_11, .null, .null, .long 0])), (q_1, .inl (cI, 16, .inl (fun _ => 0))), (q_2, .inl (cI, 9, .inl (fun _ => 0))), (q_3, .inl (cI, 9, .inl (fun _ => 0))), (q_4, .inl (cI, 9, .inl (fun _ => 0))), (q_5, .inl (cI, 27, .inl (fun _ => 0))), (q_6, .inl (cI, 12, .inl (fun _ => 0))), (q_7, .inl (cI, 5, .inl (fun _ => 0))), (q_8, .inl (cI, 2400, .inl (fun _ => 0))), (q_9, .inl (cI, 32, .inl (fun _ => 0))), (q_10, .inl (cI, 4, .inl (fun _ => 0))), (q_11, .inl (cJ, 80, .inr (.inl (fun _ => 0))))] := hD
  refine lv_aload_n hx hb dX7_init_91 rfl (lv_at hl 0 rfl) ?_
  refine lv_bipush (v := 48) hx hb dX7_init_92 (by decide) ?_
  refine nw_I (N' := 48) hx hb (hts _ t_35) hK hP hD hS hA (by decide) (by decide) (by decide) (Nat.le_of_ble_eq_true rfl) (Nat.le_of_ble_eq_true rfl) dX7_init_94 (fun q_12 H hP hD hS => ?_)
  have hP : va_P D vwCl [(h0, .inr (7, [.int 0, .ref q_1, .int 0, .ref q_2, .ref q_3, .ref q_4, .ref q_5, .int 0, .int 0, .ref q_6, .int 0, .int 0, .int 0, .int 0, .ref q_7, .int 0, .int 0, .int 0, .int 0, .ref q_8, .ref q_9, .ref q_10, .int 0, .ref q_11, .null, .null, .long 0])), (q_1, .inl (cI, 16, .inl (fun _ => 0))), (q_2, .inl (cI, 9, .inl (fun _ => 0))), (q_3, .inl (cI, 9, .inl (fun _ => 0))), (q_4, .inl (cI, 9, .inl (fun _ => 0))), (q_5, .inl (cI, 27, .inl (fun _ => 0))), (q_6, .inl (cI, 12, .inl (fun _ => 0))), (q_7, .inl (cI, 5, .inl (fun _ => 0))), (q_8, .inl (cI, 2400, .inl (fun _ => 0))), (q_9, .inl (cI, 32, .inl (fun _ => 0))), (q_10, .inl (cI, 4, .inl (fun _ => 0))), (q_11, .inl (cJ, 80, .inr (.inl (fun _ => 0)))), (q_12, .inl (cI, 48, .inl (fun _ => 0)))] H := hP
  have hD : va_D A [(h0, .inr (7, [.int 0, .ref q_1, .int 0, .ref q_2, .ref q_3, .ref q_4, .ref q_5, .int 0, .int 0, .ref q_6, .int 0, .int 0, .int 0, .int 0, .ref q_7, .int 0, .int 0, .int 0, .int 0, .ref q_8, .ref q_9, .ref q_10, .int 0, .ref q_11, .null, .null, .long 0])), (q_1, .inl (cI, 16, .inl (fun _ => 0))), (q_2, .inl (cI, 9, .inl (fun _ => 0))), (q_3, .inl (cI, 9, .inl (fun _ => 0))), (q_4, .inl (cI, 9, .inl (fun _ => 0))), (q_5, .inl (cI, 27, .inl (fun _ => 0))), (q_6, .inl (cI, 12, .inl (fun _ => 0))), (q_7, .inl (cI, 5, .inl (fun _ => 0))), (q_8, .inl (cI, 2400, .inl (fun _ => 0))), (q_9, .inl (cI, 32, .inl (fun _ => 0))), (q_10, .inl (cI, 4, .inl (fun _ => 0))), (q_11, .inl (cJ, 80, .inr (.inl (fun _ => 0)))), (q_12, .inl (cI, 48, .inl (fun _ => 0)))] := hD
  refine W.widen (k := 12) (n := 2651) (Nat.le_of_ble_eq_true rfl) (Nat.le_of_ble_eq_true rfl) ?_
  refine va_putF (D := D) (ci := 7) (v := .ref q_12) (ty := (.array .int)) (C := RX7) (T := TX7) (N := 27) hx hb hts iT_X7 tyX7 tyX7_ok nmX7 hown hK1 hP hD hS 0 rfl rfl 24 (by decide) (hts _ t_575) (fun _ h9 => h9) rfl hin rfl (by decide +kernel) rfl rfl (Nat.le_of_ble_eq_true rfl) dX7_init_96 (fun H locs hP hD hS => ?_)
  have hP : va_P D vwCl [(h0, .inr (7, [.int 0, .ref q_1, .int 0, .ref q_2, .ref q_3, .ref q_4, .ref q_5, .int 0, .int 0, .ref q_6, .int 0, .int 0, .int 0, .int 0, .ref q_7, .int 0, .int 0, .int 0, .int 0, .ref q_8, .ref q_9, .ref q_10, .int 0, .ref q_11, .ref q_12, .null, .long 0])), (q_1, .inl (cI, 16, .inl (fun _ => 0))), (q_2, .inl (cI, 9, .inl (fun _ => 0))), (q_3, .inl (cI, 9, .inl (fun _ => 0))), (q_4, .inl (cI, 9, .inl (fun _ => 0))), (q_5, .inl (cI, 27, .inl (fun _ => 0))), (q_6, .inl (cI, 12, .inl (fun _ => 0))), (q_7, .inl (cI, 5, .inl (fun _ => 0))), (q_8, .inl (cI, 2400, .inl (fun _ => 0))), (q_9, .inl (cI, 32, .inl (fun _ => 0))), (q_10, .inl (cI, 4, .inl (fun _ => 0))), (q_11, .inl (cJ, 80, .inr (.inl (fun _ => 0)))), (q_12, .inl (cI, 48, .inl (fun _ => 0)))] H := hP
  have hD : va_D A [(h0, .inr (7, [.int 0, .ref q_1, .int 0, .ref q_2, .ref q_3, .ref q_4, .ref q_5, .int 0, .int 0, .ref q_6, .int 0, .int 0, .int 0, .int 0, .ref q_7, .int 0, .int 0, .int 0, .int 0, .ref q_8, .ref q_9, .ref q_10, .int 0, .ref q_11, .ref q_12, .null, .long 0])), (q_1, .inl (cI, 16, .inl (fun _ => 0))), (q_2, .inl (cI, 9, .inl (fun _ => 0))), (q_3, .inl (cI, 9, .inl (fun _ => 0))), (q_4, .inl (cI, 9, .inl (fun _ => 0))), (q_5, .inl (cI, 27, .inl (fun _ => 0))), (q_6, .inl (cI, 12, .inl (fun _ => 0))), (q_7, .inl (cI, 5, .inl (fun _ => 0))), (q_8, .inl (cI, 2400, .inl (fun _ => 0))), (q_9, .inl (cI, 32, .inl (fun _ => 0))), (q_10, .inl (cI, 4, .inl (fun _ => 0))), (q_11, .inl (cJ, 80, .inr (.inl (fun _ => 0)))), (q_12, .inl (cI, 48, .inl (fun _ => 0)))] := hD
  refine lv_aload_n hx hb dX7_init_99 rfl (lv_at hl 0 rfl) ?_
  refine lv_iconst (v := 3) hx hb dX7_init_100 (by decide) ?_
  refine nw_I (N' := 3) hx hb (hts _ t_35) hK hP hD hS hA (by decide) (by decide) (by decide) (Nat.le_of_ble_eq_true rfl) (Nat.le_of_ble_eq_true rfl) dX7_init_101 (fun q_13 H hP hD hS => ?_)
  have hP : va_P D vwCl [(h0, .inr (7, [.int 0, .ref q_1, .int 0, .ref q_2, .ref q_3, .ref q_4, .ref q_5, .int 0, .int 0, .ref q_6, .int 0, .int 0, .int 0, .int 0, .ref q_7, .int 0, .int 0, .int 0, .int 0, .ref q_8, .ref q_9, .ref q_10, .int 0, .ref q_11, .ref q_12, .null, .long 0])), (q_1, .inl (cI, 16, .inl (fun _ => 0))), (q_2, .inl (cI, 9, .inl (fun _ => 0))), (q_3, .inl (cI, 9, .inl (fun _ => 0))), (q_4, .inl (cI, 9, .inl (fun _ => 0))), (q_5, .inl (cI, 27, .inl (fun _ => 0))), (q_6, .inl (cI, 12, .inl (fun _ => 0))), (q_7, .inl (cI, 5, .inl (fun _ => 0))), (q_8, .inl (cI, 2400, .inl (fun _ => 0))), (q_9, .inl (cI, 32, .inl (fun _ => 0))), (q_10, .inl (cI, 4, .inl (fun _ => 0))), (q_11, .inl (cJ, 80, .inr (.inl (fun _ => 0)))), (q_12, .inl (cI, 48, .inl (fun _ => 0))), (q_13, .inl (cI, 3, .inl (fun _ => 0)))] H := hP
  have hD : va_D A [(h0, .inr (7, [.int 0, .ref q_1, .int 0, .ref q_2, .ref q_3, .ref q_4, .ref q_5, .int 0, .int 0, .ref q_6, .int 0, .int 0, .int 0, .int 0, .ref q_7, .int 0, .int 0, .int 0, .int 0, .ref q_8, .ref q_9, .ref q_10, .int 0, .ref q_11, .ref q_12, .null, .long 0])), (q_1, .inl (cI, 16, .inl (fun _ => 0))), (q_2, .inl (cI, 9, .inl (fun _ => 0))), (q_3, .inl (cI, 9, .inl (fun _ => 0))), (q_4, .inl (cI, 9, .inl (fun _ => 0))), (q_5, .inl (cI, 27, .inl (fun _ => 0))), (q_6, .inl (cI, 12, .inl (fun _ => 0))), (q_7, .inl (cI, 5, .inl (fun _ => 0))), (q_8, .inl (cI, 2400, .inl (fun _ => 0))), (q_9, .inl (cI, 32, .inl (fun _ => 0))), (q_10, .inl (cI, 4, .inl (fun _ => 0))), (q_11, .inl (cJ, 80, .inr (.inl (fun _ => 0)))), (q_12, .inl (cI, 48, .inl (fun _ => 0))), (q_13, .inl (cI, 3, .inl (fun _ => 0)))] := hD
  refine W.widen (k := 13) (n := 2654) (Nat.le_of_ble_eq_true rfl) (Nat.le_of_ble_eq_true rfl) ?_
  refine va_putF (D := D) (ci := 7) (v := .ref q_13) (ty := (.array .int)) (C := RX7) (T := TX7) (N := 27) hx hb hts iT_X7 tyX7 tyX7_ok nmX7 hown hK1 hP hD hS 0 rfl rfl 25 (by decide) (hts _ t_576) (fun _ h9 => h9) rfl hin rfl (by decide +kernel) rfl rfl (Nat.le_of_ble_eq_true rfl) dX7_init_103 (fun H locs hP hD hS => ?_)
  have hP : va_P D vwCl [(h0, .inr (7, [.int 0, .ref q_1, .int 0, .ref q_2, .ref q_3, .ref q_4, .ref q_5, .int 0, .int 0, .ref q_6, .int 0, .int 0, .int 0, .int 0, .ref q_7, .int 0, .int 0, .int 0, .int 0, .ref q_8, .ref q_9, .ref q_10, .int 0, .ref q_11, .ref q_12, .ref q_13, .long 0])), (q_1, .inl (cI, 16, .inl (fun _ => 0))), (q_2, .inl (cI, 9, .inl (fun _ => 0))), (q_3, .inl (cI, 9, .inl (fun _ => 0))), (q_4, .inl (cI, 9, .inl (fun _ => 0))), (q_5, .inl (cI, 27, .inl (fun _ => 0))), (q_6, .inl (cI, 12, .inl (fun _ => 0))), (q_7, .inl (cI, 5, .inl (fun _ => 0))), (q_8, .inl (cI, 2400, .inl (fun _ => 0))), (q_9, .inl (cI, 32, .inl (fun _ => 0))), (q_10, .inl (cI, 4, .inl (fun _ => 0))), (q_11, .inl (cJ, 80, .inr (.inl (fun _ => 0)))), (q_12, .inl (cI, 48, .inl (fun _ => 0))), (q_13, .inl (cI, 3, .inl (fun _ => 0)))] H := hP
  have hD : va_D A [(h0, .inr (7, [.int 0, .ref q_1, .int 0, .ref q_2, .ref q_3, .ref q_4, .ref q_5, .int 0, .int 0, .ref q_6, .int 0, .int 0, .int 0, .int 0, .ref q_7, .int 0, .int 0, .int 0, .int 0, .ref q_8, .ref q_9, .ref q_10, .int 0, .ref q_11, .ref q_12, .ref q_13, .long 0])), (q_1, .inl (cI, 16, .inl (fun _ => 0))), (q_2, .inl (cI, 9, .inl (fun _ => 0))), (q_3, .inl (cI, 9, .inl (fun _ => 0))), (q_4, .inl (cI, 9, .inl (fun _ => 0))), (q_5, .inl (cI, 27, .inl (fun _ => 0))), (q_6, .inl (cI, 12, .inl (fun _ => 0))), (q_7, .inl (cI, 5, .inl (fun _ => 0))), (q_8, .inl (cI, 2400, .inl (fun _ => 0))), (q_9, .inl (cI, 32, .inl (fun _ => 0))), (q_10, .inl (cI, 4, .inl (fun _ => 0))), (q_11, .inl (cJ, 80, .inr (.inl (fun _ => 0)))), (q_12, .inl (cI, 48, .inl (fun _ => 0))), (q_13, .inl (cI, 3, .inl (fun _ => 0)))] := hD
  exact hret _ _ _ _ _ _ (q_1, q_2, q_3, q_4, q_5, q_6, q_7, q_8, q_9, q_10, q_11, q_12, q_13) dX7_init_106 hS (Nat.le_of_ble_eq_true rfl) (Nat.le_of_ble_eq_true rfl) trivial (hP.sub [0, 1, 2, 3, 4, 5, 6, 7, 8, 9, 10, 11, 12, 13] rfl) (hD.sub [0, 1, 2, 3, 4, 5, 6, 7, 8, 9, 10, 11, 12, 13] rfl rfl)
end
end
section
theorem mS_J7_fill_d0a16 : Cond.static yJ7_fill_d0a16 ∈ gT ∧ Cond.initialized yJ7_fill_d0a16.cls ∈ gT ∧ Cond.code yJ7_fill_d0a16 cJ7_fill_d0a16 5 none ∈ gT := ⟨t_464, t_10, t_465⟩
theorem hS_J7_fill_d0a16 : yJ7_fill_d0a16.cls ≠ "java/lang/invoke/MethodHandle" ∧ yJ7_fill_d0a16.cls ≠ "java/lang/invoke/VarHandle" ∧ (parseMethodDescriptor yJ7_fill_d0a16.desc).map (fun d => d.parameters.length) = some 2 := by decide +kernel
theorem mS_J7_fill_53178 : Cond.static yJ7_fill_53178 ∈ gT ∧ Cond.initialized yJ7_fill_53178.cls ∈ gT ∧ Cond.code yJ7_fill_53178 cJ7_fill_53178 4 none ∈ gT := ⟨t_390, t_10, t_391⟩
theorem hS_J7_fill_53178 : yJ7_fill_53178.cls ≠ "java/lang/invoke/MethodHandle" ∧ yJ7_fill_53178.cls ≠ "java/lang/invoke/VarHandle" ∧ (parseMethodDescriptor yJ7_fill_53178.desc).map (fun d => d.parameters.length) = some 2 := by decide +kernel
theorem mV_X1_forget : Cond.instanceMethod yX1_forget ∈ gT ∧ Cond.selects RX1 yX1_forget yX1_forget ∈ gT ∧ Cond.initialized RX1 ∈ gT ∧ Cond.code yX1_forget cX1_forget 2 none ∈ gT := ⟨t_460, ts_19, t_7, t_461⟩
theorem hV_X1_forget : yX1_forget.cls = RX1 ∧ yX1_forget.cls ≠ "java/lang/invoke/MethodHandle" ∧ yX1_forget.cls ≠ "java/lang/invoke/VarHandle" ∧ (parseMethodDescriptor yX1_forget.desc).map (fun d => d.parameters.length) = some 0 := by decide +kernel
theorem mV_X1_offer : Cond.instanceMethod yX1_offer ∈ gT ∧ Cond.selects RX1 yX1_offer yX1_offer ∈ gT ∧ Cond.initialized RX1 ∈ gT ∧ Cond.code yX1_offer cX1_offer 7 none ∈ gT := ⟨t_469, ts_20, t_7, t_470⟩
theorem hV_X1_offer : yX1_offer.cls = RX1 ∧ yX1_offer.cls ≠ "java/lang/invoke/MethodHandle" ∧ yX1_offer.cls ≠ "java/lang/invoke/VarHandle" ∧ (parseMethodDescriptor yX1_offer.desc).map (fun d => d.parameters.length) = some 4 := by decide +kernel
theorem mV_X1_nearest : Cond.instanceMethod yX1_nearest ∈ gT ∧ Cond.selects RX1 yX1_nearest yX1_nearest ∈ gT ∧ Cond.initialized RX1 ∈ gT ∧ Cond.code yX1_nearest cX1_nearest 5 (some .int) ∈ gT := ⟨t_473, ts_21, t_7, t_474⟩
theorem hV_X1_nearest : yX1_nearest.cls = RX1 ∧ yX1_nearest.cls ≠ "java/lang/invoke/MethodHandle" ∧ yX1_nearest.cls ≠ "java/lang/invoke/VarHandle" ∧ (parseMethodDescriptor yX1_nearest.desc).map (fun d => d.parameters.length) = some 0 := by decide +kernel
theorem mV_X1_settle : Cond.instanceMethod yX1_settle ∈ gT ∧ Cond.selects RX1 yX1_settle yX1_settle ∈ gT ∧ Cond.initialized RX1 ∈ gT ∧ Cond.code yX1_settle cX1_settle 3 none ∈ gT := ⟨t_477, ts_22, t_7, t_478⟩
theorem hV_X1_settle : yX1_settle.cls = RX1 ∧ yX1_settle.cls ≠ "java/lang/invoke/MethodHandle" ∧ yX1_settle.cls ≠ "java/lang/invoke/VarHandle" ∧ (parseMethodDescriptor yX1_settle.desc).map (fun d => d.parameters.length) = some 2 := by decide +kernel
theorem mV_X1_find : Cond.instanceMethod yX1_find ∈ gT ∧ Cond.selects RX1 yX1_find yX1_find ∈ gT ∧ Cond.initialized RX1 ∈ gT ∧ Cond.code yX1_find cX1_find 5 none ∈ gT := ⟨t_455, t_456, t_7, t_457⟩
theorem hV_X1_find : yX1_find.cls = RX1 ∧ yX1_find.cls ≠ "java/lang/invoke/MethodHandle" ∧ yX1_find.cls ≠ "java/lang/invoke/VarHandle" ∧ (parseMethodDescriptor yX1_find.desc).map (fun d => d.parameters.length) = some 1 := by decide +kernel
theorem mV_X6_bringLights : Cond.instanceMethod yX6_bringLights ∈ gT ∧ Cond.selects RX6 yX6_bringLights yX6_bringLights ∈ gT ∧ Cond.initialized RX6 ∈ gT ∧ Cond.code yX6_bringLights cX6_bringLights 1 none ∈ gT := ⟨t_452, ts_18, t_1, t_453⟩
theorem hV_X6_bringLights : yX6_bringLights.cls = RX6 ∧ yX6_bringLights.cls ≠ "java/lang/invoke/MethodHandle" ∧ yX6_bringLights.cls ≠ "java/lang/invoke/VarHandle" ∧ (parseMethodDescriptor yX6_bringLights.desc).map (fun d => d.parameters.length) = some 0 := by decide +kernel
theorem mV_X1_reaches : Cond.instanceMethod yX1_reaches ∈ gT ∧ Cond.selects RX1 yX1_reaches yX1_reaches ∈ gT ∧ Cond.initialized RX1 ∈ gT ∧ Cond.code yX1_reaches cX1_reaches 3 (some .boolean) ∈ gT := ⟨t_504, t_505, t_7, t_506⟩
theorem hV_X1_reaches : yX1_reaches.cls = RX1 ∧ yX1_reaches.cls ≠ "java/lang/invoke/MethodHandle" ∧ yX1_reaches.cls ≠ "java/lang/invoke/VarHandle" ∧ (parseMethodDescriptor yX1_reaches.desc).map (fun d => d.parameters.length) = some 2 := by decide +kernel
theorem mV_X1_stepsTo : Cond.instanceMethod yX1_stepsTo ∈ gT ∧ Cond.selects RX1 yX1_stepsTo yX1_stepsTo ∈ gT ∧ Cond.initialized RX1 ∈ gT ∧ Cond.code yX1_stepsTo cX1_stepsTo 3 (some .int) ∈ gT := ⟨t_512, t_513, t_7, t_514⟩
theorem hV_X1_stepsTo : yX1_stepsTo.cls = RX1 ∧ yX1_stepsTo.cls ≠ "java/lang/invoke/MethodHandle" ∧ yX1_stepsTo.cls ≠ "java/lang/invoke/VarHandle" ∧ (parseMethodDescriptor yX1_stepsTo.desc).map (fun d => d.parameters.length) = some 2 := by decide +kernel
theorem mV_X1_firstTo : Cond.instanceMethod yX1_firstTo ∈ gT ∧ Cond.selects RX1 yX1_firstTo yX1_firstTo ∈ gT ∧ Cond.initialized RX1 ∈ gT ∧ Cond.code yX1_firstTo cX1_firstTo 3 (some .int) ∈ gT := ⟨t_521, t_522, t_7, t_523⟩
theorem hV_X1_firstTo : yX1_firstTo.cls = RX1 ∧ yX1_firstTo.cls ≠ "java/lang/invoke/MethodHandle" ∧ yX1_firstTo.cls ≠ "java/lang/invoke/VarHandle" ∧ (parseMethodDescriptor yX1_firstTo.desc).map (fun d => d.parameters.length) = some 2 := by decide +kernel
theorem mV_X6_kinds : Cond.instanceMethod yX6_kinds ∈ gT ∧ Cond.selects RX6 yX6_kinds yX6_kinds ∈ gT ∧ Cond.initialized RX6 ∈ gT ∧ Cond.code yX6_kinds cX6_kinds 4 (some .int) ∈ gT := ⟨t_447, t_448, t_1, t_449⟩
theorem hV_X6_kinds : yX6_kinds.cls = RX6 ∧ yX6_kinds.cls ≠ "java/lang/invoke/MethodHandle" ∧ yX6_kinds.cls ≠ "java/lang/invoke/VarHandle" ∧ (parseMethodDescriptor yX6_kinds.desc).map (fun d => d.parameters.length) = some 1 := by decide +kernel
theorem mV_X6_light : Cond.instanceMethod yX6_light ∈ gT ∧ Cond.selects RX6 yX6_light yX6_light ∈ gT ∧ Cond.initialized RX6 ∈ gT ∧ Cond.code yX6_light cX6_light 4 (some .int) ∈ gT := ⟨t_508, t_509, t_1, t_510⟩
theorem hV_X6_light : yX6_light.cls = RX6 ∧ yX6_light.cls ≠ "java/lang/invoke/MethodHandle" ∧ yX6_light.cls ≠ "java/lang/invoke/VarHandle" ∧ (parseMethodDescriptor yX6_light.desc).map (fun d => d.parameters.length) = some 3 := by decide +kernel
theorem mV_X0_openEdges : Cond.instanceMethod yX0_openEdges ∈ gT ∧ Cond.selects RX0 yX0_openEdges yX0_openEdges ∈ gT ∧ Cond.initialized RX0 ∈ gT ∧ Cond.code yX0_openEdges cX0_openEdges 3 (some .int) ∈ gT := ⟨t_370, t_371, t_5, t_372⟩
theorem hV_X0_openEdges : yX0_openEdges.cls = RX0 ∧ yX0_openEdges.cls ≠ "java/lang/invoke/MethodHandle" ∧ yX0_openEdges.cls ≠ "java/lang/invoke/VarHandle" ∧ (parseMethodDescriptor yX0_openEdges.desc).map (fun d => d.parameters.length) = some 0 := by decide +kernel
theorem mV_X0_isDone : Cond.instanceMethod yX0_isDone ∈ gT ∧ Cond.selects RX0 yX0_isDone yX0_isDone ∈ gT ∧ Cond.initialized RX0 ∈ gT ∧ Cond.code yX0_isDone cX0_isDone 1 (some .boolean) ∈ gT := ⟨t_366, t_367, t_5, t_368⟩
theorem hV_X0_isDone : yX0_isDone.cls = RX0 ∧ yX0_isDone.cls ≠ "java/lang/invoke/MethodHandle" ∧ yX0_isDone.cls ≠ "java/lang/invoke/VarHandle" ∧ (parseMethodDescriptor yX0_isDone.desc).map (fun d => d.parameters.length) = some 0 := by decide +kernel
theorem mV_X6_kind : Cond.instanceMethod yX6_kind ∈ gT ∧ Cond.selects RX6 yX6_kind yX6_kind ∈ gT ∧ Cond.initialized RX6 ∈ gT ∧ Cond.code yX6_kind cX6_kind 1 (some .int) ∈ gT := ⟨t_362, t_363, t_1, t_364⟩
theorem hV_X6_kind : yX6_kind.cls = RX6 ∧ yX6_kind.cls ≠ "java/lang/invoke/MethodHandle" ∧ yX6_kind.cls ≠ "java/lang/invoke/VarHandle" ∧ (parseMethodDescriptor yX6_kind.desc).map (fun d => d.parameters.length) = some 0 := by decide +kernel
theorem mV_X6_fewest : Cond.instanceMethod yX6_fewest ∈ gT ∧ Cond.selects RX6 yX6_fewest yX6_fewest ∈ gT ∧ Cond.initialized RX6 ∈ gT ∧ Cond.code yX6_fewest cX6_fewest 3 (some .int) ∈ gT := ⟨t_381, t_382, t_1, t_383⟩
theorem hV_X6_fewest : yX6_fewest.cls = RX6 ∧ yX6_fewest.cls ≠ "java/lang/invoke/MethodHandle" ∧ yX6_fewest.cls ≠ "java/lang/invoke/VarHandle" ∧ (parseMethodDescriptor yX6_fewest.desc).map (fun d => d.parameters.length) = some 1 := by decide +kernel
theorem mV_X6_count : Cond.instanceMethod yX6_count ∈ gT ∧ Cond.selects RX6 yX6_count yX6_count ∈ gT ∧ Cond.initialized RX6 ∈ gT ∧ Cond.code yX6_count cX6_count 2 (some .int) ∈ gT := ⟨t_525, t_526, t_1, t_527⟩
theorem hV_X6_count : yX6_count.cls = RX6 ∧ yX6_count.cls ≠ "java/lang/invoke/MethodHandle" ∧ yX6_count.cls ≠ "java/lang/invoke/VarHandle" ∧ (parseMethodDescriptor yX6_count.desc).map (fun d => d.parameters.length) = some 1 := by decide +kernel
theorem dJ7_fill_53178_0 : decode cJ7_fill_53178 0 = .ok (.iconst 0, 1) := by decide +kernel
theorem dJ7_fill_53178_1 : decode cJ7_fill_53178 1 = .ok (.istore_n 2, 1) := by decide +kernel
theorem dJ7_fill_53178_2 : decode cJ7_fill_53178 2 = .ok (.aload_n 0, 1) := by decide +kernel
theorem dJ7_fill_53178_3 : decode cJ7_fill_53178 3 = .ok (.arraylength, 1) := by decide +kernel
theorem dJ7_fill_53178_4 : decode cJ7_fill_53178 4 = .ok (.istore_n 3, 1) := by decide +kernel
theorem dJ7_fill_53178_5 : decode cJ7_fill_53178 5 = .ok (.iload_n 2, 1) := by decide +kernel
theorem dJ7_fill_53178_6 : decode cJ7_fill_53178 6 = .ok (.iload_n 3, 1) := by decide +kernel
theorem dJ7_fill_53178_7 : decode cJ7_fill_53178 7 = .ok (.if_icmp .ge 13, 3) := by decide +kernel
theorem dJ7_fill_53178_10 : decode cJ7_fill_53178 10 = .ok (.aload_n 0, 1) := by decide +kernel
theorem dJ7_fill_53178_11 : decode cJ7_fill_53178 11 = .ok (.iload_n 2, 1) := by decide +kernel
theorem dJ7_fill_53178_12 : decode cJ7_fill_53178 12 = .ok (.iload_n 1, 1) := by decide +kernel
theorem dJ7_fill_53178_13 : decode cJ7_fill_53178 13 = .ok (.iastore, 1) := by decide +kernel
theorem dJ7_fill_53178_14 : decode cJ7_fill_53178 14 = .ok (.iinc 2 1, 3) := by decide +kernel
theorem dJ7_fill_53178_17 : decode cJ7_fill_53178 17 = .ok (.goto (-12), 3) := by decide +kernel
theorem dJ7_fill_53178_20 : decode cJ7_fill_53178 20 = .ok (.return_, 1) := by decide +kernel
theorem dJ7_fill_d0a16_0 : decode cJ7_fill_d0a16 0 = .ok (.iconst 0, 1) := by decide +kernel
theorem dJ7_fill_d0a16_1 : decode cJ7_fill_d0a16 1 = .ok (.istore_n 3, 1) := by decide +kernel
theorem dJ7_fill_d0a16_2 : decode cJ7_fill_d0a16 2 = .ok (.aload_n 0, 1) := by decide +kernel
theorem dJ7_fill_d0a16_3 : decode cJ7_fill_d0a16 3 = .ok (.arraylength, 1) := by decide +kernel
theorem dJ7_fill_d0a16_4 : decode cJ7_fill_d0a16 4 = .ok (.istore 4, 2) := by decide +kernel
theorem dJ7_fill_d0a16_6 : decode cJ7_fill_d0a16 6 = .ok (.iload_n 3, 1) := by decide +kernel
theorem dJ7_fill_d0a16_7 : decode cJ7_fill_d0a16 7 = .ok (.iload 4, 2) := by decide +kernel
theorem dJ7_fill_d0a16_9 : decode cJ7_fill_d0a16 9 = .ok (.if_icmp .ge 13, 3) := by decide +kernel
theorem dJ7_fill_d0a16_12 : decode cJ7_fill_d0a16 12 = .ok (.aload_n 0, 1) := by decide +kernel
theorem dJ7_fill_d0a16_13 : decode cJ7_fill_d0a16 13 = .ok (.iload_n 3, 1) := by decide +kernel
theorem dJ7_fill_d0a16_14 : decode cJ7_fill_d0a16 14 = .ok (.lload_n 1, 1) := by decide +kernel
theorem dJ7_fill_d0a16_15 : decode cJ7_fill_d0a16 15 = .ok (.lastore, 1) := by decide +kernel
theorem dJ7_fill_d0a16_16 : decode cJ7_fill_d0a16 16 = .ok (.iinc 3 1, 3) := by decide +kernel
theorem dJ7_fill_d0a16_19 : decode cJ7_fill_d0a16 19 = .ok (.goto (-13), 3) := by decide +kernel
theorem dJ7_fill_d0a16_22 : decode cJ7_fill_d0a16 22 = .ok (.return_, 1) := by decide +kernel
theorem dX0_isDone_0 : decode cX0_isDone 0 = .ok (.aload_n 0, 1) := by decide +kernel
theorem dX0_isDone_1 : decode cX0_isDone 1 = .ok (.getfield 9, 3) := by decide +kernel
theorem dX0_isDone_4 : decode cX0_isDone 4 = .ok (.ifCond .le 14, 3) := by decide +kernel
theorem dX0_isDone_18 : decode cX0_isDone 18 = .ok (.iconst 0, 1) := by decide +kernel
theorem dX0_isDone_19 : decode cX0_isDone 19 = .ok (.ireturn, 1) := by decide +kernel
theorem dX0_openEdges_0 : decode cX0_openEdges 0 = .ok (.iconst 0, 1) := by decide +kernel
theorem dX0_openEdges_1 : decode cX0_openEdges 1 = .ok (.istore_n 1, 1) := by decide +kernel
theorem dX0_openEdges_2 : decode cX0_openEdges 2 = .ok (.iconst 0, 1) := by decide +kernel
theorem dX0_openEdges_3 : decode cX0_openEdges 3 = .ok (.istore_n 2, 1) := by decide +kernel
theorem dX0_openEdges_4 : decode cX0_openEdges 4 = .ok (.iload_n 2, 1) := by decide +kernel
theorem dX0_openEdges_5 : decode cX0_openEdges 5 = .ok (.aload_n 0, 1) := by decide +kernel
theorem dX0_openEdges_6 : decode cX0_openEdges 6 = .ok (.getfield 9, 3) := by decide +kernel
theorem dX0_openEdges_9 : decode cX0_openEdges 9 = .ok (.if_icmp .ge 29, 3) := by decide +kernel
theorem dX0_openEdges_38 : decode cX0_openEdges 38 = .ok (.iload_n 1, 1) := by decide +kernel
theorem dX0_openEdges_39 : decode cX0_openEdges 39 = .ok (.ireturn, 1) := by decide +kernel
theorem dX1_find_0 : decode cX1_find 0 = .ok (.aload_n 0, 1) := by decide +kernel
theorem dX1_find_1 : decode cX1_find 1 = .ok (.invokevirtual 45, 3) := by decide +kernel
theorem dX1_find_4 : decode cX1_find 4 = .ok (.aload_n 0, 1) := by decide +kernel
theorem dX1_find_5 : decode cX1_find 5 = .ok (.iconst 3, 1) := by decide +kernel
theorem dX1_find_6 : decode cX1_find 6 = .ok (.bipush 9, 2) := by decide +kernel
theorem dX1_find_8 : decode cX1_find 8 = .ok (.lconst 0, 1) := by decide +kernel
theorem dX1_find_9 : decode cX1_find 9 = .ok (.iconst (-1), 1) := by decide +kernel
theorem dX1_find_10 : decode cX1_find 10 = .ok (.invokevirtual 48, 3) := by decide +kernel
theorem dX1_find_13 : decode cX1_find 13 = .ok (.aload_n 0, 1) := by decide +kernel
theorem dX1_find_14 : decode cX1_find 14 = .ok (.iconst 4, 1) := by decide +kernel
theorem dX1_find_15 : decode cX1_find 15 = .ok (.bipush 15, 2) := by decide +kernel
theorem dX1_find_17 : decode cX1_find 17 = .ok (.lconst 0, 1) := by decide +kernel
theorem dX1_find_18 : decode cX1_find 18 = .ok (.iconst (-1), 1) := by decide +kernel
theorem dX1_find_19 : decode cX1_find 19 = .ok (.invokevirtual 48, 3) := by decide +kernel
theorem dX1_find_22 : decode cX1_find 22 = .ok (.aload_n 0, 1) := by decide +kernel
theorem dX1_find_23 : decode cX1_find 23 = .ok (.iconst 5, 1) := by decide +kernel
theorem dX1_find_24 : decode cX1_find 24 = .ok (.bipush 12, 2) := by decide +kernel
theorem dX1_find_26 : decode cX1_find 26 = .ok (.lconst 0, 1) := by decide +kernel
theorem dX1_find_27 : decode cX1_find 27 = .ok (.iconst (-1), 1) := by decide +kernel
theorem dX1_find_28 : decode cX1_find 28 = .ok (.invokevirtual 48, 3) := by decide +kernel
theorem dX1_find_31 : decode cX1_find 31 = .ok (.iconst 0, 1) := by decide +kernel
theorem dX1_find_32 : decode cX1_find 32 = .ok (.istore_n 2, 1) := by decide +kernel
theorem dX1_find_33 : decode cX1_find 33 = .ok (.iload_n 2, 1) := by decide +kernel
theorem dX1_find_34 : decode cX1_find 34 = .ok (.bipush 96, 2) := by decide +kernel
theorem dX1_find_36 : decode cX1_find 36 = .ok (.if_icmp .ge 71, 3) := by decide +kernel
theorem dX1_find_39 : decode cX1_find 39 = .ok (.aload_n 0, 1) := by decide +kernel
theorem dX1_find_40 : decode cX1_find 40 = .ok (.invokevirtual 52, 3) := by decide +kernel
theorem dX1_find_43 : decode cX1_find 43 = .ok (.istore_n 3, 1) := by decide +kernel
theorem dX1_find_44 : decode cX1_find 44 = .ok (.iload_n 3, 1) := by decide +kernel
theorem dX1_find_45 : decode cX1_find 45 = .ok (.iconst (-1), 1) := by decide +kernel
theorem dX1_find_46 : decode cX1_find 46 = .ok (.if_icmp .ne 4, 3) := by decide +kernel
theorem dX1_find_49 : decode cX1_find 49 = .ok (.return_, 1) := by decide +kernel
theorem dX1_find_50 : decode cX1_find 50 = .ok (.aload_n 0, 1) := by decide +kernel
theorem dX1_find_51 : decode cX1_find 51 = .ok (.iload_n 3, 1) := by decide +kernel
theorem dX1_find_52 : decode cX1_find 52 = .ok (.bipush 16, 2) := by decide +kernel
theorem dX1_find_54 : decode cX1_find 54 = .ok (.idiv, 1) := by decide +kernel
theorem dX1_find_55 : decode cX1_find 55 = .ok (.iload_n 3, 1) := by decide +kernel
theorem dX1_find_56 : decode cX1_find 56 = .ok (.bipush 16, 2) := by decide +kernel
theorem dX1_find_58 : decode cX1_find 58 = .ok (.irem, 1) := by decide +kernel
theorem dX1_find_59 : decode cX1_find 59 = .ok (.invokevirtual 56, 3) := by decide +kernel
theorem dX1_find_62 : decode cX1_find 62 = .ok (.iconst 0, 1) := by decide +kernel
theorem dX1_find_63 : decode cX1_find 63 = .ok (.istore 4, 2) := by decide +kernel
theorem dX1_find_65 : decode cX1_find 65 = .ok (.iload 4, 2) := by decide +kernel
theorem dX1_find_67 : decode cX1_find 67 = .ok (.aload_n 1, 1) := by decide +kernel
theorem dX1_find_68 : decode cX1_find 68 = .ok (.getfield 60, 3) := by decide +kernel
theorem dX1_find_71 : decode cX1_find 71 = .ok (.if_icmp .ge 30, 3) := by decide +kernel
theorem dX1_find_101 : decode cX1_find 101 = .ok (.iinc 2 1, 3) := by decide +kernel
theorem dX1_find_104 : decode cX1_find 104 = .ok (.goto (-71), 3) := by decide +kernel
theorem dX1_firstTo_0 : decode cX1_firstTo 0 = .ok (.aload_n 0, 1) := by decide +kernel
theorem dX1_firstTo_1 : decode cX1_firstTo 1 = .ok (.getfield 15, 3) := by decide +kernel
theorem dX1_firstTo_4 : decode cX1_firstTo 4 = .ok (.iload_n 1, 1) := by decide +kernel
theorem dX1_firstTo_5 : decode cX1_firstTo 5 = .ok (.bipush 16, 2) := by decide +kernel
theorem dX1_firstTo_7 : decode cX1_firstTo 7 = .ok (.imul, 1) := by decide +kernel
theorem dX1_firstTo_8 : decode cX1_firstTo 8 = .ok (.iload_n 2, 1) := by decide +kernel
theorem dX1_firstTo_9 : decode cX1_firstTo 9 = .ok (.iadd, 1) := by decide +kernel
theorem dX1_firstTo_10 : decode cX1_firstTo 10 = .ok (.iaload, 1) := by decide +kernel
theorem dX1_firstTo_11 : decode cX1_firstTo 11 = .ok (.ireturn, 1) := by decide +kernel
theorem dX1_forget_0 : decode cX1_forget 0 = .ok (.aload_n 0, 1) := by decide +kernel
theorem dX1_forget_1 : decode cX1_forget 1 = .ok (.getfield 11, 3) := by decide +kernel
theorem dX1_forget_4 : decode cX1_forget 4 = .ok (.ldc2_w 29, 3) := by decide +kernel
theorem dX1_forget_7 : decode cX1_forget 7 = .ok (.invokestatic 74, 3) := by decide +kernel
theorem dX1_forget_10 : decode cX1_forget 10 = .ok (.aload_n 0, 1) := by decide +kernel
theorem dX1_forget_11 : decode cX1_forget 11 = .ok (.getfield 15, 3) := by decide +kernel
theorem dX1_forget_14 : decode cX1_forget 14 = .ok (.iconst (-1), 1) := by decide +kernel
theorem dX1_forget_15 : decode cX1_forget 15 = .ok (.invokestatic 80, 3) := by decide +kernel
theorem dX1_forget_18 : decode cX1_forget 18 = .ok (.aload_n 0, 1) := by decide +kernel
theorem dX1_forget_19 : decode cX1_forget 19 = .ok (.getfield 26, 3) := by decide +kernel
theorem dX1_forget_22 : decode cX1_forget 22 = .ok (.iconst 0, 1) := by decide +kernel
theorem dX1_forget_23 : decode cX1_forget 23 = .ok (.invokestatic 80, 3) := by decide +kernel
theorem dX1_forget_26 : decode cX1_forget 26 = .ok (.iconst 0, 1) := by decide +kernel
theorem dX1_forget_27 : decode cX1_forget 27 = .ok (.istore_n 1, 1) := by decide +kernel
theorem dX1_forget_28 : decode cX1_forget 28 = .ok (.iload_n 1, 1) := by decide +kernel
theorem dX1_forget_29 : decode cX1_forget 29 = .ok (.bipush 96, 2) := by decide +kernel
theorem dX1_forget_31 : decode cX1_forget 31 = .ok (.if_icmp .ge 16, 3) := by decide +kernel
theorem dX1_forget_34 : decode cX1_forget 34 = .ok (.aload_n 0, 1) := by decide +kernel
theorem dX1_forget_35 : decode cX1_forget 35 = .ok (.getfield 19, 3) := by decide +kernel
theorem dX1_forget_38 : decode cX1_forget 38 = .ok (.iload_n 1, 1) := by decide +kernel
theorem dX1_forget_39 : decode cX1_forget 39 = .ok (.iconst 0, 1) := by decide +kernel
theorem dX1_forget_40 : decode cX1_forget 40 = .ok (.bastore, 1) := by decide +kernel
theorem dX1_forget_41 : decode cX1_forget 41 = .ok (.iinc 1 1, 3) := by decide +kernel
theorem dX1_forget_44 : decode cX1_forget 44 = .ok (.goto (-16), 3) := by decide +kernel
theorem dX1_forget_47 : decode cX1_forget 47 = .ok (.return_, 1) := by decide +kernel
theorem dX1_nearest_0 : decode cX1_nearest 0 = .ok (.iconst (-1), 1) := by decide +kernel
theorem dX1_nearest_1 : decode cX1_nearest 1 = .ok (.istore_n 1, 1) := by decide +kernel
theorem dX1_nearest_2 : decode cX1_nearest 2 = .ok (.ldc2_w 29, 3) := by decide +kernel
theorem dX1_nearest_5 : decode cX1_nearest 5 = .ok (.lstore_n 2, 1) := by decide +kernel
theorem dX1_nearest_6 : decode cX1_nearest 6 = .ok (.iconst 0, 1) := by decide +kernel
theorem dX1_nearest_7 : decode cX1_nearest 7 = .ok (.istore 4, 2) := by decide +kernel
theorem dX1_nearest_9 : decode cX1_nearest 9 = .ok (.iload 4, 2) := by decide +kernel
theorem dX1_nearest_11 : decode cX1_nearest 11 = .ok (.bipush 96, 2) := by decide +kernel
theorem dX1_nearest_13 : decode cX1_nearest 13 = .ok (.if_icmp .ge 42, 3) := by decide +kernel
theorem dX1_nearest_16 : decode cX1_nearest 16 = .ok (.aload_n 0, 1) := by decide +kernel
theorem dX1_nearest_17 : decode cX1_nearest 17 = .ok (.getfield 19, 3) := by decide +kernel
theorem dX1_nearest_20 : decode cX1_nearest 20 = .ok (.iload 4, 2) := by decide +kernel
theorem dX1_nearest_22 : decode cX1_nearest 22 = .ok (.baload, 1) := by decide +kernel
theorem dX1_nearest_23 : decode cX1_nearest 23 = .ok (.ifCond .ne 26, 3) := by decide +kernel
theorem dX1_nearest_26 : decode cX1_nearest 26 = .ok (.aload_n 0, 1) := by decide +kernel
theorem dX1_nearest_27 : decode cX1_nearest 27 = .ok (.getfield 11, 3) := by decide +kernel
theorem dX1_nearest_30 : decode cX1_nearest 30 = .ok (.iload 4, 2) := by decide +kernel
theorem dX1_nearest_32 : decode cX1_nearest 32 = .ok (.laload, 1) := by decide +kernel
theorem dX1_nearest_33 : decode cX1_nearest 33 = .ok (.lload_n 2, 1) := by decide +kernel
theorem dX1_nearest_34 : decode cX1_nearest 34 = .ok (.lcmp, 1) := by decide +kernel
theorem dX1_nearest_35 : decode cX1_nearest 35 = .ok (.ifCond .ge 14, 3) := by decide +kernel
theorem dX1_nearest_38 : decode cX1_nearest 38 = .ok (.iload 4, 2) := by decide +kernel
theorem dX1_nearest_40 : decode cX1_nearest 40 = .ok (.istore_n 1, 1) := by decide +kernel
theorem dX1_nearest_41 : decode cX1_nearest 41 = .ok (.aload_n 0, 1) := by decide +kernel
theorem dX1_nearest_42 : decode cX1_nearest 42 = .ok (.getfield 11, 3) := by decide +kernel
theorem dX1_nearest_45 : decode cX1_nearest 45 = .ok (.iload 4, 2) := by decide +kernel
theorem dX1_nearest_47 : decode cX1_nearest 47 = .ok (.laload, 1) := by decide +kernel
theorem dX1_nearest_48 : decode cX1_nearest 48 = .ok (.lstore_n 2, 1) := by decide +kernel
theorem dX1_nearest_49 : decode cX1_nearest 49 = .ok (.iinc 4 1, 3) := by decide +kernel
theorem dX1_nearest_52 : decode cX1_nearest 52 = .ok (.goto (-43), 3) := by decide +kernel
theorem dX1_nearest_55 : decode cX1_nearest 55 = .ok (.iload_n 1, 1) := by decide +kernel
theorem dX1_nearest_56 : decode cX1_nearest 56 = .ok (.ireturn, 1) := by decide +kernel
theorem dX1_offer_0 : decode cX1_offer 0 = .ok (.iload_n 1, 1) := by decide +kernel
theorem dX1_offer_1 : decode cX1_offer 1 = .ok (.bipush 16, 2) := by decide +kernel
theorem dX1_offer_3 : decode cX1_offer 3 = .ok (.imul, 1) := by decide +kernel
theorem dX1_offer_4 : decode cX1_offer 4 = .ok (.iload_n 2, 1) := by decide +kernel
theorem dX1_offer_5 : decode cX1_offer 5 = .ok (.iadd, 1) := by decide +kernel
theorem dX1_offer_6 : decode cX1_offer 6 = .ok (.istore 6, 2) := by decide +kernel
theorem dX1_offer_8 : decode cX1_offer 8 = .ok (.lload_n 3, 1) := by decide +kernel
theorem dX1_offer_9 : decode cX1_offer 9 = .ok (.aload_n 0, 1) := by decide +kernel
theorem dX1_offer_10 : decode cX1_offer 10 = .ok (.getfield 11, 3) := by decide +kernel
theorem dX1_offer_13 : decode cX1_offer 13 = .ok (.iload 6, 2) := by decide +kernel
theorem dX1_offer_15 : decode cX1_offer 15 = .ok (.laload, 1) := by decide +kernel
theorem dX1_offer_16 : decode cX1_offer 16 = .ok (.lcmp, 1) := by decide +kernel
theorem dX1_offer_17 : decode cX1_offer 17 = .ok (.ifCond .ge 23, 3) := by decide +kernel
theorem dX1_offer_20 : decode cX1_offer 20 = .ok (.aload_n 0, 1) := by decide +kernel
theorem dX1_offer_21 : decode cX1_offer 21 = .ok (.getfield 11, 3) := by decide +kernel
theorem dX1_offer_24 : decode cX1_offer 24 = .ok (.iload 6, 2) := by decide +kernel
theorem dX1_offer_26 : decode cX1_offer 26 = .ok (.lload_n 3, 1) := by decide +kernel
theorem dX1_offer_27 : decode cX1_offer 27 = .ok (.lastore, 1) := by decide +kernel
theorem dX1_offer_28 : decode cX1_offer 28 = .ok (.aload_n 0, 1) := by decide +kernel
theorem dX1_offer_29 : decode cX1_offer 29 = .ok (.getfield 15, 3) := by decide +kernel
theorem dX1_offer_32 : decode cX1_offer 32 = .ok (.iload 6, 2) := by decide +kernel
theorem dX1_offer_34 : decode cX1_offer 34 = .ok (.iload 5, 2) := by decide +kernel
theorem dX1_offer_36 : decode cX1_offer 36 = .ok (.iastore, 1) := by decide +kernel
theorem dX1_offer_37 : decode cX1_offer 37 = .ok (.goto 36, 3) := by decide +kernel
theorem dX1_offer_73 : decode cX1_offer 73 = .ok (.return_, 1) := by decide +kernel
theorem dX1_reaches_0 : decode cX1_reaches 0 = .ok (.aload_n 0, 1) := by decide +kernel
theorem dX1_reaches_1 : decode cX1_reaches 1 = .ok (.getfield 11, 3) := by decide +kernel
theorem dX1_reaches_4 : decode cX1_reaches 4 = .ok (.iload_n 1, 1) := by decide +kernel
theorem dX1_reaches_5 : decode cX1_reaches 5 = .ok (.bipush 16, 2) := by decide +kernel
theorem dX1_reaches_7 : decode cX1_reaches 7 = .ok (.imul, 1) := by decide +kernel
theorem dX1_reaches_8 : decode cX1_reaches 8 = .ok (.iload_n 2, 1) := by decide +kernel
theorem dX1_reaches_9 : decode cX1_reaches 9 = .ok (.iadd, 1) := by decide +kernel
theorem dX1_reaches_10 : decode cX1_reaches 10 = .ok (.laload, 1) := by decide +kernel
theorem dX1_reaches_11 : decode cX1_reaches 11 = .ok (.ldc2_w 29, 3) := by decide +kernel
theorem dX1_reaches_14 : decode cX1_reaches 14 = .ok (.lcmp, 1) := by decide +kernel
theorem dX1_reaches_15 : decode cX1_reaches 15 = .ok (.ifCond .ge 7, 3) := by decide +kernel
theorem dX1_reaches_22 : decode cX1_reaches 22 = .ok (.iconst 0, 1) := by decide +kernel
theorem dX1_reaches_23 : decode cX1_reaches 23 = .ok (.ireturn, 1) := by decide +kernel
theorem dX1_settle_0 : decode cX1_settle 0 = .ok (.aload_n 0, 1) := by decide +kernel
theorem dX1_settle_1 : decode cX1_settle 1 = .ok (.getfield 19, 3) := by decide +kernel
theorem dX1_settle_4 : decode cX1_settle 4 = .ok (.iload_n 1, 1) := by decide +kernel
theorem dX1_settle_5 : decode cX1_settle 5 = .ok (.bipush 16, 2) := by decide +kernel
theorem dX1_settle_7 : decode cX1_settle 7 = .ok (.imul, 1) := by decide +kernel
theorem dX1_settle_8 : decode cX1_settle 8 = .ok (.iload_n 2, 1) := by decide +kernel
theorem dX1_settle_9 : decode cX1_settle 9 = .ok (.iadd, 1) := by decide +kernel
theorem dX1_settle_10 : decode cX1_settle 10 = .ok (.iconst 1, 1) := by decide +kernel
theorem dX1_settle_11 : decode cX1_settle 11 = .ok (.bastore, 1) := by decide +kernel
theorem dX1_settle_12 : decode cX1_settle 12 = .ok (.aload_n 0, 1) := by decide +kernel
theorem dX1_settle_13 : decode cX1_settle 13 = .ok (.getfield 23, 3) := by decide +kernel
theorem dX1_settle_16 : decode cX1_settle 16 = .ok (.iload_n 1, 1) := by decide +kernel
theorem dX1_settle_17 : decode cX1_settle 17 = .ok (.bipush 16, 2) := by decide +kernel
theorem dX1_settle_19 : decode cX1_settle 19 = .ok (.imul, 1) := by decide +kernel
theorem dX1_settle_20 : decode cX1_settle 20 = .ok (.aload_n 0, 1) := by decide +kernel
theorem dX1_settle_21 : decode cX1_settle 21 = .ok (.getfield 26, 3) := by decide +kernel
theorem dX1_settle_24 : decode cX1_settle 24 = .ok (.iload_n 1, 1) := by decide +kernel
theorem dX1_settle_25 : decode cX1_settle 25 = .ok (.iaload, 1) := by decide +kernel
theorem dX1_settle_26 : decode cX1_settle 26 = .ok (.iadd, 1) := by decide +kernel
theorem dX1_settle_27 : decode cX1_settle 27 = .ok (.iload_n 2, 1) := by decide +kernel
theorem dX1_settle_28 : decode cX1_settle 28 = .ok (.iastore, 1) := by decide +kernel
theorem dX1_settle_29 : decode cX1_settle 29 = .ok (.aload_n 0, 1) := by decide +kernel
theorem dX1_settle_30 : decode cX1_settle 30 = .ok (.getfield 26, 3) := by decide +kernel
theorem dX1_settle_33 : decode cX1_settle 33 = .ok (.iload_n 1, 1) := by decide +kernel
theorem dX1_settle_34 : decode cX1_settle 34 = .ok (.dup2, 1) := by decide +kernel
theorem dX1_settle_35 : decode cX1_settle 35 = .ok (.iaload, 1) := by decide +kernel
theorem dX1_settle_36 : decode cX1_settle 36 = .ok (.iconst 1, 1) := by decide +kernel
theorem dX1_settle_37 : decode cX1_settle 37 = .ok (.iadd, 1) := by decide +kernel
theorem dX1_settle_38 : decode cX1_settle 38 = .ok (.iastore, 1) := by decide +kernel
theorem dX1_settle_39 : decode cX1_settle 39 = .ok (.return_, 1) := by decide +kernel
theorem dX1_stepsTo_0 : decode cX1_stepsTo 0 = .ok (.aload_n 0, 1) := by decide +kernel
theorem dX1_stepsTo_1 : decode cX1_stepsTo 1 = .ok (.iload_n 1, 1) := by decide +kernel
theorem dX1_stepsTo_2 : decode cX1_stepsTo 2 = .ok (.iload_n 2, 1) := by decide +kernel
theorem dX1_stepsTo_3 : decode cX1_stepsTo 3 = .ok (.invokevirtual 31, 3) := by decide +kernel
theorem dX1_stepsTo_6 : decode cX1_stepsTo 6 = .ok (.ifCond .eq 24, 3) := by decide +kernel
theorem dX1_stepsTo_30 : decode cX1_stepsTo 30 = .ok (.iconst (-1), 1) := by decide +kernel
theorem dX1_stepsTo_31 : decode cX1_stepsTo 31 = .ok (.ireturn, 1) := by decide +kernel
theorem dX6_bringLights_0 : decode cX6_bringLights 0 = .ok (.aload_n 0, 1) := by decide +kernel
theorem dX6_bringLights_1 : decode cX6_bringLights 1 = .ok (.getfield 50, 3) := by decide +kernel
theorem dX6_bringLights_4 : decode cX6_bringLights 4 = .ok (.ifCond .ne 19, 3) := by decide +kernel
theorem dX6_bringLights_7 : decode cX6_bringLights 7 = .ok (.aload_n 0, 1) := by decide +kernel
theorem dX6_bringLights_8 : decode cX6_bringLights 8 = .ok (.getfield 42, 3) := by decide +kernel
theorem dX6_bringLights_11 : decode cX6_bringLights 11 = .ok (.aload_n 0, 1) := by decide +kernel
theorem dX6_bringLights_12 : decode cX6_bringLights 12 = .ok (.getfield 19, 3) := by decide +kernel
theorem dX6_bringLights_15 : decode cX6_bringLights 15 = .ok (.invokevirtual 206, 3) := by decide +kernel
theorem dX6_bringLights_18 : decode cX6_bringLights 18 = .ok (.aload_n 0, 1) := by decide +kernel
theorem dX6_bringLights_19 : decode cX6_bringLights 19 = .ok (.iconst 1, 1) := by decide +kernel
theorem dX6_bringLights_20 : decode cX6_bringLights 20 = .ok (.putfield 50, 3) := by decide +kernel
theorem dX6_bringLights_23 : decode cX6_bringLights 23 = .ok (.return_, 1) := by decide +kernel
theorem dX6_count_0 : decode cX6_count 0 = .ok (.iload_n 1, 1) := by decide +kernel
theorem dX6_count_1 : decode cX6_count 1 = .ok (.tableswitch 102 0 7 #[47, 55, 63, 71, 79, 87, 92, 97], 47) := by decide +kernel
theorem dX6_count_48 : decode cX6_count 48 = .ok (.aload_n 0, 1) := by decide +kernel
theorem dX6_count_49 : decode cX6_count 49 = .ok (.getfield 10, 3) := by decide +kernel
theorem dX6_count_52 : decode cX6_count 52 = .ok (.getfield 63, 3) := by decide +kernel
theorem dX6_count_55 : decode cX6_count 55 = .ok (.ireturn, 1) := by decide +kernel
theorem dX6_count_56 : decode cX6_count 56 = .ok (.aload_n 0, 1) := by decide +kernel
theorem dX6_count_57 : decode cX6_count 57 = .ok (.getfield 19, 3) := by decide +kernel
theorem dX6_count_60 : decode cX6_count 60 = .ok (.getfield 80, 3) := by decide +kernel
theorem dX6_count_63 : decode cX6_count 63 = .ok (.ireturn, 1) := by decide +kernel
theorem dX6_count_64 : decode cX6_count 64 = .ok (.aload_n 0, 1) := by decide +kernel
theorem dX6_count_65 : decode cX6_count 65 = .ok (.getfield 28, 3) := by decide +kernel
theorem dX6_count_68 : decode cX6_count 68 = .ok (.getfield 102, 3) := by decide +kernel
theorem dX6_count_71 : decode cX6_count 71 = .ok (.ireturn, 1) := by decide +kernel
theorem dX6_count_72 : decode cX6_count 72 = .ok (.aload_n 0, 1) := by decide +kernel
theorem dX6_count_73 : decode cX6_count 73 = .ok (.getfield 28, 3) := by decide +kernel
theorem dX6_count_76 : decode cX6_count 76 = .ok (.getfield 115, 3) := by decide +kernel
theorem dX6_count_79 : decode cX6_count 79 = .ok (.ireturn, 1) := by decide +kernel
theorem dX6_count_80 : decode cX6_count 80 = .ok (.aload_n 0, 1) := by decide +kernel
theorem dX6_count_81 : decode cX6_count 81 = .ok (.getfield 28, 3) := by decide +kernel
theorem dX6_count_84 : decode cX6_count 84 = .ok (.invokevirtual 170, 3) := by decide +kernel
theorem dX6_count_87 : decode cX6_count 87 = .ok (.ireturn, 1) := by decide +kernel
theorem dX6_count_88 : decode cX6_count 88 = .ok (.aload_n 0, 1) := by decide +kernel
theorem dX6_count_89 : decode cX6_count 89 = .ok (.getfield 53, 3) := by decide +kernel
theorem dX6_count_92 : decode cX6_count 92 = .ok (.ireturn, 1) := by decide +kernel
theorem dX6_count_93 : decode cX6_count 93 = .ok (.aload_n 0, 1) := by decide +kernel
theorem dX6_count_94 : decode cX6_count 94 = .ok (.getfield 57, 3) := by decide +kernel
theorem dX6_count_97 : decode cX6_count 97 = .ok (.ireturn, 1) := by decide +kernel
theorem dX6_count_98 : decode cX6_count 98 = .ok (.aload_n 0, 1) := by decide +kernel
theorem dX6_count_99 : decode cX6_count 99 = .ok (.getfield 60, 3) := by decide +kernel
theorem dX6_count_102 : decode cX6_count 102 = .ok (.ireturn, 1) := by decide +kernel
theorem dX6_count_103 : decode cX6_count 103 = .ok (.sipush (-1002), 3) := by decide +kernel
theorem dX6_count_106 : decode cX6_count 106 = .ok (.ireturn, 1) := by decide +kernel
theorem dX6_fewest_0 : decode cX6_fewest 0 = .ok (.iload_n 1, 1) := by decide +kernel
theorem dX6_fewest_1 : decode cX6_fewest 1 = .ok (.invokestatic 123, 3) := by decide +kernel
theorem dX6_fewest_4 : decode cX6_fewest 4 = .ok (.ifCond .ne 7, 3) := by decide +kernel
theorem dX6_fewest_7 : decode cX6_fewest 7 = .ok (.sipush (-1001), 3) := by decide +kernel
theorem dX6_fewest_10 : decode cX6_fewest 10 = .ok (.ireturn, 1) := by decide +kernel
theorem dX6_fewest_11 : decode cX6_fewest 11 = .ok (.aload_n 0, 1) := by decide +kernel
theorem dX6_fewest_12 : decode cX6_fewest 12 = .ok (.getfield 28, 3) := by decide +kernel
theorem dX6_fewest_15 : decode cX6_fewest 15 = .ok (.invokevirtual 140, 3) := by decide +kernel
theorem dX6_fewest_18 : decode cX6_fewest 18 = .ok (.ifCond .eq 25, 3) := by decide +kernel
theorem dX6_fewest_43 : decode cX6_fewest 43 = .ok (.sipush (-1003), 3) := by decide +kernel
theorem dX6_fewest_46 : decode cX6_fewest 46 = .ok (.ireturn, 1) := by decide +kernel
theorem dX6_kind_0 : decode cX6_kind 0 = .ok (.aload_n 0, 1) := by decide +kernel
theorem dX6_kind_1 : decode cX6_kind 1 = .ok (.getfield 28, 3) := by decide +kernel
theorem dX6_kind_4 : decode cX6_kind 4 = .ok (.invokevirtual 140, 3) := by decide +kernel
theorem dX6_kind_7 : decode cX6_kind 7 = .ok (.ifCond .eq 13, 3) := by decide +kernel
theorem dX6_kind_20 : decode cX6_kind 20 = .ok (.sipush (-1003), 3) := by decide +kernel
theorem dX6_kind_23 : decode cX6_kind 23 = .ok (.ireturn, 1) := by decide +kernel
theorem dX6_kinds_0 : decode cX6_kinds 0 = .ok (.iload_n 1, 1) := by decide +kernel
theorem dX6_kinds_1 : decode cX6_kinds 1 = .ok (.invokestatic 123, 3) := by decide +kernel
theorem dX6_kinds_4 : decode cX6_kinds 4 = .ok (.ifCond .ne 7, 3) := by decide +kernel
theorem dX6_kinds_7 : decode cX6_kinds 7 = .ok (.sipush (-1001), 3) := by decide +kernel
theorem dX6_kinds_10 : decode cX6_kinds 10 = .ok (.ireturn, 1) := by decide +kernel
theorem dX6_kinds_11 : decode cX6_kinds 11 = .ok (.aload_n 0, 1) := by decide +kernel
theorem dX6_kinds_12 : decode cX6_kinds 12 = .ok (.invokevirtual 156, 3) := by decide +kernel
theorem dX6_kinds_15 : decode cX6_kinds 15 = .ok (.iconst 0, 1) := by decide +kernel
theorem dX6_kinds_16 : decode cX6_kinds 16 = .ok (.istore_n 2, 1) := by decide +kernel
theorem dX6_kinds_17 : decode cX6_kinds 17 = .ok (.iconst 0, 1) := by decide +kernel
theorem dX6_kinds_18 : decode cX6_kinds 18 = .ok (.istore_n 3, 1) := by decide +kernel
theorem dX6_kinds_19 : decode cX6_kinds 19 = .ok (.iload_n 3, 1) := by decide +kernel
theorem dX6_kinds_20 : decode cX6_kinds 20 = .ok (.bipush 16, 2) := by decide +kernel
theorem dX6_kinds_22 : decode cX6_kinds 22 = .ok (.if_icmp .ge 27, 3) := by decide +kernel
theorem dX6_kinds_25 : decode cX6_kinds 25 = .ok (.aload_n 0, 1) := by decide +kernel
theorem dX6_kinds_26 : decode cX6_kinds 26 = .ok (.getfield 42, 3) := by decide +kernel
theorem dX6_kinds_29 : decode cX6_kinds 29 = .ok (.iload_n 1, 1) := by decide +kernel
theorem dX6_kinds_30 : decode cX6_kinds 30 = .ok (.iload_n 3, 1) := by decide +kernel
theorem dX6_kinds_31 : decode cX6_kinds 31 = .ok (.invokevirtual 159, 3) := by decide +kernel
theorem dX6_kinds_34 : decode cX6_kinds 34 = .ok (.ifCond .eq 9, 3) := by decide +kernel
theorem dX6_kinds_43 : decode cX6_kinds 43 = .ok (.iinc 3 1, 3) := by decide +kernel
theorem dX6_kinds_46 : decode cX6_kinds 46 = .ok (.goto (-27), 3) := by decide +kernel
theorem dX6_kinds_49 : decode cX6_kinds 49 = .ok (.iload_n 2, 1) := by decide +kernel
theorem dX6_kinds_50 : decode cX6_kinds 50 = .ok (.ireturn, 1) := by decide +kernel
theorem dX6_light_0 : decode cX6_light 0 = .ok (.iload_n 1, 1) := by decide +kernel
theorem dX6_light_1 : decode cX6_light 1 = .ok (.invokestatic 123, 3) := by decide +kernel
theorem dX6_light_4 : decode cX6_light 4 = .ok (.ifCond .ne 7, 3) := by decide +kernel
theorem dX6_light_7 : decode cX6_light 7 = .ok (.sipush (-1001), 3) := by decide +kernel
theorem dX6_light_10 : decode cX6_light 10 = .ok (.ireturn, 1) := by decide +kernel
theorem dX6_light_11 : decode cX6_light 11 = .ok (.iload_n 2, 1) := by decide +kernel
theorem dX6_light_12 : decode cX6_light 12 = .ok (.ifCond .lt 18, 3) := by decide +kernel
theorem dX6_light_15 : decode cX6_light 15 = .ok (.iload_n 2, 1) := by decide +kernel
theorem dX6_light_16 : decode cX6_light 16 = .ok (.bipush 16, 2) := by decide +kernel
theorem dX6_light_18 : decode cX6_light 18 = .ok (.if_icmp .ge 12, 3) := by decide +kernel
theorem dX6_light_21 : decode cX6_light 21 = .ok (.iload_n 3, 1) := by decide +kernel
theorem dX6_light_22 : decode cX6_light 22 = .ok (.ifCond .lt 8, 3) := by decide +kernel
theorem dX6_light_25 : decode cX6_light 25 = .ok (.iload_n 3, 1) := by decide +kernel
theorem dX6_light_26 : decode cX6_light 26 = .ok (.iconst 1, 1) := by decide +kernel
theorem dX6_light_27 : decode cX6_light 27 = .ok (.if_icmp .le 7, 3) := by decide +kernel
theorem dX6_light_30 : decode cX6_light 30 = .ok (.sipush (-1002), 3) := by decide +kernel
theorem dX6_light_33 : decode cX6_light 33 = .ok (.ireturn, 1) := by decide +kernel
theorem dX6_light_34 : decode cX6_light 34 = .ok (.aload_n 0, 1) := by decide +kernel
theorem dX6_light_35 : decode cX6_light 35 = .ok (.invokevirtual 156, 3) := by decide +kernel
theorem dX6_light_38 : decode cX6_light 38 = .ok (.iload_n 3, 1) := by decide +kernel
theorem dX6_light_39 : decode cX6_light 39 = .ok (.ifCond .ne 15, 3) := by decide +kernel
theorem dX6_light_42 : decode cX6_light 42 = .ok (.aload_n 0, 1) := by decide +kernel
theorem dX6_light_43 : decode cX6_light 43 = .ok (.getfield 42, 3) := by decide +kernel
theorem dX6_light_46 : decode cX6_light 46 = .ok (.iload_n 1, 1) := by decide +kernel
theorem dX6_light_47 : decode cX6_light 47 = .ok (.iload_n 2, 1) := by decide +kernel
theorem dX6_light_48 : decode cX6_light 48 = .ok (.invokevirtual 163, 3) := by decide +kernel
theorem dX6_light_51 : decode cX6_light 51 = .ok (.goto 12, 3) := by decide +kernel
theorem dX6_light_54 : decode cX6_light 54 = .ok (.aload_n 0, 1) := by decide +kernel
theorem dX6_light_55 : decode cX6_light 55 = .ok (.getfield 42, 3) := by decide +kernel
theorem dX6_light_58 : decode cX6_light 58 = .ok (.iload_n 1, 1) := by decide +kernel
theorem dX6_light_59 : decode cX6_light 59 = .ok (.iload_n 2, 1) := by decide +kernel
theorem dX6_light_60 : decode cX6_light 60 = .ok (.invokevirtual 167, 3) := by decide +kernel
theorem dX6_light_63 : decode cX6_light 63 = .ok (.ireturn, 1) := by decide +kernel
section
variable (l : Launch) (D : va_G) (cI cJ cZ cR : ClassId)
set_option maxHeartbeats 4000000 in
set_option maxRecDepth 100000 in
theorem c_J7_fill_d0a16 (sz : Nat) (h0 : Nat) (N : Nat) (ff : Nat → Int64) (p1 : Int64) (hN : N < 2147483648) : CTv l D cI cJ cZ cR yJ7_fill_d0a16 cJ7_fill_d0a16 5 none 0 0 0 0 sz [.ref h0, .long p1] [(h0, .inl (cJ, N, .inr (.inl ff)))] (fun (u : Unit) => True) (fun (u : Unit) => [(h0, .inl (cJ, N, .inr (.inl (fun _ => p1))))]) := by
  refine CTv.of (by decide) (Nat.le_of_ble_eq_true rfl) rfl ?_
  intro p e s m below meth c A Q ls hd hin hK hsz hP hD hA hS hl hret
  obtain ⟨hx, hb, hml, hown, hts⟩ := id hd
  have hK1 := hK.1
  have hown : s.vm.findClass RJ7 = some m.cls := hown
  have hl : lv_has ls 5 [(0, .ref h0), (1, .long p1)] := hl
  refine lv_iconst (v := 0) hx hb dJ7_fill_d0a16_0 (by decide) ?_
  refine lv_istore_n (lv' := [(3, .int 0), (0, .ref h0), (1, .long p1)]) hx hb dJ7_fill_d0a16_1 rfl hl (by decide) rfl (fun ls hl => ?_)
  refine lv_aload_n hx hb dJ7_fill_d0a16_2 rfl (lv_at hl 1 rfl) ?_
  refine va_alen hx hb hK1 hP 0 1 rfl rfl (v := (nI N)) rfl dJ7_fill_d0a16_3 ?_
  refine lv_istore (lv' := [(4, .int (nI N)), (3, .int 0), (0, .ref h0), (1, .long p1)]) hx hb dJ7_fill_d0a16_4 hl (by decide) rfl (fun ls hl => ?_)
  have LOOP_6 : ∀ (n : Nat) (i : Nat) (gg : Nat → Int64), (i + n = N) → (∀ j, j < i → gg j = p1) → ∀ (H : Heap) (locs : List Loc) (ls : Array Slot), va_P D vwCl [(h0, .inl (cJ, N, .inr (.inl gg)))] H → va_D A [(h0, .inl (cJ, N, .inr (.inl gg)))] → va_S A s.heap H locs → lv_has ls 5 [(0, .ref h0), (1, .long p1), (3, .int (nI i)), (4, .int (nI N))] → W p l e (rM 0 0 0 0) s m ([.ref h0, .long p1] : List Value).toArray below meth c H locs 0 0 Q (F0 m 6 ls []) := by
    intro n
    induction n with
    | zero =>
      intro i gg hi hg H locs ls hP hD hS hl
      obtain ⟨hP, hD⟩ := va_P.rowJ (g := fun _ => p1) 0 hP hD rfl (fun j hj => hg j (by omega))
      have hP : va_P D vwCl [(h0, .inl (cJ, N, .inr (.inl (fun _ => p1))))] H := hP
      have hD : va_D A [(h0, .inl (cJ, N, .inr (.inl (fun _ => p1))))] := hD
      refine lv_iload_n hx hb dJ7_fill_d0a16_6 rfl (lv_at hl 2 rfl) ?_
      refine lv_iload hx hb dJ7_fill_d0a16_7 (lv_at hl 3 rfl) ?_
      refine lv_icmp_ge (tgt := 22) hx hb dJ7_fill_d0a16_9 (by decide) (fun c_1 => ?_) (fun c_1 => ?_)
      rotate_left
      · exact absurd (nI_le (a := N) (b := i) (by omega) (by omega)) c_1
      exact hret _ _ _ _ _ _ () dJ7_fill_d0a16_22 hS (Nat.le_of_ble_eq_true rfl) (Nat.le_of_ble_eq_true rfl) trivial (hP.sub [0] rfl) (hD.sub [0] rfl rfl)
    | succ n ih_6 =>
      intro i gg hi hg H locs ls hP hD hS hl
      refine lv_iload_n hx hb dJ7_fill_d0a16_6 rfl (lv_at hl 2 rfl) ?_
      refine lv_iload hx hb dJ7_fill_d0a16_7 (lv_at hl 3 rfl) ?_
      refine lv_icmp_ge (tgt := 22) hx hb dJ7_fill_d0a16_9 (by decide) (fun c_2 => ?_) (fun c_2 => ?_)
      · exact absurd c_2 (nI_ge (a := i) (b := N) (by omega) (by omega))
      refine lv_aload_n hx hb dJ7_fill_d0a16_12 rfl (lv_at hl 0 rfl) ?_
      refine lv_iload_n hx hb dJ7_fill_d0a16_13 rfl (lv_at hl 2 rfl) ?_
      refine lv_lload_n hx hb dJ7_fill_d0a16_14 rfl (lv_at hl 1 rfl) ?_
      refine va_last hx hb hK1 hP hD hS 0 1 rfl rfl (vp_in_nI (by omega) (by omega)) dJ7_fill_d0a16_15 (fun H locs hP hD hS => ?_)
      rw [nI_clamp (n := i) (by omega)] at hP hD
      have hP : va_P D vwCl [(h0, .inl (cJ, N, .inr (.inl (vp_updL gg i p1))))] H := hP
      have hD : va_D A [(h0, .inl (cJ, N, .inr (.inl (vp_updL gg i p1))))] := hD
      refine lv_iinc (v := nI (i + 1)) (lv' := [(3, .int (nI (i + 1))), (0, .ref h0), (1, .long p1), (4, .int (nI N))]) hx hb dJ7_fill_d0a16_16 hl (k := 2) rfl (nI_1 i) (by decide) rfl (fun ls hl => ?_)
      refine lv_goto (tgt := 6) hx hb dJ7_fill_d0a16_19 (by decide) ?_
      exact ih_6 (i + 1) (vp_updL gg i p1) (by omega) (upL_lt hg) _ _ _ (hP.sub [0] rfl) (hD.sub [0] rfl rfl) hS (lv_sub hl [1, 2, 0, 3] rfl)
  exact LOOP_6 N 0 ff (by omega) (fun j hj => absurd hj (by omega)) _ _ _ (hP.sub [0] rfl) (hD.sub [0] rfl rfl) hS (lv_sub hl [2, 3, 1, 0] rfl)
set_option maxHeartbeats 4000000 in
set_option maxRecDepth 100000 in
theorem c_J7_fill_53178 (sz : Nat) (h0 : Nat) (N : Nat) (ff : Nat → Int32) (p1 : Int32) (hN : N < 2147483648) : CTv l D cI cJ cZ cR yJ7_fill_53178 cJ7_fill_53178 4 none 0 0 0 0 sz [.ref h0, .int p1] [(h0, .inl (cI, N, .inl ff))] (fun (u : Unit) => True) (fun (u : Unit) => [(h0, .inl (cI, N, .inl (fun _ => p1)))]) := by
  refine CTv.of (by decide) (Nat.le_of_ble_eq_true rfl) rfl ?_
  intro p e s m below meth c A Q ls hd hin hK hsz hP hD hA hS hl hret
  obtain ⟨hx, hb, hml, hown, hts⟩ := id hd
  have hK1 := hK.1
  have hown : s.vm.findClass RJ7 = some m.cls := hown
  have hl : lv_has ls 4 [(0, .ref h0), (1, .int p1)] := hl
  refine lv_iconst (v := 0) hx hb dJ7_fill_53178_0 (by decide) ?_
  refine lv_istore_n (lv' := [(2, .int 0), (0, .ref h0), (1, .int p1)]) hx hb dJ7_fill_53178_1 rfl hl (by decide) rfl (fun ls hl => ?_)
  refine lv_aload_n hx hb dJ7_fill_53178_2 rfl (lv_at hl 1 rfl) ?_
  refine va_alen hx hb hK1 hP 0 0 rfl rfl (v := (nI N)) rfl dJ7_fill_53178_3 ?_
  refine lv_istore_n (lv' := [(3, .int (nI N)), (2, .int 0), (0, .ref h0), (1, .int p1)]) hx hb dJ7_fill_53178_4 rfl hl (by decide) rfl (fun ls hl => ?_)
  have LOOP_5 : ∀ (n : Nat) (i : Nat) (gg : Nat → Int32), (i + n = N) → (∀ j, j < i → gg j = p1) → ∀ (H : Heap) (locs : List Loc) (ls : Array Slot), va_P D vwCl [(h0, .inl (cI, N, .inl gg))] H → va_D A [(h0, .inl (cI, N, .inl gg))] → va_S A s.heap H locs → lv_has ls 4 [(0, .ref h0), (1, .int p1), (2, .int (nI i)), (3, .int (nI N))] → W p l e (rM 0 0 0 0) s m ([.ref h0, .int p1] : List Value).toArray below meth c H locs 0 0 Q (F0 m 5 ls []) := by
    intro n
    induction n with
    | zero =>
      intro i gg hi hg H locs ls hP hD hS hl
      obtain ⟨hP, hD⟩ := va_P.rowI (g := fun _ => p1) 0 hP hD rfl (fun j hj => hg j (by omega))
      have hP : va_P D vwCl [(h0, .inl (cI, N, .inl (fun _ => p1)))] H := hP
      have hD : va_D A [(h0, .inl (cI, N, .inl (fun _ => p1)))] := hD
      refine lv_iload_n hx hb dJ7_fill_53178_5 rfl (lv_at hl 2 rfl) ?_
      refine lv_iload_n hx hb dJ7_fill_53178_6 rfl (lv_at hl 3 rfl) ?_
      refine lv_icmp_ge (tgt := 20) hx hb dJ7_fill_53178_7 (by decide) (fun c_1 => ?_) (fun c_1 => ?_)
      rotate_left
      · exact absurd (nI_le (a := N) (b := i) (by omega) (by omega)) c_1
      exact hret _ _ _ _ _ _ () dJ7_fill_53178_20 hS (Nat.le_of_ble_eq_true rfl) (Nat.le_of_ble_eq_true rfl) trivial (hP.sub [0] rfl) (hD.sub [0] rfl rfl)
    | succ n ih_5 =>
      intro i gg hi hg H locs ls hP hD hS hl
      refine lv_iload_n hx hb dJ7_fill_53178_5 rfl (lv_at hl 2 rfl) ?_
      refine lv_iload_n hx hb dJ7_fill_53178_6 rfl (lv_at hl 3 rfl) ?_
      refine lv_icmp_ge (tgt := 20) hx hb dJ7_fill_53178_7 (by decide) (fun c_2 => ?_) (fun c_2 => ?_)
      · exact absurd c_2 (nI_ge (a := i) (b := N) (by omega) (by omega))
      refine lv_aload_n hx hb dJ7_fill_53178_10 rfl (lv_at hl 0 rfl) ?_
      refine lv_iload_n hx hb dJ7_fill_53178_11 rfl (lv_at hl 2 rfl) ?_
      refine lv_iload_n hx hb dJ7_fill_53178_12 rfl (lv_at hl 1 rfl) ?_
      refine va_iast hx hb hK1 hP hD hS 0 0 rfl rfl (vp_in_nI (by omega) (by omega)) dJ7_fill_53178_13 (fun H locs hP hD hS => ?_)
      rw [nI_clamp (n := i) (by omega)] at hP hD
      have hP : va_P D vwCl [(h0, .inl (cI, N, .inl (upd gg i p1)))] H := hP
      have hD : va_D A [(h0, .inl (cI, N, .inl (upd gg i p1)))] := hD
      refine lv_iinc (v := nI (i + 1)) (lv' := [(2, .int (nI (i + 1))), (0, .ref h0), (1, .int p1), (3, .int (nI N))]) hx hb dJ7_fill_53178_14 hl (k := 2) rfl (nI_1 i) (by decide) rfl (fun ls hl => ?_)
      refine lv_goto (tgt := 5) hx hb dJ7_fill_53178_17 (by decide) ?_
      exact ih_5 (i + 1) (upd gg i p1) (by omega) (up_lt hg) _ _ _ (hP.sub [0] rfl) (hD.sub [0] rfl rfl) hS (lv_sub hl [1, 2, 0, 3] rfl)
  exact LOOP_5 N 0 ff (by omega) (fun j hj => absurd hj (by omega)) _ _ _ (hP.sub [0] rfl) (hD.sub [0] rfl rfl) hS (lv_sub hl [2, 3, 1, 0] rfl)
set_option maxHeartbeats 4000000 in
set_option maxRecDepth 100000 in
theorem c_X1_forget (sz : Nat) (lg : Nat) (l1 : Nat) (l2 : Nat) (l3 : Nat) (l4 : Nat) (l5 : Nat) (ff : Nat → Int64) (gf : Nat → Int32) (zf : Nat → Int32) (kf : Nat → Int32) (cf : Nat → Int32)  : CTv l D cI cJ cZ cR yX1_forget cX1_forget 2 none 1 24 0 0 sz [.ref lg] [(lg, .inr (1, [.ref l1, .ref l2, .ref l3, .ref l4, .ref l5])), (l1, .inl (cJ, 96, .inr (.inl ff))), (l2, .inl (cI, 96, .inl gf)), (l3, .inl (cZ, 96, .inl zf)), (l4, .inl (cI, 96, .inl kf)), (l5, .inl (cI, 6, .inl cf))] (fun (u : Unit) => True) (fun (u : Unit) => [(lg, .inr (1, [.ref l1, .ref l2, .ref l3, .ref l4, .ref l5])), (l1, .inl (cJ, 96, .inr (.inl (fun _ => 2305843009213693952)))), (l2, .inl (cI, 96, .inl (fun _ => (-1)))), (l3, .inl (cZ, 96, .inl (fun _ => 0))), (l4, .inl (cI, 96, .inl kf)), (l5, .inl (cI, 6, .inl (fun _ => 0)))]) := by
  refine CTv.of (by decide) (Nat.le_of_ble_eq_true rfl) rfl ?_
  intro p e s m below meth c A Q ls hd hin hK hsz hP hD hA hS hl hret
  obtain ⟨hx, hb, hml, hown, hts⟩ := id hd
  have hK1 := hK.1
  have hown : s.vm.findClass RX1 = some m.cls := hown
  have hl : lv_has ls 2 [(0, .ref lg)] := hl
  refine lv_aload_n hx hb dX1_forget_0 rfl (lv_at hl 0 rfl) ?_
  refine va_get (D := D) (ci := 1) (v := .ref l1) (C := RX1) (T := TX1) (N := 5) hx hb hts iT_X1 hown hK1 hP 0 rfl rfl 0 (by decide) (hts _ t_136) (fun _ h9 => h9) rfl dX1_forget_1 ?_
  refine lv_ldc2 hx hb hown (hts _ t_462) dX1_forget_4 ?_
  refine xc_v (wc := [(l1, .inl (cJ, 96, .inr (.inl ff)))]) (wr := [(lg, .inr (1, [.ref l1, .ref l2, .ref l3, .ref l4, .ref l5])), (l2, .inl (cI, 96, .inl gf)), (l3, .inl (cZ, 96, .inl zf)), (l4, .inl (cI, 96, .inl kf)), (l5, .inl (cI, 6, .inl cf))]) (xrS (n := 2) (As := [.ref l1, .long 2305843009213693952]) (rest := []) hd hK hP hD (c_J7_fill_d0a16 l D cI cJ cZ cR _ l1 96 ff 2305843009213693952 (by decide)) (gS t_463 mS_J7_fill_d0a16) hS_J7_fill_d0a16 ⟨(Nat.le_of_ble_eq_true rfl), (Nat.le_of_ble_eq_true rfl)⟩ [1] rfl rfl rfl hl.1 rfl (Nat.le_of_ble_eq_true rfl) dX1_forget_7 ⟨(Nat.le_of_ble_eq_true rfl), (Nat.le_of_ble_eq_true rfl)⟩) hP hD hS hA [1] [0, 2, 3, 4, 5] rfl rfl rfl (by decide) (fun u_2 H locs hw_3 hP hD hS => ?_)
  have hP : va_P D vwCl [(lg, .inr (1, [.ref l1, .ref l2, .ref l3, .ref l4, .ref l5])), (l2, .inl (cI, 96, .inl gf)), (l3, .inl (cZ, 96, .inl zf)), (l4, .inl (cI, 96, .inl kf)), (l5, .inl (cI, 6, .inl cf)), (l1, .inl (cJ, 96, .inr (.inl (fun _ => 2305843009213693952))))] H := hP
  have hD : va_D A [(lg, .inr (1, [.ref l1, .ref l2, .ref l3, .ref l4, .ref l5])), (l2, .inl (cI, 96, .inl gf)), (l3, .inl (cZ, 96, .inl zf)), (l4, .inl (cI, 96, .inl kf)), (l5, .inl (cI, 6, .inl cf)), (l1, .inl (cJ, 96, .inr (.inl (fun _ => 2305843009213693952))))] := hD
  refine lv_aload_n hx hb dX1_forget_10 rfl (lv_at hl 0 rfl) ?_
  refine va_get (D := D) (ci := 1) (v := .ref l2) (C := RX1) (T := TX1) (N := 5) hx hb hts iT_X1 hown hK1 hP 0 rfl rfl 1 (by decide) (hts _ t_137) (fun _ h9 => h9) rfl dX1_forget_11 ?_
  refine lv_iconst (v := -1) hx hb dX1_forget_14 (by decide) ?_
  refine xc_v (wc := [(l2, .inl (cI, 96, .inl gf))]) (wr := [(lg, .inr (1, [.ref l1, .ref l2, .ref l3, .ref l4, .ref l5])), (l3, .inl (cZ, 96, .inl zf)), (l4, .inl (cI, 96, .inl kf)), (l5, .inl (cI, 6, .inl cf)), (l1, .inl (cJ, 96, .inr (.inl (fun _ => 2305843009213693952))))]) (xrS (n := 2) (As := [.ref l2, .int (-1)]) (rest := []) hd hK hP hD (c_J7_fill_53178 l D cI cJ cZ cR _ l2 96 gf (-1) (by decide)) (gS t_466 mS_J7_fill_53178) hS_J7_fill_53178 ⟨(Nat.le_of_ble_eq_true rfl), (Nat.le_of_ble_eq_true rfl)⟩ [1] rfl rfl rfl hl.1 rfl (Nat.le_of_ble_eq_true rfl) dX1_forget_15 ⟨(Nat.le_of_ble_eq_true rfl), (Nat.le_of_ble_eq_true rfl)⟩) hP hD hS hA [1] [0, 2, 3, 4, 5] rfl rfl rfl (by decide) (fun u_5 H locs hw_6 hP hD hS => ?_)
  have hP : va_P D vwCl [(lg, .inr (1, [.ref l1, .ref l2, .ref l3, .ref l4, .ref l5])), (l3, .inl (cZ, 96, .inl zf)), (l4, .inl (cI, 96, .inl kf)), (l5, .inl (cI, 6, .inl cf)), (l1, .inl (cJ, 96, .inr (.inl (fun _ => 2305843009213693952)))), (l2, .inl (cI, 96, .inl (fun _ => (-1))))] H := hP
  have hD : va_D A [(lg, .inr (1, [.ref l1, .ref l2, .ref l3, .ref l4, .ref l5])), (l3, .inl (cZ, 96, .inl zf)), (l4, .inl (cI, 96, .inl kf)), (l5, .inl (cI, 6, .inl cf)), (l1, .inl (cJ, 96, .inr (.inl (fun _ => 2305843009213693952)))), (l2, .inl (cI, 96, .inl (fun _ => (-1))))] := hD
  refine lv_aload_n hx hb dX1_forget_18 rfl (lv_at hl 0 rfl) ?_
  refine va_get (D := D) (ci := 1) (v := .ref l5) (C := RX1) (T := TX1) (N := 5) hx hb hts iT_X1 hown hK1 hP 0 rfl rfl 4 (by decide) (hts _ t_140) (fun _ h9 => h9) rfl dX1_forget_19 ?_
  refine lv_iconst (v := 0) hx hb dX1_forget_22 (by decide) ?_
  refine xc_v (wc := [(l5, .inl (cI, 6, .inl cf))]) (wr := [(lg, .inr (1, [.ref l1, .ref l2, .ref l3, .ref l4, .ref l5])), (l3, .inl (cZ, 96, .inl zf)), (l4, .inl (cI, 96, .inl kf)), (l1, .inl (cJ, 96, .inr (.inl (fun _ => 2305843009213693952)))), (l2, .inl (cI, 96, .inl (fun _ => (-1))))]) (xrS (n := 2) (As := [.ref l5, .int 0]) (rest := []) hd hK hP hD (c_J7_fill_53178 l D cI cJ cZ cR _ l5 6 cf 0 (by decide)) (gS t_466 mS_J7_fill_53178) hS_J7_fill_53178 ⟨(Nat.le_of_ble_eq_true rfl), (Nat.le_of_ble_eq_true rfl)⟩ [3] rfl rfl rfl hl.1 rfl (Nat.le_of_ble_eq_true rfl) dX1_forget_23 ⟨(Nat.le_of_ble_eq_true rfl), (Nat.le_of_ble_eq_true rfl)⟩) hP hD hS hA [3] [0, 1, 2, 4, 5] rfl rfl rfl (by decide) (fun u_8 H locs hw_9 hP hD hS => ?_)
  have hP : va_P D vwCl [(lg, .inr (1, [.ref l1, .ref l2, .ref l3, .ref l4, .ref l5])), (l3, .inl (cZ, 96, .inl zf)), (l4, .inl (cI, 96, .inl kf)), (l1, .inl (cJ, 96, .inr (.inl (fun _ => 2305843009213693952)))), (l2, .inl (cI, 96, .inl (fun _ => (-1)))), (l5, .inl (cI, 6, .inl (fun _ => 0)))] H := hP
  have hD : va_D A [(lg, .inr (1, [.ref l1, .ref l2, .ref l3, .ref l4, .ref l5])), (l3, .inl (cZ, 96, .inl zf)), (l4, .inl (cI, 96, .inl kf)), (l1, .inl (cJ, 96, .inr (.inl (fun _ => 2305843009213693952)))), (l2, .inl (cI, 96, .inl (fun _ => (-1)))), (l5, .inl (cI, 6, .inl (fun _ => 0)))] := hD
  refine lv_iconst (v := 0) hx hb dX1_forget_26 (by decide) ?_
  refine lv_istore_n (lv' := [(1, .int 0), (0, .ref lg)]) hx hb dX1_forget_27 rfl hl (by decide) rfl (fun ls hl => ?_)
  have LOOP_28 : ∀ (n : Nat) (i : Nat) (zz : Nat → Int32), (i + n = 96) → (∀ j, j < i → zz j = 0) → ∀ (H : Heap) (locs : List Loc) (ls : Array Slot), va_P D vwCl [(lg, .inr (1, [.ref l1, .ref l2, .ref l3, .ref l4, .ref l5])), (l1, .inl (cJ, 96, .inr (.inl (fun _ => 2305843009213693952)))), (l2, .inl (cI, 96, .inl (fun _ => (-1)))), (l3, .inl (cZ, 96, .inl zz)), (l4, .inl (cI, 96, .inl kf)), (l5, .inl (cI, 6, .inl (fun _ => 0)))] H → va_D A [(lg, .inr (1, [.ref l1, .ref l2, .ref l3, .ref l4, .ref l5])), (l1, .inl (cJ, 96, .inr (.inl (fun _ => 2305843009213693952)))), (l2, .inl (cI, 96, .inl (fun _ => (-1)))), (l3, .inl (cZ, 96, .inl zz)), (l4, .inl (cI, 96, .inl kf)), (l5, .inl (cI, 6, .inl (fun _ => 0)))] → va_S A s.heap H locs → lv_has ls 2 [(0, .ref lg), (1, .int (nI i))] → W p l e (rM 1 0 0 24) s m ([.ref lg] : List Value).toArray below meth c H locs 0 0 Q (F0 m 28 ls []) := by
    intro n
    induction n with
    | zero =>
      intro i zz hi hg H locs ls hP hD hS hl
      obtain ⟨hP, hD⟩ := va_P.rowI (g := fun _ => 0) 3 hP hD rfl (fun j hj => hg j (by omega))
      have hP : va_P D vwCl [(lg, .inr (1, [.ref l1, .ref l2, .ref l3, .ref l4, .ref l5])), (l1, .inl (cJ, 96, .inr (.inl (fun _ => 2305843009213693952)))), (l2, .inl (cI, 96, .inl (fun _ => (-1)))), (l3, .inl (cZ, 96, .inl (fun _ => 0))), (l4, .inl (cI, 96, .inl kf)), (l5, .inl (cI, 6, .inl (fun _ => 0)))] H := hP
      have hD : va_D A [(lg, .inr (1, [.ref l1, .ref l2, .ref l3, .ref l4, .ref l5])), (l1, .inl (cJ, 96, .inr (.inl (fun _ => 2305843009213693952)))), (l2, .inl (cI, 96, .inl (fun _ => (-1)))), (l3, .inl (cZ, 96, .inl (fun _ => 0))), (l4, .inl (cI, 96, .inl kf)), (l5, .inl (cI, 6, .inl (fun _ => 0)))] := hD
      refine lv_iload_n hx hb dX1_forget_28 rfl (lv_at hl 1 rfl) ?_
      refine lv_bipush (v := 96) hx hb dX1_forget_29 (by decide) ?_
      refine lv_icmp_ge (tgt := 47) hx hb dX1_forget_31 (by decide) (fun c_10 => ?_) (fun c_10 => ?_)
      rotate_left
      · exact absurd (nI_le (a := 96) (b := i) (by omega) (by omega)) c_10
      exact hret _ _ _ _ _ _ () dX1_forget_47 hS (Nat.le_of_ble_eq_true rfl) (Nat.le_of_ble_eq_true rfl) trivial (hP.sub [0, 1, 2, 3, 4, 5] rfl) (hD.sub [0, 1, 2, 3, 4, 5] rfl rfl)
    | succ n ih_28 =>
      intro i zz hi hg H locs ls hP hD hS hl
      refine lv_iload_n hx hb dX1_forget_28 rfl (lv_at hl 1 rfl) ?_
      refine lv_bipush (v := 96) hx hb dX1_forget_29 (by decide) ?_
      refine lv_icmp_ge (tgt := 47) hx hb dX1_forget_31 (by decide) (fun c_11 => ?_) (fun c_11 => ?_)
      · exact absurd c_11 (nI_ge (a := i) (b := 96) (by omega) (by omega))
      refine lv_aload_n hx hb dX1_forget_34 rfl (lv_at hl 0 rfl) ?_
      refine va_get (D := D) (ci := 1) (v := .ref l3) (C := RX1) (T := TX1) (N := 5) hx hb hts iT_X1 hown hK1 hP 0 rfl rfl 2 (by decide) (hts _ t_138) (fun _ h9 => h9) rfl dX1_forget_35 ?_
      refine lv_iload_n hx hb dX1_forget_38 rfl (lv_at hl 1 rfl) ?_
      refine lv_iconst (v := 0) hx hb dX1_forget_39 (by decide) ?_
      refine va_zast hx hb hK1 hP hD hS 3 2 rfl rfl (vp_in_nI (by omega) (by omega)) dX1_forget_40 (fun H locs hP hD hS => ?_)
      rw [nI_clamp (n := i) (by omega)] at hP hD
      have hP : va_P D vwCl [(lg, .inr (1, [.ref l1, .ref l2, .ref l3, .ref l4, .ref l5])), (l1, .inl (cJ, 96, .inr (.inl (fun _ => 2305843009213693952)))), (l2, .inl (cI, 96, .inl (fun _ => (-1)))), (l3, .inl (cZ, 96, .inl (upd zz i 0))), (l4, .inl (cI, 96, .inl kf)), (l5, .inl (cI, 6, .inl (fun _ => 0)))] H := hP
      have hD : va_D A [(lg, .inr (1, [.ref l1, .ref l2, .ref l3, .ref l4, .ref l5])), (l1, .inl (cJ, 96, .inr (.inl (fun _ => 2305843009213693952)))), (l2, .inl (cI, 96, .inl (fun _ => (-1)))), (l3, .inl (cZ, 96, .inl (upd zz i 0))), (l4, .inl (cI, 96, .inl kf)), (l5, .inl (cI, 6, .inl (fun _ => 0)))] := hD
      refine lv_iinc (v := nI (i + 1)) (lv' := [(1, .int (nI (i + 1))), (0, .ref lg)]) hx hb dX1_forget_41 hl (k := 1) rfl (nI_1 i) (by decide) rfl (fun ls hl => ?_)
      refine lv_goto (tgt := 28) hx hb dX1_forget_44 (by decide) ?_
      exact ih_28 (i + 1) (upd zz i 0) (by omega) (up_lt hg) _ _ _ (hP.sub [0, 1, 2, 3, 4, 5] rfl) (hD.sub [0, 1, 2, 3, 4, 5] rfl rfl) hS (lv_sub hl [1, 0] rfl)
  exact LOOP_28 96 0 zf (by omega) (fun j hj => absurd hj (by omega)) _ _ _ (hP.sub [0, 3, 4, 1, 2, 5] rfl) (hD.sub [0, 3, 4, 1, 2, 5] rfl rfl) hS (lv_sub hl [1, 0] rfl)
set_option maxHeartbeats 4000000 in
set_option maxRecDepth 100000 in
theorem c_offer_57 (sz : Nat) (lg : Nat) (l1 : Nat) (l2 : Nat) (l3 : Nat) (l4 : Nat) (l5 : Nat) (ff : Nat → Int64) (gf : Nat → Int32) (zf : Nat → Int32) (kf : Nat → Int32) (cf : Nat → Int32) (hf : ff 57 = 2305843009213693952) : CTv l D cI cJ cZ cR yX1_offer cX1_offer 7 none 0 0 0 0 sz [.ref lg, .int 3, .int 9, .long 0, .int (-1)] [(lg, .inr (1, [.ref l1, .ref l2, .ref l3, .ref l4, .ref l5])), (l1, .inl (cJ, 96, .inr (.inl ff))), (l2, .inl (cI, 96, .inl gf)), (l3, .inl (cZ, 96, .inl zf)), (l4, .inl (cI, 96, .inl kf)), (l5, .inl (cI, 6, .inl cf))] (fun (u : Unit) => True) (fun (u : Unit) => [(lg, .inr (1, [.ref l1, .ref l2, .ref l3, .ref l4, .ref l5])), (l1, .inl (cJ, 96, .inr (.inl (vp_updL ff 57 0)))), (l2, .inl (cI, 96, .inl (upd gf 57 (-1)))), (l3, .inl (cZ, 96, .inl zf)), (l4, .inl (cI, 96, .inl kf)), (l5, .inl (cI, 6, .inl cf))]) := by
  refine CTv.of (by decide) (Nat.le_of_ble_eq_true rfl) rfl ?_
  intro p e s m below meth c A Q ls hd hin hK hsz hP hD hA hS hl hret
  obtain ⟨hx, hb, hml, hown, hts⟩ := id hd
  have hK1 := hK.1
  have hown : s.vm.findClass RX1 = some m.cls := hown
  have hl : lv_has ls 7 [(0, .ref lg), (1, .int 3), (2, .int 9), (3, .long 0), (5, .int (-1))] := hl
  refine lv_iload_n hx hb dX1_offer_0 rfl (lv_at hl 1 rfl) ?_
  refine lv_bipush (v := 16) hx hb dX1_offer_1 (by decide) ?_
  refine lv_imul hx hb dX1_offer_3 ?_
  refine lv_nmi (show _ = (48 : Int32) from by decide +kernel) ?_
  refine lv_iload_n hx hb dX1_offer_4 rfl (lv_at hl 2 rfl) ?_
  refine lv_iadd hx hb dX1_offer_5 ?_
  refine lv_nmi (show _ = (57 : Int32) from by decide +kernel) ?_
  refine lv_istore (lv' := [(6, .int 57), (0, .ref lg), (1, .int 3), (2, .int 9), (3, .long 0), (5, .int (-1))]) hx hb dX1_offer_6 hl (by decide) rfl (fun ls hl => ?_)
  refine lv_lload_n hx hb dX1_offer_8 rfl (lv_at hl 4 rfl) ?_
  refine lv_aload_n hx hb dX1_offer_9 rfl (lv_at hl 1 rfl) ?_
  refine va_get (D := D) (ci := 1) (v := .ref l1) (C := RX1) (T := TX1) (N := 5) hx hb hts iT_X1 hown hK1 hP 0 rfl rfl 0 (by decide) (hts _ t_136) (fun _ h9 => h9) rfl dX1_offer_10 ?_
  refine lv_iload hx hb dX1_offer_13 (lv_at hl 0 rfl) ?_
  refine va_lald hx hb hK1 hP 1 1 rfl rfl (vin (by decide)) dX1_offer_15 ?_
  refine lv_nml (show _ = ff 57 from rfl) ?_
  refine lv_nml (show _ = (2305843009213693952 : Int64) from hf) ?_
  refine W.lcmp hx hb dX1_offer_16 ?_
  refine lv_nmi (show _ = (-1 : Int32) from by decide +kernel) ?_
  refine lv_if_ge (tgt := 40) hx hb dX1_offer_17 (by decide) (fun c_1 => ?_) (fun c_1 => ?_)
  · exact absurd c_1 (by decide)
  refine lv_aload_n hx hb dX1_offer_20 rfl (lv_at hl 1 rfl) ?_
  refine va_get (D := D) (ci := 1) (v := .ref l1) (C := RX1) (T := TX1) (N := 5) hx hb hts iT_X1 hown hK1 hP 0 rfl rfl 0 (by decide) (hts _ t_136) (fun _ h9 => h9) rfl dX1_offer_21 ?_
  refine lv_iload hx hb dX1_offer_24 (lv_at hl 0 rfl) ?_
  refine lv_lload_n hx hb dX1_offer_26 rfl (lv_at hl 4 rfl) ?_
  refine va_last hx hb hK1 hP hD hS 1 1 rfl rfl (vin (by decide)) dX1_offer_27 (fun H locs hP hD hS => ?_)
  have hP : va_P D vwCl [(lg, .inr (1, [.ref l1, .ref l2, .ref l3, .ref l4, .ref l5])), (l1, .inl (cJ, 96, .inr (.inl (vp_updL ff 57 0)))), (l2, .inl (cI, 96, .inl gf)), (l3, .inl (cZ, 96, .inl zf)), (l4, .inl (cI, 96, .inl kf)), (l5, .inl (cI, 6, .inl cf))] H := hP
  have hD : va_D A [(lg, .inr (1, [.ref l1, .ref l2, .ref l3, .ref l4, .ref l5])), (l1, .inl (cJ, 96, .inr (.inl (vp_updL ff 57 0)))), (l2, .inl (cI, 96, .inl gf)), (l3, .inl (cZ, 96, .inl zf)), (l4, .inl (cI, 96, .inl kf)), (l5, .inl (cI, 6, .inl cf))] := hD
  refine lv_aload_n hx hb dX1_offer_28 rfl (lv_at hl 1 rfl) ?_
  refine va_get (D := D) (ci := 1) (v := .ref l2) (C := RX1) (T := TX1) (N := 5) hx hb hts iT_X1 hown hK1 hP 0 rfl rfl 1 (by decide) (hts _ t_137) (fun _ h9 => h9) rfl dX1_offer_29 ?_
  refine lv_iload hx hb dX1_offer_32 (lv_at hl 0 rfl) ?_
  refine lv_iload hx hb dX1_offer_34 (lv_at hl 5 rfl) ?_
  refine va_iast hx hb hK1 hP hD hS 2 0 rfl rfl (vin (by decide)) dX1_offer_36 (fun H locs hP hD hS => ?_)
  have hP : va_P D vwCl [(lg, .inr (1, [.ref l1, .ref l2, .ref l3, .ref l4, .ref l5])), (l1, .inl (cJ, 96, .inr (.inl (vp_updL ff 57 0)))), (l2, .inl (cI, 96, .inl (upd gf 57 (-1)))), (l3, .inl (cZ, 96, .inl zf)), (l4, .inl (cI, 96, .inl kf)), (l5, .inl (cI, 6, .inl cf))] H := hP
  have hD : va_D A [(lg, .inr (1, [.ref l1, .ref l2, .ref l3, .ref l4, .ref l5])), (l1, .inl (cJ, 96, .inr (.inl (vp_updL ff 57 0)))), (l2, .inl (cI, 96, .inl (upd gf 57 (-1)))), (l3, .inl (cZ, 96, .inl zf)), (l4, .inl (cI, 96, .inl kf)), (l5, .inl (cI, 6, .inl cf))] := hD
  refine lv_goto (tgt := 73) hx hb dX1_offer_37 (by decide) ?_
  exact hret _ _ _ _ _ _ () dX1_offer_73 hS (Nat.le_of_ble_eq_true rfl) (Nat.le_of_ble_eq_true rfl) trivial (hP.sub [0, 1, 2, 3, 4, 5] rfl) (hD.sub [0, 1, 2, 3, 4, 5] rfl rfl)
set_option maxHeartbeats 4000000 in
set_option maxRecDepth 100000 in
theorem c_offer_79 (sz : Nat) (lg : Nat) (l1 : Nat) (l2 : Nat) (l3 : Nat) (l4 : Nat) (l5 : Nat) (ff : Nat → Int64) (gf : Nat → Int32) (zf : Nat → Int32) (kf : Nat → Int32) (cf : Nat → Int32) (hf : ff 79 = 2305843009213693952) : CTv l D cI cJ cZ cR yX1_offer cX1_offer 7 none 0 0 0 0 sz [.ref lg, .int 4, .int 15, .long 0, .int (-1)] [(lg, .inr (1, [.ref l1, .ref l2, .ref l3, .ref l4, .ref l5])), (l1, .inl (cJ, 96, .inr (.inl ff))), (l2, .inl (cI, 96, .inl gf)), (l3, .inl (cZ, 96, .inl zf)), (l4, .inl (cI, 96, .inl kf)), (l5, .inl (cI, 6, .inl cf))] (fun (u : Unit) => True) (fun (u : Unit) => [(lg, .inr (1, [.ref l1, .ref l2, .ref l3, .ref l4, .ref l5])), (l1, .inl (cJ, 96, .inr (.inl (vp_updL ff 79 0)))), (l2, .inl (cI, 96, .inl (upd gf 79 (-1)))), (l3, .inl (cZ, 96, .inl zf)), (l4, .inl (cI, 96, .inl kf)), (l5, .inl (cI, 6, .inl cf))]) := by
  refine CTv.of (by decide) (Nat.le_of_ble_eq_true rfl) rfl ?_
  intro p e s m below meth c A Q ls hd hin hK hsz hP hD hA hS hl hret
  obtain ⟨hx, hb, hml, hown, hts⟩ := id hd
  have hK1 := hK.1
  have hown : s.vm.findClass RX1 = some m.cls := hown
  have hl : lv_has ls 7 [(0, .ref lg), (1, .int 4), (2, .int 15), (3, .long 0), (5, .int (-1))] := hl
  refine lv_iload_n hx hb dX1_offer_0 rfl (lv_at hl 1 rfl) ?_
  refine lv_bipush (v := 16) hx hb dX1_offer_1 (by decide) ?_
  refine lv_imul hx hb dX1_offer_3 ?_
  refine lv_nmi (show _ = (64 : Int32) from by decide +kernel) ?_
  refine lv_iload_n hx hb dX1_offer_4 rfl (lv_at hl 2 rfl) ?_
  refine lv_iadd hx hb dX1_offer_5 ?_
  refine lv_nmi (show _ = (79 : Int32) from by decide +kernel) ?_
  refine lv_istore (lv' := [(6, .int 79), (0, .ref lg), (1, .int 4), (2, .int 15), (3, .long 0), (5, .int (-1))]) hx hb dX1_offer_6 hl (by decide) rfl (fun ls hl => ?_)
  refine lv_lload_n hx hb dX1_offer_8 rfl (lv_at hl 4 rfl) ?_
  refine lv_aload_n hx hb dX1_offer_9 rfl (lv_at hl 1 rfl) ?_
  refine va_get (D := D) (ci := 1) (v := .ref l1) (C := RX1) (T := TX1) (N := 5) hx hb hts iT_X1 hown hK1 hP 0 rfl rfl 0 (by decide) (hts _ t_136) (fun _ h9 => h9) rfl dX1_offer_10 ?_
  refine lv_iload hx hb dX1_offer_13 (lv_at hl 0 rfl) ?_
  refine va_lald hx hb hK1 hP 1 1 rfl rfl (vin (by decide)) dX1_offer_15 ?_
  refine lv_nml (show _ = ff 79 from rfl) ?_
  refine lv_nml (show _ = (2305843009213693952 : Int64) from hf) ?_
  refine W.lcmp hx hb dX1_offer_16 ?_
  refine lv_nmi (show _ = (-1 : Int32) from by decide +kernel) ?_
  refine lv_if_ge (tgt := 40) hx hb dX1_offer_17 (by decide) (fun c_1 => ?_) (fun c_1 => ?_)
  · exact absurd c_1 (by decide)
  refine lv_aload_n hx hb dX1_offer_20 rfl (lv_at hl 1 rfl) ?_
  refine va_get (D := D) (ci := 1) (v := .ref l1) (C := RX1) (T := TX1) (N := 5) hx hb hts iT_X1 hown hK1 hP 0 rfl rfl 0 (by decide) (hts _ t_136) (fun _ h9 => h9) rfl dX1_offer_21 ?_
  refine lv_iload hx hb dX1_offer_24 (lv_at hl 0 rfl) ?_
  refine lv_lload_n hx hb dX1_offer_26 rfl (lv_at hl 4 rfl) ?_
  refine va_last hx hb hK1 hP hD hS 1 1 rfl rfl (vin (by decide)) dX1_offer_27 (fun H locs hP hD hS => ?_)
  have hP : va_P D vwCl [(lg, .inr (1, [.ref l1, .ref l2, .ref l3, .ref l4, .ref l5])), (l1, .inl (cJ, 96, .inr (.inl (vp_updL ff 79 0)))), (l2, .inl (cI, 96, .inl gf)), (l3, .inl (cZ, 96, .inl zf)), (l4, .inl (cI, 96, .inl kf)), (l5, .inl (cI, 6, .inl cf))] H := hP
  have hD : va_D A [(lg, .inr (1, [.ref l1, .ref l2, .ref l3, .ref l4, .ref l5])), (l1, .inl (cJ, 96, .inr (.inl (vp_updL ff 79 0)))), (l2, .inl (cI, 96, .inl gf)), (l3, .inl (cZ, 96, .inl zf)), (l4, .inl (cI, 96, .inl kf)), (l5, .inl (cI, 6, .inl cf))] := hD
  refine lv_aload_n hx hb dX1_offer_28 rfl (lv_at hl 1 rfl) ?_
  refine va_get (D := D) (ci := 1) (v := .ref l2) (C := RX1) (T := TX1) (N := 5) hx hb hts iT_X1 hown hK1 hP 0 rfl rfl 1 (by decide) (hts _ t_137) (fun _ h9 => h9) rfl dX1_offer_29 ?_
  refine lv_iload hx hb dX1_offer_32 (lv_at hl 0 rfl) ?_
  refine lv_iload hx hb dX1_offer_34 (lv_at hl 5 rfl) ?_
  refine va_iast hx hb hK1 hP hD hS 2 0 rfl rfl (vin (by decide)) dX1_offer_36 (fun H locs hP hD hS => ?_)
  have hP : va_P D vwCl [(lg, .inr (1, [.ref l1, .ref l2, .ref l3, .ref l4, .ref l5])), (l1, .inl (cJ, 96, .inr (.inl (vp_updL ff 79 0)))), (l2, .inl (cI, 96, .inl (upd gf 79 (-1)))), (l3, .inl (cZ, 96, .inl zf)), (l4, .inl (cI, 96, .inl kf)), (l5, .inl (cI, 6, .inl cf))] H := hP
  have hD : va_D A [(lg, .inr (1, [.ref l1, .ref l2, .ref l3, .ref l4, .ref l5])), (l1, .inl (cJ, 96, .inr (.inl (vp_updL ff 79 0)))), (l2, .inl (cI, 96, .inl (upd gf 79 (-1)))), (l3, .inl (cZ, 96, .inl zf)), (l4, .inl (cI, 96, .inl kf)), (l5, .inl (cI, 6, .inl cf))] := hD
  refine lv_goto (tgt := 73) hx hb dX1_offer_37 (by decide) ?_
  exact hret _ _ _ _ _ _ () dX1_offer_73 hS (Nat.le_of_ble_eq_true rfl) (Nat.le_of_ble_eq_true rfl) trivial (hP.sub [0, 1, 2, 3, 4, 5] rfl) (hD.sub [0, 1, 2, 3, 4, 5] rfl rfl)
set_option maxHeartbeats 4000000 in
set_option maxRecDepth 100000 in
theorem c_offer_92 (sz : Nat) (lg : Nat) (l1 : Nat) (l2 : Nat) (l3 : Nat) (l4 : Nat) (l5 : Nat) (ff : Nat → Int64) (gf : Nat → Int32) (zf : Nat → Int32) (kf : Nat → Int32) (cf : Nat → Int32) (hf : ff 92 = 2305843009213693952) : CTv l D cI cJ cZ cR yX1_offer cX1_offer 7 none 0 0 0 0 sz [.ref lg, .int 5, .int 12, .long 0, .int (-1)] [(lg, .inr (1, [.ref l1, .ref l2, .ref l3, .ref l4, .ref l5])), (l1, .inl (cJ, 96, .inr (.inl ff))), (l2, .inl (cI, 96, .inl gf)), (l3, .inl (cZ, 96, .inl zf)), (l4, .inl (cI, 96, .inl kf)), (l5, .inl (cI, 6, .inl cf))] (fun (u : Unit) => True) (fun (u : Unit) => [(lg, .inr (1, [.ref l1, .ref l2, .ref l3, .ref l4, .ref l5])), (l1, .inl (cJ, 96, .inr (.inl (vp_updL ff 92 0)))), (l2, .inl (cI, 96, .inl (upd gf 92 (-1)))), (l3, .inl (cZ, 96, .inl zf)), (l4, .inl (cI, 96, .inl kf)), (l5, .inl (cI, 6, .inl cf))]) := by
  refine CTv.of (by decide) (Nat.le_of_ble_eq_true rfl) rfl ?_
  intro p e s m below meth c A Q ls hd hin hK hsz hP hD hA hS hl hret
  obtain ⟨hx, hb, hml, hown, hts⟩ := id hd
  have hK1 := hK.1
  have hown : s.vm.findClass RX1 = some m.cls := hown
  have hl : lv_has ls 7 [(0, .ref lg), (1, .int 5), (2, .int 12), (3, .long 0), (5, .int (-1))] := hl
  refine lv_iload_n hx hb dX1_offer_0 rfl (lv_at hl 1 rfl) ?_
  refine lv_bipush (v := 16) hx hb dX1_offer_1 (by decide) ?_
  refine lv_imul hx hb dX1_offer_3 ?_
  refine lv_nmi (show _ = (80 : Int32) from by decide +kernel) ?_
  refine lv_iload_n hx hb dX1_offer_4 rfl (lv_at hl 2 rfl) ?_
  refine lv_iadd hx hb dX1_offer_5 ?_
  refine lv_nmi (show _ = (92 : Int32) from by decide +kernel) ?_
  refine lv_istore (lv' := [(6, .int 92), (0, .ref lg), (1, .int 5), (2, .int 12), (3, .long 0), (5, .int (-1))]) hx hb dX1_offer_6 hl (by decide) rfl (fun ls hl => ?_)
  refine lv_lload_n hx hb dX1_offer_8 rfl (lv_at hl 4 rfl) ?_
  refine lv_aload_n hx hb dX1_offer_9 rfl (lv_at hl 1 rfl) ?_
  refine va_get (D := D) (ci := 1) (v := .ref l1) (C := RX1) (T := TX1) (N := 5) hx hb hts iT_X1 hown hK1 hP 0 rfl rfl 0 (by decide) (hts _ t_136) (fun _ h9 => h9) rfl dX1_offer_10 ?_
  refine lv_iload hx hb dX1_offer_13 (lv_at hl 0 rfl) ?_
  refine va_lald hx hb hK1 hP 1 1 rfl rfl (vin (by decide)) dX1_offer_15 ?_
  refine lv_nml (show _ = ff 92 from rfl) ?_
  refine lv_nml (show _ = (2305843009213693952 : Int64) from hf) ?_
  refine W.lcmp hx hb dX1_offer_16 ?_
  refine lv_nmi (show _ = (-1 : Int32) from by decide +kernel) ?_
  refine lv_if_ge (tgt := 40) hx hb dX1_offer_17 (by decide) (fun c_1 => ?_) (fun c_1 => ?_)
  · exact absurd c_1 (by decide)
  refine lv_aload_n hx hb dX1_offer_20 rfl (lv_at hl 1 rfl) ?_
  refine va_get (D := D) (ci := 1) (v := .ref l1) (C := RX1) (T := TX1) (N := 5) hx hb hts iT_X1 hown hK1 hP 0 rfl rfl 0 (by decide) (hts _ t_136) (fun _ h9 => h9) rfl dX1_offer_21 ?_
  refine lv_iload hx hb dX1_offer_24 (lv_at hl 0 rfl) ?_
  refine lv_lload_n hx hb dX1_offer_26 rfl (lv_at hl 4 rfl) ?_
  refine va_last hx hb hK1 hP hD hS 1 1 rfl rfl (vin (by decide)) dX1_offer_27 (fun H locs hP hD hS => ?_)
  have hP : va_P D vwCl [(lg, .inr (1, [.ref l1, .ref l2, .ref l3, .ref l4, .ref l5])), (l1, .inl (cJ, 96, .inr (.inl (vp_updL ff 92 0)))), (l2, .inl (cI, 96, .inl gf)), (l3, .inl (cZ, 96, .inl zf)), (l4, .inl (cI, 96, .inl kf)), (l5, .inl (cI, 6, .inl cf))] H := hP
  have hD : va_D A [(lg, .inr (1, [.ref l1, .ref l2, .ref l3, .ref l4, .ref l5])), (l1, .inl (cJ, 96, .inr (.inl (vp_updL ff 92 0)))), (l2, .inl (cI, 96, .inl gf)), (l3, .inl (cZ, 96, .inl zf)), (l4, .inl (cI, 96, .inl kf)), (l5, .inl (cI, 6, .inl cf))] := hD
  refine lv_aload_n hx hb dX1_offer_28 rfl (lv_at hl 1 rfl) ?_
  refine va_get (D := D) (ci := 1) (v := .ref l2) (C := RX1) (T := TX1) (N := 5) hx hb hts iT_X1 hown hK1 hP 0 rfl rfl 1 (by decide) (hts _ t_137) (fun _ h9 => h9) rfl dX1_offer_29 ?_
  refine lv_iload hx hb dX1_offer_32 (lv_at hl 0 rfl) ?_
  refine lv_iload hx hb dX1_offer_34 (lv_at hl 5 rfl) ?_
  refine va_iast hx hb hK1 hP hD hS 2 0 rfl rfl (vin (by decide)) dX1_offer_36 (fun H locs hP hD hS => ?_)
  have hP : va_P D vwCl [(lg, .inr (1, [.ref l1, .ref l2, .ref l3, .ref l4, .ref l5])), (l1, .inl (cJ, 96, .inr (.inl (vp_updL ff 92 0)))), (l2, .inl (cI, 96, .inl (upd gf 92 (-1)))), (l3, .inl (cZ, 96, .inl zf)), (l4, .inl (cI, 96, .inl kf)), (l5, .inl (cI, 6, .inl cf))] H := hP
  have hD : va_D A [(lg, .inr (1, [.ref l1, .ref l2, .ref l3, .ref l4, .ref l5])), (l1, .inl (cJ, 96, .inr (.inl (vp_updL ff 92 0)))), (l2, .inl (cI, 96, .inl (upd gf 92 (-1)))), (l3, .inl (cZ, 96, .inl zf)), (l4, .inl (cI, 96, .inl kf)), (l5, .inl (cI, 6, .inl cf))] := hD
  refine lv_goto (tgt := 73) hx hb dX1_offer_37 (by decide) ?_
  exact hret _ _ _ _ _ _ () dX1_offer_73 hS (Nat.le_of_ble_eq_true rfl) (Nat.le_of_ble_eq_true rfl) trivial (hP.sub [0, 1, 2, 3, 4, 5] rfl) (hD.sub [0, 1, 2, 3, 4, 5] rfl rfl)
set_option maxHeartbeats 4000000 in
set_option maxRecDepth 100000 in
theorem c_X1_nearest (sz : Nat) (lg : Nat) (l1 : Nat) (l2 : Nat) (l3 : Nat) (l4 : Nat) (l5 : Nat) (ff : Nat → Int64) (gf : Nat → Int32) (zf : Nat → Int32) (kf : Nat → Int32) (cf : Nat → Int32)  : CTi l D cI cJ cZ cR yX1_nearest cX1_nearest 5 (some .int) 0 0 0 0 sz [.ref lg] [(lg, .inr (1, [.ref l1, .ref l2, .ref l3, .ref l4, .ref l5])), (l1, .inl (cJ, 96, .inr (.inl ff))), (l2, .inl (cI, 96, .inl gf)), (l3, .inl (cZ, 96, .inl zf)), (l4, .inl (cI, 96, .inl kf)), (l5, .inl (cI, 6, .inl cf))] (fun (r : Int32) (u : Unit) => (r = ((nearS ff zf 96).1))) (fun (u : Unit) => [(lg, .inr (1, [.ref l1, .ref l2, .ref l3, .ref l4, .ref l5])), (l1, .inl (cJ, 96, .inr (.inl ff))), (l2, .inl (cI, 96, .inl gf)), (l3, .inl (cZ, 96, .inl zf)), (l4, .inl (cI, 96, .inl kf)), (l5, .inl (cI, 6, .inl cf))]) := by
  refine CTi.of (ty := .int) (by decide) (Nat.le_of_ble_eq_true rfl) rfl ?_
  intro p e s m below meth c A Q ls hd hin hK hsz hP hD hA hS hl hret
  obtain ⟨hx, hb, hml, hown, hts⟩ := id hd
  have hK1 := hK.1
  have hown : s.vm.findClass RX1 = some m.cls := hown
  have hl : lv_has ls 5 [(0, .ref lg)] := hl
  refine lv_iconst (v := -1) hx hb dX1_nearest_0 (by decide) ?_
  refine lv_istore_n (lv' := [(1, .int (-1)), (0, .ref lg)]) hx hb dX1_nearest_1 rfl hl (by decide) rfl (fun ls hl => ?_)
  refine lv_ldc2 hx hb hown (hts _ t_462) dX1_nearest_2 ?_
  refine lv_lstore_n (lv' := [(2, .long 2305843009213693952), (1, .int (-1)), (0, .ref lg)]) hx hb dX1_nearest_5 rfl hl (by decide) rfl (fun ls hl => ?_)
  refine lv_iconst (v := 0) hx hb dX1_nearest_6 (by decide) ?_
  refine lv_istore (lv' := [(4, .int 0), (2, .long 2305843009213693952), (1, .int (-1)), (0, .ref lg)]) hx hb dX1_nearest_7 hl (by decide) rfl (fun ls hl => ?_)
  have LOOP_9 : ∀ (n : Nat) (i : Nat), (i + n = 96) → ∀ (H : Heap) (locs : List Loc) (ls : Array Slot), va_P D vwCl [(lg, .inr (1, [.ref l1, .ref l2, .ref l3, .ref l4, .ref l5])), (l1, .inl (cJ, 96, .inr (.inl ff))), (l2, .inl (cI, 96, .inl gf)), (l3, .inl (cZ, 96, .inl zf)), (l4, .inl (cI, 96, .inl kf)), (l5, .inl (cI, 6, .inl cf))] H → va_D A [(lg, .inr (1, [.ref l1, .ref l2, .ref l3, .ref l4, .ref l5])), (l1, .inl (cJ, 96, .inr (.inl ff))), (l2, .inl (cI, 96, .inl gf)), (l3, .inl (cZ, 96, .inl zf)), (l4, .inl (cI, 96, .inl kf)), (l5, .inl (cI, 6, .inl cf))] → va_S A s.heap H locs → lv_has ls 5 [(0, .ref lg), (1, .int ((nearS ff zf i).1)), (2, .long ((nearS ff zf i).2)), (4, .int (nI i))] → W p l e (rM 0 0 0 0) s m ([.ref lg] : List Value).toArray below meth c H locs 0 0 Q (F0 m 9 ls []) := by
    intro n
    induction n with
    | zero =>
      intro i hi H locs ls hP hD hS hl
      refine lv_iload hx hb dX1_nearest_9 (lv_at hl 3 rfl) ?_
      refine lv_bipush (v := 96) hx hb dX1_nearest_11 (by decide) ?_
      refine lv_icmp_ge (tgt := 55) hx hb dX1_nearest_13 (by decide) (fun c_1 => ?_) (fun c_1 => ?_)
      rotate_left
      · exact absurd (nI_le (a := 96) (b := i) (by omega) (by omega)) c_1
      refine lv_iload_n hx hb dX1_nearest_55 rfl (lv_at hl 1 rfl) ?_
      exact hret _ _ _ _ _ _ ((nearS ff zf i).1) () dX1_nearest_56 rfl hS (Nat.le_of_ble_eq_true rfl) (Nat.le_of_ble_eq_true rfl) (by rw [show i = 96 by omega]) (hP.sub [0, 1, 2, 3, 4, 5] rfl) (hD.sub [0, 1, 2, 3, 4, 5] rfl rfl)
    | succ n ih_9 =>
      intro i hi H locs ls hP hD hS hl
      refine lv_iload hx hb dX1_nearest_9 (lv_at hl 3 rfl) ?_
      refine lv_bipush (v := 96) hx hb dX1_nearest_11 (by decide) ?_
      refine lv_icmp_ge (tgt := 55) hx hb dX1_nearest_13 (by decide) (fun c_2 => ?_) (fun c_2 => ?_)
      · exact absurd c_2 (nI_ge (a := i) (b := 96) (by omega) (by omega))
      refine lv_aload_n hx hb dX1_nearest_16 rfl (lv_at hl 0 rfl) ?_
      refine va_get (D := D) (ci := 1) (v := .ref l3) (C := RX1) (T := TX1) (N := 5) hx hb hts iT_X1 hown hK1 hP 0 rfl rfl 2 (by decide) (hts _ t_138) (fun _ h9 => h9) rfl dX1_nearest_17 ?_
      refine lv_iload hx hb dX1_nearest_20 (lv_at hl 3 rfl) ?_
      refine va_zald hx hb hK1 hP 3 2 rfl rfl (vp_in_nI (by omega) (by omega)) dX1_nearest_22 ?_
      refine lv_nmi (show _ = zf i from by rw [nI_clamp (n := i) (by omega)]) ?_
      refine lv_if_ne (tgt := 49) hx hb dX1_nearest_23 (by decide) (fun c_3 => ?_) (fun c_3 => ?_)
      · skip
        refine lv_iinc (v := nI (i + 1)) (lv' := [(4, .int (nI (i + 1))), (0, .ref lg), (1, .int ((nearS ff zf i).1)), (2, .long ((nearS ff zf i).2))]) hx hb dX1_nearest_49 hl (k := 3) rfl (nI_1 i) (by decide) rfl (fun ls hl => ?_)
        refine lv_goto (tgt := 9) hx hb dX1_nearest_52 (by decide) ?_
        exact ih_9 (i + 1) (by omega) _ _ _ (hP.sub [0, 1, 2, 3, 4, 5] rfl) (hD.sub [0, 1, 2, 3, 4, 5] rfl rfl) hS (lv_sub hl [1, 2, 3, 0] (by rw [nearS_a c_3]; rfl))
      · skip
        refine lv_aload_n hx hb dX1_nearest_26 rfl (lv_at hl 0 rfl) ?_
        refine va_get (D := D) (ci := 1) (v := .ref l1) (C := RX1) (T := TX1) (N := 5) hx hb hts iT_X1 hown hK1 hP 0 rfl rfl 0 (by decide) (hts _ t_136) (fun _ h9 => h9) rfl dX1_nearest_27 ?_
        refine lv_iload hx hb dX1_nearest_30 (lv_at hl 3 rfl) ?_
        refine va_lald hx hb hK1 hP 1 1 rfl rfl (vp_in_nI (by omega) (by omega)) dX1_nearest_32 ?_
        refine lv_nml (show _ = ff i from by rw [nI_clamp (n := i) (by omega)]) ?_
        refine lv_lload_n hx hb dX1_nearest_33 rfl (lv_at hl 2 rfl) ?_
        refine W.lcmp hx hb dX1_nearest_34 ?_
        refine lv_if_ge (tgt := 49) hx hb dX1_nearest_35 (by decide) (fun c_4 => ?_) (fun c_4 => ?_)
        · skip
          refine lv_iinc (v := nI (i + 1)) (lv' := [(4, .int (nI (i + 1))), (0, .ref lg), (1, .int ((nearS ff zf i).1)), (2, .long ((nearS ff zf i).2))]) hx hb dX1_nearest_49 hl (k := 3) rfl (nI_1 i) (by decide) rfl (fun ls hl => ?_)
          refine lv_goto (tgt := 9) hx hb dX1_nearest_52 (by decide) ?_
          exact ih_9 (i + 1) (by omega) _ _ _ (hP.sub [0, 1, 2, 3, 4, 5] rfl) (hD.sub [0, 1, 2, 3, 4, 5] rfl rfl) hS (lv_sub hl [1, 2, 3, 0] (by rw [nearS_b c_3 c_4]; rfl))
        · skip
          refine lv_iload hx hb dX1_nearest_38 (lv_at hl 3 rfl) ?_
          refine lv_istore_n (lv' := [(1, .int (nI i)), (0, .ref lg), (2, .long ((nearS ff zf i).2)), (4, .int (nI i))]) hx hb dX1_nearest_40 rfl hl (by decide) rfl (fun ls hl => ?_)
          refine lv_aload_n hx hb dX1_nearest_41 rfl (lv_at hl 1 rfl) ?_
          refine va_get (D := D) (ci := 1) (v := .ref l1) (C := RX1) (T := TX1) (N := 5) hx hb hts iT_X1 hown hK1 hP 0 rfl rfl 0 (by decide) (hts _ t_136) (fun _ h9 => h9) rfl dX1_nearest_42 ?_
          refine lv_iload hx hb dX1_nearest_45 (lv_at hl 3 rfl) ?_
          refine va_lald hx hb hK1 hP 1 1 rfl rfl (vp_in_nI (by omega) (by omega)) dX1_nearest_47 ?_
          refine lv_nml (show _ = ff i from by rw [nI_clamp (n := i) (by omega)]) ?_
          refine lv_lstore_n (lv' := [(2, .long (ff i)), (1, .int (nI i)), (0, .ref lg), (4, .int (nI i))]) hx hb dX1_nearest_48 rfl hl (by decide) rfl (fun ls hl => ?_)
          refine lv_iinc (v := nI (i + 1)) (lv' := [(4, .int (nI (i + 1))), (2, .long (ff i)), (1, .int (nI i)), (0, .ref lg)]) hx hb dX1_nearest_49 hl (k := 3) rfl (nI_1 i) (by decide) rfl (fun ls hl => ?_)
          refine lv_goto (tgt := 9) hx hb dX1_nearest_52 (by decide) ?_
          exact ih_9 (i + 1) (by omega) _ _ _ (hP.sub [0, 1, 2, 3, 4, 5] rfl) (hD.sub [0, 1, 2, 3, 4, 5] rfl rfl) hS (lv_sub hl [3, 2, 1, 0] (by rw [nearS_c c_3 c_4]; rfl))
  exact LOOP_9 96 0 (by omega) _ _ _ (hP.sub [0, 1, 2, 3, 4, 5] rfl) (hD.sub [0, 1, 2, 3, 4, 5] rfl rfl) hS (lv_sub hl [3, 2, 1, 0] rfl)
set_option maxHeartbeats 4000000 in
set_option maxRecDepth 100000 in
theorem c_settle_57 (sz : Nat) (lg : Nat) (l1 : Nat) (l2 : Nat) (l3 : Nat) (l4 : Nat) (l5 : Nat) (ff : Nat → Int64) (gf : Nat → Int32) (zf : Nat → Int32) (kf : Nat → Int32) (cf : Nat → Int32) (hc : cf 3 = 0) : CTv l D cI cJ cZ cR yX1_settle cX1_settle 3 none 0 0 0 0 sz [.ref lg, .int 3, .int 9] [(lg, .inr (1, [.ref l1, .ref l2, .ref l3, .ref l4, .ref l5])), (l1, .inl (cJ, 96, .inr (.inl ff))), (l2, .inl (cI, 96, .inl gf)), (l3, .inl (cZ, 96, .inl zf)), (l4, .inl (cI, 96, .inl kf)), (l5, .inl (cI, 6, .inl cf))] (fun (u : Unit) => True) (fun (u : Unit) => [(lg, .inr (1, [.ref l1, .ref l2, .ref l3, .ref l4, .ref l5])), (l1, .inl (cJ, 96, .inr (.inl ff))), (l2, .inl (cI, 96, .inl gf)), (l3, .inl (cZ, 96, .inl (upd zf 57 1))), (l4, .inl (cI, 96, .inl (upd kf 48 9))), (l5, .inl (cI, 6, .inl (upd cf 3 1)))]) := by
  refine CTv.of (by decide) (Nat.le_of_ble_eq_true rfl) rfl ?_
  intro p e s m below meth c A Q ls hd hin hK hsz hP hD hA hS hl hret
  obtain ⟨hx, hb, hml, hown, hts⟩ := id hd
  have hK1 := hK.1
  have hown : s.vm.findClass RX1 = some m.cls := hown
  have hl : lv_has ls 3 [(0, .ref lg), (1, .int 3), (2, .int 9)] := hl
  refine lv_aload_n hx hb dX1_settle_0 rfl (lv_at hl 0 rfl) ?_
  refine va_get (D := D) (ci := 1) (v := .ref l3) (C := RX1) (T := TX1) (N := 5) hx hb hts iT_X1 hown hK1 hP 0 rfl rfl 2 (by decide) (hts _ t_138) (fun _ h9 => h9) rfl dX1_settle_1 ?_
  refine lv_iload_n hx hb dX1_settle_4 rfl (lv_at hl 1 rfl) ?_
  refine lv_bipush (v := 16) hx hb dX1_settle_5 (by decide) ?_
  refine lv_imul hx hb dX1_settle_7 ?_
  refine lv_nmi (show _ = (48 : Int32) from by decide +kernel) ?_
  refine lv_iload_n hx hb dX1_settle_8 rfl (lv_at hl 2 rfl) ?_
  refine lv_iadd hx hb dX1_settle_9 ?_
  refine lv_nmi (show _ = (57 : Int32) from by decide +kernel) ?_
  refine lv_iconst (v := 1) hx hb dX1_settle_10 (by decide) ?_
  refine va_zast hx hb hK1 hP hD hS 3 2 rfl rfl (vin (by decide)) dX1_settle_11 (fun H locs hP hD hS => ?_)
  have hP : va_P D vwCl [(lg, .inr (1, [.ref l1, .ref l2, .ref l3, .ref l4, .ref l5])), (l1, .inl (cJ, 96, .inr (.inl ff))), (l2, .inl (cI, 96, .inl gf)), (l3, .inl (cZ, 96, .inl (upd zf 57 1))), (l4, .inl (cI, 96, .inl kf)), (l5, .inl (cI, 6, .inl cf))] H := hP
  have hD : va_D A [(lg, .inr (1, [.ref l1, .ref l2, .ref l3, .ref l4, .ref l5])), (l1, .inl (cJ, 96, .inr (.inl ff))), (l2, .inl (cI, 96, .inl gf)), (l3, .inl (cZ, 96, .inl (upd zf 57 1))), (l4, .inl (cI, 96, .inl kf)), (l5, .inl (cI, 6, .inl cf))] := hD
  refine lv_aload_n hx hb dX1_settle_12 rfl (lv_at hl 0 rfl) ?_
  refine va_get (D := D) (ci := 1) (v := .ref l4) (C := RX1) (T := TX1) (N := 5) hx hb hts iT_X1 hown hK1 hP 0 rfl rfl 3 (by decide) (hts _ t_139) (fun _ h9 => h9) rfl dX1_settle_13 ?_
  refine lv_iload_n hx hb dX1_settle_16 rfl (lv_at hl 1 rfl) ?_
  refine lv_bipush (v := 16) hx hb dX1_settle_17 (by decide) ?_
  refine lv_imul hx hb dX1_settle_19 ?_
  refine lv_nmi (show _ = (48 : Int32) from by decide +kernel) ?_
  refine lv_aload_n hx hb dX1_settle_20 rfl (lv_at hl 0 rfl) ?_
  refine va_get (D := D) (ci := 1) (v := .ref l5) (C := RX1) (T := TX1) (N := 5) hx hb hts iT_X1 hown hK1 hP 0 rfl rfl 4 (by decide) (hts _ t_140) (fun _ h9 => h9) rfl dX1_settle_21 ?_
  refine lv_iload_n hx hb dX1_settle_24 rfl (lv_at hl 1 rfl) ?_
  refine va_iald hx hb hK1 hP 5 0 rfl rfl (vin (by decide)) dX1_settle_25 ?_
  refine lv_nmi (show _ = cf 3 from rfl) ?_
  refine lv_nmi (show _ = (0 : Int32) from hc) ?_
  refine lv_iadd hx hb dX1_settle_26 ?_
  refine lv_nmi (show _ = (48 : Int32) from by decide +kernel) ?_
  refine lv_iload_n hx hb dX1_settle_27 rfl (lv_at hl 2 rfl) ?_
  refine va_iast hx hb hK1 hP hD hS 4 0 rfl rfl (vin (by decide)) dX1_settle_28 (fun H locs hP hD hS => ?_)
  have hP : va_P D vwCl [(lg, .inr (1, [.ref l1, .ref l2, .ref l3, .ref l4, .ref l5])), (l1, .inl (cJ, 96, .inr (.inl ff))), (l2, .inl (cI, 96, .inl gf)), (l3, .inl (cZ, 96, .inl (upd zf 57 1))), (l4, .inl (cI, 96, .inl (upd kf 48 9))), (l5, .inl (cI, 6, .inl cf))] H := hP
  have hD : va_D A [(lg, .inr (1, [.ref l1, .ref l2, .ref l3, .ref l4, .ref l5])), (l1, .inl (cJ, 96, .inr (.inl ff))), (l2, .inl (cI, 96, .inl gf)), (l3, .inl (cZ, 96, .inl (upd zf 57 1))), (l4, .inl (cI, 96, .inl (upd kf 48 9))), (l5, .inl (cI, 6, .inl cf))] := hD
  refine lv_aload_n hx hb dX1_settle_29 rfl (lv_at hl 0 rfl) ?_
  refine va_get (D := D) (ci := 1) (v := .ref l5) (C := RX1) (T := TX1) (N := 5) hx hb hts iT_X1 hown hK1 hP 0 rfl rfl 4 (by decide) (hts _ t_140) (fun _ h9 => h9) rfl dX1_settle_30 ?_
  refine lv_iload_n hx hb dX1_settle_33 rfl (lv_at hl 1 rfl) ?_
  refine lv_dup2_11 hx hb dX1_settle_34 rfl rfl ?_
  refine va_iald hx hb hK1 hP 5 0 rfl rfl (vin (by decide)) dX1_settle_35 ?_
  refine lv_nmi (show _ = cf 3 from rfl) ?_
  refine lv_nmi (show _ = (0 : Int32) from hc) ?_
  refine lv_iconst (v := 1) hx hb dX1_settle_36 (by decide) ?_
  refine lv_iadd hx hb dX1_settle_37 ?_
  refine lv_nmi (show _ = (1 : Int32) from by decide +kernel) ?_
  refine va_iast hx hb hK1 hP hD hS 5 0 rfl rfl (vin (by decide)) dX1_settle_38 (fun H locs hP hD hS => ?_)
  have hP : va_P D vwCl [(lg, .inr (1, [.ref l1, .ref l2, .ref l3, .ref l4, .ref l5])), (l1, .inl (cJ, 96, .inr (.inl ff))), (l2, .inl (cI, 96, .inl gf)), (l3, .inl (cZ, 96, .inl (upd zf 57 1))), (l4, .inl (cI, 96, .inl (upd kf 48 9))), (l5, .inl (cI, 6, .inl (upd cf 3 1)))] H := hP
  have hD : va_D A [(lg, .inr (1, [.ref l1, .ref l2, .ref l3, .ref l4, .ref l5])), (l1, .inl (cJ, 96, .inr (.inl ff))), (l2, .inl (cI, 96, .inl gf)), (l3, .inl (cZ, 96, .inl (upd zf 57 1))), (l4, .inl (cI, 96, .inl (upd kf 48 9))), (l5, .inl (cI, 6, .inl (upd cf 3 1)))] := hD
  exact hret _ _ _ _ _ _ () dX1_settle_39 hS (Nat.le_of_ble_eq_true rfl) (Nat.le_of_ble_eq_true rfl) trivial (hP.sub [0, 1, 2, 3, 4, 5] rfl) (hD.sub [0, 1, 2, 3, 4, 5] rfl rfl)
set_option maxHeartbeats 4000000 in
set_option maxRecDepth 100000 in
theorem c_settle_79 (sz : Nat) (lg : Nat) (l1 : Nat) (l2 : Nat) (l3 : Nat) (l4 : Nat) (l5 : Nat) (ff : Nat → Int64) (gf : Nat → Int32) (zf : Nat → Int32) (kf : Nat → Int32) (cf : Nat → Int32) (hc : cf 4 = 0) : CTv l D cI cJ cZ cR yX1_settle cX1_settle 3 none 0 0 0 0 sz [.ref lg, .int 4, .int 15] [(lg, .inr (1, [.ref l1, .ref l2, .ref l3, .ref l4, .ref l5])), (l1, .inl (cJ, 96, .inr (.inl ff))), (l2, .inl (cI, 96, .inl gf)), (l3, .inl (cZ, 96, .inl zf)), (l4, .inl (cI, 96, .inl kf)), (l5, .inl (cI, 6, .inl cf))] (fun (u : Unit) => True) (fun (u : Unit) => [(lg, .inr (1, [.ref l1, .ref l2, .ref l3, .ref l4, .ref l5])), (l1, .inl (cJ, 96, .inr (.inl ff))), (l2, .inl (cI, 96, .inl gf)), (l3, .inl (cZ, 96, .inl (upd zf 79 1))), (l4, .inl (cI, 96, .inl (upd kf 64 15))), (l5, .inl (cI, 6, .inl (upd cf 4 1)))]) := by
  refine CTv.of (by decide) (Nat.le_of_ble_eq_true rfl) rfl ?_
  intro p e s m below meth c A Q ls hd hin hK hsz hP hD hA hS hl hret
  obtain ⟨hx, hb, hml, hown, hts⟩ := id hd
  have hK1 := hK.1
  have hown : s.vm.findClass RX1 = some m.cls := hown
  have hl : lv_has ls 3 [(0, .ref lg), (1, .int 4), (2, .int 15)] := hl
  refine lv_aload_n hx hb dX1_settle_0 rfl (lv_at hl 0 rfl) ?_
  refine va_get (D := D) (ci := 1) (v := .ref l3) (C := RX1) (T := TX1) (N := 5) hx hb hts iT_X1 hown hK1 hP 0 rfl rfl 2 (by decide) (hts _ t_138) (fun _ h9 => h9) rfl dX1_settle_1 ?_
  refine lv_iload_n hx hb dX1_settle_4 rfl (lv_at hl 1 rfl) ?_
  refine lv_bipush (v := 16) hx hb dX1_settle_5 (by decide) ?_
  refine lv_imul hx hb dX1_settle_7 ?_
  refine lv_nmi (show _ = (64 : Int32) from by decide +kernel) ?_
  refine lv_iload_n hx hb dX1_settle_8 rfl (lv_at hl 2 rfl) ?_
  refine lv_iadd hx hb dX1_settle_9 ?_
  refine lv_nmi (show _ = (79 : Int32) from by decide +kernel) ?_
  refine lv_iconst (v := 1) hx hb dX1_settle_10 (by decide) ?_
  refine va_zast hx hb hK1 hP hD hS 3 2 rfl rfl (vin (by decide)) dX1_settle_11 (fun H locs hP hD hS => ?_)
  have hP : va_P D vwCl [(lg, .inr (1, [.ref l1, .ref l2, .ref l3, .ref l4, .ref l5])), (l1, .inl (cJ, 96, .inr (.inl ff))), (l2, .inl (cI, 96, .inl gf)), (l3, .inl (cZ, 96, .inl (upd zf 79 1))), (l4, .inl (cI, 96, .inl kf)), (l5, .inl (cI, 6, .inl cf))] H := hP
  have hD : va_D A [(lg, .inr (1, [.ref l1, .ref l2, .ref l3, .ref l4, .ref l5])), (l1, .inl (cJ, 96, .inr (.inl ff))), (l2, .inl (cI, 96, .inl gf)), (l3, .inl (cZ, 96, .inl (upd zf 79 1))), (l4, .inl (cI, 96, .inl kf)), (l5, .inl (cI, 6, .inl cf))] := hD
  refine lv_aload_n hx hb dX1_settle_12 rfl (lv_at hl 0 rfl) ?_
  refine va_get (D := D) (ci := 1) (v := .ref l4) (C := RX1) (T := TX1) (N := 5) hx hb hts iT_X1 hown hK1 hP 0 rfl rfl 3 (by decide) (hts _ t_139) (fun _ h9 => h9) rfl dX1_settle_13 ?_
  refine lv_iload_n hx hb dX1_settle_16 rfl (lv_at hl 1 rfl) ?_
  refine lv_bipush (v := 16) hx hb dX1_settle_17 (by decide) ?_
  refine lv_imul hx hb dX1_settle_19 ?_
  refine lv_nmi (show _ = (64 : Int32) from by decide +kernel) ?_
  refine lv_aload_n hx hb dX1_settle_20 rfl (lv_at hl 0 rfl) ?_
  refine va_get (D := D) (ci := 1) (v := .ref l5) (C := RX1) (T := TX1) (N := 5) hx hb hts iT_X1 hown hK1 hP 0 rfl rfl 4 (by decide) (hts _ t_140) (fun _ h9 => h9) rfl dX1_settle_21 ?_
  refine lv_iload_n hx hb dX1_settle_24 rfl (lv_at hl 1 rfl) ?_
  refine va_iald hx hb hK1 hP 5 0 rfl rfl (vin (by decide)) dX1_settle_25 ?_
  refine lv_nmi (show _ = cf 4 from rfl) ?_
  refine lv_nmi (show _ = (0 : Int32) from hc) ?_
  refine lv_iadd hx hb dX1_settle_26 ?_
  refine lv_nmi (show _ = (64 : Int32) from by decide +kernel) ?_
  refine lv_iload_n hx hb dX1_settle_27 rfl (lv_at hl 2 rfl) ?_
  refine va_iast hx hb hK1 hP hD hS 4 0 rfl rfl (vin (by decide)) dX1_settle_28 (fun H locs hP hD hS => ?_)
  have hP : va_P D vwCl [(lg, .inr (1, [.ref l1, .ref l2, .ref l3, .ref l4, .ref l5])), (l1, .inl (cJ, 96, .inr (.inl ff))), (l2, .inl (cI, 96, .inl gf)), (l3, .inl (cZ, 96, .inl (upd zf 79 1))), (l4, .inl (cI, 96, .inl (upd kf 64 15))), (l5, .inl (cI, 6, .inl cf))] H := hP
  have hD : va_D A [(lg, .inr (1, [.ref l1, .ref l2, .ref l3, .ref l4, .ref l5])), (l1, .inl (cJ, 96, .inr (.inl ff))), (l2, .inl (cI, 96, .inl gf)), (l3, .inl (cZ, 96, .inl (upd zf 79 1))), (l4, .inl (cI, 96, .inl (upd kf 64 15))), (l5, .inl (cI, 6, .inl cf))] := hD
  refine lv_aload_n hx hb dX1_settle_29 rfl (lv_at hl 0 rfl) ?_
  refine va_get (D := D) (ci := 1) (v := .ref l5) (C := RX1) (T := TX1) (N := 5) hx hb hts iT_X1 hown hK1 hP 0 rfl rfl 4 (by decide) (hts _ t_140) (fun _ h9 => h9) rfl dX1_settle_30 ?_
  refine lv_iload_n hx hb dX1_settle_33 rfl (lv_at hl 1 rfl) ?_
  refine lv_dup2_11 hx hb dX1_settle_34 rfl rfl ?_
  refine va_iald hx hb hK1 hP 5 0 rfl rfl (vin (by decide)) dX1_settle_35 ?_
  refine lv_nmi (show _ = cf 4 from rfl) ?_
  refine lv_nmi (show _ = (0 : Int32) from hc) ?_
  refine lv_iconst (v := 1) hx hb dX1_settle_36 (by decide) ?_
  refine lv_iadd hx hb dX1_settle_37 ?_
  refine lv_nmi (show _ = (1 : Int32) from by decide +kernel) ?_
  refine va_iast hx hb hK1 hP hD hS 5 0 rfl rfl (vin (by decide)) dX1_settle_38 (fun H locs hP hD hS => ?_)
  have hP : va_P D vwCl [(lg, .inr (1, [.ref l1, .ref l2, .ref l3, .ref l4, .ref l5])), (l1, .inl (cJ, 96, .inr (.inl ff))), (l2, .inl (cI, 96, .inl gf)), (l3, .inl (cZ, 96, .inl (upd zf 79 1))), (l4, .inl (cI, 96, .inl (upd kf 64 15))), (l5, .inl (cI, 6, .inl (upd cf 4 1)))] H := hP
  have hD : va_D A [(lg, .inr (1, [.ref l1, .ref l2, .ref l3, .ref l4, .ref l5])), (l1, .inl (cJ, 96, .inr (.inl ff))), (l2, .inl (cI, 96, .inl gf)), (l3, .inl (cZ, 96, .inl (upd zf 79 1))), (l4, .inl (cI, 96, .inl (upd kf 64 15))), (l5, .inl (cI, 6, .inl (upd cf 4 1)))] := hD
  exact hret _ _ _ _ _ _ () dX1_settle_39 hS (Nat.le_of_ble_eq_true rfl) (Nat.le_of_ble_eq_true rfl) trivial (hP.sub [0, 1, 2, 3, 4, 5] rfl) (hD.sub [0, 1, 2, 3, 4, 5] rfl rfl)
set_option maxHeartbeats 4000000 in
set_option maxRecDepth 100000 in
theorem c_settle_92 (sz : Nat) (lg : Nat) (l1 : Nat) (l2 : Nat) (l3 : Nat) (l4 : Nat) (l5 : Nat) (ff : Nat → Int64) (gf : Nat → Int32) (zf : Nat → Int32) (kf : Nat → Int32) (cf : Nat → Int32) (hc : cf 5 = 0) : CTv l D cI cJ cZ cR yX1_settle cX1_settle 3 none 0 0 0 0 sz [.ref lg, .int 5, .int 12] [(lg, .inr (1, [.ref l1, .ref l2, .ref l3, .ref l4, .ref l5])), (l1, .inl (cJ, 96, .inr (.inl ff))), (l2, .inl (cI, 96, .inl gf)), (l3, .inl (cZ, 96, .inl zf)), (l4, .inl (cI, 96, .inl kf)), (l5, .inl (cI, 6, .inl cf))] (fun (u : Unit) => True) (fun (u : Unit) => [(lg, .inr (1, [.ref l1, .ref l2, .ref l3, .ref l4, .ref l5])), (l1, .inl (cJ, 96, .inr (.inl ff))), (l2, .inl (cI, 96, .inl gf)), (l3, .inl (cZ, 96, .inl (upd zf 92 1))), (l4, .inl (cI, 96, .inl (upd kf 80 12))), (l5, .inl (cI, 6, .inl (upd cf 5 1)))]) := by
  refine CTv.of (by decide) (Nat.le_of_ble_eq_true rfl) rfl ?_
  intro p e s m below meth c A Q ls hd hin hK hsz hP hD hA hS hl hret
  obtain ⟨hx, hb, hml, hown, hts⟩ := id hd
  have hK1 := hK.1
  have hown : s.vm.findClass RX1 = some m.cls := hown
  have hl : lv_has ls 3 [(0, .ref lg), (1, .int 5), (2, .int 12)] := hl
  refine lv_aload_n hx hb dX1_settle_0 rfl (lv_at hl 0 rfl) ?_
  refine va_get (D := D) (ci := 1) (v := .ref l3) (C := RX1) (T := TX1) (N := 5) hx hb hts iT_X1 hown hK1 hP 0 rfl rfl 2 (by decide) (hts _ t_138) (fun _ h9 => h9) rfl dX1_settle_1 ?_
  refine lv_iload_n hx hb dX1_settle_4 rfl (lv_at hl 1 rfl) ?_
  refine lv_bipush (v := 16) hx hb dX1_settle_5 (by decide) ?_
  refine lv_imul hx hb dX1_settle_7 ?_
  refine lv_nmi (show _ = (80 : Int32) from by decide +kernel) ?_
  refine lv_iload_n hx hb dX1_settle_8 rfl (lv_at hl 2 rfl) ?_
  refine lv_iadd hx hb dX1_settle_9 ?_
  refine lv_nmi (show _ = (92 : Int32) from by decide +kernel) ?_
  refine lv_iconst (v := 1) hx hb dX1_settle_10 (by decide) ?_
  refine va_zast hx hb hK1 hP hD hS 3 2 rfl rfl (vin (by decide)) dX1_settle_11 (fun H locs hP hD hS => ?_)
  have hP : va_P D vwCl [(lg, .inr (1, [.ref l1, .ref l2, .ref l3, .ref l4, .ref l5])), (l1, .inl (cJ, 96, .inr (.inl ff))), (l2, .inl (cI, 96, .inl gf)), (l3, .inl (cZ, 96, .inl (upd zf 92 1))), (l4, .inl (cI, 96, .inl kf)), (l5, .inl (cI, 6, .inl cf))] H := hP
  have hD : va_D A [(lg, .inr (1, [.ref l1, .ref l2, .ref l3, .ref l4, .ref l5])), (l1, .inl (cJ, 96, .inr (.inl ff))), (l2, .inl (cI, 96, .inl gf)), (l3, .inl (cZ, 96, .inl (upd zf 92 1))), (l4, .inl (cI, 96, .inl kf)), (l5, .inl (cI, 6, .inl cf))] := hD
  refine lv_aload_n hx hb dX1_settle_12 rfl (lv_at hl 0 rfl) ?_
  refine va_get (D := D) (ci := 1) (v := .ref l4) (C := RX1) (T := TX1) (N := 5) hx hb hts iT_X1 hown hK1 hP 0 rfl rfl 3 (by decide) (hts _ t_139) (fun _ h9 => h9) rfl dX1_settle_13 ?_
  refine lv_iload_n hx hb dX1_settle_16 rfl (lv_at hl 1 rfl) ?_
  refine lv_bipush (v := 16) hx hb dX1_settle_17 (by decide) ?_
  refine lv_imul hx hb dX1_settle_19 ?_
  refine lv_nmi (show _ = (80 : Int32) from by decide +kernel) ?_
  refine lv_aload_n hx hb dX1_settle_20 rfl (lv_at hl 0 rfl) ?_
  refine va_get (D := D) (ci := 1) (v := .ref l5) (C := RX1) (T := TX1) (N := 5) hx hb hts iT_X1 hown hK1 hP 0 rfl rfl 4 (by decide) (hts _ t_140) (fun _ h9 => h9) rfl dX1_settle_21 ?_
  refine lv_iload_n hx hb dX1_settle_24 rfl (lv_at hl 1 rfl) ?_
  refine va_iald hx hb hK1 hP 5 0 rfl rfl (vin (by decide)) dX1_settle_25 ?_
  refine lv_nmi (show _ = cf 5 from rfl) ?_
  refine lv_nmi (show _ = (0 : Int32) from hc) ?_
  refine lv_iadd hx hb dX1_settle_26 ?_
  refine lv_nmi (show _ = (80 : Int32) from by decide +kernel) ?_
  refine lv_iload_n hx hb dX1_settle_27 rfl (lv_at hl 2 rfl) ?_
  refine va_iast hx hb hK1 hP hD hS 4 0 rfl rfl (vin (by decide)) dX1_settle_28 (fun H locs hP hD hS => ?_)
  have hP : va_P D vwCl [(lg, .inr (1, [.ref l1, .ref l2, .ref l3, .ref l4, .ref l5])), (l1, .inl (cJ, 96, .inr (.inl ff))), (l2, .inl (cI, 96, .inl gf)), (l3, .inl (cZ, 96, .inl (upd zf 92 1))), (l4, .inl (cI, 96, .inl (upd kf 80 12))), (l5, .inl (cI, 6, .inl cf))] H := hP
  have hD : va_D A [(lg, .inr (1, [.ref l1, .ref l2, .ref l3, .ref l4, .ref l5])), (l1, .inl (cJ, 96, .inr (.inl ff))), (l2, .inl (cI, 96, .inl gf)), (l3, .inl (cZ, 96, .inl (upd zf 92 1))), (l4, .inl (cI, 96, .inl (upd kf 80 12))), (l5, .inl (cI, 6, .inl cf))] := hD
  refine lv_aload_n hx hb dX1_settle_29 rfl (lv_at hl 0 rfl) ?_
  refine va_get (D := D) (ci := 1) (v := .ref l5) (C := RX1) (T := TX1) (N := 5) hx hb hts iT_X1 hown hK1 hP 0 rfl rfl 4 (by decide) (hts _ t_140) (fun _ h9 => h9) rfl dX1_settle_30 ?_
  refine lv_iload_n hx hb dX1_settle_33 rfl (lv_at hl 1 rfl) ?_
  refine lv_dup2_11 hx hb dX1_settle_34 rfl rfl ?_
  refine va_iald hx hb hK1 hP 5 0 rfl rfl (vin (by decide)) dX1_settle_35 ?_
  refine lv_nmi (show _ = cf 5 from rfl) ?_
  refine lv_nmi (show _ = (0 : Int32) from hc) ?_
  refine lv_iconst (v := 1) hx hb dX1_settle_36 (by decide) ?_
  refine lv_iadd hx hb dX1_settle_37 ?_
  refine lv_nmi (show _ = (1 : Int32) from by decide +kernel) ?_
  refine va_iast hx hb hK1 hP hD hS 5 0 rfl rfl (vin (by decide)) dX1_settle_38 (fun H locs hP hD hS => ?_)
  have hP : va_P D vwCl [(lg, .inr (1, [.ref l1, .ref l2, .ref l3, .ref l4, .ref l5])), (l1, .inl (cJ, 96, .inr (.inl ff))), (l2, .inl (cI, 96, .inl gf)), (l3, .inl (cZ, 96, .inl (upd zf 92 1))), (l4, .inl (cI, 96, .inl (upd kf 80 12))), (l5, .inl (cI, 6, .inl (upd cf 5 1)))] H := hP
  have hD : va_D A [(lg, .inr (1, [.ref l1, .ref l2, .ref l3, .ref l4, .ref l5])), (l1, .inl (cJ, 96, .inr (.inl ff))), (l2, .inl (cI, 96, .inl gf)), (l3, .inl (cZ, 96, .inl (upd zf 92 1))), (l4, .inl (cI, 96, .inl (upd kf 80 12))), (l5, .inl (cI, 6, .inl (upd cf 5 1)))] := hD
  exact hret _ _ _ _ _ _ () dX1_settle_39 hS (Nat.le_of_ble_eq_true rfl) (Nat.le_of_ble_eq_true rfl) trivial (hP.sub [0, 1, 2, 3, 4, 5] rfl) (hD.sub [0, 1, 2, 3, 4, 5] rfl rfl)
set_option maxHeartbeats 4000000 in
set_option maxRecDepth 100000 in
theorem c_X1_find (sz : Nat) (lg : Nat) (l1 : Nat) (l2 : Nat) (l3 : Nat) (l4 : Nat) (l5 : Nat) (bk : Nat) (br : Nat) (ff : Nat → Int64) (gf : Nat → Int32) (zf : Nat → Int32) (kf : Nat → Int32) (cf : Nat → Int32)  : CTv l D cI cJ cZ cR yX1_find cX1_find 5 none 2 45 0 0 sz [.ref lg, .ref bk] [(lg, .inr (1, [.ref l1, .ref l2, .ref l3, .ref l4, .ref l5])), (l1, .inl (cJ, 96, .inr (.inl ff))), (l2, .inl (cI, 96, .inl gf)), (l3, .inl (cZ, 96, .inl zf)), (l4, .inl (cI, 96, .inl kf)), (l5, .inl (cI, 6, .inl cf)), (bk, .inr (5, [.ref br, .int 0]))] (fun (u : (Nat → Int64) × (Nat → Int32) × (Nat → Int32) × (Nat → Int32) × (Nat → Int32)) => (Lz u.1 u.2.1)) (fun (u : (Nat → Int64) × (Nat → Int32) × (Nat → Int32) × (Nat → Int32) × (Nat → Int32)) => [(lg, .inr (1, [.ref l1, .ref l2, .ref l3, .ref l4, .ref l5])), (l1, .inl (cJ, 96, .inr (.inl u.1))), (l2, .inl (cI, 96, .inl u.2.1)), (l3, .inl (cZ, 96, .inl u.2.2.1)), (l4, .inl (cI, 96, .inl u.2.2.2.1)), (l5, .inl (cI, 6, .inl u.2.2.2.2)), (bk, .inr (5, [.ref br, .int 0]))]) := by
  refine CTv.of (by decide) (Nat.le_of_ble_eq_true rfl) rfl ?_
  intro p e s m below meth c A Q ls hd hin hK hsz hP hD hA hS hl hret
  obtain ⟨hx, hb, hml, hown, hts⟩ := id hd
  have hK1 := hK.1
  have hown : s.vm.findClass RX1 = some m.cls := hown
  have hl : lv_has ls 5 [(0, .ref lg), (1, .ref bk)] := hl
  refine lv_aload_n hx hb dX1_find_0 rfl (lv_at hl 0 rfl) ?_
  refine xc_v (wc := [(lg, .inr (1, [.ref l1, .ref l2, .ref l3, .ref l4, .ref l5])), (l1, .inl (cJ, 96, .inr (.inl ff))), (l2, .inl (cI, 96, .inl gf)), (l3, .inl (cZ, 96, .inl zf)), (l4, .inl (cI, 96, .inl kf)), (l5, .inl (cI, 6, .inl cf))]) (wr := [(bk, .inr (5, [.ref br, .int 0]))]) (xrV (n := 0) (As := []) (rest := []) (ci := 1) (q0 := 0) hd hK hP hD (c_X1_forget l D cI cJ cZ cR _ lg l1 l2 l3 l4 l5 ff gf zf kf cf ) (gV t_458 mV_X1_forget) hV_X1_forget ⟨(Nat.le_of_ble_eq_true rfl), (Nat.le_of_ble_eq_true rfl)⟩ rfl rfl [0, 1, 2, 3, 4, 5] rfl rfl rfl hl.1 rfl (Nat.le_of_ble_eq_true rfl) dX1_find_1 ⟨(Nat.le_of_ble_eq_true rfl), (Nat.le_of_ble_eq_true rfl)⟩) hP hD hS hA [0, 1, 2, 3, 4, 5] [6] rfl rfl rfl (by decide) (fun u_2 H locs hw_3 hP hD hS => ?_)
  have hP : va_P D vwCl [(bk, .inr (5, [.ref br, .int 0])), (lg, .inr (1, [.ref l1, .ref l2, .ref l3, .ref l4, .ref l5])), (l1, .inl (cJ, 96, .inr (.inl (fun _ => 2305843009213693952)))), (l2, .inl (cI, 96, .inl (fun _ => (-1)))), (l3, .inl (cZ, 96, .inl (fun _ => 0))), (l4, .inl (cI, 96, .inl kf)), (l5, .inl (cI, 6, .inl (fun _ => 0)))] H := hP
  have hD : va_D A [(bk, .inr (5, [.ref br, .int 0])), (lg, .inr (1, [.ref l1, .ref l2, .ref l3, .ref l4, .ref l5])), (l1, .inl (cJ, 96, .inr (.inl (fun _ => 2305843009213693952)))), (l2, .inl (cI, 96, .inl (fun _ => (-1)))), (l3, .inl (cZ, 96, .inl (fun _ => 0))), (l4, .inl (cI, 96, .inl kf)), (l5, .inl (cI, 6, .inl (fun _ => 0)))] := hD
  refine lv_aload_n hx hb dX1_find_4 rfl (lv_at hl 0 rfl) ?_
  refine lv_iconst (v := 3) hx hb dX1_find_5 (by decide) ?_
  refine lv_bipush (v := 9) hx hb dX1_find_6 (by decide) ?_
  refine lv_lconst (v := 0) hx hb dX1_find_8 (by decide) ?_
  refine lv_iconst (v := -1) hx hb dX1_find_9 (by decide) ?_
  refine xc_v (wc := [(lg, .inr (1, [.ref l1, .ref l2, .ref l3, .ref l4, .ref l5])), (l1, .inl (cJ, 96, .inr (.inl (fun _ => 2305843009213693952)))), (l2, .inl (cI, 96, .inl (fun _ => (-1)))), (l3, .inl (cZ, 96, .inl (fun _ => 0))), (l4, .inl (cI, 96, .inl kf)), (l5, .inl (cI, 6, .inl (fun _ => 0)))]) (wr := [(bk, .inr (5, [.ref br, .int 0]))]) (xrV (n := 4) (As := [.int 3, .int 9, .long 0, .int (-1)]) (rest := []) (ci := 1) (q0 := 1) hd hK hP hD (c_offer_57 l D cI cJ cZ cR _ lg l1 l2 l3 l4 l5 (fun _ => 2305843009213693952) (fun _ => (-1)) (fun _ => 0) kf (fun _ => 0) rfl) (gV t_467 mV_X1_offer) hV_X1_offer ⟨(Nat.le_of_ble_eq_true rfl), (Nat.le_of_ble_eq_true rfl)⟩ rfl rfl [1, 2, 3, 4, 5, 6] rfl rfl rfl hl.1 rfl (Nat.le_of_ble_eq_true rfl) dX1_find_10 ⟨(Nat.le_of_ble_eq_true rfl), (Nat.le_of_ble_eq_true rfl)⟩) hP hD hS hA [1, 2, 3, 4, 5, 6] [0] rfl rfl rfl (by decide) (fun u_5 H locs hw_6 hP hD hS => ?_)
  have hP : va_P D vwCl [(bk, .inr (5, [.ref br, .int 0])), (lg, .inr (1, [.ref l1, .ref l2, .ref l3, .ref l4, .ref l5])), (l1, .inl (cJ, 96, .inr (.inl (vp_updL (fun _ => 2305843009213693952) 57 0)))), (l2, .inl (cI, 96, .inl (upd (fun _ => (-1)) 57 (-1)))), (l3, .inl (cZ, 96, .inl (fun _ => 0))), (l4, .inl (cI, 96, .inl kf)), (l5, .inl (cI, 6, .inl (fun _ => 0)))] H := hP
  have hD : va_D A [(bk, .inr (5, [.ref br, .int 0])), (lg, .inr (1, [.ref l1, .ref l2, .ref l3, .ref l4, .ref l5])), (l1, .inl (cJ, 96, .inr (.inl (vp_updL (fun _ => 2305843009213693952) 57 0)))), (l2, .inl (cI, 96, .inl (upd (fun _ => (-1)) 57 (-1)))), (l3, .inl (cZ, 96, .inl (fun _ => 0))), (l4, .inl (cI, 96, .inl kf)), (l5, .inl (cI, 6, .inl (fun _ => 0)))] := hD
  refine lv_aload_n hx hb dX1_find_13 rfl (lv_at hl 0 rfl) ?_
  refine lv_iconst (v := 4) hx hb dX1_find_14 (by decide) ?_
  refine lv_bipush (v := 15) hx hb dX1_find_15 (by decide) ?_
  refine lv_lconst (v := 0) hx hb dX1_find_17 (by decide) ?_
  refine lv_iconst (v := -1) hx hb dX1_find_18 (by decide) ?_
  refine xc_v (wc := [(lg, .inr (1, [.ref l1, .ref l2, .ref l3, .ref l4, .ref l5])), (l1, .inl (cJ, 96, .inr (.inl (vp_updL (fun _ => 2305843009213693952) 57 0)))), (l2, .inl (cI, 96, .inl (upd (fun _ => (-1)) 57 (-1)))), (l3, .inl (cZ, 96, .inl (fun _ => 0))), (l4, .inl (cI, 96, .inl kf)), (l5, .inl (cI, 6, .inl (fun _ => 0)))]) (wr := [(bk, .inr (5, [.ref br, .int 0]))]) (xrV (n := 4) (As := [.int 4, .int 15, .long 0, .int (-1)]) (rest := []) (ci := 1) (q0 := 1) hd hK hP hD (c_offer_79 l D cI cJ cZ cR _ lg l1 l2 l3 l4 l5 (vp_updL (fun _ => 2305843009213693952) 57 0) (upd (fun _ => (-1)) 57 (-1)) (fun _ => 0) kf (fun _ => 0) (by decide +kernel)) (gV t_467 mV_X1_offer) hV_X1_offer ⟨(Nat.le_of_ble_eq_true rfl), (Nat.le_of_ble_eq_true rfl)⟩ rfl rfl [1, 2, 3, 4, 5, 6] rfl rfl rfl hl.1 rfl (Nat.le_of_ble_eq_true rfl) dX1_find_19 ⟨(Nat.le_of_ble_eq_true rfl), (Nat.le_of_ble_eq_true rfl)⟩) hP hD hS hA [1, 2, 3, 4, 5, 6] [0] rfl rfl rfl (by decide) (fun u_8 H locs hw_9 hP hD hS => ?_)
  have hP : va_P D vwCl [(bk, .inr (5, [.ref br, .int 0])), (lg, .inr (1, [.ref l1, .ref l2, .ref l3, .ref l4, .ref l5])), (l1, .inl (cJ, 96, .inr (.inl (vp_updL (vp_updL (fun _ => 2305843009213693952) 57 0) 79 0)))), (l2, .inl (cI, 96, .inl (upd (upd (fun _ => (-1)) 57 (-1)) 79 (-1)))), (l3, .inl (cZ, 96, .inl (fun _ => 0))), (l4, .inl (cI, 96, .inl kf)), (l5, .inl (cI, 6, .inl (fun _ => 0)))] H := hP
  have hD : va_D A [(bk, .inr (5, [.ref br, .int 0])), (lg, .inr (1, [.ref l1, .ref l2, .ref l3, .ref l4, .ref l5])), (l1, .inl (cJ, 96, .inr (.inl (vp_updL (vp_updL (fun _ => 2305843009213693952) 57 0) 79 0)))), (l2, .inl (cI, 96, .inl (upd (upd (fun _ => (-1)) 57 (-1)) 79 (-1)))), (l3, .inl (cZ, 96, .inl (fun _ => 0))), (l4, .inl (cI, 96, .inl kf)), (l5, .inl (cI, 6, .inl (fun _ => 0)))] := hD
  refine lv_aload_n hx hb dX1_find_22 rfl (lv_at hl 0 rfl) ?_
  refine lv_iconst (v := 5) hx hb dX1_find_23 (by decide) ?_
  refine lv_bipush (v := 12) hx hb dX1_find_24 (by decide) ?_
  refine lv_lconst (v := 0) hx hb dX1_find_26 (by decide) ?_
  refine lv_iconst (v := -1) hx hb dX1_find_27 (by decide) ?_
  refine xc_v (wc := [(lg, .inr (1, [.ref l1, .ref l2, .ref l3, .ref l4, .ref l5])), (l1, .inl (cJ, 96, .inr (.inl (vp_updL (vp_updL (fun _ => 2305843009213693952) 57 0) 79 0)))), (l2, .inl (cI, 96, .inl (upd (upd (fun _ => (-1)) 57 (-1)) 79 (-1)))), (l3, .inl (cZ, 96, .inl (fun _ => 0))), (l4, .inl (cI, 96, .inl kf)), (l5, .inl (cI, 6, .inl (fun _ => 0)))]) (wr := [(bk, .inr (5, [.ref br, .int 0]))]) (xrV (n := 4) (As := [.int 5, .int 12, .long 0, .int (-1)]) (rest := []) (ci := 1) (q0 := 1) hd hK hP hD (c_offer_92 l D cI cJ cZ cR _ lg l1 l2 l3 l4 l5 (vp_updL (vp_updL (fun _ => 2305843009213693952) 57 0) 79 0) (upd (upd (fun _ => (-1)) 57 (-1)) 79 (-1)) (fun _ => 0) kf (fun _ => 0) (by decide +kernel)) (gV t_467 mV_X1_offer) hV_X1_offer ⟨(Nat.le_of_ble_eq_true rfl), (Nat.le_of_ble_eq_true rfl)⟩ rfl rfl [1, 2, 3, 4, 5, 6] rfl rfl rfl hl.1 rfl (Nat.le_of_ble_eq_true rfl) dX1_find_28 ⟨(Nat.le_of_ble_eq_true rfl), (Nat.le_of_ble_eq_true rfl)⟩) hP hD hS hA [1, 2, 3, 4, 5, 6] [0] rfl rfl rfl (by decide) (fun u_11 H locs hw_12 hP hD hS => ?_)
  have hP : va_P D vwCl [(bk, .inr (5, [.ref br, .int 0])), (lg, .inr (1, [.ref l1, .ref l2, .ref l3, .ref l4, .ref l5])), (l1, .inl (cJ, 96, .inr (.inl (vp_updL (vp_updL (vp_updL (fun _ => 2305843009213693952) 57 0) 79 0) 92 0)))), (l2, .inl (cI, 96, .inl (upd (upd (upd (fun _ => (-1)) 57 (-1)) 79 (-1)) 92 (-1)))), (l3, .inl (cZ, 96, .inl (fun _ => 0))), (l4, .inl (cI, 96, .inl kf)), (l5, .inl (cI, 6, .inl (fun _ => 0)))] H := hP
  have hD : va_D A [(bk, .inr (5, [.ref br, .int 0])), (lg, .inr (1, [.ref l1, .ref l2, .ref l3, .ref l4, .ref l5])), (l1, .inl (cJ, 96, .inr (.inl (vp_updL (vp_updL (vp_updL (fun _ => 2305843009213693952) 57 0) 79 0) 92 0)))), (l2, .inl (cI, 96, .inl (upd (upd (upd (fun _ => (-1)) 57 (-1)) 79 (-1)) 92 (-1)))), (l3, .inl (cZ, 96, .inl (fun _ => 0))), (l4, .inl (cI, 96, .inl kf)), (l5, .inl (cI, 6, .inl (fun _ => 0)))] := hD
  refine lv_iconst (v := 0) hx hb dX1_find_31 (by decide) ?_
  refine lv_istore_n (lv' := [(2, .int 0), (0, .ref lg), (1, .ref bk)]) hx hb dX1_find_32 rfl hl (by decide) rfl (fun ls hl => ?_)
  refine lv_iload_n hx hb dX1_find_33 rfl (lv_at hl 0 rfl) ?_
  refine lv_bipush (v := 96) hx hb dX1_find_34 (by decide) ?_
  refine lv_icmp_ge (tgt := 107) hx hb dX1_find_36 (by decide) (fun c_13 => ?_) (fun c_13 => ?_)
  · exact absurd c_13 (by decide)
  refine lv_aload_n hx hb dX1_find_39 rfl (lv_at hl 1 rfl) ?_
  refine xc_i (wc := [(lg, .inr (1, [.ref l1, .ref l2, .ref l3, .ref l4, .ref l5])), (l1, .inl (cJ, 96, .inr (.inl (vp_updL (vp_updL (vp_updL (fun _ => 2305843009213693952) 57 0) 79 0) 92 0)))), (l2, .inl (cI, 96, .inl (upd (upd (upd (fun _ => (-1)) 57 (-1)) 79 (-1)) 92 (-1)))), (l3, .inl (cZ, 96, .inl (fun _ => 0))), (l4, .inl (cI, 96, .inl kf)), (l5, .inl (cI, 6, .inl (fun _ => 0)))]) (wr := [(bk, .inr (5, [.ref br, .int 0]))]) (xrV (n := 0) (As := []) (rest := []) (ci := 1) (q0 := 1) hd hK hP hD (c_X1_nearest l D cI cJ cZ cR _ lg l1 l2 l3 l4 l5 (vp_updL (vp_updL (vp_updL (fun _ => 2305843009213693952) 57 0) 79 0) 92 0) (upd (upd (upd (fun _ => (-1)) 57 (-1)) 79 (-1)) 92 (-1)) (fun _ => 0) kf (fun _ => 0) ) (gV t_471 mV_X1_nearest) hV_X1_nearest ⟨(Nat.le_of_ble_eq_true rfl), (Nat.le_of_ble_eq_true rfl)⟩ rfl rfl [1, 2, 3, 4, 5, 6] rfl rfl rfl hl.1 rfl (Nat.le_of_ble_eq_true rfl) dX1_find_40 ⟨(Nat.le_of_ble_eq_true rfl), (Nat.le_of_ble_eq_true rfl)⟩) hP hD hS hA [1, 2, 3, 4, 5, 6] [0] rfl rfl rfl (by decide) (fun r_14 u_15 H locs hw_16 hP hD hS => ?_)
  have hw_17 : r_14 = ((nearS (vp_updL (vp_updL (vp_updL (fun _ => 2305843009213693952) 57 0) 79 0) 92 0) (fun _ => 0) 96).1) := hw_16
  subst hw_17
  have hP : va_P D vwCl [(bk, .inr (5, [.ref br, .int 0])), (lg, .inr (1, [.ref l1, .ref l2, .ref l3, .ref l4, .ref l5])), (l1, .inl (cJ, 96, .inr (.inl (vp_updL (vp_updL (vp_updL (fun _ => 2305843009213693952) 57 0) 79 0) 92 0)))), (l2, .inl (cI, 96, .inl (upd (upd (upd (fun _ => (-1)) 57 (-1)) 79 (-1)) 92 (-1)))), (l3, .inl (cZ, 96, .inl (fun _ => 0))), (l4, .inl (cI, 96, .inl kf)), (l5, .inl (cI, 6, .inl (fun _ => 0)))] H := hP
  have hD : va_D A [(bk, .inr (5, [.ref br, .int 0])), (lg, .inr (1, [.ref l1, .ref l2, .ref l3, .ref l4, .ref l5])), (l1, .inl (cJ, 96, .inr (.inl (vp_updL (vp_updL (vp_updL (fun _ => 2305843009213693952) 57 0) 79 0) 92 0)))), (l2, .inl (cI, 96, .inl (upd (upd (upd (fun _ => (-1)) 57 (-1)) 79 (-1)) 92 (-1)))), (l3, .inl (cZ, 96, .inl (fun _ => 0))), (l4, .inl (cI, 96, .inl kf)), (l5, .inl (cI, 6, .inl (fun _ => 0)))] := hD
  refine lv_nmi (show _ = (57 : Int32) from near_1) ?_
  refine lv_istore_n (lv' := [(3, .int 57), (2, .int 0), (0, .ref lg), (1, .ref bk)]) hx hb dX1_find_43 rfl hl (by decide) rfl (fun ls hl => ?_)
  refine lv_iload_n hx hb dX1_find_44 rfl (lv_at hl 0 rfl) ?_
  refine lv_iconst (v := -1) hx hb dX1_find_45 (by decide) ?_
  refine lv_icmp_ne (tgt := 50) hx hb dX1_find_46 (by decide) (fun c_18 => ?_) (fun c_18 => ?_)
  rotate_left
  · exact absurd c_18 (by decide)
  refine lv_aload_n hx hb dX1_find_50 rfl (lv_at hl 2 rfl) ?_
  refine lv_iload_n hx hb dX1_find_51 rfl (lv_at hl 0 rfl) ?_
  refine lv_bipush (v := 16) hx hb dX1_find_52 (by decide) ?_
  refine lv_idiv hx hb dX1_find_54 (by decide) ?_
  refine lv_nmi (show _ = (3 : Int32) from by decide +kernel) ?_
  refine lv_iload_n hx hb dX1_find_55 rfl (lv_at hl 0 rfl) ?_
  refine lv_bipush (v := 16) hx hb dX1_find_56 (by decide) ?_
  refine lv_irem hx hb dX1_find_58 (by decide) ?_
  refine lv_nmi (show _ = (9 : Int32) from by decide +kernel) ?_
  refine xc_v (wc := [(lg, .inr (1, [.ref l1, .ref l2, .ref l3, .ref l4, .ref l5])), (l1, .inl (cJ, 96, .inr (.inl (vp_updL (vp_updL (vp_updL (fun _ => 2305843009213693952) 57 0) 79 0) 92 0)))), (l2, .inl (cI, 96, .inl (upd (upd (upd (fun _ => (-1)) 57 (-1)) 79 (-1)) 92 (-1)))), (l3, .inl (cZ, 96, .inl (fun _ => 0))), (l4, .inl (cI, 96, .inl kf)), (l5, .inl (cI, 6, .inl (fun _ => 0)))]) (wr := [(bk, .inr (5, [.ref br, .int 0]))]) (xrV (n := 2) (As := [.int 3, .int 9]) (rest := []) (ci := 1) (q0 := 1) hd hK hP hD (c_settle_57 l D cI cJ cZ cR _ lg l1 l2 l3 l4 l5 (vp_updL (vp_updL (vp_updL (fun _ => 2305843009213693952) 57 0) 79 0) 92 0) (upd (upd (upd (fun _ => (-1)) 57 (-1)) 79 (-1)) 92 (-1)) (fun _ => 0) kf (fun _ => 0) rfl) (gV t_475 mV_X1_settle) hV_X1_settle ⟨(Nat.le_of_ble_eq_true rfl), (Nat.le_of_ble_eq_true rfl)⟩ rfl rfl [1, 2, 3, 4, 5, 6] rfl rfl rfl hl.1 rfl (Nat.le_of_ble_eq_true rfl) dX1_find_59 ⟨(Nat.le_of_ble_eq_true rfl), (Nat.le_of_ble_eq_true rfl)⟩) hP hD hS hA [1, 2, 3, 4, 5, 6] [0] rfl rfl rfl (by decide) (fun u_20 H locs hw_21 hP hD hS => ?_)
  have hP : va_P D vwCl [(bk, .inr (5, [.ref br, .int 0])), (lg, .inr (1, [.ref l1, .ref l2, .ref l3, .ref l4, .ref l5])), (l1, .inl (cJ, 96, .inr (.inl (vp_updL (vp_updL (vp_updL (fun _ => 2305843009213693952) 57 0) 79 0) 92 0)))), (l2, .inl (cI, 96, .inl (upd (upd (upd (fun _ => (-1)) 57 (-1)) 79 (-1)) 92 (-1)))), (l3, .inl (cZ, 96, .inl (upd (fun _ => 0) 57 1))), (l4, .inl (cI, 96, .inl (upd kf 48 9))), (l5, .inl (cI, 6, .inl (upd (fun _ => 0) 3 1)))] H := hP
  have hD : va_D A [(bk, .inr (5, [.ref br, .int 0])), (lg, .inr (1, [.ref l1, .ref l2, .ref l3, .ref l4, .ref l5])), (l1, .inl (cJ, 96, .inr (.inl (vp_updL (vp_updL (vp_updL (fun _ => 2305843009213693952) 57 0) 79 0) 92 0)))), (l2, .inl (cI, 96, .inl (upd (upd (upd (fun _ => (-1)) 57 (-1)) 79 (-1)) 92 (-1)))), (l3, .inl (cZ, 96, .inl (upd (fun _ => 0) 57 1))), (l4, .inl (cI, 96, .inl (upd kf 48 9))), (l5, .inl (cI, 6, .inl (upd (fun _ => 0) 3 1)))] := hD
  refine lv_iconst (v := 0) hx hb dX1_find_62 (by decide) ?_
  refine lv_istore (lv' := [(4, .int 0), (3, .int 57), (2, .int 0), (0, .ref lg), (1, .ref bk)]) hx hb dX1_find_63 hl (by decide) rfl (fun ls hl => ?_)
  refine lv_iload hx hb dX1_find_65 (lv_at hl 0 rfl) ?_
  refine lv_aload_n hx hb dX1_find_67 rfl (lv_at hl 4 rfl) ?_
  refine va_get (D := D) (ci := 5) (v := .int 0) (C := RX5) (T := TX5) (N := 2) hx hb hts iT_X5 hown hK1 hP 0 rfl rfl 1 (by decide) (hts _ t_108) (fun _ h9 => h9) rfl dX1_find_68 ?_
  refine lv_icmp_ge (tgt := 101) hx hb dX1_find_71 (by decide) (fun c_22 => ?_) (fun c_22 => ?_)
  rotate_left
  · exact absurd c_22 (by decide)
  refine lv_iinc (v := 1) (lv' := [(2, .int 1), (4, .int 0), (3, .int 57), (0, .ref lg), (1, .ref bk)]) hx hb dX1_find_101 hl (k := 2) rfl (by decide) (by decide) rfl (fun ls hl => ?_)
  refine lv_goto (tgt := 33) hx hb dX1_find_104 (by decide) ?_
  refine lv_iload_n hx hb dX1_find_33 rfl (lv_at hl 0 rfl) ?_
  refine lv_bipush (v := 96) hx hb dX1_find_34 (by decide) ?_
  refine lv_icmp_ge (tgt := 107) hx hb dX1_find_36 (by decide) (fun c_23 => ?_) (fun c_23 => ?_)
  · exact absurd c_23 (by decide)
  refine lv_aload_n hx hb dX1_find_39 rfl (lv_at hl 3 rfl) ?_
  refine xc_i (wc := [(lg, .inr (1, [.ref l1, .ref l2, .ref l3, .ref l4, .ref l5])), (l1, .inl (cJ, 96, .inr (.inl (vp_updL (vp_updL (vp_updL (fun _ => 2305843009213693952) 57 0) 79 0) 92 0)))), (l2, .inl (cI, 96, .inl (upd (upd (upd (fun _ => (-1)) 57 (-1)) 79 (-1)) 92 (-1)))), (l3, .inl (cZ, 96, .inl (upd (fun _ => 0) 57 1))), (l4, .inl (cI, 96, .inl (upd kf 48 9))), (l5, .inl (cI, 6, .inl (upd (fun _ => 0) 3 1)))]) (wr := [(bk, .inr (5, [.ref br, .int 0]))]) (xrV (n := 0) (As := []) (rest := []) (ci := 1) (q0 := 1) hd hK hP hD (c_X1_nearest l D cI cJ cZ cR _ lg l1 l2 l3 l4 l5 (vp_updL (vp_updL (vp_updL (fun _ => 2305843009213693952) 57 0) 79 0) 92 0) (upd (upd (upd (fun _ => (-1)) 57 (-1)) 79 (-1)) 92 (-1)) (upd (fun _ => 0) 57 1) (upd kf 48 9) (upd (fun _ => 0) 3 1) ) (gV t_471 mV_X1_nearest) hV_X1_nearest ⟨(Nat.le_of_ble_eq_true rfl), (Nat.le_of_ble_eq_true rfl)⟩ rfl rfl [1, 2, 3, 4, 5, 6] rfl rfl rfl hl.1 rfl (Nat.le_of_ble_eq_true rfl) dX1_find_40 ⟨(Nat.le_of_ble_eq_true rfl), (Nat.le_of_ble_eq_true rfl)⟩) hP hD hS hA [1, 2, 3, 4, 5, 6] [0] rfl rfl rfl (by decide) (fun r_24 u_25 H locs hw_26 hP hD hS => ?_)
  have hw_27 : r_24 = ((nearS (vp_updL (vp_updL (vp_updL (fun _ => 2305843009213693952) 57 0) 79 0) 92 0) (upd (fun _ => 0) 57 1) 96).1) := hw_26
  subst hw_27
  have hP : va_P D vwCl [(bk, .inr (5, [.ref br, .int 0])), (lg, .inr (1, [.ref l1, .ref l2, .ref l3, .ref l4, .ref l5])), (l1, .inl (cJ, 96, .inr (.inl (vp_updL (vp_updL (vp_updL (fun _ => 2305843009213693952) 57 0) 79 0) 92 0)))), (l2, .inl (cI, 96, .inl (upd (upd (upd (fun _ => (-1)) 57 (-1)) 79 (-1)) 92 (-1)))), (l3, .inl (cZ, 96, .inl (upd (fun _ => 0) 57 1))), (l4, .inl (cI, 96, .inl (upd kf 48 9))), (l5, .inl (cI, 6, .inl (upd (fun _ => 0) 3 1)))] H := hP
  have hD : va_D A [(bk, .inr (5, [.ref br, .int 0])), (lg, .inr (1, [.ref l1, .ref l2, .ref l3, .ref l4, .ref l5])), (l1, .inl (cJ, 96, .inr (.inl (vp_updL (vp_updL (vp_updL (fun _ => 2305843009213693952) 57 0) 79 0) 92 0)))), (l2, .inl (cI, 96, .inl (upd (upd (upd (fun _ => (-1)) 57 (-1)) 79 (-1)) 92 (-1)))), (l3, .inl (cZ, 96, .inl (upd (fun _ => 0) 57 1))), (l4, .inl (cI, 96, .inl (upd kf 48 9))), (l5, .inl (cI, 6, .inl (upd (fun _ => 0) 3 1)))] := hD
  refine lv_nmi (show _ = (79 : Int32) from near_2) ?_
  refine lv_istore_n (lv' := [(3, .int 79), (2, .int 1), (4, .int 0), (0, .ref lg), (1, .ref bk)]) hx hb dX1_find_43 rfl hl (by decide) rfl (fun ls hl => ?_)
  refine lv_iload_n hx hb dX1_find_44 rfl (lv_at hl 0 rfl) ?_
  refine lv_iconst (v := -1) hx hb dX1_find_45 (by decide) ?_
  refine lv_icmp_ne (tgt := 50) hx hb dX1_find_46 (by decide) (fun c_28 => ?_) (fun c_28 => ?_)
  rotate_left
  · exact absurd c_28 (by decide)
  refine lv_aload_n hx hb dX1_find_50 rfl (lv_at hl 3 rfl) ?_
  refine lv_iload_n hx hb dX1_find_51 rfl (lv_at hl 0 rfl) ?_
  refine lv_bipush (v := 16) hx hb dX1_find_52 (by decide) ?_
  refine lv_idiv hx hb dX1_find_54 (by decide) ?_
  refine lv_nmi (show _ = (4 : Int32) from by decide +kernel) ?_
  refine lv_iload_n hx hb dX1_find_55 rfl (lv_at hl 0 rfl) ?_
  refine lv_bipush (v := 16) hx hb dX1_find_56 (by decide) ?_
  refine lv_irem hx hb dX1_find_58 (by decide) ?_
  refine lv_nmi (show _ = (15 : Int32) from by decide +kernel) ?_
  refine xc_v (wc := [(lg, .inr (1, [.ref l1, .ref l2, .ref l3, .ref l4, .ref l5])), (l1, .inl (cJ, 96, .inr (.inl (vp_updL (vp_updL (vp_updL (fun _ => 2305843009213693952) 57 0) 79 0) 92 0)))), (l2, .inl (cI, 96, .inl (upd (upd (upd (fun _ => (-1)) 57 (-1)) 79 (-1)) 92 (-1)))), (l3, .inl (cZ, 96, .inl (upd (fun _ => 0) 57 1))), (l4, .inl (cI, 96, .inl (upd kf 48 9))), (l5, .inl (cI, 6, .inl (upd (fun _ => 0) 3 1)))]) (wr := [(bk, .inr (5, [.ref br, .int 0]))]) (xrV (n := 2) (As := [.int 4, .int 15]) (rest := []) (ci := 1) (q0 := 1) hd hK hP hD (c_settle_79 l D cI cJ cZ cR _ lg l1 l2 l3 l4 l5 (vp_updL (vp_updL (vp_updL (fun _ => 2305843009213693952) 57 0) 79 0) 92 0) (upd (upd (upd (fun _ => (-1)) 57 (-1)) 79 (-1)) 92 (-1)) (upd (fun _ => 0) 57 1) (upd kf 48 9) (upd (fun _ => 0) 3 1) (by decide +kernel)) (gV t_475 mV_X1_settle) hV_X1_settle ⟨(Nat.le_of_ble_eq_true rfl), (Nat.le_of_ble_eq_true rfl)⟩ rfl rfl [1, 2, 3, 4, 5, 6] rfl rfl rfl hl.1 rfl (Nat.le_of_ble_eq_true rfl) dX1_find_59 ⟨(Nat.le_of_ble_eq_true rfl), (Nat.le_of_ble_eq_true rfl)⟩) hP hD hS hA [1, 2, 3, 4, 5, 6] [0] rfl rfl rfl (by decide) (fun u_30 H locs hw_31 hP hD hS => ?_)
  have hP : va_P D vwCl [(bk, .inr (5, [.ref br, .int 0])), (lg, .inr (1, [.ref l1, .ref l2, .ref l3, .ref l4, .ref l5])), (l1, .inl (cJ, 96, .inr (.inl (vp_updL (vp_updL (vp_updL (fun _ => 2305843009213693952) 57 0) 79 0) 92 0)))), (l2, .inl (cI, 96, .inl (upd (upd (upd (fun _ => (-1)) 57 (-1)) 79 (-1)) 92 (-1)))), (l3, .inl (cZ, 96, .inl (upd (upd (fun _ => 0) 57 1) 79 1))), (l4, .inl (cI, 96, .inl (upd (upd kf 48 9) 64 15))), (l5, .inl (cI, 6, .inl (upd (upd (fun _ => 0) 3 1) 4 1)))] H := hP
  have hD : va_D A [(bk, .inr (5, [.ref br, .int 0])), (lg, .inr (1, [.ref l1, .ref l2, .ref l3, .ref l4, .ref l5])), (l1, .inl (cJ, 96, .inr (.inl (vp_updL (vp_updL (vp_updL (fun _ => 2305843009213693952) 57 0) 79 0) 92 0)))), (l2, .inl (cI, 96, .inl (upd (upd (upd (fun _ => (-1)) 57 (-1)) 79 (-1)) 92 (-1)))), (l3, .inl (cZ, 96, .inl (upd (upd (fun _ => 0) 57 1) 79 1))), (l4, .inl (cI, 96, .inl (upd (upd kf 48 9) 64 15))), (l5, .inl (cI, 6, .inl (upd (upd (fun _ => 0) 3 1) 4 1)))] := hD
  refine lv_iconst (v := 0) hx hb dX1_find_62 (by decide) ?_
  refine lv_istore (lv' := [(4, .int 0), (3, .int 79), (2, .int 1), (0, .ref lg), (1, .ref bk)]) hx hb dX1_find_63 hl (by decide) rfl (fun ls hl => ?_)
  refine lv_iload hx hb dX1_find_65 (lv_at hl 0 rfl) ?_
  refine lv_aload_n hx hb dX1_find_67 rfl (lv_at hl 4 rfl) ?_
  refine va_get (D := D) (ci := 5) (v := .int 0) (C := RX5) (T := TX5) (N := 2) hx hb hts iT_X5 hown hK1 hP 0 rfl rfl 1 (by decide) (hts _ t_108) (fun _ h9 => h9) rfl dX1_find_68 ?_
  refine lv_icmp_ge (tgt := 101) hx hb dX1_find_71 (by decide) (fun c_32 => ?_) (fun c_32 => ?_)
  rotate_left
  · exact absurd c_32 (by decide)
  refine lv_iinc (v := 2) (lv' := [(2, .int 2), (4, .int 0), (3, .int 79), (0, .ref lg), (1, .ref bk)]) hx hb dX1_find_101 hl (k := 2) rfl (by decide) (by decide) rfl (fun ls hl => ?_)
  refine lv_goto (tgt := 33) hx hb dX1_find_104 (by decide) ?_
  refine lv_iload_n hx hb dX1_find_33 rfl (lv_at hl 0 rfl) ?_
  refine lv_bipush (v := 96) hx hb dX1_find_34 (by decide) ?_
  refine lv_icmp_ge (tgt := 107) hx hb dX1_find_36 (by decide) (fun c_33 => ?_) (fun c_33 => ?_)
  · exact absurd c_33 (by decide)
  refine lv_aload_n hx hb dX1_find_39 rfl (lv_at hl 3 rfl) ?_
  refine xc_i (wc := [(lg, .inr (1, [.ref l1, .ref l2, .ref l3, .ref l4, .ref l5])), (l1, .inl (cJ, 96, .inr (.inl (vp_updL (vp_updL (vp_updL (fun _ => 2305843009213693952) 57 0) 79 0) 92 0)))), (l2, .inl (cI, 96, .inl (upd (upd (upd (fun _ => (-1)) 57 (-1)) 79 (-1)) 92 (-1)))), (l3, .inl (cZ, 96, .inl (upd (upd (fun _ => 0) 57 1) 79 1))), (l4, .inl (cI, 96, .inl (upd (upd kf 48 9) 64 15))), (l5, .inl (cI, 6, .inl (upd (upd (fun _ => 0) 3 1) 4 1)))]) (wr := [(bk, .inr (5, [.ref br, .int 0]))]) (xrV (n := 0) (As := []) (rest := []) (ci := 1) (q0 := 1) hd hK hP hD (c_X1_nearest l D cI cJ cZ cR _ lg l1 l2 l3 l4 l5 (vp_updL (vp_updL (vp_updL (fun _ => 2305843009213693952) 57 0) 79 0) 92 0) (upd (upd (upd (fun _ => (-1)) 57 (-1)) 79 (-1)) 92 (-1)) (upd (upd (fun _ => 0) 57 1) 79 1) (upd (upd kf 48 9) 64 15) (upd (upd (fun _ => 0) 3 1) 4 1) ) (gV t_471 mV_X1_nearest) hV_X1_nearest ⟨(Nat.le_of_ble_eq_true rfl), (Nat.le_of_ble_eq_true rfl)⟩ rfl rfl [1, 2, 3, 4, 5, 6] rfl rfl rfl hl.1 rfl (Nat.le_of_ble_eq_true rfl) dX1_find_40 ⟨(Nat.le_of_ble_eq_true rfl), (Nat.le_of_ble_eq_true rfl)⟩) hP hD hS hA [1, 2, 3, 4, 5, 6] [0] rfl rfl rfl (by decide) (fun r_34 u_35 H locs hw_36 hP hD hS => ?_)
  have hw_37 : r_34 = ((nearS (vp_updL (vp_updL (vp_updL (fun _ => 2305843009213693952) 57 0) 79 0) 92 0) (upd (upd (fun _ => 0) 57 1) 79 1) 96).1) := hw_36
  subst hw_37
  have hP : va_P D vwCl [(bk, .inr (5, [.ref br, .int 0])), (lg, .inr (1, [.ref l1, .ref l2, .ref l3, .ref l4, .ref l5])), (l1, .inl (cJ, 96, .inr (.inl (vp_updL (vp_updL (vp_updL (fun _ => 2305843009213693952) 57 0) 79 0) 92 0)))), (l2, .inl (cI, 96, .inl (upd (upd (upd (fun _ => (-1)) 57 (-1)) 79 (-1)) 92 (-1)))), (l3, .inl (cZ, 96, .inl (upd (upd (fun _ => 0) 57 1) 79 1))), (l4, .inl (cI, 96, .inl (upd (upd kf 48 9) 64 15))), (l5, .inl (cI, 6, .inl (upd (upd (fun _ => 0) 3 1) 4 1)))] H := hP
  have hD : va_D A [(bk, .inr (5, [.ref br, .int 0])), (lg, .inr (1, [.ref l1, .ref l2, .ref l3, .ref l4, .ref l5])), (l1, .inl (cJ, 96, .inr (.inl (vp_updL (vp_updL (vp_updL (fun _ => 2305843009213693952) 57 0) 79 0) 92 0)))), (l2, .inl (cI, 96, .inl (upd (upd (upd (fun _ => (-1)) 57 (-1)) 79 (-1)) 92 (-1)))), (l3, .inl (cZ, 96, .inl (upd (upd (fun _ => 0) 57 1) 79 1))), (l4, .inl (cI, 96, .inl (upd (upd kf 48 9) 64 15))), (l5, .inl (cI, 6, .inl (upd (upd (fun _ => 0) 3 1) 4 1)))] := hD
  refine lv_nmi (show _ = (92 : Int32) from near_3) ?_
  refine lv_istore_n (lv' := [(3, .int 92), (2, .int 2), (4, .int 0), (0, .ref lg), (1, .ref bk)]) hx hb dX1_find_43 rfl hl (by decide) rfl (fun ls hl => ?_)
  refine lv_iload_n hx hb dX1_find_44 rfl (lv_at hl 0 rfl) ?_
  refine lv_iconst (v := -1) hx hb dX1_find_45 (by decide) ?_
  refine lv_icmp_ne (tgt := 50) hx hb dX1_find_46 (by decide) (fun c_38 => ?_) (fun c_38 => ?_)
  rotate_left
  · exact absurd c_38 (by decide)
  refine lv_aload_n hx hb dX1_find_50 rfl (lv_at hl 3 rfl) ?_
  refine lv_iload_n hx hb dX1_find_51 rfl (lv_at hl 0 rfl) ?_
  refine lv_bipush (v := 16) hx hb dX1_find_52 (by decide) ?_
  refine lv_idiv hx hb dX1_find_54 (by decide) ?_
  refine lv_nmi (show _ = (5 : Int32) from by decide +kernel) ?_
  refine lv_iload_n hx hb dX1_find_55 rfl (lv_at hl 0 rfl) ?_
  refine lv_bipush (v := 16) hx hb dX1_find_56 (by decide) ?_
  refine lv_irem hx hb dX1_find_58 (by decide) ?_
  refine lv_nmi (show _ = (12 : Int32) from by decide +kernel) ?_
  refine xc_v (wc := [(lg, .inr (1, [.ref l1, .ref l2, .ref l3, .ref l4, .ref l5])), (l1, .inl (cJ, 96, .inr (.inl (vp_updL (vp_updL (vp_updL (fun _ => 2305843009213693952) 57 0) 79 0) 92 0)))), (l2, .inl (cI, 96, .inl (upd (upd (upd (fun _ => (-1)) 57 (-1)) 79 (-1)) 92 (-1)))), (l3, .inl (cZ, 96, .inl (upd (upd (fun _ => 0) 57 1) 79 1))), (l4, .inl (cI, 96, .inl (upd (upd kf 48 9) 64 15))), (l5, .inl (cI, 6, .inl (upd (upd (fun _ => 0) 3 1) 4 1)))]) (wr := [(bk, .inr (5, [.ref br, .int 0]))]) (xrV (n := 2) (As := [.int 5, .int 12]) (rest := []) (ci := 1) (q0 := 1) hd hK hP hD (c_settle_92 l D cI cJ cZ cR _ lg l1 l2 l3 l4 l5 (vp_updL (vp_updL (vp_updL (fun _ => 2305843009213693952) 57 0) 79 0) 92 0) (upd (upd (upd (fun _ => (-1)) 57 (-1)) 79 (-1)) 92 (-1)) (upd (upd (fun _ => 0) 57 1) 79 1) (upd (upd kf 48 9) 64 15) (upd (upd (fun _ => 0) 3 1) 4 1) (by decide +kernel)) (gV t_475 mV_X1_settle) hV_X1_settle ⟨(Nat.le_of_ble_eq_true rfl), (Nat.le_of_ble_eq_true rfl)⟩ rfl rfl [1, 2, 3, 4, 5, 6] rfl rfl rfl hl.1 rfl (Nat.le_of_ble_eq_true rfl) dX1_find_59 ⟨(Nat.le_of_ble_eq_true rfl), (Nat.le_of_ble_eq_true rfl)⟩) hP hD hS hA [1, 2, 3, 4, 5, 6] [0] rfl rfl rfl (by decide) (fun u_40 H locs hw_41 hP hD hS => ?_)
  have hP : va_P D vwCl [(bk, .inr (5, [.ref br, .int 0])), (lg, .inr (1, [.ref l1, .ref l2, .ref l3, .ref l4, .ref l5])), (l1, .inl (cJ, 96, .inr (.inl (vp_updL (vp_updL (vp_updL (fun _ => 2305843009213693952) 57 0) 79 0) 92 0)))), (l2, .inl (cI, 96, .inl (upd (upd (upd (fun _ => (-1)) 57 (-1)) 79 (-1)) 92 (-1)))), (l3, .inl (cZ, 96, .inl (upd (upd (upd (fun _ => 0) 57 1) 79 1) 92 1))), (l4, .inl (cI, 96, .inl (upd (upd (upd kf 48 9) 64 15) 80 12))), (l5, .inl (cI, 6, .inl (upd (upd (upd (fun _ => 0) 3 1) 4 1) 5 1)))] H := hP
  have hD : va_D A [(bk, .inr (5, [.ref br, .int 0])), (lg, .inr (1, [.ref l1, .ref l2, .ref l3, .ref l4, .ref l5])), (l1, .inl (cJ, 96, .inr (.inl (vp_updL (vp_updL (vp_updL (fun _ => 2305843009213693952) 57 0) 79 0) 92 0)))), (l2, .inl (cI, 96, .inl (upd (upd (upd (fun _ => (-1)) 57 (-1)) 79 (-1)) 92 (-1)))), (l3, .inl (cZ, 96, .inl (upd (upd (upd (fun _ => 0) 57 1) 79 1) 92 1))), (l4, .inl (cI, 96, .inl (upd (upd (upd kf 48 9) 64 15) 80 12))), (l5, .inl (cI, 6, .inl (upd (upd (upd (fun _ => 0) 3 1) 4 1) 5 1)))] := hD
  refine lv_iconst (v := 0) hx hb dX1_find_62 (by decide) ?_
  refine lv_istore (lv' := [(4, .int 0), (3, .int 92), (2, .int 2), (0, .ref lg), (1, .ref bk)]) hx hb dX1_find_63 hl (by decide) rfl (fun ls hl => ?_)
  refine lv_iload hx hb dX1_find_65 (lv_at hl 0 rfl) ?_
  refine lv_aload_n hx hb dX1_find_67 rfl (lv_at hl 4 rfl) ?_
  refine va_get (D := D) (ci := 5) (v := .int 0) (C := RX5) (T := TX5) (N := 2) hx hb hts iT_X5 hown hK1 hP 0 rfl rfl 1 (by decide) (hts _ t_108) (fun _ h9 => h9) rfl dX1_find_68 ?_
  refine lv_icmp_ge (tgt := 101) hx hb dX1_find_71 (by decide) (fun c_42 => ?_) (fun c_42 => ?_)
  rotate_left
  · exact absurd c_42 (by decide)
  refine lv_iinc (v := 3) (lv' := [(2, .int 3), (4, .int 0), (3, .int 92), (0, .ref lg), (1, .ref bk)]) hx hb dX1_find_101 hl (k := 2) rfl (by decide) (by decide) rfl (fun ls hl => ?_)
  refine lv_goto (tgt := 33) hx hb dX1_find_104 (by decide) ?_
  refine lv_iload_n hx hb dX1_find_33 rfl (lv_at hl 0 rfl) ?_
  refine lv_bipush (v := 96) hx hb dX1_find_34 (by decide) ?_
  refine lv_icmp_ge (tgt := 107) hx hb dX1_find_36 (by decide) (fun c_43 => ?_) (fun c_43 => ?_)
  · exact absurd c_43 (by decide)
  refine lv_aload_n hx hb dX1_find_39 rfl (lv_at hl 3 rfl) ?_
  refine xc_i (wc := [(lg, .inr (1, [.ref l1, .ref l2, .ref l3, .ref l4, .ref l5])), (l1, .inl (cJ, 96, .inr (.inl (vp_updL (vp_updL (vp_updL (fun _ => 2305843009213693952) 57 0) 79 0) 92 0)))), (l2, .inl (cI, 96, .inl (upd (upd (upd (fun _ => (-1)) 57 (-1)) 79 (-1)) 92 (-1)))), (l3, .inl (cZ, 96, .inl (upd (upd (upd (fun _ => 0) 57 1) 79 1) 92 1))), (l4, .inl (cI, 96, .inl (upd (upd (upd kf 48 9) 64 15) 80 12))), (l5, .inl (cI, 6, .inl (upd (upd (upd (fun _ => 0) 3 1) 4 1) 5 1)))]) (wr := [(bk, .inr (5, [.ref br, .int 0]))]) (xrV (n := 0) (As := []) (rest := []) (ci := 1) (q0 := 1) hd hK hP hD (c_X1_nearest l D cI cJ cZ cR _ lg l1 l2 l3 l4 l5 (vp_updL (vp_updL (vp_updL (fun _ => 2305843009213693952) 57 0) 79 0) 92 0) (upd (upd (upd (fun _ => (-1)) 57 (-1)) 79 (-1)) 92 (-1)) (upd (upd (upd (fun _ => 0) 57 1) 79 1) 92 1) (upd (upd (upd kf 48 9) 64 15) 80 12) (upd (upd (upd (fun _ => 0) 3 1) 4 1) 5 1) ) (gV t_471 mV_X1_nearest) hV_X1_nearest ⟨(Nat.le_of_ble_eq_true rfl), (Nat.le_of_ble_eq_true rfl)⟩ rfl rfl [1, 2, 3, 4, 5, 6] rfl rfl rfl hl.1 rfl (Nat.le_of_ble_eq_true rfl) dX1_find_40 ⟨(Nat.le_of_ble_eq_true rfl), (Nat.le_of_ble_eq_true rfl)⟩) hP hD hS hA [1, 2, 3, 4, 5, 6] [0] rfl rfl rfl (by decide) (fun r_44 u_45 H locs hw_46 hP hD hS => ?_)
  have hw_47 : r_44 = ((nearS (vp_updL (vp_updL (vp_updL (fun _ => 2305843009213693952) 57 0) 79 0) 92 0) (upd (upd (upd (fun _ => 0) 57 1) 79 1) 92 1) 96).1) := hw_46
  subst hw_47
  have hP : va_P D vwCl [(bk, .inr (5, [.ref br, .int 0])), (lg, .inr (1, [.ref l1, .ref l2, .ref l3, .ref l4, .ref l5])), (l1, .inl (cJ, 96, .inr (.inl (vp_updL (vp_updL (vp_updL (fun _ => 2305843009213693952) 57 0) 79 0) 92 0)))), (l2, .inl (cI, 96, .inl (upd (upd (upd (fun _ => (-1)) 57 (-1)) 79 (-1)) 92 (-1)))), (l3, .inl (cZ, 96, .inl (upd (upd (upd (fun _ => 0) 57 1) 79 1) 92 1))), (l4, .inl (cI, 96, .inl (upd (upd (upd kf 48 9) 64 15) 80 12))), (l5, .inl (cI, 6, .inl (upd (upd (upd (fun _ => 0) 3 1) 4 1) 5 1)))] H := hP
  have hD : va_D A [(bk, .inr (5, [.ref br, .int 0])), (lg, .inr (1, [.ref l1, .ref l2, .ref l3, .ref l4, .ref l5])), (l1, .inl (cJ, 96, .inr (.inl (vp_updL (vp_updL (vp_updL (fun _ => 2305843009213693952) 57 0) 79 0) 92 0)))), (l2, .inl (cI, 96, .inl (upd (upd (upd (fun _ => (-1)) 57 (-1)) 79 (-1)) 92 (-1)))), (l3, .inl (cZ, 96, .inl (upd (upd (upd (fun _ => 0) 57 1) 79 1) 92 1))), (l4, .inl (cI, 96, .inl (upd (upd (upd kf 48 9) 64 15) 80 12))), (l5, .inl (cI, 6, .inl (upd (upd (upd (fun _ => 0) 3 1) 4 1) 5 1)))] := hD
  refine lv_nmi (show _ = (-1 : Int32) from near_4) ?_
  refine lv_istore_n (lv' := [(3, .int (-1)), (2, .int 3), (4, .int 0), (0, .ref lg), (1, .ref bk)]) hx hb dX1_find_43 rfl hl (by decide) rfl (fun ls hl => ?_)
  refine lv_iload_n hx hb dX1_find_44 rfl (lv_at hl 0 rfl) ?_
  refine lv_iconst (v := -1) hx hb dX1_find_45 (by decide) ?_
  refine lv_icmp_ne (tgt := 50) hx hb dX1_find_46 (by decide) (fun c_48 => ?_) (fun c_48 => ?_)
  · exact absurd c_48 (by decide)
  exact hret _ _ _ _ _ _ (vp_updL (vp_updL (vp_updL (fun _ => 2305843009213693952) 57 0) 79 0) 92 0, upd (upd (upd (fun _ => (-1)) 57 (-1)) 79 (-1)) 92 (-1), upd (upd (upd (fun _ => 0) 57 1) 79 1) 92 1, upd (upd (upd kf 48 9) 64 15) 80 12, upd (upd (upd (fun _ => 0) 3 1) 4 1) 5 1) dX1_find_49 hS (Nat.le_of_ble_eq_true rfl) (Nat.le_of_ble_eq_true rfl) ⟨nF_0, nG_0⟩ (hP.sub [1, 2, 3, 4, 5, 6, 0] rfl) (hD.sub [1, 2, 3, 4, 5, 6, 0] rfl rfl)
set_option maxHeartbeats 4000000 in
set_option maxRecDepth 100000 in
theorem c_bring_0 (sz : Nat) (h0 : Nat) (pg : Nat) (bk : Nat) (fg : Nat) (og : Nat) (lg : Nat) (br : Nat) (l1 : Nat) (l2 : Nat) (l3 : Nat) (l4 : Nat) (l5 : Nat) (ff : Nat → Int64) (gf : Nat → Int32) (zf : Nat → Int32) (kf : Nat → Int32) (cf : Nat → Int32)  : CTv l D cI cJ cZ cR yX6_bringLights cX6_bringLights 1 none 3 69 0 0 sz [.ref h0] [(h0, .inr (6, [.ref pg, .ref bk, .ref fg, .ref og, .ref lg, .int 0, .int 0, .int 0, .int 0, .int 0])), (lg, .inr (1, [.ref l1, .ref l2, .ref l3, .ref l4, .ref l5])), (l1, .inl (cJ, 96, .inr (.inl ff))), (l2, .inl (cI, 96, .inl gf)), (l3, .inl (cZ, 96, .inl zf)), (l4, .inl (cI, 96, .inl kf)), (l5, .inl (cI, 6, .inl cf)), (bk, .inr (5, [.ref br, .int 0]))] (fun (u : (Nat → Int64) × (Nat → Int32) × (Nat → Int32) × (Nat → Int32) × (Nat → Int32)) => (Lz u.1 u.2.1)) (fun (u : (Nat → Int64) × (Nat → Int32) × (Nat → Int32) × (Nat → Int32) × (Nat → Int32)) => [(h0, .inr (6, [.ref pg, .ref bk, .ref fg, .ref og, .ref lg, .int 0, .int 1, .int 0, .int 0, .int 0])), (lg, .inr (1, [.ref l1, .ref l2, .ref l3, .ref l4, .ref l5])), (l1, .inl (cJ, 96, .inr (.inl u.1))), (l2, .inl (cI, 96, .inl u.2.1)), (l3, .inl (cZ, 96, .inl u.2.2.1)), (l4, .inl (cI, 96, .inl u.2.2.2.1)), (l5, .inl (cI, 6, .inl u.2.2.2.2)), (bk, .inr (5, [.ref br, .int 0]))]) := by
  refine CTv.of (by decide) (Nat.le_of_ble_eq_true rfl) rfl ?_
  intro p e s m below meth c A Q ls hd hin hK hsz hP hD hA hS hl hret
  obtain ⟨hx, hb, hml, hown, hts⟩ := id hd
  have hK1 := hK.1
  have hown : s.vm.findClass RX6 = some m.cls := hown
  have hl : lv_has ls 1 [(0, .ref h0)] := hl
  refine lv_aload_n hx hb dX6_bringLights_0 rfl (lv_at hl 0 rfl) ?_
  refine va_get (D := D) (ci := 6) (v := .int 0) (C := RX6) (T := TX6) (N := 10) hx hb hts iT_X6 hown hK1 hP 0 rfl rfl 6 (by decide) (hts _ t_160) (fun _ h9 => h9) rfl dX6_bringLights_1 ?_
  refine lv_if_ne (tgt := 23) hx hb dX6_bringLights_4 (by decide) (fun c_1 => ?_) (fun c_1 => ?_)
  · exact absurd c_1 (by decide)
  refine lv_aload_n hx hb dX6_bringLights_7 rfl (lv_at hl 0 rfl) ?_
  refine va_get (D := D) (ci := 6) (v := .ref lg) (C := RX6) (T := TX6) (N := 10) hx hb hts iT_X6 hown hK1 hP 0 rfl rfl 4 (by decide) (hts _ t_158) (fun _ h9 => h9) rfl dX6_bringLights_8 ?_
  refine lv_aload_n hx hb dX6_bringLights_11 rfl (lv_at hl 0 rfl) ?_
  refine va_get (D := D) (ci := 6) (v := .ref bk) (C := RX6) (T := TX6) (N := 10) hx hb hts iT_X6 hown hK1 hP 0 rfl rfl 1 (by decide) (hts _ t_155) (fun _ h9 => h9) rfl dX6_bringLights_12 ?_
  refine xc_v (wc := [(lg, .inr (1, [.ref l1, .ref l2, .ref l3, .ref l4, .ref l5])), (l1, .inl (cJ, 96, .inr (.inl ff))), (l2, .inl (cI, 96, .inl gf)), (l3, .inl (cZ, 96, .inl zf)), (l4, .inl (cI, 96, .inl kf)), (l5, .inl (cI, 6, .inl cf)), (bk, .inr (5, [.ref br, .int 0]))]) (wr := [(h0, .inr (6, [.ref pg, .ref bk, .ref fg, .ref og, .ref lg, .int 0, .int 0, .int 0, .int 0, .int 0]))]) (xrV (n := 1) (As := [.ref bk]) (rest := []) (ci := 1) (q0 := 1) hd hK hP hD (c_X1_find l D cI cJ cZ cR _ lg l1 l2 l3 l4 l5 bk br ff gf zf kf cf ) (gV t_454 mV_X1_find) hV_X1_find ⟨(Nat.le_of_ble_eq_true rfl), (Nat.le_of_ble_eq_true rfl)⟩ rfl rfl [1, 2, 3, 4, 5, 6, 7] rfl rfl rfl hl.1 rfl (Nat.le_of_ble_eq_true rfl) dX6_bringLights_15 ⟨(Nat.le_of_ble_eq_true rfl), (Nat.le_of_ble_eq_true rfl)⟩) hP hD hS hA [1, 2, 3, 4, 5, 6, 7] [0] rfl rfl rfl (by decide) (fun u_3 H locs hw_4 hP hD hS => ?_)
  obtain ⟨f2_5, g2_6, z2_7, k2_8, c2_9⟩ := u_3
  have hw_10 : Lz f2_5 g2_6 := hw_4
  have hP : va_P D vwCl [(h0, .inr (6, [.ref pg, .ref bk, .ref fg, .ref og, .ref lg, .int 0, .int 0, .int 0, .int 0, .int 0])), (lg, .inr (1, [.ref l1, .ref l2, .ref l3, .ref l4, .ref l5])), (l1, .inl (cJ, 96, .inr (.inl f2_5))), (l2, .inl (cI, 96, .inl g2_6)), (l3, .inl (cZ, 96, .inl z2_7)), (l4, .inl (cI, 96, .inl k2_8)), (l5, .inl (cI, 6, .inl c2_9)), (bk, .inr (5, [.ref br, .int 0]))] H := hP
  have hD : va_D A [(h0, .inr (6, [.ref pg, .ref bk, .ref fg, .ref og, .ref lg, .int 0, .int 0, .int 0, .int 0, .int 0])), (lg, .inr (1, [.ref l1, .ref l2, .ref l3, .ref l4, .ref l5])), (l1, .inl (cJ, 96, .inr (.inl f2_5))), (l2, .inl (cI, 96, .inl g2_6)), (l3, .inl (cZ, 96, .inl z2_7)), (l4, .inl (cI, 96, .inl k2_8)), (l5, .inl (cI, 6, .inl c2_9)), (bk, .inr (5, [.ref br, .int 0]))] := hD
  refine lv_aload_n hx hb dX6_bringLights_18 rfl (lv_at hl 0 rfl) ?_
  refine lv_iconst (v := 1) hx hb dX6_bringLights_19 (by decide) ?_
  refine va_put (D := D) (ci := 6) (v := .int 1) (ty := .boolean) (C := RX6) (T := TX6) (N := 10) hx hb hts iT_X6 tyX6 tyX6_ok nmX6 hown hK1 hP hD hS 0 rfl rfl 6 (by decide) (hts _ t_160) (fun _ h9 => h9) rfl (by decide +kernel) rfl rfl (Nat.le_of_ble_eq_true rfl) dX6_bringLights_20 (fun H locs hP hD hS => ?_)
  have hP : va_P D vwCl [(h0, .inr (6, [.ref pg, .ref bk, .ref fg, .ref og, .ref lg, .int 0, .int 1, .int 0, .int 0, .int 0])), (lg, .inr (1, [.ref l1, .ref l2, .ref l3, .ref l4, .ref l5])), (l1, .inl (cJ, 96, .inr (.inl f2_5))), (l2, .inl (cI, 96, .inl g2_6)), (l3, .inl (cZ, 96, .inl z2_7)), (l4, .inl (cI, 96, .inl k2_8)), (l5, .inl (cI, 6, .inl c2_9)), (bk, .inr (5, [.ref br, .int 0]))] H := hP
  have hD : va_D A [(h0, .inr (6, [.ref pg, .ref bk, .ref fg, .ref og, .ref lg, .int 0, .int 1, .int 0, .int 0, .int 0])), (lg, .inr (1, [.ref l1, .ref l2, .ref l3, .ref l4, .ref l5])), (l1, .inl (cJ, 96, .inr (.inl f2_5))), (l2, .inl (cI, 96, .inl g2_6)), (l3, .inl (cZ, 96, .inl z2_7)), (l4, .inl (cI, 96, .inl k2_8)), (l5, .inl (cI, 6, .inl c2_9)), (bk, .inr (5, [.ref br, .int 0]))] := hD
  exact hret _ _ _ _ _ _ (f2_5, g2_6, z2_7, k2_8, c2_9) dX6_bringLights_23 hS (Nat.le_of_ble_eq_true rfl) (Nat.le_of_ble_eq_true rfl) hw_10 (hP.sub [0, 1, 2, 3, 4, 5, 6, 7] rfl) (hD.sub [0, 1, 2, 3, 4, 5, 6, 7] rfl rfl)
set_option maxHeartbeats 4000000 in
set_option maxRecDepth 100000 in
theorem c_bring_1 (sz : Nat) (h0 : Nat) (pg : Nat) (bk : Nat) (fg : Nat) (og : Nat) (lg : Nat) (br : Nat) (l1 : Nat) (l2 : Nat) (l3 : Nat) (l4 : Nat) (l5 : Nat) (ff : Nat → Int64) (gf : Nat → Int32) (zf : Nat → Int32) (kf : Nat → Int32) (cf : Nat → Int32)  : CTv l D cI cJ cZ cR yX6_bringLights cX6_bringLights 1 none 3 69 0 0 sz [.ref h0] [(h0, .inr (6, [.ref pg, .ref bk, .ref fg, .ref og, .ref lg, .int 0, .int 1, .int 0, .int 0, .int 0])), (lg, .inr (1, [.ref l1, .ref l2, .ref l3, .ref l4, .ref l5])), (l1, .inl (cJ, 96, .inr (.inl ff))), (l2, .inl (cI, 96, .inl gf)), (l3, .inl (cZ, 96, .inl zf)), (l4, .inl (cI, 96, .inl kf)), (l5, .inl (cI, 6, .inl cf)), (bk, .inr (5, [.ref br, .int 0]))] (fun (u : Unit) => True) (fun (u : Unit) => [(h0, .inr (6, [.ref pg, .ref bk, .ref fg, .ref og, .ref lg, .int 0, .int 1, .int 0, .int 0, .int 0])), (lg, .inr (1, [.ref l1, .ref l2, .ref l3, .ref l4, .ref l5])), (l1, .inl (cJ, 96, .inr (.inl ff))), (l2, .inl (cI, 96, .inl gf)), (l3, .inl (cZ, 96, .inl zf)), (l4, .inl (cI, 96, .inl kf)), (l5, .inl (cI, 6, .inl cf)), (bk, .inr (5, [.ref br, .int 0]))]) := by
  refine CTv.of (by decide) (Nat.le_of_ble_eq_true rfl) rfl ?_
  intro p e s m below meth c A Q ls hd hin hK hsz hP hD hA hS hl hret
  obtain ⟨hx, hb, hml, hown, hts⟩ := id hd
  have hK1 := hK.1
  have hown : s.vm.findClass RX6 = some m.cls := hown
  have hl : lv_has ls 1 [(0, .ref h0)] := hl
  refine lv_aload_n hx hb dX6_bringLights_0 rfl (lv_at hl 0 rfl) ?_
  refine va_get (D := D) (ci := 6) (v := .int 1) (C := RX6) (T := TX6) (N := 10) hx hb hts iT_X6 hown hK1 hP 0 rfl rfl 6 (by decide) (hts _ t_160) (fun _ h9 => h9) rfl dX6_bringLights_1 ?_
  refine lv_if_ne (tgt := 23) hx hb dX6_bringLights_4 (by decide) (fun c_1 => ?_) (fun c_1 => ?_)
  rotate_left
  · exact absurd c_1 (by decide)
  exact hret _ _ _ _ _ _ () dX6_bringLights_23 hS (Nat.le_of_ble_eq_true rfl) (Nat.le_of_ble_eq_true rfl) trivial (hP.sub [0, 1, 2, 3, 4, 5, 6, 7] rfl) (hD.sub [0, 1, 2, 3, 4, 5, 6, 7] rfl rfl)
set_option maxHeartbeats 4000000 in
set_option maxRecDepth 100000 in
theorem c_X1_reaches (sz : Nat) (lg : Nat) (l1 : Nat) (l2 : Nat) (l3 : Nat) (l4 : Nat) (l5 : Nat) (a : Nat) (b : Nat) (ff : Nat → Int64) (gf : Nat → Int32) (zf : Nat → Int32) (kf : Nat → Int32) (cf : Nat → Int32) (ha : a < 3) (hb0 : b < 16) (hf : ff (a * 16 + b) = 2305843009213693952) : CTi l D cI cJ cZ cR yX1_reaches cX1_reaches 3 (some .boolean) 0 0 0 0 sz [.ref lg, .int (nI a), .int (nI b)] [(lg, .inr (1, [.ref l1, .ref l2, .ref l3, .ref l4, .ref l5])), (l1, .inl (cJ, 96, .inr (.inl ff))), (l2, .inl (cI, 96, .inl gf)), (l3, .inl (cZ, 96, .inl zf)), (l4, .inl (cI, 96, .inl kf)), (l5, .inl (cI, 6, .inl cf))] (fun (r : Int32) (u : Unit) => (r = 0)) (fun (u : Unit) => [(lg, .inr (1, [.ref l1, .ref l2, .ref l3, .ref l4, .ref l5])), (l1, .inl (cJ, 96, .inr (.inl ff))), (l2, .inl (cI, 96, .inl gf)), (l3, .inl (cZ, 96, .inl zf)), (l4, .inl (cI, 96, .inl kf)), (l5, .inl (cI, 6, .inl cf))]) := by
  refine CTi.of (ty := .boolean) (by decide) (Nat.le_of_ble_eq_true rfl) rfl ?_
  intro p e s m below meth c A Q ls hd hin hK hsz hP hD hA hS hl hret
  obtain ⟨hx, hb, hml, hown, hts⟩ := id hd
  have hK1 := hK.1
  have hown : s.vm.findClass RX1 = some m.cls := hown
  have hl : lv_has ls 3 [(0, .ref lg), (1, .int (nI a)), (2, .int (nI b))] := hl
  refine lv_aload_n hx hb dX1_reaches_0 rfl (lv_at hl 0 rfl) ?_
  refine va_get (D := D) (ci := 1) (v := .ref l1) (C := RX1) (T := TX1) (N := 5) hx hb hts iT_X1 hown hK1 hP 0 rfl rfl 0 (by decide) (hts _ t_136) (fun _ h9 => h9) rfl dX1_reaches_1 ?_
  refine lv_iload_n hx hb dX1_reaches_4 rfl (lv_at hl 1 rfl) ?_
  refine lv_bipush (v := 16) hx hb dX1_reaches_5 (by decide) ?_
  refine lv_imul hx hb dX1_reaches_7 ?_
  refine lv_nmi (show _ = (nI (a * 16)) from pk_mul (a) (16)) ?_
  refine lv_iload_n hx hb dX1_reaches_8 rfl (lv_at hl 2 rfl) ?_
  refine lv_iadd hx hb dX1_reaches_9 ?_
  refine lv_nmi (show _ = (nI ((a * 16) + b)) from nI_add ((a * 16)) (b)) ?_
  refine va_lald hx hb hK1 hP 1 1 rfl rfl (vp_in_nI (by omega) (by omega)) dX1_reaches_10 ?_
  refine lv_nml (show _ = ff ((a * 16) + b) from by rw [nI_clamp (n := ((a * 16) + b)) (by omega)]) ?_
  refine lv_nml (show _ = (2305843009213693952 : Int64) from hf) ?_
  refine lv_ldc2 hx hb hown (hts _ t_462) dX1_reaches_11 ?_
  refine W.lcmp hx hb dX1_reaches_14 ?_
  refine lv_nmi (show _ = (0 : Int32) from by decide +kernel) ?_
  refine lv_if_ge (tgt := 22) hx hb dX1_reaches_15 (by decide) (fun c_1 => ?_) (fun c_1 => ?_)
  rotate_left
  · exact absurd c_1 (by decide)
  refine lv_iconst (v := 0) hx hb dX1_reaches_22 (by decide) ?_
  exact hret _ _ _ _ _ _ 0 () dX1_reaches_23 rfl hS (Nat.le_of_ble_eq_true rfl) (Nat.le_of_ble_eq_true rfl) rfl (hP.sub [0, 1, 2, 3, 4, 5] rfl) (hD.sub [0, 1, 2, 3, 4, 5] rfl rfl)
set_option maxHeartbeats 4000000 in
set_option maxRecDepth 100000 in
theorem c_X1_stepsTo (sz : Nat) (lg : Nat) (l1 : Nat) (l2 : Nat) (l3 : Nat) (l4 : Nat) (l5 : Nat) (a : Nat) (b : Nat) (ff : Nat → Int64) (gf : Nat → Int32) (zf : Nat → Int32) (kf : Nat → Int32) (cf : Nat → Int32) (ha : a < 3) (hb0 : b < 16) (hf : ff (a * 16 + b) = 2305843009213693952) : CTi l D cI cJ cZ cR yX1_stepsTo cX1_stepsTo 3 (some .int) 1 22 0 0 sz [.ref lg, .int (nI a), .int (nI b)] [(lg, .inr (1, [.ref l1, .ref l2, .ref l3, .ref l4, .ref l5])), (l1, .inl (cJ, 96, .inr (.inl ff))), (l2, .inl (cI, 96, .inl gf)), (l3, .inl (cZ, 96, .inl zf)), (l4, .inl (cI, 96, .inl kf)), (l5, .inl (cI, 6, .inl cf))] (fun (r : Int32) (u : Unit) => (r = (-1))) (fun (u : Unit) => [(lg, .inr (1, [.ref l1, .ref l2, .ref l3, .ref l4, .ref l5])), (l1, .inl (cJ, 96, .inr (.inl ff))), (l2, .inl (cI, 96, .inl gf)), (l3, .inl (cZ, 96, .inl zf)), (l4, .inl (cI, 96, .inl kf)), (l5, .inl (cI, 6, .inl cf))]) := by
  refine CTi.of (ty := .int) (by decide) (Nat.le_of_ble_eq_true rfl) rfl ?_
  intro p e s m below meth c A Q ls hd hin hK hsz hP hD hA hS hl hret
  obtain ⟨hx, hb, hml, hown, hts⟩ := id hd
  have hK1 := hK.1
  have hown : s.vm.findClass RX1 = some m.cls := hown
  have hl : lv_has ls 3 [(0, .ref lg), (1, .int (nI a)), (2, .int (nI b))] := hl
  refine lv_aload_n hx hb dX1_stepsTo_0 rfl (lv_at hl 0 rfl) ?_
  refine lv_iload_n hx hb dX1_stepsTo_1 rfl (lv_at hl 1 rfl) ?_
  refine lv_iload_n hx hb dX1_stepsTo_2 rfl (lv_at hl 2 rfl) ?_
  refine xc_i (wc := [(lg, .inr (1, [.ref l1, .ref l2, .ref l3, .ref l4, .ref l5])), (l1, .inl (cJ, 96, .inr (.inl ff))), (l2, .inl (cI, 96, .inl gf)), (l3, .inl (cZ, 96, .inl zf)), (l4, .inl (cI, 96, .inl kf)), (l5, .inl (cI, 6, .inl cf))]) (wr := []) (xrV (n := 2) (As := [.int (nI a), .int (nI b)]) (rest := []) (ci := 1) (q0 := 0) hd hK hP hD (c_X1_reaches l D cI cJ cZ cR _ lg l1 l2 l3 l4 l5 a b ff gf zf kf cf ha hb0 hf) (gV t_515 mV_X1_reaches) hV_X1_reaches ⟨(Nat.le_of_ble_eq_true rfl), (Nat.le_of_ble_eq_true rfl)⟩ rfl rfl [0, 1, 2, 3, 4, 5] rfl rfl rfl hl.1 rfl (Nat.le_of_ble_eq_true rfl) dX1_stepsTo_3 ⟨(Nat.le_of_ble_eq_true rfl), (Nat.le_of_ble_eq_true rfl)⟩) hP hD hS hA [0, 1, 2, 3, 4, 5] [] rfl rfl rfl (by decide) (fun r_1 u_2 H locs hw_3 hP hD hS => ?_)
  have hw_4 : r_1 = 0 := hw_3
  subst hw_4
  have hP : va_P D vwCl [(lg, .inr (1, [.ref l1, .ref l2, .ref l3, .ref l4, .ref l5])), (l1, .inl (cJ, 96, .inr (.inl ff))), (l2, .inl (cI, 96, .inl gf)), (l3, .inl (cZ, 96, .inl zf)), (l4, .inl (cI, 96, .inl kf)), (l5, .inl (cI, 6, .inl cf))] H := hP
  have hD : va_D A [(lg, .inr (1, [.ref l1, .ref l2, .ref l3, .ref l4, .ref l5])), (l1, .inl (cJ, 96, .inr (.inl ff))), (l2, .inl (cI, 96, .inl gf)), (l3, .inl (cZ, 96, .inl zf)), (l4, .inl (cI, 96, .inl kf)), (l5, .inl (cI, 6, .inl cf))] := hD
  refine lv_if_eq (tgt := 30) hx hb dX1_stepsTo_6 (by decide) (fun c_5 => ?_) (fun c_5 => ?_)
  rotate_left
  · exact absurd c_5 (by decide)
  refine lv_iconst (v := -1) hx hb dX1_stepsTo_30 (by decide) ?_
  exact hret _ _ _ _ _ _ (-1) () dX1_stepsTo_31 rfl hS (Nat.le_of_ble_eq_true rfl) (Nat.le_of_ble_eq_true rfl) rfl (hP.sub [0, 1, 2, 3, 4, 5] rfl) (hD.sub [0, 1, 2, 3, 4, 5] rfl rfl)
set_option maxHeartbeats 4000000 in
set_option maxRecDepth 100000 in
theorem c_X1_firstTo (sz : Nat) (lg : Nat) (l1 : Nat) (l2 : Nat) (l3 : Nat) (l4 : Nat) (l5 : Nat) (a : Nat) (b : Nat) (ff : Nat → Int64) (gf : Nat → Int32) (zf : Nat → Int32) (kf : Nat → Int32) (cf : Nat → Int32) (ha : a < 3) (hb0 : b < 16) (hf : gf (a * 16 + b) = -1) : CTi l D cI cJ cZ cR yX1_firstTo cX1_firstTo 3 (some .int) 0 0 0 0 sz [.ref lg, .int (nI a), .int (nI b)] [(lg, .inr (1, [.ref l1, .ref l2, .ref l3, .ref l4, .ref l5])), (l1, .inl (cJ, 96, .inr (.inl ff))), (l2, .inl (cI, 96, .inl gf)), (l3, .inl (cZ, 96, .inl zf)), (l4, .inl (cI, 96, .inl kf)), (l5, .inl (cI, 6, .inl cf))] (fun (r : Int32) (u : Unit) => (r = (-1))) (fun (u : Unit) => [(lg, .inr (1, [.ref l1, .ref l2, .ref l3, .ref l4, .ref l5])), (l1, .inl (cJ, 96, .inr (.inl ff))), (l2, .inl (cI, 96, .inl gf)), (l3, .inl (cZ, 96, .inl zf)), (l4, .inl (cI, 96, .inl kf)), (l5, .inl (cI, 6, .inl cf))]) := by
  refine CTi.of (ty := .int) (by decide) (Nat.le_of_ble_eq_true rfl) rfl ?_
  intro p e s m below meth c A Q ls hd hin hK hsz hP hD hA hS hl hret
  obtain ⟨hx, hb, hml, hown, hts⟩ := id hd
  have hK1 := hK.1
  have hown : s.vm.findClass RX1 = some m.cls := hown
  have hl : lv_has ls 3 [(0, .ref lg), (1, .int (nI a)), (2, .int (nI b))] := hl
  refine lv_aload_n hx hb dX1_firstTo_0 rfl (lv_at hl 0 rfl) ?_
  refine va_get (D := D) (ci := 1) (v := .ref l2) (C := RX1) (T := TX1) (N := 5) hx hb hts iT_X1 hown hK1 hP 0 rfl rfl 1 (by decide) (hts _ t_137) (fun _ h9 => h9) rfl dX1_firstTo_1 ?_
  refine lv_iload_n hx hb dX1_firstTo_4 rfl (lv_at hl 1 rfl) ?_
  refine lv_bipush (v := 16) hx hb dX1_firstTo_5 (by decide) ?_
  refine lv_imul hx hb dX1_firstTo_7 ?_
  refine lv_nmi (show _ = (nI (a * 16)) from pk_mul (a) (16)) ?_
  refine lv_iload_n hx hb dX1_firstTo_8 rfl (lv_at hl 2 rfl) ?_
  refine lv_iadd hx hb dX1_firstTo_9 ?_
  refine lv_nmi (show _ = (nI ((a * 16) + b)) from nI_add ((a * 16)) (b)) ?_
  refine va_iald hx hb hK1 hP 2 0 rfl rfl (vp_in_nI (by omega) (by omega)) dX1_firstTo_10 ?_
  refine lv_nmi (show _ = gf ((a * 16) + b) from by rw [nI_clamp (n := ((a * 16) + b)) (by omega)]) ?_
  refine lv_nmi (show _ = (-1 : Int32) from hf) ?_
  exact hret _ _ _ _ _ _ (-1) () dX1_firstTo_11 rfl hS (Nat.le_of_ble_eq_true rfl) (Nat.le_of_ble_eq_true rfl) rfl (hP.sub [0, 1, 2, 3, 4, 5] rfl) (hD.sub [0, 1, 2, 3, 4, 5] rfl rfl)
set_option maxHeartbeats 4000000 in
set_option maxRecDepth 100000 in
theorem c_kinds_0 (sz : Nat) (h0 : Nat) (pg : Nat) (bk : Nat) (fg : Nat) (og : Nat) (lg : Nat) (br : Nat) (l1 : Nat) (l2 : Nat) (l3 : Nat) (l4 : Nat) (l5 : Nat) (a : Nat) (ff : Nat → Int64) (gf : Nat → Int32) (zf : Nat → Int32) (kf : Nat → Int32) (cf : Nat → Int32) (ha : a < 3) : CTi l D cI cJ cZ cR yX6_kinds cX6_kinds 4 (some .int) 4 89 0 0 sz [.ref h0, .int (nI a)] [(h0, .inr (6, [.ref pg, .ref bk, .ref fg, .ref og, .ref lg, .int 0, .int 0, .int 0, .int 0, .int 0])), (lg, .inr (1, [.ref l1, .ref l2, .ref l3, .ref l4, .ref l5])), (l1, .inl (cJ, 96, .inr (.inl ff))), (l2, .inl (cI, 96, .inl gf)), (l3, .inl (cZ, 96, .inl zf)), (l4, .inl (cI, 96, .inl kf)), (l5, .inl (cI, 6, .inl cf)), (bk, .inr (5, [.ref br, .int 0]))] (fun (r : Int32) (u : (Nat → Int64) × (Nat → Int32) × (Nat → Int32) × (Nat → Int32) × (Nat → Int32)) => (r = 0) ∧ (Lz u.1 u.2.1)) (fun (u : (Nat → Int64) × (Nat → Int32) × (Nat → Int32) × (Nat → Int32) × (Nat → Int32)) => [(h0, .inr (6, [.ref pg, .ref bk, .ref fg, .ref og, .ref lg, .int 0, .int 1, .int 0, .int 0, .int 0])), (lg, .inr (1, [.ref l1, .ref l2, .ref l3, .ref l4, .ref l5])), (l1, .inl (cJ, 96, .inr (.inl u.1))), (l2, .inl (cI, 96, .inl u.2.1)), (l3, .inl (cZ, 96, .inl u.2.2.1)), (l4, .inl (cI, 96, .inl u.2.2.2.1)), (l5, .inl (cI, 6, .inl u.2.2.2.2)), (bk, .inr (5, [.ref br, .int 0]))]) := by
  refine CTi.of (ty := .int) (by decide) (Nat.le_of_ble_eq_true rfl) rfl ?_
  intro p e s m below meth c A Q ls hd hin hK hsz hP hD hA hS hl hret
  obtain ⟨hx, hb, hml, hown, hts⟩ := id hd
  have hK1 := hK.1
  have hown : s.vm.findClass RX6 = some m.cls := hown
  have hl : lv_has ls 4 [(0, .ref h0), (1, .int (nI a))] := hl
  refine lv_iload_n hx hb dX6_kinds_0 rfl (lv_at hl 1 rfl) ?_
  refine xc_i (wc := []) (wr := [(h0, .inr (6, [.ref pg, .ref bk, .ref fg, .ref og, .ref lg, .int 0, .int 0, .int 0, .int 0, .int 0])), (lg, .inr (1, [.ref l1, .ref l2, .ref l3, .ref l4, .ref l5])), (l1, .inl (cJ, 96, .inr (.inl ff))), (l2, .inl (cI, 96, .inl gf)), (l3, .inl (cZ, 96, .inl zf)), (l4, .inl (cI, 96, .inl kf)), (l5, .inl (cI, 6, .inl cf)), (bk, .inr (5, [.ref br, .int 0]))]) (xrS (n := 1) (As := [.int (nI a)]) (rest := []) hd hK hP hD (c_X6_isOpen l D cI cJ cZ cR _ (nI a) ) (gS t_341 mS_X6_isOpen) hS_X6_isOpen ⟨(Nat.le_of_ble_eq_true rfl), (Nat.le_of_ble_eq_true rfl)⟩ [] rfl rfl rfl hl.1 rfl (Nat.le_of_ble_eq_true rfl) dX6_kinds_1 ⟨(Nat.le_of_ble_eq_true rfl), (Nat.le_of_ble_eq_true rfl)⟩) hP hD hS hA [] [0, 1, 2, 3, 4, 5, 6, 7] rfl rfl rfl (by decide) (fun r_1 u_2 H locs hw_3 hP hD hS => ?_)
  have hw_4 : r_1 = (if (nI a) < 0 then 0 else if 3 ≤ (nI a) then 0 else 1) := hw_3
  subst hw_4
  have hP : va_P D vwCl [(h0, .inr (6, [.ref pg, .ref bk, .ref fg, .ref og, .ref lg, .int 0, .int 0, .int 0, .int 0, .int 0])), (lg, .inr (1, [.ref l1, .ref l2, .ref l3, .ref l4, .ref l5])), (l1, .inl (cJ, 96, .inr (.inl ff))), (l2, .inl (cI, 96, .inl gf)), (l3, .inl (cZ, 96, .inl zf)), (l4, .inl (cI, 96, .inl kf)), (l5, .inl (cI, 6, .inl cf)), (bk, .inr (5, [.ref br, .int 0]))] H := hP
  have hD : va_D A [(h0, .inr (6, [.ref pg, .ref bk, .ref fg, .ref og, .ref lg, .int 0, .int 0, .int 0, .int 0, .int 0])), (lg, .inr (1, [.ref l1, .ref l2, .ref l3, .ref l4, .ref l5])), (l1, .inl (cJ, 96, .inr (.inl ff))), (l2, .inl (cI, 96, .inl gf)), (l3, .inl (cZ, 96, .inl zf)), (l4, .inl (cI, 96, .inl kf)), (l5, .inl (cI, 6, .inl cf)), (bk, .inr (5, [.ref br, .int 0]))] := hD
  refine lv_nmi (show _ = (1 : Int32) from opn_ok ha) ?_
  refine lv_if_ne (tgt := 11) hx hb dX6_kinds_4 (by decide) (fun c_5 => ?_) (fun c_5 => ?_)
  rotate_left
  · exact absurd c_5 (by decide)
  refine lv_aload_n hx hb dX6_kinds_11 rfl (lv_at hl 0 rfl) ?_
  refine xc_v (wc := [(h0, .inr (6, [.ref pg, .ref bk, .ref fg, .ref og, .ref lg, .int 0, .int 0, .int 0, .int 0, .int 0])), (lg, .inr (1, [.ref l1, .ref l2, .ref l3, .ref l4, .ref l5])), (l1, .inl (cJ, 96, .inr (.inl ff))), (l2, .inl (cI, 96, .inl gf)), (l3, .inl (cZ, 96, .inl zf)), (l4, .inl (cI, 96, .inl kf)), (l5, .inl (cI, 6, .inl cf)), (bk, .inr (5, [.ref br, .int 0]))]) (wr := []) (xrV (n := 0) (As := []) (rest := []) (ci := 6) (q0 := 0) hd hK hP hD (c_bring_0 l D cI cJ cZ cR _ h0 pg bk fg og lg br l1 l2 l3 l4 l5 ff gf zf kf cf ) (gV t_450 mV_X6_bringLights) hV_X6_bringLights ⟨(Nat.le_of_ble_eq_true rfl), (Nat.le_of_ble_eq_true rfl)⟩ rfl rfl [0, 1, 2, 3, 4, 5, 6, 7] rfl rfl rfl hl.1 rfl (Nat.le_of_ble_eq_true rfl) dX6_kinds_12 ⟨(Nat.le_of_ble_eq_true rfl), (Nat.le_of_ble_eq_true rfl)⟩) hP hD hS hA [0, 1, 2, 3, 4, 5, 6, 7] [] rfl rfl rfl (by decide) (fun u_7 H locs hw_8 hP hD hS => ?_)
  obtain ⟨f2_9, g2_10, z2_11, k2_12, c2_13⟩ := u_7
  have hw_14 : Lz f2_9 g2_10 := hw_8
  have hLz := hw_14
  have hP : va_P D vwCl [(h0, .inr (6, [.ref pg, .ref bk, .ref fg, .ref og, .ref lg, .int 0, .int 1, .int 0, .int 0, .int 0])), (lg, .inr (1, [.ref l1, .ref l2, .ref l3, .ref l4, .ref l5])), (l1, .inl (cJ, 96, .inr (.inl f2_9))), (l2, .inl (cI, 96, .inl g2_10)), (l3, .inl (cZ, 96, .inl z2_11)), (l4, .inl (cI, 96, .inl k2_12)), (l5, .inl (cI, 6, .inl c2_13)), (bk, .inr (5, [.ref br, .int 0]))] H := hP
  have hD : va_D A [(h0, .inr (6, [.ref pg, .ref bk, .ref fg, .ref og, .ref lg, .int 0, .int 1, .int 0, .int 0, .int 0])), (lg, .inr (1, [.ref l1, .ref l2, .ref l3, .ref l4, .ref l5])), (l1, .inl (cJ, 96, .inr (.inl f2_9))), (l2, .inl (cI, 96, .inl g2_10)), (l3, .inl (cZ, 96, .inl z2_11)), (l4, .inl (cI, 96, .inl k2_12)), (l5, .inl (cI, 6, .inl c2_13)), (bk, .inr (5, [.ref br, .int 0]))] := hD
  refine lv_iconst (v := 0) hx hb dX6_kinds_15 (by decide) ?_
  refine lv_istore_n (lv' := [(2, .int 0), (0, .ref h0), (1, .int (nI a))]) hx hb dX6_kinds_16 rfl hl (by decide) rfl (fun ls hl => ?_)
  refine lv_iconst (v := 0) hx hb dX6_kinds_17 (by decide) ?_
  refine lv_istore_n (lv' := [(3, .int 0), (2, .int 0), (0, .ref h0), (1, .int (nI a))]) hx hb dX6_kinds_18 rfl hl (by decide) rfl (fun ls hl => ?_)
  have LOOP_19 : ∀ (n : Nat) (i : Nat), (i + n = 16) → ∀ (H : Heap) (locs : List Loc) (ls : Array Slot), va_P D vwCl [(h0, .inr (6, [.ref pg, .ref bk, .ref fg, .ref og, .ref lg, .int 0, .int 1, .int 0, .int 0, .int 0])), (lg, .inr (1, [.ref l1, .ref l2, .ref l3, .ref l4, .ref l5])), (l1, .inl (cJ, 96, .inr (.inl f2_9))), (l2, .inl (cI, 96, .inl g2_10)), (l3, .inl (cZ, 96, .inl z2_11)), (l4, .inl (cI, 96, .inl k2_12)), (l5, .inl (cI, 6, .inl c2_13)), (bk, .inr (5, [.ref br, .int 0]))] H → va_D A [(h0, .inr (6, [.ref pg, .ref bk, .ref fg, .ref og, .ref lg, .int 0, .int 1, .int 0, .int 0, .int 0])), (lg, .inr (1, [.ref l1, .ref l2, .ref l3, .ref l4, .ref l5])), (l1, .inl (cJ, 96, .inr (.inl f2_9))), (l2, .inl (cI, 96, .inl g2_10)), (l3, .inl (cZ, 96, .inl z2_11)), (l4, .inl (cI, 96, .inl k2_12)), (l5, .inl (cI, 6, .inl c2_13)), (bk, .inr (5, [.ref br, .int 0]))] → va_S A s.heap H locs → lv_has ls 4 [(0, .ref h0), (1, .int (nI a)), (2, .int 0), (3, .int (nI i))] → W p l e (rM 4 0 0 89) s m ([.ref h0, .int (nI a)] : List Value).toArray below meth c H locs 0 0 Q (F0 m 19 ls []) := by
    intro n
    induction n with
    | zero =>
      intro i hi H locs ls hP hD hS hl
      refine lv_iload_n hx hb dX6_kinds_19 rfl (lv_at hl 3 rfl) ?_
      refine lv_bipush (v := 16) hx hb dX6_kinds_20 (by decide) ?_
      refine lv_icmp_ge (tgt := 49) hx hb dX6_kinds_22 (by decide) (fun c_15 => ?_) (fun c_15 => ?_)
      rotate_left
      · exact absurd (nI_le (a := 16) (b := i) (by omega) (by omega)) c_15
      refine lv_iload_n hx hb dX6_kinds_49 rfl (lv_at hl 2 rfl) ?_
      exact hret _ _ _ _ _ _ 0 (f2_9, g2_10, z2_11, k2_12, c2_13) dX6_kinds_50 rfl hS (Nat.le_of_ble_eq_true rfl) (Nat.le_of_ble_eq_true rfl) ⟨rfl, hLz⟩ (hP.sub [0, 1, 2, 3, 4, 5, 6, 7] rfl) (hD.sub [0, 1, 2, 3, 4, 5, 6, 7] rfl rfl)
    | succ n ih_19 =>
      intro i hi H locs ls hP hD hS hl
      refine lv_iload_n hx hb dX6_kinds_19 rfl (lv_at hl 3 rfl) ?_
      refine lv_bipush (v := 16) hx hb dX6_kinds_20 (by decide) ?_
      refine lv_icmp_ge (tgt := 49) hx hb dX6_kinds_22 (by decide) (fun c_16 => ?_) (fun c_16 => ?_)
      · exact absurd c_16 (nI_ge (a := i) (b := 16) (by omega) (by omega))
      refine lv_aload_n hx hb dX6_kinds_25 rfl (lv_at hl 0 rfl) ?_
      refine va_get (D := D) (ci := 6) (v := .ref lg) (C := RX6) (T := TX6) (N := 10) hx hb hts iT_X6 hown hK1 hP 0 rfl rfl 4 (by decide) (hts _ t_158) (fun _ h9 => h9) rfl dX6_kinds_26 ?_
      refine lv_iload_n hx hb dX6_kinds_29 rfl (lv_at hl 1 rfl) ?_
      refine lv_iload_n hx hb dX6_kinds_30 rfl (lv_at hl 3 rfl) ?_
      refine xc_i (wc := [(lg, .inr (1, [.ref l1, .ref l2, .ref l3, .ref l4, .ref l5])), (l1, .inl (cJ, 96, .inr (.inl f2_9))), (l2, .inl (cI, 96, .inl g2_10)), (l3, .inl (cZ, 96, .inl z2_11)), (l4, .inl (cI, 96, .inl k2_12)), (l5, .inl (cI, 6, .inl c2_13))]) (wr := [(h0, .inr (6, [.ref pg, .ref bk, .ref fg, .ref og, .ref lg, .int 0, .int 1, .int 0, .int 0, .int 0])), (bk, .inr (5, [.ref br, .int 0]))]) (xrV (n := 2) (As := [.int (nI a), .int (nI i)]) (rest := []) (ci := 1) (q0 := 1) hd hK hP hD (c_X1_reaches l D cI cJ cZ cR _ lg l1 l2 l3 l4 l5 a i f2_9 g2_10 z2_11 k2_12 c2_13 ha (by omega) (hLz.1 _ (by omega))) (gV t_503 mV_X1_reaches) hV_X1_reaches ⟨(Nat.le_of_ble_eq_true rfl), (Nat.le_of_ble_eq_true rfl)⟩ rfl rfl [1, 2, 3, 4, 5, 6] rfl rfl rfl hl.1 rfl (Nat.le_of_ble_eq_true rfl) dX6_kinds_31 ⟨(Nat.le_of_ble_eq_true rfl), (Nat.le_of_ble_eq_true rfl)⟩) hP hD hS hA [1, 2, 3, 4, 5, 6] [0, 7] rfl rfl rfl (by decide) (fun r_17 u_18 H locs hw_19 hP hD hS => ?_)
      have hw_20 : r_17 = 0 := hw_19
      subst hw_20
      have hP : va_P D vwCl [(h0, .inr (6, [.ref pg, .ref bk, .ref fg, .ref og, .ref lg, .int 0, .int 1, .int 0, .int 0, .int 0])), (bk, .inr (5, [.ref br, .int 0])), (lg, .inr (1, [.ref l1, .ref l2, .ref l3, .ref l4, .ref l5])), (l1, .inl (cJ, 96, .inr (.inl f2_9))), (l2, .inl (cI, 96, .inl g2_10)), (l3, .inl (cZ, 96, .inl z2_11)), (l4, .inl (cI, 96, .inl k2_12)), (l5, .inl (cI, 6, .inl c2_13))] H := hP
      have hD : va_D A [(h0, .inr (6, [.ref pg, .ref bk, .ref fg, .ref og, .ref lg, .int 0, .int 1, .int 0, .int 0, .int 0])), (bk, .inr (5, [.ref br, .int 0])), (lg, .inr (1, [.ref l1, .ref l2, .ref l3, .ref l4, .ref l5])), (l1, .inl (cJ, 96, .inr (.inl f2_9))), (l2, .inl (cI, 96, .inl g2_10)), (l3, .inl (cZ, 96, .inl z2_11)), (l4, .inl (cI, 96, .inl k2_12)), (l5, .inl (cI, 6, .inl c2_13))] := hD
      refine lv_if_eq (tgt := 43) hx hb dX6_kinds_34 (by decide) (fun c_21 => ?_) (fun c_21 => ?_)
      rotate_left
      · exact absurd c_21 (by decide)
      refine lv_iinc (v := nI (i + 1)) (lv' := [(3, .int (nI (i + 1))), (0, .ref h0), (1, .int (nI a)), (2, .int 0)]) hx hb dX6_kinds_43 hl (k := 3) rfl (nI_1 i) (by decide) rfl (fun ls hl => ?_)
      refine lv_goto (tgt := 19) hx hb dX6_kinds_46 (by decide) ?_
      exact ih_19 (i + 1) (by omega) _ _ _ (hP.sub [0, 2, 3, 4, 5, 6, 7, 1] rfl) (hD.sub [0, 2, 3, 4, 5, 6, 7, 1] rfl rfl) hS (lv_sub hl [1, 2, 3, 0] rfl)
  exact LOOP_19 16 0 (by omega) _ _ _ (hP.sub [0, 1, 2, 3, 4, 5, 6, 7] rfl) (hD.sub [0, 1, 2, 3, 4, 5, 6, 7] rfl rfl) hS (lv_sub hl [2, 3, 1, 0] rfl)
set_option maxHeartbeats 4000000 in
set_option maxRecDepth 100000 in
theorem c_light_00 (sz : Nat) (h0 : Nat) (pg : Nat) (bk : Nat) (fg : Nat) (og : Nat) (lg : Nat) (br : Nat) (l1 : Nat) (l2 : Nat) (l3 : Nat) (l4 : Nat) (l5 : Nat) (a : Nat) (b : Nat) (ff : Nat → Int64) (gf : Nat → Int32) (zf : Nat → Int32) (kf : Nat → Int32) (cf : Nat → Int32) (ha : a < 3) (hb0 : b < 16) : CTi l D cI cJ cZ cR yX6_light cX6_light 4 (some .int) 4 89 0 0 sz [.ref h0, .int (nI a), .int (nI b), .int 0] [(h0, .inr (6, [.ref pg, .ref bk, .ref fg, .ref og, .ref lg, .int 0, .int 0, .int 0, .int 0, .int 0])), (lg, .inr (1, [.ref l1, .ref l2, .ref l3, .ref l4, .ref l5])), (l1, .inl (cJ, 96, .inr (.inl ff))), (l2, .inl (cI, 96, .inl gf)), (l3, .inl (cZ, 96, .inl zf)), (l4, .inl (cI, 96, .inl kf)), (l5, .inl (cI, 6, .inl cf)), (bk, .inr (5, [.ref br, .int 0]))] (fun (r : Int32) (u : (Nat → Int64) × (Nat → Int32) × (Nat → Int32) × (Nat → Int32) × (Nat → Int32)) => (r = (-1)) ∧ (Lz u.1 u.2.1)) (fun (u : (Nat → Int64) × (Nat → Int32) × (Nat → Int32) × (Nat → Int32) × (Nat → Int32)) => [(h0, .inr (6, [.ref pg, .ref bk, .ref fg, .ref og, .ref lg, .int 0, .int 1, .int 0, .int 0, .int 0])), (lg, .inr (1, [.ref l1, .ref l2, .ref l3, .ref l4, .ref l5])), (l1, .inl (cJ, 96, .inr (.inl u.1))), (l2, .inl (cI, 96, .inl u.2.1)), (l3, .inl (cZ, 96, .inl u.2.2.1)), (l4, .inl (cI, 96, .inl u.2.2.2.1)), (l5, .inl (cI, 6, .inl u.2.2.2.2)), (bk, .inr (5, [.ref br, .int 0]))]) := by
  refine CTi.of (ty := .int) (by decide) (Nat.le_of_ble_eq_true rfl) rfl ?_
  intro p e s m below meth c A Q ls hd hin hK hsz hP hD hA hS hl hret
  obtain ⟨hx, hb, hml, hown, hts⟩ := id hd
  have hK1 := hK.1
  have hown : s.vm.findClass RX6 = some m.cls := hown
  have hl : lv_has ls 4 [(0, .ref h0), (1, .int (nI a)), (2, .int (nI b)), (3, .int 0)] := hl
  refine lv_iload_n hx hb dX6_light_0 rfl (lv_at hl 1 rfl) ?_
  refine xc_i (wc := []) (wr := [(h0, .inr (6, [.ref pg, .ref bk, .ref fg, .ref og, .ref lg, .int 0, .int 0, .int 0, .int 0, .int 0])), (lg, .inr (1, [.ref l1, .ref l2, .ref l3, .ref l4, .ref l5])), (l1, .inl (cJ, 96, .inr (.inl ff))), (l2, .inl (cI, 96, .inl gf)), (l3, .inl (cZ, 96, .inl zf)), (l4, .inl (cI, 96, .inl kf)), (l5, .inl (cI, 6, .inl cf)), (bk, .inr (5, [.ref br, .int 0]))]) (xrS (n := 1) (As := [.int (nI a)]) (rest := []) hd hK hP hD (c_X6_isOpen l D cI cJ cZ cR _ (nI a) ) (gS t_341 mS_X6_isOpen) hS_X6_isOpen ⟨(Nat.le_of_ble_eq_true rfl), (Nat.le_of_ble_eq_true rfl)⟩ [] rfl rfl rfl hl.1 rfl (Nat.le_of_ble_eq_true rfl) dX6_light_1 ⟨(Nat.le_of_ble_eq_true rfl), (Nat.le_of_ble_eq_true rfl)⟩) hP hD hS hA [] [0, 1, 2, 3, 4, 5, 6, 7] rfl rfl rfl (by decide) (fun r_1 u_2 H locs hw_3 hP hD hS => ?_)
  have hw_4 : r_1 = (if (nI a) < 0 then 0 else if 3 ≤ (nI a) then 0 else 1) := hw_3
  subst hw_4
  have hP : va_P D vwCl [(h0, .inr (6, [.ref pg, .ref bk, .ref fg, .ref og, .ref lg, .int 0, .int 0, .int 0, .int 0, .int 0])), (lg, .inr (1, [.ref l1, .ref l2, .ref l3, .ref l4, .ref l5])), (l1, .inl (cJ, 96, .inr (.inl ff))), (l2, .inl (cI, 96, .inl gf)), (l3, .inl (cZ, 96, .inl zf)), (l4, .inl (cI, 96, .inl kf)), (l5, .inl (cI, 6, .inl cf)), (bk, .inr (5, [.ref br, .int 0]))] H := hP
  have hD : va_D A [(h0, .inr (6, [.ref pg, .ref bk, .ref fg, .ref og, .ref lg, .int 0, .int 0, .int 0, .int 0, .int 0])), (lg, .inr (1, [.ref l1, .ref l2, .ref l3, .ref l4, .ref l5])), (l1, .inl (cJ, 96, .inr (.inl ff))), (l2, .inl (cI, 96, .inl gf)), (l3, .inl (cZ, 96, .inl zf)), (l4, .inl (cI, 96, .inl kf)), (l5, .inl (cI, 6, .inl cf)), (bk, .inr (5, [.ref br, .int 0]))] := hD
  refine lv_nmi (show _ = (1 : Int32) from opn_ok ha) ?_
  refine lv_if_ne (tgt := 11) hx hb dX6_light_4 (by decide) (fun c_5 => ?_) (fun c_5 => ?_)
  rotate_left
  · exact absurd c_5 (by decide)
  refine lv_iload_n hx hb dX6_light_11 rfl (lv_at hl 2 rfl) ?_
  refine lv_if_lt (tgt := 30) hx hb dX6_light_12 (by decide) (fun c_6 => ?_) (fun c_6 => ?_)
  · exact absurd c_6 (nI_nlt (a := b) (b := 0) (by omega) (by omega))
  refine lv_iload_n hx hb dX6_light_15 rfl (lv_at hl 2 rfl) ?_
  refine lv_bipush (v := 16) hx hb dX6_light_16 (by decide) ?_
  refine lv_icmp_ge (tgt := 30) hx hb dX6_light_18 (by decide) (fun c_7 => ?_) (fun c_7 => ?_)
  · exact absurd c_7 (nI_ge (a := b) (b := 16) (by omega) (by omega))
  refine lv_iload_n hx hb dX6_light_21 rfl (lv_at hl 3 rfl) ?_
  refine lv_if_lt (tgt := 30) hx hb dX6_light_22 (by decide) (fun c_8 => ?_) (fun c_8 => ?_)
  · exact absurd c_8 (by decide)
  refine lv_iload_n hx hb dX6_light_25 rfl (lv_at hl 3 rfl) ?_
  refine lv_iconst (v := 1) hx hb dX6_light_26 (by decide) ?_
  refine lv_icmp_le (tgt := 34) hx hb dX6_light_27 (by decide) (fun c_9 => ?_) (fun c_9 => ?_)
  rotate_left
  · exact absurd c_9 (by decide)
  refine lv_aload_n hx hb dX6_light_34 rfl (lv_at hl 0 rfl) ?_
  refine xc_v (wc := [(h0, .inr (6, [.ref pg, .ref bk, .ref fg, .ref og, .ref lg, .int 0, .int 0, .int 0, .int 0, .int 0])), (lg, .inr (1, [.ref l1, .ref l2, .ref l3, .ref l4, .ref l5])), (l1, .inl (cJ, 96, .inr (.inl ff))), (l2, .inl (cI, 96, .inl gf)), (l3, .inl (cZ, 96, .inl zf)), (l4, .inl (cI, 96, .inl kf)), (l5, .inl (cI, 6, .inl cf)), (bk, .inr (5, [.ref br, .int 0]))]) (wr := []) (xrV (n := 0) (As := []) (rest := []) (ci := 6) (q0 := 0) hd hK hP hD (c_bring_0 l D cI cJ cZ cR _ h0 pg bk fg og lg br l1 l2 l3 l4 l5 ff gf zf kf cf ) (gV t_450 mV_X6_bringLights) hV_X6_bringLights ⟨(Nat.le_of_ble_eq_true rfl), (Nat.le_of_ble_eq_true rfl)⟩ rfl rfl [0, 1, 2, 3, 4, 5, 6, 7] rfl rfl rfl hl.1 rfl (Nat.le_of_ble_eq_true rfl) dX6_light_35 ⟨(Nat.le_of_ble_eq_true rfl), (Nat.le_of_ble_eq_true rfl)⟩) hP hD hS hA [0, 1, 2, 3, 4, 5, 6, 7] [] rfl rfl rfl (by decide) (fun u_11 H locs hw_12 hP hD hS => ?_)
  obtain ⟨f2_13, g2_14, z2_15, k2_16, c2_17⟩ := u_11
  have hw_18 : Lz f2_13 g2_14 := hw_12
  have hLz := hw_18
  have hP : va_P D vwCl [(h0, .inr (6, [.ref pg, .ref bk, .ref fg, .ref og, .ref lg, .int 0, .int 1, .int 0, .int 0, .int 0])), (lg, .inr (1, [.ref l1, .ref l2, .ref l3, .ref l4, .ref l5])), (l1, .inl (cJ, 96, .inr (.inl f2_13))), (l2, .inl (cI, 96, .inl g2_14)), (l3, .inl (cZ, 96, .inl z2_15)), (l4, .inl (cI, 96, .inl k2_16)), (l5, .inl (cI, 6, .inl c2_17)), (bk, .inr (5, [.ref br, .int 0]))] H := hP
  have hD : va_D A [(h0, .inr (6, [.ref pg, .ref bk, .ref fg, .ref og, .ref lg, .int 0, .int 1, .int 0, .int 0, .int 0])), (lg, .inr (1, [.ref l1, .ref l2, .ref l3, .ref l4, .ref l5])), (l1, .inl (cJ, 96, .inr (.inl f2_13))), (l2, .inl (cI, 96, .inl g2_14)), (l3, .inl (cZ, 96, .inl z2_15)), (l4, .inl (cI, 96, .inl k2_16)), (l5, .inl (cI, 6, .inl c2_17)), (bk, .inr (5, [.ref br, .int 0]))] := hD
  refine lv_iload_n hx hb dX6_light_38 rfl (lv_at hl 3 rfl) ?_
  refine lv_if_ne (tgt := 54) hx hb dX6_light_39 (by decide) (fun c_19 => ?_) (fun c_19 => ?_)
  · exact absurd c_19 (by decide)
  refine lv_aload_n hx hb dX6_light_42 rfl (lv_at hl 0 rfl) ?_
  refine va_get (D := D) (ci := 6) (v := .ref lg) (C := RX6) (T := TX6) (N := 10) hx hb hts iT_X6 hown hK1 hP 0 rfl rfl 4 (by decide) (hts _ t_158) (fun _ h9 => h9) rfl dX6_light_43 ?_
  refine lv_iload_n hx hb dX6_light_46 rfl (lv_at hl 1 rfl) ?_
  refine lv_iload_n hx hb dX6_light_47 rfl (lv_at hl 2 rfl) ?_
  refine xc_i (wc := [(lg, .inr (1, [.ref l1, .ref l2, .ref l3, .ref l4, .ref l5])), (l1, .inl (cJ, 96, .inr (.inl f2_13))), (l2, .inl (cI, 96, .inl g2_14)), (l3, .inl (cZ, 96, .inl z2_15)), (l4, .inl (cI, 96, .inl k2_16)), (l5, .inl (cI, 6, .inl c2_17))]) (wr := [(h0, .inr (6, [.ref pg, .ref bk, .ref fg, .ref og, .ref lg, .int 0, .int 1, .int 0, .int 0, .int 0])), (bk, .inr (5, [.ref br, .int 0]))]) (xrV (n := 2) (As := [.int (nI a), .int (nI b)]) (rest := []) (ci := 1) (q0 := 1) hd hK hP hD (c_X1_stepsTo l D cI cJ cZ cR _ lg l1 l2 l3 l4 l5 a b f2_13 g2_14 z2_15 k2_16 c2_17 ha hb0 (hLz.1 _ (by omega))) (gV t_511 mV_X1_stepsTo) hV_X1_stepsTo ⟨(Nat.le_of_ble_eq_true rfl), (Nat.le_of_ble_eq_true rfl)⟩ rfl rfl [1, 2, 3, 4, 5, 6] rfl rfl rfl hl.1 rfl (Nat.le_of_ble_eq_true rfl) dX6_light_48 ⟨(Nat.le_of_ble_eq_true rfl), (Nat.le_of_ble_eq_true rfl)⟩) hP hD hS hA [1, 2, 3, 4, 5, 6] [0, 7] rfl rfl rfl (by decide) (fun r_20 u_21 H locs hw_22 hP hD hS => ?_)
  have hw_23 : r_20 = (-1) := hw_22
  subst hw_23
  have hP : va_P D vwCl [(h0, .inr (6, [.ref pg, .ref bk, .ref fg, .ref og, .ref lg, .int 0, .int 1, .int 0, .int 0, .int 0])), (bk, .inr (5, [.ref br, .int 0])), (lg, .inr (1, [.ref l1, .ref l2, .ref l3, .ref l4, .ref l5])), (l1, .inl (cJ, 96, .inr (.inl f2_13))), (l2, .inl (cI, 96, .inl g2_14)), (l3, .inl (cZ, 96, .inl z2_15)), (l4, .inl (cI, 96, .inl k2_16)), (l5, .inl (cI, 6, .inl c2_17))] H := hP
  have hD : va_D A [(h0, .inr (6, [.ref pg, .ref bk, .ref fg, .ref og, .ref lg, .int 0, .int 1, .int 0, .int 0, .int 0])), (bk, .inr (5, [.ref br, .int 0])), (lg, .inr (1, [.ref l1, .ref l2, .ref l3, .ref l4, .ref l5])), (l1, .inl (cJ, 96, .inr (.inl f2_13))), (l2, .inl (cI, 96, .inl g2_14)), (l3, .inl (cZ, 96, .inl z2_15)), (l4, .inl (cI, 96, .inl k2_16)), (l5, .inl (cI, 6, .inl c2_17))] := hD
  refine lv_goto (tgt := 63) hx hb dX6_light_51 (by decide) ?_
  exact hret _ _ _ _ _ _ (-1) (f2_13, g2_14, z2_15, k2_16, c2_17) dX6_light_63 rfl hS (Nat.le_of_ble_eq_true rfl) (Nat.le_of_ble_eq_true rfl) ⟨rfl, hLz⟩ (hP.sub [0, 2, 3, 4, 5, 6, 7, 1] rfl) (hD.sub [0, 2, 3, 4, 5, 6, 7, 1] rfl rfl)
set_option maxHeartbeats 4000000 in
set_option maxRecDepth 100000 in
theorem c_light_01 (sz : Nat) (h0 : Nat) (pg : Nat) (bk : Nat) (fg : Nat) (og : Nat) (lg : Nat) (br : Nat) (l1 : Nat) (l2 : Nat) (l3 : Nat) (l4 : Nat) (l5 : Nat) (a : Nat) (b : Nat) (ff : Nat → Int64) (gf : Nat → Int32) (zf : Nat → Int32) (kf : Nat → Int32) (cf : Nat → Int32) (ha : a < 3) (hb0 : b < 16) : CTi l D cI cJ cZ cR yX6_light cX6_light 4 (some .int) 4 89 0 0 sz [.ref h0, .int (nI a), .int (nI b), .int 1] [(h0, .inr (6, [.ref pg, .ref bk, .ref fg, .ref og, .ref lg, .int 0, .int 0, .int 0, .int 0, .int 0])), (lg, .inr (1, [.ref l1, .ref l2, .ref l3, .ref l4, .ref l5])), (l1, .inl (cJ, 96, .inr (.inl ff))), (l2, .inl (cI, 96, .inl gf)), (l3, .inl (cZ, 96, .inl zf)), (l4, .inl (cI, 96, .inl kf)), (l5, .inl (cI, 6, .inl cf)), (bk, .inr (5, [.ref br, .int 0]))] (fun (r : Int32) (u : (Nat → Int64) × (Nat → Int32) × (Nat → Int32) × (Nat → Int32) × (Nat → Int32)) => (r = (-1)) ∧ (Lz u.1 u.2.1)) (fun (u : (Nat → Int64) × (Nat → Int32) × (Nat → Int32) × (Nat → Int32) × (Nat → Int32)) => [(h0, .inr (6, [.ref pg, .ref bk, .ref fg, .ref og, .ref lg, .int 0, .int 1, .int 0, .int 0, .int 0])), (lg, .inr (1, [.ref l1, .ref l2, .ref l3, .ref l4, .ref l5])), (l1, .inl (cJ, 96, .inr (.inl u.1))), (l2, .inl (cI, 96, .inl u.2.1)), (l3, .inl (cZ, 96, .inl u.2.2.1)), (l4, .inl (cI, 96, .inl u.2.2.2.1)), (l5, .inl (cI, 6, .inl u.2.2.2.2)), (bk, .inr (5, [.ref br, .int 0]))]) := by
  refine CTi.of (ty := .int) (by decide) (Nat.le_of_ble_eq_true rfl) rfl ?_
  intro p e s m below meth c A Q ls hd hin hK hsz hP hD hA hS hl hret
  obtain ⟨hx, hb, hml, hown, hts⟩ := id hd
  have hK1 := hK.1
  have hown : s.vm.findClass RX6 = some m.cls := hown
  have hl : lv_has ls 4 [(0, .ref h0), (1, .int (nI a)), (2, .int (nI b)), (3, .int 1)] := hl
  refine lv_iload_n hx hb dX6_light_0 rfl (lv_at hl 1 rfl) ?_
  refine xc_i (wc := []) (wr := [(h0, .inr (6, [.ref pg, .ref bk, .ref fg, .ref og, .ref lg, .int 0, .int 0, .int 0, .int 0, .int 0])), (lg, .inr (1, [.ref l1, .ref l2, .ref l3, .ref l4, .ref l5])), (l1, .inl (cJ, 96, .inr (.inl ff))), (l2, .inl (cI, 96, .inl gf)), (l3, .inl (cZ, 96, .inl zf)), (l4, .inl (cI, 96, .inl kf)), (l5, .inl (cI, 6, .inl cf)), (bk, .inr (5, [.ref br, .int 0]))]) (xrS (n := 1) (As := [.int (nI a)]) (rest := []) hd hK hP hD (c_X6_isOpen l D cI cJ cZ cR _ (nI a) ) (gS t_341 mS_X6_isOpen) hS_X6_isOpen ⟨(Nat.le_of_ble_eq_true rfl), (Nat.le_of_ble_eq_true rfl)⟩ [] rfl rfl rfl hl.1 rfl (Nat.le_of_ble_eq_true rfl) dX6_light_1 ⟨(Nat.le_of_ble_eq_true rfl), (Nat.le_of_ble_eq_true rfl)⟩) hP hD hS hA [] [0, 1, 2, 3, 4, 5, 6, 7] rfl rfl rfl (by decide) (fun r_1 u_2 H locs hw_3 hP hD hS => ?_)
  have hw_4 : r_1 = (if (nI a) < 0 then 0 else if 3 ≤ (nI a) then 0 else 1) := hw_3
  subst hw_4
  have hP : va_P D vwCl [(h0, .inr (6, [.ref pg, .ref bk, .ref fg, .ref og, .ref lg, .int 0, .int 0, .int 0, .int 0, .int 0])), (lg, .inr (1, [.ref l1, .ref l2, .ref l3, .ref l4, .ref l5])), (l1, .inl (cJ, 96, .inr (.inl ff))), (l2, .inl (cI, 96, .inl gf)), (l3, .inl (cZ, 96, .inl zf)), (l4, .inl (cI, 96, .inl kf)), (l5, .inl (cI, 6, .inl cf)), (bk, .inr (5, [.ref br, .int 0]))] H := hP
  have hD : va_D A [(h0, .inr (6, [.ref pg, .ref bk, .ref fg, .ref og, .ref lg, .int 0, .int 0, .int 0, .int 0, .int 0])), (lg, .inr (1, [.ref l1, .ref l2, .ref l3, .ref l4, .ref l5])), (l1, .inl (cJ, 96, .inr (.inl ff))), (l2, .inl (cI, 96, .inl gf)), (l3, .inl (cZ, 96, .inl zf)), (l4, .inl (cI, 96, .inl kf)), (l5, .inl (cI, 6, .inl cf)), (bk, .inr (5, [.ref br, .int 0]))] := hD
  refine lv_nmi (show _ = (1 : Int32) from opn_ok ha) ?_
  refine lv_if_ne (tgt := 11) hx hb dX6_light_4 (by decide) (fun c_5 => ?_) (fun c_5 => ?_)
  rotate_left
  · exact absurd c_5 (by decide)
  refine lv_iload_n hx hb dX6_light_11 rfl (lv_at hl 2 rfl) ?_
  refine lv_if_lt (tgt := 30) hx hb dX6_light_12 (by decide) (fun c_6 => ?_) (fun c_6 => ?_)
  · exact absurd c_6 (nI_nlt (a := b) (b := 0) (by omega) (by omega))
  refine lv_iload_n hx hb dX6_light_15 rfl (lv_at hl 2 rfl) ?_
  refine lv_bipush (v := 16) hx hb dX6_light_16 (by decide) ?_
  refine lv_icmp_ge (tgt := 30) hx hb dX6_light_18 (by decide) (fun c_7 => ?_) (fun c_7 => ?_)
  · exact absurd c_7 (nI_ge (a := b) (b := 16) (by omega) (by omega))
  refine lv_iload_n hx hb dX6_light_21 rfl (lv_at hl 3 rfl) ?_
  refine lv_if_lt (tgt := 30) hx hb dX6_light_22 (by decide) (fun c_8 => ?_) (fun c_8 => ?_)
  · exact absurd c_8 (by decide)
  refine lv_iload_n hx hb dX6_light_25 rfl (lv_at hl 3 rfl) ?_
  refine lv_iconst (v := 1) hx hb dX6_light_26 (by decide) ?_
  refine lv_icmp_le (tgt := 34) hx hb dX6_light_27 (by decide) (fun c_9 => ?_) (fun c_9 => ?_)
  rotate_left
  · exact absurd c_9 (by decide)
  refine lv_aload_n hx hb dX6_light_34 rfl (lv_at hl 0 rfl) ?_
  refine xc_v (wc := [(h0, .inr (6, [.ref pg, .ref bk, .ref fg, .ref og, .ref lg, .int 0, .int 0, .int 0, .int 0, .int 0])), (lg, .inr (1, [.ref l1, .ref l2, .ref l3, .ref l4, .ref l5])), (l1, .inl (cJ, 96, .inr (.inl ff))), (l2, .inl (cI, 96, .inl gf)), (l3, .inl (cZ, 96, .inl zf)), (l4, .inl (cI, 96, .inl kf)), (l5, .inl (cI, 6, .inl cf)), (bk, .inr (5, [.ref br, .int 0]))]) (wr := []) (xrV (n := 0) (As := []) (rest := []) (ci := 6) (q0 := 0) hd hK hP hD (c_bring_0 l D cI cJ cZ cR _ h0 pg bk fg og lg br l1 l2 l3 l4 l5 ff gf zf kf cf ) (gV t_450 mV_X6_bringLights) hV_X6_bringLights ⟨(Nat.le_of_ble_eq_true rfl), (Nat.le_of_ble_eq_true rfl)⟩ rfl rfl [0, 1, 2, 3, 4, 5, 6, 7] rfl rfl rfl hl.1 rfl (Nat.le_of_ble_eq_true rfl) dX6_light_35 ⟨(Nat.le_of_ble_eq_true rfl), (Nat.le_of_ble_eq_true rfl)⟩) hP hD hS hA [0, 1, 2, 3, 4, 5, 6, 7] [] rfl rfl rfl (by decide) (fun u_11 H locs hw_12 hP hD hS => ?_)
  obtain ⟨f2_13, g2_14, z2_15, k2_16, c2_17⟩ := u_11
  have hw_18 : Lz f2_13 g2_14 := hw_12
  have hLz := hw_18
  have hP : va_P D vwCl [(h0, .inr (6, [.ref pg, .ref bk, .ref fg, .ref og, .ref lg, .int 0, .int 1, .int 0, .int 0, .int 0])), (lg, .inr (1, [.ref l1, .ref l2, .ref l3, .ref l4, .ref l5])), (l1, .inl (cJ, 96, .inr (.inl f2_13))), (l2, .inl (cI, 96, .inl g2_14)), (l3, .inl (cZ, 96, .inl z2_15)), (l4, .inl (cI, 96, .inl k2_16)), (l5, .inl (cI, 6, .inl c2_17)), (bk, .inr (5, [.ref br, .int 0]))] H := hP
  have hD : va_D A [(h0, .inr (6, [.ref pg, .ref bk, .ref fg, .ref og, .ref lg, .int 0, .int 1, .int 0, .int 0, .int 0])), (lg, .inr (1, [.ref l1, .ref l2, .ref l3, .ref l4, .ref l5])), (l1, .inl (cJ, 96, .inr (.inl f2_13))), (l2, .inl (cI, 96, .inl g2_14)), (l3, .inl (cZ, 96, .inl z2_15)), (l4, .inl (cI, 96, .inl k2_16)), (l5, .inl (cI, 6, .inl c2_17)), (bk, .inr (5, [.ref br, .int 0]))] := hD
  refine lv_iload_n hx hb dX6_light_38 rfl (lv_at hl 3 rfl) ?_
  refine lv_if_ne (tgt := 54) hx hb dX6_light_39 (by decide) (fun c_19 => ?_) (fun c_19 => ?_)
  rotate_left
  · exact absurd c_19 (by decide)
  refine lv_aload_n hx hb dX6_light_54 rfl (lv_at hl 0 rfl) ?_
  refine va_get (D := D) (ci := 6) (v := .ref lg) (C := RX6) (T := TX6) (N := 10) hx hb hts iT_X6 hown hK1 hP 0 rfl rfl 4 (by decide) (hts _ t_158) (fun _ h9 => h9) rfl dX6_light_55 ?_
  refine lv_iload_n hx hb dX6_light_58 rfl (lv_at hl 1 rfl) ?_
  refine lv_iload_n hx hb dX6_light_59 rfl (lv_at hl 2 rfl) ?_
  refine xc_i (wc := [(lg, .inr (1, [.ref l1, .ref l2, .ref l3, .ref l4, .ref l5])), (l1, .inl (cJ, 96, .inr (.inl f2_13))), (l2, .inl (cI, 96, .inl g2_14)), (l3, .inl (cZ, 96, .inl z2_15)), (l4, .inl (cI, 96, .inl k2_16)), (l5, .inl (cI, 6, .inl c2_17))]) (wr := [(h0, .inr (6, [.ref pg, .ref bk, .ref fg, .ref og, .ref lg, .int 0, .int 1, .int 0, .int 0, .int 0])), (bk, .inr (5, [.ref br, .int 0]))]) (xrV (n := 2) (As := [.int (nI a), .int (nI b)]) (rest := []) (ci := 1) (q0 := 1) hd hK hP hD (c_X1_firstTo l D cI cJ cZ cR _ lg l1 l2 l3 l4 l5 a b f2_13 g2_14 z2_15 k2_16 c2_17 ha hb0 (hLz.2 _ (by omega))) (gV t_520 mV_X1_firstTo) hV_X1_firstTo ⟨(Nat.le_of_ble_eq_true rfl), (Nat.le_of_ble_eq_true rfl)⟩ rfl rfl [1, 2, 3, 4, 5, 6] rfl rfl rfl hl.1 rfl (Nat.le_of_ble_eq_true rfl) dX6_light_60 ⟨(Nat.le_of_ble_eq_true rfl), (Nat.le_of_ble_eq_true rfl)⟩) hP hD hS hA [1, 2, 3, 4, 5, 6] [0, 7] rfl rfl rfl (by decide) (fun r_20 u_21 H locs hw_22 hP hD hS => ?_)
  have hw_23 : r_20 = (-1) := hw_22
  subst hw_23
  have hP : va_P D vwCl [(h0, .inr (6, [.ref pg, .ref bk, .ref fg, .ref og, .ref lg, .int 0, .int 1, .int 0, .int 0, .int 0])), (bk, .inr (5, [.ref br, .int 0])), (lg, .inr (1, [.ref l1, .ref l2, .ref l3, .ref l4, .ref l5])), (l1, .inl (cJ, 96, .inr (.inl f2_13))), (l2, .inl (cI, 96, .inl g2_14)), (l3, .inl (cZ, 96, .inl z2_15)), (l4, .inl (cI, 96, .inl k2_16)), (l5, .inl (cI, 6, .inl c2_17))] H := hP
  have hD : va_D A [(h0, .inr (6, [.ref pg, .ref bk, .ref fg, .ref og, .ref lg, .int 0, .int 1, .int 0, .int 0, .int 0])), (bk, .inr (5, [.ref br, .int 0])), (lg, .inr (1, [.ref l1, .ref l2, .ref l3, .ref l4, .ref l5])), (l1, .inl (cJ, 96, .inr (.inl f2_13))), (l2, .inl (cI, 96, .inl g2_14)), (l3, .inl (cZ, 96, .inl z2_15)), (l4, .inl (cI, 96, .inl k2_16)), (l5, .inl (cI, 6, .inl c2_17))] := hD
  exact hret _ _ _ _ _ _ (-1) (f2_13, g2_14, z2_15, k2_16, c2_17) dX6_light_63 rfl hS (Nat.le_of_ble_eq_true rfl) (Nat.le_of_ble_eq_true rfl) ⟨rfl, hLz⟩ (hP.sub [0, 2, 3, 4, 5, 6, 7, 1] rfl) (hD.sub [0, 2, 3, 4, 5, 6, 7, 1] rfl rfl)
set_option maxHeartbeats 4000000 in
set_option maxRecDepth 100000 in
theorem c_kinds_1 (sz : Nat) (h0 : Nat) (pg : Nat) (bk : Nat) (fg : Nat) (og : Nat) (lg : Nat) (br : Nat) (l1 : Nat) (l2 : Nat) (l3 : Nat) (l4 : Nat) (l5 : Nat) (a : Nat) (ff : Nat → Int64) (gf : Nat → Int32) (zf : Nat → Int32) (kf : Nat → Int32) (cf : Nat → Int32) (ha : a < 3) (hL : Lz ff gf) : CTi l D cI cJ cZ cR yX6_kinds cX6_kinds 4 (some .int) 4 89 0 0 sz [.ref h0, .int (nI a)] [(h0, .inr (6, [.ref pg, .ref bk, .ref fg, .ref og, .ref lg, .int 0, .int 1, .int 0, .int 0, .int 0])), (lg, .inr (1, [.ref l1, .ref l2, .ref l3, .ref l4, .ref l5])), (l1, .inl (cJ, 96, .inr (.inl ff))), (l2, .inl (cI, 96, .inl gf)), (l3, .inl (cZ, 96, .inl zf)), (l4, .inl (cI, 96, .inl kf)), (l5, .inl (cI, 6, .inl cf)), (bk, .inr (5, [.ref br, .int 0]))] (fun (r : Int32) (u : (Nat → Int64) × (Nat → Int32) × (Nat → Int32) × (Nat → Int32) × (Nat → Int32)) => (r = 0) ∧ (Lz u.1 u.2.1)) (fun (u : (Nat → Int64) × (Nat → Int32) × (Nat → Int32) × (Nat → Int32) × (Nat → Int32)) => [(h0, .inr (6, [.ref pg, .ref bk, .ref fg, .ref og, .ref lg, .int 0, .int 1, .int 0, .int 0, .int 0])), (lg, .inr (1, [.ref l1, .ref l2, .ref l3, .ref l4, .ref l5])), (l1, .inl (cJ, 96, .inr (.inl u.1))), (l2, .inl (cI, 96, .inl u.2.1)), (l3, .inl (cZ, 96, .inl u.2.2.1)), (l4, .inl (cI, 96, .inl u.2.2.2.1)), (l5, .inl (cI, 6, .inl u.2.2.2.2)), (bk, .inr (5, [.ref br, .int 0]))]) := by
  refine CTi.of (ty := .int) (by decide) (Nat.le_of_ble_eq_true rfl) rfl ?_
  intro p e s m below meth c A Q ls hd hin hK hsz hP hD hA hS hl hret
  obtain ⟨hx, hb, hml, hown, hts⟩ := id hd
  have hK1 := hK.1
  have hown : s.vm.findClass RX6 = some m.cls := hown
  have hl : lv_has ls 4 [(0, .ref h0), (1, .int (nI a))] := hl
  have hLz := hL
  refine lv_iload_n hx hb dX6_kinds_0 rfl (lv_at hl 1 rfl) ?_
  refine xc_i (wc := []) (wr := [(h0, .inr (6, [.ref pg, .ref bk, .ref fg, .ref og, .ref lg, .int 0, .int 1, .int 0, .int 0, .int 0])), (lg, .inr (1, [.ref l1, .ref l2, .ref l3, .ref l4, .ref l5])), (l1, .inl (cJ, 96, .inr (.inl ff))), (l2, .inl (cI, 96, .inl gf)), (l3, .inl (cZ, 96, .inl zf)), (l4, .inl (cI, 96, .inl kf)), (l5, .inl (cI, 6, .inl cf)), (bk, .inr (5, [.ref br, .int 0]))]) (xrS (n := 1) (As := [.int (nI a)]) (rest := []) hd hK hP hD (c_X6_isOpen l D cI cJ cZ cR _ (nI a) ) (gS t_341 mS_X6_isOpen) hS_X6_isOpen ⟨(Nat.le_of_ble_eq_true rfl), (Nat.le_of_ble_eq_true rfl)⟩ [] rfl rfl rfl hl.1 rfl (Nat.le_of_ble_eq_true rfl) dX6_kinds_1 ⟨(Nat.le_of_ble_eq_true rfl), (Nat.le_of_ble_eq_true rfl)⟩) hP hD hS hA [] [0, 1, 2, 3, 4, 5, 6, 7] rfl rfl rfl (by decide) (fun r_1 u_2 H locs hw_3 hP hD hS => ?_)
  have hw_4 : r_1 = (if (nI a) < 0 then 0 else if 3 ≤ (nI a) then 0 else 1) := hw_3
  subst hw_4
  have hP : va_P D vwCl [(h0, .inr (6, [.ref pg, .ref bk, .ref fg, .ref og, .ref lg, .int 0, .int 1, .int 0, .int 0, .int 0])), (lg, .inr (1, [.ref l1, .ref l2, .ref l3, .ref l4, .ref l5])), (l1, .inl (cJ, 96, .inr (.inl ff))), (l2, .inl (cI, 96, .inl gf)), (l3, .inl (cZ, 96, .inl zf)), (l4, .inl (cI, 96, .inl kf)), (l5, .inl (cI, 6, .inl cf)), (bk, .inr (5, [.ref br, .int 0]))] H := hP
  have hD : va_D A [(h0, .inr (6, [.ref pg, .ref bk, .ref fg, .ref og, .ref lg, .int 0, .int 1, .int 0, .int 0, .int 0])), (lg, .inr (1, [.ref l1, .ref l2, .ref l3, .ref l4, .ref l5])), (l1, .inl (cJ, 96, .inr (.inl ff))), (l2, .inl (cI, 96, .inl gf)), (l3, .inl (cZ, 96, .inl zf)), (l4, .inl (cI, 96, .inl kf)), (l5, .inl (cI, 6, .inl cf)), (bk, .inr (5, [.ref br, .int 0]))] := hD
  refine lv_nmi (show _ = (1 : Int32) from opn_ok ha) ?_
  refine lv_if_ne (tgt := 11) hx hb dX6_kinds_4 (by decide) (fun c_5 => ?_) (fun c_5 => ?_)
  rotate_left
  · exact absurd c_5 (by decide)
  refine lv_aload_n hx hb dX6_kinds_11 rfl (lv_at hl 0 rfl) ?_
  refine xc_v (wc := [(h0, .inr (6, [.ref pg, .ref bk, .ref fg, .ref og, .ref lg, .int 0, .int 1, .int 0, .int 0, .int 0])), (lg, .inr (1, [.ref l1, .ref l2, .ref l3, .ref l4, .ref l5])), (l1, .inl (cJ, 96, .inr (.inl ff))), (l2, .inl (cI, 96, .inl gf)), (l3, .inl (cZ, 96, .inl zf)), (l4, .inl (cI, 96, .inl kf)), (l5, .inl (cI, 6, .inl cf)), (bk, .inr (5, [.ref br, .int 0]))]) (wr := []) (xrV (n := 0) (As := []) (rest := []) (ci := 6) (q0 := 0) hd hK hP hD (c_bring_1 l D cI cJ cZ cR _ h0 pg bk fg og lg br l1 l2 l3 l4 l5 ff gf zf kf cf ) (gV t_450 mV_X6_bringLights) hV_X6_bringLights ⟨(Nat.le_of_ble_eq_true rfl), (Nat.le_of_ble_eq_true rfl)⟩ rfl rfl [0, 1, 2, 3, 4, 5, 6, 7] rfl rfl rfl hl.1 rfl (Nat.le_of_ble_eq_true rfl) dX6_kinds_12 ⟨(Nat.le_of_ble_eq_true rfl), (Nat.le_of_ble_eq_true rfl)⟩) hP hD hS hA [0, 1, 2, 3, 4, 5, 6, 7] [] rfl rfl rfl (by decide) (fun u_7 H locs hw_8 hP hD hS => ?_)
  have hP : va_P D vwCl [(h0, .inr (6, [.ref pg, .ref bk, .ref fg, .ref og, .ref lg, .int 0, .int 1, .int 0, .int 0, .int 0])), (lg, .inr (1, [.ref l1, .ref l2, .ref l3, .ref l4, .ref l5])), (l1, .inl (cJ, 96, .inr (.inl ff))), (l2, .inl (cI, 96, .inl gf)), (l3, .inl (cZ, 96, .inl zf)), (l4, .inl (cI, 96, .inl kf)), (l5, .inl (cI, 6, .inl cf)), (bk, .inr (5, [.ref br, .int 0]))] H := hP
  have hD : va_D A [(h0, .inr (6, [.ref pg, .ref bk, .ref fg, .ref og, .ref lg, .int 0, .int 1, .int 0, .int 0, .int 0])), (lg, .inr (1, [.ref l1, .ref l2, .ref l3, .ref l4, .ref l5])), (l1, .inl (cJ, 96, .inr (.inl ff))), (l2, .inl (cI, 96, .inl gf)), (l3, .inl (cZ, 96, .inl zf)), (l4, .inl (cI, 96, .inl kf)), (l5, .inl (cI, 6, .inl cf)), (bk, .inr (5, [.ref br, .int 0]))] := hD
  refine lv_iconst (v := 0) hx hb dX6_kinds_15 (by decide) ?_
  refine lv_istore_n (lv' := [(2, .int 0), (0, .ref h0), (1, .int (nI a))]) hx hb dX6_kinds_16 rfl hl (by decide) rfl (fun ls hl => ?_)
  refine lv_iconst (v := 0) hx hb dX6_kinds_17 (by decide) ?_
  refine lv_istore_n (lv' := [(3, .int 0), (2, .int 0), (0, .ref h0), (1, .int (nI a))]) hx hb dX6_kinds_18 rfl hl (by decide) rfl (fun ls hl => ?_)
  have LOOP_19 : ∀ (n : Nat) (i : Nat), (i + n = 16) → ∀ (H : Heap) (locs : List Loc) (ls : Array Slot), va_P D vwCl [(h0, .inr (6, [.ref pg, .ref bk, .ref fg, .ref og, .ref lg, .int 0, .int 1, .int 0, .int 0, .int 0])), (lg, .inr (1, [.ref l1, .ref l2, .ref l3, .ref l4, .ref l5])), (l1, .inl (cJ, 96, .inr (.inl ff))), (l2, .inl (cI, 96, .inl gf)), (l3, .inl (cZ, 96, .inl zf)), (l4, .inl (cI, 96, .inl kf)), (l5, .inl (cI, 6, .inl cf)), (bk, .inr (5, [.ref br, .int 0]))] H → va_D A [(h0, .inr (6, [.ref pg, .ref bk, .ref fg, .ref og, .ref lg, .int 0, .int 1, .int 0, .int 0, .int 0])), (lg, .inr (1, [.ref l1, .ref l2, .ref l3, .ref l4, .ref l5])), (l1, .inl (cJ, 96, .inr (.inl ff))), (l2, .inl (cI, 96, .inl gf)), (l3, .inl (cZ, 96, .inl zf)), (l4, .inl (cI, 96, .inl kf)), (l5, .inl (cI, 6, .inl cf)), (bk, .inr (5, [.ref br, .int 0]))] → va_S A s.heap H locs → lv_has ls 4 [(0, .ref h0), (1, .int (nI a)), (2, .int 0), (3, .int (nI i))] → W p l e (rM 4 0 0 89) s m ([.ref h0, .int (nI a)] : List Value).toArray below meth c H locs 0 0 Q (F0 m 19 ls []) := by
    intro n
    induction n with
    | zero =>
      intro i hi H locs ls hP hD hS hl
      refine lv_iload_n hx hb dX6_kinds_19 rfl (lv_at hl 3 rfl) ?_
      refine lv_bipush (v := 16) hx hb dX6_kinds_20 (by decide) ?_
      refine lv_icmp_ge (tgt := 49) hx hb dX6_kinds_22 (by decide) (fun c_9 => ?_) (fun c_9 => ?_)
      rotate_left
      · exact absurd (nI_le (a := 16) (b := i) (by omega) (by omega)) c_9
      refine lv_iload_n hx hb dX6_kinds_49 rfl (lv_at hl 2 rfl) ?_
      exact hret _ _ _ _ _ _ 0 (ff, gf, zf, kf, cf) dX6_kinds_50 rfl hS (Nat.le_of_ble_eq_true rfl) (Nat.le_of_ble_eq_true rfl) ⟨rfl, hLz⟩ (hP.sub [0, 1, 2, 3, 4, 5, 6, 7] rfl) (hD.sub [0, 1, 2, 3, 4, 5, 6, 7] rfl rfl)
    | succ n ih_19 =>
      intro i hi H locs ls hP hD hS hl
      refine lv_iload_n hx hb dX6_kinds_19 rfl (lv_at hl 3 rfl) ?_
      refine lv_bipush (v := 16) hx hb dX6_kinds_20 (by decide) ?_
      refine lv_icmp_ge (tgt := 49) hx hb dX6_kinds_22 (by decide) (fun c_10 => ?_) (fun c_10 => ?_)
      · exact absurd c_10 (nI_ge (a := i) (b := 16) (by omega) (by omega))
      refine lv_aload_n hx hb dX6_kinds_25 rfl (lv_at hl 0 rfl) ?_
      refine va_get (D := D) (ci := 6) (v := .ref lg) (C := RX6) (T := TX6) (N := 10) hx hb hts iT_X6 hown hK1 hP 0 rfl rfl 4 (by decide) (hts _ t_158) (fun _ h9 => h9) rfl dX6_kinds_26 ?_
      refine lv_iload_n hx hb dX6_kinds_29 rfl (lv_at hl 1 rfl) ?_
      refine lv_iload_n hx hb dX6_kinds_30 rfl (lv_at hl 3 rfl) ?_
      refine xc_i (wc := [(lg, .inr (1, [.ref l1, .ref l2, .ref l3, .ref l4, .ref l5])), (l1, .inl (cJ, 96, .inr (.inl ff))), (l2, .inl (cI, 96, .inl gf)), (l3, .inl (cZ, 96, .inl zf)), (l4, .inl (cI, 96, .inl kf)), (l5, .inl (cI, 6, .inl cf))]) (wr := [(h0, .inr (6, [.ref pg, .ref bk, .ref fg, .ref og, .ref lg, .int 0, .int 1, .int 0, .int 0, .int 0])), (bk, .inr (5, [.ref br, .int 0]))]) (xrV (n := 2) (As := [.int (nI a), .int (nI i)]) (rest := []) (ci := 1) (q0 := 1) hd hK hP hD (c_X1_reaches l D cI cJ cZ cR _ lg l1 l2 l3 l4 l5 a i ff gf zf kf cf ha (by omega) (hLz.1 _ (by omega))) (gV t_503 mV_X1_reaches) hV_X1_reaches ⟨(Nat.le_of_ble_eq_true rfl), (Nat.le_of_ble_eq_true rfl)⟩ rfl rfl [1, 2, 3, 4, 5, 6] rfl rfl rfl hl.1 rfl (Nat.le_of_ble_eq_true rfl) dX6_kinds_31 ⟨(Nat.le_of_ble_eq_true rfl), (Nat.le_of_ble_eq_true rfl)⟩) hP hD hS hA [1, 2, 3, 4, 5, 6] [0, 7] rfl rfl rfl (by decide) (fun r_11 u_12 H locs hw_13 hP hD hS => ?_)
      have hw_14 : r_11 = 0 := hw_13
      subst hw_14
      have hP : va_P D vwCl [(h0, .inr (6, [.ref pg, .ref bk, .ref fg, .ref og, .ref lg, .int 0, .int 1, .int 0, .int 0, .int 0])), (bk, .inr (5, [.ref br, .int 0])), (lg, .inr (1, [.ref l1, .ref l2, .ref l3, .ref l4, .ref l5])), (l1, .inl (cJ, 96, .inr (.inl ff))), (l2, .inl (cI, 96, .inl gf)), (l3, .inl (cZ, 96, .inl zf)), (l4, .inl (cI, 96, .inl kf)), (l5, .inl (cI, 6, .inl cf))] H := hP
      have hD : va_D A [(h0, .inr (6, [.ref pg, .ref bk, .ref fg, .ref og, .ref lg, .int 0, .int 1, .int 0, .int 0, .int 0])), (bk, .inr (5, [.ref br, .int 0])), (lg, .inr (1, [.ref l1, .ref l2, .ref l3, .ref l4, .ref l5])), (l1, .inl (cJ, 96, .inr (.inl ff))), (l2, .inl (cI, 96, .inl gf)), (l3, .inl (cZ, 96, .inl zf)), (l4, .inl (cI, 96, .inl kf)), (l5, .inl (cI, 6, .inl cf))] := hD
      refine lv_if_eq (tgt := 43) hx hb dX6_kinds_34 (by decide) (fun c_15 => ?_) (fun c_15 => ?_)
      rotate_left
      · exact absurd c_15 (by decide)
      refine lv_iinc (v := nI (i + 1)) (lv' := [(3, .int (nI (i + 1))), (0, .ref h0), (1, .int (nI a)), (2, .int 0)]) hx hb dX6_kinds_43 hl (k := 3) rfl (nI_1 i) (by decide) rfl (fun ls hl => ?_)
      refine lv_goto (tgt := 19) hx hb dX6_kinds_46 (by decide) ?_
      exact ih_19 (i + 1) (by omega) _ _ _ (hP.sub [0, 2, 3, 4, 5, 6, 7, 1] rfl) (hD.sub [0, 2, 3, 4, 5, 6, 7, 1] rfl rfl) hS (lv_sub hl [1, 2, 3, 0] rfl)
  exact LOOP_19 16 0 (by omega) _ _ _ (hP.sub [0, 1, 2, 3, 4, 5, 6, 7] rfl) (hD.sub [0, 1, 2, 3, 4, 5, 6, 7] rfl rfl) hS (lv_sub hl [2, 3, 1, 0] rfl)
set_option maxHeartbeats 4000000 in
set_option maxRecDepth 100000 in
theorem c_light_10 (sz : Nat) (h0 : Nat) (pg : Nat) (bk : Nat) (fg : Nat) (og : Nat) (lg : Nat) (br : Nat) (l1 : Nat) (l2 : Nat) (l3 : Nat) (l4 : Nat) (l5 : Nat) (a : Nat) (b : Nat) (ff : Nat → Int64) (gf : Nat → Int32) (zf : Nat → Int32) (kf : Nat → Int32) (cf : Nat → Int32) (ha : a < 3) (hb0 : b < 16) (hL : Lz ff gf) : CTi l D cI cJ cZ cR yX6_light cX6_light 4 (some .int) 4 89 0 0 sz [.ref h0, .int (nI a), .int (nI b), .int 0] [(h0, .inr (6, [.ref pg, .ref bk, .ref fg, .ref og, .ref lg, .int 0, .int 1, .int 0, .int 0, .int 0])), (lg, .inr (1, [.ref l1, .ref l2, .ref l3, .ref l4, .ref l5])), (l1, .inl (cJ, 96, .inr (.inl ff))), (l2, .inl (cI, 96, .inl gf)), (l3, .inl (cZ, 96, .inl zf)), (l4, .inl (cI, 96, .inl kf)), (l5, .inl (cI, 6, .inl cf)), (bk, .inr (5, [.ref br, .int 0]))] (fun (r : Int32) (u : Unit) => (r = (-1))) (fun (u : Unit) => [(h0, .inr (6, [.ref pg, .ref bk, .ref fg, .ref og, .ref lg, .int 0, .int 1, .int 0, .int 0, .int 0])), (lg, .inr (1, [.ref l1, .ref l2, .ref l3, .ref l4, .ref l5])), (l1, .inl (cJ, 96, .inr (.inl ff))), (l2, .inl (cI, 96, .inl gf)), (l3, .inl (cZ, 96, .inl zf)), (l4, .inl (cI, 96, .inl kf)), (l5, .inl (cI, 6, .inl cf)), (bk, .inr (5, [.ref br, .int 0]))]) := by
  refine CTi.of (ty := .int) (by decide) (Nat.le_of_ble_eq_true rfl) rfl ?_
  intro p e s m below meth c A Q ls hd hin hK hsz hP hD hA hS hl hret
  obtain ⟨hx, hb, hml, hown, hts⟩ := id hd
  have hK1 := hK.1
  have hown : s.vm.findClass RX6 = some m.cls := hown
  have hl : lv_has ls 4 [(0, .ref h0), (1, .int (nI a)), (2, .int (nI b)), (3, .int 0)] := hl
  have hLz := hL
  refine lv_iload_n hx hb dX6_light_0 rfl (lv_at hl 1 rfl) ?_
  refine xc_i (wc := []) (wr := [(h0, .inr (6, [.ref pg, .ref bk, .ref fg, .ref og, .ref lg, .int 0, .int 1, .int 0, .int 0, .int 0])), (lg, .inr (1, [.ref l1, .ref l2, .ref l3, .ref l4, .ref l5])), (l1, .inl (cJ, 96, .inr (.inl ff))), (l2, .inl (cI, 96, .inl gf)), (l3, .inl (cZ, 96, .inl zf)), (l4, .inl (cI, 96, .inl kf)), (l5, .inl (cI, 6, .inl cf)), (bk, .inr (5, [.ref br, .int 0]))]) (xrS (n := 1) (As := [.int (nI a)]) (rest := []) hd hK hP hD (c_X6_isOpen l D cI cJ cZ cR _ (nI a) ) (gS t_341 mS_X6_isOpen) hS_X6_isOpen ⟨(Nat.le_of_ble_eq_true rfl), (Nat.le_of_ble_eq_true rfl)⟩ [] rfl rfl rfl hl.1 rfl (Nat.le_of_ble_eq_true rfl) dX6_light_1 ⟨(Nat.le_of_ble_eq_true rfl), (Nat.le_of_ble_eq_true rfl)⟩) hP hD hS hA [] [0, 1, 2, 3, 4, 5, 6, 7] rfl rfl rfl (by decide) (fun r_1 u_2 H locs hw_3 hP hD hS => ?_)
  have hw_4 : r_1 = (if (nI a) < 0 then 0 else if 3 ≤ (nI a) then 0 else 1) := hw_3
  subst hw_4
  have hP : va_P D vwCl [(h0, .inr (6, [.ref pg, .ref bk, .ref fg, .ref og, .ref lg, .int 0, .int 1, .int 0, .int 0, .int 0])), (lg, .inr (1, [.ref l1, .ref l2, .ref l3, .ref l4, .ref l5])), (l1, .inl (cJ, 96, .inr (.inl ff))), (l2, .inl (cI, 96, .inl gf)), (l3, .inl (cZ, 96, .inl zf)), (l4, .inl (cI, 96, .inl kf)), (l5, .inl (cI, 6, .inl cf)), (bk, .inr (5, [.ref br, .int 0]))] H := hP
  have hD : va_D A [(h0, .inr (6, [.ref pg, .ref bk, .ref fg, .ref og, .ref lg, .int 0, .int 1, .int 0, .int 0, .int 0])), (lg, .inr (1, [.ref l1, .ref l2, .ref l3, .ref l4, .ref l5])), (l1, .inl (cJ, 96, .inr (.inl ff))), (l2, .inl (cI, 96, .inl gf)), (l3, .inl (cZ, 96, .inl zf)), (l4, .inl (cI, 96, .inl kf)), (l5, .inl (cI, 6, .inl cf)), (bk, .inr (5, [.ref br, .int 0]))] := hD
  refine lv_nmi (show _ = (1 : Int32) from opn_ok ha) ?_
  refine lv_if_ne (tgt := 11) hx hb dX6_light_4 (by decide) (fun c_5 => ?_) (fun c_5 => ?_)
  rotate_left
  · exact absurd c_5 (by decide)
  refine lv_iload_n hx hb dX6_light_11 rfl (lv_at hl 2 rfl) ?_
  refine lv_if_lt (tgt := 30) hx hb dX6_light_12 (by decide) (fun c_6 => ?_) (fun c_6 => ?_)
  · exact absurd c_6 (nI_nlt (a := b) (b := 0) (by omega) (by omega))
  refine lv_iload_n hx hb dX6_light_15 rfl (lv_at hl 2 rfl) ?_
  refine lv_bipush (v := 16) hx hb dX6_light_16 (by decide) ?_
  refine lv_icmp_ge (tgt := 30) hx hb dX6_light_18 (by decide) (fun c_7 => ?_) (fun c_7 => ?_)
  · exact absurd c_7 (nI_ge (a := b) (b := 16) (by omega) (by omega))
  refine lv_iload_n hx hb dX6_light_21 rfl (lv_at hl 3 rfl) ?_
  refine lv_if_lt (tgt := 30) hx hb dX6_light_22 (by decide) (fun c_8 => ?_) (fun c_8 => ?_)
  · exact absurd c_8 (by decide)
  refine lv_iload_n hx hb dX6_light_25 rfl (lv_at hl 3 rfl) ?_
  refine lv_iconst (v := 1) hx hb dX6_light_26 (by decide) ?_
  refine lv_icmp_le (tgt := 34) hx hb dX6_light_27 (by decide) (fun c_9 => ?_) (fun c_9 => ?_)
  rotate_left
  · exact absurd c_9 (by decide)
  refine lv_aload_n hx hb dX6_light_34 rfl (lv_at hl 0 rfl) ?_
  refine xc_v (wc := [(h0, .inr (6, [.ref pg, .ref bk, .ref fg, .ref og, .ref lg, .int 0, .int 1, .int 0, .int 0, .int 0])), (lg, .inr (1, [.ref l1, .ref l2, .ref l3, .ref l4, .ref l5])), (l1, .inl (cJ, 96, .inr (.inl ff))), (l2, .inl (cI, 96, .inl gf)), (l3, .inl (cZ, 96, .inl zf)), (l4, .inl (cI, 96, .inl kf)), (l5, .inl (cI, 6, .inl cf)), (bk, .inr (5, [.ref br, .int 0]))]) (wr := []) (xrV (n := 0) (As := []) (rest := []) (ci := 6) (q0 := 0) hd hK hP hD (c_bring_1 l D cI cJ cZ cR _ h0 pg bk fg og lg br l1 l2 l3 l4 l5 ff gf zf kf cf ) (gV t_450 mV_X6_bringLights) hV_X6_bringLights ⟨(Nat.le_of_ble_eq_true rfl), (Nat.le_of_ble_eq_true rfl)⟩ rfl rfl [0, 1, 2, 3, 4, 5, 6, 7] rfl rfl rfl hl.1 rfl (Nat.le_of_ble_eq_true rfl) dX6_light_35 ⟨(Nat.le_of_ble_eq_true rfl), (Nat.le_of_ble_eq_true rfl)⟩) hP hD hS hA [0, 1, 2, 3, 4, 5, 6, 7] [] rfl rfl rfl (by decide) (fun u_11 H locs hw_12 hP hD hS => ?_)
  have hP : va_P D vwCl [(h0, .inr (6, [.ref pg, .ref bk, .ref fg, .ref og, .ref lg, .int 0, .int 1, .int 0, .int 0, .int 0])), (lg, .inr (1, [.ref l1, .ref l2, .ref l3, .ref l4, .ref l5])), (l1, .inl (cJ, 96, .inr (.inl ff))), (l2, .inl (cI, 96, .inl gf)), (l3, .inl (cZ, 96, .inl zf)), (l4, .inl (cI, 96, .inl kf)), (l5, .inl (cI, 6, .inl cf)), (bk, .inr (5, [.ref br, .int 0]))] H := hP
  have hD : va_D A [(h0, .inr (6, [.ref pg, .ref bk, .ref fg, .ref og, .ref lg, .int 0, .int 1, .int 0, .int 0, .int 0])), (lg, .inr (1, [.ref l1, .ref l2, .ref l3, .ref l4, .ref l5])), (l1, .inl (cJ, 96, .inr (.inl ff))), (l2, .inl (cI, 96, .inl gf)), (l3, .inl (cZ, 96, .inl zf)), (l4, .inl (cI, 96, .inl kf)), (l5, .inl (cI, 6, .inl cf)), (bk, .inr (5, [.ref br, .int 0]))] := hD
  refine lv_iload_n hx hb dX6_light_38 rfl (lv_at hl 3 rfl) ?_
  refine lv_if_ne (tgt := 54) hx hb dX6_light_39 (by decide) (fun c_13 => ?_) (fun c_13 => ?_)
  · exact absurd c_13 (by decide)
  refine lv_aload_n hx hb dX6_light_42 rfl (lv_at hl 0 rfl) ?_
  refine va_get (D := D) (ci := 6) (v := .ref lg) (C := RX6) (T := TX6) (N := 10) hx hb hts iT_X6 hown hK1 hP 0 rfl rfl 4 (by decide) (hts _ t_158) (fun _ h9 => h9) rfl dX6_light_43 ?_
  refine lv_iload_n hx hb dX6_light_46 rfl (lv_at hl 1 rfl) ?_
  refine lv_iload_n hx hb dX6_light_47 rfl (lv_at hl 2 rfl) ?_
  refine xc_i (wc := [(lg, .inr (1, [.ref l1, .ref l2, .ref l3, .ref l4, .ref l5])), (l1, .inl (cJ, 96, .inr (.inl ff))), (l2, .inl (cI, 96, .inl gf)), (l3, .inl (cZ, 96, .inl zf)), (l4, .inl (cI, 96, .inl kf)), (l5, .inl (cI, 6, .inl cf))]) (wr := [(h0, .inr (6, [.ref pg, .ref bk, .ref fg, .ref og, .ref lg, .int 0, .int 1, .int 0, .int 0, .int 0])), (bk, .inr (5, [.ref br, .int 0]))]) (xrV (n := 2) (As := [.int (nI a), .int (nI b)]) (rest := []) (ci := 1) (q0 := 1) hd hK hP hD (c_X1_stepsTo l D cI cJ cZ cR _ lg l1 l2 l3 l4 l5 a b ff gf zf kf cf ha hb0 (hLz.1 _ (by omega))) (gV t_511 mV_X1_stepsTo) hV_X1_stepsTo ⟨(Nat.le_of_ble_eq_true rfl), (Nat.le_of_ble_eq_true rfl)⟩ rfl rfl [1, 2, 3, 4, 5, 6] rfl rfl rfl hl.1 rfl (Nat.le_of_ble_eq_true rfl) dX6_light_48 ⟨(Nat.le_of_ble_eq_true rfl), (Nat.le_of_ble_eq_true rfl)⟩) hP hD hS hA [1, 2, 3, 4, 5, 6] [0, 7] rfl rfl rfl (by decide) (fun r_14 u_15 H locs hw_16 hP hD hS => ?_)
  have hw_17 : r_14 = (-1) := hw_16
  subst hw_17
  have hP : va_P D vwCl [(h0, .inr (6, [.ref pg, .ref bk, .ref fg, .ref og, .ref lg, .int 0, .int 1, .int 0, .int 0, .int 0])), (bk, .inr (5, [.ref br, .int 0])), (lg, .inr (1, [.ref l1, .ref l2, .ref l3, .ref l4, .ref l5])), (l1, .inl (cJ, 96, .inr (.inl ff))), (l2, .inl (cI, 96, .inl gf)), (l3, .inl (cZ, 96, .inl zf)), (l4, .inl (cI, 96, .inl kf)), (l5, .inl (cI, 6, .inl cf))] H := hP
  have hD : va_D A [(h0, .inr (6, [.ref pg, .ref bk, .ref fg, .ref og, .ref lg, .int 0, .int 1, .int 0, .int 0, .int 0])), (bk, .inr (5, [.ref br, .int 0])), (lg, .inr (1, [.ref l1, .ref l2, .ref l3, .ref l4, .ref l5])), (l1, .inl (cJ, 96, .inr (.inl ff))), (l2, .inl (cI, 96, .inl gf)), (l3, .inl (cZ, 96, .inl zf)), (l4, .inl (cI, 96, .inl kf)), (l5, .inl (cI, 6, .inl cf))] := hD
  refine lv_goto (tgt := 63) hx hb dX6_light_51 (by decide) ?_
  exact hret _ _ _ _ _ _ (-1) () dX6_light_63 rfl hS (Nat.le_of_ble_eq_true rfl) (Nat.le_of_ble_eq_true rfl) rfl (hP.sub [0, 2, 3, 4, 5, 6, 7, 1] rfl) (hD.sub [0, 2, 3, 4, 5, 6, 7, 1] rfl rfl)
set_option maxHeartbeats 4000000 in
set_option maxRecDepth 100000 in
theorem c_light_11 (sz : Nat) (h0 : Nat) (pg : Nat) (bk : Nat) (fg : Nat) (og : Nat) (lg : Nat) (br : Nat) (l1 : Nat) (l2 : Nat) (l3 : Nat) (l4 : Nat) (l5 : Nat) (a : Nat) (b : Nat) (ff : Nat → Int64) (gf : Nat → Int32) (zf : Nat → Int32) (kf : Nat → Int32) (cf : Nat → Int32) (ha : a < 3) (hb0 : b < 16) (hL : Lz ff gf) : CTi l D cI cJ cZ cR yX6_light cX6_light 4 (some .int) 4 89 0 0 sz [.ref h0, .int (nI a), .int (nI b), .int 1] [(h0, .inr (6, [.ref pg, .ref bk, .ref fg, .ref og, .ref lg, .int 0, .int 1, .int 0, .int 0, .int 0])), (lg, .inr (1, [.ref l1, .ref l2, .ref l3, .ref l4, .ref l5])), (l1, .inl (cJ, 96, .inr (.inl ff))), (l2, .inl (cI, 96, .inl gf)), (l3, .inl (cZ, 96, .inl zf)), (l4, .inl (cI, 96, .inl kf)), (l5, .inl (cI, 6, .inl cf)), (bk, .inr (5, [.ref br, .int 0]))] (fun (r : Int32) (u : Unit) => (r = (-1))) (fun (u : Unit) => [(h0, .inr (6, [.ref pg, .ref bk, .ref fg, .ref og, .ref lg, .int 0, .int 1, .int 0, .int 0, .int 0])), (lg, .inr (1, [.ref l1, .ref l2, .ref l3, .ref l4, .ref l5])), (l1, .inl (cJ, 96, .inr (.inl ff))), (l2, .inl (cI, 96, .inl gf)), (l3, .inl (cZ, 96, .inl zf)), (l4, .inl (cI, 96, .inl kf)), (l5, .inl (cI, 6, .inl cf)), (bk, .inr (5, [.ref br, .int 0]))]) := by
  refine CTi.of (ty := .int) (by decide) (Nat.le_of_ble_eq_true rfl) rfl ?_
  intro p e s m below meth c A Q ls hd hin hK hsz hP hD hA hS hl hret
  obtain ⟨hx, hb, hml, hown, hts⟩ := id hd
  have hK1 := hK.1
  have hown : s.vm.findClass RX6 = some m.cls := hown
  have hl : lv_has ls 4 [(0, .ref h0), (1, .int (nI a)), (2, .int (nI b)), (3, .int 1)] := hl
  have hLz := hL
  refine lv_iload_n hx hb dX6_light_0 rfl (lv_at hl 1 rfl) ?_
  refine xc_i (wc := []) (wr := [(h0, .inr (6, [.ref pg, .ref bk, .ref fg, .ref og, .ref lg, .int 0, .int 1, .int 0, .int 0, .int 0])), (lg, .inr (1, [.ref l1, .ref l2, .ref l3, .ref l4, .ref l5])), (l1, .inl (cJ, 96, .inr (.inl ff))), (l2, .inl (cI, 96, .inl gf)), (l3, .inl (cZ, 96, .inl zf)), (l4, .inl (cI, 96, .inl kf)), (l5, .inl (cI, 6, .inl cf)), (bk, .inr (5, [.ref br, .int 0]))]) (xrS (n := 1) (As := [.int (nI a)]) (rest := []) hd hK hP hD (c_X6_isOpen l D cI cJ cZ cR _ (nI a) ) (gS t_341 mS_X6_isOpen) hS_X6_isOpen ⟨(Nat.le_of_ble_eq_true rfl), (Nat.le_of_ble_eq_true rfl)⟩ [] rfl rfl rfl hl.1 rfl (Nat.le_of_ble_eq_true rfl) dX6_light_1 ⟨(Nat.le_of_ble_eq_true rfl), (Nat.le_of_ble_eq_true rfl)⟩) hP hD hS hA [] [0, 1, 2, 3, 4, 5, 6, 7] rfl rfl rfl (by decide) (fun r_1 u_2 H locs hw_3 hP hD hS => ?_)
  have hw_4 : r_1 = (if (nI a) < 0 then 0 else if 3 ≤ (nI a) then 0 else 1) := hw_3
  subst hw_4
  have hP : va_P D vwCl [(h0, .inr (6, [.ref pg, .ref bk, .ref fg, .ref og, .ref lg, .int 0, .int 1, .int 0, .int 0, .int 0])), (lg, .inr (1, [.ref l1, .ref l2, .ref l3, .ref l4, .ref l5])), (l1, .inl (cJ, 96, .inr (.inl ff))), (l2, .inl (cI, 96, .inl gf)), (l3, .inl (cZ, 96, .inl zf)), (l4, .inl (cI, 96, .inl kf)), (l5, .inl (cI, 6, .inl cf)), (bk, .inr (5, [.ref br, .int 0]))] H := hP
  have hD : va_D A [(h0, .inr (6, [.ref pg, .ref bk, .ref fg, .ref og, .ref lg, .int 0, .int 1, .int 0, .int 0, .int 0])), (lg, .inr (1, [.ref l1, .ref l2, .ref l3, .ref l4, .ref l5])), (l1, .inl (cJ, 96, .inr (.inl ff))), (l2, .inl (cI, 96, .inl gf)), (l3, .inl (cZ, 96, .inl zf)), (l4, .inl (cI, 96, .inl kf)), (l5, .inl (cI, 6, .inl cf)), (bk, .inr (5, [.ref br, .int 0]))] := hD
  refine lv_nmi (show _ = (1 : Int32) from opn_ok ha) ?_
  refine lv_if_ne (tgt := 11) hx hb dX6_light_4 (by decide) (fun c_5 => ?_) (fun c_5 => ?_)
  rotate_left
  · exact absurd c_5 (by decide)
  refine lv_iload_n hx hb dX6_light_11 rfl (lv_at hl 2 rfl) ?_
  refine lv_if_lt (tgt := 30) hx hb dX6_light_12 (by decide) (fun c_6 => ?_) (fun c_6 => ?_)
  · exact absurd c_6 (nI_nlt (a := b) (b := 0) (by omega) (by omega))
  refine lv_iload_n hx hb dX6_light_15 rfl (lv_at hl 2 rfl) ?_
  refine lv_bipush (v := 16) hx hb dX6_light_16 (by decide) ?_
  refine lv_icmp_ge (tgt := 30) hx hb dX6_light_18 (by decide) (fun c_7 => ?_) (fun c_7 => ?_)
  · exact absurd c_7 (nI_ge (a := b) (b := 16) (by omega) (by omega))
  refine lv_iload_n hx hb dX6_light_21 rfl (lv_at hl 3 rfl) ?_
  refine lv_if_lt (tgt := 30) hx hb dX6_light_22 (by decide) (fun c_8 => ?_) (fun c_8 => ?_)
  · exact absurd c_8 (by decide)
  refine lv_iload_n hx hb dX6_light_25 rfl (lv_at hl 3 rfl) ?_
  refine lv_iconst (v := 1) hx hb dX6_light_26 (by decide) ?_
  refine lv_icmp_le (tgt := 34) hx hb dX6_light_27 (by decide) (fun c_9 => ?_) (fun c_9 => ?_)
  rotate_left
  · exact absurd c_9 (by decide)
  refine lv_aload_n hx hb dX6_light_34 rfl (lv_at hl 0 rfl) ?_
  refine xc_v (wc := [(h0, .inr (6, [.ref pg, .ref bk, .ref fg, .ref og, .ref lg, .int 0, .int 1, .int 0, .int 0, .int 0])), (lg, .inr (1, [.ref l1, .ref l2, .ref l3, .ref l4, .ref l5])), (l1, .inl (cJ, 96, .inr (.inl ff))), (l2, .inl (cI, 96, .inl gf)), (l3, .inl (cZ, 96, .inl zf)), (l4, .inl (cI, 96, .inl kf)), (l5, .inl (cI, 6, .inl cf)), (bk, .inr (5, [.ref br, .int 0]))]) (wr := []) (xrV (n := 0) (As := []) (rest := []) (ci := 6) (q0 := 0) hd hK hP hD (c_bring_1 l D cI cJ cZ cR _ h0 pg bk fg og lg br l1 l2 l3 l4 l5 ff gf zf kf cf ) (gV t_450 mV_X6_bringLights) hV_X6_bringLights ⟨(Nat.le_of_ble_eq_true rfl), (Nat.le_of_ble_eq_true rfl)⟩ rfl rfl [0, 1, 2, 3, 4, 5, 6, 7] rfl rfl rfl hl.1 rfl (Nat.le_of_ble_eq_true rfl) dX6_light_35 ⟨(Nat.le_of_ble_eq_true rfl), (Nat.le_of_ble_eq_true rfl)⟩) hP hD hS hA [0, 1, 2, 3, 4, 5, 6, 7] [] rfl rfl rfl (by decide) (fun u_11 H locs hw_12 hP hD hS => ?_)
  have hP : va_P D vwCl [(h0, .inr (6, [.ref pg, .ref bk, .ref fg, .ref og, .ref lg, .int 0, .int 1, .int 0, .int 0, .int 0])), (lg, .inr (1, [.ref l1, .ref l2, .ref l3, .ref l4, .ref l5])), (l1, .inl (cJ, 96, .inr (.inl ff))), (l2, .inl (cI, 96, .inl gf)), (l3, .inl (cZ, 96, .inl zf)), (l4, .inl (cI, 96, .inl kf)), (l5, .inl (cI, 6, .inl cf)), (bk, .inr (5, [.ref br, .int 0]))] H := hP
  have hD : va_D A [(h0, .inr (6, [.ref pg, .ref bk, .ref fg, .ref og, .ref lg, .int 0, .int 1, .int 0, .int 0, .int 0])), (lg, .inr (1, [.ref l1, .ref l2, .ref l3, .ref l4, .ref l5])), (l1, .inl (cJ, 96, .inr (.inl ff))), (l2, .inl (cI, 96, .inl gf)), (l3, .inl (cZ, 96, .inl zf)), (l4, .inl (cI, 96, .inl kf)), (l5, .inl (cI, 6, .inl cf)), (bk, .inr (5, [.ref br, .int 0]))] := hD
  refine lv_iload_n hx hb dX6_light_38 rfl (lv_at hl 3 rfl) ?_
  refine lv_if_ne (tgt := 54) hx hb dX6_light_39 (by decide) (fun c_13 => ?_) (fun c_13 => ?_)
  rotate_left
  · exact absurd c_13 (by decide)
  refine lv_aload_n hx hb dX6_light_54 rfl (lv_at hl 0 rfl) ?_
  refine va_get (D := D) (ci := 6) (v := .ref lg) (C := RX6) (T := TX6) (N := 10) hx hb hts iT_X6 hown hK1 hP 0 rfl rfl 4 (by decide) (hts _ t_158) (fun _ h9 => h9) rfl dX6_light_55 ?_
  refine lv_iload_n hx hb dX6_light_58 rfl (lv_at hl 1 rfl) ?_
  refine lv_iload_n hx hb dX6_light_59 rfl (lv_at hl 2 rfl) ?_
  refine xc_i (wc := [(lg, .inr (1, [.ref l1, .ref l2, .ref l3, .ref l4, .ref l5])), (l1, .inl (cJ, 96, .inr (.inl ff))), (l2, .inl (cI, 96, .inl gf)), (l3, .inl (cZ, 96, .inl zf)), (l4, .inl (cI, 96, .inl kf)), (l5, .inl (cI, 6, .inl cf))]) (wr := [(h0, .inr (6, [.ref pg, .ref bk, .ref fg, .ref og, .ref lg, .int 0, .int 1, .int 0, .int 0, .int 0])), (bk, .inr (5, [.ref br, .int 0]))]) (xrV (n := 2) (As := [.int (nI a), .int (nI b)]) (rest := []) (ci := 1) (q0 := 1) hd hK hP hD (c_X1_firstTo l D cI cJ cZ cR _ lg l1 l2 l3 l4 l5 a b ff gf zf kf cf ha hb0 (hLz.2 _ (by omega))) (gV t_520 mV_X1_firstTo) hV_X1_firstTo ⟨(Nat.le_of_ble_eq_true rfl), (Nat.le_of_ble_eq_true rfl)⟩ rfl rfl [1, 2, 3, 4, 5, 6] rfl rfl rfl hl.1 rfl (Nat.le_of_ble_eq_true rfl) dX6_light_60 ⟨(Nat.le_of_ble_eq_true rfl), (Nat.le_of_ble_eq_true rfl)⟩) hP hD hS hA [1, 2, 3, 4, 5, 6] [0, 7] rfl rfl rfl (by decide) (fun r_14 u_15 H locs hw_16 hP hD hS => ?_)
  have hw_17 : r_14 = (-1) := hw_16
  subst hw_17
  have hP : va_P D vwCl [(h0, .inr (6, [.ref pg, .ref bk, .ref fg, .ref og, .ref lg, .int 0, .int 1, .int 0, .int 0, .int 0])), (bk, .inr (5, [.ref br, .int 0])), (lg, .inr (1, [.ref l1, .ref l2, .ref l3, .ref l4, .ref l5])), (l1, .inl (cJ, 96, .inr (.inl ff))), (l2, .inl (cI, 96, .inl gf)), (l3, .inl (cZ, 96, .inl zf)), (l4, .inl (cI, 96, .inl kf)), (l5, .inl (cI, 6, .inl cf))] H := hP
  have hD : va_D A [(h0, .inr (6, [.ref pg, .ref bk, .ref fg, .ref og, .ref lg, .int 0, .int 1, .int 0, .int 0, .int 0])), (bk, .inr (5, [.ref br, .int 0])), (lg, .inr (1, [.ref l1, .ref l2, .ref l3, .ref l4, .ref l5])), (l1, .inl (cJ, 96, .inr (.inl ff))), (l2, .inl (cI, 96, .inl gf)), (l3, .inl (cZ, 96, .inl zf)), (l4, .inl (cI, 96, .inl kf)), (l5, .inl (cI, 6, .inl cf))] := hD
  exact hret _ _ _ _ _ _ (-1) () dX6_light_63 rfl hS (Nat.le_of_ble_eq_true rfl) (Nat.le_of_ble_eq_true rfl) rfl (hP.sub [0, 2, 3, 4, 5, 6, 7, 1] rfl) (hD.sub [0, 2, 3, 4, 5, 6, 7, 1] rfl rfl)
set_option maxHeartbeats 4000000 in
set_option maxRecDepth 100000 in
theorem c_kinds_bad (sz : Nat) (h0 : Nat) (pg : Nat) (bk : Nat) (fg : Nat) (og : Nat) (lg : Nat) (p0 : Int32) (hp : p0 < 0 ∨ 3 ≤ p0) : CTi l D cI cJ cZ cR yX6_kinds cX6_kinds 4 (some .int) 1 20 0 0 sz [.ref h0, .int p0] [(h0, .inr (6, [.ref pg, .ref bk, .ref fg, .ref og, .ref lg, .int 0, .int 0, .int 0, .int 0, .int 0]))] (fun (r : Int32) (u : Unit) => (r = (-1001))) (fun (u : Unit) => [(h0, .inr (6, [.ref pg, .ref bk, .ref fg, .ref og, .ref lg, .int 0, .int 0, .int 0, .int 0, .int 0]))]) := by
  refine CTi.of (ty := .int) (by decide) (Nat.le_of_ble_eq_true rfl) rfl ?_
  intro p e s m below meth c A Q ls hd hin hK hsz hP hD hA hS hl hret
  obtain ⟨hx, hb, hml, hown, hts⟩ := id hd
  have hK1 := hK.1
  have hown : s.vm.findClass RX6 = some m.cls := hown
  have hl : lv_has ls 4 [(0, .ref h0), (1, .int p0)] := hl
  refine lv_iload_n hx hb dX6_kinds_0 rfl (lv_at hl 1 rfl) ?_
  refine xc_i (wc := []) (wr := [(h0, .inr (6, [.ref pg, .ref bk, .ref fg, .ref og, .ref lg, .int 0, .int 0, .int 0, .int 0, .int 0]))]) (xrS (n := 1) (As := [.int p0]) (rest := []) hd hK hP hD (c_X6_isOpen l D cI cJ cZ cR _ p0 ) (gS t_341 mS_X6_isOpen) hS_X6_isOpen ⟨(Nat.le_of_ble_eq_true rfl), (Nat.le_of_ble_eq_true rfl)⟩ [] rfl rfl rfl hl.1 rfl (Nat.le_of_ble_eq_true rfl) dX6_kinds_1 ⟨(Nat.le_of_ble_eq_true rfl), (Nat.le_of_ble_eq_true rfl)⟩) hP hD hS hA [] [0] rfl rfl rfl (by decide) (fun r_1 u_2 H locs hw_3 hP hD hS => ?_)
  have hw_4 : r_1 = (if p0 < 0 then 0 else if 3 ≤ p0 then 0 else 1) := hw_3
  subst hw_4
  have hP : va_P D vwCl [(h0, .inr (6, [.ref pg, .ref bk, .ref fg, .ref og, .ref lg, .int 0, .int 0, .int 0, .int 0, .int 0]))] H := hP
  have hD : va_D A [(h0, .inr (6, [.ref pg, .ref bk, .ref fg, .ref og, .ref lg, .int 0, .int 0, .int 0, .int 0, .int 0]))] := hD
  refine lv_nmi (show _ = (0 : Int32) from opn_bad hp) ?_
  refine lv_if_ne (tgt := 11) hx hb dX6_kinds_4 (by decide) (fun c_5 => ?_) (fun c_5 => ?_)
  · exact absurd c_5 (by decide)
  refine lv_sipush (v := -1001) hx hb dX6_kinds_7 (by decide) ?_
  exact hret _ _ _ _ _ _ (-1001) () dX6_kinds_10 rfl hS (Nat.le_of_ble_eq_true rfl) (Nat.le_of_ble_eq_true rfl) rfl (hP.sub [0] rfl) (hD.sub [0] rfl rfl)
set_option maxHeartbeats 4000000 in
set_option maxRecDepth 100000 in
theorem c_light_bad (sz : Nat) (h0 : Nat) (pg : Nat) (bk : Nat) (fg : Nat) (og : Nat) (lg : Nat) (p0 : Int32) (p1 : Int32) (p2 : Int32) (hp : p0 < 0 ∨ 3 ≤ p0) : CTi l D cI cJ cZ cR yX6_light cX6_light 4 (some .int) 1 20 0 0 sz [.ref h0, .int p0, .int p1, .int p2] [(h0, .inr (6, [.ref pg, .ref bk, .ref fg, .ref og, .ref lg, .int 0, .int 0, .int 0, .int 0, .int 0]))] (fun (r : Int32) (u : Unit) => (r = (-1001))) (fun (u : Unit) => [(h0, .inr (6, [.ref pg, .ref bk, .ref fg, .ref og, .ref lg, .int 0, .int 0, .int 0, .int 0, .int 0]))]) := by
  refine CTi.of (ty := .int) (by decide) (Nat.le_of_ble_eq_true rfl) rfl ?_
  intro p e s m below meth c A Q ls hd hin hK hsz hP hD hA hS hl hret
  obtain ⟨hx, hb, hml, hown, hts⟩ := id hd
  have hK1 := hK.1
  have hown : s.vm.findClass RX6 = some m.cls := hown
  have hl : lv_has ls 4 [(0, .ref h0), (1, .int p0), (2, .int p1), (3, .int p2)] := hl
  refine lv_iload_n hx hb dX6_light_0 rfl (lv_at hl 1 rfl) ?_
  refine xc_i (wc := []) (wr := [(h0, .inr (6, [.ref pg, .ref bk, .ref fg, .ref og, .ref lg, .int 0, .int 0, .int 0, .int 0, .int 0]))]) (xrS (n := 1) (As := [.int p0]) (rest := []) hd hK hP hD (c_X6_isOpen l D cI cJ cZ cR _ p0 ) (gS t_341 mS_X6_isOpen) hS_X6_isOpen ⟨(Nat.le_of_ble_eq_true rfl), (Nat.le_of_ble_eq_true rfl)⟩ [] rfl rfl rfl hl.1 rfl (Nat.le_of_ble_eq_true rfl) dX6_light_1 ⟨(Nat.le_of_ble_eq_true rfl), (Nat.le_of_ble_eq_true rfl)⟩) hP hD hS hA [] [0] rfl rfl rfl (by decide) (fun r_1 u_2 H locs hw_3 hP hD hS => ?_)
  have hw_4 : r_1 = (if p0 < 0 then 0 else if 3 ≤ p0 then 0 else 1) := hw_3
  subst hw_4
  have hP : va_P D vwCl [(h0, .inr (6, [.ref pg, .ref bk, .ref fg, .ref og, .ref lg, .int 0, .int 0, .int 0, .int 0, .int 0]))] H := hP
  have hD : va_D A [(h0, .inr (6, [.ref pg, .ref bk, .ref fg, .ref og, .ref lg, .int 0, .int 0, .int 0, .int 0, .int 0]))] := hD
  refine lv_nmi (show _ = (0 : Int32) from opn_bad hp) ?_
  refine lv_if_ne (tgt := 11) hx hb dX6_light_4 (by decide) (fun c_5 => ?_) (fun c_5 => ?_)
  · exact absurd c_5 (by decide)
  refine lv_sipush (v := -1001) hx hb dX6_light_7 (by decide) ?_
  exact hret _ _ _ _ _ _ (-1001) () dX6_light_10 rfl hS (Nat.le_of_ble_eq_true rfl) (Nat.le_of_ble_eq_true rfl) rfl (hP.sub [0] rfl) (hD.sub [0] rfl rfl)
set_option maxHeartbeats 4000000 in
set_option maxRecDepth 100000 in
theorem c_light_out (sz : Nat) (h0 : Nat) (pg : Nat) (bk : Nat) (fg : Nat) (og : Nat) (lg : Nat) (a : Nat) (p1 : Int32) (p2 : Int32) (ha : a < 3) (hq : (p1 < 0 ∨ 16 ≤ p1) ∨ (p2 < 0 ∨ ¬ p2 ≤ 1)) : CTi l D cI cJ cZ cR yX6_light cX6_light 4 (some .int) 1 20 0 0 sz [.ref h0, .int (nI a), .int p1, .int p2] [(h0, .inr (6, [.ref pg, .ref bk, .ref fg, .ref og, .ref lg, .int 0, .int 0, .int 0, .int 0, .int 0]))] (fun (r : Int32) (u : Unit) => (r = (-1002))) (fun (u : Unit) => [(h0, .inr (6, [.ref pg, .ref bk, .ref fg, .ref og, .ref lg, .int 0, .int 0, .int 0, .int 0, .int 0]))]) := by
  refine CTi.of (ty := .int) (by decide) (Nat.le_of_ble_eq_true rfl) rfl ?_
  intro p e s m below meth c A Q ls hd hin hK hsz hP hD hA hS hl hret
  obtain ⟨hx, hb, hml, hown, hts⟩ := id hd
  have hK1 := hK.1
  have hown : s.vm.findClass RX6 = some m.cls := hown
  have hl : lv_has ls 4 [(0, .ref h0), (1, .int (nI a)), (2, .int p1), (3, .int p2)] := hl
  refine lv_iload_n hx hb dX6_light_0 rfl (lv_at hl 1 rfl) ?_
  refine xc_i (wc := []) (wr := [(h0, .inr (6, [.ref pg, .ref bk, .ref fg, .ref og, .ref lg, .int 0, .int 0, .int 0, .int 0, .int 0]))]) (xrS (n := 1) (As := [.int (nI a)]) (rest := []) hd hK hP hD (c_X6_isOpen l D cI cJ cZ cR _ (nI a) ) (gS t_341 mS_X6_isOpen) hS_X6_isOpen ⟨(Nat.le_of_ble_eq_true rfl), (Nat.le_of_ble_eq_true rfl)⟩ [] rfl rfl rfl hl.1 rfl (Nat.le_of_ble_eq_true rfl) dX6_light_1 ⟨(Nat.le_of_ble_eq_true rfl), (Nat.le_of_ble_eq_true rfl)⟩) hP hD hS hA [] [0] rfl rfl rfl (by decide) (fun r_1 u_2 H locs hw_3 hP hD hS => ?_)
  have hw_4 : r_1 = (if (nI a) < 0 then 0 else if 3 ≤ (nI a) then 0 else 1) := hw_3
  subst hw_4
  have hP : va_P D vwCl [(h0, .inr (6, [.ref pg, .ref bk, .ref fg, .ref og, .ref lg, .int 0, .int 0, .int 0, .int 0, .int 0]))] H := hP
  have hD : va_D A [(h0, .inr (6, [.ref pg, .ref bk, .ref fg, .ref og, .ref lg, .int 0, .int 0, .int 0, .int 0, .int 0]))] := hD
  refine lv_nmi (show _ = (1 : Int32) from opn_ok ha) ?_
  refine lv_if_ne (tgt := 11) hx hb dX6_light_4 (by decide) (fun c_5 => ?_) (fun c_5 => ?_)
  rotate_left
  · exact absurd c_5 (by decide)
  refine lv_iload_n hx hb dX6_light_11 rfl (lv_at hl 2 rfl) ?_
  refine lv_if_lt (tgt := 30) hx hb dX6_light_12 (by decide) (fun c_6 => ?_) (fun c_6 => ?_)
  · skip
    refine lv_sipush (v := -1002) hx hb dX6_light_30 (by decide) ?_
    exact hret _ _ _ _ _ _ (-1002) () dX6_light_33 rfl hS (Nat.le_of_ble_eq_true rfl) (Nat.le_of_ble_eq_true rfl) rfl (hP.sub [0] rfl) (hD.sub [0] rfl rfl)
  · skip
    refine lv_iload_n hx hb dX6_light_15 rfl (lv_at hl 2 rfl) ?_
    refine lv_bipush (v := 16) hx hb dX6_light_16 (by decide) ?_
    refine lv_icmp_ge (tgt := 30) hx hb dX6_light_18 (by decide) (fun c_7 => ?_) (fun c_7 => ?_)
    · skip
      refine lv_sipush (v := -1002) hx hb dX6_light_30 (by decide) ?_
      exact hret _ _ _ _ _ _ (-1002) () dX6_light_33 rfl hS (Nat.le_of_ble_eq_true rfl) (Nat.le_of_ble_eq_true rfl) rfl (hP.sub [0] rfl) (hD.sub [0] rfl rfl)
    · skip
      refine lv_iload_n hx hb dX6_light_21 rfl (lv_at hl 3 rfl) ?_
      refine lv_if_lt (tgt := 30) hx hb dX6_light_22 (by decide) (fun c_8 => ?_) (fun c_8 => ?_)
      · skip
        refine lv_sipush (v := -1002) hx hb dX6_light_30 (by decide) ?_
        exact hret _ _ _ _ _ _ (-1002) () dX6_light_33 rfl hS (Nat.le_of_ble_eq_true rfl) (Nat.le_of_ble_eq_true rfl) rfl (hP.sub [0] rfl) (hD.sub [0] rfl rfl)
      · skip
        refine lv_iload_n hx hb dX6_light_25 rfl (lv_at hl 3 rfl) ?_
        refine lv_iconst (v := 1) hx hb dX6_light_26 (by decide) ?_
        refine lv_icmp_le (tgt := 34) hx hb dX6_light_27 (by decide) (fun c_9 => ?_) (fun c_9 => ?_)
        · exact absurd hq (by simp only [not_or]; exact ⟨⟨by assumption, by assumption⟩, by assumption, fun q => q c_9⟩)
        refine lv_sipush (v := -1002) hx hb dX6_light_30 (by decide) ?_
        exact hret _ _ _ _ _ _ (-1002) () dX6_light_33 rfl hS (Nat.le_of_ble_eq_true rfl) (Nat.le_of_ble_eq_true rfl) rfl (hP.sub [0] rfl) (hD.sub [0] rfl rfl)
set_option maxHeartbeats 4000000 in
set_option maxRecDepth 100000 in
theorem c_X0_openEdges (sz : Nat) (fg : Nat) (f1 : Nat) (f2 : Nat) (f3 : Nat)  : CTi l D cI cJ cZ cR yX0_openEdges cX0_openEdges 3 (some .int) 0 0 0 0 sz [.ref fg] [(fg, .inr (0, [.ref f1, .ref f2, .ref f3, .int 0, .int 0]))] (fun (r : Int32) (u : Unit) => (r = 0)) (fun (u : Unit) => [(fg, .inr (0, [.ref f1, .ref f2, .ref f3, .int 0, .int 0]))]) := by
  refine CTi.of (ty := .int) (by decide) (Nat.le_of_ble_eq_true rfl) rfl ?_
  intro p e s m below meth c A Q ls hd hin hK hsz hP hD hA hS hl hret
  obtain ⟨hx, hb, hml, hown, hts⟩ := id hd
  have hK1 := hK.1
  have hown : s.vm.findClass RX0 = some m.cls := hown
  have hl : lv_has ls 3 [(0, .ref fg)] := hl
  refine lv_iconst (v := 0) hx hb dX0_openEdges_0 (by decide) ?_
  refine lv_istore_n (lv' := [(1, .int 0), (0, .ref fg)]) hx hb dX0_openEdges_1 rfl hl (by decide) rfl (fun ls hl => ?_)
  refine lv_iconst (v := 0) hx hb dX0_openEdges_2 (by decide) ?_
  refine lv_istore_n (lv' := [(2, .int 0), (1, .int 0), (0, .ref fg)]) hx hb dX0_openEdges_3 rfl hl (by decide) rfl (fun ls hl => ?_)
  refine lv_iload_n hx hb dX0_openEdges_4 rfl (lv_at hl 0 rfl) ?_
  refine lv_aload_n hx hb dX0_openEdges_5 rfl (lv_at hl 2 rfl) ?_
  refine va_get (D := D) (ci := 0) (v := .int 0) (C := RX0) (T := TX0) (N := 5) hx hb hts iT_X0 hown hK1 hP 0 rfl rfl 3 (by decide) (hts _ t_62) (fun _ h9 => h9) rfl dX0_openEdges_6 ?_
  refine lv_icmp_ge (tgt := 38) hx hb dX0_openEdges_9 (by decide) (fun c_1 => ?_) (fun c_1 => ?_)
  rotate_left
  · exact absurd c_1 (by decide)
  refine lv_iload_n hx hb dX0_openEdges_38 rfl (lv_at hl 1 rfl) ?_
  exact hret _ _ _ _ _ _ 0 () dX0_openEdges_39 rfl hS (Nat.le_of_ble_eq_true rfl) (Nat.le_of_ble_eq_true rfl) rfl (hP.sub [0] rfl) (hD.sub [0] rfl rfl)
set_option maxHeartbeats 4000000 in
set_option maxRecDepth 100000 in
theorem c_X0_isDone (sz : Nat) (fg : Nat) (f1 : Nat) (f2 : Nat) (f3 : Nat)  : CTi l D cI cJ cZ cR yX0_isDone cX0_isDone 1 (some .boolean) 0 0 0 0 sz [.ref fg] [(fg, .inr (0, [.ref f1, .ref f2, .ref f3, .int 0, .int 0]))] (fun (r : Int32) (u : Unit) => (r = 0)) (fun (u : Unit) => [(fg, .inr (0, [.ref f1, .ref f2, .ref f3, .int 0, .int 0]))]) := by
  refine CTi.of (ty := .boolean) (by decide) (Nat.le_of_ble_eq_true rfl) rfl ?_
  intro p e s m below meth c A Q ls hd hin hK hsz hP hD hA hS hl hret
  obtain ⟨hx, hb, hml, hown, hts⟩ := id hd
  have hK1 := hK.1
  have hown : s.vm.findClass RX0 = some m.cls := hown
  have hl : lv_has ls 1 [(0, .ref fg)] := hl
  refine lv_aload_n hx hb dX0_isDone_0 rfl (lv_at hl 0 rfl) ?_
  refine va_get (D := D) (ci := 0) (v := .int 0) (C := RX0) (T := TX0) (N := 5) hx hb hts iT_X0 hown hK1 hP 0 rfl rfl 3 (by decide) (hts _ t_62) (fun _ h9 => h9) rfl dX0_isDone_1 ?_
  refine lv_if_le (tgt := 18) hx hb dX0_isDone_4 (by decide) (fun c_1 => ?_) (fun c_1 => ?_)
  rotate_left
  · exact absurd c_1 (by decide)
  refine lv_iconst (v := 0) hx hb dX0_isDone_18 (by decide) ?_
  exact hret _ _ _ _ _ _ 0 () dX0_isDone_19 rfl hS (Nat.le_of_ble_eq_true rfl) (Nat.le_of_ble_eq_true rfl) rfl (hP.sub [0] rfl) (hD.sub [0] rfl rfl)
set_option maxHeartbeats 4000000 in
set_option maxRecDepth 100000 in
theorem c_X6_kind (sz : Nat) (h0 : Nat) (pg : Nat) (bk : Nat) (fg : Nat) (og : Nat) (lg : Nat) (f1 : Nat) (f2 : Nat) (f3 : Nat) (lsv : Int32)  : CTi l D cI cJ cZ cR yX6_kind cX6_kind 1 (some .int) 1 20 0 0 sz [.ref h0] [(h0, .inr (6, [.ref pg, .ref bk, .ref fg, .ref og, .ref lg, .int 0, .int lsv, .int 0, .int 0, .int 0])), (fg, .inr (0, [.ref f1, .ref f2, .ref f3, .int 0, .int 0]))] (fun (r : Int32) (u : Unit) => (r = (-1003))) (fun (u : Unit) => [(h0, .inr (6, [.ref pg, .ref bk, .ref fg, .ref og, .ref lg, .int 0, .int lsv, .int 0, .int 0, .int 0])), (fg, .inr (0, [.ref f1, .ref f2, .ref f3, .int 0, .int 0]))]) := by
  refine CTi.of (ty := .int) (by decide) (Nat.le_of_ble_eq_true rfl) rfl ?_
  intro p e s m below meth c A Q ls hd hin hK hsz hP hD hA hS hl hret
  obtain ⟨hx, hb, hml, hown, hts⟩ := id hd
  have hK1 := hK.1
  have hown : s.vm.findClass RX6 = some m.cls := hown
  have hl : lv_has ls 1 [(0, .ref h0)] := hl
  refine lv_aload_n hx hb dX6_kind_0 rfl (lv_at hl 0 rfl) ?_
  refine va_get (D := D) (ci := 6) (v := .ref fg) (C := RX6) (T := TX6) (N := 10) hx hb hts iT_X6 hown hK1 hP 0 rfl rfl 2 (by decide) (hts _ t_156) (fun _ h9 => h9) rfl dX6_kind_1 ?_
  refine xc_i (wc := [(fg, .inr (0, [.ref f1, .ref f2, .ref f3, .int 0, .int 0]))]) (wr := [(h0, .inr (6, [.ref pg, .ref bk, .ref fg, .ref og, .ref lg, .int 0, .int lsv, .int 0, .int 0, .int 0]))]) (xrV (n := 0) (As := []) (rest := []) (ci := 0) (q0 := 1) hd hK hP hD (c_X0_isDone l D cI cJ cZ cR _ fg f1 f2 f3 ) (gV t_365 mV_X0_isDone) hV_X0_isDone ⟨(Nat.le_of_ble_eq_true rfl), (Nat.le_of_ble_eq_true rfl)⟩ rfl rfl [1] rfl rfl rfl hl.1 rfl (Nat.le_of_ble_eq_true rfl) dX6_kind_4 ⟨(Nat.le_of_ble_eq_true rfl), (Nat.le_of_ble_eq_true rfl)⟩) hP hD hS hA [1] [0] rfl rfl rfl (by decide) (fun r_1 u_2 H locs hw_3 hP hD hS => ?_)
  have hw_4 : r_1 = 0 := hw_3
  subst hw_4
  have hP : va_P D vwCl [(h0, .inr (6, [.ref pg, .ref bk, .ref fg, .ref og, .ref lg, .int 0, .int lsv, .int 0, .int 0, .int 0])), (fg, .inr (0, [.ref f1, .ref f2, .ref f3, .int 0, .int 0]))] H := hP
  have hD : va_D A [(h0, .inr (6, [.ref pg, .ref bk, .ref fg, .ref og, .ref lg, .int 0, .int lsv, .int 0, .int 0, .int 0])), (fg, .inr (0, [.ref f1, .ref f2, .ref f3, .int 0, .int 0]))] := hD
  refine lv_if_eq (tgt := 20) hx hb dX6_kind_7 (by decide) (fun c_5 => ?_) (fun c_5 => ?_)
  rotate_left
  · exact absurd c_5 (by decide)
  refine lv_sipush (v := -1003) hx hb dX6_kind_20 (by decide) ?_
  exact hret _ _ _ _ _ _ (-1003) () dX6_kind_23 rfl hS (Nat.le_of_ble_eq_true rfl) (Nat.le_of_ble_eq_true rfl) rfl (hP.sub [0, 1] rfl) (hD.sub [0, 1] rfl rfl)
set_option maxHeartbeats 4000000 in
set_option maxRecDepth 100000 in
theorem c_X6_fewest (sz : Nat) (h0 : Nat) (pg : Nat) (bk : Nat) (fg : Nat) (og : Nat) (lg : Nat) (f1 : Nat) (f2 : Nat) (f3 : Nat) (lsv : Int32) (p0 : Int32)  : CTi l D cI cJ cZ cR yX6_fewest cX6_fewest 3 (some .int) 1 20 0 0 sz [.ref h0, .int p0] [(h0, .inr (6, [.ref pg, .ref bk, .ref fg, .ref og, .ref lg, .int 0, .int lsv, .int 0, .int 0, .int 0])), (fg, .inr (0, [.ref f1, .ref f2, .ref f3, .int 0, .int 0]))] (fun (r : Int32) (u : Unit) => (r = (if p0 < 0 then -1001 else if 3 ≤ p0 then -1001 else -1003))) (fun (u : Unit) => [(h0, .inr (6, [.ref pg, .ref bk, .ref fg, .ref og, .ref lg, .int 0, .int lsv, .int 0, .int 0, .int 0])), (fg, .inr (0, [.ref f1, .ref f2, .ref f3, .int 0, .int 0]))]) := by
  refine CTi.of (ty := .int) (by decide) (Nat.le_of_ble_eq_true rfl) rfl ?_
  intro p e s m below meth c A Q ls hd hin hK hsz hP hD hA hS hl hret
  obtain ⟨hx, hb, hml, hown, hts⟩ := id hd
  have hK1 := hK.1
  have hown : s.vm.findClass RX6 = some m.cls := hown
  have hl : lv_has ls 3 [(0, .ref h0), (1, .int p0)] := hl
  refine lv_iload_n hx hb dX6_fewest_0 rfl (lv_at hl 1 rfl) ?_
  refine xc_i (wc := []) (wr := [(h0, .inr (6, [.ref pg, .ref bk, .ref fg, .ref og, .ref lg, .int 0, .int lsv, .int 0, .int 0, .int 0])), (fg, .inr (0, [.ref f1, .ref f2, .ref f3, .int 0, .int 0]))]) (xrS (n := 1) (As := [.int p0]) (rest := []) hd hK hP hD (c_X6_isOpen l D cI cJ cZ cR _ p0 ) (gS t_341 mS_X6_isOpen) hS_X6_isOpen ⟨(Nat.le_of_ble_eq_true rfl), (Nat.le_of_ble_eq_true rfl)⟩ [] rfl rfl rfl hl.1 rfl (Nat.le_of_ble_eq_true rfl) dX6_fewest_1 ⟨(Nat.le_of_ble_eq_true rfl), (Nat.le_of_ble_eq_true rfl)⟩) hP hD hS hA [] [0, 1] rfl rfl rfl (by decide) (fun r_1 u_2 H locs hw_3 hP hD hS => ?_)
  have hw_4 : r_1 = (if p0 < 0 then 0 else if 3 ≤ p0 then 0 else 1) := hw_3
  subst hw_4
  have hP : va_P D vwCl [(h0, .inr (6, [.ref pg, .ref bk, .ref fg, .ref og, .ref lg, .int 0, .int lsv, .int 0, .int 0, .int 0])), (fg, .inr (0, [.ref f1, .ref f2, .ref f3, .int 0, .int 0]))] H := hP
  have hD : va_D A [(h0, .inr (6, [.ref pg, .ref bk, .ref fg, .ref og, .ref lg, .int 0, .int lsv, .int 0, .int 0, .int 0])), (fg, .inr (0, [.ref f1, .ref f2, .ref f3, .int 0, .int 0]))] := hD
  refine lv_if_ne (tgt := 11) hx hb dX6_fewest_4 (by decide) (fun c_5 => ?_) (fun c_5 => ?_)
  · skip
    refine lv_aload_n hx hb dX6_fewest_11 rfl (lv_at hl 0 rfl) ?_
    refine va_get (D := D) (ci := 6) (v := .ref fg) (C := RX6) (T := TX6) (N := 10) hx hb hts iT_X6 hown hK1 hP 0 rfl rfl 2 (by decide) (hts _ t_156) (fun _ h9 => h9) rfl dX6_fewest_12 ?_
    refine xc_i (wc := [(fg, .inr (0, [.ref f1, .ref f2, .ref f3, .int 0, .int 0]))]) (wr := [(h0, .inr (6, [.ref pg, .ref bk, .ref fg, .ref og, .ref lg, .int 0, .int lsv, .int 0, .int 0, .int 0]))]) (xrV (n := 0) (As := []) (rest := []) (ci := 0) (q0 := 1) hd hK hP hD (c_X0_isDone l D cI cJ cZ cR _ fg f1 f2 f3 ) (gV t_365 mV_X0_isDone) hV_X0_isDone ⟨(Nat.le_of_ble_eq_true rfl), (Nat.le_of_ble_eq_true rfl)⟩ rfl rfl [1] rfl rfl rfl hl.1 rfl (Nat.le_of_ble_eq_true rfl) dX6_fewest_15 ⟨(Nat.le_of_ble_eq_true rfl), (Nat.le_of_ble_eq_true rfl)⟩) hP hD hS hA [1] [0] rfl rfl rfl (by decide) (fun r_6 u_7 H locs hw_8 hP hD hS => ?_)
    have hw_9 : r_6 = 0 := hw_8
    subst hw_9
    have hP : va_P D vwCl [(h0, .inr (6, [.ref pg, .ref bk, .ref fg, .ref og, .ref lg, .int 0, .int lsv, .int 0, .int 0, .int 0])), (fg, .inr (0, [.ref f1, .ref f2, .ref f3, .int 0, .int 0]))] H := hP
    have hD : va_D A [(h0, .inr (6, [.ref pg, .ref bk, .ref fg, .ref og, .ref lg, .int 0, .int lsv, .int 0, .int 0, .int 0])), (fg, .inr (0, [.ref f1, .ref f2, .ref f3, .int 0, .int 0]))] := hD
    refine lv_if_eq (tgt := 43) hx hb dX6_fewest_18 (by decide) (fun c_10 => ?_) (fun c_10 => ?_)
    rotate_left
    · exact absurd c_10 (by decide)
    refine lv_sipush (v := -1003) hx hb dX6_fewest_43 (by decide) ?_
    exact hret _ _ _ _ _ _ (-1003) () dX6_fewest_46 rfl hS (Nat.le_of_ble_eq_true rfl) (Nat.le_of_ble_eq_true rfl) (opn_few2 c_5) (hP.sub [0, 1] rfl) (hD.sub [0, 1] rfl rfl)
  · skip
    refine lv_sipush (v := -1001) hx hb dX6_fewest_7 (by decide) ?_
    exact hret _ _ _ _ _ _ (-1001) () dX6_fewest_10 rfl hS (Nat.le_of_ble_eq_true rfl) (Nat.le_of_ble_eq_true rfl) (opn_few c_5) (hP.sub [0, 1] rfl) (hD.sub [0, 1] rfl rfl)
set_option maxHeartbeats 4000000 in
set_option maxRecDepth 100000 in
theorem c_X6_count (sz : Nat) (h0 : Nat) (pg : Nat) (bk : Nat) (fg : Nat) (og : Nat) (lg : Nat) (f1 : Nat) (f2 : Nat) (f3 : Nat) (pc : Nat) (br : Nat) (lsv : Int32) (p0 : Int32)  : CTi l D cI cJ cZ cR yX6_count cX6_count 2 (some .int) 1 22 0 0 sz [.ref h0, .int p0] [(h0, .inr (6, [.ref pg, .ref bk, .ref fg, .ref og, .ref lg, .int 0, .int lsv, .int 0, .int 0, .int 0])), (pg, .inr (3, [.ref pc, .int 0])), (bk, .inr (5, [.ref br, .int 0])), (fg, .inr (0, [.ref f1, .ref f2, .ref f3, .int 0, .int 0]))] (fun (r : Int32) (u : Unit) => (r = (cnt0 p0))) (fun (u : Unit) => [(h0, .inr (6, [.ref pg, .ref bk, .ref fg, .ref og, .ref lg, .int 0, .int lsv, .int 0, .int 0, .int 0])), (pg, .inr (3, [.ref pc, .int 0])), (bk, .inr (5, [.ref br, .int 0])), (fg, .inr (0, [.ref f1, .ref f2, .ref f3, .int 0, .int 0]))]) := by
  refine CTi.of (ty := .int) (by decide) (Nat.le_of_ble_eq_true rfl) rfl ?_
  intro p e s m below meth c A Q ls hd hin hK hsz hP hD hA hS hl hret
  obtain ⟨hx, hb, hml, hown, hts⟩ := id hd
  have hK1 := hK.1
  have hown : s.vm.findClass RX6 = some m.cls := hown
  have hl : lv_has ls 2 [(0, .ref h0), (1, .int p0)] := hl
  refine lv_iload_n hx hb dX6_count_0 rfl (lv_at hl 1 rfl) ?_
  rcases sw_7 p0 with c_1 | c_1 | c_1 | c_1 | c_1 | c_1 | c_1 | c_1 | c_1
  · refine lv_nmi c_1 ?_
    refine lv_tableIn (off := 47) (tgt := 48) hx hb dX6_count_1 (by decide) (by decide) (by decide) (by decide) ?_
    refine lv_aload_n hx hb dX6_count_48 rfl (lv_at hl 0 rfl) ?_
    refine va_get (D := D) (ci := 6) (v := .ref pg) (C := RX6) (T := TX6) (N := 10) hx hb hts iT_X6 hown hK1 hP 0 rfl rfl 0 (by decide) (hts _ t_154) (fun _ h9 => h9) rfl dX6_count_49 ?_
    refine va_get (D := D) (ci := 3) (v := .int 0) (C := RX3) (T := TX3) (N := 2) hx hb hts iT_X3 hown hK1 hP 1 rfl rfl 1 (by decide) (hts _ t_29) (fun _ h9 => h9) rfl dX6_count_52 ?_
    exact hret _ _ _ _ _ _ 0 () dX6_count_55 rfl hS (Nat.le_of_ble_eq_true rfl) (Nat.le_of_ble_eq_true rfl) (cnt0_in c_1 (by decide)) (hP.sub [0, 1, 2, 3] rfl) (hD.sub [0, 1, 2, 3] rfl rfl)
  · refine lv_nmi c_1 ?_
    refine lv_tableIn (off := 55) (tgt := 56) hx hb dX6_count_1 (by decide) (by decide) (by decide) (by decide) ?_
    refine lv_aload_n hx hb dX6_count_56 rfl (lv_at hl 0 rfl) ?_
    refine va_get (D := D) (ci := 6) (v := .ref bk) (C := RX6) (T := TX6) (N := 10) hx hb hts iT_X6 hown hK1 hP 0 rfl rfl 1 (by decide) (hts _ t_155) (fun _ h9 => h9) rfl dX6_count_57 ?_
    refine va_get (D := D) (ci := 5) (v := .int 0) (C := RX5) (T := TX5) (N := 2) hx hb hts iT_X5 hown hK1 hP 2 rfl rfl 1 (by decide) (hts _ t_107) (fun _ h9 => h9) rfl dX6_count_60 ?_
    exact hret _ _ _ _ _ _ 0 () dX6_count_63 rfl hS (Nat.le_of_ble_eq_true rfl) (Nat.le_of_ble_eq_true rfl) (cnt0_in c_1 (by decide)) (hP.sub [0, 1, 2, 3] rfl) (hD.sub [0, 1, 2, 3] rfl rfl)
  · refine lv_nmi c_1 ?_
    refine lv_tableIn (off := 63) (tgt := 64) hx hb dX6_count_1 (by decide) (by decide) (by decide) (by decide) ?_
    refine lv_aload_n hx hb dX6_count_64 rfl (lv_at hl 0 rfl) ?_
    refine va_get (D := D) (ci := 6) (v := .ref fg) (C := RX6) (T := TX6) (N := 10) hx hb hts iT_X6 hown hK1 hP 0 rfl rfl 2 (by decide) (hts _ t_156) (fun _ h9 => h9) rfl dX6_count_65 ?_
    refine va_get (D := D) (ci := 0) (v := .int 0) (C := RX0) (T := TX0) (N := 5) hx hb hts iT_X0 hown hK1 hP 3 rfl rfl 3 (by decide) (hts _ t_64) (fun _ h9 => h9) rfl dX6_count_68 ?_
    exact hret _ _ _ _ _ _ 0 () dX6_count_71 rfl hS (Nat.le_of_ble_eq_true rfl) (Nat.le_of_ble_eq_true rfl) (cnt0_in c_1 (by decide)) (hP.sub [0, 1, 2, 3] rfl) (hD.sub [0, 1, 2, 3] rfl rfl)
  · refine lv_nmi c_1 ?_
    refine lv_tableIn (off := 71) (tgt := 72) hx hb dX6_count_1 (by decide) (by decide) (by decide) (by decide) ?_
    refine lv_aload_n hx hb dX6_count_72 rfl (lv_at hl 0 rfl) ?_
    refine va_get (D := D) (ci := 6) (v := .ref fg) (C := RX6) (T := TX6) (N := 10) hx hb hts iT_X6 hown hK1 hP 0 rfl rfl 2 (by decide) (hts _ t_156) (fun _ h9 => h9) rfl dX6_count_73 ?_
    refine va_get (D := D) (ci := 0) (v := .int 0) (C := RX0) (T := TX0) (N := 5) hx hb hts iT_X0 hown hK1 hP 3 rfl rfl 4 (by decide) (hts _ t_67) (fun _ h9 => h9) rfl dX6_count_76 ?_
    exact hret _ _ _ _ _ _ 0 () dX6_count_79 rfl hS (Nat.le_of_ble_eq_true rfl) (Nat.le_of_ble_eq_true rfl) (cnt0_in c_1 (by decide)) (hP.sub [0, 1, 2, 3] rfl) (hD.sub [0, 1, 2, 3] rfl rfl)
  · refine lv_nmi c_1 ?_
    refine lv_tableIn (off := 79) (tgt := 80) hx hb dX6_count_1 (by decide) (by decide) (by decide) (by decide) ?_
    refine lv_aload_n hx hb dX6_count_80 rfl (lv_at hl 0 rfl) ?_
    refine va_get (D := D) (ci := 6) (v := .ref fg) (C := RX6) (T := TX6) (N := 10) hx hb hts iT_X6 hown hK1 hP 0 rfl rfl 2 (by decide) (hts _ t_156) (fun _ h9 => h9) rfl dX6_count_81 ?_
    refine xc_i (wc := [(fg, .inr (0, [.ref f1, .ref f2, .ref f3, .int 0, .int 0]))]) (wr := [(h0, .inr (6, [.ref pg, .ref bk, .ref fg, .ref og, .ref lg, .int 0, .int lsv, .int 0, .int 0, .int 0])), (pg, .inr (3, [.ref pc, .int 0])), (bk, .inr (5, [.ref br, .int 0]))]) (xrV (n := 0) (As := []) (rest := []) (ci := 0) (q0 := 3) hd hK hP hD (c_X0_openEdges l D cI cJ cZ cR _ fg f1 f2 f3 ) (gV t_528 mV_X0_openEdges) hV_X0_openEdges ⟨(Nat.le_of_ble_eq_true rfl), (Nat.le_of_ble_eq_true rfl)⟩ rfl rfl [3] rfl rfl rfl hl.1 rfl (Nat.le_of_ble_eq_true rfl) dX6_count_84 ⟨(Nat.le_of_ble_eq_true rfl), (Nat.le_of_ble_eq_true rfl)⟩) hP hD hS hA [3] [0, 1, 2] rfl rfl rfl (by decide) (fun r_2 u_3 H locs hw_4 hP hD hS => ?_)
    have hw_5 : r_2 = 0 := hw_4
    subst hw_5
    have hP : va_P D vwCl [(h0, .inr (6, [.ref pg, .ref bk, .ref fg, .ref og, .ref lg, .int 0, .int lsv, .int 0, .int 0, .int 0])), (pg, .inr (3, [.ref pc, .int 0])), (bk, .inr (5, [.ref br, .int 0])), (fg, .inr (0, [.ref f1, .ref f2, .ref f3, .int 0, .int 0]))] H := hP
    have hD : va_D A [(h0, .inr (6, [.ref pg, .ref bk, .ref fg, .ref og, .ref lg, .int 0, .int lsv, .int 0, .int 0, .int 0])), (pg, .inr (3, [.ref pc, .int 0])), (bk, .inr (5, [.ref br, .int 0])), (fg, .inr (0, [.ref f1, .ref f2, .ref f3, .int 0, .int 0]))] := hD
    exact hret _ _ _ _ _ _ 0 () dX6_count_87 rfl hS (Nat.le_of_ble_eq_true rfl) (Nat.le_of_ble_eq_true rfl) (cnt0_in c_1 (by decide)) (hP.sub [0, 1, 2, 3] rfl) (hD.sub [0, 1, 2, 3] rfl rfl)
  · refine lv_nmi c_1 ?_
    refine lv_tableIn (off := 87) (tgt := 88) hx hb dX6_count_1 (by decide) (by decide) (by decide) (by decide) ?_
    refine lv_aload_n hx hb dX6_count_88 rfl (lv_at hl 0 rfl) ?_
    refine va_get (D := D) (ci := 6) (v := .int 0) (C := RX6) (T := TX6) (N := 10) hx hb hts iT_X6 hown hK1 hP 0 rfl rfl 7 (by decide) (hts _ t_161) (fun _ h9 => h9) rfl dX6_count_89 ?_
    exact hret _ _ _ _ _ _ 0 () dX6_count_92 rfl hS (Nat.le_of_ble_eq_true rfl) (Nat.le_of_ble_eq_true rfl) (cnt0_in c_1 (by decide)) (hP.sub [0, 1, 2, 3] rfl) (hD.sub [0, 1, 2, 3] rfl rfl)
  · refine lv_nmi c_1 ?_
    refine lv_tableIn (off := 92) (tgt := 93) hx hb dX6_count_1 (by decide) (by decide) (by decide) (by decide) ?_
    refine lv_aload_n hx hb dX6_count_93 rfl (lv_at hl 0 rfl) ?_
    refine va_get (D := D) (ci := 6) (v := .int 0) (C := RX6) (T := TX6) (N := 10) hx hb hts iT_X6 hown hK1 hP 0 rfl rfl 8 (by decide) (hts _ t_162) (fun _ h9 => h9) rfl dX6_count_94 ?_
    exact hret _ _ _ _ _ _ 0 () dX6_count_97 rfl hS (Nat.le_of_ble_eq_true rfl) (Nat.le_of_ble_eq_true rfl) (cnt0_in c_1 (by decide)) (hP.sub [0, 1, 2, 3] rfl) (hD.sub [0, 1, 2, 3] rfl rfl)
  · refine lv_nmi c_1 ?_
    refine lv_tableIn (off := 97) (tgt := 98) hx hb dX6_count_1 (by decide) (by decide) (by decide) (by decide) ?_
    refine lv_aload_n hx hb dX6_count_98 rfl (lv_at hl 0 rfl) ?_
    refine va_get (D := D) (ci := 6) (v := .int 0) (C := RX6) (T := TX6) (N := 10) hx hb hts iT_X6 hown hK1 hP 0 rfl rfl 9 (by decide) (hts _ t_163) (fun _ h9 => h9) rfl dX6_count_99 ?_
    exact hret _ _ _ _ _ _ 0 () dX6_count_102 rfl hS (Nat.le_of_ble_eq_true rfl) (Nat.le_of_ble_eq_true rfl) (cnt0_in c_1 (by decide)) (hP.sub [0, 1, 2, 3] rfl) (hD.sub [0, 1, 2, 3] rfl rfl)
  · refine lv_tableOut (tgt := 103) hx hb dX6_count_1 c_1 (by decide) ?_
    refine lv_sipush (v := -1002) hx hb dX6_count_103 (by decide) ?_
    exact hret _ _ _ _ _ _ (-1002) () dX6_count_106 rfl hS (Nat.le_of_ble_eq_true rfl) (Nat.le_of_ble_eq_true rfl) (cnt0_out c_1) (hP.sub [0, 1, 2, 3] rfl) (hD.sub [0, 1, 2, 3] rfl rfl)
end
end
section
theorem mV_X3_write : Cond.instanceMethod yX3_write ∈ gT ∧ Cond.selects RX3 yX3_write yX3_write ∈ gT ∧ Cond.initialized RX3 ∈ gT ∧ Cond.code yX3_write cX3_write 2 none ∈ gT := ⟨t_190, t_191, t_2, t_192⟩
theorem hV_X3_write : yX3_write.cls = RX3 ∧ yX3_write.cls ≠ "java/lang/invoke/MethodHandle" ∧ yX3_write.cls ≠ "java/lang/invoke/VarHandle" ∧ (parseMethodDescriptor yX3_write.desc).map (fun d => d.parameters.length) = some 1 := by decide +kernel
theorem mV_X6_letter : Cond.instanceMethod yX6_letter ∈ gT ∧ Cond.selects RX6 yX6_letter yX6_letter ∈ gT ∧ Cond.initialized RX6 ∈ gT ∧ Cond.code yX6_letter cX6_letter 2 (some .int) ∈ gT := ⟨t_186, t_187, t_1, t_188⟩
theorem hV_X6_letter : yX6_letter.cls = RX6 ∧ yX6_letter.cls ≠ "java/lang/invoke/MethodHandle" ∧ yX6_letter.cls ≠ "java/lang/invoke/VarHandle" ∧ (parseMethodDescriptor yX6_letter.desc).map (fun d => d.parameters.length) = some 1 := by decide +kernel
theorem mV_X6_blank : Cond.instanceMethod yX6_blank ∈ gT ∧ Cond.selects RX6 yX6_blank yX6_blank ∈ gT ∧ Cond.initialized RX6 ∈ gT ∧ Cond.code yX6_blank cX6_blank 2 (some .int) ∈ gT := ⟨t_194, t_195, t_1, t_196⟩
theorem hV_X6_blank : yX6_blank.cls = RX6 ∧ yX6_blank.cls ≠ "java/lang/invoke/MethodHandle" ∧ yX6_blank.cls ≠ "java/lang/invoke/VarHandle" ∧ (parseMethodDescriptor yX6_blank.desc).map (fun d => d.parameters.length) = some 0 := by decide +kernel
theorem mV_X3_firstFault : Cond.instanceMethod yX3_firstFault ∈ gT ∧ Cond.selects RX3 yX3_firstFault yX3_firstFault ∈ gT ∧ Cond.initialized RX3 ∈ gT ∧ Cond.code yX3_firstFault cX3_firstFault 6 (some .int) ∈ gT := ⟨t_206, t_207, t_2, t_208⟩
theorem hV_X3_firstFault : yX3_firstFault.cls = RX3 ∧ yX3_firstFault.cls ≠ "java/lang/invoke/MethodHandle" ∧ yX3_firstFault.cls ≠ "java/lang/invoke/VarHandle" ∧ (parseMethodDescriptor yX3_firstFault.desc).map (fun d => d.parameters.length) = some 1 := by decide +kernel
theorem mV_X6_fault : Cond.instanceMethod yX6_fault ∈ gT ∧ Cond.selects RX6 yX6_fault yX6_fault ∈ gT ∧ Cond.initialized RX6 ∈ gT ∧ Cond.code yX6_fault cX6_fault 2 (some .int) ∈ gT := ⟨t_202, t_203, t_1, t_204⟩
theorem hV_X6_fault : yX6_fault.cls = RX6 ∧ yX6_fault.cls ≠ "java/lang/invoke/MethodHandle" ∧ yX6_fault.cls ≠ "java/lang/invoke/VarHandle" ∧ (parseMethodDescriptor yX6_fault.desc).map (fun d => d.parameters.length) = some 1 := by decide +kernel
theorem mV_X3_isWhole : Cond.instanceMethod yX3_isWhole ∈ gT ∧ Cond.selects RX3 yX3_isWhole yX3_isWhole ∈ gT ∧ Cond.initialized RX3 ∈ gT ∧ Cond.code yX3_isWhole cX3_isWhole 2 (some .boolean) ∈ gT := ⟨t_233, ts_2, t_2, t_234⟩
theorem hV_X3_isWhole : yX3_isWhole.cls = RX3 ∧ yX3_isWhole.cls ≠ "java/lang/invoke/MethodHandle" ∧ yX3_isWhole.cls ≠ "java/lang/invoke/VarHandle" ∧ (parseMethodDescriptor yX3_isWhole.desc).map (fun d => d.parameters.length) = some 1 := by decide +kernel
theorem mV_X3_isRule : Cond.instanceMethod yX3_isRule ∈ gT ∧ Cond.selects RX3 yX3_isRule yX3_isRule ∈ gT ∧ Cond.initialized RX3 ∈ gT ∧ Cond.code yX3_isRule cX3_isRule 1 (some .boolean) ∈ gT := ⟨t_228, t_229, t_2, t_230⟩
theorem hV_X3_isRule : yX3_isRule.cls = RX3 ∧ yX3_isRule.cls ≠ "java/lang/invoke/MethodHandle" ∧ yX3_isRule.cls ≠ "java/lang/invoke/VarHandle" ∧ (parseMethodDescriptor yX3_isRule.desc).map (fun d => d.parameters.length) = some 0 := by decide +kernel
theorem mV_X3_isGraph : Cond.instanceMethod yX3_isGraph ∈ gT ∧ Cond.selects RX3 yX3_isGraph yX3_isGraph ∈ gT ∧ Cond.initialized RX3 ∈ gT ∧ Cond.code yX3_isGraph cX3_isGraph 1 (some .boolean) ∈ gT := ⟨t_317, t_318, t_2, t_319⟩
theorem hV_X3_isGraph : yX3_isGraph.cls = RX3 ∧ yX3_isGraph.cls ≠ "java/lang/invoke/MethodHandle" ∧ yX3_isGraph.cls ≠ "java/lang/invoke/VarHandle" ∧ (parseMethodDescriptor yX3_isGraph.desc).map (fun d => d.parameters.length) = some 0 := by decide +kernel
theorem mV_X6_rule : Cond.instanceMethod yX6_rule ∈ gT ∧ Cond.selects RX6 yX6_rule yX6_rule ∈ gT ∧ Cond.initialized RX6 ∈ gT ∧ Cond.code yX6_rule cX6_rule 1 (some .int) ∈ gT := ⟨t_224, t_225, t_1, t_226⟩
theorem hV_X6_rule : yX6_rule.cls = RX6 ∧ yX6_rule.cls ≠ "java/lang/invoke/MethodHandle" ∧ yX6_rule.cls ≠ "java/lang/invoke/VarHandle" ∧ (parseMethodDescriptor yX6_rule.desc).map (fun d => d.parameters.length) = some 0 := by decide +kernel
theorem mV_X6_graph : Cond.instanceMethod yX6_graph ∈ gT ∧ Cond.selects RX6 yX6_graph yX6_graph ∈ gT ∧ Cond.initialized RX6 ∈ gT ∧ Cond.code yX6_graph cX6_graph 1 (some .int) ∈ gT := ⟨t_313, t_314, t_1, t_315⟩
theorem hV_X6_graph : yX6_graph.cls = RX6 ∧ yX6_graph.cls ≠ "java/lang/invoke/MethodHandle" ∧ yX6_graph.cls ≠ "java/lang/invoke/VarHandle" ∧ (parseMethodDescriptor yX6_graph.desc).map (fun d => d.parameters.length) = some 0 := by decide +kernel
theorem mV_X6_drop : Cond.instanceMethod yX6_drop ∈ gT ∧ Cond.selects RX6 yX6_drop yX6_drop ∈ gT ∧ Cond.initialized RX6 ∈ gT ∧ Cond.code yX6_drop cX6_drop 2 (some .int) ∈ gT := ⟨t_300, t_301, t_1, t_302⟩
theorem hV_X6_drop : yX6_drop.cls = RX6 ∧ yX6_drop.cls ≠ "java/lang/invoke/MethodHandle" ∧ yX6_drop.cls ≠ "java/lang/invoke/VarHandle" ∧ (parseMethodDescriptor yX6_drop.desc).map (fun d => d.parameters.length) = some 1 := by decide +kernel
theorem mV_X6_of : Cond.instanceMethod yX6_of ∈ gT ∧ Cond.selects RX6 yX6_of yX6_of ∈ gT ∧ Cond.initialized RX6 ∈ gT ∧ Cond.code yX6_of cX6_of 4 (some .int) ∈ gT := ⟨t_329, t_330, t_1, t_331⟩
theorem hV_X6_of : yX6_of.cls = RX6 ∧ yX6_of.cls ≠ "java/lang/invoke/MethodHandle" ∧ yX6_of.cls ≠ "java/lang/invoke/VarHandle" ∧ (parseMethodDescriptor yX6_of.desc).map (fun d => d.parameters.length) = some 2 := by decide +kernel
theorem mV_X6_step : Cond.instanceMethod yX6_step ∈ gT ∧ Cond.selects RX6 yX6_step yX6_step ∈ gT ∧ Cond.initialized RX6 ∈ gT ∧ Cond.code yX6_step cX6_step 4 (some .int) ∈ gT := ⟨t_345, t_346, t_1, t_347⟩
theorem hV_X6_step : yX6_step.cls = RX6 ∧ yX6_step.cls ≠ "java/lang/invoke/MethodHandle" ∧ yX6_step.cls ≠ "java/lang/invoke/VarHandle" ∧ (parseMethodDescriptor yX6_step.desc).map (fun d => d.parameters.length) = some 2 := by decide +kernel
theorem mV_X6_edge : Cond.instanceMethod yX6_edge ∈ gT ∧ Cond.selects RX6 yX6_edge yX6_edge ∈ gT ∧ Cond.initialized RX6 ∈ gT ∧ Cond.code yX6_edge cX6_edge 2 (some .int) ∈ gT := ⟨t_358, t_359, t_1, t_360⟩
theorem hV_X6_edge : yX6_edge.cls = RX6 ∧ yX6_edge.cls ≠ "java/lang/invoke/MethodHandle" ∧ yX6_edge.cls ≠ "java/lang/invoke/VarHandle" ∧ (parseMethodDescriptor yX6_edge.desc).map (fun d => d.parameters.length) = some 1 := by decide +kernel
theorem mV_X0_put : Cond.instanceMethod yX0_put ∈ gT ∧ Cond.selects RX0 yX0_put yX0_put ∈ gT ∧ Cond.initialized RX0 ∈ gT ∧ Cond.code yX0_put cX0_put 5 none ∈ gT := ⟨t_277, ts_6, t_5, t_278⟩
theorem hV_X0_put : yX0_put.cls = RX0 ∧ yX0_put.cls ≠ "java/lang/invoke/MethodHandle" ∧ yX0_put.cls ≠ "java/lang/invoke/VarHandle" ∧ (parseMethodDescriptor yX0_put.desc).map (fun d => d.parameters.length) = some 4 := by decide +kernel
theorem mV_X0_append : Cond.instanceMethod yX0_append ∈ gT ∧ Cond.selects RX0 yX0_append yX0_append ∈ gT ∧ Cond.initialized RX0 ∈ gT ∧ Cond.code yX0_append cX0_append 4 none ∈ gT := ⟨t_272, t_273, t_5, t_274⟩
theorem hV_X0_append : yX0_append.cls = RX0 ∧ yX0_append.cls ≠ "java/lang/invoke/MethodHandle" ∧ yX0_append.cls ≠ "java/lang/invoke/VarHandle" ∧ (parseMethodDescriptor yX0_append.desc).map (fun d => d.parameters.length) = some 3 := by decide +kernel
theorem mV_X6_noteNewGraph : Cond.instanceMethod yX6_noteNewGraph ∈ gT ∧ Cond.selects RX6 yX6_noteNewGraph yX6_noteNewGraph ∈ gT ∧ Cond.initialized RX6 ∈ gT ∧ Cond.code yX6_noteNewGraph cX6_noteNewGraph 1 none ∈ gT := ⟨t_326, ts_9, t_1, t_327⟩
theorem hV_X6_noteNewGraph : yX6_noteNewGraph.cls = RX6 ∧ yX6_noteNewGraph.cls ≠ "java/lang/invoke/MethodHandle" ∧ yX6_noteNewGraph.cls ≠ "java/lang/invoke/VarHandle" ∧ (parseMethodDescriptor yX6_noteNewGraph.desc).map (fun d => d.parameters.length) = some 0 := by decide +kernel
theorem mV_X6_begin : Cond.instanceMethod yX6_begin ∈ gT ∧ Cond.selects RX6 yX6_begin yX6_begin ∈ gT ∧ Cond.initialized RX6 ∈ gT ∧ Cond.code yX6_begin cX6_begin 2 (some .int) ∈ gT := ⟨t_338, t_339, t_1, t_340⟩
theorem hV_X6_begin : yX6_begin.cls = RX6 ∧ yX6_begin.cls ≠ "java/lang/invoke/MethodHandle" ∧ yX6_begin.cls ≠ "java/lang/invoke/VarHandle" ∧ (parseMethodDescriptor yX6_begin.desc).map (fun d => d.parameters.length) = some 1 := by decide +kernel
theorem dX0_append_0 : decode cX0_append 0 = .ok (.aload_n 0, 1) := by decide +kernel
theorem dX0_append_1 : decode cX0_append 1 = .ok (.getfield 9, 3) := by decide +kernel
theorem dX0_append_4 : decode cX0_append 4 = .ok (.aload_n 0, 1) := by decide +kernel
theorem dX0_append_5 : decode cX0_append 5 = .ok (.getfield 18, 3) := by decide +kernel
theorem dX0_append_8 : decode cX0_append 8 = .ok (.arraylength, 1) := by decide +kernel
theorem dX0_append_9 : decode cX0_append 9 = .ok (.if_icmp .ge 24, 3) := by decide +kernel
theorem dX0_append_12 : decode cX0_append 12 = .ok (.aload_n 0, 1) := by decide +kernel
theorem dX0_append_13 : decode cX0_append 13 = .ok (.aload_n 0, 1) := by decide +kernel
theorem dX0_append_14 : decode cX0_append 14 = .ok (.getfield 9, 3) := by decide +kernel
theorem dX0_append_17 : decode cX0_append 17 = .ok (.iload_n 1, 1) := by decide +kernel
theorem dX0_append_18 : decode cX0_append 18 = .ok (.iload_n 2, 1) := by decide +kernel
theorem dX0_append_19 : decode cX0_append 19 = .ok (.iload_n 3, 1) := by decide +kernel
theorem dX0_append_20 : decode cX0_append 20 = .ok (.invokevirtual 28, 3) := by decide +kernel
theorem dX0_append_23 : decode cX0_append 23 = .ok (.aload_n 0, 1) := by decide +kernel
theorem dX0_append_24 : decode cX0_append 24 = .ok (.dup, 1) := by decide +kernel
theorem dX0_append_25 : decode cX0_append 25 = .ok (.getfield 9, 3) := by decide +kernel
theorem dX0_append_28 : decode cX0_append 28 = .ok (.iconst 1, 1) := by decide +kernel
theorem dX0_append_29 : decode cX0_append 29 = .ok (.iadd, 1) := by decide +kernel
theorem dX0_append_30 : decode cX0_append 30 = .ok (.putfield 9, 3) := by decide +kernel
theorem dX0_append_33 : decode cX0_append 33 = .ok (.return_, 1) := by decide +kernel
theorem dX0_put_0 : decode cX0_put 0 = .ok (.aload_n 0, 1) := by decide +kernel
theorem dX0_put_1 : decode cX0_put 1 = .ok (.getfield 18, 3) := by decide +kernel
theorem dX0_put_4 : decode cX0_put 4 = .ok (.iload_n 1, 1) := by decide +kernel
theorem dX0_put_5 : decode cX0_put 5 = .ok (.iload_n 2, 1) := by decide +kernel
theorem dX0_put_6 : decode cX0_put 6 = .ok (.iastore, 1) := by decide +kernel
theorem dX0_put_7 : decode cX0_put 7 = .ok (.aload_n 0, 1) := by decide +kernel
theorem dX0_put_8 : decode cX0_put 8 = .ok (.getfield 22, 3) := by decide +kernel
theorem dX0_put_11 : decode cX0_put 11 = .ok (.iload_n 1, 1) := by decide +kernel
theorem dX0_put_12 : decode cX0_put 12 = .ok (.iload_n 3, 1) := by decide +kernel
theorem dX0_put_13 : decode cX0_put 13 = .ok (.iastore, 1) := by decide +kernel
theorem dX0_put_14 : decode cX0_put 14 = .ok (.aload_n 0, 1) := by decide +kernel
theorem dX0_put_15 : decode cX0_put 15 = .ok (.getfield 25, 3) := by decide +kernel
theorem dX0_put_18 : decode cX0_put 18 = .ok (.iload_n 1, 1) := by decide +kernel
theorem dX0_put_19 : decode cX0_put 19 = .ok (.iload 4, 2) := by decide +kernel
theorem dX0_put_21 : decode cX0_put 21 = .ok (.iastore, 1) := by decide +kernel
theorem dX0_put_22 : decode cX0_put 22 = .ok (.return_, 1) := by decide +kernel
theorem dX3_firstFault_0 : decode cX3_firstFault 0 = .ok (.iload_n 1, 1) := by decide +kernel
theorem dX3_firstFault_1 : decode cX3_firstFault 1 = .ok (.ifCond .eq 7, 3) := by decide +kernel
theorem dX3_firstFault_4 : decode cX3_firstFault 4 = .ok (.iconst 0, 1) := by decide +kernel
theorem dX3_firstFault_5 : decode cX3_firstFault 5 = .ok (.goto 4, 3) := by decide +kernel
theorem dX3_firstFault_8 : decode cX3_firstFault 8 = .ok (.iconst 2, 1) := by decide +kernel
theorem dX3_firstFault_9 : decode cX3_firstFault 9 = .ok (.istore_n 2, 1) := by decide +kernel
theorem dX3_firstFault_10 : decode cX3_firstFault 10 = .ok (.iload_n 2, 1) := by decide +kernel
theorem dX3_firstFault_11 : decode cX3_firstFault 11 = .ok (.iconst 3, 1) := by decide +kernel
theorem dX3_firstFault_12 : decode cX3_firstFault 12 = .ok (.iload_n 1, 1) := by decide +kernel
theorem dX3_firstFault_13 : decode cX3_firstFault 13 = .ok (.ifCond .eq 7, 3) := by decide +kernel
theorem dX3_firstFault_16 : decode cX3_firstFault 16 = .ok (.iconst 5, 1) := by decide +kernel
theorem dX3_firstFault_17 : decode cX3_firstFault 17 = .ok (.goto 4, 3) := by decide +kernel
theorem dX3_firstFault_20 : decode cX3_firstFault 20 = .ok (.iconst 3, 1) := by decide +kernel
theorem dX3_firstFault_21 : decode cX3_firstFault 21 = .ok (.imul, 1) := by decide +kernel
theorem dX3_firstFault_22 : decode cX3_firstFault 22 = .ok (.iadd, 1) := by decide +kernel
theorem dX3_firstFault_23 : decode cX3_firstFault 23 = .ok (.istore_n 3, 1) := by decide +kernel
theorem dX3_firstFault_24 : decode cX3_firstFault 24 = .ok (.iconst 0, 1) := by decide +kernel
theorem dX3_firstFault_25 : decode cX3_firstFault 25 = .ok (.istore 4, 2) := by decide +kernel
theorem dX3_firstFault_27 : decode cX3_firstFault 27 = .ok (.iload 4, 2) := by decide +kernel
theorem dX3_firstFault_29 : decode cX3_firstFault 29 = .ok (.aload_n 0, 1) := by decide +kernel
theorem dX3_firstFault_30 : decode cX3_firstFault 30 = .ok (.getfield 15, 3) := by decide +kernel
theorem dX3_firstFault_33 : decode cX3_firstFault 33 = .ok (.if_icmp .ge 53, 3) := by decide +kernel
theorem dX3_firstFault_86 : decode cX3_firstFault 86 = .ok (.aload_n 0, 1) := by decide +kernel
theorem dX3_firstFault_87 : decode cX3_firstFault 87 = .ok (.getfield 15, 3) := by decide +kernel
theorem dX3_firstFault_90 : decode cX3_firstFault 90 = .ok (.ireturn, 1) := by decide +kernel
theorem dX3_isGraph_0 : decode cX3_isGraph 0 = .ok (.aload_n 0, 1) := by decide +kernel
theorem dX3_isGraph_1 : decode cX3_isGraph 1 = .ok (.iconst 0, 1) := by decide +kernel
theorem dX3_isGraph_2 : decode cX3_isGraph 2 = .ok (.invokevirtual 34, 3) := by decide +kernel
theorem dX3_isGraph_5 : decode cX3_isGraph 5 = .ok (.ifCond .eq 26, 3) := by decide +kernel
theorem dX3_isGraph_31 : decode cX3_isGraph 31 = .ok (.iconst 0, 1) := by decide +kernel
theorem dX3_isGraph_32 : decode cX3_isGraph 32 = .ok (.ireturn, 1) := by decide +kernel
theorem dX3_isRule_0 : decode cX3_isRule 0 = .ok (.aload_n 0, 1) := by decide +kernel
theorem dX3_isRule_1 : decode cX3_isRule 1 = .ok (.iconst 2, 1) := by decide +kernel
theorem dX3_isRule_2 : decode cX3_isRule 2 = .ok (.invokevirtual 34, 3) := by decide +kernel
theorem dX3_isRule_5 : decode cX3_isRule 5 = .ok (.ifCond .eq 42, 3) := by decide +kernel
theorem dX3_isRule_47 : decode cX3_isRule 47 = .ok (.iconst 0, 1) := by decide +kernel
theorem dX3_isRule_48 : decode cX3_isRule 48 = .ok (.ireturn, 1) := by decide +kernel
theorem dX3_isWhole_0 : decode cX3_isWhole 0 = .ok (.aload_n 0, 1) := by decide +kernel
theorem dX3_isWhole_1 : decode cX3_isWhole 1 = .ok (.getfield 15, 3) := by decide +kernel
theorem dX3_isWhole_4 : decode cX3_isWhole 4 = .ok (.iload_n 1, 1) := by decide +kernel
theorem dX3_isWhole_5 : decode cX3_isWhole 5 = .ok (.if_icmp .le 18, 3) := by decide +kernel
theorem dX3_isWhole_23 : decode cX3_isWhole 23 = .ok (.iconst 0, 1) := by decide +kernel
theorem dX3_isWhole_24 : decode cX3_isWhole 24 = .ok (.ireturn, 1) := by decide +kernel
theorem dX3_write_0 : decode cX3_write 0 = .ok (.aload_n 0, 1) := by decide +kernel
theorem dX3_write_1 : decode cX3_write 1 = .ok (.getfield 15, 3) := by decide +kernel
theorem dX3_write_4 : decode cX3_write 4 = .ok (.aload_n 0, 1) := by decide +kernel
theorem dX3_write_5 : decode cX3_write 5 = .ok (.getfield 9, 3) := by decide +kernel
theorem dX3_write_8 : decode cX3_write 8 = .ok (.arraylength, 1) := by decide +kernel
theorem dX3_write_9 : decode cX3_write 9 = .ok (.if_icmp .ge 23, 3) := by decide +kernel
theorem dX3_write_12 : decode cX3_write 12 = .ok (.aload_n 0, 1) := by decide +kernel
theorem dX3_write_13 : decode cX3_write 13 = .ok (.getfield 9, 3) := by decide +kernel
theorem dX3_write_16 : decode cX3_write 16 = .ok (.aload_n 0, 1) := by decide +kernel
theorem dX3_write_17 : decode cX3_write 17 = .ok (.getfield 15, 3) := by decide +kernel
theorem dX3_write_20 : decode cX3_write 20 = .ok (.iload_n 1, 1) := by decide +kernel
theorem dX3_write_21 : decode cX3_write 21 = .ok (.iastore, 1) := by decide +kernel
theorem dX3_write_22 : decode cX3_write 22 = .ok (.aload_n 0, 1) := by decide +kernel
theorem dX3_write_23 : decode cX3_write 23 = .ok (.dup, 1) := by decide +kernel
theorem dX3_write_24 : decode cX3_write 24 = .ok (.getfield 15, 3) := by decide +kernel
theorem dX3_write_27 : decode cX3_write 27 = .ok (.iconst 1, 1) := by decide +kernel
theorem dX3_write_28 : decode cX3_write 28 = .ok (.iadd, 1) := by decide +kernel
theorem dX3_write_29 : decode cX3_write 29 = .ok (.putfield 15, 3) := by decide +kernel
theorem dX3_write_32 : decode cX3_write 32 = .ok (.return_, 1) := by decide +kernel
theorem dX6_begin_0 : decode cX6_begin 0 = .ok (.iload_n 1, 1) := by decide +kernel
theorem dX6_begin_1 : decode cX6_begin 1 = .ok (.invokestatic 123, 3) := by decide +kernel
theorem dX6_begin_4 : decode cX6_begin 4 = .ok (.ifCond .ne 7, 3) := by decide +kernel
theorem dX6_begin_7 : decode cX6_begin 7 = .ok (.sipush (-1001), 3) := by decide +kernel
theorem dX6_begin_10 : decode cX6_begin 10 = .ok (.ireturn, 1) := by decide +kernel
theorem dX6_begin_11 : decode cX6_begin 11 = .ok (.aload_n 0, 1) := by decide +kernel
theorem dX6_begin_12 : decode cX6_begin 12 = .ok (.getfield 28, 3) := by decide +kernel
theorem dX6_begin_15 : decode cX6_begin 15 = .ok (.iconst 2, 1) := by decide +kernel
theorem dX6_begin_16 : decode cX6_begin 16 = .ok (.invokevirtual 126, 3) := by decide +kernel
theorem dX6_begin_19 : decode cX6_begin 19 = .ok (.aload_n 0, 1) := by decide +kernel
theorem dX6_begin_20 : decode cX6_begin 20 = .ok (.getfield 28, 3) := by decide +kernel
theorem dX6_begin_23 : decode cX6_begin 23 = .ok (.iload_n 1, 1) := by decide +kernel
theorem dX6_begin_24 : decode cX6_begin 24 = .ok (.iconst 0, 1) := by decide +kernel
theorem dX6_begin_25 : decode cX6_begin 25 = .ok (.iconst 1, 1) := by decide +kernel
theorem dX6_begin_26 : decode cX6_begin 26 = .ok (.invokevirtual 128, 3) := by decide +kernel
theorem dX6_begin_29 : decode cX6_begin 29 = .ok (.aload_n 0, 1) := by decide +kernel
theorem dX6_begin_30 : decode cX6_begin 30 = .ok (.invokevirtual 99, 3) := by decide +kernel
theorem dX6_begin_33 : decode cX6_begin 33 = .ok (.aload_n 0, 1) := by decide +kernel
theorem dX6_begin_34 : decode cX6_begin 34 = .ok (.getfield 28, 3) := by decide +kernel
theorem dX6_begin_37 : decode cX6_begin 37 = .ok (.getfield 102, 3) := by decide +kernel
theorem dX6_begin_40 : decode cX6_begin 40 = .ok (.ireturn, 1) := by decide +kernel
theorem dX6_blank_0 : decode cX6_blank 0 = .ok (.aload_n 0, 1) := by decide +kernel
theorem dX6_blank_1 : decode cX6_blank 1 = .ok (.getfield 10, 3) := by decide +kernel
theorem dX6_blank_4 : decode cX6_blank 4 = .ok (.getfield 63, 3) := by decide +kernel
theorem dX6_blank_7 : decode cX6_blank 7 = .ok (.istore_n 1, 1) := by decide +kernel
theorem dX6_blank_8 : decode cX6_blank 8 = .ok (.aload_n 0, 1) := by decide +kernel
theorem dX6_blank_9 : decode cX6_blank 9 = .ok (.getfield 10, 3) := by decide +kernel
theorem dX6_blank_12 : decode cX6_blank 12 = .ok (.invokevirtual 69, 3) := by decide +kernel
theorem dX6_blank_15 : decode cX6_blank 15 = .ok (.iload_n 1, 1) := by decide +kernel
theorem dX6_blank_16 : decode cX6_blank 16 = .ok (.ireturn, 1) := by decide +kernel
theorem dX6_drop_0 : decode cX6_drop 0 = .ok (.aload_n 0, 1) := by decide +kernel
theorem dX6_drop_1 : decode cX6_drop 1 = .ok (.getfield 19, 3) := by decide +kernel
theorem dX6_drop_4 : decode cX6_drop 4 = .ok (.iload_n 1, 1) := by decide +kernel
theorem dX6_drop_5 : decode cX6_drop 5 = .ok (.invokevirtual 85, 3) := by decide +kernel
theorem dX6_drop_8 : decode cX6_drop 8 = .ok (.ifCond .ne 7, 3) := by decide +kernel
theorem dX6_drop_11 : decode cX6_drop 11 = .ok (.sipush (-1001), 3) := by decide +kernel
theorem dX6_drop_14 : decode cX6_drop 14 = .ok (.ireturn, 1) := by decide +kernel
theorem dX6_edge_0 : decode cX6_edge 0 = .ok (.aload_n 0, 1) := by decide +kernel
theorem dX6_edge_1 : decode cX6_edge 1 = .ok (.getfield 28, 3) := by decide +kernel
theorem dX6_edge_4 : decode cX6_edge 4 = .ok (.iload_n 1, 1) := by decide +kernel
theorem dX6_edge_5 : decode cX6_edge 5 = .ok (.invokevirtual 118, 3) := by decide +kernel
theorem dX6_edge_8 : decode cX6_edge 8 = .ok (.ifCond .eq 14, 3) := by decide +kernel
theorem dX6_edge_22 : decode cX6_edge 22 = .ok (.sipush (-1001), 3) := by decide +kernel
theorem dX6_edge_25 : decode cX6_edge 25 = .ok (.ireturn, 1) := by decide +kernel
theorem dX6_fault_0 : decode cX6_fault 0 = .ok (.aload_n 0, 1) := by decide +kernel
theorem dX6_fault_1 : decode cX6_fault 1 = .ok (.getfield 10, 3) := by decide +kernel
theorem dX6_fault_4 : decode cX6_fault 4 = .ok (.iload_n 1, 1) := by decide +kernel
theorem dX6_fault_5 : decode cX6_fault 5 = .ok (.invokevirtual 72, 3) := by decide +kernel
theorem dX6_fault_8 : decode cX6_fault 8 = .ok (.ireturn, 1) := by decide +kernel
theorem dX6_graph_0 : decode cX6_graph 0 = .ok (.aload_n 0, 1) := by decide +kernel
theorem dX6_graph_1 : decode cX6_graph 1 = .ok (.getfield 10, 3) := by decide +kernel
theorem dX6_graph_4 : decode cX6_graph 4 = .ok (.invokevirtual 92, 3) := by decide +kernel
theorem dX6_graph_7 : decode cX6_graph 7 = .ok (.ifCond .ne 7, 3) := by decide +kernel
theorem dX6_graph_10 : decode cX6_graph 10 = .ok (.sipush (-1003), 3) := by decide +kernel
theorem dX6_graph_13 : decode cX6_graph 13 = .ok (.ireturn, 1) := by decide +kernel
theorem dX6_letter_0 : decode cX6_letter 0 = .ok (.iload_n 1, 1) := by decide +kernel
theorem dX6_letter_1 : decode cX6_letter 1 = .ok (.bipush 32, 2) := by decide +kernel
theorem dX6_letter_3 : decode cX6_letter 3 = .ok (.if_icmp .lt 9, 3) := by decide +kernel
theorem dX6_letter_6 : decode cX6_letter 6 = .ok (.iload_n 1, 1) := by decide +kernel
theorem dX6_letter_7 : decode cX6_letter 7 = .ok (.bipush 126, 2) := by decide +kernel
theorem dX6_letter_9 : decode cX6_letter 9 = .ok (.if_icmp .le 7, 3) := by decide +kernel
theorem dX6_letter_12 : decode cX6_letter 12 = .ok (.sipush (-1002), 3) := by decide +kernel
theorem dX6_letter_15 : decode cX6_letter 15 = .ok (.ireturn, 1) := by decide +kernel
theorem dX6_letter_16 : decode cX6_letter 16 = .ok (.aload_n 0, 1) := by decide +kernel
theorem dX6_letter_17 : decode cX6_letter 17 = .ok (.getfield 10, 3) := by decide +kernel
theorem dX6_letter_20 : decode cX6_letter 20 = .ok (.getfield 63, 3) := by decide +kernel
theorem dX6_letter_23 : decode cX6_letter 23 = .ok (.bipush 16, 2) := by decide +kernel
theorem dX6_letter_25 : decode cX6_letter 25 = .ok (.if_icmp .lt 7, 3) := by decide +kernel
theorem dX6_letter_32 : decode cX6_letter 32 = .ok (.aload_n 0, 1) := by decide +kernel
theorem dX6_letter_33 : decode cX6_letter 33 = .ok (.getfield 10, 3) := by decide +kernel
theorem dX6_letter_36 : decode cX6_letter 36 = .ok (.iload_n 1, 1) := by decide +kernel
theorem dX6_letter_37 : decode cX6_letter 37 = .ok (.invokevirtual 66, 3) := by decide +kernel
theorem dX6_letter_40 : decode cX6_letter 40 = .ok (.aload_n 0, 1) := by decide +kernel
theorem dX6_letter_41 : decode cX6_letter 41 = .ok (.getfield 10, 3) := by decide +kernel
theorem dX6_letter_44 : decode cX6_letter 44 = .ok (.getfield 63, 3) := by decide +kernel
theorem dX6_letter_47 : decode cX6_letter 47 = .ok (.ireturn, 1) := by decide +kernel
theorem dX6_noteNewGraph_0 : decode cX6_noteNewGraph 0 = .ok (.aload_n 0, 1) := by decide +kernel
theorem dX6_noteNewGraph_1 : decode cX6_noteNewGraph 1 = .ok (.iconst 0, 1) := by decide +kernel
theorem dX6_noteNewGraph_2 : decode cX6_noteNewGraph 2 = .ok (.putfield 46, 3) := by decide +kernel
theorem dX6_noteNewGraph_5 : decode cX6_noteNewGraph 5 = .ok (.aload_n 0, 1) := by decide +kernel
theorem dX6_noteNewGraph_6 : decode cX6_noteNewGraph 6 = .ok (.iconst 0, 1) := by decide +kernel
theorem dX6_noteNewGraph_7 : decode cX6_noteNewGraph 7 = .ok (.putfield 53, 3) := by decide +kernel
theorem dX6_noteNewGraph_10 : decode cX6_noteNewGraph 10 = .ok (.aload_n 0, 1) := by decide +kernel
theorem dX6_noteNewGraph_11 : decode cX6_noteNewGraph 11 = .ok (.dup, 1) := by decide +kernel
theorem dX6_noteNewGraph_12 : decode cX6_noteNewGraph 12 = .ok (.getfield 60, 3) := by decide +kernel
theorem dX6_noteNewGraph_15 : decode cX6_noteNewGraph 15 = .ok (.iconst 1, 1) := by decide +kernel
theorem dX6_noteNewGraph_16 : decode cX6_noteNewGraph 16 = .ok (.iadd, 1) := by decide +kernel
theorem dX6_noteNewGraph_17 : decode cX6_noteNewGraph 17 = .ok (.putfield 60, 3) := by decide +kernel
theorem dX6_noteNewGraph_20 : decode cX6_noteNewGraph 20 = .ok (.return_, 1) := by decide +kernel
theorem dX6_of_0 : decode cX6_of 0 = .ok (.aload_n 0, 1) := by decide +kernel
theorem dX6_of_1 : decode cX6_of 1 = .ok (.getfield 19, 3) := by decide +kernel
theorem dX6_of_4 : decode cX6_of 4 = .ok (.iload_n 1, 1) := by decide +kernel
theorem dX6_of_5 : decode cX6_of 5 = .ok (.invokevirtual 85, 3) := by decide +kernel
theorem dX6_of_8 : decode cX6_of 8 = .ok (.ifCond .ne 7, 3) := by decide +kernel
theorem dX6_of_11 : decode cX6_of 11 = .ok (.sipush (-1001), 3) := by decide +kernel
theorem dX6_of_14 : decode cX6_of 14 = .ok (.ireturn, 1) := by decide +kernel
theorem dX6_rule_0 : decode cX6_rule 0 = .ok (.aload_n 0, 1) := by decide +kernel
theorem dX6_rule_1 : decode cX6_rule 1 = .ok (.getfield 10, 3) := by decide +kernel
theorem dX6_rule_4 : decode cX6_rule 4 = .ok (.invokevirtual 76, 3) := by decide +kernel
theorem dX6_rule_7 : decode cX6_rule 7 = .ok (.ifCond .ne 7, 3) := by decide +kernel
theorem dX6_rule_10 : decode cX6_rule 10 = .ok (.sipush (-1003), 3) := by decide +kernel
theorem dX6_rule_13 : decode cX6_rule 13 = .ok (.ireturn, 1) := by decide +kernel
theorem dX6_step_0 : decode cX6_step 0 = .ok (.aload_n 0, 1) := by decide +kernel
theorem dX6_step_1 : decode cX6_step 1 = .ok (.getfield 28, 3) := by decide +kernel
theorem dX6_step_4 : decode cX6_step 4 = .ok (.iload_n 1, 1) := by decide +kernel
theorem dX6_step_5 : decode cX6_step 5 = .ok (.invokevirtual 118, 3) := by decide +kernel
theorem dX6_step_8 : decode cX6_step 8 = .ok (.ifCond .eq 14, 3) := by decide +kernel
theorem dX6_step_22 : decode cX6_step 22 = .ok (.sipush (-1001), 3) := by decide +kernel
theorem dX6_step_25 : decode cX6_step 25 = .ok (.ireturn, 1) := by decide +kernel
section
variable (l : Launch) (D : va_G) (cI cJ cZ cR : ClassId)
set_option maxHeartbeats 4000000 in
set_option maxRecDepth 100000 in
theorem c_X3_write (sz : Nat) (pg : Nat) (pc : Nat) (p0 : Int32) (fp : Nat → Int32)  : CTv l D cI cJ cZ cR yX3_write cX3_write 2 none 0 0 0 0 sz [.ref pg, .int p0] [(pg, .inr (3, [.ref pc, .int 0])), (pc, .inl (cI, 16, .inl fp))] (fun (u : Unit) => True) (fun (u : Unit) => [(pg, .inr (3, [.ref pc, .int 1])), (pc, .inl (cI, 16, .inl (upd fp 0 p0)))]) := by
  refine CTv.of (by decide) (Nat.le_of_ble_eq_true rfl) rfl ?_
  intro p e s m below meth c A Q ls hd hin hK hsz hP hD hA hS hl hret
  obtain ⟨hx, hb, hml, hown, hts⟩ := id hd
  have hK1 := hK.1
  have hown : s.vm.findClass RX3 = some m.cls := hown
  have hl : lv_has ls 2 [(0, .ref pg), (1, .int p0)] := hl
  refine lv_aload_n hx hb dX3_write_0 rfl (lv_at hl 0 rfl) ?_
  refine va_get (D := D) (ci := 3) (v := .int 0) (C := RX3) (T := TX3) (N := 2) hx hb hts iT_X3 hown hK1 hP 0 rfl rfl 1 (by decide) (hts _ t_28) (fun _ h9 => h9) rfl dX3_write_1 ?_
  refine lv_aload_n hx hb dX3_write_4 rfl (lv_at hl 0 rfl) ?_
  refine va_get (D := D) (ci := 3) (v := .ref pc) (C := RX3) (T := TX3) (N := 2) hx hb hts iT_X3 hown hK1 hP 0 rfl rfl 0 (by decide) (hts _ t_26) (fun _ h9 => h9) rfl dX3_write_5 ?_
  refine va_alen hx hb hK1 hP 1 0 rfl rfl (v := 16) rfl dX3_write_8 ?_
  refine lv_icmp_ge (tgt := 32) hx hb dX3_write_9 (by decide) (fun c_1 => ?_) (fun c_1 => ?_)
  · exact absurd c_1 (by decide)
  refine lv_aload_n hx hb dX3_write_12 rfl (lv_at hl 0 rfl) ?_
  refine va_get (D := D) (ci := 3) (v := .ref pc) (C := RX3) (T := TX3) (N := 2) hx hb hts iT_X3 hown hK1 hP 0 rfl rfl 0 (by decide) (hts _ t_26) (fun _ h9 => h9) rfl dX3_write_13 ?_
  refine lv_aload_n hx hb dX3_write_16 rfl (lv_at hl 0 rfl) ?_
  refine va_get (D := D) (ci := 3) (v := .int 0) (C := RX3) (T := TX3) (N := 2) hx hb hts iT_X3 hown hK1 hP 0 rfl rfl 1 (by decide) (hts _ t_28) (fun _ h9 => h9) rfl dX3_write_17 ?_
  refine lv_iload_n hx hb dX3_write_20 rfl (lv_at hl 1 rfl) ?_
  refine va_iast hx hb hK1 hP hD hS 1 0 rfl rfl (vin (by decide)) dX3_write_21 (fun H locs hP hD hS => ?_)
  have hP : va_P D vwCl [(pg, .inr (3, [.ref pc, .int 0])), (pc, .inl (cI, 16, .inl (upd fp 0 p0)))] H := hP
  have hD : va_D A [(pg, .inr (3, [.ref pc, .int 0])), (pc, .inl (cI, 16, .inl (upd fp 0 p0)))] := hD
  refine lv_aload_n hx hb dX3_write_22 rfl (lv_at hl 0 rfl) ?_
  refine lv_dup hx hb dX3_write_23 rfl ?_
  refine va_get (D := D) (ci := 3) (v := .int 0) (C := RX3) (T := TX3) (N := 2) hx hb hts iT_X3 hown hK1 hP 0 rfl rfl 1 (by decide) (hts _ t_28) (fun _ h9 => h9) rfl dX3_write_24 ?_
  refine lv_iconst (v := 1) hx hb dX3_write_27 (by decide) ?_
  refine lv_iadd hx hb dX3_write_28 ?_
  refine lv_nmi (show _ = (1 : Int32) from by decide +kernel) ?_
  refine va_put (D := D) (ci := 3) (v := .int 1) (ty := .int) (C := RX3) (T := TX3) (N := 2) hx hb hts iT_X3 tyX3 tyX3_ok nmX3 hown hK1 hP hD hS 0 rfl rfl 1 (by decide) (hts _ t_28) (fun _ h9 => h9) rfl (by decide +kernel) rfl rfl (Nat.le_of_ble_eq_true rfl) dX3_write_29 (fun H locs hP hD hS => ?_)
  have hP : va_P D vwCl [(pg, .inr (3, [.ref pc, .int 1])), (pc, .inl (cI, 16, .inl (upd fp 0 p0)))] H := hP
  have hD : va_D A [(pg, .inr (3, [.ref pc, .int 1])), (pc, .inl (cI, 16, .inl (upd fp 0 p0)))] := hD
  exact hret _ _ _ _ _ _ () dX3_write_32 hS (Nat.le_of_ble_eq_true rfl) (Nat.le_of_ble_eq_true rfl) trivial (hP.sub [0, 1] rfl) (hD.sub [0, 1] rfl rfl)
set_option maxHeartbeats 4000000 in
set_option maxRecDepth 100000 in
theorem c_X6_letter (sz : Nat) (h0 : Nat) (pg : Nat) (bk : Nat) (fg : Nat) (og : Nat) (lg : Nat) (pc : Nat) (p0 : Int32)  : CTi l D cI cJ cZ cR yX6_letter cX6_letter 2 (some .int) 1 21 0 0 sz [.ref h0, .int p0] [(h0, .inr (6, [.ref pg, .ref bk, .ref fg, .ref og, .ref lg, .int 0, .int 0, .int 0, .int 0, .int 0])), (pg, .inr (3, [.ref pc, .int 0])), (pc, .inl (cI, 16, .inl (fun _ => 0)))] (fun (r : Int32) (u : Unit) => (r = (if p0 < 32 then -1002 else if p0 ≤ 126 then 1 else -1002))) (fun (u : Unit) => []) := by
  refine CTi.of (ty := .int) (by decide) (Nat.le_of_ble_eq_true rfl) rfl ?_
  intro p e s m below meth c A Q ls hd hin hK hsz hP hD hA hS hl hret
  obtain ⟨hx, hb, hml, hown, hts⟩ := id hd
  have hK1 := hK.1
  have hown : s.vm.findClass RX6 = some m.cls := hown
  have hl : lv_has ls 2 [(0, .ref h0), (1, .int p0)] := hl
  refine lv_iload_n hx hb dX6_letter_0 rfl (lv_at hl 1 rfl) ?_
  refine lv_bipush (v := 32) hx hb dX6_letter_1 (by decide) ?_
  refine lv_icmp_lt (tgt := 12) hx hb dX6_letter_3 (by decide) (fun c_1 => ?_) (fun c_1 => ?_)
  · skip
    refine lv_sipush (v := -1002) hx hb dX6_letter_12 (by decide) ?_
    exact hret _ _ _ _ _ _ (-1002) () dX6_letter_15 rfl hS (Nat.le_of_ble_eq_true rfl) (Nat.le_of_ble_eq_true rfl) (by simp [c_1]) (hP.sub [] rfl) (hD.sub [] rfl rfl)
  · skip
    refine lv_iload_n hx hb dX6_letter_6 rfl (lv_at hl 1 rfl) ?_
    refine lv_bipush (v := 126) hx hb dX6_letter_7 (by decide) ?_
    refine lv_icmp_le (tgt := 16) hx hb dX6_letter_9 (by decide) (fun c_2 => ?_) (fun c_2 => ?_)
    · skip
      refine lv_aload_n hx hb dX6_letter_16 rfl (lv_at hl 0 rfl) ?_
      refine va_get (D := D) (ci := 6) (v := .ref pg) (C := RX6) (T := TX6) (N := 10) hx hb hts iT_X6 hown hK1 hP 0 rfl rfl 0 (by decide) (hts _ t_154) (fun _ h9 => h9) rfl dX6_letter_17 ?_
      refine va_get (D := D) (ci := 3) (v := .int 0) (C := RX3) (T := TX3) (N := 2) hx hb hts iT_X3 hown hK1 hP 1 rfl rfl 1 (by decide) (hts _ t_29) (fun _ h9 => h9) rfl dX6_letter_20 ?_
      refine lv_bipush (v := 16) hx hb dX6_letter_23 (by decide) ?_
      refine lv_icmp_lt (tgt := 32) hx hb dX6_letter_25 (by decide) (fun c_3 => ?_) (fun c_3 => ?_)
      rotate_left
      · exact absurd c_3 (by decide)
      refine lv_aload_n hx hb dX6_letter_32 rfl (lv_at hl 0 rfl) ?_
      refine va_get (D := D) (ci := 6) (v := .ref pg) (C := RX6) (T := TX6) (N := 10) hx hb hts iT_X6 hown hK1 hP 0 rfl rfl 0 (by decide) (hts _ t_154) (fun _ h9 => h9) rfl dX6_letter_33 ?_
      refine lv_iload_n hx hb dX6_letter_36 rfl (lv_at hl 1 rfl) ?_
      refine xc_v (wc := [(pg, .inr (3, [.ref pc, .int 0])), (pc, .inl (cI, 16, .inl (fun _ => 0)))]) (wr := [(h0, .inr (6, [.ref pg, .ref bk, .ref fg, .ref og, .ref lg, .int 0, .int 0, .int 0, .int 0, .int 0]))]) (xrV (n := 1) (As := [.int p0]) (rest := []) (ci := 3) (q0 := 1) hd hK hP hD (c_X3_write l D cI cJ cZ cR _ pg pc p0 (fun _ => 0) ) (gV t_189 mV_X3_write) hV_X3_write ⟨(Nat.le_of_ble_eq_true rfl), (Nat.le_of_ble_eq_true rfl)⟩ rfl rfl [1, 2] rfl rfl rfl hl.1 rfl (Nat.le_of_ble_eq_true rfl) dX6_letter_37 ⟨(Nat.le_of_ble_eq_true rfl), (Nat.le_of_ble_eq_true rfl)⟩) hP hD hS hA [1, 2] [0] rfl rfl rfl (by decide) (fun u_5 H locs hw_6 hP hD hS => ?_)
      have hP : va_P D vwCl [(h0, .inr (6, [.ref pg, .ref bk, .ref fg, .ref og, .ref lg, .int 0, .int 0, .int 0, .int 0, .int 0])), (pg, .inr (3, [.ref pc, .int 1])), (pc, .inl (cI, 16, .inl (upd (fun _ => 0) 0 p0)))] H := hP
      have hD : va_D A [(h0, .inr (6, [.ref pg, .ref bk, .ref fg, .ref og, .ref lg, .int 0, .int 0, .int 0, .int 0, .int 0])), (pg, .inr (3, [.ref pc, .int 1])), (pc, .inl (cI, 16, .inl (upd (fun _ => 0) 0 p0)))] := hD
      refine lv_aload_n hx hb dX6_letter_40 rfl (lv_at hl 0 rfl) ?_
      refine va_get (D := D) (ci := 6) (v := .ref pg) (C := RX6) (T := TX6) (N := 10) hx hb hts iT_X6 hown hK1 hP 0 rfl rfl 0 (by decide) (hts _ t_154) (fun _ h9 => h9) rfl dX6_letter_41 ?_
      refine va_get (D := D) (ci := 3) (v := .int 1) (C := RX3) (T := TX3) (N := 2) hx hb hts iT_X3 hown hK1 hP 1 rfl rfl 1 (by decide) (hts _ t_29) (fun _ h9 => h9) rfl dX6_letter_44 ?_
      exact hret _ _ _ _ _ _ 1 () dX6_letter_47 rfl hS (Nat.le_of_ble_eq_true rfl) (Nat.le_of_ble_eq_true rfl) (by simp [c_1, c_2]) (hP.sub [] rfl) (hD.sub [] rfl rfl)
    · skip
      refine lv_sipush (v := -1002) hx hb dX6_letter_12 (by decide) ?_
      exact hret _ _ _ _ _ _ (-1002) () dX6_letter_15 rfl hS (Nat.le_of_ble_eq_true rfl) (Nat.le_of_ble_eq_true rfl) (by simp [c_1, c_2]) (hP.sub [] rfl) (hD.sub [] rfl rfl)
set_option maxHeartbeats 4000000 in
set_option maxRecDepth 100000 in
theorem c_X6_blank (sz : Nat) (h0 : Nat) (pg : Nat) (bk : Nat) (fg : Nat) (og : Nat) (lg : Nat) (pc : Nat)  : CTi l D cI cJ cZ cR yX6_blank cX6_blank 2 (some .int) 1 20 0 0 sz [.ref h0] [(h0, .inr (6, [.ref pg, .ref bk, .ref fg, .ref og, .ref lg, .int 0, .int 0, .int 0, .int 0, .int 0])), (pg, .inr (3, [.ref pc, .int 0]))] (fun (r : Int32) (u : Unit) => (r = 0)) (fun (u : Unit) => []) := by
  refine CTi.of (ty := .int) (by decide) (Nat.le_of_ble_eq_true rfl) rfl ?_
  intro p e s m below meth c A Q ls hd hin hK hsz hP hD hA hS hl hret
  obtain ⟨hx, hb, hml, hown, hts⟩ := id hd
  have hK1 := hK.1
  have hown : s.vm.findClass RX6 = some m.cls := hown
  have hl : lv_has ls 2 [(0, .ref h0)] := hl
  refine lv_aload_n hx hb dX6_blank_0 rfl (lv_at hl 0 rfl) ?_
  refine va_get (D := D) (ci := 6) (v := .ref pg) (C := RX6) (T := TX6) (N := 10) hx hb hts iT_X6 hown hK1 hP 0 rfl rfl 0 (by decide) (hts _ t_154) (fun _ h9 => h9) rfl dX6_blank_1 ?_
  refine va_get (D := D) (ci := 3) (v := .int 0) (C := RX3) (T := TX3) (N := 2) hx hb hts iT_X3 hown hK1 hP 1 rfl rfl 1 (by decide) (hts _ t_29) (fun _ h9 => h9) rfl dX6_blank_4 ?_
  refine lv_istore_n (lv' := [(1, .int 0), (0, .ref h0)]) hx hb dX6_blank_7 rfl hl (by decide) rfl (fun ls hl => ?_)
  refine lv_aload_n hx hb dX6_blank_8 rfl (lv_at hl 1 rfl) ?_
  refine va_get (D := D) (ci := 6) (v := .ref pg) (C := RX6) (T := TX6) (N := 10) hx hb hts iT_X6 hown hK1 hP 0 rfl rfl 0 (by decide) (hts _ t_154) (fun _ h9 => h9) rfl dX6_blank_9 ?_
  refine xc_v (wc := [(pg, .inr (3, [.ref pc, .int 0]))]) (wr := [(h0, .inr (6, [.ref pg, .ref bk, .ref fg, .ref og, .ref lg, .int 0, .int 0, .int 0, .int 0, .int 0]))]) (xrV (n := 0) (As := []) (rest := []) (ci := 3) (q0 := 1) hd hK hP hD (c_X3_clear l D cI cJ cZ cR _ pg pc 0 ) (gV t_197 mV_X3_clear) hV_X3_clear ⟨(Nat.le_of_ble_eq_true rfl), (Nat.le_of_ble_eq_true rfl)⟩ rfl rfl [1] rfl rfl rfl hl.1 rfl (Nat.le_of_ble_eq_true rfl) dX6_blank_12 ⟨(Nat.le_of_ble_eq_true rfl), (Nat.le_of_ble_eq_true rfl)⟩) hP hD hS hA [1] [0] rfl rfl rfl (by decide) (fun u_2 H locs hw_3 hP hD hS => ?_)
  have hP : va_P D vwCl [(h0, .inr (6, [.ref pg, .ref bk, .ref fg, .ref og, .ref lg, .int 0, .int 0, .int 0, .int 0, .int 0])), (pg, .inr (3, [.ref pc, .int 0]))] H := hP
  have hD : va_D A [(h0, .inr (6, [.ref pg, .ref bk, .ref fg, .ref og, .ref lg, .int 0, .int 0, .int 0, .int 0, .int 0])), (pg, .inr (3, [.ref pc, .int 0]))] := hD
  refine lv_iload_n hx hb dX6_blank_15 rfl (lv_at hl 0 rfl) ?_
  exact hret _ _ _ _ _ _ 0 () dX6_blank_16 rfl hS (Nat.le_of_ble_eq_true rfl) (Nat.le_of_ble_eq_true rfl) rfl (hP.sub [] rfl) (hD.sub [] rfl rfl)
set_option maxHeartbeats 4000000 in
set_option maxRecDepth 100000 in
theorem c_X3_firstFault (sz : Nat) (pg : Nat) (pc : Nat) (p1 : Int32)  : CTi l D cI cJ cZ cR yX3_firstFault cX3_firstFault 6 (some .int) 0 0 0 0 sz [.ref pg, .int p1] [(pg, .inr (3, [.ref pc, .int 0]))] (fun (r : Int32) (u : Unit) => (r = 0)) (fun (u : Unit) => [(pg, .inr (3, [.ref pc, .int 0]))]) := by
  refine CTi.of (ty := .int) (by decide) (Nat.le_of_ble_eq_true rfl) rfl ?_
  intro p e s m below meth c A Q ls hd hin hK hsz hP hD hA hS hl hret
  obtain ⟨hx, hb, hml, hown, hts⟩ := id hd
  have hK1 := hK.1
  have hown : s.vm.findClass RX3 = some m.cls := hown
  have hl : lv_has ls 6 [(0, .ref pg), (1, .int p1)] := hl
  refine lv_iload_n hx hb dX3_firstFault_0 rfl (lv_at hl 1 rfl) ?_
  refine lv_if_eq (tgt := 8) hx hb dX3_firstFault_1 (by decide) (fun c_1 => ?_) (fun c_1 => ?_)
  · skip
    refine lv_iconst (v := 2) hx hb dX3_firstFault_8 (by decide) ?_
    refine lv_istore_n (lv' := [(2, .int 2), (0, .ref pg), (1, .int p1)]) hx hb dX3_firstFault_9 rfl hl (by decide) rfl (fun ls hl => ?_)
    refine lv_iload_n hx hb dX3_firstFault_10 rfl (lv_at hl 0 rfl) ?_
    refine lv_iconst (v := 3) hx hb dX3_firstFault_11 (by decide) ?_
    refine lv_iload_n hx hb dX3_firstFault_12 rfl (lv_at hl 2 rfl) ?_
    refine lv_if_eq (tgt := 20) hx hb dX3_firstFault_13 (by decide) (fun c_2 => ?_) (fun c_2 => ?_)
    · skip
      refine lv_iconst (v := 3) hx hb dX3_firstFault_20 (by decide) ?_
      refine lv_imul hx hb dX3_firstFault_21 ?_
      refine lv_nmi (show _ = (9 : Int32) from by decide +kernel) ?_
      refine lv_iadd hx hb dX3_firstFault_22 ?_
      refine lv_nmi (show _ = (11 : Int32) from by decide +kernel) ?_
      refine lv_istore_n (lv' := [(3, .int 11), (2, .int 2), (0, .ref pg), (1, .int p1)]) hx hb dX3_firstFault_23 rfl hl (by decide) rfl (fun ls hl => ?_)
      refine lv_iconst (v := 0) hx hb dX3_firstFault_24 (by decide) ?_
      refine lv_istore (lv' := [(4, .int 0), (3, .int 11), (2, .int 2), (0, .ref pg), (1, .int p1)]) hx hb dX3_firstFault_25 hl (by decide) rfl (fun ls hl => ?_)
      refine lv_iload hx hb dX3_firstFault_27 (lv_at hl 0 rfl) ?_
      refine lv_aload_n hx hb dX3_firstFault_29 rfl (lv_at hl 3 rfl) ?_
      refine va_get (D := D) (ci := 3) (v := .int 0) (C := RX3) (T := TX3) (N := 2) hx hb hts iT_X3 hown hK1 hP 0 rfl rfl 1 (by decide) (hts _ t_28) (fun _ h9 => h9) rfl dX3_firstFault_30 ?_
      refine lv_icmp_ge (tgt := 86) hx hb dX3_firstFault_33 (by decide) (fun c_3 => ?_) (fun c_3 => ?_)
      rotate_left
      · exact absurd c_3 (by decide)
      refine lv_aload_n hx hb dX3_firstFault_86 rfl (lv_at hl 3 rfl) ?_
      refine va_get (D := D) (ci := 3) (v := .int 0) (C := RX3) (T := TX3) (N := 2) hx hb hts iT_X3 hown hK1 hP 0 rfl rfl 1 (by decide) (hts _ t_28) (fun _ h9 => h9) rfl dX3_firstFault_87 ?_
      exact hret _ _ _ _ _ _ 0 () dX3_firstFault_90 rfl hS (Nat.le_of_ble_eq_true rfl) (Nat.le_of_ble_eq_true rfl) rfl (hP.sub [0] rfl) (hD.sub [0] rfl rfl)
    · skip
      refine lv_iconst (v := 5) hx hb dX3_firstFault_16 (by decide) ?_
      refine lv_goto (tgt := 21) hx hb dX3_firstFault_17 (by decide) ?_
      refine lv_imul hx hb dX3_firstFault_21 ?_
      refine lv_nmi (show _ = (15 : Int32) from by decide +kernel) ?_
      refine lv_iadd hx hb dX3_firstFault_22 ?_
      refine lv_nmi (show _ = (17 : Int32) from by decide +kernel) ?_
      refine lv_istore_n (lv' := [(3, .int 17), (2, .int 2), (0, .ref pg), (1, .int p1)]) hx hb dX3_firstFault_23 rfl hl (by decide) rfl (fun ls hl => ?_)
      refine lv_iconst (v := 0) hx hb dX3_firstFault_24 (by decide) ?_
      refine lv_istore (lv' := [(4, .int 0), (3, .int 17), (2, .int 2), (0, .ref pg), (1, .int p1)]) hx hb dX3_firstFault_25 hl (by decide) rfl (fun ls hl => ?_)
      refine lv_iload hx hb dX3_firstFault_27 (lv_at hl 0 rfl) ?_
      refine lv_aload_n hx hb dX3_firstFault_29 rfl (lv_at hl 3 rfl) ?_
      refine va_get (D := D) (ci := 3) (v := .int 0) (C := RX3) (T := TX3) (N := 2) hx hb hts iT_X3 hown hK1 hP 0 rfl rfl 1 (by decide) (hts _ t_28) (fun _ h9 => h9) rfl dX3_firstFault_30 ?_
      refine lv_icmp_ge (tgt := 86) hx hb dX3_firstFault_33 (by decide) (fun c_4 => ?_) (fun c_4 => ?_)
      rotate_left
      · exact absurd c_4 (by decide)
      refine lv_aload_n hx hb dX3_firstFault_86 rfl (lv_at hl 3 rfl) ?_
      refine va_get (D := D) (ci := 3) (v := .int 0) (C := RX3) (T := TX3) (N := 2) hx hb hts iT_X3 hown hK1 hP 0 rfl rfl 1 (by decide) (hts _ t_28) (fun _ h9 => h9) rfl dX3_firstFault_87 ?_
      exact hret _ _ _ _ _ _ 0 () dX3_firstFault_90 rfl hS (Nat.le_of_ble_eq_true rfl) (Nat.le_of_ble_eq_true rfl) rfl (hP.sub [0] rfl) (hD.sub [0] rfl rfl)
  · skip
    refine lv_iconst (v := 0) hx hb dX3_firstFault_4 (by decide) ?_
    refine lv_goto (tgt := 9) hx hb dX3_firstFault_5 (by decide) ?_
    refine lv_istore_n (lv' := [(2, .int 0), (0, .ref pg), (1, .int p1)]) hx hb dX3_firstFault_9 rfl hl (by decide) rfl (fun ls hl => ?_)
    refine lv_iload_n hx hb dX3_firstFault_10 rfl (lv_at hl 0 rfl) ?_
    refine lv_iconst (v := 3) hx hb dX3_firstFault_11 (by decide) ?_
    refine lv_iload_n hx hb dX3_firstFault_12 rfl (lv_at hl 2 rfl) ?_
    refine lv_if_eq (tgt := 20) hx hb dX3_firstFault_13 (by decide) (fun c_5 => ?_) (fun c_5 => ?_)
    · skip
      refine lv_iconst (v := 3) hx hb dX3_firstFault_20 (by decide) ?_
      refine lv_imul hx hb dX3_firstFault_21 ?_
      refine lv_nmi (show _ = (9 : Int32) from by decide +kernel) ?_
      refine lv_iadd hx hb dX3_firstFault_22 ?_
      refine lv_nmi (show _ = (9 : Int32) from by decide +kernel) ?_
      refine lv_istore_n (lv' := [(3, .int 9), (2, .int 0), (0, .ref pg), (1, .int p1)]) hx hb dX3_firstFault_23 rfl hl (by decide) rfl (fun ls hl => ?_)
      refine lv_iconst (v := 0) hx hb dX3_firstFault_24 (by decide) ?_
      refine lv_istore (lv' := [(4, .int 0), (3, .int 9), (2, .int 0), (0, .ref pg), (1, .int p1)]) hx hb dX3_firstFault_25 hl (by decide) rfl (fun ls hl => ?_)
      refine lv_iload hx hb dX3_firstFault_27 (lv_at hl 0 rfl) ?_
      refine lv_aload_n hx hb dX3_firstFault_29 rfl (lv_at hl 3 rfl) ?_
      refine va_get (D := D) (ci := 3) (v := .int 0) (C := RX3) (T := TX3) (N := 2) hx hb hts iT_X3 hown hK1 hP 0 rfl rfl 1 (by decide) (hts _ t_28) (fun _ h9 => h9) rfl dX3_firstFault_30 ?_
      refine lv_icmp_ge (tgt := 86) hx hb dX3_firstFault_33 (by decide) (fun c_6 => ?_) (fun c_6 => ?_)
      rotate_left
      · exact absurd c_6 (by decide)
      refine lv_aload_n hx hb dX3_firstFault_86 rfl (lv_at hl 3 rfl) ?_
      refine va_get (D := D) (ci := 3) (v := .int 0) (C := RX3) (T := TX3) (N := 2) hx hb hts iT_X3 hown hK1 hP 0 rfl rfl 1 (by decide) (hts _ t_28) (fun _ h9 => h9) rfl dX3_firstFault_87 ?_
      exact hret _ _ _ _ _ _ 0 () dX3_firstFault_90 rfl hS (Nat.le_of_ble_eq_true rfl) (Nat.le_of_ble_eq_true rfl) rfl (hP.sub [0] rfl) (hD.sub [0] rfl rfl)
    · skip
      refine lv_iconst (v := 5) hx hb dX3_firstFault_16 (by decide) ?_
      refine lv_goto (tgt := 21) hx hb dX3_firstFault_17 (by decide) ?_
      refine lv_imul hx hb dX3_firstFault_21 ?_
      refine lv_nmi (show _ = (15 : Int32) from by decide +kernel) ?_
      refine lv_iadd hx hb dX3_firstFault_22 ?_
      refine lv_nmi (show _ = (15 : Int32) from by decide +kernel) ?_
      refine lv_istore_n (lv' := [(3, .int 15), (2, .int 0), (0, .ref pg), (1, .int p1)]) hx hb dX3_firstFault_23 rfl hl (by decide) rfl (fun ls hl => ?_)
      refine lv_iconst (v := 0) hx hb dX3_firstFault_24 (by decide) ?_
      refine lv_istore (lv' := [(4, .int 0), (3, .int 15), (2, .int 0), (0, .ref pg), (1, .int p1)]) hx hb dX3_firstFault_25 hl (by decide) rfl (fun ls hl => ?_)
      refine lv_iload hx hb dX3_firstFault_27 (lv_at hl 0 rfl) ?_
      refine lv_aload_n hx hb dX3_firstFault_29 rfl (lv_at hl 3 rfl) ?_
      refine va_get (D := D) (ci := 3) (v := .int 0) (C := RX3) (T := TX3) (N := 2) hx hb hts iT_X3 hown hK1 hP 0 rfl rfl 1 (by decide) (hts _ t_28) (fun _ h9 => h9) rfl dX3_firstFault_30 ?_
      refine lv_icmp_ge (tgt := 86) hx hb dX3_firstFault_33 (by decide) (fun c_7 => ?_) (fun c_7 => ?_)
      rotate_left
      · exact absurd c_7 (by decide)
      refine lv_aload_n hx hb dX3_firstFault_86 rfl (lv_at hl 3 rfl) ?_
      refine va_get (D := D) (ci := 3) (v := .int 0) (C := RX3) (T := TX3) (N := 2) hx hb hts iT_X3 hown hK1 hP 0 rfl rfl 1 (by decide) (hts _ t_28) (fun _ h9 => h9) rfl dX3_firstFault_87 ?_
      exact hret _ _ _ _ _ _ 0 () dX3_firstFault_90 rfl hS (Nat.le_of_ble_eq_true rfl) (Nat.le_of_ble_eq_true rfl) rfl (hP.sub [0] rfl) (hD.sub [0] rfl rfl)
set_option maxHeartbeats 4000000 in
set_option maxRecDepth 100000 in
theorem c_X6_fault (sz : Nat) (h0 : Nat) (pg : Nat) (bk : Nat) (fg : Nat) (og : Nat) (lg : Nat) (pc : Nat) (p1 : Int32)  : CTi l D cI cJ cZ cR yX6_fault cX6_fault 2 (some .int) 1 25 0 0 sz [.ref h0, .int p1] [(h0, .inr (6, [.ref pg, .ref bk, .ref fg, .ref og, .ref lg, .int 0, .int 0, .int 0, .int 0, .int 0])), (pg, .inr (3, [.ref pc, .int 0]))] (fun (r : Int32) (u : Unit) => (r = 0)) (fun (u : Unit) => [(h0, .inr (6, [.ref pg, .ref bk, .ref fg, .ref og, .ref lg, .int 0, .int 0, .int 0, .int 0, .int 0])), (pg, .inr (3, [.ref pc, .int 0]))]) := by
  refine CTi.of (ty := .int) (by decide) (Nat.le_of_ble_eq_true rfl) rfl ?_
  intro p e s m below meth c A Q ls hd hin hK hsz hP hD hA hS hl hret
  obtain ⟨hx, hb, hml, hown, hts⟩ := id hd
  have hK1 := hK.1
  have hown : s.vm.findClass RX6 = some m.cls := hown
  have hl : lv_has ls 2 [(0, .ref h0), (1, .int p1)] := hl
  refine lv_aload_n hx hb dX6_fault_0 rfl (lv_at hl 0 rfl) ?_
  refine va_get (D := D) (ci := 6) (v := .ref pg) (C := RX6) (T := TX6) (N := 10) hx hb hts iT_X6 hown hK1 hP 0 rfl rfl 0 (by decide) (hts _ t_154) (fun _ h9 => h9) rfl dX6_fault_1 ?_
  refine lv_iload_n hx hb dX6_fault_4 rfl (lv_at hl 1 rfl) ?_
  refine xc_i (wc := [(pg, .inr (3, [.ref pc, .int 0]))]) (wr := [(h0, .inr (6, [.ref pg, .ref bk, .ref fg, .ref og, .ref lg, .int 0, .int 0, .int 0, .int 0, .int 0]))]) (xrV (n := 1) (As := [.int p1]) (rest := []) (ci := 3) (q0 := 1) hd hK hP hD (c_X3_firstFault l D cI cJ cZ cR _ pg pc p1 ) (gV t_205 mV_X3_firstFault) hV_X3_firstFault ⟨(Nat.le_of_ble_eq_true rfl), (Nat.le_of_ble_eq_true rfl)⟩ rfl rfl [1] rfl rfl rfl hl.1 rfl (Nat.le_of_ble_eq_true rfl) dX6_fault_5 ⟨(Nat.le_of_ble_eq_true rfl), (Nat.le_of_ble_eq_true rfl)⟩) hP hD hS hA [1] [0] rfl rfl rfl (by decide) (fun r_1 u_2 H locs hw_3 hP hD hS => ?_)
  have hw_4 : r_1 = 0 := hw_3
  subst hw_4
  have hP : va_P D vwCl [(h0, .inr (6, [.ref pg, .ref bk, .ref fg, .ref og, .ref lg, .int 0, .int 0, .int 0, .int 0, .int 0])), (pg, .inr (3, [.ref pc, .int 0]))] H := hP
  have hD : va_D A [(h0, .inr (6, [.ref pg, .ref bk, .ref fg, .ref og, .ref lg, .int 0, .int 0, .int 0, .int 0, .int 0])), (pg, .inr (3, [.ref pc, .int 0]))] := hD
  exact hret _ _ _ _ _ _ 0 () dX6_fault_8 rfl hS (Nat.le_of_ble_eq_true rfl) (Nat.le_of_ble_eq_true rfl) rfl (hP.sub [0, 1] rfl) (hD.sub [0, 1] rfl rfl)
set_option maxHeartbeats 4000000 in
set_option maxRecDepth 100000 in
theorem c_isWhole_0 (sz : Nat) (pg : Nat) (pc : Nat)  : CTi l D cI cJ cZ cR yX3_isWhole cX3_isWhole 2 (some .boolean) 0 0 0 0 sz [.ref pg, .int 0] [(pg, .inr (3, [.ref pc, .int 0]))] (fun (r : Int32) (u : Unit) => (r = 0)) (fun (u : Unit) => [(pg, .inr (3, [.ref pc, .int 0]))]) := by
  refine CTi.of (ty := .boolean) (by decide) (Nat.le_of_ble_eq_true rfl) rfl ?_
  intro p e s m below meth c A Q ls hd hin hK hsz hP hD hA hS hl hret
  obtain ⟨hx, hb, hml, hown, hts⟩ := id hd
  have hK1 := hK.1
  have hown : s.vm.findClass RX3 = some m.cls := hown
  have hl : lv_has ls 2 [(0, .ref pg), (1, .int 0)] := hl
  refine lv_aload_n hx hb dX3_isWhole_0 rfl (lv_at hl 0 rfl) ?_
  refine va_get (D := D) (ci := 3) (v := .int 0) (C := RX3) (T := TX3) (N := 2) hx hb hts iT_X3 hown hK1 hP 0 rfl rfl 1 (by decide) (hts _ t_28) (fun _ h9 => h9) rfl dX3_isWhole_1 ?_
  refine lv_iload_n hx hb dX3_isWhole_4 rfl (lv_at hl 1 rfl) ?_
  refine lv_icmp_le (tgt := 23) hx hb dX3_isWhole_5 (by decide) (fun c_1 => ?_) (fun c_1 => ?_)
  rotate_left
  · exact absurd c_1 (by decide)
  refine lv_iconst (v := 0) hx hb dX3_isWhole_23 (by decide) ?_
  exact hret _ _ _ _ _ _ 0 () dX3_isWhole_24 rfl hS (Nat.le_of_ble_eq_true rfl) (Nat.le_of_ble_eq_true rfl) rfl (hP.sub [0] rfl) (hD.sub [0] rfl rfl)
set_option maxHeartbeats 4000000 in
set_option maxRecDepth 100000 in
theorem c_isWhole_2 (sz : Nat) (pg : Nat) (pc : Nat)  : CTi l D cI cJ cZ cR yX3_isWhole cX3_isWhole 2 (some .boolean) 0 0 0 0 sz [.ref pg, .int 2] [(pg, .inr (3, [.ref pc, .int 0]))] (fun (r : Int32) (u : Unit) => (r = 0)) (fun (u : Unit) => [(pg, .inr (3, [.ref pc, .int 0]))]) := by
  refine CTi.of (ty := .boolean) (by decide) (Nat.le_of_ble_eq_true rfl) rfl ?_
  intro p e s m below meth c A Q ls hd hin hK hsz hP hD hA hS hl hret
  obtain ⟨hx, hb, hml, hown, hts⟩ := id hd
  have hK1 := hK.1
  have hown : s.vm.findClass RX3 = some m.cls := hown
  have hl : lv_has ls 2 [(0, .ref pg), (1, .int 2)] := hl
  refine lv_aload_n hx hb dX3_isWhole_0 rfl (lv_at hl 0 rfl) ?_
  refine va_get (D := D) (ci := 3) (v := .int 0) (C := RX3) (T := TX3) (N := 2) hx hb hts iT_X3 hown hK1 hP 0 rfl rfl 1 (by decide) (hts _ t_28) (fun _ h9 => h9) rfl dX3_isWhole_1 ?_
  refine lv_iload_n hx hb dX3_isWhole_4 rfl (lv_at hl 1 rfl) ?_
  refine lv_icmp_le (tgt := 23) hx hb dX3_isWhole_5 (by decide) (fun c_1 => ?_) (fun c_1 => ?_)
  rotate_left
  · exact absurd c_1 (by decide)
  refine lv_iconst (v := 0) hx hb dX3_isWhole_23 (by decide) ?_
  exact hret _ _ _ _ _ _ 0 () dX3_isWhole_24 rfl hS (Nat.le_of_ble_eq_true rfl) (Nat.le_of_ble_eq_true rfl) rfl (hP.sub [0] rfl) (hD.sub [0] rfl rfl)
set_option maxHeartbeats 4000000 in
set_option maxRecDepth 100000 in
theorem c_X3_isRule (sz : Nat) (pg : Nat) (pc : Nat)  : CTi l D cI cJ cZ cR yX3_isRule cX3_isRule 1 (some .boolean) 1 21 0 0 sz [.ref pg] [(pg, .inr (3, [.ref pc, .int 0]))] (fun (r : Int32) (u : Unit) => (r = 0)) (fun (u : Unit) => [(pg, .inr (3, [.ref pc, .int 0]))]) := by
  refine CTi.of (ty := .boolean) (by decide) (Nat.le_of_ble_eq_true rfl) rfl ?_
  intro p e s m below meth c A Q ls hd hin hK hsz hP hD hA hS hl hret
  obtain ⟨hx, hb, hml, hown, hts⟩ := id hd
  have hK1 := hK.1
  have hown : s.vm.findClass RX3 = some m.cls := hown
  have hl : lv_has ls 1 [(0, .ref pg)] := hl
  refine lv_aload_n hx hb dX3_isRule_0 rfl (lv_at hl 0 rfl) ?_
  refine lv_iconst (v := 2) hx hb dX3_isRule_1 (by decide) ?_
  refine xc_i (wc := [(pg, .inr (3, [.ref pc, .int 0]))]) (wr := []) (xrV (n := 1) (As := [.int 2]) (rest := []) (ci := 3) (q0 := 0) hd hK hP hD (c_isWhole_2 l D cI cJ cZ cR _ pg pc ) (gV t_231 mV_X3_isWhole) hV_X3_isWhole ⟨(Nat.le_of_ble_eq_true rfl), (Nat.le_of_ble_eq_true rfl)⟩ rfl rfl [0] rfl rfl rfl hl.1 rfl (Nat.le_of_ble_eq_true rfl) dX3_isRule_2 ⟨(Nat.le_of_ble_eq_true rfl), (Nat.le_of_ble_eq_true rfl)⟩) hP hD hS hA [0] [] rfl rfl rfl (by decide) (fun r_1 u_2 H locs hw_3 hP hD hS => ?_)
  have hw_4 : r_1 = 0 := hw_3
  subst hw_4
  have hP : va_P D vwCl [(pg, .inr (3, [.ref pc, .int 0]))] H := hP
  have hD : va_D A [(pg, .inr (3, [.ref pc, .int 0]))] := hD
  refine lv_if_eq (tgt := 47) hx hb dX3_isRule_5 (by decide) (fun c_5 => ?_) (fun c_5 => ?_)
  rotate_left
  · exact absurd c_5 (by decide)
  refine lv_iconst (v := 0) hx hb dX3_isRule_47 (by decide) ?_
  exact hret _ _ _ _ _ _ 0 () dX3_isRule_48 rfl hS (Nat.le_of_ble_eq_true rfl) (Nat.le_of_ble_eq_true rfl) rfl (hP.sub [0] rfl) (hD.sub [0] rfl rfl)
set_option maxHeartbeats 4000000 in
set_option maxRecDepth 100000 in
theorem c_X3_isGraph (sz : Nat) (pg : Nat) (pc : Nat)  : CTi l D cI cJ cZ cR yX3_isGraph cX3_isGraph 1 (some .boolean) 1 21 0 0 sz [.ref pg] [(pg, .inr (3, [.ref pc, .int 0]))] (fun (r : Int32) (u : Unit) => (r = 0)) (fun (u : Unit) => [(pg, .inr (3, [.ref pc, .int 0]))]) := by
  refine CTi.of (ty := .boolean) (by decide) (Nat.le_of_ble_eq_true rfl) rfl ?_
  intro p e s m below meth c A Q ls hd hin hK hsz hP hD hA hS hl hret
  obtain ⟨hx, hb, hml, hown, hts⟩ := id hd
  have hK1 := hK.1
  have hown : s.vm.findClass RX3 = some m.cls := hown
  have hl : lv_has ls 1 [(0, .ref pg)] := hl
  refine lv_aload_n hx hb dX3_isGraph_0 rfl (lv_at hl 0 rfl) ?_
  refine lv_iconst (v := 0) hx hb dX3_isGraph_1 (by decide) ?_
  refine xc_i (wc := [(pg, .inr (3, [.ref pc, .int 0]))]) (wr := []) (xrV (n := 1) (As := [.int 0]) (rest := []) (ci := 3) (q0 := 0) hd hK hP hD (c_isWhole_0 l D cI cJ cZ cR _ pg pc ) (gV t_231 mV_X3_isWhole) hV_X3_isWhole ⟨(Nat.le_of_ble_eq_true rfl), (Nat.le_of_ble_eq_true rfl)⟩ rfl rfl [0] rfl rfl rfl hl.1 rfl (Nat.le_of_ble_eq_true rfl) dX3_isGraph_2 ⟨(Nat.le_of_ble_eq_true rfl), (Nat.le_of_ble_eq_true rfl)⟩) hP hD hS hA [0] [] rfl rfl rfl (by decide) (fun r_1 u_2 H locs hw_3 hP hD hS => ?_)
  have hw_4 : r_1 = 0 := hw_3
  subst hw_4
  have hP : va_P D vwCl [(pg, .inr (3, [.ref pc, .int 0]))] H := hP
  have hD : va_D A [(pg, .inr (3, [.ref pc, .int 0]))] := hD
  refine lv_if_eq (tgt := 31) hx hb dX3_isGraph_5 (by decide) (fun c_5 => ?_) (fun c_5 => ?_)
  rotate_left
  · exact absurd c_5 (by decide)
  refine lv_iconst (v := 0) hx hb dX3_isGraph_31 (by decide) ?_
  exact hret _ _ _ _ _ _ 0 () dX3_isGraph_32 rfl hS (Nat.le_of_ble_eq_true rfl) (Nat.le_of_ble_eq_true rfl) rfl (hP.sub [0] rfl) (hD.sub [0] rfl rfl)
set_option maxHeartbeats 4000000 in
set_option maxRecDepth 100000 in
theorem c_X6_rule (sz : Nat) (h0 : Nat) (pg : Nat) (bk : Nat) (fg : Nat) (og : Nat) (lg : Nat) (pc : Nat)  : CTi l D cI cJ cZ cR yX6_rule cX6_rule 1 (some .int) 2 41 0 0 sz [.ref h0] [(h0, .inr (6, [.ref pg, .ref bk, .ref fg, .ref og, .ref lg, .int 0, .int 0, .int 0, .int 0, .int 0])), (pg, .inr (3, [.ref pc, .int 0]))] (fun (r : Int32) (u : Unit) => (r = (-1003))) (fun (u : Unit) => [(h0, .inr (6, [.ref pg, .ref bk, .ref fg, .ref og, .ref lg, .int 0, .int 0, .int 0, .int 0, .int 0])), (pg, .inr (3, [.ref pc, .int 0]))]) := by
  refine CTi.of (ty := .int) (by decide) (Nat.le_of_ble_eq_true rfl) rfl ?_
  intro p e s m below meth c A Q ls hd hin hK hsz hP hD hA hS hl hret
  obtain ⟨hx, hb, hml, hown, hts⟩ := id hd
  have hK1 := hK.1
  have hown : s.vm.findClass RX6 = some m.cls := hown
  have hl : lv_has ls 1 [(0, .ref h0)] := hl
  refine lv_aload_n hx hb dX6_rule_0 rfl (lv_at hl 0 rfl) ?_
  refine va_get (D := D) (ci := 6) (v := .ref pg) (C := RX6) (T := TX6) (N := 10) hx hb hts iT_X6 hown hK1 hP 0 rfl rfl 0 (by decide) (hts _ t_154) (fun _ h9 => h9) rfl dX6_rule_1 ?_
  refine xc_i (wc := [(pg, .inr (3, [.ref pc, .int 0]))]) (wr := [(h0, .inr (6, [.ref pg, .ref bk, .ref fg, .ref og, .ref lg, .int 0, .int 0, .int 0, .int 0, .int 0]))]) (xrV (n := 0) (As := []) (rest := []) (ci := 3) (q0 := 1) hd hK hP hD (c_X3_isRule l D cI cJ cZ cR _ pg pc ) (gV t_227 mV_X3_isRule) hV_X3_isRule ⟨(Nat.le_of_ble_eq_true rfl), (Nat.le_of_ble_eq_true rfl)⟩ rfl rfl [1] rfl rfl rfl hl.1 rfl (Nat.le_of_ble_eq_true rfl) dX6_rule_4 ⟨(Nat.le_of_ble_eq_true rfl), (Nat.le_of_ble_eq_true rfl)⟩) hP hD hS hA [1] [0] rfl rfl rfl (by decide) (fun r_1 u_2 H locs hw_3 hP hD hS => ?_)
  have hw_4 : r_1 = 0 := hw_3
  subst hw_4
  have hP : va_P D vwCl [(h0, .inr (6, [.ref pg, .ref bk, .ref fg, .ref og, .ref lg, .int 0, .int 0, .int 0, .int 0, .int 0])), (pg, .inr (3, [.ref pc, .int 0]))] H := hP
  have hD : va_D A [(h0, .inr (6, [.ref pg, .ref bk, .ref fg, .ref og, .ref lg, .int 0, .int 0, .int 0, .int 0, .int 0])), (pg, .inr (3, [.ref pc, .int 0]))] := hD
  refine lv_if_ne (tgt := 14) hx hb dX6_rule_7 (by decide) (fun c_5 => ?_) (fun c_5 => ?_)
  · exact absurd c_5 (by decide)
  refine lv_sipush (v := -1003) hx hb dX6_rule_10 (by decide) ?_
  exact hret _ _ _ _ _ _ (-1003) () dX6_rule_13 rfl hS (Nat.le_of_ble_eq_true rfl) (Nat.le_of_ble_eq_true rfl) rfl (hP.sub [0, 1] rfl) (hD.sub [0, 1] rfl rfl)
set_option maxHeartbeats 4000000 in
set_option maxRecDepth 100000 in
theorem c_X6_graph (sz : Nat) (h0 : Nat) (pg : Nat) (bk : Nat) (fg : Nat) (og : Nat) (lg : Nat) (pc : Nat)  : CTi l D cI cJ cZ cR yX6_graph cX6_graph 1 (some .int) 2 41 0 0 sz [.ref h0] [(h0, .inr (6, [.ref pg, .ref bk, .ref fg, .ref og, .ref lg, .int 0, .int 0, .int 0, .int 0, .int 0])), (pg, .inr (3, [.ref pc, .int 0]))] (fun (r : Int32) (u : Unit) => (r = (-1003))) (fun (u : Unit) => [(h0, .inr (6, [.ref pg, .ref bk, .ref fg, .ref og, .ref lg, .int 0, .int 0, .int 0, .int 0, .int 0])), (pg, .inr (3, [.ref pc, .int 0]))]) := by
  refine CTi.of (ty := .int) (by decide) (Nat.le_of_ble_eq_true rfl) rfl ?_
  intro p e s m below meth c A Q ls hd hin hK hsz hP hD hA hS hl hret
  obtain ⟨hx, hb, hml, hown, hts⟩ := id hd
  have hK1 := hK.1
  have hown : s.vm.findClass RX6 = some m.cls := hown
  have hl : lv_has ls 1 [(0, .ref h0)] := hl
  refine lv_aload_n hx hb dX6_graph_0 rfl (lv_at hl 0 rfl) ?_
  refine va_get (D := D) (ci := 6) (v := .ref pg) (C := RX6) (T := TX6) (N := 10) hx hb hts iT_X6 hown hK1 hP 0 rfl rfl 0 (by decide) (hts _ t_154) (fun _ h9 => h9) rfl dX6_graph_1 ?_
  refine xc_i (wc := [(pg, .inr (3, [.ref pc, .int 0]))]) (wr := [(h0, .inr (6, [.ref pg, .ref bk, .ref fg, .ref og, .ref lg, .int 0, .int 0, .int 0, .int 0, .int 0]))]) (xrV (n := 0) (As := []) (rest := []) (ci := 3) (q0 := 1) hd hK hP hD (c_X3_isGraph l D cI cJ cZ cR _ pg pc ) (gV t_316 mV_X3_isGraph) hV_X3_isGraph ⟨(Nat.le_of_ble_eq_true rfl), (Nat.le_of_ble_eq_true rfl)⟩ rfl rfl [1] rfl rfl rfl hl.1 rfl (Nat.le_of_ble_eq_true rfl) dX6_graph_4 ⟨(Nat.le_of_ble_eq_true rfl), (Nat.le_of_ble_eq_true rfl)⟩) hP hD hS hA [1] [0] rfl rfl rfl (by decide) (fun r_1 u_2 H locs hw_3 hP hD hS => ?_)
  have hw_4 : r_1 = 0 := hw_3
  subst hw_4
  have hP : va_P D vwCl [(h0, .inr (6, [.ref pg, .ref bk, .ref fg, .ref og, .ref lg, .int 0, .int 0, .int 0, .int 0, .int 0])), (pg, .inr (3, [.ref pc, .int 0]))] H := hP
  have hD : va_D A [(h0, .inr (6, [.ref pg, .ref bk, .ref fg, .ref og, .ref lg, .int 0, .int 0, .int 0, .int 0, .int 0])), (pg, .inr (3, [.ref pc, .int 0]))] := hD
  refine lv_if_ne (tgt := 14) hx hb dX6_graph_7 (by decide) (fun c_5 => ?_) (fun c_5 => ?_)
  · exact absurd c_5 (by decide)
  refine lv_sipush (v := -1003) hx hb dX6_graph_10 (by decide) ?_
  exact hret _ _ _ _ _ _ (-1003) () dX6_graph_13 rfl hS (Nat.le_of_ble_eq_true rfl) (Nat.le_of_ble_eq_true rfl) rfl (hP.sub [0, 1] rfl) (hD.sub [0, 1] rfl rfl)
set_option maxHeartbeats 4000000 in
set_option maxRecDepth 100000 in
theorem c_X6_drop (sz : Nat) (h0 : Nat) (pg : Nat) (bk : Nat) (fg : Nat) (og : Nat) (lg : Nat) (br : Nat) (p0 : Int32)  : CTi l D cI cJ cZ cR yX6_drop cX6_drop 2 (some .int) 1 21 0 0 sz [.ref h0, .int p0] [(h0, .inr (6, [.ref pg, .ref bk, .ref fg, .ref og, .ref lg, .int 0, .int 0, .int 0, .int 0, .int 0])), (bk, .inr (5, [.ref br, .int 0]))] (fun (r : Int32) (u : Unit) => (r = (-1001))) (fun (u : Unit) => [(h0, .inr (6, [.ref pg, .ref bk, .ref fg, .ref og, .ref lg, .int 0, .int 0, .int 0, .int 0, .int 0])), (bk, .inr (5, [.ref br, .int 0]))]) := by
  refine CTi.of (ty := .int) (by decide) (Nat.le_of_ble_eq_true rfl) rfl ?_
  intro p e s m below meth c A Q ls hd hin hK hsz hP hD hA hS hl hret
  obtain ⟨hx, hb, hml, hown, hts⟩ := id hd
  have hK1 := hK.1
  have hown : s.vm.findClass RX6 = some m.cls := hown
  have hl : lv_has ls 2 [(0, .ref h0), (1, .int p0)] := hl
  refine lv_aload_n hx hb dX6_drop_0 rfl (lv_at hl 0 rfl) ?_
  refine va_get (D := D) (ci := 6) (v := .ref bk) (C := RX6) (T := TX6) (N := 10) hx hb hts iT_X6 hown hK1 hP 0 rfl rfl 1 (by decide) (hts _ t_155) (fun _ h9 => h9) rfl dX6_drop_1 ?_
  refine lv_iload_n hx hb dX6_drop_4 rfl (lv_at hl 1 rfl) ?_
  refine xc_i (wc := [(bk, .inr (5, [.ref br, .int 0]))]) (wr := [(h0, .inr (6, [.ref pg, .ref bk, .ref fg, .ref og, .ref lg, .int 0, .int 0, .int 0, .int 0, .int 0]))]) (xrV (n := 1) (As := [.int p0]) (rest := []) (ci := 5) (q0 := 1) hd hK hP hD (c_X5_has l D cI cJ cZ cR _ bk br 0 p0 ) (gV t_303 mV_X5_has) hV_X5_has ⟨(Nat.le_of_ble_eq_true rfl), (Nat.le_of_ble_eq_true rfl)⟩ rfl rfl [1] rfl rfl rfl hl.1 rfl (Nat.le_of_ble_eq_true rfl) dX6_drop_5 ⟨(Nat.le_of_ble_eq_true rfl), (Nat.le_of_ble_eq_true rfl)⟩) hP hD hS hA [1] [0] rfl rfl rfl (by decide) (fun r_1 u_2 H locs hw_3 hP hD hS => ?_)
  have hw_4 : r_1 = (if p0 < 0 then 0 else if 0 ≤ p0 then 0 else 1) := hw_3
  subst hw_4
  have hP : va_P D vwCl [(h0, .inr (6, [.ref pg, .ref bk, .ref fg, .ref og, .ref lg, .int 0, .int 0, .int 0, .int 0, .int 0])), (bk, .inr (5, [.ref br, .int 0]))] H := hP
  have hD : va_D A [(h0, .inr (6, [.ref pg, .ref bk, .ref fg, .ref og, .ref lg, .int 0, .int 0, .int 0, .int 0, .int 0])), (bk, .inr (5, [.ref br, .int 0]))] := hD
  refine lv_nmi (show _ = (0 : Int32) from has0 _) ?_
  refine lv_if_ne (tgt := 15) hx hb dX6_drop_8 (by decide) (fun c_5 => ?_) (fun c_5 => ?_)
  · exact absurd c_5 (by decide)
  refine lv_sipush (v := -1001) hx hb dX6_drop_11 (by decide) ?_
  exact hret _ _ _ _ _ _ (-1001) () dX6_drop_14 rfl hS (Nat.le_of_ble_eq_true rfl) (Nat.le_of_ble_eq_true rfl) rfl (hP.sub [0, 1] rfl) (hD.sub [0, 1] rfl rfl)
set_option maxHeartbeats 4000000 in
set_option maxRecDepth 100000 in
theorem c_X6_of (sz : Nat) (h0 : Nat) (pg : Nat) (bk : Nat) (fg : Nat) (og : Nat) (lg : Nat) (br : Nat) (p0 : Int32) (p1 : Int32)  : CTi l D cI cJ cZ cR yX6_of cX6_of 4 (some .int) 1 21 0 0 sz [.ref h0, .int p0, .int p1] [(h0, .inr (6, [.ref pg, .ref bk, .ref fg, .ref og, .ref lg, .int 0, .int 0, .int 0, .int 0, .int 0])), (bk, .inr (5, [.ref br, .int 0]))] (fun (r : Int32) (u : Unit) => (r = (-1001))) (fun (u : Unit) => [(h0, .inr (6, [.ref pg, .ref bk, .ref fg, .ref og, .ref lg, .int 0, .int 0, .int 0, .int 0, .int 0])), (bk, .inr (5, [.ref br, .int 0]))]) := by
  refine CTi.of (ty := .int) (by decide) (Nat.le_of_ble_eq_true rfl) rfl ?_
  intro p e s m below meth c A Q ls hd hin hK hsz hP hD hA hS hl hret
  obtain ⟨hx, hb, hml, hown, hts⟩ := id hd
  have hK1 := hK.1
  have hown : s.vm.findClass RX6 = some m.cls := hown
  have hl : lv_has ls 4 [(0, .ref h0), (1, .int p0), (2, .int p1)] := hl
  refine lv_aload_n hx hb dX6_of_0 rfl (lv_at hl 0 rfl) ?_
  refine va_get (D := D) (ci := 6) (v := .ref bk) (C := RX6) (T := TX6) (N := 10) hx hb hts iT_X6 hown hK1 hP 0 rfl rfl 1 (by decide) (hts _ t_155) (fun _ h9 => h9) rfl dX6_of_1 ?_
  refine lv_iload_n hx hb dX6_of_4 rfl (lv_at hl 1 rfl) ?_
  refine xc_i (wc := [(bk, .inr (5, [.ref br, .int 0]))]) (wr := [(h0, .inr (6, [.ref pg, .ref bk, .ref fg, .ref og, .ref lg, .int 0, .int 0, .int 0, .int 0, .int 0]))]) (xrV (n := 1) (As := [.int p0]) (rest := []) (ci := 5) (q0 := 1) hd hK hP hD (c_X5_has l D cI cJ cZ cR _ bk br 0 p0 ) (gV t_303 mV_X5_has) hV_X5_has ⟨(Nat.le_of_ble_eq_true rfl), (Nat.le_of_ble_eq_true rfl)⟩ rfl rfl [1] rfl rfl rfl hl.1 rfl (Nat.le_of_ble_eq_true rfl) dX6_of_5 ⟨(Nat.le_of_ble_eq_true rfl), (Nat.le_of_ble_eq_true rfl)⟩) hP hD hS hA [1] [0] rfl rfl rfl (by decide) (fun r_1 u_2 H locs hw_3 hP hD hS => ?_)
  have hw_4 : r_1 = (if p0 < 0 then 0 else if 0 ≤ p0 then 0 else 1) := hw_3
  subst hw_4
  have hP : va_P D vwCl [(h0, .inr (6, [.ref pg, .ref bk, .ref fg, .ref og, .ref lg, .int 0, .int 0, .int 0, .int 0, .int 0])), (bk, .inr (5, [.ref br, .int 0]))] H := hP
  have hD : va_D A [(h0, .inr (6, [.ref pg, .ref bk, .ref fg, .ref og, .ref lg, .int 0, .int 0, .int 0, .int 0, .int 0])), (bk, .inr (5, [.ref br, .int 0]))] := hD
  refine lv_nmi (show _ = (0 : Int32) from has0 _) ?_
  refine lv_if_ne (tgt := 15) hx hb dX6_of_8 (by decide) (fun c_5 => ?_) (fun c_5 => ?_)
  · exact absurd c_5 (by decide)
  refine lv_sipush (v := -1001) hx hb dX6_of_11 (by decide) ?_
  exact hret _ _ _ _ _ _ (-1001) () dX6_of_14 rfl hS (Nat.le_of_ble_eq_true rfl) (Nat.le_of_ble_eq_true rfl) rfl (hP.sub [0, 1] rfl) (hD.sub [0, 1] rfl rfl)
set_option maxHeartbeats 4000000 in
set_option maxRecDepth 100000 in
theorem c_X6_step (sz : Nat) (h0 : Nat) (pg : Nat) (bk : Nat) (fg : Nat) (og : Nat) (lg : Nat) (f1 : Nat) (f2 : Nat) (f3 : Nat) (p0 : Int32) (p1 : Int32)  : CTi l D cI cJ cZ cR yX6_step cX6_step 4 (some .int) 1 21 0 0 sz [.ref h0, .int p0, .int p1] [(h0, .inr (6, [.ref pg, .ref bk, .ref fg, .ref og, .ref lg, .int 0, .int 0, .int 0, .int 0, .int 0])), (fg, .inr (0, [.ref f1, .ref f2, .ref f3, .int 0, .int 0]))] (fun (r : Int32) (u : Unit) => (r = (-1001))) (fun (u : Unit) => [(h0, .inr (6, [.ref pg, .ref bk, .ref fg, .ref og, .ref lg, .int 0, .int 0, .int 0, .int 0, .int 0])), (fg, .inr (0, [.ref f1, .ref f2, .ref f3, .int 0, .int 0]))]) := by
  refine CTi.of (ty := .int) (by decide) (Nat.le_of_ble_eq_true rfl) rfl ?_
  intro p e s m below meth c A Q ls hd hin hK hsz hP hD hA hS hl hret
  obtain ⟨hx, hb, hml, hown, hts⟩ := id hd
  have hK1 := hK.1
  have hown : s.vm.findClass RX6 = some m.cls := hown
  have hl : lv_has ls 4 [(0, .ref h0), (1, .int p0), (2, .int p1)] := hl
  refine lv_aload_n hx hb dX6_step_0 rfl (lv_at hl 0 rfl) ?_
  refine va_get (D := D) (ci := 6) (v := .ref fg) (C := RX6) (T := TX6) (N := 10) hx hb hts iT_X6 hown hK1 hP 0 rfl rfl 2 (by decide) (hts _ t_156) (fun _ h9 => h9) rfl dX6_step_1 ?_
  refine lv_iload_n hx hb dX6_step_4 rfl (lv_at hl 1 rfl) ?_
  refine xc_i (wc := [(fg, .inr (0, [.ref f1, .ref f2, .ref f3, .int 0, .int 0]))]) (wr := [(h0, .inr (6, [.ref pg, .ref bk, .ref fg, .ref og, .ref lg, .int 0, .int 0, .int 0, .int 0, .int 0]))]) (xrV (n := 1) (As := [.int p0]) (rest := []) (ci := 0) (q0 := 1) hd hK hP hD (c_X0_has l D cI cJ cZ cR _ fg f1 f2 f3 0 0 p0 ) (gV t_332 mV_X0_has) hV_X0_has ⟨(Nat.le_of_ble_eq_true rfl), (Nat.le_of_ble_eq_true rfl)⟩ rfl rfl [1] rfl rfl rfl hl.1 rfl (Nat.le_of_ble_eq_true rfl) dX6_step_5 ⟨(Nat.le_of_ble_eq_true rfl), (Nat.le_of_ble_eq_true rfl)⟩) hP hD hS hA [1] [0] rfl rfl rfl (by decide) (fun r_1 u_2 H locs hw_3 hP hD hS => ?_)
  have hw_4 : r_1 = (if p0 < 0 then 0 else if 0 ≤ p0 then 0 else 1) := hw_3
  subst hw_4
  have hP : va_P D vwCl [(h0, .inr (6, [.ref pg, .ref bk, .ref fg, .ref og, .ref lg, .int 0, .int 0, .int 0, .int 0, .int 0])), (fg, .inr (0, [.ref f1, .ref f2, .ref f3, .int 0, .int 0]))] H := hP
  have hD : va_D A [(h0, .inr (6, [.ref pg, .ref bk, .ref fg, .ref og, .ref lg, .int 0, .int 0, .int 0, .int 0, .int 0])), (fg, .inr (0, [.ref f1, .ref f2, .ref f3, .int 0, .int 0]))] := hD
  refine lv_nmi (show _ = (0 : Int32) from has0 _) ?_
  refine lv_if_eq (tgt := 22) hx hb dX6_step_8 (by decide) (fun c_5 => ?_) (fun c_5 => ?_)
  rotate_left
  · exact absurd c_5 (by decide)
  refine lv_sipush (v := -1001) hx hb dX6_step_22 (by decide) ?_
  exact hret _ _ _ _ _ _ (-1001) () dX6_step_25 rfl hS (Nat.le_of_ble_eq_true rfl) (Nat.le_of_ble_eq_true rfl) rfl (hP.sub [0, 1] rfl) (hD.sub [0, 1] rfl rfl)
set_option maxHeartbeats 4000000 in
set_option maxRecDepth 100000 in
theorem c_X6_edge (sz : Nat) (h0 : Nat) (pg : Nat) (bk : Nat) (fg : Nat) (og : Nat) (lg : Nat) (f1 : Nat) (f2 : Nat) (f3 : Nat) (p0 : Int32)  : CTi l D cI cJ cZ cR yX6_edge cX6_edge 2 (some .int) 1 21 0 0 sz [.ref h0, .int p0] [(h0, .inr (6, [.ref pg, .ref bk, .ref fg, .ref og, .ref lg, .int 0, .int 0, .int 0, .int 0, .int 0])), (fg, .inr (0, [.ref f1, .ref f2, .ref f3, .int 0, .int 0]))] (fun (r : Int32) (u : Unit) => (r = (-1001))) (fun (u : Unit) => [(h0, .inr (6, [.ref pg, .ref bk, .ref fg, .ref og, .ref lg, .int 0, .int 0, .int 0, .int 0, .int 0])), (fg, .inr (0, [.ref f1, .ref f2, .ref f3, .int 0, .int 0]))]) := by
  refine CTi.of (ty := .int) (by decide) (Nat.le_of_ble_eq_true rfl) rfl ?_
  intro p e s m below meth c A Q ls hd hin hK hsz hP hD hA hS hl hret
  obtain ⟨hx, hb, hml, hown, hts⟩ := id hd
  have hK1 := hK.1
  have hown : s.vm.findClass RX6 = some m.cls := hown
  have hl : lv_has ls 2 [(0, .ref h0), (1, .int p0)] := hl
  refine lv_aload_n hx hb dX6_edge_0 rfl (lv_at hl 0 rfl) ?_
  refine va_get (D := D) (ci := 6) (v := .ref fg) (C := RX6) (T := TX6) (N := 10) hx hb hts iT_X6 hown hK1 hP 0 rfl rfl 2 (by decide) (hts _ t_156) (fun _ h9 => h9) rfl dX6_edge_1 ?_
  refine lv_iload_n hx hb dX6_edge_4 rfl (lv_at hl 1 rfl) ?_
  refine xc_i (wc := [(fg, .inr (0, [.ref f1, .ref f2, .ref f3, .int 0, .int 0]))]) (wr := [(h0, .inr (6, [.ref pg, .ref bk, .ref fg, .ref og, .ref lg, .int 0, .int 0, .int 0, .int 0, .int 0]))]) (xrV (n := 1) (As := [.int p0]) (rest := []) (ci := 0) (q0 := 1) hd hK hP hD (c_X0_has l D cI cJ cZ cR _ fg f1 f2 f3 0 0 p0 ) (gV t_332 mV_X0_has) hV_X0_has ⟨(Nat.le_of_ble_eq_true rfl), (Nat.le_of_ble_eq_true rfl)⟩ rfl rfl [1] rfl rfl rfl hl.1 rfl (Nat.le_of_ble_eq_true rfl) dX6_edge_5 ⟨(Nat.le_of_ble_eq_true rfl), (Nat.le_of_ble_eq_true rfl)⟩) hP hD hS hA [1] [0] rfl rfl rfl (by decide) (fun r_1 u_2 H locs hw_3 hP hD hS => ?_)
  have hw_4 : r_1 = (if p0 < 0 then 0 else if 0 ≤ p0 then 0 else 1) := hw_3
  subst hw_4
  have hP : va_P D vwCl [(h0, .inr (6, [.ref pg, .ref bk, .ref fg, .ref og, .ref lg, .int 0, .int 0, .int 0, .int 0, .int 0])), (fg, .inr (0, [.ref f1, .ref f2, .ref f3, .int 0, .int 0]))] H := hP
  have hD : va_D A [(h0, .inr (6, [.ref pg, .ref bk, .ref fg, .ref og, .ref lg, .int 0, .int 0, .int 0, .int 0, .int 0])), (fg, .inr (0, [.ref f1, .ref f2, .ref f3, .int 0, .int 0]))] := hD
  refine lv_nmi (show _ = (0 : Int32) from has0 _) ?_
  refine lv_if_eq (tgt := 22) hx hb dX6_edge_8 (by decide) (fun c_5 => ?_) (fun c_5 => ?_)
  rotate_left
  · exact absurd c_5 (by decide)
  refine lv_sipush (v := -1001) hx hb dX6_edge_22 (by decide) ?_
  exact hret _ _ _ _ _ _ (-1001) () dX6_edge_25 rfl hS (Nat.le_of_ble_eq_true rfl) (Nat.le_of_ble_eq_true rfl) rfl (hP.sub [0, 1] rfl) (hD.sub [0, 1] rfl rfl)
set_option maxHeartbeats 4000000 in
set_option maxRecDepth 100000 in
theorem c_X0_put (sz : Nat) (fg : Nat) (f1 : Nat) (f2 : Nat) (f3 : Nat) (nd : Int32) (p1 : Int32) (p2 : Int32) (p3 : Int32) (g1 : Nat → Int32) (g2 : Nat → Int32) (g3 : Nat → Int32)  : CTv l D cI cJ cZ cR yX0_put cX0_put 5 none 0 0 0 0 sz [.ref fg, .int 0, .int p1, .int p2, .int p3] [(fg, .inr (0, [.ref f1, .ref f2, .ref f3, .int 0, .int nd])), (f1, .inl (cI, 12, .inl g1)), (f2, .inl (cI, 12, .inl g2)), (f3, .inl (cI, 12, .inl g3))] (fun (u : Unit) => True) (fun (u : Unit) => [(fg, .inr (0, [.ref f1, .ref f2, .ref f3, .int 0, .int nd])), (f1, .inl (cI, 12, .inl (upd g1 0 p1))), (f2, .inl (cI, 12, .inl (upd g2 0 p2))), (f3, .inl (cI, 12, .inl (upd g3 0 p3)))]) := by
  refine CTv.of (by decide) (Nat.le_of_ble_eq_true rfl) rfl ?_
  intro p e s m below meth c A Q ls hd hin hK hsz hP hD hA hS hl hret
  obtain ⟨hx, hb, hml, hown, hts⟩ := id hd
  have hK1 := hK.1
  have hown : s.vm.findClass RX0 = some m.cls := hown
  have hl : lv_has ls 5 [(0, .ref fg), (1, .int 0), (2, .int p1), (3, .int p2), (4, .int p3)] := hl
  refine lv_aload_n hx hb dX0_put_0 rfl (lv_at hl 0 rfl) ?_
  refine va_get (D := D) (ci := 0) (v := .ref f1) (C := RX0) (T := TX0) (N := 5) hx hb hts iT_X0 hown hK1 hP 0 rfl rfl 0 (by decide) (hts _ t_55) (fun _ h9 => h9) rfl dX0_put_1 ?_
  refine lv_iload_n hx hb dX0_put_4 rfl (lv_at hl 1 rfl) ?_
  refine lv_iload_n hx hb dX0_put_5 rfl (lv_at hl 2 rfl) ?_
  refine va_iast hx hb hK1 hP hD hS 1 0 rfl rfl (vin (by decide)) dX0_put_6 (fun H locs hP hD hS => ?_)
  have hP : va_P D vwCl [(fg, .inr (0, [.ref f1, .ref f2, .ref f3, .int 0, .int nd])), (f1, .inl (cI, 12, .inl (upd g1 0 p1))), (f2, .inl (cI, 12, .inl g2)), (f3, .inl (cI, 12, .inl g3))] H := hP
  have hD : va_D A [(fg, .inr (0, [.ref f1, .ref f2, .ref f3, .int 0, .int nd])), (f1, .inl (cI, 12, .inl (upd g1 0 p1))), (f2, .inl (cI, 12, .inl g2)), (f3, .inl (cI, 12, .inl g3))] := hD
  refine lv_aload_n hx hb dX0_put_7 rfl (lv_at hl 0 rfl) ?_
  refine va_get (D := D) (ci := 0) (v := .ref f2) (C := RX0) (T := TX0) (N := 5) hx hb hts iT_X0 hown hK1 hP 0 rfl rfl 1 (by decide) (hts _ t_58) (fun _ h9 => h9) rfl dX0_put_8 ?_
  refine lv_iload_n hx hb dX0_put_11 rfl (lv_at hl 1 rfl) ?_
  refine lv_iload_n hx hb dX0_put_12 rfl (lv_at hl 3 rfl) ?_
  refine va_iast hx hb hK1 hP hD hS 2 0 rfl rfl (vin (by decide)) dX0_put_13 (fun H locs hP hD hS => ?_)
  have hP : va_P D vwCl [(fg, .inr (0, [.ref f1, .ref f2, .ref f3, .int 0, .int nd])), (f1, .inl (cI, 12, .inl (upd g1 0 p1))), (f2, .inl (cI, 12, .inl (upd g2 0 p2))), (f3, .inl (cI, 12, .inl g3))] H := hP
  have hD : va_D A [(fg, .inr (0, [.ref f1, .ref f2, .ref f3, .int 0, .int nd])), (f1, .inl (cI, 12, .inl (upd g1 0 p1))), (f2, .inl (cI, 12, .inl (upd g2 0 p2))), (f3, .inl (cI, 12, .inl g3))] := hD
  refine lv_aload_n hx hb dX0_put_14 rfl (lv_at hl 0 rfl) ?_
  refine va_get (D := D) (ci := 0) (v := .ref f3) (C := RX0) (T := TX0) (N := 5) hx hb hts iT_X0 hown hK1 hP 0 rfl rfl 2 (by decide) (hts _ t_60) (fun _ h9 => h9) rfl dX0_put_15 ?_
  refine lv_iload_n hx hb dX0_put_18 rfl (lv_at hl 1 rfl) ?_
  refine lv_iload hx hb dX0_put_19 (lv_at hl 4 rfl) ?_
  refine va_iast hx hb hK1 hP hD hS 3 0 rfl rfl (vin (by decide)) dX0_put_21 (fun H locs hP hD hS => ?_)
  have hP : va_P D vwCl [(fg, .inr (0, [.ref f1, .ref f2, .ref f3, .int 0, .int nd])), (f1, .inl (cI, 12, .inl (upd g1 0 p1))), (f2, .inl (cI, 12, .inl (upd g2 0 p2))), (f3, .inl (cI, 12, .inl (upd g3 0 p3)))] H := hP
  have hD : va_D A [(fg, .inr (0, [.ref f1, .ref f2, .ref f3, .int 0, .int nd])), (f1, .inl (cI, 12, .inl (upd g1 0 p1))), (f2, .inl (cI, 12, .inl (upd g2 0 p2))), (f3, .inl (cI, 12, .inl (upd g3 0 p3)))] := hD
  exact hret _ _ _ _ _ _ () dX0_put_22 hS (Nat.le_of_ble_eq_true rfl) (Nat.le_of_ble_eq_true rfl) trivial (hP.sub [0, 1, 2, 3] rfl) (hD.sub [0, 1, 2, 3] rfl rfl)
set_option maxHeartbeats 4000000 in
set_option maxRecDepth 100000 in
theorem c_X0_append (sz : Nat) (fg : Nat) (f1 : Nat) (f2 : Nat) (f3 : Nat) (nd : Int32) (p1 : Int32) (p2 : Int32) (p3 : Int32) (g1 : Nat → Int32) (g2 : Nat → Int32) (g3 : Nat → Int32)  : CTv l D cI cJ cZ cR yX0_append cX0_append 4 none 1 24 0 0 sz [.ref fg, .int p1, .int p2, .int p3] [(fg, .inr (0, [.ref f1, .ref f2, .ref f3, .int 0, .int nd])), (f1, .inl (cI, 12, .inl g1)), (f2, .inl (cI, 12, .inl g2)), (f3, .inl (cI, 12, .inl g3))] (fun (u : Unit) => True) (fun (u : Unit) => [(fg, .inr (0, [.ref f1, .ref f2, .ref f3, .int 1, .int nd])), (f1, .inl (cI, 12, .inl (upd g1 0 p1))), (f2, .inl (cI, 12, .inl (upd g2 0 p2))), (f3, .inl (cI, 12, .inl (upd g3 0 p3)))]) := by
  refine CTv.of (by decide) (Nat.le_of_ble_eq_true rfl) rfl ?_
  intro p e s m below meth c A Q ls hd hin hK hsz hP hD hA hS hl hret
  obtain ⟨hx, hb, hml, hown, hts⟩ := id hd
  have hK1 := hK.1
  have hown : s.vm.findClass RX0 = some m.cls := hown
  have hl : lv_has ls 4 [(0, .ref fg), (1, .int p1), (2, .int p2), (3, .int p3)] := hl
  refine lv_aload_n hx hb dX0_append_0 rfl (lv_at hl 0 rfl) ?_
  refine va_get (D := D) (ci := 0) (v := .int 0) (C := RX0) (T := TX0) (N := 5) hx hb hts iT_X0 hown hK1 hP 0 rfl rfl 3 (by decide) (hts _ t_62) (fun _ h9 => h9) rfl dX0_append_1 ?_
  refine lv_aload_n hx hb dX0_append_4 rfl (lv_at hl 0 rfl) ?_
  refine va_get (D := D) (ci := 0) (v := .ref f1) (C := RX0) (T := TX0) (N := 5) hx hb hts iT_X0 hown hK1 hP 0 rfl rfl 0 (by decide) (hts _ t_55) (fun _ h9 => h9) rfl dX0_append_5 ?_
  refine va_alen hx hb hK1 hP 1 0 rfl rfl (v := 12) rfl dX0_append_8 ?_
  refine lv_icmp_ge (tgt := 33) hx hb dX0_append_9 (by decide) (fun c_1 => ?_) (fun c_1 => ?_)
  · exact absurd c_1 (by decide)
  refine lv_aload_n hx hb dX0_append_12 rfl (lv_at hl 0 rfl) ?_
  refine lv_aload_n hx hb dX0_append_13 rfl (lv_at hl 0 rfl) ?_
  refine va_get (D := D) (ci := 0) (v := .int 0) (C := RX0) (T := TX0) (N := 5) hx hb hts iT_X0 hown hK1 hP 0 rfl rfl 3 (by decide) (hts _ t_62) (fun _ h9 => h9) rfl dX0_append_14 ?_
  refine lv_iload_n hx hb dX0_append_17 rfl (lv_at hl 1 rfl) ?_
  refine lv_iload_n hx hb dX0_append_18 rfl (lv_at hl 2 rfl) ?_
  refine lv_iload_n hx hb dX0_append_19 rfl (lv_at hl 3 rfl) ?_
  refine xc_v (wc := [(fg, .inr (0, [.ref f1, .ref f2, .ref f3, .int 0, .int nd])), (f1, .inl (cI, 12, .inl g1)), (f2, .inl (cI, 12, .inl g2)), (f3, .inl (cI, 12, .inl g3))]) (wr := []) (xrV (n := 4) (As := [.int 0, .int p1, .int p2, .int p3]) (rest := []) (ci := 0) (q0 := 0) hd hK hP hD (c_X0_put l D cI cJ cZ cR _ fg f1 f2 f3 nd p1 p2 p3 g1 g2 g3 ) (gV t_275 mV_X0_put) hV_X0_put ⟨(Nat.le_of_ble_eq_true rfl), (Nat.le_of_ble_eq_true rfl)⟩ rfl rfl [0, 1, 2, 3] rfl rfl rfl hl.1 rfl (Nat.le_of_ble_eq_true rfl) dX0_append_20 ⟨(Nat.le_of_ble_eq_true rfl), (Nat.le_of_ble_eq_true rfl)⟩) hP hD hS hA [0, 1, 2, 3] [] rfl rfl rfl (by decide) (fun u_3 H locs hw_4 hP hD hS => ?_)
  have hP : va_P D vwCl [(fg, .inr (0, [.ref f1, .ref f2, .ref f3, .int 0, .int nd])), (f1, .inl (cI, 12, .inl (upd g1 0 p1))), (f2, .inl (cI, 12, .inl (upd g2 0 p2))), (f3, .inl (cI, 12, .inl (upd g3 0 p3)))] H := hP
  have hD : va_D A [(fg, .inr (0, [.ref f1, .ref f2, .ref f3, .int 0, .int nd])), (f1, .inl (cI, 12, .inl (upd g1 0 p1))), (f2, .inl (cI, 12, .inl (upd g2 0 p2))), (f3, .inl (cI, 12, .inl (upd g3 0 p3)))] := hD
  refine lv_aload_n hx hb dX0_append_23 rfl (lv_at hl 0 rfl) ?_
  refine lv_dup hx hb dX0_append_24 rfl ?_
  refine va_get (D := D) (ci := 0) (v := .int 0) (C := RX0) (T := TX0) (N := 5) hx hb hts iT_X0 hown hK1 hP 0 rfl rfl 3 (by decide) (hts _ t_62) (fun _ h9 => h9) rfl dX0_append_25 ?_
  refine lv_iconst (v := 1) hx hb dX0_append_28 (by decide) ?_
  refine lv_iadd hx hb dX0_append_29 ?_
  refine lv_nmi (show _ = (1 : Int32) from by decide +kernel) ?_
  refine va_put (D := D) (ci := 0) (v := .int 1) (ty := .int) (C := RX0) (T := TX0) (N := 5) hx hb hts iT_X0 tyX0 tyX0_ok nmX0 hown hK1 hP hD hS 0 rfl rfl 3 (by decide) (hts _ t_62) (fun _ h9 => h9) rfl (by decide +kernel) rfl rfl (Nat.le_of_ble_eq_true rfl) dX0_append_30 (fun H locs hP hD hS => ?_)
  have hP : va_P D vwCl [(fg, .inr (0, [.ref f1, .ref f2, .ref f3, .int 1, .int nd])), (f1, .inl (cI, 12, .inl (upd g1 0 p1))), (f2, .inl (cI, 12, .inl (upd g2 0 p2))), (f3, .inl (cI, 12, .inl (upd g3 0 p3)))] H := hP
  have hD : va_D A [(fg, .inr (0, [.ref f1, .ref f2, .ref f3, .int 1, .int nd])), (f1, .inl (cI, 12, .inl (upd g1 0 p1))), (f2, .inl (cI, 12, .inl (upd g2 0 p2))), (f3, .inl (cI, 12, .inl (upd g3 0 p3)))] := hD
  exact hret _ _ _ _ _ _ () dX0_append_33 hS (Nat.le_of_ble_eq_true rfl) (Nat.le_of_ble_eq_true rfl) trivial (hP.sub [0, 1, 2, 3] rfl) (hD.sub [0, 1, 2, 3] rfl rfl)
set_option maxHeartbeats 4000000 in
set_option maxRecDepth 100000 in
theorem c_X6_noteNewGraph (sz : Nat) (h0 : Nat) (pg : Nat) (bk : Nat) (fg : Nat) (og : Nat) (lg : Nat) (o1 : Int32) (o2 : Int32) (o3 : Int32) (o4 : Int32) (o5 : Int32)  : CTv l D cI cJ cZ cR yX6_noteNewGraph cX6_noteNewGraph 1 none 0 0 0 0 sz [.ref h0] [(h0, .inr (6, [.ref pg, .ref bk, .ref fg, .ref og, .ref lg, .int o1, .int o2, .int o3, .int o4, .int o5]))] (fun (u : Unit) => True) (fun (u : Unit) => [(h0, .inr (6, [.ref pg, .ref bk, .ref fg, .ref og, .ref lg, .int 0, .int o2, .int 0, .int o4, .int (o5 + 1)]))]) := by
  refine CTv.of (by decide) (Nat.le_of_ble_eq_true rfl) rfl ?_
  intro p e s m below meth c A Q ls hd hin hK hsz hP hD hA hS hl hret
  obtain ⟨hx, hb, hml, hown, hts⟩ := id hd
  have hK1 := hK.1
  have hown : s.vm.findClass RX6 = some m.cls := hown
  have hl : lv_has ls 1 [(0, .ref h0)] := hl
  refine lv_aload_n hx hb dX6_noteNewGraph_0 rfl (lv_at hl 0 rfl) ?_
  refine lv_iconst (v := 0) hx hb dX6_noteNewGraph_1 (by decide) ?_
  refine va_put (D := D) (ci := 6) (v := .int 0) (ty := .boolean) (C := RX6) (T := TX6) (N := 10) hx hb hts iT_X6 tyX6 tyX6_ok nmX6 hown hK1 hP hD hS 0 rfl rfl 5 (by decide) (hts _ t_159) (fun _ h9 => h9) rfl (by decide +kernel) rfl rfl (Nat.le_of_ble_eq_true rfl) dX6_noteNewGraph_2 (fun H locs hP hD hS => ?_)
  have hP : va_P D vwCl [(h0, .inr (6, [.ref pg, .ref bk, .ref fg, .ref og, .ref lg, .int 0, .int o2, .int o3, .int o4, .int o5]))] H := hP
  have hD : va_D A [(h0, .inr (6, [.ref pg, .ref bk, .ref fg, .ref og, .ref lg, .int 0, .int o2, .int o3, .int o4, .int o5]))] := hD
  refine lv_aload_n hx hb dX6_noteNewGraph_5 rfl (lv_at hl 0 rfl) ?_
  refine lv_iconst (v := 0) hx hb dX6_noteNewGraph_6 (by decide) ?_
  refine va_put (D := D) (ci := 6) (v := .int 0) (ty := .int) (C := RX6) (T := TX6) (N := 10) hx hb hts iT_X6 tyX6 tyX6_ok nmX6 hown hK1 hP hD hS 0 rfl rfl 7 (by decide) (hts _ t_161) (fun _ h9 => h9) rfl (by decide +kernel) rfl rfl (Nat.le_of_ble_eq_true rfl) dX6_noteNewGraph_7 (fun H locs hP hD hS => ?_)
  have hP : va_P D vwCl [(h0, .inr (6, [.ref pg, .ref bk, .ref fg, .ref og, .ref lg, .int 0, .int o2, .int 0, .int o4, .int o5]))] H := hP
  have hD : va_D A [(h0, .inr (6, [.ref pg, .ref bk, .ref fg, .ref og, .ref lg, .int 0, .int o2, .int 0, .int o4, .int o5]))] := hD
  refine lv_aload_n hx hb dX6_noteNewGraph_10 rfl (lv_at hl 0 rfl) ?_
  refine lv_dup hx hb dX6_noteNewGraph_11 rfl ?_
  refine va_get (D := D) (ci := 6) (v := .int o5) (C := RX6) (T := TX6) (N := 10) hx hb hts iT_X6 hown hK1 hP 0 rfl rfl 9 (by decide) (hts _ t_163) (fun _ h9 => h9) rfl dX6_noteNewGraph_12 ?_
  refine lv_iconst (v := 1) hx hb dX6_noteNewGraph_15 (by decide) ?_
  refine lv_iadd hx hb dX6_noteNewGraph_16 ?_
  refine va_put (D := D) (ci := 6) (v := .int (o5 + 1)) (ty := .int) (C := RX6) (T := TX6) (N := 10) hx hb hts iT_X6 tyX6 tyX6_ok nmX6 hown hK1 hP hD hS 0 rfl rfl 9 (by decide) (hts _ t_163) (fun _ h9 => h9) rfl (by decide +kernel) rfl rfl (Nat.le_of_ble_eq_true rfl) dX6_noteNewGraph_17 (fun H locs hP hD hS => ?_)
  have hP : va_P D vwCl [(h0, .inr (6, [.ref pg, .ref bk, .ref fg, .ref og, .ref lg, .int 0, .int o2, .int 0, .int o4, .int (o5 + 1)]))] H := hP
  have hD : va_D A [(h0, .inr (6, [.ref pg, .ref bk, .ref fg, .ref og, .ref lg, .int 0, .int o2, .int 0, .int o4, .int (o5 + 1)]))] := hD
  exact hret _ _ _ _ _ _ () dX6_noteNewGraph_20 hS (Nat.le_of_ble_eq_true rfl) (Nat.le_of_ble_eq_true rfl) trivial (hP.sub [0] rfl) (hD.sub [0] rfl rfl)
set_option maxHeartbeats 4000000 in
set_option maxRecDepth 100000 in
theorem c_X6_begin (sz : Nat) (h0 : Nat) (pg : Nat) (bk : Nat) (fg : Nat) (og : Nat) (lg : Nat) (f1 : Nat) (f2 : Nat) (f3 : Nat) (p0 : Int32)  : CTi l D cI cJ cZ cR yX6_begin cX6_begin 2 (some .int) 2 47 0 0 sz [.ref h0, .int p0] [(h0, .inr (6, [.ref pg, .ref bk, .ref fg, .ref og, .ref lg, .int 0, .int 0, .int 0, .int 0, .int 0])), (fg, .inr (0, [.ref f1, .ref f2, .ref f3, .int 0, .int 0])), (f1, .inl (cI, 12, .inl (fun _ => 0))), (f2, .inl (cI, 12, .inl (fun _ => 0))), (f3, .inl (cI, 12, .inl (fun _ => 0)))] (fun (r : Int32) (u : Unit) => (r = (if p0 < 0 then -1001 else if 3 ≤ p0 then -1001 else 1))) (fun (u : Unit) => []) := by
  refine CTi.of (ty := .int) (by decide) (Nat.le_of_ble_eq_true rfl) rfl ?_
  intro p e s m below meth c A Q ls hd hin hK hsz hP hD hA hS hl hret
  obtain ⟨hx, hb, hml, hown, hts⟩ := id hd
  have hK1 := hK.1
  have hown : s.vm.findClass RX6 = some m.cls := hown
  have hl : lv_has ls 2 [(0, .ref h0), (1, .int p0)] := hl
  refine lv_iload_n hx hb dX6_begin_0 rfl (lv_at hl 1 rfl) ?_
  refine xc_i (wc := []) (wr := [(h0, .inr (6, [.ref pg, .ref bk, .ref fg, .ref og, .ref lg, .int 0, .int 0, .int 0, .int 0, .int 0])), (fg, .inr (0, [.ref f1, .ref f2, .ref f3, .int 0, .int 0])), (f1, .inl (cI, 12, .inl (fun _ => 0))), (f2, .inl (cI, 12, .inl (fun _ => 0))), (f3, .inl (cI, 12, .inl (fun _ => 0)))]) (xrS (n := 1) (As := [.int p0]) (rest := []) hd hK hP hD (c_X6_isOpen l D cI cJ cZ cR _ p0 ) (gS t_341 mS_X6_isOpen) hS_X6_isOpen ⟨(Nat.le_of_ble_eq_true rfl), (Nat.le_of_ble_eq_true rfl)⟩ [] rfl rfl rfl hl.1 rfl (Nat.le_of_ble_eq_true rfl) dX6_begin_1 ⟨(Nat.le_of_ble_eq_true rfl), (Nat.le_of_ble_eq_true rfl)⟩) hP hD hS hA [] [0, 1, 2, 3, 4] rfl rfl rfl (by decide) (fun r_1 u_2 H locs hw_3 hP hD hS => ?_)
  have hw_4 : r_1 = (if p0 < 0 then 0 else if 3 ≤ p0 then 0 else 1) := hw_3
  subst hw_4
  have hP : va_P D vwCl [(h0, .inr (6, [.ref pg, .ref bk, .ref fg, .ref og, .ref lg, .int 0, .int 0, .int 0, .int 0, .int 0])), (fg, .inr (0, [.ref f1, .ref f2, .ref f3, .int 0, .int 0])), (f1, .inl (cI, 12, .inl (fun _ => 0))), (f2, .inl (cI, 12, .inl (fun _ => 0))), (f3, .inl (cI, 12, .inl (fun _ => 0)))] H := hP
  have hD : va_D A [(h0, .inr (6, [.ref pg, .ref bk, .ref fg, .ref og, .ref lg, .int 0, .int 0, .int 0, .int 0, .int 0])), (fg, .inr (0, [.ref f1, .ref f2, .ref f3, .int 0, .int 0])), (f1, .inl (cI, 12, .inl (fun _ => 0))), (f2, .inl (cI, 12, .inl (fun _ => 0))), (f3, .inl (cI, 12, .inl (fun _ => 0)))] := hD
  refine lv_if_ne (tgt := 11) hx hb dX6_begin_4 (by decide) (fun c_5 => ?_) (fun c_5 => ?_)
  · skip
    refine lv_aload_n hx hb dX6_begin_11 rfl (lv_at hl 0 rfl) ?_
    refine va_get (D := D) (ci := 6) (v := .ref fg) (C := RX6) (T := TX6) (N := 10) hx hb hts iT_X6 hown hK1 hP 0 rfl rfl 2 (by decide) (hts _ t_156) (fun _ h9 => h9) rfl dX6_begin_12 ?_
    refine lv_iconst (v := 2) hx hb dX6_begin_15 (by decide) ?_
    refine xc_v (wc := [(fg, .inr (0, [.ref f1, .ref f2, .ref f3, .int 0, .int 0]))]) (wr := [(h0, .inr (6, [.ref pg, .ref bk, .ref fg, .ref og, .ref lg, .int 0, .int 0, .int 0, .int 0, .int 0])), (f1, .inl (cI, 12, .inl (fun _ => 0))), (f2, .inl (cI, 12, .inl (fun _ => 0))), (f3, .inl (cI, 12, .inl (fun _ => 0)))]) (xrV (n := 1) (As := [.int 2]) (rest := []) (ci := 0) (q0 := 1) hd hK hP hD (c_X0_clear l D cI cJ cZ cR _ fg f1 f2 f3 0 0 2 ) (gV t_342 mV_X0_clear) hV_X0_clear ⟨(Nat.le_of_ble_eq_true rfl), (Nat.le_of_ble_eq_true rfl)⟩ rfl rfl [1] rfl rfl rfl hl.1 rfl (Nat.le_of_ble_eq_true rfl) dX6_begin_16 ⟨(Nat.le_of_ble_eq_true rfl), (Nat.le_of_ble_eq_true rfl)⟩) hP hD hS hA [1] [0, 2, 3, 4] rfl rfl rfl (by decide) (fun u_7 H locs hw_8 hP hD hS => ?_)
    have hP : va_P D vwCl [(h0, .inr (6, [.ref pg, .ref bk, .ref fg, .ref og, .ref lg, .int 0, .int 0, .int 0, .int 0, .int 0])), (f1, .inl (cI, 12, .inl (fun _ => 0))), (f2, .inl (cI, 12, .inl (fun _ => 0))), (f3, .inl (cI, 12, .inl (fun _ => 0))), (fg, .inr (0, [.ref f1, .ref f2, .ref f3, .int 0, .int 2]))] H := hP
    have hD : va_D A [(h0, .inr (6, [.ref pg, .ref bk, .ref fg, .ref og, .ref lg, .int 0, .int 0, .int 0, .int 0, .int 0])), (f1, .inl (cI, 12, .inl (fun _ => 0))), (f2, .inl (cI, 12, .inl (fun _ => 0))), (f3, .inl (cI, 12, .inl (fun _ => 0))), (fg, .inr (0, [.ref f1, .ref f2, .ref f3, .int 0, .int 2]))] := hD
    refine lv_aload_n hx hb dX6_begin_19 rfl (lv_at hl 0 rfl) ?_
    refine va_get (D := D) (ci := 6) (v := .ref fg) (C := RX6) (T := TX6) (N := 10) hx hb hts iT_X6 hown hK1 hP 0 rfl rfl 2 (by decide) (hts _ t_156) (fun _ h9 => h9) rfl dX6_begin_20 ?_
    refine lv_iload_n hx hb dX6_begin_23 rfl (lv_at hl 1 rfl) ?_
    refine lv_iconst (v := 0) hx hb dX6_begin_24 (by decide) ?_
    refine lv_iconst (v := 1) hx hb dX6_begin_25 (by decide) ?_
    refine xc_v (wc := [(fg, .inr (0, [.ref f1, .ref f2, .ref f3, .int 0, .int 2])), (f1, .inl (cI, 12, .inl (fun _ => 0))), (f2, .inl (cI, 12, .inl (fun _ => 0))), (f3, .inl (cI, 12, .inl (fun _ => 0)))]) (wr := [(h0, .inr (6, [.ref pg, .ref bk, .ref fg, .ref og, .ref lg, .int 0, .int 0, .int 0, .int 0, .int 0]))]) (xrV (n := 3) (As := [.int p0, .int 0, .int 1]) (rest := []) (ci := 0) (q0 := 4) hd hK hP hD (c_X0_append l D cI cJ cZ cR _ fg f1 f2 f3 2 p0 0 1 (fun _ => 0) (fun _ => 0) (fun _ => 0) ) (gV t_343 mV_X0_append) hV_X0_append ⟨(Nat.le_of_ble_eq_true rfl), (Nat.le_of_ble_eq_true rfl)⟩ rfl rfl [4, 1, 2, 3] rfl rfl rfl hl.1 rfl (Nat.le_of_ble_eq_true rfl) dX6_begin_26 ⟨(Nat.le_of_ble_eq_true rfl), (Nat.le_of_ble_eq_true rfl)⟩) hP hD hS hA [4, 1, 2, 3] [0] rfl rfl rfl (by decide) (fun u_10 H locs hw_11 hP hD hS => ?_)
    have hP : va_P D vwCl [(h0, .inr (6, [.ref pg, .ref bk, .ref fg, .ref og, .ref lg, .int 0, .int 0, .int 0, .int 0, .int 0])), (fg, .inr (0, [.ref f1, .ref f2, .ref f3, .int 1, .int 2])), (f1, .inl (cI, 12, .inl (upd (fun _ => 0) 0 p0))), (f2, .inl (cI, 12, .inl (upd (fun _ => 0) 0 0))), (f3, .inl (cI, 12, .inl (upd (fun _ => 0) 0 1)))] H := hP
    have hD : va_D A [(h0, .inr (6, [.ref pg, .ref bk, .ref fg, .ref og, .ref lg, .int 0, .int 0, .int 0, .int 0, .int 0])), (fg, .inr (0, [.ref f1, .ref f2, .ref f3, .int 1, .int 2])), (f1, .inl (cI, 12, .inl (upd (fun _ => 0) 0 p0))), (f2, .inl (cI, 12, .inl (upd (fun _ => 0) 0 0))), (f3, .inl (cI, 12, .inl (upd (fun _ => 0) 0 1)))] := hD
    refine lv_aload_n hx hb dX6_begin_29 rfl (lv_at hl 0 rfl) ?_
    refine xc_v (wc := [(h0, .inr (6, [.ref pg, .ref bk, .ref fg, .ref og, .ref lg, .int 0, .int 0, .int 0, .int 0, .int 0]))]) (wr := [(fg, .inr (0, [.ref f1, .ref f2, .ref f3, .int 1, .int 2])), (f1, .inl (cI, 12, .inl (upd (fun _ => 0) 0 p0))), (f2, .inl (cI, 12, .inl (upd (fun _ => 0) 0 0))), (f3, .inl (cI, 12, .inl (upd (fun _ => 0) 0 1)))]) (xrV (n := 0) (As := []) (rest := []) (ci := 6) (q0 := 0) hd hK hP hD (c_X6_noteNewGraph l D cI cJ cZ cR _ h0 pg bk fg og lg 0 0 0 0 0 ) (gV t_324 mV_X6_noteNewGraph) hV_X6_noteNewGraph ⟨(Nat.le_of_ble_eq_true rfl), (Nat.le_of_ble_eq_true rfl)⟩ rfl rfl [0] rfl rfl rfl hl.1 rfl (Nat.le_of_ble_eq_true rfl) dX6_begin_30 ⟨(Nat.le_of_ble_eq_true rfl), (Nat.le_of_ble_eq_true rfl)⟩) hP hD hS hA [0] [1, 2, 3, 4] rfl rfl rfl (by decide) (fun u_13 H locs hw_14 hP hD hS => ?_)
    have hP : va_P D vwCl [(fg, .inr (0, [.ref f1, .ref f2, .ref f3, .int 1, .int 2])), (f1, .inl (cI, 12, .inl (upd (fun _ => 0) 0 p0))), (f2, .inl (cI, 12, .inl (upd (fun _ => 0) 0 0))), (f3, .inl (cI, 12, .inl (upd (fun _ => 0) 0 1))), (h0, .inr (6, [.ref pg, .ref bk, .ref fg, .ref og, .ref lg, .int 0, .int 0, .int 0, .int 0, .int (0 + 1)]))] H := hP
    have hD : va_D A [(fg, .inr (0, [.ref f1, .ref f2, .ref f3, .int 1, .int 2])), (f1, .inl (cI, 12, .inl (upd (fun _ => 0) 0 p0))), (f2, .inl (cI, 12, .inl (upd (fun _ => 0) 0 0))), (f3, .inl (cI, 12, .inl (upd (fun _ => 0) 0 1))), (h0, .inr (6, [.ref pg, .ref bk, .ref fg, .ref og, .ref lg, .int 0, .int 0, .int 0, .int 0, .int (0 + 1)]))] := hD
    refine lv_aload_n hx hb dX6_begin_33 rfl (lv_at hl 0 rfl) ?_
    refine va_get (D := D) (ci := 6) (v := .ref fg) (C := RX6) (T := TX6) (N := 10) hx hb hts iT_X6 hown hK1 hP 4 rfl rfl 2 (by decide) (hts _ t_156) (fun _ h9 => h9) rfl dX6_begin_34 ?_
    refine va_get (D := D) (ci := 0) (v := .int 1) (C := RX0) (T := TX0) (N := 5) hx hb hts iT_X0 hown hK1 hP 0 rfl rfl 3 (by decide) (hts _ t_64) (fun _ h9 => h9) rfl dX6_begin_37 ?_
    exact hret _ _ _ _ _ _ 1 () dX6_begin_40 rfl hS (Nat.le_of_ble_eq_true rfl) (Nat.le_of_ble_eq_true rfl) (opn_few2 c_5) (hP.sub [] rfl) (hD.sub [] rfl rfl)
  · skip
    refine lv_sipush (v := -1001) hx hb dX6_begin_7 (by decide) ?_
    exact hret _ _ _ _ _ _ (-1001) () dX6_begin_10 rfl hS (Nat.le_of_ble_eq_true rfl) (Nat.le_of_ble_eq_true rfl) (opn_few c_5) (hP.sub [] rfl) (hD.sub [] rfl rfl)
end
end
section
theorem mV_X6_digest : Cond.instanceMethod yX6_digest ∈ gT ∧ Cond.selects RX6 yX6_digest yX6_digest ∈ gT ∧ Cond.initialized RX6 ∈ gT ∧ Cond.code yX6_digest cX6_digest 5 (some .long) ∈ gT := ⟨t_530, t_531, t_1, t_532⟩
theorem hV_X6_digest : yX6_digest.cls = RX6 ∧ yX6_digest.cls ≠ "java/lang/invoke/MethodHandle" ∧ yX6_digest.cls ≠ "java/lang/invoke/VarHandle" ∧ (parseMethodDescriptor yX6_digest.desc).map (fun d => d.parameters.length) = some 0 := by decide +kernel
theorem dX6_digest_0 : decode cX6_digest 0 = .ok (.ldc2_w 173, 3) := by decide +kernel
theorem dX6_digest_3 : decode cX6_digest 3 = .ok (.lstore_n 1, 1) := by decide +kernel
theorem dX6_digest_4 : decode cX6_digest 4 = .ok (.iconst 0, 1) := by decide +kernel
theorem dX6_digest_5 : decode cX6_digest 5 = .ok (.istore_n 3, 1) := by decide +kernel
theorem dX6_digest_6 : decode cX6_digest 6 = .ok (.iload_n 3, 1) := by decide +kernel
theorem dX6_digest_7 : decode cX6_digest 7 = .ok (.aload_n 0, 1) := by decide +kernel
theorem dX6_digest_8 : decode cX6_digest 8 = .ok (.getfield 19, 3) := by decide +kernel
theorem dX6_digest_11 : decode cX6_digest 11 = .ok (.getfield 80, 3) := by decide +kernel
theorem dX6_digest_14 : decode cX6_digest 14 = .ok (.if_icmp .ge 65, 3) := by decide +kernel
theorem dX6_digest_79 : decode cX6_digest 79 = .ok (.iconst 0, 1) := by decide +kernel
theorem dX6_digest_80 : decode cX6_digest 80 = .ok (.istore_n 3, 1) := by decide +kernel
theorem dX6_digest_81 : decode cX6_digest 81 = .ok (.iload_n 3, 1) := by decide +kernel
theorem dX6_digest_82 : decode cX6_digest 82 = .ok (.aload_n 0, 1) := by decide +kernel
theorem dX6_digest_83 : decode cX6_digest 83 = .ok (.getfield 28, 3) := by decide +kernel
theorem dX6_digest_86 : decode cX6_digest 86 = .ok (.getfield 102, 3) := by decide +kernel
theorem dX6_digest_89 : decode cX6_digest 89 = .ok (.if_icmp .ge 19, 3) := by decide +kernel
theorem dX6_digest_108 : decode cX6_digest 108 = .ok (.lload_n 1, 1) := by decide +kernel
theorem dX6_digest_109 : decode cX6_digest 109 = .ok (.aload_n 0, 1) := by decide +kernel
theorem dX6_digest_110 : decode cX6_digest 110 = .ok (.invokevirtual 185, 3) := by decide +kernel
theorem dX6_digest_113 : decode cX6_digest 113 = .ok (.invokestatic 178, 3) := by decide +kernel
theorem dX6_digest_116 : decode cX6_digest 116 = .ok (.lstore_n 1, 1) := by decide +kernel
theorem dX6_digest_117 : decode cX6_digest 117 = .ok (.iconst 0, 1) := by decide +kernel
theorem dX6_digest_118 : decode cX6_digest 118 = .ok (.istore_n 3, 1) := by decide +kernel
theorem dX6_digest_119 : decode cX6_digest 119 = .ok (.iload_n 3, 1) := by decide +kernel
theorem dX6_digest_120 : decode cX6_digest 120 = .ok (.iconst 3, 1) := by decide +kernel
theorem dX6_digest_121 : decode cX6_digest 121 = .ok (.if_icmp .ge 67, 3) := by decide +kernel
theorem dX6_digest_124 : decode cX6_digest 124 = .ok (.lload_n 1, 1) := by decide +kernel
theorem dX6_digest_125 : decode cX6_digest 125 = .ok (.aload_n 0, 1) := by decide +kernel
theorem dX6_digest_126 : decode cX6_digest 126 = .ok (.iload_n 3, 1) := by decide +kernel
theorem dX6_digest_127 : decode cX6_digest 127 = .ok (.invokevirtual 188, 3) := by decide +kernel
theorem dX6_digest_130 : decode cX6_digest 130 = .ok (.invokestatic 178, 3) := by decide +kernel
theorem dX6_digest_133 : decode cX6_digest 133 = .ok (.aload_n 0, 1) := by decide +kernel
theorem dX6_digest_134 : decode cX6_digest 134 = .ok (.iload_n 3, 1) := by decide +kernel
theorem dX6_digest_135 : decode cX6_digest 135 = .ok (.invokevirtual 191, 3) := by decide +kernel
theorem dX6_digest_138 : decode cX6_digest 138 = .ok (.invokestatic 178, 3) := by decide +kernel
theorem dX6_digest_141 : decode cX6_digest 141 = .ok (.lstore_n 1, 1) := by decide +kernel
theorem dX6_digest_142 : decode cX6_digest 142 = .ok (.iconst 0, 1) := by decide +kernel
theorem dX6_digest_143 : decode cX6_digest 143 = .ok (.istore 4, 2) := by decide +kernel
theorem dX6_digest_145 : decode cX6_digest 145 = .ok (.iload 4, 2) := by decide +kernel
theorem dX6_digest_147 : decode cX6_digest 147 = .ok (.bipush 16, 2) := by decide +kernel
theorem dX6_digest_149 : decode cX6_digest 149 = .ok (.if_icmp .ge 33, 3) := by decide +kernel
theorem dX6_digest_152 : decode cX6_digest 152 = .ok (.lload_n 1, 1) := by decide +kernel
theorem dX6_digest_153 : decode cX6_digest 153 = .ok (.aload_n 0, 1) := by decide +kernel
theorem dX6_digest_154 : decode cX6_digest 154 = .ok (.iload_n 3, 1) := by decide +kernel
theorem dX6_digest_155 : decode cX6_digest 155 = .ok (.iload 4, 2) := by decide +kernel
theorem dX6_digest_157 : decode cX6_digest 157 = .ok (.iconst 0, 1) := by decide +kernel
theorem dX6_digest_158 : decode cX6_digest 158 = .ok (.invokevirtual 194, 3) := by decide +kernel
theorem dX6_digest_161 : decode cX6_digest 161 = .ok (.invokestatic 178, 3) := by decide +kernel
theorem dX6_digest_164 : decode cX6_digest 164 = .ok (.aload_n 0, 1) := by decide +kernel
theorem dX6_digest_165 : decode cX6_digest 165 = .ok (.iload_n 3, 1) := by decide +kernel
theorem dX6_digest_166 : decode cX6_digest 166 = .ok (.iload 4, 2) := by decide +kernel
theorem dX6_digest_168 : decode cX6_digest 168 = .ok (.iconst 1, 1) := by decide +kernel
theorem dX6_digest_169 : decode cX6_digest 169 = .ok (.invokevirtual 194, 3) := by decide +kernel
theorem dX6_digest_172 : decode cX6_digest 172 = .ok (.invokestatic 178, 3) := by decide +kernel
theorem dX6_digest_175 : decode cX6_digest 175 = .ok (.lstore_n 1, 1) := by decide +kernel
theorem dX6_digest_176 : decode cX6_digest 176 = .ok (.iinc 4 1, 3) := by decide +kernel
theorem dX6_digest_179 : decode cX6_digest 179 = .ok (.goto (-34), 3) := by decide +kernel
theorem dX6_digest_182 : decode cX6_digest 182 = .ok (.iinc 3 1, 3) := by decide +kernel
theorem dX6_digest_185 : decode cX6_digest 185 = .ok (.goto (-66), 3) := by decide +kernel
theorem dX6_digest_188 : decode cX6_digest 188 = .ok (.iconst 0, 1) := by decide +kernel
theorem dX6_digest_189 : decode cX6_digest 189 = .ok (.istore_n 3, 1) := by decide +kernel
theorem dX6_digest_190 : decode cX6_digest 190 = .ok (.iload_n 3, 1) := by decide +kernel
theorem dX6_digest_191 : decode cX6_digest 191 = .ok (.aload_n 0, 1) := by decide +kernel
theorem dX6_digest_192 : decode cX6_digest 192 = .ok (.getfield 10, 3) := by decide +kernel
theorem dX6_digest_195 : decode cX6_digest 195 = .ok (.getfield 63, 3) := by decide +kernel
theorem dX6_digest_198 : decode cX6_digest 198 = .ok (.if_icmp .ge 23, 3) := by decide +kernel
theorem dX6_digest_221 : decode cX6_digest 221 = .ok (.iconst 0, 1) := by decide +kernel
theorem dX6_digest_222 : decode cX6_digest 222 = .ok (.istore_n 3, 1) := by decide +kernel
theorem dX6_digest_223 : decode cX6_digest 223 = .ok (.iload_n 3, 1) := by decide +kernel
theorem dX6_digest_224 : decode cX6_digest 224 = .ok (.bipush 8, 2) := by decide +kernel
theorem dX6_digest_226 : decode cX6_digest 226 = .ok (.if_icmp .ge 19, 3) := by decide +kernel
theorem dX6_digest_229 : decode cX6_digest 229 = .ok (.lload_n 1, 1) := by decide +kernel
theorem dX6_digest_230 : decode cX6_digest 230 = .ok (.aload_n 0, 1) := by decide +kernel
theorem dX6_digest_231 : decode cX6_digest 231 = .ok (.iload_n 3, 1) := by decide +kernel
theorem dX6_digest_232 : decode cX6_digest 232 = .ok (.invokevirtual 201, 3) := by decide +kernel
theorem dX6_digest_235 : decode cX6_digest 235 = .ok (.invokestatic 178, 3) := by decide +kernel
theorem dX6_digest_238 : decode cX6_digest 238 = .ok (.lstore_n 1, 1) := by decide +kernel
theorem dX6_digest_239 : decode cX6_digest 239 = .ok (.iinc 3 1, 3) := by decide +kernel
theorem dX6_digest_242 : decode cX6_digest 242 = .ok (.goto (-19), 3) := by decide +kernel
theorem dX6_digest_245 : decode cX6_digest 245 = .ok (.lload_n 1, 1) := by decide +kernel
theorem dX6_digest_246 : decode cX6_digest 246 = .ok (.lreturn, 1) := by decide +kernel
section
variable (l : Launch) (D : va_G) (cI cJ cZ cR : ClassId)
theorem c_kinds_g (sz : Nat) (h0 : Nat) (pg : Nat) (bk : Nat) (fg : Nat) (og : Nat) (lg : Nat) (br : Nat) (l1 : Nat) (l2 : Nat) (l3 : Nat) (l4 : Nat) (l5 : Nat) (a : Nat) (ff : Nat → Int64) (gf : Nat → Int32) (zf : Nat → Int32) (kf : Nat → Int32) (cf : Nat → Int32) (lsv : Int32) (ha : a < 3) (hL : LSt lsv ff gf) : CTi l D cI cJ cZ cR yX6_kinds cX6_kinds 4 (some .int) 4 89 0 0 sz [.ref h0, .int (nI a)] [(h0, .inr (6, [.ref pg, .ref bk, .ref fg, .ref og, .ref lg, .int 0, .int lsv, .int 0, .int 0, .int 0])), (lg, .inr (1, [.ref l1, .ref l2, .ref l3, .ref l4, .ref l5])), (l1, .inl (cJ, 96, .inr (.inl ff))), (l2, .inl (cI, 96, .inl gf)), (l3, .inl (cZ, 96, .inl zf)), (l4, .inl (cI, 96, .inl kf)), (l5, .inl (cI, 6, .inl cf)), (bk, .inr (5, [.ref br, .int 0]))] (fun (r : Int32) (u : (Nat → Int64) × (Nat → Int32) × (Nat → Int32) × (Nat → Int32) × (Nat → Int32)) => (r = 0) ∧ (Lz u.1 u.2.1)) (fun (u : (Nat → Int64) × (Nat → Int32) × (Nat → Int32) × (Nat → Int32) × (Nat → Int32)) => [(h0, .inr (6, [.ref pg, .ref bk, .ref fg, .ref og, .ref lg, .int 0, .int 1, .int 0, .int 0, .int 0])), (lg, .inr (1, [.ref l1, .ref l2, .ref l3, .ref l4, .ref l5])), (l1, .inl (cJ, 96, .inr (.inl u.1))), (l2, .inl (cI, 96, .inl u.2.1)), (l3, .inl (cZ, 96, .inl u.2.2.1)), (l4, .inl (cI, 96, .inl u.2.2.2.1)), (l5, .inl (cI, 6, .inl u.2.2.2.2)), (bk, .inr (5, [.ref br, .int 0]))]) := by
  rcases hL with rfl | ⟨rfl, h⟩
  · exact c_kinds_0 l D cI cJ cZ cR sz h0 pg bk fg og lg br l1 l2 l3 l4 l5 a ff gf zf kf cf ha
  · exact c_kinds_1 l D cI cJ cZ cR sz h0 pg bk fg og lg br l1 l2 l3 l4 l5 a ff gf zf kf cf ha h
set_option maxHeartbeats 4000000 in
set_option maxRecDepth 100000 in
theorem c_X6_digest (sz : Nat) (h0 : Nat) (pg : Nat) (bk : Nat) (fg : Nat) (og : Nat) (lg : Nat) (br : Nat) (l1 : Nat) (l2 : Nat) (l3 : Nat) (l4 : Nat) (l5 : Nat) (pc : Nat) (w1 : Nat) (w2 : Nat) (w3 : Nat) (ff : Nat → Int64) (gf : Nat → Int32) (zf : Nat → Int32) (kf : Nat → Int32) (cf : Nat → Int32)  : CTl l D cI cJ cZ cR yX6_digest cX6_digest 5 (some .long) 5 112 0 0 sz [.ref h0] [(h0, .inr (6, [.ref pg, .ref bk, .ref fg, .ref og, .ref lg, .int 0, .int 0, .int 0, .int 0, .int 0])), (lg, .inr (1, [.ref l1, .ref l2, .ref l3, .ref l4, .ref l5])), (l1, .inl (cJ, 96, .inr (.inl ff))), (l2, .inl (cI, 96, .inl gf)), (l3, .inl (cZ, 96, .inl zf)), (l4, .inl (cI, 96, .inl kf)), (l5, .inl (cI, 6, .inl cf)), (bk, .inr (5, [.ref br, .int 0])), (pg, .inr (3, [.ref pc, .int 0])), (fg, .inr (0, [.ref w1, .ref w2, .ref w3, .int 0, .int 0]))] (fun (r : Int64) (u : Unit) => (r = (dC (dO 3) 8))) (fun (u : Unit) => []) := by
  refine CTl.of (by decide) (Nat.le_of_ble_eq_true rfl) rfl ?_
  intro p e s m below meth c A Q ls hd hin hK hsz hP hD hA hS hl hret
  obtain ⟨hx, hb, hml, hown, hts⟩ := id hd
  have hK1 := hK.1
  have hown : s.vm.findClass RX6 = some m.cls := hown
  have hl : lv_has ls 5 [(0, .ref h0)] := hl
  refine lv_ldc2 hx hb hown (hts _ t_533) dX6_digest_0 ?_
  refine lv_lstore_n (lv' := [(1, .long 1709), (0, .ref h0)]) hx hb dX6_digest_3 rfl hl (by decide) rfl (fun ls hl => ?_)
  refine lv_iconst (v := 0) hx hb dX6_digest_4 (by decide) ?_
  refine lv_istore_n (lv' := [(3, .int 0), (1, .long 1709), (0, .ref h0)]) hx hb dX6_digest_5 rfl hl (by decide) rfl (fun ls hl => ?_)
  refine lv_iload_n hx hb dX6_digest_6 rfl (lv_at hl 0 rfl) ?_
  refine lv_aload_n hx hb dX6_digest_7 rfl (lv_at hl 2 rfl) ?_
  refine va_get (D := D) (ci := 6) (v := .ref bk) (C := RX6) (T := TX6) (N := 10) hx hb hts iT_X6 hown hK1 hP 0 rfl rfl 1 (by decide) (hts _ t_155) (fun _ h9 => h9) rfl dX6_digest_8 ?_
  refine va_get (D := D) (ci := 5) (v := .int 0) (C := RX5) (T := TX5) (N := 2) hx hb hts iT_X5 hown hK1 hP 7 rfl rfl 1 (by decide) (hts _ t_107) (fun _ h9 => h9) rfl dX6_digest_11 ?_
  refine lv_icmp_ge (tgt := 79) hx hb dX6_digest_14 (by decide) (fun c_1 => ?_) (fun c_1 => ?_)
  rotate_left
  · exact absurd c_1 (by decide)
  refine lv_iconst (v := 0) hx hb dX6_digest_79 (by decide) ?_
  refine lv_istore_n (lv' := [(3, .int 0), (1, .long 1709), (0, .ref h0)]) hx hb dX6_digest_80 rfl hl (by decide) rfl (fun ls hl => ?_)
  refine lv_iload_n hx hb dX6_digest_81 rfl (lv_at hl 0 rfl) ?_
  refine lv_aload_n hx hb dX6_digest_82 rfl (lv_at hl 2 rfl) ?_
  refine va_get (D := D) (ci := 6) (v := .ref fg) (C := RX6) (T := TX6) (N := 10) hx hb hts iT_X6 hown hK1 hP 0 rfl rfl 2 (by decide) (hts _ t_156) (fun _ h9 => h9) rfl dX6_digest_83 ?_
  refine va_get (D := D) (ci := 0) (v := .int 0) (C := RX0) (T := TX0) (N := 5) hx hb hts iT_X0 hown hK1 hP 9 rfl rfl 3 (by decide) (hts _ t_64) (fun _ h9 => h9) rfl dX6_digest_86 ?_
  refine lv_icmp_ge (tgt := 108) hx hb dX6_digest_89 (by decide) (fun c_2 => ?_) (fun c_2 => ?_)
  rotate_left
  · exact absurd c_2 (by decide)
  refine lv_lload_n hx hb dX6_digest_108 rfl (lv_at hl 1 rfl) ?_
  refine lv_aload_n hx hb dX6_digest_109 rfl (lv_at hl 2 rfl) ?_
  refine xc_i (wc := [(h0, .inr (6, [.ref pg, .ref bk, .ref fg, .ref og, .ref lg, .int 0, .int 0, .int 0, .int 0, .int 0])), (fg, .inr (0, [.ref w1, .ref w2, .ref w3, .int 0, .int 0]))]) (wr := [(lg, .inr (1, [.ref l1, .ref l2, .ref l3, .ref l4, .ref l5])), (l1, .inl (cJ, 96, .inr (.inl ff))), (l2, .inl (cI, 96, .inl gf)), (l3, .inl (cZ, 96, .inl zf)), (l4, .inl (cI, 96, .inl kf)), (l5, .inl (cI, 6, .inl cf)), (bk, .inr (5, [.ref br, .int 0])), (pg, .inr (3, [.ref pc, .int 0]))]) (xrV (n := 0) (As := []) (rest := [.long 1709]) (ci := 6) (q0 := 0) hd hK hP hD (c_X6_kind l D cI cJ cZ cR _ h0 pg bk fg og lg w1 w2 w3 0 ) (gV t_540 mV_X6_kind) hV_X6_kind ⟨(Nat.le_of_ble_eq_true rfl), (Nat.le_of_ble_eq_true rfl)⟩ rfl rfl [0, 9] rfl rfl rfl hl.1 rfl (Nat.le_of_ble_eq_true rfl) dX6_digest_110 ⟨(Nat.le_of_ble_eq_true rfl), (Nat.le_of_ble_eq_true rfl)⟩) hP hD hS hA [0, 9] [1, 2, 3, 4, 5, 6, 7, 8] rfl rfl rfl (by decide) (fun r_3 u_4 H locs hw_5 hP hD hS => ?_)
  have hw_6 : r_3 = (-1003) := hw_5
  subst hw_6
  have hP : va_P D vwCl [(lg, .inr (1, [.ref l1, .ref l2, .ref l3, .ref l4, .ref l5])), (l1, .inl (cJ, 96, .inr (.inl ff))), (l2, .inl (cI, 96, .inl gf)), (l3, .inl (cZ, 96, .inl zf)), (l4, .inl (cI, 96, .inl kf)), (l5, .inl (cI, 6, .inl cf)), (bk, .inr (5, [.ref br, .int 0])), (pg, .inr (3, [.ref pc, .int 0])), (h0, .inr (6, [.ref pg, .ref bk, .ref fg, .ref og, .ref lg, .int 0, .int 0, .int 0, .int 0, .int 0])), (fg, .inr (0, [.ref w1, .ref w2, .ref w3, .int 0, .int 0]))] H := hP
  have hD : va_D A [(lg, .inr (1, [.ref l1, .ref l2, .ref l3, .ref l4, .ref l5])), (l1, .inl (cJ, 96, .inr (.inl ff))), (l2, .inl (cI, 96, .inl gf)), (l3, .inl (cZ, 96, .inl zf)), (l4, .inl (cI, 96, .inl kf)), (l5, .inl (cI, 6, .inl cf)), (bk, .inr (5, [.ref br, .int 0])), (pg, .inr (3, [.ref pc, .int 0])), (h0, .inr (6, [.ref pg, .ref bk, .ref fg, .ref og, .ref lg, .int 0, .int 0, .int 0, .int 0, .int 0])), (fg, .inr (0, [.ref w1, .ref w2, .ref w3, .int 0, .int 0]))] := hD
  refine xc_l (wc := []) (wr := [(lg, .inr (1, [.ref l1, .ref l2, .ref l3, .ref l4, .ref l5])), (l1, .inl (cJ, 96, .inr (.inl ff))), (l2, .inl (cI, 96, .inl gf)), (l3, .inl (cZ, 96, .inl zf)), (l4, .inl (cI, 96, .inl kf)), (l5, .inl (cI, 6, .inl cf)), (bk, .inr (5, [.ref br, .int 0])), (pg, .inr (3, [.ref pc, .int 0])), (h0, .inr (6, [.ref pg, .ref bk, .ref fg, .ref og, .ref lg, .int 0, .int 0, .int 0, .int 0, .int 0])), (fg, .inr (0, [.ref w1, .ref w2, .ref w3, .int 0, .int 0]))]) (xrS (n := 2) (As := [.long 1709, .int (-1003)]) (rest := []) hd hK hP hD (c_X6_mix l D cI cJ cZ cR _ 1709 (-1003) ) (gS t_535 mS_X6_mix) hS_X6_mix ⟨(Nat.le_of_ble_eq_true rfl), (Nat.le_of_ble_eq_true rfl)⟩ [] rfl rfl rfl hl.1 rfl (Nat.le_of_ble_eq_true rfl) dX6_digest_113 ⟨(Nat.le_of_ble_eq_true rfl), (Nat.le_of_ble_eq_true rfl)⟩) hP hD hS hA [] [0, 1, 2, 3, 4, 5, 6, 7, 8, 9] rfl rfl rfl (by decide) (fun r_7 u_8 H locs hw_9 hP hD hS => ?_)
  have hw_10 : r_7 = (31 * 1709 + Int32.toInt64 (-1003)) := hw_9
  subst hw_10
  have hP : va_P D vwCl [(lg, .inr (1, [.ref l1, .ref l2, .ref l3, .ref l4, .ref l5])), (l1, .inl (cJ, 96, .inr (.inl ff))), (l2, .inl (cI, 96, .inl gf)), (l3, .inl (cZ, 96, .inl zf)), (l4, .inl (cI, 96, .inl kf)), (l5, .inl (cI, 6, .inl cf)), (bk, .inr (5, [.ref br, .int 0])), (pg, .inr (3, [.ref pc, .int 0])), (h0, .inr (6, [.ref pg, .ref bk, .ref fg, .ref og, .ref lg, .int 0, .int 0, .int 0, .int 0, .int 0])), (fg, .inr (0, [.ref w1, .ref w2, .ref w3, .int 0, .int 0]))] H := hP
  have hD : va_D A [(lg, .inr (1, [.ref l1, .ref l2, .ref l3, .ref l4, .ref l5])), (l1, .inl (cJ, 96, .inr (.inl ff))), (l2, .inl (cI, 96, .inl gf)), (l3, .inl (cZ, 96, .inl zf)), (l4, .inl (cI, 96, .inl kf)), (l5, .inl (cI, 6, .inl cf)), (bk, .inr (5, [.ref br, .int 0])), (pg, .inr (3, [.ref pc, .int 0])), (h0, .inr (6, [.ref pg, .ref bk, .ref fg, .ref og, .ref lg, .int 0, .int 0, .int 0, .int 0, .int 0])), (fg, .inr (0, [.ref w1, .ref w2, .ref w3, .int 0, .int 0]))] := hD
  refine lv_nml (show _ = (dO 0 : Int64) from by rw [show Int32.toInt64 (-1003) = -1003 from by decide +kernel]; rfl) ?_
  refine lv_lstore_n (lv' := [(1, .long (dO 0)), (3, .int 0), (0, .ref h0)]) hx hb dX6_digest_116 rfl hl (by decide) rfl (fun ls hl => ?_)
  refine lv_iconst (v := 0) hx hb dX6_digest_117 (by decide) ?_
  refine lv_istore_n (lv' := [(3, .int 0), (1, .long (dO 0)), (0, .ref h0)]) hx hb dX6_digest_118 rfl hl (by decide) rfl (fun ls hl => ?_)
  have LOOP_119 : ∀ (n : Nat) (i : Nat) (lsv : Int32) (ff : Nat → Int64) (gf : Nat → Int32) (zf : Nat → Int32) (kf : Nat → Int32) (cf : Nat → Int32), (i + n = 3) → (LSt lsv ff gf) → ∀ (H : Heap) (locs : List Loc) (ls : Array Slot), va_P D vwCl [(h0, .inr (6, [.ref pg, .ref bk, .ref fg, .ref og, .ref lg, .int 0, .int lsv, .int 0, .int 0, .int 0])), (lg, .inr (1, [.ref l1, .ref l2, .ref l3, .ref l4, .ref l5])), (l1, .inl (cJ, 96, .inr (.inl ff))), (l2, .inl (cI, 96, .inl gf)), (l3, .inl (cZ, 96, .inl zf)), (l4, .inl (cI, 96, .inl kf)), (l5, .inl (cI, 6, .inl cf)), (bk, .inr (5, [.ref br, .int 0])), (pg, .inr (3, [.ref pc, .int 0])), (fg, .inr (0, [.ref w1, .ref w2, .ref w3, .int 0, .int 0]))] H → va_D A [(h0, .inr (6, [.ref pg, .ref bk, .ref fg, .ref og, .ref lg, .int 0, .int lsv, .int 0, .int 0, .int 0])), (lg, .inr (1, [.ref l1, .ref l2, .ref l3, .ref l4, .ref l5])), (l1, .inl (cJ, 96, .inr (.inl ff))), (l2, .inl (cI, 96, .inl gf)), (l3, .inl (cZ, 96, .inl zf)), (l4, .inl (cI, 96, .inl kf)), (l5, .inl (cI, 6, .inl cf)), (bk, .inr (5, [.ref br, .int 0])), (pg, .inr (3, [.ref pc, .int 0])), (fg, .inr (0, [.ref w1, .ref w2, .ref w3, .int 0, .int 0]))] → va_S A s.heap H locs → lv_has ls 5 [(0, .ref h0), (1, .long (dO i)), (3, .int (nI i))] → W p l e (rM 5 0 0 112) s m ([.ref h0] : List Value).toArray below meth c H locs 0 0 Q (F0 m 119 ls []) := by
    intro n
    induction n with
    | zero =>
      intro i lsv ff gf zf kf cf hi hL H locs ls hP hD hS hl
      refine lv_iload_n hx hb dX6_digest_119 rfl (lv_at hl 2 rfl) ?_
      refine lv_iconst (v := 3) hx hb dX6_digest_120 (by decide) ?_
      refine lv_icmp_ge (tgt := 188) hx hb dX6_digest_121 (by decide) (fun c_11 => ?_) (fun c_11 => ?_)
      rotate_left
      · exact absurd (nI_le (a := 3) (b := i) (by omega) (by omega)) c_11
      refine lv_iconst (v := 0) hx hb dX6_digest_188 (by decide) ?_
      refine lv_istore_n (lv' := [(3, .int 0), (0, .ref h0), (1, .long (dO i))]) hx hb dX6_digest_189 rfl hl (by decide) rfl (fun ls hl => ?_)
      refine lv_iload_n hx hb dX6_digest_190 rfl (lv_at hl 0 rfl) ?_
      refine lv_aload_n hx hb dX6_digest_191 rfl (lv_at hl 1 rfl) ?_
      refine va_get (D := D) (ci := 6) (v := .ref pg) (C := RX6) (T := TX6) (N := 10) hx hb hts iT_X6 hown hK1 hP 0 rfl rfl 0 (by decide) (hts _ t_154) (fun _ h9 => h9) rfl dX6_digest_192 ?_
      refine va_get (D := D) (ci := 3) (v := .int 0) (C := RX3) (T := TX3) (N := 2) hx hb hts iT_X3 hown hK1 hP 8 rfl rfl 1 (by decide) (hts _ t_29) (fun _ h9 => h9) rfl dX6_digest_195 ?_
      refine lv_icmp_ge (tgt := 221) hx hb dX6_digest_198 (by decide) (fun c_12 => ?_) (fun c_12 => ?_)
      rotate_left
      · exact absurd c_12 (by decide)
      refine lv_iconst (v := 0) hx hb dX6_digest_221 (by decide) ?_
      refine lv_istore_n (lv' := [(3, .int 0), (0, .ref h0), (1, .long (dO i))]) hx hb dX6_digest_222 rfl hl (by decide) rfl (fun ls hl => ?_)
      have LOOP_223 : ∀ (n : Nat) (j : Nat), (j + n = 8) → ∀ (H : Heap) (locs : List Loc) (ls : Array Slot), va_P D vwCl [(h0, .inr (6, [.ref pg, .ref bk, .ref fg, .ref og, .ref lg, .int 0, .int lsv, .int 0, .int 0, .int 0])), (lg, .inr (1, [.ref l1, .ref l2, .ref l3, .ref l4, .ref l5])), (l1, .inl (cJ, 96, .inr (.inl ff))), (l2, .inl (cI, 96, .inl gf)), (l3, .inl (cZ, 96, .inl zf)), (l4, .inl (cI, 96, .inl kf)), (l5, .inl (cI, 6, .inl cf)), (bk, .inr (5, [.ref br, .int 0])), (pg, .inr (3, [.ref pc, .int 0])), (fg, .inr (0, [.ref w1, .ref w2, .ref w3, .int 0, .int 0]))] H → va_D A [(h0, .inr (6, [.ref pg, .ref bk, .ref fg, .ref og, .ref lg, .int 0, .int lsv, .int 0, .int 0, .int 0])), (lg, .inr (1, [.ref l1, .ref l2, .ref l3, .ref l4, .ref l5])), (l1, .inl (cJ, 96, .inr (.inl ff))), (l2, .inl (cI, 96, .inl gf)), (l3, .inl (cZ, 96, .inl zf)), (l4, .inl (cI, 96, .inl kf)), (l5, .inl (cI, 6, .inl cf)), (bk, .inr (5, [.ref br, .int 0])), (pg, .inr (3, [.ref pc, .int 0])), (fg, .inr (0, [.ref w1, .ref w2, .ref w3, .int 0, .int 0]))] → va_S A s.heap H locs → lv_has ls 5 [(0, .ref h0), (1, .long (dC (dO i) j)), (3, .int (nI j))] → W p l e (rM 5 0 0 112) s m ([.ref h0] : List Value).toArray below meth c H locs 0 0 Q (F0 m 223 ls []) := by
        intro n
        induction n with
        | zero =>
          intro j hj H locs ls hP hD hS hl
          refine lv_iload_n hx hb dX6_digest_223 rfl (lv_at hl 2 rfl) ?_
          refine lv_bipush (v := 8) hx hb dX6_digest_224 (by decide) ?_
          refine lv_icmp_ge (tgt := 245) hx hb dX6_digest_226 (by decide) (fun c_13 => ?_) (fun c_13 => ?_)
          rotate_left
          · exact absurd (nI_le (a := 8) (b := j) (by omega) (by omega)) c_13
          refine lv_lload_n hx hb dX6_digest_245 rfl (lv_at hl 1 rfl) ?_
          exact hret _ _ _ _ _ _ (dC (dO i) j) () dX6_digest_246 hS (Nat.le_of_ble_eq_true rfl) (Nat.le_of_ble_eq_true rfl) (by rw [show j = 8 by omega, show i = 3 by omega]) (hP.sub [] rfl) (hD.sub [] rfl rfl)
        | succ n ih_223 =>
          intro j hj H locs ls hP hD hS hl
          refine lv_iload_n hx hb dX6_digest_223 rfl (lv_at hl 2 rfl) ?_
          refine lv_bipush (v := 8) hx hb dX6_digest_224 (by decide) ?_
          refine lv_icmp_ge (tgt := 245) hx hb dX6_digest_226 (by decide) (fun c_14 => ?_) (fun c_14 => ?_)
          · exact absurd c_14 (nI_ge (a := j) (b := 8) (by omega) (by omega))
          refine lv_lload_n hx hb dX6_digest_229 rfl (lv_at hl 1 rfl) ?_
          refine lv_aload_n hx hb dX6_digest_230 rfl (lv_at hl 0 rfl) ?_
          refine lv_iload_n hx hb dX6_digest_231 rfl (lv_at hl 2 rfl) ?_
          refine xc_i (wc := [(h0, .inr (6, [.ref pg, .ref bk, .ref fg, .ref og, .ref lg, .int 0, .int lsv, .int 0, .int 0, .int 0])), (pg, .inr (3, [.ref pc, .int 0])), (bk, .inr (5, [.ref br, .int 0])), (fg, .inr (0, [.ref w1, .ref w2, .ref w3, .int 0, .int 0]))]) (wr := [(lg, .inr (1, [.ref l1, .ref l2, .ref l3, .ref l4, .ref l5])), (l1, .inl (cJ, 96, .inr (.inl ff))), (l2, .inl (cI, 96, .inl gf)), (l3, .inl (cZ, 96, .inl zf)), (l4, .inl (cI, 96, .inl kf)), (l5, .inl (cI, 6, .inl cf))]) (xrV (n := 1) (As := [.int (nI j)]) (rest := [.long (dC (dO i) j)]) (ci := 6) (q0 := 0) hd hK hP hD (c_X6_count l D cI cJ cZ cR _ h0 pg bk fg og lg w1 w2 w3 pc br lsv (nI j) ) (gV t_544 mV_X6_count) hV_X6_count ⟨(Nat.le_of_ble_eq_true rfl), (Nat.le_of_ble_eq_true rfl)⟩ rfl rfl [0, 8, 7, 9] rfl rfl rfl hl.1 rfl (Nat.le_of_ble_eq_true rfl) dX6_digest_232 ⟨(Nat.le_of_ble_eq_true rfl), (Nat.le_of_ble_eq_true rfl)⟩) hP hD hS hA [0, 8, 7, 9] [1, 2, 3, 4, 5, 6] rfl rfl rfl (by decide) (fun r_15 u_16 H locs hw_17 hP hD hS => ?_)
          have hw_18 : r_15 = (cnt0 (nI j)) := hw_17
          subst hw_18
          have hP : va_P D vwCl [(lg, .inr (1, [.ref l1, .ref l2, .ref l3, .ref l4, .ref l5])), (l1, .inl (cJ, 96, .inr (.inl ff))), (l2, .inl (cI, 96, .inl gf)), (l3, .inl (cZ, 96, .inl zf)), (l4, .inl (cI, 96, .inl kf)), (l5, .inl (cI, 6, .inl cf)), (h0, .inr (6, [.ref pg, .ref bk, .ref fg, .ref og, .ref lg, .int 0, .int lsv, .int 0, .int 0, .int 0])), (pg, .inr (3, [.ref pc, .int 0])), (bk, .inr (5, [.ref br, .int 0])), (fg, .inr (0, [.ref w1, .ref w2, .ref w3, .int 0, .int 0]))] H := hP
          have hD : va_D A [(lg, .inr (1, [.ref l1, .ref l2, .ref l3, .ref l4, .ref l5])), (l1, .inl (cJ, 96, .inr (.inl ff))), (l2, .inl (cI, 96, .inl gf)), (l3, .inl (cZ, 96, .inl zf)), (l4, .inl (cI, 96, .inl kf)), (l5, .inl (cI, 6, .inl cf)), (h0, .inr (6, [.ref pg, .ref bk, .ref fg, .ref og, .ref lg, .int 0, .int lsv, .int 0, .int 0, .int 0])), (pg, .inr (3, [.ref pc, .int 0])), (bk, .inr (5, [.ref br, .int 0])), (fg, .inr (0, [.ref w1, .ref w2, .ref w3, .int 0, .int 0]))] := hD
          refine lv_nmi (show _ = (0 : Int32) from cnt0_ok (by omega)) ?_
          refine xc_l (wc := []) (wr := [(lg, .inr (1, [.ref l1, .ref l2, .ref l3, .ref l4, .ref l5])), (l1, .inl (cJ, 96, .inr (.inl ff))), (l2, .inl (cI, 96, .inl gf)), (l3, .inl (cZ, 96, .inl zf)), (l4, .inl (cI, 96, .inl kf)), (l5, .inl (cI, 6, .inl cf)), (h0, .inr (6, [.ref pg, .ref bk, .ref fg, .ref og, .ref lg, .int 0, .int lsv, .int 0, .int 0, .int 0])), (pg, .inr (3, [.ref pc, .int 0])), (bk, .inr (5, [.ref br, .int 0])), (fg, .inr (0, [.ref w1, .ref w2, .ref w3, .int 0, .int 0]))]) (xrS (n := 2) (As := [.long (dC (dO i) j), .int 0]) (rest := []) hd hK hP hD (c_X6_mix l D cI cJ cZ cR _ (dC (dO i) j) 0 ) (gS t_535 mS_X6_mix) hS_X6_mix ⟨(Nat.le_of_ble_eq_true rfl), (Nat.le_of_ble_eq_true rfl)⟩ [] rfl rfl rfl hl.1 rfl (Nat.le_of_ble_eq_true rfl) dX6_digest_235 ⟨(Nat.le_of_ble_eq_true rfl), (Nat.le_of_ble_eq_true rfl)⟩) hP hD hS hA [] [0, 1, 2, 3, 4, 5, 6, 7, 8, 9] rfl rfl rfl (by decide) (fun r_19 u_20 H locs hw_21 hP hD hS => ?_)
          have hw_22 : r_19 = (31 * (dC (dO i) j) + Int32.toInt64 0) := hw_21
          subst hw_22
          have hP : va_P D vwCl [(lg, .inr (1, [.ref l1, .ref l2, .ref l3, .ref l4, .ref l5])), (l1, .inl (cJ, 96, .inr (.inl ff))), (l2, .inl (cI, 96, .inl gf)), (l3, .inl (cZ, 96, .inl zf)), (l4, .inl (cI, 96, .inl kf)), (l5, .inl (cI, 6, .inl cf)), (h0, .inr (6, [.ref pg, .ref bk, .ref fg, .ref og, .ref lg, .int 0, .int lsv, .int 0, .int 0, .int 0])), (pg, .inr (3, [.ref pc, .int 0])), (bk, .inr (5, [.ref br, .int 0])), (fg, .inr (0, [.ref w1, .ref w2, .ref w3, .int 0, .int 0]))] H := hP
          have hD : va_D A [(lg, .inr (1, [.ref l1, .ref l2, .ref l3, .ref l4, .ref l5])), (l1, .inl (cJ, 96, .inr (.inl ff))), (l2, .inl (cI, 96, .inl gf)), (l3, .inl (cZ, 96, .inl zf)), (l4, .inl (cI, 96, .inl kf)), (l5, .inl (cI, 6, .inl cf)), (h0, .inr (6, [.ref pg, .ref bk, .ref fg, .ref og, .ref lg, .int 0, .int lsv, .int 0, .int 0, .int 0])), (pg, .inr (3, [.ref pc, .int 0])), (bk, .inr (5, [.ref br, .int 0])), (fg, .inr (0, [.ref w1, .ref w2, .ref w3, .int 0, .int 0]))] := hD
          refine lv_nml (show _ = (31 * dC (dO i) j + 0 : Int64) from by rw [show Int32.toInt64 (0) = 0 from by decide +kernel]) ?_
          refine lv_lstore_n (lv' := [(1, .long (31 * dC (dO i) j + 0)), (0, .ref h0), (3, .int (nI j))]) hx hb dX6_digest_238 rfl hl (by decide) rfl (fun ls hl => ?_)
          refine lv_iinc (v := nI (j + 1)) (lv' := [(3, .int (nI (j + 1))), (1, .long (31 * dC (dO i) j + 0)), (0, .ref h0)]) hx hb dX6_digest_239 hl (k := 2) rfl (nI_1 j) (by decide) rfl (fun ls hl => ?_)
          refine lv_goto (tgt := 223) hx hb dX6_digest_242 (by decide) ?_
          exact ih_223 (j + 1) (by omega) _ _ _ (hP.sub [6, 0, 1, 2, 3, 4, 5, 8, 7, 9] rfl) (hD.sub [6, 0, 1, 2, 3, 4, 5, 8, 7, 9] rfl rfl) hS (lv_sub hl [2, 1, 0] rfl)
      exact LOOP_223 8 0 (by omega) _ _ _ (hP.sub [0, 1, 2, 3, 4, 5, 6, 7, 8, 9] rfl) (hD.sub [0, 1, 2, 3, 4, 5, 6, 7, 8, 9] rfl rfl) hS (lv_sub hl [1, 2, 0] rfl)
    | succ n ih_119 =>
      intro i lsv ff gf zf kf cf hi hL H locs ls hP hD hS hl
      refine lv_iload_n hx hb dX6_digest_119 rfl (lv_at hl 2 rfl) ?_
      refine lv_iconst (v := 3) hx hb dX6_digest_120 (by decide) ?_
      refine lv_icmp_ge (tgt := 188) hx hb dX6_digest_121 (by decide) (fun c_23 => ?_) (fun c_23 => ?_)
      · exact absurd c_23 (nI_ge (a := i) (b := 3) (by omega) (by omega))
      refine lv_lload_n hx hb dX6_digest_124 rfl (lv_at hl 1 rfl) ?_
      refine lv_aload_n hx hb dX6_digest_125 rfl (lv_at hl 0 rfl) ?_
      refine lv_iload_n hx hb dX6_digest_126 rfl (lv_at hl 2 rfl) ?_
      refine xc_i (wc := [(h0, .inr (6, [.ref pg, .ref bk, .ref fg, .ref og, .ref lg, .int 0, .int lsv, .int 0, .int 0, .int 0])), (fg, .inr (0, [.ref w1, .ref w2, .ref w3, .int 0, .int 0]))]) (wr := [(lg, .inr (1, [.ref l1, .ref l2, .ref l3, .ref l4, .ref l5])), (l1, .inl (cJ, 96, .inr (.inl ff))), (l2, .inl (cI, 96, .inl gf)), (l3, .inl (cZ, 96, .inl zf)), (l4, .inl (cI, 96, .inl kf)), (l5, .inl (cI, 6, .inl cf)), (bk, .inr (5, [.ref br, .int 0])), (pg, .inr (3, [.ref pc, .int 0]))]) (xrV (n := 1) (As := [.int (nI i)]) (rest := [.long (dO i)]) (ci := 6) (q0 := 0) hd hK hP hD (c_X6_fewest l D cI cJ cZ cR _ h0 pg bk fg og lg w1 w2 w3 lsv (nI i) ) (gV t_541 mV_X6_fewest) hV_X6_fewest ⟨(Nat.le_of_ble_eq_true rfl), (Nat.le_of_ble_eq_true rfl)⟩ rfl rfl [0, 9] rfl rfl rfl hl.1 rfl (Nat.le_of_ble_eq_true rfl) dX6_digest_127 ⟨(Nat.le_of_ble_eq_true rfl), (Nat.le_of_ble_eq_true rfl)⟩) hP hD hS hA [0, 9] [1, 2, 3, 4, 5, 6, 7, 8] rfl rfl rfl (by decide) (fun r_24 u_25 H locs hw_26 hP hD hS => ?_)
      have hw_27 : r_24 = (if (nI i) < 0 then -1001 else if 3 ≤ (nI i) then -1001 else -1003) := hw_26
      subst hw_27
      have hP : va_P D vwCl [(lg, .inr (1, [.ref l1, .ref l2, .ref l3, .ref l4, .ref l5])), (l1, .inl (cJ, 96, .inr (.inl ff))), (l2, .inl (cI, 96, .inl gf)), (l3, .inl (cZ, 96, .inl zf)), (l4, .inl (cI, 96, .inl kf)), (l5, .inl (cI, 6, .inl cf)), (bk, .inr (5, [.ref br, .int 0])), (pg, .inr (3, [.ref pc, .int 0])), (h0, .inr (6, [.ref pg, .ref bk, .ref fg, .ref og, .ref lg, .int 0, .int lsv, .int 0, .int 0, .int 0])), (fg, .inr (0, [.ref w1, .ref w2, .ref w3, .int 0, .int 0]))] H := hP
      have hD : va_D A [(lg, .inr (1, [.ref l1, .ref l2, .ref l3, .ref l4, .ref l5])), (l1, .inl (cJ, 96, .inr (.inl ff))), (l2, .inl (cI, 96, .inl gf)), (l3, .inl (cZ, 96, .inl zf)), (l4, .inl (cI, 96, .inl kf)), (l5, .inl (cI, 6, .inl cf)), (bk, .inr (5, [.ref br, .int 0])), (pg, .inr (3, [.ref pc, .int 0])), (h0, .inr (6, [.ref pg, .ref bk, .ref fg, .ref og, .ref lg, .int 0, .int lsv, .int 0, .int 0, .int 0])), (fg, .inr (0, [.ref w1, .ref w2, .ref w3, .int 0, .int 0]))] := hD
      refine lv_nmi (show _ = (-1003 : Int32) from few_ok (by omega)) ?_
      refine xc_l (wc := []) (wr := [(lg, .inr (1, [.ref l1, .ref l2, .ref l3, .ref l4, .ref l5])), (l1, .inl (cJ, 96, .inr (.inl ff))), (l2, .inl (cI, 96, .inl gf)), (l3, .inl (cZ, 96, .inl zf)), (l4, .inl (cI, 96, .inl kf)), (l5, .inl (cI, 6, .inl cf)), (bk, .inr (5, [.ref br, .int 0])), (pg, .inr (3, [.ref pc, .int 0])), (h0, .inr (6, [.ref pg, .ref bk, .ref fg, .ref og, .ref lg, .int 0, .int lsv, .int 0, .int 0, .int 0])), (fg, .inr (0, [.ref w1, .ref w2, .ref w3, .int 0, .int 0]))]) (xrS (n := 2) (As := [.long (dO i), .int (-1003)]) (rest := []) hd hK hP hD (c_X6_mix l D cI cJ cZ cR _ (dO i) (-1003) ) (gS t_535 mS_X6_mix) hS_X6_mix ⟨(Nat.le_of_ble_eq_true rfl), (Nat.le_of_ble_eq_true rfl)⟩ [] rfl rfl rfl hl.1 rfl (Nat.le_of_ble_eq_true rfl) dX6_digest_130 ⟨(Nat.le_of_ble_eq_true rfl), (Nat.le_of_ble_eq_true rfl)⟩) hP hD hS hA [] [0, 1, 2, 3, 4, 5, 6, 7, 8, 9] rfl rfl rfl (by decide) (fun r_28 u_29 H locs hw_30 hP hD hS => ?_)
      have hw_31 : r_28 = (31 * (dO i) + Int32.toInt64 (-1003)) := hw_30
      subst hw_31
      have hP : va_P D vwCl [(lg, .inr (1, [.ref l1, .ref l2, .ref l3, .ref l4, .ref l5])), (l1, .inl (cJ, 96, .inr (.inl ff))), (l2, .inl (cI, 96, .inl gf)), (l3, .inl (cZ, 96, .inl zf)), (l4, .inl (cI, 96, .inl kf)), (l5, .inl (cI, 6, .inl cf)), (bk, .inr (5, [.ref br, .int 0])), (pg, .inr (3, [.ref pc, .int 0])), (h0, .inr (6, [.ref pg, .ref bk, .ref fg, .ref og, .ref lg, .int 0, .int lsv, .int 0, .int 0, .int 0])), (fg, .inr (0, [.ref w1, .ref w2, .ref w3, .int 0, .int 0]))] H := hP
      have hD : va_D A [(lg, .inr (1, [.ref l1, .ref l2, .ref l3, .ref l4, .ref l5])), (l1, .inl (cJ, 96, .inr (.inl ff))), (l2, .inl (cI, 96, .inl gf)), (l3, .inl (cZ, 96, .inl zf)), (l4, .inl (cI, 96, .inl kf)), (l5, .inl (cI, 6, .inl cf)), (bk, .inr (5, [.ref br, .int 0])), (pg, .inr (3, [.ref pc, .int 0])), (h0, .inr (6, [.ref pg, .ref bk, .ref fg, .ref og, .ref lg, .int 0, .int lsv, .int 0, .int 0, .int 0])), (fg, .inr (0, [.ref w1, .ref w2, .ref w3, .int 0, .int 0]))] := hD
      refine lv_nml (show _ = (31 * dO i + (-1003) : Int64) from by rw [show Int32.toInt64 (-1003) = -1003 from by decide +kernel]) ?_
      refine lv_aload_n hx hb dX6_digest_133 rfl (lv_at hl 0 rfl) ?_
      refine lv_iload_n hx hb dX6_digest_134 rfl (lv_at hl 2 rfl) ?_
      refine xc_i (wc := [(h0, .inr (6, [.ref pg, .ref bk, .ref fg, .ref og, .ref lg, .int 0, .int lsv, .int 0, .int 0, .int 0])), (lg, .inr (1, [.ref l1, .ref l2, .ref l3, .ref l4, .ref l5])), (l1, .inl (cJ, 96, .inr (.inl ff))), (l2, .inl (cI, 96, .inl gf)), (l3, .inl (cZ, 96, .inl zf)), (l4, .inl (cI, 96, .inl kf)), (l5, .inl (cI, 6, .inl cf)), (bk, .inr (5, [.ref br, .int 0]))]) (wr := [(pg, .inr (3, [.ref pc, .int 0])), (fg, .inr (0, [.ref w1, .ref w2, .ref w3, .int 0, .int 0]))]) (xrV (n := 1) (As := [.int (nI i)]) (rest := [.long (31 * dO i + (-1003))]) (ci := 6) (q0 := 8) hd hK hP hD (c_kinds_g l D cI cJ cZ cR _ h0 pg bk fg og lg br l1 l2 l3 l4 l5 i ff gf zf kf cf lsv (by omega) hL) (gV t_542 mV_X6_kinds) hV_X6_kinds ⟨(Nat.le_of_ble_eq_true rfl), (Nat.le_of_ble_eq_true rfl)⟩ rfl rfl [8, 0, 1, 2, 3, 4, 5, 6] rfl rfl rfl hl.1 rfl (Nat.le_of_ble_eq_true rfl) dX6_digest_135 ⟨(Nat.le_of_ble_eq_true rfl), (Nat.le_of_ble_eq_true rfl)⟩) hP hD hS hA [8, 0, 1, 2, 3, 4, 5, 6] [7, 9] rfl rfl rfl (by decide) (fun r_32 u_33 H locs hw_34 hP hD hS => ?_)
      obtain ⟨f2_35, g2_36, z2_37, k2_38, c2_39⟩ := u_33
      obtain ⟨hw_40, hw_41⟩ : (r_32 = 0) ∧ (Lz f2_35 g2_36) := hw_34
      subst hw_40
      have hLz := hw_41
      have hP : va_P D vwCl [(pg, .inr (3, [.ref pc, .int 0])), (fg, .inr (0, [.ref w1, .ref w2, .ref w3, .int 0, .int 0])), (h0, .inr (6, [.ref pg, .ref bk, .ref fg, .ref og, .ref lg, .int 0, .int 1, .int 0, .int 0, .int 0])), (lg, .inr (1, [.ref l1, .ref l2, .ref l3, .ref l4, .ref l5])), (l1, .inl (cJ, 96, .inr (.inl f2_35))), (l2, .inl (cI, 96, .inl g2_36)), (l3, .inl (cZ, 96, .inl z2_37)), (l4, .inl (cI, 96, .inl k2_38)), (l5, .inl (cI, 6, .inl c2_39)), (bk, .inr (5, [.ref br, .int 0]))] H := hP
      have hD : va_D A [(pg, .inr (3, [.ref pc, .int 0])), (fg, .inr (0, [.ref w1, .ref w2, .ref w3, .int 0, .int 0])), (h0, .inr (6, [.ref pg, .ref bk, .ref fg, .ref og, .ref lg, .int 0, .int 1, .int 0, .int 0, .int 0])), (lg, .inr (1, [.ref l1, .ref l2, .ref l3, .ref l4, .ref l5])), (l1, .inl (cJ, 96, .inr (.inl f2_35))), (l2, .inl (cI, 96, .inl g2_36)), (l3, .inl (cZ, 96, .inl z2_37)), (l4, .inl (cI, 96, .inl k2_38)), (l5, .inl (cI, 6, .inl c2_39)), (bk, .inr (5, [.ref br, .int 0]))] := hD
      refine xc_l (wc := []) (wr := [(pg, .inr (3, [.ref pc, .int 0])), (fg, .inr (0, [.ref w1, .ref w2, .ref w3, .int 0, .int 0])), (h0, .inr (6, [.ref pg, .ref bk, .ref fg, .ref og, .ref lg, .int 0, .int 1, .int 0, .int 0, .int 0])), (lg, .inr (1, [.ref l1, .ref l2, .ref l3, .ref l4, .ref l5])), (l1, .inl (cJ, 96, .inr (.inl f2_35))), (l2, .inl (cI, 96, .inl g2_36)), (l3, .inl (cZ, 96, .inl z2_37)), (l4, .inl (cI, 96, .inl k2_38)), (l5, .inl (cI, 6, .inl c2_39)), (bk, .inr (5, [.ref br, .int 0]))]) (xrS (n := 2) (As := [.long (31 * dO i + (-1003)), .int 0]) (rest := []) hd hK hP hD (c_X6_mix l D cI cJ cZ cR _ (31 * dO i + (-1003)) 0 ) (gS t_535 mS_X6_mix) hS_X6_mix ⟨(Nat.le_of_ble_eq_true rfl), (Nat.le_of_ble_eq_true rfl)⟩ [] rfl rfl rfl hl.1 rfl (Nat.le_of_ble_eq_true rfl) dX6_digest_138 ⟨(Nat.le_of_ble_eq_true rfl), (Nat.le_of_ble_eq_true rfl)⟩) hP hD hS hA [] [0, 1, 2, 3, 4, 5, 6, 7, 8, 9] rfl rfl rfl (by decide) (fun r_42 u_43 H locs hw_44 hP hD hS => ?_)
      have hw_45 : r_42 = (31 * (31 * dO i + (-1003)) + Int32.toInt64 0) := hw_44
      subst hw_45
      have hP : va_P D vwCl [(pg, .inr (3, [.ref pc, .int 0])), (fg, .inr (0, [.ref w1, .ref w2, .ref w3, .int 0, .int 0])), (h0, .inr (6, [.ref pg, .ref bk, .ref fg, .ref og, .ref lg, .int 0, .int 1, .int 0, .int 0, .int 0])), (lg, .inr (1, [.ref l1, .ref l2, .ref l3, .ref l4, .ref l5])), (l1, .inl (cJ, 96, .inr (.inl f2_35))), (l2, .inl (cI, 96, .inl g2_36)), (l3, .inl (cZ, 96, .inl z2_37)), (l4, .inl (cI, 96, .inl k2_38)), (l5, .inl (cI, 6, .inl c2_39)), (bk, .inr (5, [.ref br, .int 0]))] H := hP
      have hD : va_D A [(pg, .inr (3, [.ref pc, .int 0])), (fg, .inr (0, [.ref w1, .ref w2, .ref w3, .int 0, .int 0])), (h0, .inr (6, [.ref pg, .ref bk, .ref fg, .ref og, .ref lg, .int 0, .int 1, .int 0, .int 0, .int 0])), (lg, .inr (1, [.ref l1, .ref l2, .ref l3, .ref l4, .ref l5])), (l1, .inl (cJ, 96, .inr (.inl f2_35))), (l2, .inl (cI, 96, .inl g2_36)), (l3, .inl (cZ, 96, .inl z2_37)), (l4, .inl (cI, 96, .inl k2_38)), (l5, .inl (cI, 6, .inl c2_39)), (bk, .inr (5, [.ref br, .int 0]))] := hD
      refine lv_nml (show _ = (31 * (31 * dO i + (-1003)) + 0 : Int64) from by rw [show Int32.toInt64 (0) = 0 from by decide +kernel]) ?_
      refine lv_lstore_n (lv' := [(1, .long (31 * (31 * dO i + (-1003)) + 0)), (0, .ref h0), (3, .int (nI i))]) hx hb dX6_digest_141 rfl hl (by decide) rfl (fun ls hl => ?_)
      refine lv_iconst (v := 0) hx hb dX6_digest_142 (by decide) ?_
      refine lv_istore (lv' := [(4, .int 0), (1, .long (31 * (31 * dO i + (-1003)) + 0)), (0, .ref h0), (3, .int (nI i))]) hx hb dX6_digest_143 hl (by decide) rfl (fun ls hl => ?_)
      have LOOP_145 : ∀ (n : Nat) (j : Nat), (j + n = 16) → ∀ (H : Heap) (locs : List Loc) (ls : Array Slot), va_P D vwCl [(pg, .inr (3, [.ref pc, .int 0])), (fg, .inr (0, [.ref w1, .ref w2, .ref w3, .int 0, .int 0])), (h0, .inr (6, [.ref pg, .ref bk, .ref fg, .ref og, .ref lg, .int 0, .int 1, .int 0, .int 0, .int 0])), (lg, .inr (1, [.ref l1, .ref l2, .ref l3, .ref l4, .ref l5])), (l1, .inl (cJ, 96, .inr (.inl f2_35))), (l2, .inl (cI, 96, .inl g2_36)), (l3, .inl (cZ, 96, .inl z2_37)), (l4, .inl (cI, 96, .inl k2_38)), (l5, .inl (cI, 6, .inl c2_39)), (bk, .inr (5, [.ref br, .int 0]))] H → va_D A [(pg, .inr (3, [.ref pc, .int 0])), (fg, .inr (0, [.ref w1, .ref w2, .ref w3, .int 0, .int 0])), (h0, .inr (6, [.ref pg, .ref bk, .ref fg, .ref og, .ref lg, .int 0, .int 1, .int 0, .int 0, .int 0])), (lg, .inr (1, [.ref l1, .ref l2, .ref l3, .ref l4, .ref l5])), (l1, .inl (cJ, 96, .inr (.inl f2_35))), (l2, .inl (cI, 96, .inl g2_36)), (l3, .inl (cZ, 96, .inl z2_37)), (l4, .inl (cI, 96, .inl k2_38)), (l5, .inl (cI, 6, .inl c2_39)), (bk, .inr (5, [.ref br, .int 0]))] → va_S A s.heap H locs → lv_has ls 5 [(0, .ref h0), (1, .long (dk (31 * (31 * dO i + (-1003)) + 0) j)), (3, .int (nI i)), (4, .int (nI j))] → W p l e (rM 5 0 0 112) s m ([.ref h0] : List Value).toArray below meth c H locs 0 0 Q (F0 m 145 ls []) := by
        intro n
        induction n with
        | zero =>
          intro j hj H locs ls hP hD hS hl
          refine lv_iload hx hb dX6_digest_145 (lv_at hl 3 rfl) ?_
          refine lv_bipush (v := 16) hx hb dX6_digest_147 (by decide) ?_
          refine lv_icmp_ge (tgt := 182) hx hb dX6_digest_149 (by decide) (fun c_46 => ?_) (fun c_46 => ?_)
          rotate_left
          · exact absurd (nI_le (a := 16) (b := j) (by omega) (by omega)) c_46
          refine lv_iinc (v := nI (i + 1)) (lv' := [(3, .int (nI (i + 1))), (0, .ref h0), (1, .long (dk (31 * (31 * dO i + (-1003)) + 0) j)), (4, .int (nI j))]) hx hb dX6_digest_182 hl (k := 2) rfl (nI_1 i) (by decide) rfl (fun ls hl => ?_)
          refine lv_goto (tgt := 119) hx hb dX6_digest_185 (by decide) ?_
          exact ih_119 (i + 1) 1 f2_35 g2_36 z2_37 k2_38 c2_39 (by omega) (Or.inr ⟨rfl, hLz⟩) _ _ _ (hP.sub [2, 3, 4, 5, 6, 7, 8, 9, 0, 1] rfl) (hD.sub [2, 3, 4, 5, 6, 7, 8, 9, 0, 1] rfl rfl) hS (lv_sub hl [1, 2, 0] (by rw [show j = 16 by omega]; rfl))
        | succ n ih_145 =>
          intro j hj H locs ls hP hD hS hl
          refine lv_iload hx hb dX6_digest_145 (lv_at hl 3 rfl) ?_
          refine lv_bipush (v := 16) hx hb dX6_digest_147 (by decide) ?_
          refine lv_icmp_ge (tgt := 182) hx hb dX6_digest_149 (by decide) (fun c_47 => ?_) (fun c_47 => ?_)
          · exact absurd c_47 (nI_ge (a := j) (b := 16) (by omega) (by omega))
          refine lv_lload_n hx hb dX6_digest_152 rfl (lv_at hl 1 rfl) ?_
          refine lv_aload_n hx hb dX6_digest_153 rfl (lv_at hl 0 rfl) ?_
          refine lv_iload_n hx hb dX6_digest_154 rfl (lv_at hl 2 rfl) ?_
          refine lv_iload hx hb dX6_digest_155 (lv_at hl 3 rfl) ?_
          refine lv_iconst (v := 0) hx hb dX6_digest_157 (by decide) ?_
          refine xc_i (wc := [(h0, .inr (6, [.ref pg, .ref bk, .ref fg, .ref og, .ref lg, .int 0, .int 1, .int 0, .int 0, .int 0])), (lg, .inr (1, [.ref l1, .ref l2, .ref l3, .ref l4, .ref l5])), (l1, .inl (cJ, 96, .inr (.inl f2_35))), (l2, .inl (cI, 96, .inl g2_36)), (l3, .inl (cZ, 96, .inl z2_37)), (l4, .inl (cI, 96, .inl k2_38)), (l5, .inl (cI, 6, .inl c2_39)), (bk, .inr (5, [.ref br, .int 0]))]) (wr := [(pg, .inr (3, [.ref pc, .int 0])), (fg, .inr (0, [.ref w1, .ref w2, .ref w3, .int 0, .int 0]))]) (xrV (n := 3) (As := [.int (nI i), .int (nI j), .int 0]) (rest := [.long (dk (31 * (31 * dO i + (-1003)) + 0) j)]) (ci := 6) (q0 := 2) hd hK hP hD (c_light_10 l D cI cJ cZ cR _ h0 pg bk fg og lg br l1 l2 l3 l4 l5 i j f2_35 g2_36 z2_37 k2_38 c2_39 (by omega) (by omega) hLz) (gV t_543 mV_X6_light) hV_X6_light ⟨(Nat.le_of_ble_eq_true rfl), (Nat.le_of_ble_eq_true rfl)⟩ rfl rfl [2, 3, 4, 5, 6, 7, 8, 9] rfl rfl rfl hl.1 rfl (Nat.le_of_ble_eq_true rfl) dX6_digest_158 ⟨(Nat.le_of_ble_eq_true rfl), (Nat.le_of_ble_eq_true rfl)⟩) hP hD hS hA [2, 3, 4, 5, 6, 7, 8, 9] [0, 1] rfl rfl rfl (by decide) (fun r_48 u_49 H locs hw_50 hP hD hS => ?_)
          have hw_51 : r_48 = (-1) := hw_50
          subst hw_51
          have hP : va_P D vwCl [(pg, .inr (3, [.ref pc, .int 0])), (fg, .inr (0, [.ref w1, .ref w2, .ref w3, .int 0, .int 0])), (h0, .inr (6, [.ref pg, .ref bk, .ref fg, .ref og, .ref lg, .int 0, .int 1, .int 0, .int 0, .int 0])), (lg, .inr (1, [.ref l1, .ref l2, .ref l3, .ref l4, .ref l5])), (l1, .inl (cJ, 96, .inr (.inl f2_35))), (l2, .inl (cI, 96, .inl g2_36)), (l3, .inl (cZ, 96, .inl z2_37)), (l4, .inl (cI, 96, .inl k2_38)), (l5, .inl (cI, 6, .inl c2_39)), (bk, .inr (5, [.ref br, .int 0]))] H := hP
          have hD : va_D A [(pg, .inr (3, [.ref pc, .int 0])), (fg, .inr (0, [.ref w1, .ref w2, .ref w3, .int 0, .int 0])), (h0, .inr (6, [.ref pg, .ref bk, .ref fg, .ref og, .ref lg, .int 0, .int 1, .int 0, .int 0, .int 0])), (lg, .inr (1, [.ref l1, .ref l2, .ref l3, .ref l4, .ref l5])), (l1, .inl (cJ, 96, .inr (.inl f2_35))), (l2, .inl (cI, 96, .inl g2_36)), (l3, .inl (cZ, 96, .inl z2_37)), (l4, .inl (cI, 96, .inl k2_38)), (l5, .inl (cI, 6, .inl c2_39)), (bk, .inr (5, [.ref br, .int 0]))] := hD
          refine xc_l (wc := []) (wr := [(pg, .inr (3, [.ref pc, .int 0])), (fg, .inr (0, [.ref w1, .ref w2, .ref w3, .int 0, .int 0])), (h0, .inr (6, [.ref pg, .ref bk, .ref fg, .ref og, .ref lg, .int 0, .int 1, .int 0, .int 0, .int 0])), (lg, .inr (1, [.ref l1, .ref l2, .ref l3, .ref l4, .ref l5])), (l1, .inl (cJ, 96, .inr (.inl f2_35))), (l2, .inl (cI, 96, .inl g2_36)), (l3, .inl (cZ, 96, .inl z2_37)), (l4, .inl (cI, 96, .inl k2_38)), (l5, .inl (cI, 6, .inl c2_39)), (bk, .inr (5, [.ref br, .int 0]))]) (xrS (n := 2) (As := [.long (dk (31 * (31 * dO i + (-1003)) + 0) j), .int (-1)]) (rest := []) hd hK hP hD (c_X6_mix l D cI cJ cZ cR _ (dk (31 * (31 * dO i + (-1003)) + 0) j) (-1) ) (gS t_535 mS_X6_mix) hS_X6_mix ⟨(Nat.le_of_ble_eq_true rfl), (Nat.le_of_ble_eq_true rfl)⟩ [] rfl rfl rfl hl.1 rfl (Nat.le_of_ble_eq_true rfl) dX6_digest_161 ⟨(Nat.le_of_ble_eq_true rfl), (Nat.le_of_ble_eq_true rfl)⟩) hP hD hS hA [] [0, 1, 2, 3, 4, 5, 6, 7, 8, 9] rfl rfl rfl (by decide) (fun r_52 u_53 H locs hw_54 hP hD hS => ?_)
          have hw_55 : r_52 = (31 * (dk (31 * (31 * dO i + (-1003)) + 0) j) + Int32.toInt64 (-1)) := hw_54
          subst hw_55
          have hP : va_P D vwCl [(pg, .inr (3, [.ref pc, .int 0])), (fg, .inr (0, [.ref w1, .ref w2, .ref w3, .int 0, .int 0])), (h0, .inr (6, [.ref pg, .ref bk, .ref fg, .ref og, .ref lg, .int 0, .int 1, .int 0, .int 0, .int 0])), (lg, .inr (1, [.ref l1, .ref l2, .ref l3, .ref l4, .ref l5])), (l1, .inl (cJ, 96, .inr (.inl f2_35))), (l2, .inl (cI, 96, .inl g2_36)), (l3, .inl (cZ, 96, .inl z2_37)), (l4, .inl (cI, 96, .inl k2_38)), (l5, .inl (cI, 6, .inl c2_39)), (bk, .inr (5, [.ref br, .int 0]))] H := hP
          have hD : va_D A [(pg, .inr (3, [.ref pc, .int 0])), (fg, .inr (0, [.ref w1, .ref w2, .ref w3, .int 0, .int 0])), (h0, .inr (6, [.ref pg, .ref bk, .ref fg, .ref og, .ref lg, .int 0, .int 1, .int 0, .int 0, .int 0])), (lg, .inr (1, [.ref l1, .ref l2, .ref l3, .ref l4, .ref l5])), (l1, .inl (cJ, 96, .inr (.inl f2_35))), (l2, .inl (cI, 96, .inl g2_36)), (l3, .inl (cZ, 96, .inl z2_37)), (l4, .inl (cI, 96, .inl k2_38)), (l5, .inl (cI, 6, .inl c2_39)), (bk, .inr (5, [.ref br, .int 0]))] := hD
          refine lv_nml (show _ = (31 * dk (31 * (31 * dO i + (-1003)) + 0) j + (-1) : Int64) from by rw [show Int32.toInt64 (-1) = -1 from by decide +kernel]) ?_
          refine lv_aload_n hx hb dX6_digest_164 rfl (lv_at hl 0 rfl) ?_
          refine lv_iload_n hx hb dX6_digest_165 rfl (lv_at hl 2 rfl) ?_
          refine lv_iload hx hb dX6_digest_166 (lv_at hl 3 rfl) ?_
          refine lv_iconst (v := 1) hx hb dX6_digest_168 (by decide) ?_
          refine xc_i (wc := [(h0, .inr (6, [.ref pg, .ref bk, .ref fg, .ref og, .ref lg, .int 0, .int 1, .int 0, .int 0, .int 0])), (lg, .inr (1, [.ref l1, .ref l2, .ref l3, .ref l4, .ref l5])), (l1, .inl (cJ, 96, .inr (.inl f2_35))), (l2, .inl (cI, 96, .inl g2_36)), (l3, .inl (cZ, 96, .inl z2_37)), (l4, .inl (cI, 96, .inl k2_38)), (l5, .inl (cI, 6, .inl c2_39)), (bk, .inr (5, [.ref br, .int 0]))]) (wr := [(pg, .inr (3, [.ref pc, .int 0])), (fg, .inr (0, [.ref w1, .ref w2, .ref w3, .int 0, .int 0]))]) (xrV (n := 3) (As := [.int (nI i), .int (nI j), .int 1]) (rest := [.long (31 * dk (31 * (31 * dO i + (-1003)) + 0) j + (-1))]) (ci := 6) (q0 := 2) hd hK hP hD (c_light_11 l D cI cJ cZ cR _ h0 pg bk fg og lg br l1 l2 l3 l4 l5 i j f2_35 g2_36 z2_37 k2_38 c2_39 (by omega) (by omega) hLz) (gV t_543 mV_X6_light) hV_X6_light ⟨(Nat.le_of_ble_eq_true rfl), (Nat.le_of_ble_eq_true rfl)⟩ rfl rfl [2, 3, 4, 5, 6, 7, 8, 9] rfl rfl rfl hl.1 rfl (Nat.le_of_ble_eq_true rfl) dX6_digest_169 ⟨(Nat.le_of_ble_eq_true rfl), (Nat.le_of_ble_eq_true rfl)⟩) hP hD hS hA [2, 3, 4, 5, 6, 7, 8, 9] [0, 1] rfl rfl rfl (by decide) (fun r_56 u_57 H locs hw_58 hP hD hS => ?_)
          have hw_59 : r_56 = (-1) := hw_58
          subst hw_59
          have hP : va_P D vwCl [(pg, .inr (3, [.ref pc, .int 0])), (fg, .inr (0, [.ref w1, .ref w2, .ref w3, .int 0, .int 0])), (h0, .inr (6, [.ref pg, .ref bk, .ref fg, .ref og, .ref lg, .int 0, .int 1, .int 0, .int 0, .int 0])), (lg, .inr (1, [.ref l1, .ref l2, .ref l3, .ref l4, .ref l5])), (l1, .inl (cJ, 96, .inr (.inl f2_35))), (l2, .inl (cI, 96, .inl g2_36)), (l3, .inl (cZ, 96, .inl z2_37)), (l4, .inl (cI, 96, .inl k2_38)), (l5, .inl (cI, 6, .inl c2_39)), (bk, .inr (5, [.ref br, .int 0]))] H := hP
          have hD : va_D A [(pg, .inr (3, [.ref pc, .int 0])), (fg, .inr (0, [.ref w1, .ref w2, .ref w3, .int 0, .int 0])), (h0, .inr (6, [.ref pg, .ref bk, .ref fg, .ref og, .ref lg, .int 0, .int 1, .int 0, .int 0, .int 0])), (lg, .inr (1, [.ref l1, .ref l2, .ref l3, .ref l4, .ref l5])), (l1, .inl (cJ, 96, .inr (.inl f2_35))), (l2, .inl (cI, 96, .inl g2_36)), (l3, .inl (cZ, 96, .inl z2_37)), (l4, .inl (cI, 96, .inl k2_38)), (l5, .inl (cI, 6, .inl c2_39)), (bk, .inr (5, [.ref br, .int 0]))] := hD
          refine xc_l (wc := []) (wr := [(pg, .inr (3, [.ref pc, .int 0])), (fg, .inr (0, [.ref w1, .ref w2, .ref w3, .int 0, .int 0])), (h0, .inr (6, [.ref pg, .ref bk, .ref fg, .ref og, .ref lg, .int 0, .int 1, .int 0, .int 0, .int 0])), (lg, .inr (1, [.ref l1, .ref l2, .ref l3, .ref l4, .ref l5])), (l1, .inl (cJ, 96, .inr (.inl f2_35))), (l2, .inl (cI, 96, .inl g2_36)), (l3, .inl (cZ, 96, .inl z2_37)), (l4, .inl (cI, 96, .inl k2_38)), (l5, .inl (cI, 6, .inl c2_39)), (bk, .inr (5, [.ref br, .int 0]))]) (xrS (n := 2) (As := [.long (31 * dk (31 * (31 * dO i + (-1003)) + 0) j + (-1)), .int (-1)]) (rest := []) hd hK hP hD (c_X6_mix l D cI cJ cZ cR _ (31 * dk (31 * (31 * dO i + (-1003)) + 0) j + (-1)) (-1) ) (gS t_535 mS_X6_mix) hS_X6_mix ⟨(Nat.le_of_ble_eq_true rfl), (Nat.le_of_ble_eq_true rfl)⟩ [] rfl rfl rfl hl.1 rfl (Nat.le_of_ble_eq_true rfl) dX6_digest_172 ⟨(Nat.le_of_ble_eq_true rfl), (Nat.le_of_ble_eq_true rfl)⟩) hP hD hS hA [] [0, 1, 2, 3, 4, 5, 6, 7, 8, 9] rfl rfl rfl (by decide) (fun r_60 u_61 H locs hw_62 hP hD hS => ?_)
          have hw_63 : r_60 = (31 * (31 * dk (31 * (31 * dO i + (-1003)) + 0) j + (-1)) + Int32.toInt64 (-1)) := hw_62
          subst hw_63
          have hP : va_P D vwCl [(pg, .inr (3, [.ref pc, .int 0])), (fg, .inr (0, [.ref w1, .ref w2, .ref w3, .int 0, .int 0])), (h0, .inr (6, [.ref pg, .ref bk, .ref fg, .ref og, .ref lg, .int 0, .int 1, .int 0, .int 0, .int 0])), (lg, .inr (1, [.ref l1, .ref l2, .ref l3, .ref l4, .ref l5])), (l1, .inl (cJ, 96, .inr (.inl f2_35))), (l2, .inl (cI, 96, .inl g2_36)), (l3, .inl (cZ, 96, .inl z2_37)), (l4, .inl (cI, 96, .inl k2_38)), (l5, .inl (cI, 6, .inl c2_39)), (bk, .inr (5, [.ref br, .int 0]))] H := hP
          have hD : va_D A [(pg, .inr (3, [.ref pc, .int 0])), (fg, .inr (0, [.ref w1, .ref w2, .ref w3, .int 0, .int 0])), (h0, .inr (6, [.ref pg, .ref bk, .ref fg, .ref og, .ref lg, .int 0, .int 1, .int 0, .int 0, .int 0])), (lg, .inr (1, [.ref l1, .ref l2, .ref l3, .ref l4, .ref l5])), (l1, .inl (cJ, 96, .inr (.inl f2_35))), (l2, .inl (cI, 96, .inl g2_36)), (l3, .inl (cZ, 96, .inl z2_37)), (l4, .inl (cI, 96, .inl k2_38)), (l5, .inl (cI, 6, .inl c2_39)), (bk, .inr (5, [.ref br, .int 0]))] := hD
          refine lv_nml (show _ = (31 * (31 * dk (31 * (31 * dO i + (-1003)) + 0) j + (-1)) + (-1) : Int64) from by rw [show Int32.toInt64 (-1) = -1 from by decide +kernel]) ?_
          refine lv_lstore_n (lv' := [(1, .long (31 * (31 * dk (31 * (31 * dO i + (-1003)) + 0) j + (-1)) + (-1))), (0, .ref h0), (3, .int (nI i)), (4, .int (nI j))]) hx hb dX6_digest_175 rfl hl (by decide) rfl (fun ls hl => ?_)
          refine lv_iinc (v := nI (j + 1)) (lv' := [(4, .int (nI (j + 1))), (1, .long (31 * (31 * dk (31 * (31 * dO i + (-1003)) + 0) j + (-1)) + (-1))), (0, .ref h0), (3, .int (nI i))]) hx hb dX6_digest_176 hl (k := 3) rfl (nI_1 j) (by decide) rfl (fun ls hl => ?_)
          refine lv_goto (tgt := 145) hx hb dX6_digest_179 (by decide) ?_
          exact ih_145 (j + 1) (by omega) _ _ _ (hP.sub [0, 1, 2, 3, 4, 5, 6, 7, 8, 9] rfl) (hD.sub [0, 1, 2, 3, 4, 5, 6, 7, 8, 9] rfl rfl) hS (lv_sub hl [2, 1, 3, 0] rfl)
      exact LOOP_145 16 0 (by omega) _ _ _ (hP.sub [0, 1, 2, 3, 4, 5, 6, 7, 8, 9] rfl) (hD.sub [0, 1, 2, 3, 4, 5, 6, 7, 8, 9] rfl rfl) hS (lv_sub hl [2, 1, 3, 0] rfl)
  exact LOOP_119 3 0 0 ff gf zf kf cf (by omega) (Or.inl rfl) _ _ _ (hP.sub [8, 0, 1, 2, 3, 4, 5, 6, 7, 9] rfl) (hD.sub [8, 0, 1, 2, 3, 4, 5, 6, 7, 9] rfl rfl) hS (lv_sub hl [2, 1, 0] rfl)
end
end
